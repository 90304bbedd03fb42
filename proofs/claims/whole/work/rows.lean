section
-- ===== PART A: goes FIRST, ahead of the names: the tables' words, and 'selects' of the private methods out of them =====
/-- a private method of a class that the tables say can be made, by its rows of tables_1 -/
def lw_okq (q : MethodName × Nat) : Prop := (q.1.cls ≠ "java/lang/invoke/MethodHandle" ∧ q.1.cls ≠ "java/lang/invoke/VarHandle") ∧ Cond.instantiable q.1.cls q.2 ∈ tables_1 ∧ Cond.privateMethod q.1 ∈ tables_1 ∧ Cond.instanceMethod q.1 ∈ tables_1
theorem lw_p0 : lw_okq (⟨"TollsThatPay$Reader", "readItem", "(LTollsThatPay$Land;)V"⟩, 5) := ⟨⟨by decide +kernel, by decide +kernel⟩, List.mem_of_getElem? (i := 30) (by decide +kernel), List.mem_of_getElem? (i := 483) (by decide +kernel), List.mem_of_getElem? (i := 484) (by decide +kernel)⟩
theorem lw_p1 : lw_okq (⟨"TollsThatPay$Reader", "eat", "(I)Z"⟩, 5) := ⟨⟨by decide +kernel, by decide +kernel⟩, List.mem_of_getElem? (i := 30) (by decide +kernel), List.mem_of_getElem? (i := 487) (by decide +kernel), List.mem_of_getElem? (i := 488) (by decide +kernel)⟩
theorem lw_p2 : lw_okq (⟨"TollsThatPay$Reader", "next", "()I"⟩, 5) := ⟨⟨by decide +kernel, by decide +kernel⟩, List.mem_of_getElem? (i := 30) (by decide +kernel), List.mem_of_getElem? (i := 491) (by decide +kernel), List.mem_of_getElem? (i := 492) (by decide +kernel)⟩
theorem lw_p3 : lw_okq (⟨"TollsThatPay$Reader", "readRoad", "(LTollsThatPay$Land;I)V"⟩, 5) := ⟨⟨by decide +kernel, by decide +kernel⟩, List.mem_of_getElem? (i := 30) (by decide +kernel), List.mem_of_getElem? (i := 495) (by decide +kernel), List.mem_of_getElem? (i := 496) (by decide +kernel)⟩
theorem lw_p4 : lw_okq (⟨"TollsThatPay$Reader", "corner", "(I)I"⟩, 5) := ⟨⟨by decide +kernel, by decide +kernel⟩, List.mem_of_getElem? (i := 30) (by decide +kernel), List.mem_of_getElem? (i := 499) (by decide +kernel), List.mem_of_getElem? (i := 500) (by decide +kernel)⟩
theorem lw_p5 : lw_okq (⟨"TollsThatPay$Reader", "numeral", "(II)I"⟩, 5) := ⟨⟨by decide +kernel, by decide +kernel⟩, List.mem_of_getElem? (i := 30) (by decide +kernel), List.mem_of_getElem? (i := 503) (by decide +kernel), List.mem_of_getElem? (i := 504) (by decide +kernel)⟩
theorem lw_p6 : lw_okq (⟨"TollsThatPay$Reader", "digit", "(II)I"⟩, 5) := ⟨⟨by decide +kernel, by decide +kernel⟩, List.mem_of_getElem? (i := 30) (by decide +kernel), List.mem_of_getElem? (i := 507) (by decide +kernel), List.mem_of_getElem? (i := 508) (by decide +kernel)⟩
theorem lw_p7 : lw_okq (⟨"TollsThatPay$Reader", "readJourney", "(LTollsThatPay$Land;)V"⟩, 5) := ⟨⟨by decide +kernel, by decide +kernel⟩, List.mem_of_getElem? (i := 30) (by decide +kernel), List.mem_of_getElem? (i := 515) (by decide +kernel), List.mem_of_getElem? (i := 516) (by decide +kernel)⟩
theorem lw_p8 : lw_okq (⟨"TollsThatPay$Reader", "want", "(I)V"⟩, 5) := ⟨⟨by decide +kernel, by decide +kernel⟩, List.mem_of_getElem? (i := 30) (by decide +kernel), List.mem_of_getElem? (i := 519) (by decide +kernel), List.mem_of_getElem? (i := 520) (by decide +kernel)⟩
theorem lw_p9 : lw_okq (⟨"TollsThatPay$Goers", "enter", "(I)V"⟩, 13) := ⟨⟨by decide +kernel, by decide +kernel⟩, List.mem_of_getElem? (i := 188) (by decide +kernel), List.mem_of_getElem? (i := 553) (by decide +kernel), List.mem_of_getElem? (i := 554) (by decide +kernel)⟩
theorem lw_p10 : lw_okq (⟨"TollsThatPay$Goers", "arrive", "(LTollsThatPay$Trip;I)V"⟩, 13) := ⟨⟨by decide +kernel, by decide +kernel⟩, List.mem_of_getElem? (i := 188) (by decide +kernel), List.mem_of_getElem? (i := 593) (by decide +kernel), List.mem_of_getElem? (i := 594) (by decide +kernel)⟩
theorem lw_p11 : lw_okq (⟨"TollsThatPay$Goers", "offer", "(IIII)V"⟩, 13) := ⟨⟨by decide +kernel, by decide +kernel⟩, List.mem_of_getElem? (i := 188) (by decide +kernel), List.mem_of_getElem? (i := 597) (by decide +kernel), List.mem_of_getElem? (i := 598) (by decide +kernel)⟩
theorem lw_p12 : lw_okq (⟨"TollsThatPay$Goers", "settle", "(III)V"⟩, 13) := ⟨⟨by decide +kernel, by decide +kernel⟩, List.mem_of_getElem? (i := 188) (by decide +kernel), List.mem_of_getElem? (i := 650) (by decide +kernel), List.mem_of_getElem? (i := 651) (by decide +kernel)⟩
theorem lw_p13 : lw_okq (⟨"TollsThatPay$Goers", "isBeaten", "(III)Z"⟩, 13) := ⟨⟨by decide +kernel, by decide +kernel⟩, List.mem_of_getElem? (i := 188) (by decide +kernel), List.mem_of_getElem? (i := 654) (by decide +kernel), List.mem_of_getElem? (i := 655) (by decide +kernel)⟩
theorem lw_p14 : lw_okq (⟨"TollsThatPay$Goers", "insert", "(II)V"⟩, 13) := ⟨⟨by decide +kernel, by decide +kernel⟩, List.mem_of_getElem? (i := 188) (by decide +kernel), List.mem_of_getElem? (i := 664) (by decide +kernel), List.mem_of_getElem? (i := 665) (by decide +kernel)⟩
theorem lw_p15 : lw_okq (⟨"TollsThatPay", "openNow", "()V"⟩, 10) := ⟨⟨by decide +kernel, by decide +kernel⟩, List.mem_of_getElem? (i := 22) (by decide +kernel), List.mem_of_getElem? (i := 686) (by decide +kernel), List.mem_of_getElem? (i := 687) (by decide +kernel)⟩
def lw_privs_1 : List (MethodName × Nat) := [(⟨"TollsThatPay$Reader", "readItem", "(LTollsThatPay$Land;)V"⟩, 5), (⟨"TollsThatPay$Reader", "eat", "(I)Z"⟩, 5), (⟨"TollsThatPay$Reader", "next", "()I"⟩, 5), (⟨"TollsThatPay$Reader", "readRoad", "(LTollsThatPay$Land;I)V"⟩, 5), (⟨"TollsThatPay$Reader", "corner", "(I)I"⟩, 5), (⟨"TollsThatPay$Reader", "numeral", "(II)I"⟩, 5), (⟨"TollsThatPay$Reader", "digit", "(II)I"⟩, 5), (⟨"TollsThatPay$Reader", "readJourney", "(LTollsThatPay$Land;)V"⟩, 5), (⟨"TollsThatPay$Reader", "want", "(I)V"⟩, 5), (⟨"TollsThatPay$Goers", "enter", "(I)V"⟩, 13), (⟨"TollsThatPay$Goers", "arrive", "(LTollsThatPay$Trip;I)V"⟩, 13), (⟨"TollsThatPay$Goers", "offer", "(IIII)V"⟩, 13), (⟨"TollsThatPay$Goers", "settle", "(III)V"⟩, 13), (⟨"TollsThatPay$Goers", "isBeaten", "(III)Z"⟩, 13), (⟨"TollsThatPay$Goers", "insert", "(II)V"⟩, 13), (⟨"TollsThatPay", "openNow", "()V"⟩, 10)]
theorem lw_r1 : ∀ q ∈ lw_privs_1, lw_okq q := List.forall_mem_cons.mpr ⟨lw_p0, List.forall_mem_cons.mpr ⟨lw_p1, List.forall_mem_cons.mpr ⟨lw_p2, List.forall_mem_cons.mpr ⟨lw_p3, List.forall_mem_cons.mpr ⟨lw_p4, List.forall_mem_cons.mpr ⟨lw_p5, List.forall_mem_cons.mpr ⟨lw_p6, List.forall_mem_cons.mpr ⟨lw_p7, List.forall_mem_cons.mpr ⟨lw_p8, List.forall_mem_cons.mpr ⟨lw_p9, List.forall_mem_cons.mpr ⟨lw_p10, List.forall_mem_cons.mpr ⟨lw_p11, List.forall_mem_cons.mpr ⟨lw_p12, List.forall_mem_cons.mpr ⟨lw_p13, List.forall_mem_cons.mpr ⟨lw_p14, List.forall_mem_cons.mpr ⟨lw_p15, fun _ h => absurd h List.not_mem_nil⟩⟩⟩⟩⟩⟩⟩⟩⟩⟩⟩⟩⟩⟩⟩⟩
theorem lw_p16 : lw_okq (⟨"TollsThatPay$Sets", "reckon", "(I)V"⟩, 7) := ⟨⟨by decide +kernel, by decide +kernel⟩, List.mem_of_getElem? (i := 288) (by decide +kernel), List.mem_of_getElem? (i := 710) (by decide +kernel), List.mem_of_getElem? (i := 711) (by decide +kernel)⟩
theorem lw_p17 : lw_okq (⟨"TollsThatPay", "canSeek", "(I)Z"⟩, 10) := ⟨⟨by decide +kernel, by decide +kernel⟩, List.mem_of_getElem? (i := 22) (by decide +kernel), List.mem_of_getElem? (i := 824) (by decide +kernel), List.mem_of_getElem? (i := 825) (by decide +kernel)⟩
theorem lw_p18 : lw_okq (⟨"TollsThatPay", "tellFound", "(I)V"⟩, 10) := ⟨⟨by decide +kernel, by decide +kernel⟩, List.mem_of_getElem? (i := 22) (by decide +kernel), List.mem_of_getElem? (i := 853) (by decide +kernel), List.mem_of_getElem? (i := 854) (by decide +kernel)⟩
theorem lw_p19 : lw_okq (⟨"TollsThatPay", "tellTolls", "([II)V"⟩, 10) := ⟨⟨by decide +kernel, by decide +kernel⟩, List.mem_of_getElem? (i := 22) (by decide +kernel), List.mem_of_getElem? (i := 858) (by decide +kernel), List.mem_of_getElem? (i := 859) (by decide +kernel)⟩
theorem lw_p20 : lw_okq (⟨"TollsThatPay$Study", "takeIfAsNow", "(I)I"⟩, 11) := ⟨⟨by decide +kernel, by decide +kernel⟩, List.mem_of_getElem? (i := 345) (by decide +kernel), List.mem_of_getElem? (i := 897) (by decide +kernel), List.mem_of_getElem? (i := 898) (by decide +kernel)⟩
theorem lw_p21 : lw_okq (⟨"TollsThatPay$Study", "ownerSide", "(I)I"⟩, 11) := ⟨⟨by decide +kernel, by decide +kernel⟩, List.mem_of_getElem? (i := 345) (by decide +kernel), List.mem_of_getElem? (i := 919) (by decide +kernel), List.mem_of_getElem? (i := 920) (by decide +kernel)⟩
theorem lw_p22 : lw_okq (⟨"TollsThatPay$Study", "lineFrom", "([III)I"⟩, 11) := ⟨⟨by decide +kernel, by decide +kernel⟩, List.mem_of_getElem? (i := 345) (by decide +kernel), List.mem_of_getElem? (i := 923) (by decide +kernel), List.mem_of_getElem? (i := 924) (by decide +kernel)⟩
theorem lw_p23 : lw_okq (⟨"TollsThatPay$Study", "lift", "(II)Z"⟩, 11) := ⟨⟨by decide +kernel, by decide +kernel⟩, List.mem_of_getElem? (i := 345) (by decide +kernel), List.mem_of_getElem? (i := 945) (by decide +kernel), List.mem_of_getElem? (i := 946) (by decide +kernel)⟩
theorem lw_p24 : lw_okq (⟨"TollsThatPay$Duel", "packed", "()I"⟩, 4) := ⟨⟨by decide +kernel, by decide +kernel⟩, List.mem_of_getElem? (i := 389) (by decide +kernel), List.mem_of_getElem? (i := 980) (by decide +kernel), List.mem_of_getElem? (i := 981) (by decide +kernel)⟩
theorem lw_p25 : lw_okq (⟨"TollsThatPay$Duel", "wasBehind", "(I)Z"⟩, 4) := ⟨⟨by decide +kernel, by decide +kernel⟩, List.mem_of_getElem? (i := 389) (by decide +kernel), List.mem_of_getElem? (i := 986) (by decide +kernel), List.mem_of_getElem? (i := 987) (by decide +kernel)⟩
theorem lw_p26 : lw_okq (⟨"TollsThatPay$Duel", "raise", "(II)V"⟩, 4) := ⟨⟨by decide +kernel, by decide +kernel⟩, List.mem_of_getElem? (i := 389) (by decide +kernel), List.mem_of_getElem? (i := 1015) (by decide +kernel), List.mem_of_getElem? (i := 1016) (by decide +kernel)⟩
theorem lw_p27 : lw_okq (⟨"TollsThatPay$Duel", "topAt", "(I)I"⟩, 4) := ⟨⟨by decide +kernel, by decide +kernel⟩, List.mem_of_getElem? (i := 389) (by decide +kernel), List.mem_of_getElem? (i := 1021) (by decide +kernel), List.mem_of_getElem? (i := 1022) (by decide +kernel)⟩
theorem lw_p28 : lw_okq (⟨"TollsThatPay$Study", "huntWithFree", "(II)I"⟩, 11) := ⟨⟨by decide +kernel, by decide +kernel⟩, List.mem_of_getElem? (i := 345) (by decide +kernel), List.mem_of_getElem? (i := 1034) (by decide +kernel), List.mem_of_getElem? (i := 1035) (by decide +kernel)⟩
theorem lw_p29 : lw_okq (⟨"TollsThatPay", "isAnyWeight", "()Z"⟩, 10) := ⟨⟨by decide +kernel, by decide +kernel⟩, List.mem_of_getElem? (i := 22) (by decide +kernel), List.mem_of_getElem? (i := 1096) (by decide +kernel), List.mem_of_getElem? (i := 1097) (by decide +kernel)⟩
theorem lw_p30 : lw_okq (⟨"TollsThatPay$Study", "leastTake", "(I[I)I"⟩, 11) := ⟨⟨by decide +kernel, by decide +kernel⟩, List.mem_of_getElem? (i := 345) (by decide +kernel), List.mem_of_getElem? (i := 1104) (by decide +kernel), List.mem_of_getElem? (i := 1105) (by decide +kernel)⟩
theorem lw_p31 : lw_okq (⟨"TollsThatPay$Study", "clearWorlds", "()I"⟩, 11) := ⟨⟨by decide +kernel, by decide +kernel⟩, List.mem_of_getElem? (i := 345) (by decide +kernel), List.mem_of_getElem? (i := 1108) (by decide +kernel), List.mem_of_getElem? (i := 1109) (by decide +kernel)⟩
def lw_privs_2 : List (MethodName × Nat) := [(⟨"TollsThatPay$Sets", "reckon", "(I)V"⟩, 7), (⟨"TollsThatPay", "canSeek", "(I)Z"⟩, 10), (⟨"TollsThatPay", "tellFound", "(I)V"⟩, 10), (⟨"TollsThatPay", "tellTolls", "([II)V"⟩, 10), (⟨"TollsThatPay$Study", "takeIfAsNow", "(I)I"⟩, 11), (⟨"TollsThatPay$Study", "ownerSide", "(I)I"⟩, 11), (⟨"TollsThatPay$Study", "lineFrom", "([III)I"⟩, 11), (⟨"TollsThatPay$Study", "lift", "(II)Z"⟩, 11), (⟨"TollsThatPay$Duel", "packed", "()I"⟩, 4), (⟨"TollsThatPay$Duel", "wasBehind", "(I)Z"⟩, 4), (⟨"TollsThatPay$Duel", "raise", "(II)V"⟩, 4), (⟨"TollsThatPay$Duel", "topAt", "(I)I"⟩, 4), (⟨"TollsThatPay$Study", "huntWithFree", "(II)I"⟩, 11), (⟨"TollsThatPay", "isAnyWeight", "()Z"⟩, 10), (⟨"TollsThatPay$Study", "leastTake", "(I[I)I"⟩, 11), (⟨"TollsThatPay$Study", "clearWorlds", "()I"⟩, 11)]
theorem lw_r2 : ∀ q ∈ lw_privs_2, lw_okq q := List.forall_mem_cons.mpr ⟨lw_p16, List.forall_mem_cons.mpr ⟨lw_p17, List.forall_mem_cons.mpr ⟨lw_p18, List.forall_mem_cons.mpr ⟨lw_p19, List.forall_mem_cons.mpr ⟨lw_p20, List.forall_mem_cons.mpr ⟨lw_p21, List.forall_mem_cons.mpr ⟨lw_p22, List.forall_mem_cons.mpr ⟨lw_p23, List.forall_mem_cons.mpr ⟨lw_p24, List.forall_mem_cons.mpr ⟨lw_p25, List.forall_mem_cons.mpr ⟨lw_p26, List.forall_mem_cons.mpr ⟨lw_p27, List.forall_mem_cons.mpr ⟨lw_p28, List.forall_mem_cons.mpr ⟨lw_p29, List.forall_mem_cons.mpr ⟨lw_p30, List.forall_mem_cons.mpr ⟨lw_p31, fun _ h => absurd h List.not_mem_nil⟩⟩⟩⟩⟩⟩⟩⟩⟩⟩⟩⟩⟩⟩⟩⟩
theorem lw_p32 : lw_okq (⟨"TollsThatPay$Study", "addTo", "(II)I"⟩, 11) := ⟨⟨by decide +kernel, by decide +kernel⟩, List.mem_of_getElem? (i := 345) (by decide +kernel), List.mem_of_getElem? (i := 1112) (by decide +kernel), List.mem_of_getElem? (i := 1113) (by decide +kernel)⟩
theorem lw_p33 : lw_okq (⟨"java/lang/Throwable", "fillInStackTrace", "(I)Ljava/lang/Throwable;"⟩, 6) := ⟨⟨by decide +kernel, by decide +kernel⟩, List.mem_of_getElem? (i := 1202) (by decide +kernel), List.mem_of_getElem? (i := 1200) (by decide +kernel), List.mem_of_getElem? (i := 1201) (by decide +kernel)⟩
theorem lw_p34 : lw_okq (⟨"TollsThatPayModel", "readItem", "()V"⟩, 75) := ⟨⟨by decide +kernel, by decide +kernel⟩, List.mem_of_getElem? (i := 1243) (by decide +kernel), List.mem_of_getElem? (i := 1497) (by decide +kernel), List.mem_of_getElem? (i := 1498) (by decide +kernel)⟩
theorem lw_p35 : lw_okq (⟨"TollsThatPayModel", "here", "()I"⟩, 75) := ⟨⟨by decide +kernel, by decide +kernel⟩, List.mem_of_getElem? (i := 1243) (by decide +kernel), List.mem_of_getElem? (i := 1501) (by decide +kernel), List.mem_of_getElem? (i := 1502) (by decide +kernel)⟩
theorem lw_p36 : lw_okq (⟨"TollsThatPayModel", "isWrong", "(I)V"⟩, 75) := ⟨⟨by decide +kernel, by decide +kernel⟩, List.mem_of_getElem? (i := 1243) (by decide +kernel), List.mem_of_getElem? (i := 1505) (by decide +kernel), List.mem_of_getElem? (i := 1506) (by decide +kernel)⟩
theorem lw_p37 : lw_okq (⟨"TollsThatPayModel", "fine", "()Z"⟩, 75) := ⟨⟨by decide +kernel, by decide +kernel⟩, List.mem_of_getElem? (i := 1243) (by decide +kernel), List.mem_of_getElem? (i := 1509) (by decide +kernel), List.mem_of_getElem? (i := 1510) (by decide +kernel)⟩
theorem lw_p38 : lw_okq (⟨"TollsThatPayModel", "number", "(II)I"⟩, 75) := ⟨⟨by decide +kernel, by decide +kernel⟩, List.mem_of_getElem? (i := 1243) (by decide +kernel), List.mem_of_getElem? (i := 1513) (by decide +kernel), List.mem_of_getElem? (i := 1514) (by decide +kernel)⟩
theorem lw_p39 : lw_okq (⟨"TollsThatPayModel", "digit", "(II)I"⟩, 75) := ⟨⟨by decide +kernel, by decide +kernel⟩, List.mem_of_getElem? (i := 1243) (by decide +kernel), List.mem_of_getElem? (i := 1517) (by decide +kernel), List.mem_of_getElem? (i := 1518) (by decide +kernel)⟩
theorem lw_p40 : lw_okq (⟨"TollsThatPayModel", "corner", "(I)I"⟩, 75) := ⟨⟨by decide +kernel, by decide +kernel⟩, List.mem_of_getElem? (i := 1243) (by decide +kernel), List.mem_of_getElem? (i := 1521) (by decide +kernel), List.mem_of_getElem? (i := 1522) (by decide +kernel)⟩
theorem lw_p41 : lw_okq (⟨"TollsThatPayModel", "readJourney", "(I)V"⟩, 75) := ⟨⟨by decide +kernel, by decide +kernel⟩, List.mem_of_getElem? (i := 1243) (by decide +kernel), List.mem_of_getElem? (i := 1525) (by decide +kernel), List.mem_of_getElem? (i := 1526) (by decide +kernel)⟩
theorem lw_p42 : lw_okq (⟨"TollsThatPayModel", "passes", "(C)Z"⟩, 75) := ⟨⟨by decide +kernel, by decide +kernel⟩, List.mem_of_getElem? (i := 1243) (by decide +kernel), List.mem_of_getElem? (i := 1529) (by decide +kernel), List.mem_of_getElem? (i := 1530) (by decide +kernel)⟩
theorem lw_p43 : lw_okq (⟨"TollsThatPayModel", "tellItem", "(I)V"⟩, 75) := ⟨⟨by decide +kernel, by decide +kernel⟩, List.mem_of_getElem? (i := 1243) (by decide +kernel), List.mem_of_getElem? (i := 1534) (by decide +kernel), List.mem_of_getElem? (i := 1535) (by decide +kernel)⟩
theorem lw_p44 : lw_okq (⟨"TollsThatPayModel", "findWays", "()Z"⟩, 75) := ⟨⟨by decide +kernel, by decide +kernel⟩, List.mem_of_getElem? (i := 1243) (by decide +kernel), List.mem_of_getElem? (i := 1538) (by decide +kernel), List.mem_of_getElem? (i := 1539) (by decide +kernel)⟩
theorem lw_p45 : lw_okq (⟨"TollsThatPayModel", "goOn", "(IIIII)Z"⟩, 75) := ⟨⟨by decide +kernel, by decide +kernel⟩, List.mem_of_getElem? (i := 1243) (by decide +kernel), List.mem_of_getElem? (i := 1542) (by decide +kernel), List.mem_of_getElem? (i := 1543) (by decide +kernel)⟩
theorem lw_p46 : lw_okq (⟨"TollsThatPayModel", "isRoad", "(I)Z"⟩, 75) := ⟨⟨by decide +kernel, by decide +kernel⟩, List.mem_of_getElem? (i := 1243) (by decide +kernel), List.mem_of_getElem? (i := 1550) (by decide +kernel), List.mem_of_getElem? (i := 1551) (by decide +kernel)⟩
theorem lw_p47 : lw_okq (⟨"TollsThatPayModel", "tollOf", "(I)I"⟩, 75) := ⟨⟨by decide +kernel, by decide +kernel⟩, List.mem_of_getElem? (i := 1243) (by decide +kernel), List.mem_of_getElem? (i := 1554) (by decide +kernel), List.mem_of_getElem? (i := 1555) (by decide +kernel)⟩
def lw_privs_3 : List (MethodName × Nat) := [(⟨"TollsThatPay$Study", "addTo", "(II)I"⟩, 11), (⟨"java/lang/Throwable", "fillInStackTrace", "(I)Ljava/lang/Throwable;"⟩, 6), (⟨"TollsThatPayModel", "readItem", "()V"⟩, 75), (⟨"TollsThatPayModel", "here", "()I"⟩, 75), (⟨"TollsThatPayModel", "isWrong", "(I)V"⟩, 75), (⟨"TollsThatPayModel", "fine", "()Z"⟩, 75), (⟨"TollsThatPayModel", "number", "(II)I"⟩, 75), (⟨"TollsThatPayModel", "digit", "(II)I"⟩, 75), (⟨"TollsThatPayModel", "corner", "(I)I"⟩, 75), (⟨"TollsThatPayModel", "readJourney", "(I)V"⟩, 75), (⟨"TollsThatPayModel", "passes", "(C)Z"⟩, 75), (⟨"TollsThatPayModel", "tellItem", "(I)V"⟩, 75), (⟨"TollsThatPayModel", "findWays", "()Z"⟩, 75), (⟨"TollsThatPayModel", "goOn", "(IIIII)Z"⟩, 75), (⟨"TollsThatPayModel", "isRoad", "(I)Z"⟩, 75), (⟨"TollsThatPayModel", "tollOf", "(I)I"⟩, 75)]
theorem lw_r3 : ∀ q ∈ lw_privs_3, lw_okq q := List.forall_mem_cons.mpr ⟨lw_p32, List.forall_mem_cons.mpr ⟨lw_p33, List.forall_mem_cons.mpr ⟨lw_p34, List.forall_mem_cons.mpr ⟨lw_p35, List.forall_mem_cons.mpr ⟨lw_p36, List.forall_mem_cons.mpr ⟨lw_p37, List.forall_mem_cons.mpr ⟨lw_p38, List.forall_mem_cons.mpr ⟨lw_p39, List.forall_mem_cons.mpr ⟨lw_p40, List.forall_mem_cons.mpr ⟨lw_p41, List.forall_mem_cons.mpr ⟨lw_p42, List.forall_mem_cons.mpr ⟨lw_p43, List.forall_mem_cons.mpr ⟨lw_p44, List.forall_mem_cons.mpr ⟨lw_p45, List.forall_mem_cons.mpr ⟨lw_p46, List.forall_mem_cons.mpr ⟨lw_p47, fun _ h => absurd h List.not_mem_nil⟩⟩⟩⟩⟩⟩⟩⟩⟩⟩⟩⟩⟩⟩⟩⟩
theorem lw_p48 : lw_okq (⟨"TollsThatPayModel", "asks", "(II)I"⟩, 75) := ⟨⟨by decide +kernel, by decide +kernel⟩, List.mem_of_getElem? (i := 1243) (by decide +kernel), List.mem_of_getElem? (i := 1566) (by decide +kernel), List.mem_of_getElem? (i := 1567) (by decide +kernel)⟩
theorem lw_p49 : lw_okq (⟨"TollsThatPayModel", "isJourney", "(I)Z"⟩, 75) := ⟨⟨by decide +kernel, by decide +kernel⟩, List.mem_of_getElem? (i := 1243) (by decide +kernel), List.mem_of_getElem? (i := 1570) (by decide +kernel), List.mem_of_getElem? (i := 1571) (by decide +kernel)⟩
theorem lw_p50 : lw_okq (⟨"TollsThatPayModel", "gatherAll", "()V"⟩, 75) := ⟨⟨by decide +kernel, by decide +kernel⟩, List.mem_of_getElem? (i := 1243) (by decide +kernel), List.mem_of_getElem? (i := 1574) (by decide +kernel), List.mem_of_getElem? (i := 1575) (by decide +kernel)⟩
theorem lw_p51 : lw_okq (⟨"TollsThatPayModel", "gather", "(III)V"⟩, 75) := ⟨⟨by decide +kernel, by decide +kernel⟩, List.mem_of_getElem? (i := 1243) (by decide +kernel), List.mem_of_getElem? (i := 1578) (by decide +kernel), List.mem_of_getElem? (i := 1579) (by decide +kernel)⟩
theorem lw_p52 : lw_okq (⟨"TollsThatPayModel", "addGoer", "(III)V"⟩, 75) := ⟨⟨by decide +kernel, by decide +kernel⟩, List.mem_of_getElem? (i := 1243) (by decide +kernel), List.mem_of_getElem? (i := 1582) (by decide +kernel), List.mem_of_getElem? (i := 1583) (by decide +kernel)⟩
theorem lw_p53 : lw_okq (⟨"TollsThatPayModel", "has", "(II)Z"⟩, 75) := ⟨⟨by decide +kernel, by decide +kernel⟩, List.mem_of_getElem? (i := 1243) (by decide +kernel), List.mem_of_getElem? (i := 1586) (by decide +kernel), List.mem_of_getElem? (i := 1587) (by decide +kernel)⟩
theorem lw_p54 : lw_okq (⟨"TollsThatPayModel", "maskOf", "(I)I"⟩, 75) := ⟨⟨by decide +kernel, by decide +kernel⟩, List.mem_of_getElem? (i := 1243) (by decide +kernel), List.mem_of_getElem? (i := 1590) (by decide +kernel), List.mem_of_getElem? (i := 1591) (by decide +kernel)⟩
theorem lw_p55 : lw_okq (⟨"TollsThatPayModel", "plainPains", "(III)I"⟩, 75) := ⟨⟨by decide +kernel, by decide +kernel⟩, List.mem_of_getElem? (i := 1243) (by decide +kernel), List.mem_of_getElem? (i := 1594) (by decide +kernel), List.mem_of_getElem? (i := 1595) (by decide +kernel)⟩
theorem lw_p56 : lw_okq (⟨"TollsThatPayModel", "ask", "()V"⟩, 75) := ⟨⟨by decide +kernel, by decide +kernel⟩, List.mem_of_getElem? (i := 1243) (by decide +kernel), List.mem_of_getElem? (i := 1598) (by decide +kernel), List.mem_of_getElem? (i := 1599) (by decide +kernel)⟩
theorem lw_p57 : lw_okq (⟨"TollsThatPayModel", "goerOf", "(II)I"⟩, 75) := ⟨⟨by decide +kernel, by decide +kernel⟩, List.mem_of_getElem? (i := 1243) (by decide +kernel), List.mem_of_getElem? (i := 1606) (by decide +kernel), List.mem_of_getElem? (i := 1607) (by decide +kernel)⟩
theorem lw_p58 : lw_okq (⟨"TollsThatPayModel", "wayOf", "(I)I"⟩, 75) := ⟨⟨by decide +kernel, by decide +kernel⟩, List.mem_of_getElem? (i := 1243) (by decide +kernel), List.mem_of_getElem? (i := 1610) (by decide +kernel), List.mem_of_getElem? (i := 1611) (by decide +kernel)⟩
theorem lw_p59 : lw_okq (⟨"TollsThatPayModel", "choose", "(I)I"⟩, 75) := ⟨⟨by decide +kernel, by decide +kernel⟩, List.mem_of_getElem? (i := 1243) (by decide +kernel), List.mem_of_getElem? (i := 1614) (by decide +kernel), List.mem_of_getElem? (i := 1615) (by decide +kernel)⟩
theorem lw_p60 : lw_okq (⟨"TollsThatPayModel", "isAhead", "(IIII)Z"⟩, 75) := ⟨⟨by decide +kernel, by decide +kernel⟩, List.mem_of_getElem? (i := 1243) (by decide +kernel), List.mem_of_getElem? (i := 1618) (by decide +kernel), List.mem_of_getElem? (i := 1619) (by decide +kernel)⟩
theorem lw_p61 : lw_okq (⟨"TollsThatPayModel", "tell", "(I)V"⟩, 75) := ⟨⟨by decide +kernel, by decide +kernel⟩, List.mem_of_getElem? (i := 1243) (by decide +kernel), List.mem_of_getElem? (i := 1622) (by decide +kernel), List.mem_of_getElem? (i := 1623) (by decide +kernel)⟩
theorem lw_p62 : lw_okq (⟨"TollsThatPayModel", "work", "()V"⟩, 75) := ⟨⟨by decide +kernel, by decide +kernel⟩, List.mem_of_getElem? (i := 1243) (by decide +kernel), List.mem_of_getElem? (i := 1641) (by decide +kernel), List.mem_of_getElem? (i := 1642) (by decide +kernel)⟩
theorem lw_p63 : lw_okq (⟨"TollsThatPayModel", "goBy", "(I)I"⟩, 75) := ⟨⟨by decide +kernel, by decide +kernel⟩, List.mem_of_getElem? (i := 1243) (by decide +kernel), List.mem_of_getElem? (i := 1653) (by decide +kernel), List.mem_of_getElem? (i := 1654) (by decide +kernel)⟩
def lw_privs_4 : List (MethodName × Nat) := [(⟨"TollsThatPayModel", "asks", "(II)I"⟩, 75), (⟨"TollsThatPayModel", "isJourney", "(I)Z"⟩, 75), (⟨"TollsThatPayModel", "gatherAll", "()V"⟩, 75), (⟨"TollsThatPayModel", "gather", "(III)V"⟩, 75), (⟨"TollsThatPayModel", "addGoer", "(III)V"⟩, 75), (⟨"TollsThatPayModel", "has", "(II)Z"⟩, 75), (⟨"TollsThatPayModel", "maskOf", "(I)I"⟩, 75), (⟨"TollsThatPayModel", "plainPains", "(III)I"⟩, 75), (⟨"TollsThatPayModel", "ask", "()V"⟩, 75), (⟨"TollsThatPayModel", "goerOf", "(II)I"⟩, 75), (⟨"TollsThatPayModel", "wayOf", "(I)I"⟩, 75), (⟨"TollsThatPayModel", "choose", "(I)I"⟩, 75), (⟨"TollsThatPayModel", "isAhead", "(IIII)Z"⟩, 75), (⟨"TollsThatPayModel", "tell", "(I)V"⟩, 75), (⟨"TollsThatPayModel", "work", "()V"⟩, 75), (⟨"TollsThatPayModel", "goBy", "(I)I"⟩, 75)]
theorem lw_r4 : ∀ q ∈ lw_privs_4, lw_okq q := List.forall_mem_cons.mpr ⟨lw_p48, List.forall_mem_cons.mpr ⟨lw_p49, List.forall_mem_cons.mpr ⟨lw_p50, List.forall_mem_cons.mpr ⟨lw_p51, List.forall_mem_cons.mpr ⟨lw_p52, List.forall_mem_cons.mpr ⟨lw_p53, List.forall_mem_cons.mpr ⟨lw_p54, List.forall_mem_cons.mpr ⟨lw_p55, List.forall_mem_cons.mpr ⟨lw_p56, List.forall_mem_cons.mpr ⟨lw_p57, List.forall_mem_cons.mpr ⟨lw_p58, List.forall_mem_cons.mpr ⟨lw_p59, List.forall_mem_cons.mpr ⟨lw_p60, List.forall_mem_cons.mpr ⟨lw_p61, List.forall_mem_cons.mpr ⟨lw_p62, List.forall_mem_cons.mpr ⟨lw_p63, fun _ h => absurd h List.not_mem_nil⟩⟩⟩⟩⟩⟩⟩⟩⟩⟩⟩⟩⟩⟩⟩⟩
theorem lw_p64 : lw_okq (⟨"TollsThatPayModel", "canSet", "(I)Z"⟩, 75) := ⟨⟨by decide +kernel, by decide +kernel⟩, List.mem_of_getElem? (i := 1243) (by decide +kernel), List.mem_of_getElem? (i := 1665) (by decide +kernel), List.mem_of_getElem? (i := 1666) (by decide +kernel)⟩
theorem lw_p65 : lw_okq (⟨"TollsThatPayModel", "areFew", "(II)Z"⟩, 75) := ⟨⟨by decide +kernel, by decide +kernel⟩, List.mem_of_getElem? (i := 1243) (by decide +kernel), List.mem_of_getElem? (i := 1669) (by decide +kernel), List.mem_of_getElem? (i := 1670) (by decide +kernel)⟩
theorem lw_p66 : lw_okq (⟨"TollsThatPayModel", "bestOf", "(III)I"⟩, 75) := ⟨⟨by decide +kernel, by decide +kernel⟩, List.mem_of_getElem? (i := 1243) (by decide +kernel), List.mem_of_getElem? (i := 1674) (by decide +kernel), List.mem_of_getElem? (i := 1675) (by decide +kernel)⟩
theorem lw_p67 : lw_okq (⟨"TollsThatPayModel", "keep", "()V"⟩, 75) := ⟨⟨by decide +kernel, by decide +kernel⟩, List.mem_of_getElem? (i := 1243) (by decide +kernel), List.mem_of_getElem? (i := 1678) (by decide +kernel), List.mem_of_getElem? (i := 1679) (by decide +kernel)⟩
theorem lw_p68 : lw_okq (⟨"TollsThatPayModel", "lay", "(II)V"⟩, 75) := ⟨⟨by decide +kernel, by decide +kernel⟩, List.mem_of_getElem? (i := 1243) (by decide +kernel), List.mem_of_getElem? (i := 1682) (by decide +kernel), List.mem_of_getElem? (i := 1683) (by decide +kernel)⟩
theorem lw_p69 : lw_okq (⟨"TollsThatPayModel", "next", "(I)Z"⟩, 75) := ⟨⟨by decide +kernel, by decide +kernel⟩, List.mem_of_getElem? (i := 1243) (by decide +kernel), List.mem_of_getElem? (i := 1686) (by decide +kernel), List.mem_of_getElem? (i := 1687) (by decide +kernel)⟩
theorem lw_p70 : lw_okq (⟨"TollsThatPayModel", "putBack", "()V"⟩, 75) := ⟨⟨by decide +kernel, by decide +kernel⟩, List.mem_of_getElem? (i := 1243) (by decide +kernel), List.mem_of_getElem? (i := 1690) (by decide +kernel), List.mem_of_getElem? (i := 1691) (by decide +kernel)⟩
theorem lw_p71 : lw_okq (⟨"TollsThatPayModel", "tellTolls", "([II)V"⟩, 75) := ⟨⟨by decide +kernel, by decide +kernel⟩, List.mem_of_getElem? (i := 1243) (by decide +kernel), List.mem_of_getElem? (i := 1694) (by decide +kernel), List.mem_of_getElem? (i := 1695) (by decide +kernel)⟩
theorem lw_p72 : lw_okq (⟨"TollsThatPayModel", "placeOf", "(I)I"⟩, 75) := ⟨⟨by decide +kernel, by decide +kernel⟩, List.mem_of_getElem? (i := 1243) (by decide +kernel), List.mem_of_getElem? (i := 1723) (by decide +kernel), List.mem_of_getElem? (i := 1724) (by decide +kernel)⟩
theorem lw_p73 : lw_okq (⟨"TollsThatPayModel", "goLine", "(I)V"⟩, 75) := ⟨⟨by decide +kernel, by decide +kernel⟩, List.mem_of_getElem? (i := 1243) (by decide +kernel), List.mem_of_getElem? (i := 1727) (by decide +kernel), List.mem_of_getElem? (i := 1728) (by decide +kernel)⟩
theorem lw_p74 : lw_okq (⟨"TollsThatPayModel", "climbOf", "(I)I"⟩, 75) := ⟨⟨by decide +kernel, by decide +kernel⟩, List.mem_of_getElem? (i := 1243) (by decide +kernel), List.mem_of_getElem? (i := 1739) (by decide +kernel), List.mem_of_getElem? (i := 1740) (by decide +kernel)⟩
theorem lw_p75 : lw_okq (⟨"TollsThatPayModel", "wasAhead", "(I)Z"⟩, 75) := ⟨⟨by decide +kernel, by decide +kernel⟩, List.mem_of_getElem? (i := 1243) (by decide +kernel), List.mem_of_getElem? (i := 1755) (by decide +kernel), List.mem_of_getElem? (i := 1756) (by decide +kernel)⟩
theorem lw_p76 : lw_okq (⟨"TollsThatPayModel", "layAll", "()V"⟩, 75) := ⟨⟨by decide +kernel, by decide +kernel⟩, List.mem_of_getElem? (i := 1243) (by decide +kernel), List.mem_of_getElem? (i := 1764) (by decide +kernel), List.mem_of_getElem? (i := 1765) (by decide +kernel)⟩
theorem lw_p77 : lw_okq (⟨"TollsThatPayModel", "numberOf", "(I)I"⟩, 75) := ⟨⟨by decide +kernel, by decide +kernel⟩, List.mem_of_getElem? (i := 1243) (by decide +kernel), List.mem_of_getElem? (i := 1768) (by decide +kernel), List.mem_of_getElem? (i := 1769) (by decide +kernel)⟩
theorem lw_p78 : lw_okq (⟨"TollsThatPayModel", "roadBits", "(I)I"⟩, 75) := ⟨⟨by decide +kernel, by decide +kernel⟩, List.mem_of_getElem? (i := 1243) (by decide +kernel), List.mem_of_getElem? (i := 1777) (by decide +kernel), List.mem_of_getElem? (i := 1778) (by decide +kernel)⟩
theorem lw_p79 : lw_okq (⟨"TollsThatPayModel", "byWorths", "(I)I"⟩, 75) := ⟨⟨by decide +kernel, by decide +kernel⟩, List.mem_of_getElem? (i := 1243) (by decide +kernel), List.mem_of_getElem? (i := 1801) (by decide +kernel), List.mem_of_getElem? (i := 1802) (by decide +kernel)⟩
def lw_privs_5 : List (MethodName × Nat) := [(⟨"TollsThatPayModel", "canSet", "(I)Z"⟩, 75), (⟨"TollsThatPayModel", "areFew", "(II)Z"⟩, 75), (⟨"TollsThatPayModel", "bestOf", "(III)I"⟩, 75), (⟨"TollsThatPayModel", "keep", "()V"⟩, 75), (⟨"TollsThatPayModel", "lay", "(II)V"⟩, 75), (⟨"TollsThatPayModel", "next", "(I)Z"⟩, 75), (⟨"TollsThatPayModel", "putBack", "()V"⟩, 75), (⟨"TollsThatPayModel", "tellTolls", "([II)V"⟩, 75), (⟨"TollsThatPayModel", "placeOf", "(I)I"⟩, 75), (⟨"TollsThatPayModel", "goLine", "(I)V"⟩, 75), (⟨"TollsThatPayModel", "climbOf", "(I)I"⟩, 75), (⟨"TollsThatPayModel", "wasAhead", "(I)Z"⟩, 75), (⟨"TollsThatPayModel", "layAll", "()V"⟩, 75), (⟨"TollsThatPayModel", "numberOf", "(I)I"⟩, 75), (⟨"TollsThatPayModel", "roadBits", "(I)I"⟩, 75), (⟨"TollsThatPayModel", "byWorths", "(I)I"⟩, 75)]
theorem lw_r5 : ∀ q ∈ lw_privs_5, lw_okq q := List.forall_mem_cons.mpr ⟨lw_p64, List.forall_mem_cons.mpr ⟨lw_p65, List.forall_mem_cons.mpr ⟨lw_p66, List.forall_mem_cons.mpr ⟨lw_p67, List.forall_mem_cons.mpr ⟨lw_p68, List.forall_mem_cons.mpr ⟨lw_p69, List.forall_mem_cons.mpr ⟨lw_p70, List.forall_mem_cons.mpr ⟨lw_p71, List.forall_mem_cons.mpr ⟨lw_p72, List.forall_mem_cons.mpr ⟨lw_p73, List.forall_mem_cons.mpr ⟨lw_p74, List.forall_mem_cons.mpr ⟨lw_p75, List.forall_mem_cons.mpr ⟨lw_p76, List.forall_mem_cons.mpr ⟨lw_p77, List.forall_mem_cons.mpr ⟨lw_p78, List.forall_mem_cons.mpr ⟨lw_p79, fun _ h => absurd h List.not_mem_nil⟩⟩⟩⟩⟩⟩⟩⟩⟩⟩⟩⟩⟩⟩⟩⟩
theorem lw_p80 : lw_okq (⟨"TollsThatPayModel", "tellSet", "(II)V"⟩, 75) := ⟨⟨by decide +kernel, by decide +kernel⟩, List.mem_of_getElem? (i := 1243) (by decide +kernel), List.mem_of_getElem? (i := 1806) (by decide +kernel), List.mem_of_getElem? (i := 1807) (by decide +kernel)⟩
theorem lw_p81 : lw_okq (⟨"TollsThatPayModel", "orders", "(III)V"⟩, 75) := ⟨⟨by decide +kernel, by decide +kernel⟩, List.mem_of_getElem? (i := 1243) (by decide +kernel), List.mem_of_getElem? (i := 1826) (by decide +kernel), List.mem_of_getElem? (i := 1827) (by decide +kernel)⟩
theorem lw_p82 : lw_okq (⟨"TollsThatPayModel", "lost", "()I"⟩, 75) := ⟨⟨by decide +kernel, by decide +kernel⟩, List.mem_of_getElem? (i := 1243) (by decide +kernel), List.mem_of_getElem? (i := 1838) (by decide +kernel), List.mem_of_getElem? (i := 1839) (by decide +kernel)⟩
def lw_privs_6 : List (MethodName × Nat) := [(⟨"TollsThatPayModel", "tellSet", "(II)V"⟩, 75), (⟨"TollsThatPayModel", "orders", "(III)V"⟩, 75), (⟨"TollsThatPayModel", "lost", "()I"⟩, 75)]
theorem lw_r6 : ∀ q ∈ lw_privs_6, lw_okq q := List.forall_mem_cons.mpr ⟨lw_p80, List.forall_mem_cons.mpr ⟨lw_p81, List.forall_mem_cons.mpr ⟨lw_p82, fun _ h => absurd h List.not_mem_nil⟩⟩⟩
def lw_privs : List (MethodName × Nat) := lw_privs_1 ++ (lw_privs_2 ++ (lw_privs_3 ++ (lw_privs_4 ++ (lw_privs_5 ++ (lw_privs_6)))))
def lw_tbl : List Cond := k2_sels lw_privs ++ tables_1
theorem lw_privs_ok : ∀ q ∈ lw_privs, lw_okq q := by
  show ∀ q ∈ lw_privs_1 ++ (lw_privs_2 ++ (lw_privs_3 ++ (lw_privs_4 ++ (lw_privs_5 ++ (lw_privs_6))))), lw_okq q
  exact List.forall_mem_append.mpr ⟨lw_r1, List.forall_mem_append.mpr ⟨lw_r2, List.forall_mem_append.mpr ⟨lw_r3, List.forall_mem_append.mpr ⟨lw_r4, List.forall_mem_append.mpr ⟨lw_r5, lw_r6⟩⟩⟩⟩⟩
-- ===== end of PART A; then your names; then what follows =====
def RX0 : String := "TollsThatPay$Duel"
def TX0 : u_T := fun k => match k with
  | 0 => ("TollsThatPay$Duel", "tolls", "[I", true)
  | 1 => ("TollsThatPay$Duel", "market", "LTollsThatPay$Market;", true)
  | 2 => ("TollsThatPay$Duel", "behind", "[I", true)
  | _ => ("TollsThatPay$Duel", "tops", "[I", true)
def tyX0 : Nat → FieldType := fun k => match k with
  | 0 => .array .int
  | 1 => .object "TollsThatPay$Market"
  | 2 => .array .int
  | _ => .array .int
abbrev wsX00 : List Cond := u_ws RX0 TX0 4
theorem nmX0 : ∀ a, a < 4 → ∀ b, b < 4 → a ≠ b → (TX0 a).2.1 ≠ (TX0 b).2.1 := by decide +kernel
theorem tyX0_ok : ∀ k, k < 4 → parseFieldDescriptor (TX0 k).2.2.1 = some (tyX0 k) := by decide +kernel
abbrev cX0_init : ByteArray := prog_2_method_1_code
def yX0_init : MethodName := ⟨RX0, "<init>", "(LTollsThatPay$Market;)V"⟩
abbrev cX0_brought : ByteArray := prog_2_method_2_code
def yX0_brought : MethodName := ⟨RX0, "brought", "(I[ILTollsThatPay$Roads;)I"⟩
abbrev cX0_answer : ByteArray := prog_2_method_3_code
def yX0_answer : MethodName := ⟨RX0, "answer", "(ILTollsThatPay$Roads;)I"⟩
abbrev cX0_packed : ByteArray := prog_2_method_4_code
def yX0_packed : MethodName := ⟨RX0, "packed", "()I"⟩
abbrev cX0_wasBehind : ByteArray := prog_2_method_5_code
def yX0_wasBehind : MethodName := ⟨RX0, "wasBehind", "(I)Z"⟩
abbrev cX0_countRests : ByteArray := prog_2_method_6_code
def yX0_countRests : MethodName := ⟨RX0, "countRests", "(LTollsThatPay$Roads;)I"⟩
abbrev cX0_raise : ByteArray := prog_2_method_7_code
def yX0_raise : MethodName := ⟨RX0, "raise", "(II)V"⟩
abbrev cX0_topAt : ByteArray := prog_2_method_8_code
def yX0_topAt : MethodName := ⟨RX0, "topAt", "(I)I"⟩
def RX1 : String := "TollsThatPay$Goers"
def TX1 : u_T := fun k => match k with
  | 0 => ("TollsThatPay$Goers", "size", "I", false)
  | 1 => ("TollsThatPay$Goers", "journeys", "LTollsThatPay$Journeys;", false)
  | 2 => ("TollsThatPay$Goers", "trip", "LTollsThatPay$Trip;", true)
  | 3 => ("TollsThatPay$Goers", "journey", "[I", true)
  | 4 => ("TollsThatPay$Goers", "worth", "[I", true)
  | 5 => ("TollsThatPay$Goers", "many", "[I", true)
  | 6 => ("TollsThatPay$Goers", "first", "[I", true)
  | 7 => ("TollsThatPay$Goers", "ways", "[I", true)
  | 8 => ("TollsThatPay$Goers", "base", "[I", true)
  | 9 => ("TollsThatPay$Goers", "rank", "[I", true)
  | 10 => ("TollsThatPay$Goers", "list", "[I", true)
  | 11 => ("TollsThatPay$Goers", "listed", "[I", true)
  | _ => ("TollsThatPay$Goers", "reach", "[I", true)
def tyX1 : Nat → FieldType := fun k => match k with
  | 0 => .int
  | 1 => .object "TollsThatPay$Journeys"
  | 2 => .object "TollsThatPay$Trip"
  | 3 => .array .int
  | 4 => .array .int
  | 5 => .array .int
  | 6 => .array .int
  | 7 => .array .int
  | 8 => .array .int
  | 9 => .array .int
  | 10 => .array .int
  | 11 => .array .int
  | _ => .array .int
abbrev wsX10 : List Cond := u_ws RX1 TX1 13
theorem nmX1 : ∀ a, a < 13 → ∀ b, b < 13 → a ≠ b → (TX1 a).2.1 ≠ (TX1 b).2.1 := by decide +kernel
theorem tyX1_ok : ∀ k, k < 13 → parseFieldDescriptor (TX1 k).2.2.1 = some (tyX1 k) := by decide +kernel
abbrev cX1_init : ByteArray := prog_3_method_1_code
def yX1_init : MethodName := ⟨RX1, "<init>", "(LTollsThatPay$Journeys;)V"⟩
abbrev cX1_survey : ByteArray := prog_3_method_2_code
def yX1_survey : MethodName := ⟨RX1, "survey", "(LTollsThatPay$Land;)Z"⟩
abbrev cX1_enter : ByteArray := prog_3_method_3_code
def yX1_enter : MethodName := ⟨RX1, "enter", "(I)V"⟩
abbrev cX1_walk : ByteArray := prog_3_method_4_code
def yX1_walk : MethodName := ⟨RX1, "walk", "(LTollsThatPay$Goers;LTollsThatPay$Trip;II)V"⟩
abbrev cX1_arrive : ByteArray := prog_3_method_5_code
def yX1_arrive : MethodName := ⟨RX1, "arrive", "(LTollsThatPay$Trip;I)V"⟩
abbrev cX1_offer : ByteArray := prog_3_method_6_code
def yX1_offer : MethodName := ⟨RX1, "offer", "(IIII)V"⟩
abbrev cX1_settle : ByteArray := prog_3_method_7_code
def yX1_settle : MethodName := ⟨RX1, "settle", "(III)V"⟩
abbrev cX1_isBeaten : ByteArray := prog_3_method_8_code
def yX1_isBeaten : MethodName := ⟨RX1, "isBeaten", "(III)Z"⟩
abbrev cX1_insert : ByteArray := prog_3_method_9_code
def yX1_insert : MethodName := ⟨RX1, "insert", "(II)V"⟩
abbrev cX1_has : ByteArray := prog_3_method_10_code
def yX1_has : MethodName := ⟨RX1, "has", "(I)Z"⟩
abbrev cX1_find : ByteArray := prog_3_method_11_code
def yX1_find : MethodName := ⟨RX1, "find", "(II)I"⟩
abbrev cX1_waysOf : ByteArray := prog_3_method_12_code
def yX1_waysOf : MethodName := ⟨RX1, "waysOf", "(I)I"⟩
abbrev cX1_manyOf : ByteArray := prog_3_method_13_code
def yX1_manyOf : MethodName := ⟨RX1, "manyOf", "(I)I"⟩
abbrev cX1_worthOf : ByteArray := prog_3_method_14_code
def yX1_worthOf : MethodName := ⟨RX1, "worthOf", "(I)I"⟩
abbrev cX1_timeOf : ByteArray := prog_3_method_15_code
def yX1_timeOf : MethodName := ⟨RX1, "timeOf", "(I)I"⟩
abbrev cX1_isOfCrowd : ByteArray := prog_3_method_16_code
def yX1_isOfCrowd : MethodName := ⟨RX1, "isOfCrowd", "(I)Z"⟩
abbrev cX1_mayPay : ByteArray := prog_3_method_17_code
def yX1_mayPay : MethodName := ⟨RX1, "mayPay", "(II)Z"⟩
abbrev cX1_baseOf : ByteArray := prog_3_method_18_code
def yX1_baseOf : MethodName := ⟨RX1, "baseOf", "(II)I"⟩
abbrev cX1_rankOf : ByteArray := prog_3_method_19_code
def yX1_rankOf : MethodName := ⟨RX1, "rankOf", "(II)I"⟩
abbrev cX1_choice : ByteArray := prog_3_method_20_code
def yX1_choice : MethodName := ⟨RX1, "choice", "(I[I)I"⟩
abbrev cX1_passes : ByteArray := prog_3_method_21_code
def yX1_passes : MethodName := ⟨RX1, "passes", "(III)Z"⟩
abbrev cX1_tellRoads : ByteArray := prog_3_method_22_code
def yX1_tellRoads : MethodName := ⟨RX1, "tellRoads", "(ILTollsThatPay$Row;)I"⟩
def RX2 : String := "TollsThatPay$Journeys"
def TX2 : u_T := fun k => match k with
  | 0 => ("TollsThatPay$Journeys", "size", "I", false)
  | 1 => ("TollsThatPay$Journeys", "from", "[I", true)
  | 2 => ("TollsThatPay$Journeys", "to", "[I", true)
  | 3 => ("TollsThatPay$Journeys", "many", "[I", true)
  | 4 => ("TollsThatPay$Journeys", "low", "[I", true)
  | 5 => ("TollsThatPay$Journeys", "high", "[I", true)
  | 6 => ("TollsThatPay$Journeys", "crowd", "[I", true)
  | 7 => ("TollsThatPay$Journeys", "known", "[I", true)
  | 8 => ("TollsThatPay$Journeys", "home", "[I", true)
  | _ => ("TollsThatPay$Journeys", "time", "[I", true)
def tyX2 : Nat → FieldType := fun k => match k with
  | 0 => .int
  | 1 => .array .int
  | 2 => .array .int
  | 3 => .array .int
  | 4 => .array .int
  | 5 => .array .int
  | 6 => .array .int
  | 7 => .array .int
  | 8 => .array .int
  | _ => .array .int
abbrev wsX20 : List Cond := u_ws RX2 TX2 10
theorem nmX2 : ∀ a, a < 10 → ∀ b, b < 10 → a ≠ b → (TX2 a).2.1 ≠ (TX2 b).2.1 := by decide +kernel
theorem tyX2_ok : ∀ k, k < 10 → parseFieldDescriptor (TX2 k).2.2.1 = some (tyX2 k) := by decide +kernel
abbrev cX2_init : ByteArray := prog_4_method_1_code
def yX2_init : MethodName := ⟨RX2, "<init>", "()V"⟩
abbrev cX2_copy : ByteArray := prog_4_method_2_code
def yX2_copy : MethodName := ⟨RX2, "copy", "(LTollsThatPay$Journeys;)V"⟩
abbrev cX2_has : ByteArray := prog_4_method_3_code
def yX2_has : MethodName := ⟨RX2, "has", "(I)Z"⟩
abbrev cX2_add : ByteArray := prog_4_method_4_code
def yX2_add : MethodName := ⟨RX2, "add", "(III)V"⟩
abbrev cX2_worthsOfLatest : ByteArray := prog_4_method_5_code
def yX2_worthsOfLatest : MethodName := ⟨RX2, "worthsOfLatest", "(IIZ)V"⟩
abbrev cX2_boundsOfLatest : ByteArray := prog_4_method_6_code
def yX2_boundsOfLatest : MethodName := ⟨RX2, "boundsOfLatest", "(III)V"⟩
abbrev cX2_fromOf : ByteArray := prog_4_method_7_code
def yX2_fromOf : MethodName := ⟨RX2, "fromOf", "(I)I"⟩
abbrev cX2_toOf : ByteArray := prog_4_method_8_code
def yX2_toOf : MethodName := ⟨RX2, "toOf", "(I)I"⟩
abbrev cX2_manyOf : ByteArray := prog_4_method_9_code
def yX2_manyOf : MethodName := ⟨RX2, "manyOf", "(I)I"⟩
abbrev cX2_lowOf : ByteArray := prog_4_method_10_code
def yX2_lowOf : MethodName := ⟨RX2, "lowOf", "(I)I"⟩
abbrev cX2_highOf : ByteArray := prog_4_method_11_code
def yX2_highOf : MethodName := ⟨RX2, "highOf", "(I)I"⟩
abbrev cX2_isCrowd : ByteArray := prog_4_method_12_code
def yX2_isCrowd : MethodName := ⟨RX2, "isCrowd", "(I)Z"⟩
abbrev cX2_knownOf : ByteArray := prog_4_method_13_code
def yX2_knownOf : MethodName := ⟨RX2, "knownOf", "(I)I"⟩
abbrev cX2_homeOf : ByteArray := prog_4_method_14_code
def yX2_homeOf : MethodName := ⟨RX2, "homeOf", "(I)I"⟩
abbrev cX2_timeOf : ByteArray := prog_4_method_15_code
def yX2_timeOf : MethodName := ⟨RX2, "timeOf", "(I)I"⟩
def RX3 : String := "TollsThatPay$Land"
def TX3 : u_T := fun k => match k with
  | 0 => ("TollsThatPay$Land", "roads", "LTollsThatPay$Roads;", true)
  | _ => ("TollsThatPay$Land", "journeys", "LTollsThatPay$Journeys;", true)
def tyX3 : Nat → FieldType := fun k => match k with
  | 0 => .object "TollsThatPay$Roads"
  | _ => .object "TollsThatPay$Journeys"
abbrev wsX30 : List Cond := u_ws RX3 TX3 2
theorem nmX3 : ∀ a, a < 2 → ∀ b, b < 2 → a ≠ b → (TX3 a).2.1 ≠ (TX3 b).2.1 := by decide +kernel
theorem tyX3_ok : ∀ k, k < 2 → parseFieldDescriptor (TX3 k).2.2.1 = some (tyX3 k) := by decide +kernel
abbrev cX3_init : ByteArray := prog_5_method_1_code
def yX3_init : MethodName := ⟨RX3, "<init>", "()V"⟩
abbrev cX3_copy : ByteArray := prog_5_method_2_code
def yX3_copy : MethodName := ⟨RX3, "copy", "(LTollsThatPay$Land;)V"⟩
abbrev cX3_excess : ByteArray := prog_5_method_3_code
def yX3_excess : MethodName := ⟨RX3, "excess", "()I"⟩
def RX4 : String := "TollsThatPay$Market"
def TX4 : u_T := fun k => match k with
  | 0 => ("TollsThatPay$Market", "sets", "LTollsThatPay$Sets;", true)
  | 1 => ("TollsThatPay$Market", "found", "[I", true)
  | 2 => ("TollsThatPay$Market", "roads", "LTollsThatPay$Roads;", false)
  | 3 => ("TollsThatPay$Market", "goers", "LTollsThatPay$Goers;", true)
  | 4 => ("TollsThatPay$Market", "share", "[I", true)
  | _ => ("TollsThatPay$Market", "lean", "I", false)
def tyX4 : Nat → FieldType := fun k => match k with
  | 0 => .object "TollsThatPay$Sets"
  | 1 => .array .int
  | 2 => .object "TollsThatPay$Roads"
  | 3 => .object "TollsThatPay$Goers"
  | 4 => .array .int
  | _ => .int
abbrev wsX40 : List Cond := u_ws RX4 TX4 6
theorem nmX4 : ∀ a, a < 6 → ∀ b, b < 6 → a ≠ b → (TX4 a).2.1 ≠ (TX4 b).2.1 := by decide +kernel
theorem tyX4_ok : ∀ k, k < 6 → parseFieldDescriptor (TX4 k).2.2.1 = some (tyX4 k) := by decide +kernel
abbrev cX4_init : ByteArray := prog_6_method_1_code
def yX4_init : MethodName := ⟨RX4, "<init>", "(LTollsThatPay$Goers;LTollsThatPay$Roads;)V"⟩
abbrev cX4_open : ByteArray := prog_6_method_2_code
def yX4_open : MethodName := ⟨RX4, "open", "(LTollsThatPay$Roads;I)V"⟩
abbrev cX4_shareTime : ByteArray := prog_6_method_3_code
def yX4_shareTime : MethodName := ⟨RX4, "shareTime", "(I)V"⟩
abbrev cX4_shareMean : ByteArray := prog_6_method_4_code
def yX4_shareMean : MethodName := ⟨RX4, "shareMean", "([I)V"⟩
abbrev cX4_fix : ByteArray := prog_6_method_5_code
def yX4_fix : MethodName := ⟨RX4, "fix", "([I)V"⟩
abbrev cX4_begin : ByteArray := prog_6_method_6_code
def yX4_begin : MethodName := ⟨RX4, "begin", "([III)I"⟩
abbrev cX4_choice : ByteArray := prog_6_method_7_code
def yX4_choice : MethodName := ⟨RX4, "choice", "(I)I"⟩
abbrev cX4_painsOf : ByteArray := prog_6_method_8_code
def yX4_painsOf : MethodName := ⟨RX4, "painsOf", "(II)I"⟩
abbrev cX4_leastWithout : ByteArray := prog_6_method_9_code
def yX4_leastWithout : MethodName := ⟨RX4, "leastWithout", "(II)I"⟩
abbrev cX4_brought : ByteArray := prog_6_method_10_code
def yX4_brought : MethodName := ⟨RX4, "brought", "(I)I"⟩
abbrev cX4_sufferedNow : ByteArray := prog_6_method_11_code
def yX4_sufferedNow : MethodName := ⟨RX4, "sufferedNow", "()I"⟩
abbrev cX4_bestOf : ByteArray := prog_6_method_12_code
def yX4_bestOf : MethodName := ⟨RX4, "bestOf", "(I)I"⟩
abbrev cX4_hunt : ByteArray := prog_6_method_13_code
def yX4_hunt : MethodName := ⟨RX4, "hunt", "([IIII)I"⟩
abbrev cX4_keep : ByteArray := prog_6_method_14_code
def yX4_keep : MethodName := ⟨RX4, "keep", "()V"⟩
def RX5 : String := "TollsThatPay$Reader"
def TX5 : u_T := fun k => match k with
  | 0 => ("TollsThatPay$Reader", "signs", "[I", true)
  | 1 => ("TollsThatPay$Reader", "length", "I", false)
  | 2 => ("TollsThatPay$Reader", "place", "I", false)
  | 3 => ("TollsThatPay$Reader", "stop", "I", false)
  | _ => ("TollsThatPay$Reader", "stuck", "Z", false)
def tyX5 : Nat → FieldType := fun k => match k with
  | 0 => .array .int
  | 1 => .int
  | 2 => .int
  | 3 => .int
  | _ => .boolean
abbrev wsX50 : List Cond := u_ws RX5 TX5 5
theorem nmX5 : ∀ a, a < 5 → ∀ b, b < 5 → a ≠ b → (TX5 a).2.1 ≠ (TX5 b).2.1 := by decide +kernel
theorem tyX5_ok : ∀ k, k < 5 → parseFieldDescriptor (TX5 k).2.2.1 = some (tyX5 k) := by decide +kernel
abbrev cX5_init : ByteArray := prog_7_method_1_code
def yX5_init : MethodName := ⟨RX5, "<init>", "()V"⟩
abbrev cX5_push : ByteArray := prog_7_method_2_code
def yX5_push : MethodName := ⟨RX5, "push", "(I)I"⟩
abbrev cX5_cut : ByteArray := prog_7_method_3_code
def yX5_cut : MethodName := ⟨RX5, "cut", "(I)Z"⟩
abbrev cX5_read : ByteArray := prog_7_method_4_code
def yX5_read : MethodName := ⟨RX5, "read", "(LTollsThatPay$Land;)I"⟩
abbrev cX5_readItem : ByteArray := prog_7_method_5_code
def yX5_readItem : MethodName := ⟨RX5, "readItem", "(LTollsThatPay$Land;)V"⟩
abbrev cX5_readRoad : ByteArray := prog_7_method_6_code
def yX5_readRoad : MethodName := ⟨RX5, "readRoad", "(LTollsThatPay$Land;I)V"⟩
abbrev cX5_readJourney : ByteArray := prog_7_method_7_code
def yX5_readJourney : MethodName := ⟨RX5, "readJourney", "(LTollsThatPay$Land;)V"⟩
abbrev cX5_next : ByteArray := prog_7_method_8_code
def yX5_next : MethodName := ⟨RX5, "next", "()I"⟩
abbrev cX5_eat : ByteArray := prog_7_method_9_code
def yX5_eat : MethodName := ⟨RX5, "eat", "(I)Z"⟩
abbrev cX5_want : ByteArray := prog_7_method_10_code
def yX5_want : MethodName := ⟨RX5, "want", "(I)V"⟩
abbrev cX5_corner : ByteArray := prog_7_method_11_code
def yX5_corner : MethodName := ⟨RX5, "corner", "(I)I"⟩
abbrev cX5_digit : ByteArray := prog_7_method_12_code
def yX5_digit : MethodName := ⟨RX5, "digit", "(II)I"⟩
abbrev cX5_numeral : ByteArray := prog_7_method_13_code
def yX5_numeral : MethodName := ⟨RX5, "numeral", "(II)I"⟩
def RX6 : String := "TollsThatPay$Roads"
def TX6 : u_T := fun k => match k with
  | 0 => ("TollsThatPay$Roads", "size", "I", false)
  | 1 => ("TollsThatPay$Roads", "tolled", "I", false)
  | 2 => ("TollsThatPay$Roads", "cap", "I", false)
  | 3 => ("TollsThatPay$Roads", "closed", "I", false)
  | 4 => ("TollsThatPay$Roads", "house", "[I", true)
  | 5 => ("TollsThatPay$Roads", "tolls", "[I", true)
  | 6 => ("TollsThatPay$Roads", "from", "[I", true)
  | 7 => ("TollsThatPay$Roads", "to", "[I", true)
  | 8 => ("TollsThatPay$Roads", "cost", "[I", true)
  | 9 => ("TollsThatPay$Roads", "hours", "[I", true)
  | 10 => ("TollsThatPay$Roads", "slot", "[I", true)
  | _ => ("TollsThatPay$Roads", "roadAt", "[I", true)
def tyX6 : Nat → FieldType := fun k => match k with
  | 0 => .int
  | 1 => .int
  | 2 => .int
  | 3 => .int
  | 4 => .array .int
  | 5 => .array .int
  | 6 => .array .int
  | 7 => .array .int
  | 8 => .array .int
  | 9 => .array .int
  | 10 => .array .int
  | _ => .array .int
abbrev wsX60 : List Cond := u_ws RX6 TX6 12
theorem nmX6 : ∀ a, a < 12 → ∀ b, b < 12 → a ≠ b → (TX6 a).2.1 ≠ (TX6 b).2.1 := by decide +kernel
theorem tyX6_ok : ∀ k, k < 12 → parseFieldDescriptor (TX6 k).2.2.1 = some (tyX6 k) := by decide +kernel
abbrev cX6_init : ByteArray := prog_8_method_1_code
def yX6_init : MethodName := ⟨RX6, "<init>", "()V"⟩
abbrev cX6_copy : ByteArray := prog_8_method_2_code
def yX6_copy : MethodName := ⟨RX6, "copy", "(LTollsThatPay$Roads;)V"⟩
abbrev cX6_add : ByteArray := prog_8_method_3_code
def yX6_add : MethodName := ⟨RX6, "add", "(IIIII)V"⟩
abbrev cX6_setCap : ByteArray := prog_8_method_4_code
def yX6_setCap : MethodName := ⟨RX6, "setCap", "(I)V"⟩
abbrev cX6_shut : ByteArray := prog_8_method_5_code
def yX6_shut : MethodName := ⟨RX6, "shut", "(I)V"⟩
abbrev cX6_has : ByteArray := prog_8_method_6_code
def yX6_has : MethodName := ⟨RX6, "has", "(I)Z"⟩
abbrev cX6_canStand : ByteArray := prog_8_method_7_code
def yX6_canStand : MethodName := ⟨RX6, "canStand", "(III)Z"⟩
abbrev cX6_slotAt : ByteArray := prog_8_method_8_code
def yX6_slotAt : MethodName := ⟨RX6, "slotAt", "(I)I"⟩
abbrev cX6_houseOf : ByteArray := prog_8_method_9_code
def yX6_houseOf : MethodName := ⟨RX6, "houseOf", "(I)I"⟩
abbrev cX6_costOf : ByteArray := prog_8_method_10_code
def yX6_costOf : MethodName := ⟨RX6, "costOf", "(I)I"⟩
abbrev cX6_hoursOf : ByteArray := prog_8_method_11_code
def yX6_hoursOf : MethodName := ⟨RX6, "hoursOf", "(I)I"⟩
abbrev cX6_across : ByteArray := prog_8_method_12_code
def yX6_across : MethodName := ⟨RX6, "across", "(II)I"⟩
abbrev cX6_isOpen : ByteArray := prog_8_method_13_code
def yX6_isOpen : MethodName := ⟨RX6, "isOpen", "(I)Z"⟩
abbrev cX6_sideOf : ByteArray := prog_8_method_14_code
def yX6_sideOf : MethodName := ⟨RX6, "sideOf", "(I)I"⟩
abbrev cX6_allSlots : ByteArray := prog_8_method_15_code
def yX6_allSlots : MethodName := ⟨RX6, "allSlots", "()I"⟩
abbrev cX6_roadsOf : ByteArray := prog_8_method_16_code
def yX6_roadsOf : MethodName := ⟨RX6, "roadsOf", "(I)I"⟩
abbrev cX6_tellOf : ByteArray := prog_8_method_17_code
def yX6_tellOf : MethodName := ⟨RX6, "tellOf", "(II)I"⟩
abbrev cX6_powerOf : ByteArray := prog_8_method_18_code
def yX6_powerOf : MethodName := ⟨RX6, "powerOf", "(II)I"⟩
def RX7 : String := "TollsThatPay$Row"
def TX7 : u_T := fun k => match k with
  | 0 => ("TollsThatPay$Row", "numbers", "[I", true)
  | _ => ("TollsThatPay$Row", "size", "I", false)
def tyX7 : Nat → FieldType := fun k => match k with
  | 0 => .array .int
  | _ => .int
abbrev wsX70 : List Cond := u_ws RX7 TX7 2
theorem nmX7 : ∀ a, a < 2 → ∀ b, b < 2 → a ≠ b → (TX7 a).2.1 ≠ (TX7 b).2.1 := by decide +kernel
theorem tyX7_ok : ∀ k, k < 2 → parseFieldDescriptor (TX7 k).2.2.1 = some (tyX7 k) := by decide +kernel
abbrev cX7_init : ByteArray := prog_9_method_1_code
def yX7_init : MethodName := ⟨RX7, "<init>", "()V"⟩
abbrev cX7_clear : ByteArray := prog_9_method_2_code
def yX7_clear : MethodName := ⟨RX7, "clear", "()V"⟩
abbrev cX7_add : ByteArray := prog_9_method_3_code
def yX7_add : MethodName := ⟨RX7, "add", "(I)V"⟩
abbrev cX7_at : ByteArray := prog_9_method_4_code
def yX7_at : MethodName := ⟨RX7, "at", "(I)I"⟩
def RX8 : String := "TollsThatPay$Sets"
def TX8 : u_T := fun k => match k with
  | 0 => ("TollsThatPay$Sets", "tolls", "[I", true)
  | 1 => ("TollsThatPay$Sets", "sum", "[I", true)
  | 2 => ("TollsThatPay$Sets", "worse", "[I", true)
  | 3 => ("TollsThatPay$Sets", "slots", "I", false)
  | 4 => ("TollsThatPay$Sets", "moved", "I", false)
  | 5 => ("TollsThatPay$Sets", "cap", "I", false)
  | _ => ("TollsThatPay$Sets", "factor", "I", false)
def tyX8 : Nat → FieldType := fun k => match k with
  | 0 => .array .int
  | 1 => .array .int
  | 2 => .array .int
  | 3 => .int
  | 4 => .int
  | 5 => .int
  | _ => .int
abbrev wsX80 : List Cond := u_ws RX8 TX8 7
theorem nmX8 : ∀ a, a < 7 → ∀ b, b < 7 → a ≠ b → (TX8 a).2.1 ≠ (TX8 b).2.1 := by decide +kernel
theorem tyX8_ok : ∀ k, k < 7 → parseFieldDescriptor (TX8 k).2.2.1 = some (tyX8 k) := by decide +kernel
abbrev cX8_init : ByteArray := prog_10_method_1_code
def yX8_init : MethodName := ⟨RX8, "<init>", "()V"⟩
abbrev cX8_begin : ByteArray := prog_10_method_2_code
def yX8_begin : MethodName := ⟨RX8, "begin", "([IIII)I"⟩
abbrev cX8_next : ByteArray := prog_10_method_3_code
def yX8_next : MethodName := ⟨RX8, "next", "()V"⟩
abbrev cX8_reckon : ByteArray := prog_10_method_4_code
def yX8_reckon : MethodName := ⟨RX8, "reckon", "(I)V"⟩
abbrev cX8_sumOf : ByteArray := prog_10_method_5_code
def yX8_sumOf : MethodName := ⟨RX8, "sumOf", "(I)I"⟩
abbrev cX8_placeOf : ByteArray := prog_10_method_6_code
def yX8_placeOf : MethodName := ⟨RX8, "placeOf", "(I)I"⟩
def RX9 : String := "TollsThatPay$Study"
def TX9 : u_T := fun k => match k with
  | 0 => ("TollsThatPay$Study", "chosen", "I", false)
  | 1 => ("TollsThatPay$Study", "brings", "I", false)
  | 2 => ("TollsThatPay$Study", "climbed", "I", false)
  | 3 => ("TollsThatPay$Study", "heights", "[I", true)
  | 4 => ("TollsThatPay$Study", "market", "LTollsThatPay$Market;", true)
  | 5 => ("TollsThatPay$Study", "goers", "LTollsThatPay$Goers;", true)
  | 6 => ("TollsThatPay$Study", "work", "[I", true)
  | 7 => ("TollsThatPay$Study", "line", "[I", true)
  | 8 => ("TollsThatPay$Study", "now", "[I", true)
  | 9 => ("TollsThatPay$Study", "most", "[I", true)
  | _ => ("TollsThatPay$Study", "world", "[I", true)
def tyX9 : Nat → FieldType := fun k => match k with
  | 0 => .int
  | 1 => .int
  | 2 => .int
  | 3 => .array .int
  | 4 => .object "TollsThatPay$Market"
  | 5 => .object "TollsThatPay$Goers"
  | 6 => .array .int
  | 7 => .array .int
  | 8 => .array .int
  | 9 => .array .int
  | _ => .array .int
abbrev wsX90 : List Cond := u_ws RX9 TX9 11
theorem nmX9 : ∀ a, a < 11 → ∀ b, b < 11 → a ≠ b → (TX9 a).2.1 ≠ (TX9 b).2.1 := by decide +kernel
theorem tyX9_ok : ∀ k, k < 11 → parseFieldDescriptor (TX9 k).2.2.1 = some (tyX9 k) := by decide +kernel
abbrev cX9_init : ByteArray := prog_11_method_1_code
def yX9_init : MethodName := ⟨RX9, "<init>", "(LTollsThatPay$Market;LTollsThatPay$Goers;)V"⟩
abbrev cX9_boundOf : ByteArray := prog_11_method_2_code
def yX9_boundOf : MethodName := ⟨RX9, "boundOf", "(I)I"⟩
abbrev cX9_givenOf : ByteArray := prog_11_method_3_code
def yX9_givenOf : MethodName := ⟨RX9, "givenOf", "(I)I"⟩
abbrev cX9_takeIfAsNow : ByteArray := prog_11_method_4_code
def yX9_takeIfAsNow : MethodName := ⟨RX9, "takeIfAsNow", "(I)I"⟩
abbrev cX9_aboveOf : ByteArray := prog_11_method_5_code
def yX9_aboveOf : MethodName := ⟨RX9, "aboveOf", "(II)I"⟩
abbrev cX9_reckonLine : ByteArray := prog_11_method_6_code
def yX9_reckonLine : MethodName := ⟨RX9, "reckonLine", "(I)I"⟩
abbrev cX9_ownerSide : ByteArray := prog_11_method_7_code
def yX9_ownerSide : MethodName := ⟨RX9, "ownerSide", "(I)I"⟩
abbrev cX9_lineFrom : ByteArray := prog_11_method_8_code
def yX9_lineFrom : MethodName := ⟨RX9, "lineFrom", "([III)I"⟩
abbrev cX9_lineAt : ByteArray := prog_11_method_9_code
def yX9_lineAt : MethodName := ⟨RX9, "lineAt", "(I)I"⟩
abbrev cX9_climbOf : ByteArray := prog_11_method_10_code
def yX9_climbOf : MethodName := ⟨RX9, "climbOf", "(I)I"⟩
abbrev cX9_lift : ByteArray := prog_11_method_11_code
def yX9_lift : MethodName := ⟨RX9, "lift", "(II)Z"⟩
abbrev cX9_huntWithFree : ByteArray := prog_11_method_12_code
def yX9_huntWithFree : MethodName := ⟨RX9, "huntWithFree", "(II)I"⟩
abbrev cX9_bestWithFree : ByteArray := prog_11_method_13_code
def yX9_bestWithFree : MethodName := ⟨RX9, "bestWithFree", "(II)I"⟩
abbrev cX9_spareOf : ByteArray := prog_11_method_14_code
def yX9_spareOf : MethodName := ⟨RX9, "spareOf", "(II)I"⟩
abbrev cX9_ceilingOf : ByteArray := prog_11_method_15_code
def yX9_ceilingOf : MethodName := ⟨RX9, "ceilingOf", "(I)I"⟩
abbrev cX9_safeOf : ByteArray := prog_11_method_16_code
def yX9_safeOf : MethodName := ⟨RX9, "safeOf", "(I[I)I"⟩
abbrev cX9_leastTake : ByteArray := prog_11_method_17_code
def yX9_leastTake : MethodName := ⟨RX9, "leastTake", "(I[I)I"⟩
abbrev cX9_worldsWith : ByteArray := prog_11_method_18_code
def yX9_worldsWith : MethodName := ⟨RX9, "worldsWith", "(II)I"⟩
abbrev cX9_clearWorlds : ByteArray := prog_11_method_19_code
def yX9_clearWorlds : MethodName := ⟨RX9, "clearWorlds", "()I"⟩
abbrev cX9_addTo : ByteArray := prog_11_method_20_code
def yX9_addTo : MethodName := ⟨RX9, "addTo", "(II)I"⟩
abbrev cX9_growths : ByteArray := prog_11_method_21_code
def yX9_growths : MethodName := ⟨RX9, "growths", "(II)I"⟩
abbrev cX9_orders : ByteArray := prog_11_method_22_code
def yX9_orders : MethodName := ⟨RX9, "orders", "(I)I"⟩
abbrev cX9_commonPart : ByteArray := prog_11_method_23_code
def yX9_commonPart : MethodName := ⟨RX9, "commonPart", "(II)I"⟩
def RX10 : String := "TollsThatPay$Trip"
def TX10 : u_T := fun k => match k with
  | 0 => ("TollsThatPay$Trip", "roads", "LTollsThatPay$Roads;", false)
  | 1 => ("TollsThatPay$Trip", "goal", "I", false)
  | 2 => ("TollsThatPay$Trip", "known", "I", false)
  | 3 => ("TollsThatPay$Trip", "seen", "I", false)
  | 4 => ("TollsThatPay$Trip", "found", "I", false)
  | 5 => ("TollsThatPay$Trip", "first", "I", false)
  | 6 => ("TollsThatPay$Trip", "behind", "I", false)
  | 7 => ("TollsThatPay$Trip", "cost", "I", false)
  | 8 => ("TollsThatPay$Trip", "hours", "I", false)
  | 9 => ("TollsThatPay$Trip", "mask", "I", false)
  | _ => ("TollsThatPay$Trip", "packed", "I", false)
def tyX10 : Nat → FieldType := fun k => match k with
  | 0 => .object "TollsThatPay$Roads"
  | 1 => .int
  | 2 => .int
  | 3 => .int
  | 4 => .int
  | 5 => .int
  | 6 => .int
  | 7 => .int
  | 8 => .int
  | 9 => .int
  | _ => .int
abbrev wsX100 : List Cond := u_ws RX10 TX10 11
theorem nmX10 : ∀ a, a < 11 → ∀ b, b < 11 → a ≠ b → (TX10 a).2.1 ≠ (TX10 b).2.1 := by decide +kernel
theorem tyX10_ok : ∀ k, k < 11 → parseFieldDescriptor (TX10 k).2.2.1 = some (tyX10 k) := by decide +kernel
abbrev cX10_init : ByteArray := prog_12_method_1_code
def yX10_init : MethodName := ⟨RX10, "<init>", "()V"⟩
abbrev cX10_begin : ByteArray := prog_12_method_2_code
def yX10_begin : MethodName := ⟨RX10, "begin", "(LTollsThatPay$Land;I)V"⟩
abbrev cX10_isThere : ByteArray := prog_12_method_3_code
def yX10_isThere : MethodName := ⟨RX10, "isThere", "(I)Z"⟩
abbrev cX10_isTired : ByteArray := prog_12_method_4_code
def yX10_isTired : MethodName := ⟨RX10, "isTired", "(I)Z"⟩
abbrev cX10_roadsKnown : ByteArray := prog_12_method_5_code
def yX10_roadsKnown : MethodName := ⟨RX10, "roadsKnown", "()I"⟩
abbrev cX10_ahead : ByteArray := prog_12_method_6_code
def yX10_ahead : MethodName := ⟨RX10, "ahead", "(II)I"⟩
abbrev cX10_step : ByteArray := prog_12_method_7_code
def yX10_step : MethodName := ⟨RX10, "step", "(II)V"⟩
abbrev cX10_back : ByteArray := prog_12_method_8_code
def yX10_back : MethodName := ⟨RX10, "back", "(II)V"⟩
def RX11 : String := "TollsThatPay"
def TX11 : u_T := fun k => match k with
  | 0 => ("TollsThatPay", "reader", "LTollsThatPay$Reader;", true)
  | 1 => ("TollsThatPay", "told", "LTollsThatPay$Row;", true)
  | 2 => ("TollsThatPay", "goers", "LTollsThatPay$Goers;", true)
  | 3 => ("TollsThatPay", "market", "LTollsThatPay$Market;", true)
  | 4 => ("TollsThatPay", "study", "LTollsThatPay$Study;", true)
  | 5 => ("TollsThatPay", "duel", "LTollsThatPay$Duel;", true)
  | 6 => ("TollsThatPay", "weights", "[I", true)
  | 7 => ("TollsThatPay", "land", "LTollsThatPay$Land;", false)
  | 8 => ("TollsThatPay", "draft", "LTollsThatPay$Land;", false)
  | _ => ("TollsThatPay", "leaning", "I", false)
def tyX11 : Nat → FieldType := fun k => match k with
  | 0 => .object "TollsThatPay$Reader"
  | 1 => .object "TollsThatPay$Row"
  | 2 => .object "TollsThatPay$Goers"
  | 3 => .object "TollsThatPay$Market"
  | 4 => .object "TollsThatPay$Study"
  | 5 => .object "TollsThatPay$Duel"
  | 6 => .array .int
  | 7 => .object "TollsThatPay$Land"
  | 8 => .object "TollsThatPay$Land"
  | _ => .int
abbrev wsX110 : List Cond := u_ws RX11 TX11 10
theorem nmX11 : ∀ a, a < 10 → ∀ b, b < 10 → a ≠ b → (TX11 a).2.1 ≠ (TX11 b).2.1 := by decide +kernel
theorem tyX11_ok : ∀ k, k < 10 → parseFieldDescriptor (TX11 k).2.2.1 = some (tyX11 k) := by decide +kernel
abbrev cX11_init : ByteArray := prog_1_method_1_code
def yX11_init : MethodName := ⟨RX11, "<init>", "()V"⟩
abbrev cX11_sign : ByteArray := prog_1_method_2_code
def yX11_sign : MethodName := ⟨RX11, "sign", "(I)I"⟩
abbrev cX11_end : ByteArray := prog_1_method_3_code
def yX11_end : MethodName := ⟨RX11, "end", "(I)Z"⟩
abbrev cX11_tell : ByteArray := prog_1_method_4_code
def yX11_tell : MethodName := ⟨RX11, "tell", "()I"⟩
abbrev cX11_toll : ByteArray := prog_1_method_5_code
def yX11_toll : MethodName := ⟨RX11, "toll", "(II)I"⟩
abbrev cX11_lean : ByteArray := prog_1_method_6_code
def yX11_lean : MethodName := ⟨RX11, "lean", "(I)I"⟩
abbrev cX11_way : ByteArray := prog_1_method_7_code
def yX11_way : MethodName := ⟨RX11, "way", "(II)I"⟩
abbrev cX11_pains : ByteArray := prog_1_method_8_code
def yX11_pains : MethodName := ⟨RX11, "pains", "(II)I"⟩
abbrev cX11_room : ByteArray := prog_1_method_9_code
def yX11_room : MethodName := ⟨RX11, "room", "(II)I"⟩
abbrev cX11_take : ByteArray := prog_1_method_10_code
def yX11_take : MethodName := ⟨RX11, "take", "(I)I"⟩
abbrev cX11_suffered : ByteArray := prog_1_method_11_code
def yX11_suffered : MethodName := ⟨RX11, "suffered", "()I"⟩
abbrev cX11_by : ByteArray := prog_1_method_12_code
def yX11_by : MethodName := ⟨RX11, "by", "(I)I"⟩
abbrev cX11_ways : ByteArray := prog_1_method_13_code
def yX11_ways : MethodName := ⟨RX11, "ways", "(I)I"⟩
abbrev cX11_best : ByteArray := prog_1_method_14_code
def yX11_best : MethodName := ⟨RX11, "best", "(I)I"⟩
abbrev cX11_set : ByteArray := prog_1_method_15_code
def yX11_set : MethodName := ⟨RX11, "set", "(I)I"⟩
abbrev cX11_ties : ByteArray := prog_1_method_16_code
def yX11_ties : MethodName := ⟨RX11, "ties", "(I)I"⟩
abbrev cX11_bound : ByteArray := prog_1_method_17_code
def yX11_bound : MethodName := ⟨RX11, "bound", "(I)I"⟩
abbrev cX11_given : ByteArray := prog_1_method_18_code
def yX11_given : MethodName := ⟨RX11, "given", "(I)I"⟩
abbrev cX11_above : ByteArray := prog_1_method_19_code
def yX11_above : MethodName := ⟨RX11, "above", "(II)I"⟩
abbrev cX11_line : ByteArray := prog_1_method_20_code
def yX11_line : MethodName := ⟨RX11, "line", "(I)I"⟩
abbrev cX11_bends : ByteArray := prog_1_method_21_code
def yX11_bends : MethodName := ⟨RX11, "bends", "(I)I"⟩
abbrev cX11_climb : ByteArray := prog_1_method_22_code
def yX11_climb : MethodName := ⟨RX11, "climb", "(I)I"⟩
abbrev cX11_gap : ByteArray := prog_1_method_23_code
def yX11_gap : MethodName := ⟨RX11, "gap", "(I)I"⟩
abbrev cX11_times : ByteArray := prog_1_method_24_code
def yX11_times : MethodName := ⟨RX11, "times", "(I)I"⟩
abbrev cX11_answers : ByteArray := prog_1_method_25_code
def yX11_answers : MethodName := ⟨RX11, "answers", "(I)I"⟩
abbrev cX11_rests : ByteArray := prog_1_method_26_code
def yX11_rests : MethodName := ⟨RX11, "rests", "()I"⟩
abbrev cX11_spare : ByteArray := prog_1_method_27_code
def yX11_spare : MethodName := ⟨RX11, "spare", "(II)I"⟩
abbrev cX11_ceiling : ByteArray := prog_1_method_28_code
def yX11_ceiling : MethodName := ⟨RX11, "ceiling", "(I)I"⟩
abbrev cX11_without : ByteArray := prog_1_method_29_code
def yX11_without : MethodName := ⟨RX11, "without", "(II)I"⟩
abbrev cX11_ford : ByteArray := prog_1_method_30_code
def yX11_ford : MethodName := ⟨RX11, "ford", "(IIII)I"⟩
abbrev cX11_weight : ByteArray := prog_1_method_31_code
def yX11_weight : MethodName := ⟨RX11, "weight", "(II)I"⟩
abbrev cX11_mean : ByteArray := prog_1_method_32_code
def yX11_mean : MethodName := ⟨RX11, "mean", "(I)I"⟩
abbrev cX11_safe : ByteArray := prog_1_method_33_code
def yX11_safe : MethodName := ⟨RX11, "safe", "(I)I"⟩
abbrev cX11_learn : ByteArray := prog_1_method_34_code
def yX11_learn : MethodName := ⟨RX11, "learn", "(II)I"⟩
abbrev cX11_last : ByteArray := prog_1_method_35_code
def yX11_last : MethodName := ⟨RX11, "last", "(I)I"⟩
abbrev cX11_fair : ByteArray := prog_1_method_36_code
def yX11_fair : MethodName := ⟨RX11, "fair", "(I)I"⟩
abbrev cX11_count : ByteArray := prog_1_method_37_code
def yX11_count : MethodName := ⟨RX11, "count", "(I)I"⟩
abbrev cX11_of : ByteArray := prog_1_method_38_code
def yX11_of : MethodName := ⟨RX11, "of", "(II)I"⟩
abbrev cX11_row : ByteArray := prog_1_method_39_code
def yX11_row : MethodName := ⟨RX11, "row", "(I)I"⟩
abbrev cX11_openNow : ByteArray := prog_1_method_40_code
def yX11_openNow : MethodName := ⟨RX11, "openNow", "()V"⟩
abbrev cX11_isHouse : ByteArray := prog_1_method_41_code
def yX11_isHouse : MethodName := ⟨RX11, "isHouse", "(I)Z"⟩
abbrev cX11_canSeek : ByteArray := prog_1_method_42_code
def yX11_canSeek : MethodName := ⟨RX11, "canSeek", "(I)Z"⟩
abbrev cX11_isAnyWeight : ByteArray := prog_1_method_43_code
def yX11_isAnyWeight : MethodName := ⟨RX11, "isAnyWeight", "()Z"⟩
abbrev cX11_tellFound : ByteArray := prog_1_method_44_code
def yX11_tellFound : MethodName := ⟨RX11, "tellFound", "(I)V"⟩
abbrev cX11_tellTolls : ByteArray := prog_1_method_45_code
def yX11_tellTolls : MethodName := ⟨RX11, "tellTolls", "([II)V"⟩
def RX12 : String := "TollsThatPayModel"
def TX12 : u_T := fun k => match k with
  | 0 => ("TollsThatPayModel", "roadA", "[I", true)
  | 1 => ("TollsThatPayModel", "roadB", "[I", true)
  | 2 => ("TollsThatPayModel", "cost", "[I", true)
  | 3 => ("TollsThatPayModel", "hours", "[I", true)
  | 4 => ("TollsThatPayModel", "house", "[I", true)
  | 5 => ("TollsThatPayModel", "roads", "I", false)
  | 6 => ("TollsThatPayModel", "tolled", "[I", true)
  | 7 => ("TollsThatPayModel", "tolls", "[I", true)
  | 8 => ("TollsThatPayModel", "tolledMany", "I", false)
  | 9 => ("TollsThatPayModel", "cap", "I", false)
  | 10 => ("TollsThatPayModel", "lean", "I", false)
  | 11 => ("TollsThatPayModel", "from", "[I", true)
  | 12 => ("TollsThatPayModel", "to", "[I", true)
  | 13 => ("TollsThatPayModel", "each", "[I", true)
  | 14 => ("TollsThatPayModel", "worthLow", "[I", true)
  | 15 => ("TollsThatPayModel", "worthHigh", "[I", true)
  | 16 => ("TollsThatPayModel", "isCrowd", "[Z", true)
  | 17 => ("TollsThatPayModel", "slow", "[I", true)
  | 18 => ("TollsThatPayModel", "home", "[I", true)
  | 19 => ("TollsThatPayModel", "time", "[I", true)
  | 20 => ("TollsThatPayModel", "journeys", "I", false)
  | 21 => ("TollsThatPayModel", "weights", "[I", true)
  | 22 => ("TollsThatPayModel", "text", "[B", true)
  | 23 => ("TollsThatPayModel", "typed", "I", false)
  | 24 => ("TollsThatPayModel", "row", "[I", true)
  | 25 => ("TollsThatPayModel", "rowMany", "I", false)
  | 26 => ("TollsThatPayModel", "thrown", "I", false)
  | 27 => ("TollsThatPayModel", "size", "I", false)
  | 28 => ("TollsThatPayModel", "at", "I", false)
  | 29 => ("TollsThatPayModel", "wrong", "I", false)
  | 30 => ("TollsThatPayModel", "item", "[C", true)
  | 31 => ("TollsThatPayModel", "itemA", "[I", true)
  | 32 => ("TollsThatPayModel", "itemB", "[I", true)
  | 33 => ("TollsThatPayModel", "itemN", "[I", true)
  | 34 => ("TollsThatPayModel", "itemHours", "[I", true)
  | 35 => ("TollsThatPayModel", "itemLow", "[I", true)
  | 36 => ("TollsThatPayModel", "itemHigh", "[I", true)
  | 37 => ("TollsThatPayModel", "itemCrowd", "[Z", true)
  | 38 => ("TollsThatPayModel", "itemSlow", "[I", true)
  | 39 => ("TollsThatPayModel", "itemHome", "[I", true)
  | 40 => ("TollsThatPayModel", "itemTime", "[I", true)
  | 41 => ("TollsThatPayModel", "items", "I", false)
  | 42 => ("TollsThatPayModel", "ways", "[I", true)
  | 43 => ("TollsThatPayModel", "wayLong", "[I", true)
  | 44 => ("TollsThatPayModel", "wayMany", "[I", true)
  | 45 => ("TollsThatPayModel", "path", "[I", true)
  | 46 => ("TollsThatPayModel", "goerJourney", "[I", true)
  | 47 => ("TollsThatPayModel", "goerWorth", "[I", true)
  | 48 => ("TollsThatPayModel", "goers", "I", false)
  | 49 => ("TollsThatPayModel", "bestWay", "[I", true)
  | 50 => ("TollsThatPayModel", "bestPains", "[I", true)
  | 51 => ("TollsThatPayModel", "asked", "[I", true)
  | 52 => ("TollsThatPayModel", "houseBits", "[I", true)
  | 53 => ("TollsThatPayModel", "takes", "[I", true)
  | 54 => ("TollsThatPayModel", "sufferedAll", "I", false)
  | 55 => ("TollsThatPayModel", "places", "[I", true)
  | 56 => ("TollsThatPayModel", "placeMany", "I", false)
  | 57 => ("TollsThatPayModel", "kept", "[I", true)
  | 58 => ("TollsThatPayModel", "bestTolls", "[I", true)
  | 59 => ("TollsThatPayModel", "bestSuffered", "I", false)
  | 60 => ("TollsThatPayModel", "goerMost", "[I", true)
  | 61 => ("TollsThatPayModel", "goerWay", "[I", true)
  | 62 => ("TollsThatPayModel", "byToll", "[I", true)
  | 63 => ("TollsThatPayModel", "climbed", "I", false)
  | 64 => ("TollsThatPayModel", "atFirst", "[I", true)
  | 65 => ("TollsThatPayModel", "behind", "[I", true)
  | 66 => ("TollsThatPayModel", "takeOne", "[I", true)
  | 67 => ("TollsThatPayModel", "takeTwo", "[I", true)
  | 68 => ("TollsThatPayModel", "mostOne", "[I", true)
  | 69 => ("TollsThatPayModel", "mostTwo", "[I", true)
  | 70 => ("TollsThatPayModel", "sums", "[I", true)
  | 71 => ("TollsThatPayModel", "leasts", "[I", true)
  | 72 => ("TollsThatPayModel", "worthOf", "[I", true)
  | 73 => ("TollsThatPayModel", "grown", "J", false)
  | _ => ("TollsThatPayModel", "orderMany", "I", false)
def tyX12 : Nat → FieldType := fun k => match k with
  | 0 => .array .int
  | 1 => .array .int
  | 2 => .array .int
  | 3 => .array .int
  | 4 => .array .int
  | 5 => .int
  | 6 => .array .int
  | 7 => .array .int
  | 8 => .int
  | 9 => .int
  | 10 => .int
  | 11 => .array .int
  | 12 => .array .int
  | 13 => .array .int
  | 14 => .array .int
  | 15 => .array .int
  | 16 => .array .boolean
  | 17 => .array .int
  | 18 => .array .int
  | 19 => .array .int
  | 20 => .int
  | 21 => .array .int
  | 22 => .array .byte
  | 23 => .int
  | 24 => .array .int
  | 25 => .int
  | 26 => .int
  | 27 => .int
  | 28 => .int
  | 29 => .int
  | 30 => .array .char
  | 31 => .array .int
  | 32 => .array .int
  | 33 => .array .int
  | 34 => .array .int
  | 35 => .array .int
  | 36 => .array .int
  | 37 => .array .boolean
  | 38 => .array .int
  | 39 => .array .int
  | 40 => .array .int
  | 41 => .int
  | 42 => .array .int
  | 43 => .array .int
  | 44 => .array .int
  | 45 => .array .int
  | 46 => .array .int
  | 47 => .array .int
  | 48 => .int
  | 49 => .array .int
  | 50 => .array .int
  | 51 => .array .int
  | 52 => .array .int
  | 53 => .array .int
  | 54 => .int
  | 55 => .array .int
  | 56 => .int
  | 57 => .array .int
  | 58 => .array .int
  | 59 => .int
  | 60 => .array .int
  | 61 => .array .int
  | 62 => .array .int
  | 63 => .int
  | 64 => .array .int
  | 65 => .array .int
  | 66 => .array .int
  | 67 => .array .int
  | 68 => .array .int
  | 69 => .array .int
  | 70 => .array .int
  | 71 => .array .int
  | 72 => .array .int
  | 73 => .long
  | _ => .int
abbrev wsX120 : List Cond := u_ws RX12 TX12 75
theorem nmX12 : ∀ a, a < 75 → ∀ b, b < 75 → a ≠ b → (TX12 a).2.1 ≠ (TX12 b).2.1 := by decide +kernel
theorem tyX12_ok : ∀ k, k < 75 → parseFieldDescriptor (TX12 k).2.2.1 = some (tyX12 k) := by decide +kernel
abbrev cX12_init : ByteArray := prog_14_method_1_code
def yX12_init : MethodName := ⟨RX12, "<init>", "()V"⟩
abbrev cX12_thrown : ByteArray := prog_14_method_2_code
def yX12_thrown : MethodName := ⟨RX12, "thrown", "()I"⟩
abbrev cX12_in : ByteArray := prog_14_method_3_code
def yX12_in : MethodName := ⟨RX12, "in", "(III)Z"⟩
abbrev cX12_lost : ByteArray := prog_14_method_4_code
def yX12_lost : MethodName := ⟨RX12, "lost", "()I"⟩
abbrev cX12_tell : ByteArray := prog_14_method_5_code
def yX12_tell : MethodName := ⟨RX12, "tell", "(I)V"⟩
abbrev cX12_isRoad : ByteArray := prog_14_method_6_code
def yX12_isRoad : MethodName := ⟨RX12, "isRoad", "(I)Z"⟩
abbrev cX12_isJourney : ByteArray := prog_14_method_7_code
def yX12_isJourney : MethodName := ⟨RX12, "isJourney", "(I)Z"⟩
abbrev cX12_isHouse : ByteArray := prog_14_method_8_code
def yX12_isHouse : MethodName := ⟨RX12, "isHouse", "(I)Z"⟩
abbrev cX12_tollOf : ByteArray := prog_14_method_9_code
def yX12_tollOf : MethodName := ⟨RX12, "tollOf", "(I)I"⟩
abbrev cX12_sign : ByteArray := prog_14_method_10_code
def yX12_sign : MethodName := ⟨RX12, "sign", "(I)I"⟩
abbrev cX12_end : ByteArray := prog_14_method_11_code
def yX12_end : MethodName := ⟨RX12, "end", "(I)Z"⟩
abbrev cX12_here : ByteArray := prog_14_method_12_code
def yX12_here : MethodName := ⟨RX12, "here", "()I"⟩
abbrev cX12_passes : ByteArray := prog_14_method_13_code
def yX12_passes : MethodName := ⟨RX12, "passes", "(C)Z"⟩
abbrev cX12_fine : ByteArray := prog_14_method_14_code
def yX12_fine : MethodName := ⟨RX12, "fine", "()Z"⟩
abbrev cX12_isWrong : ByteArray := prog_14_method_15_code
def yX12_isWrong : MethodName := ⟨RX12, "isWrong", "(I)V"⟩
abbrev cX12_corner : ByteArray := prog_14_method_16_code
def yX12_corner : MethodName := ⟨RX12, "corner", "(I)I"⟩
abbrev cX12_digit : ByteArray := prog_14_method_17_code
def yX12_digit : MethodName := ⟨RX12, "digit", "(II)I"⟩
abbrev cX12_number : ByteArray := prog_14_method_18_code
def yX12_number : MethodName := ⟨RX12, "number", "(II)I"⟩
abbrev cX12_readItem : ByteArray := prog_14_method_19_code
def yX12_readItem : MethodName := ⟨RX12, "readItem", "()V"⟩
abbrev cX12_readJourney : ByteArray := prog_14_method_20_code
def yX12_readJourney : MethodName := ⟨RX12, "readJourney", "(I)V"⟩
abbrev cX12_tell_ : ByteArray := prog_14_method_21_code
def yX12_tell_ : MethodName := ⟨RX12, "tell", "()I"⟩
abbrev cX12_tellItem : ByteArray := prog_14_method_22_code
def yX12_tellItem : MethodName := ⟨RX12, "tellItem", "(I)V"⟩
abbrev cX12_findWays : ByteArray := prog_14_method_23_code
def yX12_findWays : MethodName := ⟨RX12, "findWays", "()Z"⟩
abbrev cX12_goOn : ByteArray := prog_14_method_24_code
def yX12_goOn : MethodName := ⟨RX12, "goOn", "(IIIII)Z"⟩
abbrev cX12_has : ByteArray := prog_14_method_25_code
def yX12_has : MethodName := ⟨RX12, "has", "(II)Z"⟩
abbrev cX12_plainPains : ByteArray := prog_14_method_26_code
def yX12_plainPains : MethodName := ⟨RX12, "plainPains", "(III)I"⟩
abbrev cX12_maskOf : ByteArray := prog_14_method_27_code
def yX12_maskOf : MethodName := ⟨RX12, "maskOf", "(I)I"⟩
abbrev cX12_addGoer : ByteArray := prog_14_method_28_code
def yX12_addGoer : MethodName := ⟨RX12, "addGoer", "(III)V"⟩
abbrev cX12_gather : ByteArray := prog_14_method_29_code
def yX12_gather : MethodName := ⟨RX12, "gather", "(III)V"⟩
abbrev cX12_gatherAll : ByteArray := prog_14_method_30_code
def yX12_gatherAll : MethodName := ⟨RX12, "gatherAll", "()V"⟩
abbrev cX12_ask : ByteArray := prog_14_method_31_code
def yX12_ask : MethodName := ⟨RX12, "ask", "()V"⟩
abbrev cX12_choose : ByteArray := prog_14_method_32_code
def yX12_choose : MethodName := ⟨RX12, "choose", "(I)I"⟩
abbrev cX12_isAhead : ByteArray := prog_14_method_33_code
def yX12_isAhead : MethodName := ⟨RX12, "isAhead", "(IIII)Z"⟩
abbrev cX12_work : ByteArray := prog_14_method_34_code
def yX12_work : MethodName := ⟨RX12, "work", "()V"⟩
abbrev cX12_toll : ByteArray := prog_14_method_35_code
def yX12_toll : MethodName := ⟨RX12, "toll", "(II)I"⟩
abbrev cX12_lean : ByteArray := prog_14_method_36_code
def yX12_lean : MethodName := ⟨RX12, "lean", "(I)I"⟩
abbrev cX12_goerOf : ByteArray := prog_14_method_37_code
def yX12_goerOf : MethodName := ⟨RX12, "goerOf", "(II)I"⟩
abbrev cX12_wayOf : ByteArray := prog_14_method_38_code
def yX12_wayOf : MethodName := ⟨RX12, "wayOf", "(I)I"⟩
abbrev cX12_asks : ByteArray := prog_14_method_39_code
def yX12_asks : MethodName := ⟨RX12, "asks", "(II)I"⟩
abbrev cX12_way : ByteArray := prog_14_method_40_code
def yX12_way : MethodName := ⟨RX12, "way", "(II)I"⟩
abbrev cX12_pains : ByteArray := prog_14_method_41_code
def yX12_pains : MethodName := ⟨RX12, "pains", "(II)I"⟩
abbrev cX12_room : ByteArray := prog_14_method_42_code
def yX12_room : MethodName := ⟨RX12, "room", "(II)I"⟩
abbrev cX12_take : ByteArray := prog_14_method_43_code
def yX12_take : MethodName := ⟨RX12, "take", "(I)I"⟩
abbrev cX12_suffered : ByteArray := prog_14_method_44_code
def yX12_suffered : MethodName := ⟨RX12, "suffered", "()I"⟩
abbrev cX12_by : ByteArray := prog_14_method_45_code
def yX12_by : MethodName := ⟨RX12, "by", "(I)I"⟩
abbrev cX12_goBy : ByteArray := prog_14_method_46_code
def yX12_goBy : MethodName := ⟨RX12, "goBy", "(I)I"⟩
abbrev cX12_ways : ByteArray := prog_14_method_47_code
def yX12_ways : MethodName := ⟨RX12, "ways", "(I)I"⟩
abbrev cX12_keep : ByteArray := prog_14_method_48_code
def yX12_keep : MethodName := ⟨RX12, "keep", "()V"⟩
abbrev cX12_putBack : ByteArray := prog_14_method_49_code
def yX12_putBack : MethodName := ⟨RX12, "putBack", "()V"⟩
abbrev cX12_lay : ByteArray := prog_14_method_50_code
def yX12_lay : MethodName := ⟨RX12, "lay", "(II)V"⟩
abbrev cX12_next : ByteArray := prog_14_method_51_code
def yX12_next : MethodName := ⟨RX12, "next", "(I)Z"⟩
abbrev cX12_areFew : ByteArray := prog_14_method_52_code
def yX12_areFew : MethodName := ⟨RX12, "areFew", "(II)Z"⟩
abbrev cX12_canSet : ByteArray := prog_14_method_53_code
def yX12_canSet : MethodName := ⟨RX12, "canSet", "(I)Z"⟩
abbrev cX12_bestOf : ByteArray := prog_14_method_54_code
def yX12_bestOf : MethodName := ⟨RX12, "bestOf", "(III)I"⟩
abbrev cX12_tellTolls : ByteArray := prog_14_method_55_code
def yX12_tellTolls : MethodName := ⟨RX12, "tellTolls", "([II)V"⟩
abbrev cX12_best : ByteArray := prog_14_method_56_code
def yX12_best : MethodName := ⟨RX12, "best", "(I)I"⟩
abbrev cX12_set : ByteArray := prog_14_method_57_code
def yX12_set : MethodName := ⟨RX12, "set", "(I)I"⟩
abbrev cX12_ties : ByteArray := prog_14_method_58_code
def yX12_ties : MethodName := ⟨RX12, "ties", "(I)I"⟩
abbrev cX12_bound : ByteArray := prog_14_method_59_code
def yX12_bound : MethodName := ⟨RX12, "bound", "(I)I"⟩
abbrev cX12_given : ByteArray := prog_14_method_60_code
def yX12_given : MethodName := ⟨RX12, "given", "(I)I"⟩
abbrev cX12_above : ByteArray := prog_14_method_61_code
def yX12_above : MethodName := ⟨RX12, "above", "(II)I"⟩
abbrev cX12_goLine : ByteArray := prog_14_method_62_code
def yX12_goLine : MethodName := ⟨RX12, "goLine", "(I)V"⟩
abbrev cX12_placeOf : ByteArray := prog_14_method_63_code
def yX12_placeOf : MethodName := ⟨RX12, "placeOf", "(I)I"⟩
abbrev cX12_line : ByteArray := prog_14_method_64_code
def yX12_line : MethodName := ⟨RX12, "line", "(I)I"⟩
abbrev cX12_bends : ByteArray := prog_14_method_65_code
def yX12_bends : MethodName := ⟨RX12, "bends", "(I)I"⟩
abbrev cX12_climbOf : ByteArray := prog_14_method_66_code
def yX12_climbOf : MethodName := ⟨RX12, "climbOf", "(I)I"⟩
abbrev cX12_climb : ByteArray := prog_14_method_67_code
def yX12_climb : MethodName := ⟨RX12, "climb", "(I)I"⟩
abbrev cX12_gap : ByteArray := prog_14_method_68_code
def yX12_gap : MethodName := ⟨RX12, "gap", "(I)I"⟩
abbrev cX12_times : ByteArray := prog_14_method_69_code
def yX12_times : MethodName := ⟨RX12, "times", "(I)I"⟩
abbrev cX12_wasAhead : ByteArray := prog_14_method_70_code
def yX12_wasAhead : MethodName := ⟨RX12, "wasAhead", "(I)Z"⟩
abbrev cX12_answers : ByteArray := prog_14_method_71_code
def yX12_answers : MethodName := ⟨RX12, "answers", "(I)I"⟩
abbrev cX12_numberOf : ByteArray := prog_14_method_72_code
def yX12_numberOf : MethodName := ⟨RX12, "numberOf", "(I)I"⟩
abbrev cX12_layAll : ByteArray := prog_14_method_73_code
def yX12_layAll : MethodName := ⟨RX12, "layAll", "()V"⟩
abbrev cX12_rests : ByteArray := prog_14_method_74_code
def yX12_rests : MethodName := ⟨RX12, "rests", "()I"⟩
abbrev cX12_roadBits : ByteArray := prog_14_method_75_code
def yX12_roadBits : MethodName := ⟨RX12, "roadBits", "(I)I"⟩
abbrev cX12_spare : ByteArray := prog_14_method_76_code
def yX12_spare : MethodName := ⟨RX12, "spare", "(II)I"⟩
abbrev cX12_ceiling : ByteArray := prog_14_method_77_code
def yX12_ceiling : MethodName := ⟨RX12, "ceiling", "(I)I"⟩
abbrev cX12_without : ByteArray := prog_14_method_78_code
def yX12_without : MethodName := ⟨RX12, "without", "(II)I"⟩
abbrev cX12_ford : ByteArray := prog_14_method_79_code
def yX12_ford : MethodName := ⟨RX12, "ford", "(IIII)I"⟩
abbrev cX12_weight : ByteArray := prog_14_method_80_code
def yX12_weight : MethodName := ⟨RX12, "weight", "(II)I"⟩
abbrev cX12_byWorths : ByteArray := prog_14_method_81_code
def yX12_byWorths : MethodName := ⟨RX12, "byWorths", "(I)I"⟩
abbrev cX12_tellSet : ByteArray := prog_14_method_82_code
def yX12_tellSet : MethodName := ⟨RX12, "tellSet", "(II)V"⟩
abbrev cX12_mean : ByteArray := prog_14_method_83_code
def yX12_mean : MethodName := ⟨RX12, "mean", "(I)I"⟩
abbrev cX12_safe : ByteArray := prog_14_method_84_code
def yX12_safe : MethodName := ⟨RX12, "safe", "(I)I"⟩
abbrev cX12_learn : ByteArray := prog_14_method_85_code
def yX12_learn : MethodName := ⟨RX12, "learn", "(II)I"⟩
abbrev cX12_last : ByteArray := prog_14_method_86_code
def yX12_last : MethodName := ⟨RX12, "last", "(I)I"⟩
abbrev cX12_orders : ByteArray := prog_14_method_87_code
def yX12_orders : MethodName := ⟨RX12, "orders", "(III)V"⟩
abbrev cX12_fair : ByteArray := prog_14_method_88_code
def yX12_fair : MethodName := ⟨RX12, "fair", "(I)I"⟩
abbrev cX12_count : ByteArray := prog_14_method_89_code
def yX12_count : MethodName := ⟨RX12, "count", "(I)I"⟩
abbrev cX12_of : ByteArray := prog_14_method_90_code
def yX12_of : MethodName := ⟨RX12, "of", "(II)I"⟩
abbrev cX12_row : ByteArray := prog_14_method_91_code
def yX12_row : MethodName := ⟨RX12, "row", "(I)I"⟩
def RJx145de : String := "java/io/Serializable"
def RJ6 : String := "java/lang/Integer"
abbrev cJ6_numberOfTrailingZeros_0f7a4 : ByteArray := prog_17_method_48_code
def yJ6_numberOfTrailingZeros_0f7a4 : MethodName := ⟨RJ6, "numberOfTrailingZeros", "(I)I"⟩
abbrev cJ6_bitCount_0f7a4 : ByteArray := prog_17_method_49_code
def yJ6_bitCount_0f7a4 : MethodName := ⟨RJ6, "bitCount", "(I)I"⟩
def RJ9 : String := "java/lang/Math"
abbrev cJ9_abs_0f7a4 : ByteArray := prog_18_method_59_code
def yJ9_abs_0f7a4 : MethodName := ⟨RJ9, "abs", "(I)I"⟩
abbrev cJ9_max_7cf53 : ByteArray := prog_18_method_65_code
def yJ9_max_7cf53 : MethodName := ⟨RJ9, "max", "(II)I"⟩
abbrev cJ9_min_7cf53 : ByteArray := prog_18_method_69_code
def yJ9_min_7cf53 : MethodName := ⟨RJ9, "min", "(II)I"⟩
def RJ10 : String := "java/lang/System"
def RL : String := "TollsThatPayLaw"
abbrev cL_of : ByteArray := method_3_code
def yL_of : MethodName := ⟨RL, "of", "(LTollsThatPay;II[J)I"⟩
abbrev cL_row : ByteArray := method_4_code
def yL_row : MethodName := ⟨RL, "row", "(LTollsThatPay;I[J)I"⟩
abbrev cL_law : ByteArray := code
def yL_law : MethodName := ⟨RL, "law", "([I)Z"⟩
abbrev vwCl : List vw_C := [(RX0, TX0, 4), (RX1, TX1, 13), (RX2, TX2, 10), (RX3, TX3, 2), (RX4, TX4, 6), (RX5, TX5, 5), (RX6, TX6, 12), (RX7, TX7, 2), (RX8, TX8, 7), (RX9, TX9, 11), (RX10, TX10, 11), (RX11, TX11, 10), (RX12, TX12, 75)]
end
section
/-- place, instruction, length, what its operands mean, and where the table says so -/
abbrev z_E : Type := Nat × Instr × Nat × Nat × Nat × Nat × Int × Nat
def z_at {α : Type} : List α → Nat → α → α
  | [], _, d => d
  | a :: _, 0, _ => a
  | _ :: l, n + 1, d => z_at l n d
/-- TollsThatPay$Duel.<init>(LTollsThatPay$Market;)V -/
def z_c0 : List z_E := [(0, .aload_n 0, 1, 0, 0, 0, 0, 0),
  (1, .invokespecial 1, 3, 9998, 0, 0, 0, 476),
  (4, .aload_n 0, 1, 0, 0, 0, 0, 0),
  (5, .iconst 5, 1, 0, 0, 0, 5, 0),
  (6, .newarray .int, 2, 1, 0, 0, 0, 135),
  (8, .putfield 9, 3, 0, 0, 1, 0, 477),
  (11, .aload_n 0, 1, 0, 0, 0, 0, 0),
  (12, .bipush 60, 2, 0, 0, 0, 60, 0),
  (14, .newarray .int, 2, 1, 0, 0, 0, 135),
  (16, .putfield 15, 3, 0, 2, 1, 0, 480),
  (19, .aload_n 0, 1, 0, 0, 0, 0, 0),
  (20, .sipush 2001, 3, 0, 0, 0, 2001, 0),
  (23, .newarray .int, 2, 1, 0, 0, 0, 135),
  (25, .putfield 18, 3, 0, 3, 1, 0, 481),
  (28, .aload_n 0, 1, 0, 0, 0, 0, 0),
  (29, .aload_n 1, 1, 0, 0, 0, 0, 0),
  (30, .putfield 21, 3, 0, 1, 1, 0, 479),
  (33, .return_, 1, 0, 0, 0, 0, 0)]
/-- TollsThatPay$Duel.brought(I[ILTollsThatPay$Roads;)I -/
def z_c1 : List z_E := [(0, .aload_n 0, 1, 0, 0, 0, 0, 0),
  (1, .getfield 21, 3, 0, 1, 1, 0, 479),
  (4, .aload_n 2, 1, 0, 0, 0, 0, 0),
  (5, .invokevirtual 25, 3, 404, 2, 0, 4, 1076),
  (8, .aload_n 0, 1, 0, 0, 0, 0, 0),
  (9, .getfield 21, 3, 0, 1, 1, 0, 479),
  (12, .aload_n 3, 1, 0, 0, 0, 0, 0),
  (13, .iload_n 1, 1, 0, 0, 0, 0, 0),
  (14, .invokevirtual 31, 3, 613, 2, 1, 6, 1066),
  (17, .invokevirtual 35, 3, 409, 2, 1, 4, 1077),
  (20, .ireturn, 1, 1, 0, 0, 0, 0)]
/-- TollsThatPay$Duel.answer(ILTollsThatPay$Roads;)I -/
def z_c2 : List z_E := [(0, .aload_n 2, 1, 0, 0, 0, 0, 0),
  (1, .getfield 38, 3, 6, 5, 1, 0, 182),
  (4, .iconst 0, 1, 0, 0, 0, 0, 0),
  (5, .aload_n 0, 1, 0, 0, 0, 0, 0),
  (6, .getfield 9, 3, 0, 0, 1, 0, 477),
  (9, .iconst 0, 1, 0, 0, 0, 0, 0),
  (10, .aload_n 0, 1, 0, 0, 0, 0, 0),
  (11, .getfield 9, 3, 0, 0, 1, 0, 477),
  (14, .arraylength, 1, 0, 0, 0, 0, 0),
  (15, .invokestatic 39, 3, 9999, 0, 0, 0, 1061),
  (18, .iconst 0, 1, 0, 0, 0, 0, 0),
  (19, .istore_n 3, 1, 0, 0, 0, 0, 0),
  (20, .iconst 0, 1, 0, 0, 0, 0, 0),
  (21, .istore 4, 2, 0, 0, 0, 0, 0),
  (23, .iload 4, 2, 0, 0, 0, 0, 0),
  (25, .iload_n 1, 1, 0, 0, 0, 0, 0),
  (26, .if_icmp .ge 129, 3, 155, 0, 0, 0, 0),
  (29, .iload 4, 2, 0, 0, 0, 0, 0),
  (31, .aload_n 0, 1, 0, 0, 0, 0, 0),
  (32, .getfield 15, 3, 0, 2, 1, 0, 480),
  (35, .arraylength, 1, 0, 0, 0, 0, 0),
  (36, .if_icmp .ge 119, 3, 155, 0, 0, 0, 0),
  (39, .aload_n 0, 1, 0, 0, 0, 0, 0),
  (40, .invokevirtual 45, 3, 3, 1, 1, 0, 1062),
  (43, .istore 5, 2, 0, 0, 0, 0, 0),
  (45, .aload_n 2, 1, 0, 0, 0, 0, 0),
  (46, .iload 4, 2, 0, 0, 0, 0, 0),
  (48, .iconst 1, 1, 0, 0, 0, 1, 0),
  (49, .iand, 1, 0, 0, 0, 0, 0),
  (50, .invokevirtual 31, 3, 613, 2, 1, 6, 1066),
  (53, .istore 6, 2, 0, 0, 0, 0, 0),
  (55, .aload_n 0, 1, 0, 0, 0, 0, 0),
  (56, .getfield 21, 3, 0, 1, 1, 0, 479),
  (59, .aload_n 0, 1, 0, 0, 0, 0, 0),
  (60, .getfield 9, 3, 0, 0, 1, 0, 477),
  (63, .iload 6, 2, 0, 0, 0, 0, 0),
  (65, .iload 6, 2, 0, 0, 0, 0, 0),
  (67, .aload_n 2, 1, 0, 0, 0, 0, 0),
  (68, .getfield 49, 3, 6, 2, 0, 0, 174),
  (71, .invokevirtual 53, 3, 412, 5, 1, 4, 1067),
  (74, .pop, 1, 0, 0, 0, 0, 0),
  (75, .aload_n 0, 1, 0, 0, 0, 0, 0),
  (76, .getfield 21, 3, 0, 1, 1, 0, 479),
  (79, .getfield 57, 3, 4, 1, 1, 0, 406),
  (82, .iconst 0, 1, 0, 0, 0, 0, 0),
  (83, .aload_n 0, 1, 0, 0, 0, 0, 0),
  (84, .getfield 9, 3, 0, 0, 1, 0, 477),
  (87, .iconst 0, 1, 0, 0, 0, 0, 0),
  (88, .aload_n 0, 1, 0, 0, 0, 0, 0),
  (89, .getfield 9, 3, 0, 0, 1, 0, 477),
  (92, .arraylength, 1, 0, 0, 0, 0, 0),
  (93, .invokestatic 39, 3, 9999, 0, 0, 0, 1061),
  (96, .aload_n 0, 1, 0, 0, 0, 0, 0),
  (97, .getfield 15, 3, 0, 2, 1, 0, 480),
  (100, .iload 4, 2, 0, 0, 0, 0, 0),
  (102, .aload_n 0, 1, 0, 0, 0, 0, 0),
  (103, .invokevirtual 45, 3, 3, 1, 1, 0, 1062),
  (106, .iastore, 1, 0, 0, 0, 0, 0),
  (107, .aload_n 0, 1, 0, 0, 0, 0, 0),
  (108, .getfield 15, 3, 0, 2, 1, 0, 480),
  (111, .iload 4, 2, 0, 0, 0, 0, 0),
  (113, .iaload, 1, 0, 0, 0, 0, 0),
  (114, .iload 5, 2, 0, 0, 0, 0, 0),
  (116, .if_icmp .ne 9, 3, 125, 0, 0, 0, 0),
  (119, .iload_n 3, 1, 0, 0, 0, 0, 0),
  (120, .iconst 1, 1, 0, 0, 0, 1, 0),
  (121, .iadd, 1, 0, 0, 0, 0, 0),
  (122, .goto 4, 3, 126, 0, 0, 0, 0),
  (125, .iconst 0, 1, 0, 0, 0, 0, 0),
  (126, .istore_n 3, 1, 0, 0, 0, 0, 0),
  (127, .iload_n 3, 1, 0, 0, 0, 0, 0),
  (128, .iconst 2, 1, 0, 0, 0, 2, 0),
  (129, .if_icmp .ne 8, 3, 137, 0, 0, 0, 0),
  (132, .iload 4, 2, 0, 0, 0, 0, 0),
  (134, .iconst 1, 1, 0, 0, 0, 1, 0),
  (135, .isub, 1, 0, 0, 0, 0, 0),
  (136, .ireturn, 1, 1, 0, 0, 0, 0),
  (137, .aload_n 0, 1, 0, 0, 0, 0, 0),
  (138, .iload 4, 2, 0, 0, 0, 0, 0),
  (140, .invokevirtual 60, 3, 4, 2, 1, 0, 1068),
  (143, .ifCond .eq 6, 3, 149, 0, 0, 0, 0),
  (146, .bipush (-2), 2, 0, 0, 0, (-2), 0),
  (148, .ireturn, 1, 1, 0, 0, 0, 0),
  (149, .iinc 4 1, 3, 0, 0, 0, 0, 0),
  (152, .goto (-129), 3, 23, 0, 0, 0, 0),
  (155, .bipush (-3), 2, 0, 0, 0, (-3), 0),
  (157, .ireturn, 1, 1, 0, 0, 0, 0)]
/-- TollsThatPay$Duel.packed()I -/
def z_c3 : List z_E := [(0, .iconst 0, 1, 0, 0, 0, 0, 0),
  (1, .istore_n 1, 1, 0, 0, 0, 0, 0),
  (2, .iconst 0, 1, 0, 0, 0, 0, 0),
  (3, .istore_n 2, 1, 0, 0, 0, 0, 0),
  (4, .iload_n 2, 1, 0, 0, 0, 0, 0),
  (5, .aload_n 0, 1, 0, 0, 0, 0, 0),
  (6, .getfield 9, 3, 0, 0, 1, 0, 477),
  (9, .arraylength, 1, 0, 0, 0, 0, 0),
  (10, .if_icmp .ge 20, 3, 30, 0, 0, 0, 0),
  (13, .iload_n 1, 1, 0, 0, 0, 0, 0),
  (14, .iconst 5, 1, 0, 0, 0, 5, 0),
  (15, .ishl, 1, 0, 0, 0, 0, 0),
  (16, .aload_n 0, 1, 0, 0, 0, 0, 0),
  (17, .getfield 9, 3, 0, 0, 1, 0, 477),
  (20, .iload_n 2, 1, 0, 0, 0, 0, 0),
  (21, .iaload, 1, 0, 0, 0, 0, 0),
  (22, .ior, 1, 0, 0, 0, 0, 0),
  (23, .istore_n 1, 1, 0, 0, 0, 0, 0),
  (24, .iinc 2 1, 3, 0, 0, 0, 0, 0),
  (27, .goto (-23), 3, 4, 0, 0, 0, 0),
  (30, .iload_n 1, 1, 0, 0, 0, 0, 0),
  (31, .ireturn, 1, 1, 0, 0, 0, 0)]
/-- TollsThatPay$Duel.wasBehind(I)Z -/
def z_c4 : List z_E := [(0, .iconst 0, 1, 0, 0, 0, 0, 0),
  (1, .istore_n 2, 1, 0, 0, 0, 0, 0),
  (2, .iload_n 1, 1, 0, 0, 0, 0, 0),
  (3, .iconst 2, 1, 0, 0, 0, 2, 0),
  (4, .isub, 1, 0, 0, 0, 0, 0),
  (5, .istore_n 3, 1, 0, 0, 0, 0, 0),
  (6, .iload_n 3, 1, 0, 0, 0, 0, 0),
  (7, .ifCond .lt 43, 3, 50, 0, 0, 0, 0),
  (10, .iload_n 1, 1, 0, 0, 0, 0, 0),
  (11, .aload_n 0, 1, 0, 0, 0, 0, 0),
  (12, .getfield 15, 3, 0, 2, 1, 0, 480),
  (15, .arraylength, 1, 0, 0, 0, 0, 0),
  (16, .if_icmp .ge 34, 3, 50, 0, 0, 0, 0),
  (19, .iload_n 2, 1, 0, 0, 0, 0, 0),
  (20, .ifCond .ne 18, 3, 38, 0, 0, 0, 0),
  (23, .aload_n 0, 1, 0, 0, 0, 0, 0),
  (24, .getfield 15, 3, 0, 2, 1, 0, 480),
  (27, .iload_n 3, 1, 0, 0, 0, 0, 0),
  (28, .iaload, 1, 0, 0, 0, 0, 0),
  (29, .aload_n 0, 1, 0, 0, 0, 0, 0),
  (30, .getfield 15, 3, 0, 2, 1, 0, 480),
  (33, .iload_n 1, 1, 0, 0, 0, 0, 0),
  (34, .iaload, 1, 0, 0, 0, 0, 0),
  (35, .if_icmp .ne 7, 3, 42, 0, 0, 0, 0),
  (38, .iconst 1, 1, 0, 0, 0, 1, 0),
  (39, .goto 4, 3, 43, 0, 0, 0, 0),
  (42, .iconst 0, 1, 0, 0, 0, 0, 0),
  (43, .istore_n 2, 1, 0, 0, 0, 0, 0),
  (44, .iinc 3 (-2), 3, 0, 0, 0, 0, 0),
  (47, .goto (-41), 3, 6, 0, 0, 0, 0),
  (50, .iload_n 2, 1, 0, 0, 0, 0, 0),
  (51, .ireturn, 1, 2, 0, 0, 0, 0)]
/-- TollsThatPay$Duel.countRests(LTollsThatPay$Roads;)I -/
def z_c5 : List z_E := [(0, .aload_n 1, 1, 0, 0, 0, 0, 0),
  (1, .iconst 0, 1, 0, 0, 0, 0, 0),
  (2, .invokevirtual 31, 3, 613, 2, 1, 6, 1066),
  (5, .istore_n 2, 1, 0, 0, 0, 0, 0),
  (6, .aload_n 1, 1, 0, 0, 0, 0, 0),
  (7, .iconst 1, 1, 0, 0, 0, 1, 0),
  (8, .invokevirtual 31, 3, 613, 2, 1, 6, 1066),
  (11, .istore_n 3, 1, 0, 0, 0, 0, 0),
  (12, .aload_n 1, 1, 0, 0, 0, 0, 0),
  (13, .getfield 49, 3, 6, 2, 0, 0, 174),
  (16, .iconst 1, 1, 0, 0, 0, 1, 0),
  (17, .iadd, 1, 0, 0, 0, 0, 0),
  (18, .iload_n 3, 1, 0, 0, 0, 0, 0),
  (19, .invokestatic 64, 3, 1300, 1, 1, 0, 1090),
  (22, .invokestatic 69, 3, 617, 2, 1, 0, 1091),
  (25, .istore 4, 2, 0, 0, 0, 0, 0),
  (27, .iconst 0, 1, 0, 0, 0, 0, 0),
  (28, .istore 5, 2, 0, 0, 0, 0, 0),
  (30, .iload 5, 2, 0, 0, 0, 0, 0),
  (32, .aload_n 0, 1, 0, 0, 0, 0, 0),
  (33, .getfield 18, 3, 0, 3, 1, 0, 481),
  (36, .arraylength, 1, 0, 0, 0, 0, 0),
  (37, .if_icmp .ge 17, 3, 54, 0, 0, 0, 0),
  (40, .aload_n 0, 1, 0, 0, 0, 0, 0),
  (41, .getfield 18, 3, 0, 3, 1, 0, 481),
  (44, .iload 5, 2, 0, 0, 0, 0, 0),
  (46, .iconst 0, 1, 0, 0, 0, 0, 0),
  (47, .iastore, 1, 0, 0, 0, 0, 0),
  (48, .iinc 5 1, 3, 0, 0, 0, 0, 0),
  (51, .goto (-21), 3, 30, 0, 0, 0, 0),
  (54, .aload_n 0, 1, 0, 0, 0, 0, 0),
  (55, .getfield 21, 3, 0, 1, 1, 0, 479),
  (58, .aload_n 1, 1, 0, 0, 0, 0, 0),
  (59, .getfield 38, 3, 6, 5, 1, 0, 182),
  (62, .iload_n 2, 1, 0, 0, 0, 0, 0),
  (63, .iload_n 3, 1, 0, 0, 0, 0, 0),
  (64, .ior, 1, 0, 0, 0, 0, 0),
  (65, .aload_n 1, 1, 0, 0, 0, 0, 0),
  (66, .getfield 49, 3, 6, 2, 0, 0, 174),
  (69, .invokevirtual 73, 3, 405, 4, 1, 4, 1092),
  (72, .istore 5, 2, 0, 0, 0, 0, 0),
  (74, .iconst 0, 1, 0, 0, 0, 0, 0),
  (75, .istore 6, 2, 0, 0, 0, 0, 0),
  (77, .iload 6, 2, 0, 0, 0, 0, 0),
  (79, .iload 5, 2, 0, 0, 0, 0, 0),
  (81, .if_icmp .ge 68, 3, 149, 0, 0, 0, 0),
  (84, .aload_n 0, 1, 0, 0, 0, 0, 0),
  (85, .aload_n 0, 1, 0, 0, 0, 0, 0),
  (86, .getfield 21, 3, 0, 1, 1, 0, 479),
  (89, .getfield 77, 3, 4, 0, 1, 0, 404),
  (92, .iload_n 3, 1, 0, 0, 0, 0, 0),
  (93, .invokevirtual 81, 3, 805, 2, 1, 8, 1093),
  (96, .aload_n 0, 1, 0, 0, 0, 0, 0),
  (97, .getfield 21, 3, 0, 1, 1, 0, 479),
  (100, .iload_n 2, 1, 0, 0, 0, 0, 0),
  (101, .invokevirtual 35, 3, 409, 2, 1, 4, 1077),
  (104, .invokevirtual 86, 3, 6, 3, 0, 0, 1097),
  (107, .aload_n 0, 1, 0, 0, 0, 0, 0),
  (108, .iload 4, 2, 0, 0, 0, 0, 0),
  (110, .aload_n 0, 1, 0, 0, 0, 0, 0),
  (111, .getfield 21, 3, 0, 1, 1, 0, 479),
  (114, .getfield 77, 3, 4, 0, 1, 0, 404),
  (117, .iload_n 2, 1, 0, 0, 0, 0, 0),
  (118, .invokevirtual 81, 3, 805, 2, 1, 8, 1093),
  (121, .iadd, 1, 0, 0, 0, 0, 0),
  (122, .aload_n 0, 1, 0, 0, 0, 0, 0),
  (123, .getfield 21, 3, 0, 1, 1, 0, 479),
  (126, .iload_n 3, 1, 0, 0, 0, 0, 0),
  (127, .invokevirtual 35, 3, 409, 2, 1, 4, 1077),
  (130, .invokevirtual 86, 3, 6, 3, 0, 0, 1097),
  (133, .aload_n 0, 1, 0, 0, 0, 0, 0),
  (134, .getfield 21, 3, 0, 1, 1, 0, 479),
  (137, .getfield 77, 3, 4, 0, 1, 0, 404),
  (140, .invokevirtual 90, 3, 802, 1, 0, 8, 1102),
  (143, .iinc 6 1, 3, 0, 0, 0, 0, 0),
  (146, .goto (-69), 3, 77, 0, 0, 0, 0),
  (149, .iconst 0, 1, 0, 0, 0, 0, 0),
  (150, .istore 6, 2, 0, 0, 0, 0, 0),
  (152, .aload_n 0, 1, 0, 0, 0, 0, 0),
  (153, .getfield 21, 3, 0, 1, 1, 0, 479),
  (156, .aload_n 1, 1, 0, 0, 0, 0, 0),
  (157, .getfield 38, 3, 6, 5, 1, 0, 182),
  (160, .iload_n 2, 1, 0, 0, 0, 0, 0),
  (161, .iload_n 3, 1, 0, 0, 0, 0, 0),
  (162, .ior, 1, 0, 0, 0, 0, 0),
  (163, .aload_n 1, 1, 0, 0, 0, 0, 0),
  (164, .getfield 49, 3, 6, 2, 0, 0, 174),
  (167, .invokevirtual 73, 3, 405, 4, 1, 4, 1092),
  (170, .istore 5, 2, 0, 0, 0, 0, 0),
  (172, .iconst 0, 1, 0, 0, 0, 0, 0),
  (173, .istore 7, 2, 0, 0, 0, 0, 0),
  (175, .iload 7, 2, 0, 0, 0, 0, 0),
  (177, .iload 5, 2, 0, 0, 0, 0, 0),
  (179, .if_icmp .ge 106, 3, 285, 0, 0, 0, 0),
  (182, .aload_n 0, 1, 0, 0, 0, 0, 0),
  (183, .aload_n 0, 1, 0, 0, 0, 0, 0),
  (184, .getfield 21, 3, 0, 1, 1, 0, 479),
  (187, .getfield 77, 3, 4, 0, 1, 0, 404),
  (190, .iload_n 3, 1, 0, 0, 0, 0, 0),
  (191, .invokevirtual 81, 3, 805, 2, 1, 8, 1093),
  (194, .invokevirtual 93, 3, 7, 2, 1, 0, 1103),
  (197, .aload_n 0, 1, 0, 0, 0, 0, 0),
  (198, .getfield 21, 3, 0, 1, 1, 0, 479),
  (201, .iload_n 2, 1, 0, 0, 0, 0, 0),
  (202, .invokevirtual 35, 3, 409, 2, 1, 4, 1077),
  (205, .if_icmp .ne 64, 3, 269, 0, 0, 0, 0),
  (208, .aload_n 0, 1, 0, 0, 0, 0, 0),
  (209, .iload 4, 2, 0, 0, 0, 0, 0),
  (211, .aload_n 0, 1, 0, 0, 0, 0, 0),
  (212, .getfield 21, 3, 0, 1, 1, 0, 479),
  (215, .getfield 77, 3, 4, 0, 1, 0, 404),
  (218, .iload_n 2, 1, 0, 0, 0, 0, 0),
  (219, .invokevirtual 81, 3, 805, 2, 1, 8, 1093),
  (222, .iadd, 1, 0, 0, 0, 0, 0),
  (223, .invokevirtual 93, 3, 7, 2, 1, 0, 1103),
  (226, .aload_n 0, 1, 0, 0, 0, 0, 0),
  (227, .getfield 21, 3, 0, 1, 1, 0, 479),
  (230, .iload_n 3, 1, 0, 0, 0, 0, 0),
  (231, .invokevirtual 35, 3, 409, 2, 1, 4, 1077),
  (234, .if_icmp .ne 35, 3, 269, 0, 0, 0, 0),
  (237, .iload 6, 2, 0, 0, 0, 0, 0),
  (239, .ifCond .ne 27, 3, 266, 0, 0, 0, 0),
  (242, .aload_n 0, 1, 0, 0, 0, 0, 0),
  (243, .getfield 21, 3, 0, 1, 1, 0, 479),
  (246, .getfield 77, 3, 4, 0, 1, 0, 404),
  (249, .getfield 96, 3, 8, 0, 1, 0, 377),
  (252, .iconst 0, 1, 0, 0, 0, 0, 0),
  (253, .aload_n 0, 1, 0, 0, 0, 0, 0),
  (254, .getfield 9, 3, 0, 0, 1, 0, 477),
  (257, .iconst 0, 1, 0, 0, 0, 0, 0),
  (258, .aload_n 0, 1, 0, 0, 0, 0, 0),
  (259, .getfield 9, 3, 0, 0, 1, 0, 477),
  (262, .arraylength, 1, 0, 0, 0, 0, 0),
  (263, .invokestatic 39, 3, 9999, 0, 0, 0, 1061),
  (266, .iinc 6 1, 3, 0, 0, 0, 0, 0),
  (269, .aload_n 0, 1, 0, 0, 0, 0, 0),
  (270, .getfield 21, 3, 0, 1, 1, 0, 479),
  (273, .getfield 77, 3, 4, 0, 1, 0, 404),
  (276, .invokevirtual 90, 3, 802, 1, 0, 8, 1102),
  (279, .iinc 7 1, 3, 0, 0, 0, 0, 0),
  (282, .goto (-107), 3, 175, 0, 0, 0, 0),
  (285, .iload 6, 2, 0, 0, 0, 0, 0),
  (287, .ireturn, 1, 1, 0, 0, 0, 0)]
/-- TollsThatPay$Duel.raise(II)V -/
def z_c6 : List z_E := [(0, .iload_n 1, 1, 0, 0, 0, 0, 0),
  (1, .ifCond .lt 28, 3, 29, 0, 0, 0, 0),
  (4, .iload_n 1, 1, 0, 0, 0, 0, 0),
  (5, .aload_n 0, 1, 0, 0, 0, 0, 0),
  (6, .getfield 18, 3, 0, 3, 1, 0, 481),
  (9, .arraylength, 1, 0, 0, 0, 0, 0),
  (10, .if_icmp .ge 19, 3, 29, 0, 0, 0, 0),
  (13, .aload_n 0, 1, 0, 0, 0, 0, 0),
  (14, .getfield 18, 3, 0, 3, 1, 0, 481),
  (17, .iload_n 1, 1, 0, 0, 0, 0, 0),
  (18, .aload_n 0, 1, 0, 0, 0, 0, 0),
  (19, .getfield 18, 3, 0, 3, 1, 0, 481),
  (22, .iload_n 1, 1, 0, 0, 0, 0, 0),
  (23, .iaload, 1, 0, 0, 0, 0, 0),
  (24, .iload_n 2, 1, 0, 0, 0, 0, 0),
  (25, .invokestatic 97, 3, 9995, 0, 0, 0, 1101),
  (28, .iastore, 1, 0, 0, 0, 0, 0),
  (29, .return_, 1, 0, 0, 0, 0, 0)]
/-- TollsThatPay$Duel.topAt(I)I -/
def z_c7 : List z_E := [(0, .iload_n 1, 1, 0, 0, 0, 0, 0),
  (1, .ifCond .lt 21, 3, 22, 0, 0, 0, 0),
  (4, .iload_n 1, 1, 0, 0, 0, 0, 0),
  (5, .aload_n 0, 1, 0, 0, 0, 0, 0),
  (6, .getfield 18, 3, 0, 3, 1, 0, 481),
  (9, .arraylength, 1, 0, 0, 0, 0, 0),
  (10, .if_icmp .ge 12, 3, 22, 0, 0, 0, 0),
  (13, .aload_n 0, 1, 0, 0, 0, 0, 0),
  (14, .getfield 18, 3, 0, 3, 1, 0, 481),
  (17, .iload_n 1, 1, 0, 0, 0, 0, 0),
  (18, .iaload, 1, 0, 0, 0, 0, 0),
  (19, .goto 4, 3, 23, 0, 0, 0, 0),
  (22, .iconst 0, 1, 0, 0, 0, 0, 0),
  (23, .ireturn, 1, 1, 0, 0, 0, 0)]
def z_cc0 : List (List z_E) := [z_c0, z_c1, z_c2, z_c3, z_c4, z_c5, z_c6, z_c7]
def z_mm0 : List (MethodName × ByteArray × Nat × Option FieldType) := [(yX0_init, cX0_init, 2, none),
  (yX0_brought, cX0_brought, 4, (some .int)),
  (yX0_answer, cX0_answer, 7, (some .int)),
  (yX0_packed, cX0_packed, 3, (some .int)),
  (yX0_wasBehind, cX0_wasBehind, 4, (some .boolean)),
  (yX0_countRests, cX0_countRests, 8, (some .int)),
  (yX0_raise, cX0_raise, 3, none),
  (yX0_topAt, cX0_topAt, 2, (some .int))]
/-- TollsThatPay$Goers.<init>(LTollsThatPay$Journeys;)V -/
def z_c100 : List z_E := [(0, .aload_n 0, 1, 0, 0, 0, 0, 0),
  (1, .invokespecial 3, 3, 9998, 0, 0, 0, 275),
  (4, .aload_n 0, 1, 0, 0, 0, 0, 0),
  (5, .new 9, 3, 10, 0, 0, 11, 276),
  (8, .dup, 1, 0, 0, 0, 0, 0),
  (9, .invokespecial 11, 3, 1000, 1, 0, 10, 278),
  (12, .putfield 12, 3, 1, 2, 1, 0, 326),
  (15, .aload_n 0, 1, 0, 0, 0, 0, 0),
  (16, .bipush 48, 2, 0, 0, 0, 48, 0),
  (18, .newarray .int, 2, 1, 0, 0, 0, 135),
  (20, .putfield 18, 3, 1, 3, 1, 0, 327),
  (23, .aload_n 0, 1, 0, 0, 0, 0, 0),
  (24, .bipush 48, 2, 0, 0, 0, 48, 0),
  (26, .newarray .int, 2, 1, 0, 0, 0, 135),
  (28, .putfield 22, 3, 1, 4, 1, 0, 328),
  (31, .aload_n 0, 1, 0, 0, 0, 0, 0),
  (32, .bipush 48, 2, 0, 0, 0, 48, 0),
  (34, .newarray .int, 2, 1, 0, 0, 0, 135),
  (36, .putfield 25, 3, 1, 5, 1, 0, 329),
  (39, .aload_n 0, 1, 0, 0, 0, 0, 0),
  (40, .bipush 8, 2, 0, 0, 0, 8, 0),
  (42, .newarray .int, 2, 1, 0, 0, 0, 135),
  (44, .putfield 30, 3, 1, 6, 1, 0, 330),
  (47, .aload_n 0, 1, 0, 0, 0, 0, 0),
  (48, .bipush 8, 2, 0, 0, 0, 8, 0),
  (50, .newarray .int, 2, 1, 0, 0, 0, 135),
  (52, .putfield 33, 3, 1, 7, 1, 0, 331),
  (55, .aload_n 0, 1, 0, 0, 0, 0, 0),
  (56, .sipush 1536, 3, 0, 0, 0, 1536, 0),
  (59, .newarray .int, 2, 1, 0, 0, 0, 135),
  (61, .putfield 36, 3, 1, 8, 1, 0, 332),
  (64, .aload_n 0, 1, 0, 0, 0, 0, 0),
  (65, .sipush 1536, 3, 0, 0, 0, 1536, 0),
  (68, .newarray .int, 2, 1, 0, 0, 0, 135),
  (70, .putfield 39, 3, 1, 9, 1, 0, 333),
  (73, .aload_n 0, 1, 0, 0, 0, 0, 0),
  (74, .sipush 1536, 3, 0, 0, 0, 1536, 0),
  (77, .newarray .int, 2, 1, 0, 0, 0, 135),
  (79, .putfield 42, 3, 1, 10, 1, 0, 334),
  (82, .aload_n 0, 1, 0, 0, 0, 0, 0),
  (83, .bipush 48, 2, 0, 0, 0, 48, 0),
  (85, .newarray .int, 2, 1, 0, 0, 0, 135),
  (87, .putfield 45, 3, 1, 11, 1, 0, 335),
  (90, .aload_n 0, 1, 0, 0, 0, 0, 0),
  (91, .bipush 48, 2, 0, 0, 0, 48, 0),
  (93, .newarray .int, 2, 1, 0, 0, 0, 135),
  (95, .putfield 48, 3, 1, 12, 1, 0, 336),
  (98, .aload_n 0, 1, 0, 0, 0, 0, 0),
  (99, .aload_n 1, 1, 0, 0, 0, 0, 0),
  (100, .putfield 51, 3, 1, 1, 1, 0, 325),
  (103, .return_, 1, 0, 0, 0, 0, 0)]
/-- TollsThatPay$Goers.survey(LTollsThatPay$Land;)Z -/
def z_c101 : List z_E := [(0, .aload_n 0, 1, 0, 0, 0, 0, 0),
  (1, .aload_n 1, 1, 0, 0, 0, 0, 0),
  (2, .getfield 55, 3, 3, 1, 1, 0, 262),
  (5, .putfield 51, 3, 1, 1, 1, 0, 325),
  (8, .aload_n 0, 1, 0, 0, 0, 0, 0),
  (9, .iconst 0, 1, 0, 0, 0, 0, 0),
  (10, .putfield 58, 3, 1, 0, 0, 0, 321),
  (13, .iconst 1, 1, 0, 0, 0, 1, 0),
  (14, .istore_n 2, 1, 0, 0, 0, 0, 0),
  (15, .iconst 0, 1, 0, 0, 0, 0, 0),
  (16, .istore_n 3, 1, 0, 0, 0, 0, 0),
  (17, .iload_n 3, 1, 0, 0, 0, 0, 0),
  (18, .aload_n 0, 1, 0, 0, 0, 0, 0),
  (19, .getfield 51, 3, 1, 1, 1, 0, 325),
  (22, .getfield 62, 3, 2, 0, 0, 0, 222),
  (25, .if_icmp .ge 145, 3, 170, 0, 0, 0, 0),
  (28, .iload_n 3, 1, 0, 0, 0, 0, 0),
  (29, .bipush 8, 2, 0, 0, 0, 8, 0),
  (31, .if_icmp .ge 139, 3, 170, 0, 0, 0, 0),
  (34, .aload_n 0, 1, 0, 0, 0, 0, 0),
  (35, .iload_n 3, 1, 0, 0, 0, 0, 0),
  (36, .invokevirtual 63, 3, 102, 2, 0, 1, 635),
  (39, .aload_n 0, 1, 0, 0, 0, 0, 0),
  (40, .getfield 12, 3, 1, 2, 1, 0, 326),
  (43, .aload_n 1, 1, 0, 0, 0, 0, 0),
  (44, .iload_n 3, 1, 0, 0, 0, 0, 0),
  (45, .invokevirtual 67, 3, 1001, 3, 0, 10, 651),
  (48, .aload_n 0, 1, 0, 0, 0, 0, 0),
  (49, .getfield 12, 3, 1, 2, 1, 0, 326),
  (52, .aload_n 0, 1, 0, 0, 0, 0, 0),
  (53, .getfield 30, 3, 1, 6, 1, 0, 330),
  (56, .iload_n 3, 1, 0, 0, 0, 0, 0),
  (57, .iaload, 1, 0, 0, 0, 0, 0),
  (58, .putfield 71, 3, 10, 5, 0, 0, 288),
  (61, .aload_n 0, 1, 0, 0, 0, 0, 0),
  (62, .getfield 12, 3, 1, 2, 1, 0, 326),
  (65, .aload_n 0, 1, 0, 0, 0, 0, 0),
  (66, .getfield 58, 3, 1, 0, 0, 0, 321),
  (69, .putfield 73, 3, 10, 6, 0, 0, 289),
  (72, .aload_n 0, 1, 0, 0, 0, 0, 0),
  (73, .aload_n 0, 1, 0, 0, 0, 0, 0),
  (74, .getfield 12, 3, 1, 2, 1, 0, 326),
  (77, .aload_n 0, 1, 0, 0, 0, 0, 0),
  (78, .getfield 51, 3, 1, 1, 1, 0, 325),
  (81, .iload_n 3, 1, 0, 0, 0, 0, 0),
  (82, .invokevirtual 76, 3, 206, 2, 1, 2, 667),
  (85, .iconst 0, 1, 0, 0, 0, 0, 0),
  (86, .invokestatic 80, 3, 103, 4, 0, 0, 668),
  (89, .aload_n 0, 1, 0, 0, 0, 0, 0),
  (90, .getfield 51, 3, 1, 1, 1, 0, 325),
  (93, .iload_n 3, 1, 0, 0, 0, 0, 0),
  (94, .invokevirtual 84, 3, 213, 2, 1, 2, 728),
  (97, .istore 4, 2, 0, 0, 0, 0, 0),
  (99, .aload_n 0, 1, 0, 0, 0, 0, 0),
  (100, .getfield 33, 3, 1, 7, 1, 0, 331),
  (103, .iload_n 3, 1, 0, 0, 0, 0, 0),
  (104, .aload_n 0, 1, 0, 0, 0, 0, 0),
  (105, .getfield 12, 3, 1, 2, 1, 0, 326),
  (108, .getfield 87, 3, 10, 4, 0, 0, 287),
  (111, .iload 4, 2, 0, 0, 0, 0, 0),
  (113, .ifCond .lt 7, 3, 120, 0, 0, 0, 0),
  (116, .iconst 1, 1, 0, 0, 0, 1, 0),
  (117, .goto 4, 3, 121, 0, 0, 0, 0),
  (120, .iconst 0, 1, 0, 0, 0, 0, 0),
  (121, .iadd, 1, 0, 0, 0, 0, 0),
  (122, .iastore, 1, 0, 0, 0, 0, 0),
  (123, .iload_n 2, 1, 0, 0, 0, 0, 0),
  (124, .ifCond .eq 19, 3, 143, 0, 0, 0, 0),
  (127, .aload_n 0, 1, 0, 0, 0, 0, 0),
  (128, .getfield 33, 3, 1, 7, 1, 0, 331),
  (131, .iload_n 3, 1, 0, 0, 0, 0, 0),
  (132, .iaload, 1, 0, 0, 0, 0, 0),
  (133, .sipush 200, 3, 0, 0, 0, 200, 0),
  (136, .if_icmp .gt 7, 3, 143, 0, 0, 0, 0),
  (139, .iconst 1, 1, 0, 0, 0, 1, 0),
  (140, .goto 4, 3, 144, 0, 0, 0, 0),
  (143, .iconst 0, 1, 0, 0, 0, 0, 0),
  (144, .istore_n 2, 1, 0, 0, 0, 0, 0),
  (145, .aload_n 0, 1, 0, 0, 0, 0, 0),
  (146, .iload 4, 2, 0, 0, 0, 0, 0),
  (148, .aload_n 0, 1, 0, 0, 0, 0, 0),
  (149, .getfield 33, 3, 1, 7, 1, 0, 331),
  (152, .iload_n 3, 1, 0, 0, 0, 0, 0),
  (153, .iaload, 1, 0, 0, 0, 0, 0),
  (154, .aload_n 1, 1, 0, 0, 0, 0, 0),
  (155, .getfield 90, 3, 3, 0, 1, 0, 258),
  (158, .getfield 94, 3, 6, 2, 0, 0, 173),
  (161, .invokevirtual 99, 3, 106, 4, 0, 1, 732),
  (164, .iinc 3 1, 3, 0, 0, 0, 0, 0),
  (167, .goto (-150), 3, 17, 0, 0, 0, 0),
  (170, .iload_n 2, 1, 0, 0, 0, 0, 0),
  (171, .ireturn, 1, 2, 0, 0, 0, 0)]
/-- TollsThatPay$Goers.enter(I)V -/
def z_c102 : List z_E := [(0, .aload_n 0, 1, 0, 0, 0, 0, 0),
  (1, .getfield 30, 3, 1, 6, 1, 0, 330),
  (4, .iload_n 1, 1, 0, 0, 0, 0, 0),
  (5, .aload_n 0, 1, 0, 0, 0, 0, 0),
  (6, .getfield 58, 3, 1, 0, 0, 0, 321),
  (9, .iastore, 1, 0, 0, 0, 0, 0),
  (10, .aload_n 0, 1, 0, 0, 0, 0, 0),
  (11, .getfield 51, 3, 1, 1, 1, 0, 325),
  (14, .iload_n 1, 1, 0, 0, 0, 0, 0),
  (15, .invokevirtual 103, 3, 209, 2, 1, 2, 639),
  (18, .istore_n 2, 1, 0, 0, 0, 0, 0),
  (19, .iload_n 2, 1, 0, 0, 0, 0, 0),
  (20, .aload_n 0, 1, 0, 0, 0, 0, 0),
  (21, .getfield 51, 3, 1, 1, 1, 0, 325),
  (24, .iload_n 1, 1, 0, 0, 0, 0, 0),
  (25, .invokevirtual 106, 3, 210, 2, 1, 2, 643),
  (28, .if_icmp .gt 94, 3, 122, 0, 0, 0, 0),
  (31, .aload_n 0, 1, 0, 0, 0, 0, 0),
  (32, .getfield 58, 3, 1, 0, 0, 0, 321),
  (35, .bipush 48, 2, 0, 0, 0, 48, 0),
  (37, .if_icmp .ge 85, 3, 122, 0, 0, 0, 0),
  (40, .aload_n 0, 1, 0, 0, 0, 0, 0),
  (41, .getfield 18, 3, 1, 3, 1, 0, 327),
  (44, .aload_n 0, 1, 0, 0, 0, 0, 0),
  (45, .getfield 58, 3, 1, 0, 0, 0, 321),
  (48, .iload_n 1, 1, 0, 0, 0, 0, 0),
  (49, .iastore, 1, 0, 0, 0, 0, 0),
  (50, .aload_n 0, 1, 0, 0, 0, 0, 0),
  (51, .getfield 22, 3, 1, 4, 1, 0, 328),
  (54, .aload_n 0, 1, 0, 0, 0, 0, 0),
  (55, .getfield 58, 3, 1, 0, 0, 0, 321),
  (58, .iload_n 2, 1, 0, 0, 0, 0, 0),
  (59, .iastore, 1, 0, 0, 0, 0, 0),
  (60, .aload_n 0, 1, 0, 0, 0, 0, 0),
  (61, .getfield 25, 3, 1, 5, 1, 0, 329),
  (64, .aload_n 0, 1, 0, 0, 0, 0, 0),
  (65, .getfield 58, 3, 1, 0, 0, 0, 321),
  (68, .aload_n 0, 1, 0, 0, 0, 0, 0),
  (69, .getfield 51, 3, 1, 1, 1, 0, 325),
  (72, .iload_n 1, 1, 0, 0, 0, 0, 0),
  (73, .invokevirtual 109, 3, 208, 2, 1, 2, 647),
  (76, .iastore, 1, 0, 0, 0, 0, 0),
  (77, .iconst 0, 1, 0, 0, 0, 0, 0),
  (78, .istore_n 3, 1, 0, 0, 0, 0, 0),
  (79, .iload_n 3, 1, 0, 0, 0, 0, 0),
  (80, .bipush 32, 2, 0, 0, 0, 32, 0),
  (82, .if_icmp .ge 24, 3, 106, 0, 0, 0, 0),
  (85, .aload_n 0, 1, 0, 0, 0, 0, 0),
  (86, .getfield 36, 3, 1, 8, 1, 0, 332),
  (89, .aload_n 0, 1, 0, 0, 0, 0, 0),
  (90, .getfield 58, 3, 1, 0, 0, 0, 321),
  (93, .bipush 32, 2, 0, 0, 0, 32, 0),
  (95, .imul, 1, 0, 0, 0, 0, 0),
  (96, .iload_n 3, 1, 0, 0, 0, 0, 0),
  (97, .iadd, 1, 0, 0, 0, 0, 0),
  (98, .iconst (-1), 1, 0, 0, 0, (-1), 0),
  (99, .iastore, 1, 0, 0, 0, 0, 0),
  (100, .iinc 3 1, 3, 0, 0, 0, 0, 0),
  (103, .goto (-24), 3, 79, 0, 0, 0, 0),
  (106, .aload_n 0, 1, 0, 0, 0, 0, 0),
  (107, .dup, 1, 0, 0, 0, 0, 0),
  (108, .getfield 58, 3, 1, 0, 0, 0, 321),
  (111, .iconst 1, 1, 0, 0, 0, 1, 0),
  (112, .iadd, 1, 0, 0, 0, 0, 0),
  (113, .putfield 58, 3, 1, 0, 0, 0, 321),
  (116, .iinc 2 1, 3, 0, 0, 0, 0, 0),
  (119, .goto (-100), 3, 19, 0, 0, 0, 0),
  (122, .return_, 1, 0, 0, 0, 0, 0)]
/-- TollsThatPay$Goers.walk(LTollsThatPay$Goers;LTollsThatPay$Trip;II)V -/
def z_c103 : List z_E := [(0, .aload_n 1, 1, 0, 0, 0, 0, 0),
  (1, .iload_n 2, 1, 0, 0, 0, 0, 0),
  (2, .invokevirtual 112, 3, 1002, 2, 1, 10, 671),
  (5, .ifCond .eq 10, 3, 15, 0, 0, 0, 0),
  (8, .aload_n 0, 1, 0, 0, 0, 0, 0),
  (9, .aload_n 1, 1, 0, 0, 0, 0, 0),
  (10, .iload_n 3, 1, 0, 0, 0, 0, 0),
  (11, .invokevirtual 116, 3, 104, 3, 0, 1, 675),
  (14, .return_, 1, 0, 0, 0, 0, 0),
  (15, .aload_n 1, 1, 0, 0, 0, 0, 0),
  (16, .invokevirtual 120, 3, 1004, 1, 1, 10, 683),
  (19, .istore 4, 2, 0, 0, 0, 0, 0),
  (21, .iconst 0, 1, 0, 0, 0, 0, 0),
  (22, .istore 5, 2, 0, 0, 0, 0, 0),
  (24, .iload 5, 2, 0, 0, 0, 0, 0),
  (26, .iload 4, 2, 0, 0, 0, 0, 0),
  (28, .if_icmp .ge 57, 3, 85, 0, 0, 0, 0),
  (31, .aload_n 1, 1, 0, 0, 0, 0, 0),
  (32, .iload_n 3, 1, 0, 0, 0, 0, 0),
  (33, .invokevirtual 124, 3, 1003, 2, 1, 10, 688),
  (36, .ifCond .ne 49, 3, 85, 0, 0, 0, 0),
  (39, .aload_n 1, 1, 0, 0, 0, 0, 0),
  (40, .iload 5, 2, 0, 0, 0, 0, 0),
  (42, .iload_n 2, 1, 0, 0, 0, 0, 0),
  (43, .invokevirtual 127, 3, 1005, 3, 1, 10, 692),
  (46, .istore 6, 2, 0, 0, 0, 0, 0),
  (48, .iload 6, 2, 0, 0, 0, 0, 0),
  (50, .ifCond .lt 29, 3, 79, 0, 0, 0, 0),
  (53, .aload_n 1, 1, 0, 0, 0, 0, 0),
  (54, .iload 5, 2, 0, 0, 0, 0, 0),
  (56, .iload 6, 2, 0, 0, 0, 0, 0),
  (58, .invokevirtual 131, 3, 1006, 3, 0, 10, 708),
  (61, .aload_n 0, 1, 0, 0, 0, 0, 0),
  (62, .aload_n 1, 1, 0, 0, 0, 0, 0),
  (63, .iload 6, 2, 0, 0, 0, 0, 0),
  (65, .iload_n 3, 1, 0, 0, 0, 0, 0),
  (66, .iconst 1, 1, 0, 0, 0, 1, 0),
  (67, .iadd, 1, 0, 0, 0, 0, 0),
  (68, .invokestatic 80, 3, 103, 4, 0, 0, 668),
  (71, .aload_n 1, 1, 0, 0, 0, 0, 0),
  (72, .iload 5, 2, 0, 0, 0, 0, 0),
  (74, .iload 6, 2, 0, 0, 0, 0, 0),
  (76, .invokevirtual 135, 3, 1007, 3, 0, 10, 724),
  (79, .iinc 5 1, 3, 0, 0, 0, 0, 0),
  (82, .goto (-58), 3, 24, 0, 0, 0, 0),
  (85, .return_, 1, 0, 0, 0, 0, 0)]
/-- TollsThatPay$Goers.arrive(LTollsThatPay$Trip;I)V -/
def z_c104 : List z_E := [(0, .aload_n 1, 1, 0, 0, 0, 0, 0),
  (1, .dup, 1, 0, 0, 0, 0, 0),
  (2, .getfield 87, 3, 10, 4, 0, 0, 287),
  (5, .iconst 1, 1, 0, 0, 0, 1, 0),
  (6, .iadd, 1, 0, 0, 0, 0, 0),
  (7, .putfield 87, 3, 10, 4, 0, 0, 287),
  (10, .aload_n 1, 1, 0, 0, 0, 0, 0),
  (11, .getfield 71, 3, 10, 5, 0, 0, 288),
  (14, .istore_n 3, 1, 0, 0, 0, 0, 0),
  (15, .iload_n 3, 1, 0, 0, 0, 0, 0),
  (16, .aload_n 1, 1, 0, 0, 0, 0, 0),
  (17, .getfield 73, 3, 10, 6, 0, 0, 289),
  (20, .if_icmp .ge 49, 3, 69, 0, 0, 0, 0),
  (23, .iload_n 3, 1, 0, 0, 0, 0, 0),
  (24, .bipush 48, 2, 0, 0, 0, 48, 0),
  (26, .if_icmp .ge 43, 3, 69, 0, 0, 0, 0),
  (29, .aload_n 0, 1, 0, 0, 0, 0, 0),
  (30, .iload_n 3, 1, 0, 0, 0, 0, 0),
  (31, .aload_n 1, 1, 0, 0, 0, 0, 0),
  (32, .getfield 138, 3, 10, 9, 0, 0, 295),
  (35, .aload_n 1, 1, 0, 0, 0, 0, 0),
  (36, .getfield 141, 3, 10, 7, 0, 0, 291),
  (39, .aload_n 0, 1, 0, 0, 0, 0, 0),
  (40, .getfield 22, 3, 1, 4, 1, 0, 328),
  (43, .iload_n 3, 1, 0, 0, 0, 0, 0),
  (44, .iaload, 1, 0, 0, 0, 0, 0),
  (45, .aload_n 1, 1, 0, 0, 0, 0, 0),
  (46, .getfield 144, 3, 10, 8, 0, 0, 293),
  (49, .imul, 1, 0, 0, 0, 0, 0),
  (50, .iadd, 1, 0, 0, 0, 0, 0),
  (51, .iload_n 2, 1, 0, 0, 0, 0, 0),
  (52, .bipush 28, 2, 0, 0, 0, 28, 0),
  (54, .ishl, 1, 0, 0, 0, 0, 0),
  (55, .aload_n 1, 1, 0, 0, 0, 0, 0),
  (56, .getfield 147, 3, 10, 10, 0, 0, 297),
  (59, .ior, 1, 0, 0, 0, 0, 0),
  (60, .invokevirtual 150, 3, 105, 5, 0, 1, 679),
  (63, .iinc 3 1, 3, 0, 0, 0, 0, 0),
  (66, .goto (-51), 3, 15, 0, 0, 0, 0),
  (69, .return_, 1, 0, 0, 0, 0, 0)]
/-- TollsThatPay$Goers.offer(IIII)V -/
def z_c105 : List z_E := [(0, .iload_n 1, 1, 0, 0, 0, 0, 0),
  (1, .bipush 32, 2, 0, 0, 0, 32, 0),
  (3, .imul, 1, 0, 0, 0, 0, 0),
  (4, .iload_n 2, 1, 0, 0, 0, 0, 0),
  (5, .bipush 31, 2, 0, 0, 0, 31, 0),
  (7, .iand, 1, 0, 0, 0, 0, 0),
  (8, .iadd, 1, 0, 0, 0, 0, 0),
  (9, .istore 5, 2, 0, 0, 0, 0, 0),
  (11, .iload 5, 2, 0, 0, 0, 0, 0),
  (13, .ifCond .lt 13, 3, 26, 0, 0, 0, 0),
  (16, .iload 5, 2, 0, 0, 0, 0, 0),
  (18, .aload_n 0, 1, 0, 0, 0, 0, 0),
  (19, .getfield 36, 3, 1, 8, 1, 0, 332),
  (22, .arraylength, 1, 0, 0, 0, 0, 0),
  (23, .if_icmp .lt 4, 3, 27, 0, 0, 0, 0),
  (26, .return_, 1, 0, 0, 0, 0, 0),
  (27, .aload_n 0, 1, 0, 0, 0, 0, 0),
  (28, .getfield 36, 3, 1, 8, 1, 0, 332),
  (31, .iload 5, 2, 0, 0, 0, 0, 0),
  (33, .iaload, 1, 0, 0, 0, 0, 0),
  (34, .ifCond .lt 37, 3, 71, 0, 0, 0, 0),
  (37, .iload_n 3, 1, 0, 0, 0, 0, 0),
  (38, .aload_n 0, 1, 0, 0, 0, 0, 0),
  (39, .getfield 36, 3, 1, 8, 1, 0, 332),
  (42, .iload 5, 2, 0, 0, 0, 0, 0),
  (44, .iaload, 1, 0, 0, 0, 0, 0),
  (45, .if_icmp .lt 26, 3, 71, 0, 0, 0, 0),
  (48, .iload_n 3, 1, 0, 0, 0, 0, 0),
  (49, .aload_n 0, 1, 0, 0, 0, 0, 0),
  (50, .getfield 36, 3, 1, 8, 1, 0, 332),
  (53, .iload 5, 2, 0, 0, 0, 0, 0),
  (55, .iaload, 1, 0, 0, 0, 0, 0),
  (56, .if_icmp .ne 32, 3, 88, 0, 0, 0, 0),
  (59, .iload 4, 2, 0, 0, 0, 0, 0),
  (61, .aload_n 0, 1, 0, 0, 0, 0, 0),
  (62, .getfield 39, 3, 1, 9, 1, 0, 333),
  (65, .iload 5, 2, 0, 0, 0, 0, 0),
  (67, .iaload, 1, 0, 0, 0, 0, 0),
  (68, .if_icmp .ge 20, 3, 88, 0, 0, 0, 0),
  (71, .aload_n 0, 1, 0, 0, 0, 0, 0),
  (72, .getfield 36, 3, 1, 8, 1, 0, 332),
  (75, .iload 5, 2, 0, 0, 0, 0, 0),
  (77, .iload_n 3, 1, 0, 0, 0, 0, 0),
  (78, .iastore, 1, 0, 0, 0, 0, 0),
  (79, .aload_n 0, 1, 0, 0, 0, 0, 0),
  (80, .getfield 39, 3, 1, 9, 1, 0, 333),
  (83, .iload 5, 2, 0, 0, 0, 0, 0),
  (85, .iload 4, 2, 0, 0, 0, 0, 0),
  (87, .iastore, 1, 0, 0, 0, 0, 0),
  (88, .return_, 1, 0, 0, 0, 0, 0)]
/-- TollsThatPay$Goers.settle(III)V -/
def z_c106 : List z_E := [(0, .aload_n 0, 1, 0, 0, 0, 0, 0),
  (1, .getfield 12, 3, 1, 2, 1, 0, 326),
  (4, .getfield 71, 3, 10, 5, 0, 0, 288),
  (7, .istore 4, 2, 0, 0, 0, 0, 0),
  (9, .iload 4, 2, 0, 0, 0, 0, 0),
  (11, .aload_n 0, 1, 0, 0, 0, 0, 0),
  (12, .getfield 12, 3, 1, 2, 1, 0, 326),
  (15, .getfield 73, 3, 10, 6, 0, 0, 289),
  (18, .if_icmp .ge 116, 3, 134, 0, 0, 0, 0),
  (21, .iload 4, 2, 0, 0, 0, 0, 0),
  (23, .bipush 48, 2, 0, 0, 0, 48, 0),
  (25, .if_icmp .ge 109, 3, 134, 0, 0, 0, 0),
  (28, .iload_n 1, 1, 0, 0, 0, 0, 0),
  (29, .ifCond .lt 15, 3, 44, 0, 0, 0, 0),
  (32, .aload_n 0, 1, 0, 0, 0, 0, 0),
  (33, .iload 4, 2, 0, 0, 0, 0, 0),
  (35, .iconst 0, 1, 0, 0, 0, 0, 0),
  (36, .iload_n 1, 1, 0, 0, 0, 0, 0),
  (37, .iconst 0, 1, 0, 0, 0, 0, 0),
  (38, .invokevirtual 150, 3, 105, 5, 0, 1, 679),
  (41, .goto 16, 3, 57, 0, 0, 0, 0),
  (44, .iload_n 2, 1, 0, 0, 0, 0, 0),
  (45, .ifCond .ne 12, 3, 57, 0, 0, 0, 0),
  (48, .aload_n 0, 1, 0, 0, 0, 0, 0),
  (49, .iload 4, 2, 0, 0, 0, 0, 0),
  (51, .iconst 0, 1, 0, 0, 0, 0, 0),
  (52, .iconst 0, 1, 0, 0, 0, 0, 0),
  (53, .iconst 0, 1, 0, 0, 0, 0, 0),
  (54, .invokevirtual 150, 3, 105, 5, 0, 1, 679),
  (57, .aload_n 0, 1, 0, 0, 0, 0, 0),
  (58, .getfield 45, 3, 1, 11, 1, 0, 335),
  (61, .iload 4, 2, 0, 0, 0, 0, 0),
  (63, .iconst 0, 1, 0, 0, 0, 0, 0),
  (64, .iastore, 1, 0, 0, 0, 0, 0),
  (65, .aload_n 0, 1, 0, 0, 0, 0, 0),
  (66, .getfield 48, 3, 1, 12, 1, 0, 336),
  (69, .iload 4, 2, 0, 0, 0, 0, 0),
  (71, .iconst 0, 1, 0, 0, 0, 0, 0),
  (72, .iastore, 1, 0, 0, 0, 0, 0),
  (73, .iconst 0, 1, 0, 0, 0, 0, 0),
  (74, .istore 5, 2, 0, 0, 0, 0, 0),
  (76, .iload 5, 2, 0, 0, 0, 0, 0),
  (78, .bipush 32, 2, 0, 0, 0, 32, 0),
  (80, .if_icmp .ge 48, 3, 128, 0, 0, 0, 0),
  (83, .aload_n 0, 1, 0, 0, 0, 0, 0),
  (84, .getfield 36, 3, 1, 8, 1, 0, 332),
  (87, .iload 4, 2, 0, 0, 0, 0, 0),
  (89, .bipush 32, 2, 0, 0, 0, 32, 0),
  (91, .imul, 1, 0, 0, 0, 0, 0),
  (92, .iload 5, 2, 0, 0, 0, 0, 0),
  (94, .iadd, 1, 0, 0, 0, 0, 0),
  (95, .iaload, 1, 0, 0, 0, 0, 0),
  (96, .ifCond .lt 26, 3, 122, 0, 0, 0, 0),
  (99, .aload_n 0, 1, 0, 0, 0, 0, 0),
  (100, .iload 4, 2, 0, 0, 0, 0, 0),
  (102, .bipush 32, 2, 0, 0, 0, 32, 0),
  (104, .imul, 1, 0, 0, 0, 0, 0),
  (105, .iload 5, 2, 0, 0, 0, 0, 0),
  (107, .iload_n 3, 1, 0, 0, 0, 0, 0),
  (108, .invokevirtual 154, 3, 107, 4, 1, 1, 736),
  (111, .ifCond .ne 11, 3, 122, 0, 0, 0, 0),
  (114, .aload_n 0, 1, 0, 0, 0, 0, 0),
  (115, .iload 4, 2, 0, 0, 0, 0, 0),
  (117, .iload 5, 2, 0, 0, 0, 0, 0),
  (119, .invokevirtual 158, 3, 108, 3, 0, 1, 746),
  (122, .iinc 5 1, 3, 0, 0, 0, 0, 0),
  (125, .goto (-49), 3, 76, 0, 0, 0, 0),
  (128, .iinc 4 1, 3, 0, 0, 0, 0, 0),
  (131, .goto (-122), 3, 9, 0, 0, 0, 0),
  (134, .return_, 1, 0, 0, 0, 0, 0)]
/-- TollsThatPay$Goers.isBeaten(III)Z -/
def z_c107 : List z_E := [(0, .iload_n 1, 1, 0, 0, 0, 0, 0),
  (1, .iload_n 2, 1, 0, 0, 0, 0, 0),
  (2, .iadd, 1, 0, 0, 0, 0, 0),
  (3, .istore 4, 2, 0, 0, 0, 0, 0),
  (5, .iload_n 1, 1, 0, 0, 0, 0, 0),
  (6, .ifCond .lt 17, 3, 23, 0, 0, 0, 0),
  (9, .iload_n 2, 1, 0, 0, 0, 0, 0),
  (10, .ifCond .lt 13, 3, 23, 0, 0, 0, 0),
  (13, .iload 4, 2, 0, 0, 0, 0, 0),
  (15, .aload_n 0, 1, 0, 0, 0, 0, 0),
  (16, .getfield 36, 3, 1, 8, 1, 0, 332),
  (19, .arraylength, 1, 0, 0, 0, 0, 0),
  (20, .if_icmp .lt 5, 3, 25, 0, 0, 0, 0),
  (23, .iconst 1, 1, 0, 0, 0, 1, 0),
  (24, .ireturn, 1, 2, 0, 0, 0, 0),
  (25, .iconst 0, 1, 0, 0, 0, 0, 0),
  (26, .istore 5, 2, 0, 0, 0, 0, 0),
  (28, .iload 5, 2, 0, 0, 0, 0, 0),
  (30, .bipush 32, 2, 0, 0, 0, 32, 0),
  (32, .if_icmp .ge 128, 3, 160, 0, 0, 0, 0),
  (35, .iload_n 1, 1, 0, 0, 0, 0, 0),
  (36, .iload 5, 2, 0, 0, 0, 0, 0),
  (38, .iadd, 1, 0, 0, 0, 0, 0),
  (39, .aload_n 0, 1, 0, 0, 0, 0, 0),
  (40, .getfield 36, 3, 1, 8, 1, 0, 332),
  (43, .arraylength, 1, 0, 0, 0, 0, 0),
  (44, .if_icmp .ge 116, 3, 160, 0, 0, 0, 0),
  (47, .iload_n 1, 1, 0, 0, 0, 0, 0),
  (48, .iload 5, 2, 0, 0, 0, 0, 0),
  (50, .iadd, 1, 0, 0, 0, 0, 0),
  (51, .istore 6, 2, 0, 0, 0, 0, 0),
  (53, .iload 5, 2, 0, 0, 0, 0, 0),
  (55, .iload_n 2, 1, 0, 0, 0, 0, 0),
  (56, .if_icmp .eq 98, 3, 154, 0, 0, 0, 0),
  (59, .aload_n 0, 1, 0, 0, 0, 0, 0),
  (60, .getfield 36, 3, 1, 8, 1, 0, 332),
  (63, .iload 6, 2, 0, 0, 0, 0, 0),
  (65, .iaload, 1, 0, 0, 0, 0, 0),
  (66, .ifCond .lt 88, 3, 154, 0, 0, 0, 0),
  (69, .aload_n 0, 1, 0, 0, 0, 0, 0),
  (70, .getfield 36, 3, 1, 8, 1, 0, 332),
  (73, .iload 6, 2, 0, 0, 0, 0, 0),
  (75, .iaload, 1, 0, 0, 0, 0, 0),
  (76, .iload_n 3, 1, 0, 0, 0, 0, 0),
  (77, .iload 5, 2, 0, 0, 0, 0, 0),
  (79, .iload_n 2, 1, 0, 0, 0, 0, 0),
  (80, .iconst (-1), 1, 0, 0, 0, (-1), 0),
  (81, .ixor, 1, 0, 0, 0, 0, 0),
  (82, .iand, 1, 0, 0, 0, 0, 0),
  (83, .invokestatic 161, 3, 1300, 1, 1, 0, 740),
  (86, .imul, 1, 0, 0, 0, 0, 0),
  (87, .iadd, 1, 0, 0, 0, 0, 0),
  (88, .istore 7, 2, 0, 0, 0, 0, 0),
  (90, .iload 5, 2, 0, 0, 0, 0, 0),
  (92, .iload_n 2, 1, 0, 0, 0, 0, 0),
  (93, .iconst (-1), 1, 0, 0, 0, (-1), 0),
  (94, .ixor, 1, 0, 0, 0, 0, 0),
  (95, .iand, 1, 0, 0, 0, 0, 0),
  (96, .ifCond .ne 7, 3, 103, 0, 0, 0, 0),
  (99, .iconst 1, 1, 0, 0, 0, 1, 0),
  (100, .goto 4, 3, 104, 0, 0, 0, 0),
  (103, .iconst 0, 1, 0, 0, 0, 0, 0),
  (104, .istore 8, 2, 0, 0, 0, 0, 0),
  (106, .iload 7, 2, 0, 0, 0, 0, 0),
  (108, .aload_n 0, 1, 0, 0, 0, 0, 0),
  (109, .getfield 36, 3, 1, 8, 1, 0, 332),
  (112, .iload 4, 2, 0, 0, 0, 0, 0),
  (114, .iaload, 1, 0, 0, 0, 0, 0),
  (115, .if_icmp .lt 37, 3, 152, 0, 0, 0, 0),
  (118, .iload 8, 2, 0, 0, 0, 0, 0),
  (120, .ifCond .eq 34, 3, 154, 0, 0, 0, 0),
  (123, .iload 7, 2, 0, 0, 0, 0, 0),
  (125, .aload_n 0, 1, 0, 0, 0, 0, 0),
  (126, .getfield 36, 3, 1, 8, 1, 0, 332),
  (129, .iload 4, 2, 0, 0, 0, 0, 0),
  (131, .iaload, 1, 0, 0, 0, 0, 0),
  (132, .if_icmp .ne 22, 3, 154, 0, 0, 0, 0),
  (135, .aload_n 0, 1, 0, 0, 0, 0, 0),
  (136, .getfield 39, 3, 1, 9, 1, 0, 333),
  (139, .iload 6, 2, 0, 0, 0, 0, 0),
  (141, .iaload, 1, 0, 0, 0, 0, 0),
  (142, .aload_n 0, 1, 0, 0, 0, 0, 0),
  (143, .getfield 39, 3, 1, 9, 1, 0, 333),
  (146, .iload 4, 2, 0, 0, 0, 0, 0),
  (148, .iaload, 1, 0, 0, 0, 0, 0),
  (149, .if_icmp .ge 5, 3, 154, 0, 0, 0, 0),
  (152, .iconst 1, 1, 0, 0, 0, 1, 0),
  (153, .ireturn, 1, 2, 0, 0, 0, 0),
  (154, .iinc 5 1, 3, 0, 0, 0, 0, 0),
  (157, .goto (-129), 3, 28, 0, 0, 0, 0),
  (160, .iconst 0, 1, 0, 0, 0, 0, 0),
  (161, .ireturn, 1, 2, 0, 0, 0, 0)]
/-- TollsThatPay$Goers.insert(II)V -/
def z_c108 : List z_E := [(0, .iload_n 1, 1, 0, 0, 0, 0, 0),
  (1, .bipush 32, 2, 0, 0, 0, 32, 0),
  (3, .imul, 1, 0, 0, 0, 0, 0),
  (4, .istore_n 3, 1, 0, 0, 0, 0, 0),
  (5, .iload_n 3, 1, 0, 0, 0, 0, 0),
  (6, .aload_n 0, 1, 0, 0, 0, 0, 0),
  (7, .getfield 45, 3, 1, 11, 1, 0, 335),
  (10, .iload_n 1, 1, 0, 0, 0, 0, 0),
  (11, .iaload, 1, 0, 0, 0, 0, 0),
  (12, .iadd, 1, 0, 0, 0, 0, 0),
  (13, .istore 4, 2, 0, 0, 0, 0, 0),
  (15, .iload 4, 2, 0, 0, 0, 0, 0),
  (17, .aload_n 0, 1, 0, 0, 0, 0, 0),
  (18, .getfield 42, 3, 1, 10, 1, 0, 334),
  (21, .arraylength, 1, 0, 0, 0, 0, 0),
  (22, .if_icmp .lt 4, 3, 26, 0, 0, 0, 0),
  (25, .return_, 1, 0, 0, 0, 0, 0),
  (26, .aload_n 0, 1, 0, 0, 0, 0, 0),
  (27, .getfield 39, 3, 1, 9, 1, 0, 333),
  (30, .iload_n 3, 1, 0, 0, 0, 0, 0),
  (31, .iload_n 2, 1, 0, 0, 0, 0, 0),
  (32, .iadd, 1, 0, 0, 0, 0, 0),
  (33, .iaload, 1, 0, 0, 0, 0, 0),
  (34, .istore 5, 2, 0, 0, 0, 0, 0),
  (36, .iload 4, 2, 0, 0, 0, 0, 0),
  (38, .iload_n 3, 1, 0, 0, 0, 0, 0),
  (39, .if_icmp .le 49, 3, 88, 0, 0, 0, 0),
  (42, .aload_n 0, 1, 0, 0, 0, 0, 0),
  (43, .getfield 39, 3, 1, 9, 1, 0, 333),
  (46, .iload_n 3, 1, 0, 0, 0, 0, 0),
  (47, .aload_n 0, 1, 0, 0, 0, 0, 0),
  (48, .getfield 42, 3, 1, 10, 1, 0, 334),
  (51, .iload 4, 2, 0, 0, 0, 0, 0),
  (53, .iconst 1, 1, 0, 0, 0, 1, 0),
  (54, .isub, 1, 0, 0, 0, 0, 0),
  (55, .iaload, 1, 0, 0, 0, 0, 0),
  (56, .bipush 31, 2, 0, 0, 0, 31, 0),
  (58, .iand, 1, 0, 0, 0, 0, 0),
  (59, .iadd, 1, 0, 0, 0, 0, 0),
  (60, .iaload, 1, 0, 0, 0, 0, 0),
  (61, .iload 5, 2, 0, 0, 0, 0, 0),
  (63, .if_icmp .le 25, 3, 88, 0, 0, 0, 0),
  (66, .aload_n 0, 1, 0, 0, 0, 0, 0),
  (67, .getfield 42, 3, 1, 10, 1, 0, 334),
  (70, .iload 4, 2, 0, 0, 0, 0, 0),
  (72, .aload_n 0, 1, 0, 0, 0, 0, 0),
  (73, .getfield 42, 3, 1, 10, 1, 0, 334),
  (76, .iload 4, 2, 0, 0, 0, 0, 0),
  (78, .iconst 1, 1, 0, 0, 0, 1, 0),
  (79, .isub, 1, 0, 0, 0, 0, 0),
  (80, .iaload, 1, 0, 0, 0, 0, 0),
  (81, .iastore, 1, 0, 0, 0, 0, 0),
  (82, .iinc 4 (-1), 3, 0, 0, 0, 0, 0),
  (85, .goto (-49), 3, 36, 0, 0, 0, 0),
  (88, .aload_n 0, 1, 0, 0, 0, 0, 0),
  (89, .getfield 42, 3, 1, 10, 1, 0, 334),
  (92, .iload 4, 2, 0, 0, 0, 0, 0),
  (94, .aload_n 0, 1, 0, 0, 0, 0, 0),
  (95, .getfield 36, 3, 1, 8, 1, 0, 332),
  (98, .iload_n 3, 1, 0, 0, 0, 0, 0),
  (99, .iload_n 2, 1, 0, 0, 0, 0, 0),
  (100, .iadd, 1, 0, 0, 0, 0, 0),
  (101, .iaload, 1, 0, 0, 0, 0, 0),
  (102, .bipush 8, 2, 0, 0, 0, 8, 0),
  (104, .ishl, 1, 0, 0, 0, 0, 0),
  (105, .iload_n 2, 1, 0, 0, 0, 0, 0),
  (106, .ior, 1, 0, 0, 0, 0, 0),
  (107, .iastore, 1, 0, 0, 0, 0, 0),
  (108, .aload_n 0, 1, 0, 0, 0, 0, 0),
  (109, .getfield 45, 3, 1, 11, 1, 0, 335),
  (112, .iload_n 1, 1, 0, 0, 0, 0, 0),
  (113, .dup2, 1, 0, 0, 0, 0, 0),
  (114, .iaload, 1, 0, 0, 0, 0, 0),
  (115, .iconst 1, 1, 0, 0, 0, 1, 0),
  (116, .iadd, 1, 0, 0, 0, 0, 0),
  (117, .iastore, 1, 0, 0, 0, 0, 0),
  (118, .aload_n 0, 1, 0, 0, 0, 0, 0),
  (119, .getfield 48, 3, 1, 12, 1, 0, 336),
  (122, .iload_n 1, 1, 0, 0, 0, 0, 0),
  (123, .dup2, 1, 0, 0, 0, 0, 0),
  (124, .iaload, 1, 0, 0, 0, 0, 0),
  (125, .iload_n 2, 1, 0, 0, 0, 0, 0),
  (126, .ior, 1, 0, 0, 0, 0, 0),
  (127, .iastore, 1, 0, 0, 0, 0, 0),
  (128, .return_, 1, 0, 0, 0, 0, 0)]
/-- TollsThatPay$Goers.has(I)Z -/
def z_c109 : List z_E := [(0, .iload_n 1, 1, 0, 0, 0, 0, 0),
  (1, .ifCond .lt 21, 3, 22, 0, 0, 0, 0),
  (4, .iload_n 1, 1, 0, 0, 0, 0, 0),
  (5, .aload_n 0, 1, 0, 0, 0, 0, 0),
  (6, .getfield 58, 3, 1, 0, 0, 0, 321),
  (9, .if_icmp .ge 13, 3, 22, 0, 0, 0, 0),
  (12, .iload_n 1, 1, 0, 0, 0, 0, 0),
  (13, .bipush 48, 2, 0, 0, 0, 48, 0),
  (15, .if_icmp .ge 7, 3, 22, 0, 0, 0, 0),
  (18, .iconst 1, 1, 0, 0, 0, 1, 0),
  (19, .goto 4, 3, 23, 0, 0, 0, 0),
  (22, .iconst 0, 1, 0, 0, 0, 0, 0),
  (23, .ireturn, 1, 2, 0, 0, 0, 0)]
/-- TollsThatPay$Goers.find(II)I -/
def z_c110 : List z_E := [(0, .aload_n 0, 1, 0, 0, 0, 0, 0),
  (1, .getfield 51, 3, 1, 1, 1, 0, 325),
  (4, .iload_n 1, 1, 0, 0, 0, 0, 0),
  (5, .invokevirtual 166, 3, 202, 2, 1, 2, 767),
  (8, .ifCond .eq 27, 3, 35, 0, 0, 0, 0),
  (11, .iload_n 2, 1, 0, 0, 0, 0, 0),
  (12, .aload_n 0, 1, 0, 0, 0, 0, 0),
  (13, .getfield 51, 3, 1, 1, 1, 0, 325),
  (16, .iload_n 1, 1, 0, 0, 0, 0, 0),
  (17, .invokevirtual 103, 3, 209, 2, 1, 2, 639),
  (20, .if_icmp .lt 15, 3, 35, 0, 0, 0, 0),
  (23, .iload_n 2, 1, 0, 0, 0, 0, 0),
  (24, .aload_n 0, 1, 0, 0, 0, 0, 0),
  (25, .getfield 51, 3, 1, 1, 1, 0, 325),
  (28, .iload_n 1, 1, 0, 0, 0, 0, 0),
  (29, .invokevirtual 106, 3, 210, 2, 1, 2, 643),
  (32, .if_icmp .le 5, 3, 37, 0, 0, 0, 0),
  (35, .iconst (-1), 1, 0, 0, 0, (-1), 0),
  (36, .ireturn, 1, 1, 0, 0, 0, 0),
  (37, .aload_n 0, 1, 0, 0, 0, 0, 0),
  (38, .getfield 30, 3, 1, 6, 1, 0, 330),
  (41, .iload_n 1, 1, 0, 0, 0, 0, 0),
  (42, .iaload, 1, 0, 0, 0, 0, 0),
  (43, .iload_n 2, 1, 0, 0, 0, 0, 0),
  (44, .iadd, 1, 0, 0, 0, 0, 0),
  (45, .aload_n 0, 1, 0, 0, 0, 0, 0),
  (46, .getfield 51, 3, 1, 1, 1, 0, 325),
  (49, .iload_n 1, 1, 0, 0, 0, 0, 0),
  (50, .invokevirtual 103, 3, 209, 2, 1, 2, 639),
  (53, .isub, 1, 0, 0, 0, 0, 0),
  (54, .ireturn, 1, 1, 0, 0, 0, 0)]
/-- TollsThatPay$Goers.waysOf(I)I -/
def z_c111 : List z_E := [(0, .aload_n 0, 1, 0, 0, 0, 0, 0),
  (1, .getfield 51, 3, 1, 1, 1, 0, 325),
  (4, .iload_n 1, 1, 0, 0, 0, 0, 0),
  (5, .invokevirtual 166, 3, 202, 2, 1, 2, 767),
  (8, .ifCond .eq 12, 3, 20, 0, 0, 0, 0),
  (11, .aload_n 0, 1, 0, 0, 0, 0, 0),
  (12, .getfield 33, 3, 1, 7, 1, 0, 331),
  (15, .iload_n 1, 1, 0, 0, 0, 0, 0),
  (16, .iaload, 1, 0, 0, 0, 0, 0),
  (17, .goto 4, 3, 21, 0, 0, 0, 0),
  (20, .iconst (-1), 1, 0, 0, 0, (-1), 0),
  (21, .ireturn, 1, 1, 0, 0, 0, 0)]
/-- TollsThatPay$Goers.manyOf(I)I -/
def z_c112 : List z_E := [(0, .aload_n 0, 1, 0, 0, 0, 0, 0),
  (1, .iload_n 1, 1, 0, 0, 0, 0, 0),
  (2, .invokevirtual 169, 3, 109, 2, 1, 1, 780),
  (5, .ifCond .eq 12, 3, 17, 0, 0, 0, 0),
  (8, .aload_n 0, 1, 0, 0, 0, 0, 0),
  (9, .getfield 25, 3, 1, 5, 1, 0, 329),
  (12, .iload_n 1, 1, 0, 0, 0, 0, 0),
  (13, .iaload, 1, 0, 0, 0, 0, 0),
  (14, .goto 4, 3, 18, 0, 0, 0, 0),
  (17, .iconst 0, 1, 0, 0, 0, 0, 0),
  (18, .ireturn, 1, 1, 0, 0, 0, 0)]
/-- TollsThatPay$Goers.worthOf(I)I -/
def z_c113 : List z_E := [(0, .aload_n 0, 1, 0, 0, 0, 0, 0),
  (1, .iload_n 1, 1, 0, 0, 0, 0, 0),
  (2, .invokevirtual 169, 3, 109, 2, 1, 1, 780),
  (5, .ifCond .eq 12, 3, 17, 0, 0, 0, 0),
  (8, .aload_n 0, 1, 0, 0, 0, 0, 0),
  (9, .getfield 22, 3, 1, 4, 1, 0, 328),
  (12, .iload_n 1, 1, 0, 0, 0, 0, 0),
  (13, .iaload, 1, 0, 0, 0, 0, 0),
  (14, .goto 4, 3, 18, 0, 0, 0, 0),
  (17, .iconst 0, 1, 0, 0, 0, 0, 0),
  (18, .ireturn, 1, 1, 0, 0, 0, 0)]
/-- TollsThatPay$Goers.timeOf(I)I -/
def z_c114 : List z_E := [(0, .aload_n 0, 1, 0, 0, 0, 0, 0),
  (1, .iload_n 1, 1, 0, 0, 0, 0, 0),
  (2, .invokevirtual 169, 3, 109, 2, 1, 1, 780),
  (5, .ifCond .eq 19, 3, 24, 0, 0, 0, 0),
  (8, .aload_n 0, 1, 0, 0, 0, 0, 0),
  (9, .getfield 51, 3, 1, 1, 1, 0, 325),
  (12, .aload_n 0, 1, 0, 0, 0, 0, 0),
  (13, .getfield 18, 3, 1, 3, 1, 0, 327),
  (16, .iload_n 1, 1, 0, 0, 0, 0, 0),
  (17, .iaload, 1, 0, 0, 0, 0, 0),
  (18, .invokevirtual 170, 3, 214, 2, 1, 2, 1049),
  (21, .goto 4, 3, 25, 0, 0, 0, 0),
  (24, .iconst (-1), 1, 0, 0, 0, (-1), 0),
  (25, .ireturn, 1, 1, 0, 0, 0, 0)]
/-- TollsThatPay$Goers.isOfCrowd(I)Z -/
def z_c115 : List z_E := [(0, .aload_n 0, 1, 0, 0, 0, 0, 0),
  (1, .iload_n 1, 1, 0, 0, 0, 0, 0),
  (2, .invokevirtual 169, 3, 109, 2, 1, 1, 780),
  (5, .ifCond .eq 23, 3, 28, 0, 0, 0, 0),
  (8, .aload_n 0, 1, 0, 0, 0, 0, 0),
  (9, .getfield 51, 3, 1, 1, 1, 0, 325),
  (12, .aload_n 0, 1, 0, 0, 0, 0, 0),
  (13, .getfield 18, 3, 1, 3, 1, 0, 327),
  (16, .iload_n 1, 1, 0, 0, 0, 0, 0),
  (17, .iaload, 1, 0, 0, 0, 0, 0),
  (18, .invokevirtual 173, 3, 211, 2, 1, 2, 1170),
  (21, .ifCond .eq 7, 3, 28, 0, 0, 0, 0),
  (24, .iconst 1, 1, 0, 0, 0, 1, 0),
  (25, .goto 4, 3, 29, 0, 0, 0, 0),
  (28, .iconst 0, 1, 0, 0, 0, 0, 0),
  (29, .ireturn, 1, 2, 0, 0, 0, 0)]
/-- TollsThatPay$Goers.mayPay(II)Z -/
def z_c116 : List z_E := [(0, .aload_n 0, 1, 0, 0, 0, 0, 0),
  (1, .iload_n 1, 1, 0, 0, 0, 0, 0),
  (2, .invokevirtual 169, 3, 109, 2, 1, 1, 780),
  (5, .ifCond .eq 18, 3, 23, 0, 0, 0, 0),
  (8, .aload_n 0, 1, 0, 0, 0, 0, 0),
  (9, .getfield 48, 3, 1, 12, 1, 0, 336),
  (12, .iload_n 1, 1, 0, 0, 0, 0, 0),
  (13, .iaload, 1, 0, 0, 0, 0, 0),
  (14, .iload_n 2, 1, 0, 0, 0, 0, 0),
  (15, .iand, 1, 0, 0, 0, 0, 0),
  (16, .ifCond .eq 7, 3, 23, 0, 0, 0, 0),
  (19, .iconst 1, 1, 0, 0, 0, 1, 0),
  (20, .goto 4, 3, 24, 0, 0, 0, 0),
  (23, .iconst 0, 1, 0, 0, 0, 0, 0),
  (24, .ireturn, 1, 2, 0, 0, 0, 0)]
/-- TollsThatPay$Goers.baseOf(II)I -/
def z_c117 : List z_E := [(0, .aload_n 0, 1, 0, 0, 0, 0, 0),
  (1, .iload_n 1, 1, 0, 0, 0, 0, 0),
  (2, .invokevirtual 169, 3, 109, 2, 1, 1, 780),
  (5, .ifCond .eq 20, 3, 25, 0, 0, 0, 0),
  (8, .aload_n 0, 1, 0, 0, 0, 0, 0),
  (9, .getfield 36, 3, 1, 8, 1, 0, 332),
  (12, .iload_n 1, 1, 0, 0, 0, 0, 0),
  (13, .bipush 32, 2, 0, 0, 0, 32, 0),
  (15, .imul, 1, 0, 0, 0, 0, 0),
  (16, .iload_n 2, 1, 0, 0, 0, 0, 0),
  (17, .bipush 31, 2, 0, 0, 0, 31, 0),
  (19, .iand, 1, 0, 0, 0, 0, 0),
  (20, .iadd, 1, 0, 0, 0, 0, 0),
  (21, .iaload, 1, 0, 0, 0, 0, 0),
  (22, .goto 4, 3, 26, 0, 0, 0, 0),
  (25, .iconst (-1), 1, 0, 0, 0, (-1), 0),
  (26, .ireturn, 1, 1, 0, 0, 0, 0)]
/-- TollsThatPay$Goers.rankOf(II)I -/
def z_c118 : List z_E := [(0, .aload_n 0, 1, 0, 0, 0, 0, 0),
  (1, .iload_n 1, 1, 0, 0, 0, 0, 0),
  (2, .invokevirtual 169, 3, 109, 2, 1, 1, 780),
  (5, .ifCond .eq 20, 3, 25, 0, 0, 0, 0),
  (8, .aload_n 0, 1, 0, 0, 0, 0, 0),
  (9, .getfield 39, 3, 1, 9, 1, 0, 333),
  (12, .iload_n 1, 1, 0, 0, 0, 0, 0),
  (13, .bipush 32, 2, 0, 0, 0, 32, 0),
  (15, .imul, 1, 0, 0, 0, 0, 0),
  (16, .iload_n 2, 1, 0, 0, 0, 0, 0),
  (17, .bipush 31, 2, 0, 0, 0, 31, 0),
  (19, .iand, 1, 0, 0, 0, 0, 0),
  (20, .iadd, 1, 0, 0, 0, 0, 0),
  (21, .iaload, 1, 0, 0, 0, 0, 0),
  (22, .goto 4, 3, 26, 0, 0, 0, 0),
  (25, .iconst 0, 1, 0, 0, 0, 0, 0),
  (26, .ireturn, 1, 1, 0, 0, 0, 0)]
/-- TollsThatPay$Goers.choice(I[I)I -/
def z_c119 : List z_E := [(0, .aload_n 0, 1, 0, 0, 0, 0, 0),
  (1, .iload_n 1, 1, 0, 0, 0, 0, 0),
  (2, .invokevirtual 169, 3, 109, 2, 1, 1, 780),
  (5, .ifCond .eq 10, 3, 15, 0, 0, 0, 0),
  (8, .aload_n 2, 1, 0, 0, 0, 0, 0),
  (9, .arraylength, 1, 0, 0, 0, 0, 0),
  (10, .bipush 32, 2, 0, 0, 0, 32, 0),
  (12, .if_icmp .ge 5, 3, 17, 0, 0, 0, 0),
  (15, .iconst 0, 1, 0, 0, 0, 0, 0),
  (16, .ireturn, 1, 1, 0, 0, 0, 0),
  (17, .iload_n 1, 1, 0, 0, 0, 0, 0),
  (18, .bipush 32, 2, 0, 0, 0, 32, 0),
  (20, .imul, 1, 0, 0, 0, 0, 0),
  (21, .istore_n 3, 1, 0, 0, 0, 0, 0),
  (22, .ldc 176, 2, 0, 0, 0, 2147483647, 808),
  (24, .istore 4, 2, 0, 0, 0, 0, 0),
  (26, .iconst 0, 1, 0, 0, 0, 0, 0),
  (27, .istore 5, 2, 0, 0, 0, 0, 0),
  (29, .iload_n 3, 1, 0, 0, 0, 0, 0),
  (30, .istore 6, 2, 0, 0, 0, 0, 0),
  (32, .iload 6, 2, 0, 0, 0, 0, 0),
  (34, .iload_n 3, 1, 0, 0, 0, 0, 0),
  (35, .aload_n 0, 1, 0, 0, 0, 0, 0),
  (36, .getfield 45, 3, 1, 11, 1, 0, 335),
  (39, .iload_n 1, 1, 0, 0, 0, 0, 0),
  (40, .iaload, 1, 0, 0, 0, 0, 0),
  (41, .iadd, 1, 0, 0, 0, 0, 0),
  (42, .if_icmp .ge 62, 3, 104, 0, 0, 0, 0),
  (45, .iload 6, 2, 0, 0, 0, 0, 0),
  (47, .aload_n 0, 1, 0, 0, 0, 0, 0),
  (48, .getfield 42, 3, 1, 10, 1, 0, 334),
  (51, .arraylength, 1, 0, 0, 0, 0, 0),
  (52, .if_icmp .ge 52, 3, 104, 0, 0, 0, 0),
  (55, .aload_n 0, 1, 0, 0, 0, 0, 0),
  (56, .getfield 42, 3, 1, 10, 1, 0, 334),
  (59, .iload 6, 2, 0, 0, 0, 0, 0),
  (61, .iaload, 1, 0, 0, 0, 0, 0),
  (62, .istore 7, 2, 0, 0, 0, 0, 0),
  (64, .iload 7, 2, 0, 0, 0, 0, 0),
  (66, .sipush (-256), 3, 0, 0, 0, (-256), 0),
  (69, .iand, 1, 0, 0, 0, 0, 0),
  (70, .aload_n 2, 1, 0, 0, 0, 0, 0),
  (71, .iload 7, 2, 0, 0, 0, 0, 0),
  (73, .bipush 31, 2, 0, 0, 0, 31, 0),
  (75, .iand, 1, 0, 0, 0, 0, 0),
  (76, .iaload, 1, 0, 0, 0, 0, 0),
  (77, .iadd, 1, 0, 0, 0, 0, 0),
  (78, .istore 8, 2, 0, 0, 0, 0, 0),
  (80, .iload 8, 2, 0, 0, 0, 0, 0),
  (82, .iload 4, 2, 0, 0, 0, 0, 0),
  (84, .if_icmp .ge 14, 3, 98, 0, 0, 0, 0),
  (87, .iload 8, 2, 0, 0, 0, 0, 0),
  (89, .istore 4, 2, 0, 0, 0, 0, 0),
  (91, .iload 7, 2, 0, 0, 0, 0, 0),
  (93, .bipush 31, 2, 0, 0, 0, 31, 0),
  (95, .iand, 1, 0, 0, 0, 0, 0),
  (96, .istore 5, 2, 0, 0, 0, 0, 0),
  (98, .iinc 6 1, 3, 0, 0, 0, 0, 0),
  (101, .goto (-69), 3, 32, 0, 0, 0, 0),
  (104, .iload 5, 2, 0, 0, 0, 0, 0),
  (106, .ireturn, 1, 1, 0, 0, 0, 0)]
/-- TollsThatPay$Goers.passes(III)Z -/
def z_c120 : List z_E := [(0, .aload_n 0, 1, 0, 0, 0, 0, 0),
  (1, .iload_n 1, 1, 0, 0, 0, 0, 0),
  (2, .iload_n 2, 1, 0, 0, 0, 0, 0),
  (3, .invokevirtual 177, 3, 118, 3, 1, 1, 892),
  (6, .istore 4, 2, 0, 0, 0, 0, 0),
  (8, .iconst 0, 1, 0, 0, 0, 0, 0),
  (9, .istore 5, 2, 0, 0, 0, 0, 0),
  (11, .iload 4, 2, 0, 0, 0, 0, 0),
  (13, .bipush 28, 2, 0, 0, 0, 28, 0),
  (15, .iushr, 1, 0, 0, 0, 0, 0),
  (16, .iconst 1, 1, 0, 0, 0, 1, 0),
  (17, .isub, 1, 0, 0, 0, 0, 0),
  (18, .istore 6, 2, 0, 0, 0, 0, 0),
  (20, .iload 6, 2, 0, 0, 0, 0, 0),
  (22, .ifCond .lt 35, 3, 57, 0, 0, 0, 0),
  (25, .iload 5, 2, 0, 0, 0, 0, 0),
  (27, .ifCond .ne 17, 3, 44, 0, 0, 0, 0),
  (30, .iload 4, 2, 0, 0, 0, 0, 0),
  (32, .iconst 4, 1, 0, 0, 0, 4, 0),
  (33, .iload 6, 2, 0, 0, 0, 0, 0),
  (35, .imul, 1, 0, 0, 0, 0, 0),
  (36, .iushr, 1, 0, 0, 0, 0, 0),
  (37, .bipush 15, 2, 0, 0, 0, 15, 0),
  (39, .iand, 1, 0, 0, 0, 0, 0),
  (40, .iload_n 3, 1, 0, 0, 0, 0, 0),
  (41, .if_icmp .ne 7, 3, 48, 0, 0, 0, 0),
  (44, .iconst 1, 1, 0, 0, 0, 1, 0),
  (45, .goto 4, 3, 49, 0, 0, 0, 0),
  (48, .iconst 0, 1, 0, 0, 0, 0, 0),
  (49, .istore 5, 2, 0, 0, 0, 0, 0),
  (51, .iinc 6 (-1), 3, 0, 0, 0, 0, 0),
  (54, .goto (-34), 3, 20, 0, 0, 0, 0),
  (57, .iload 5, 2, 0, 0, 0, 0, 0),
  (59, .ireturn, 1, 2, 0, 0, 0, 0)]
/-- TollsThatPay$Goers.tellRoads(ILTollsThatPay$Row;)I -/
def z_c121 : List z_E := [(0, .aload_n 2, 1, 0, 0, 0, 0, 0),
  (1, .invokevirtual 180, 3, 701, 1, 0, 7, 817),
  (4, .iload_n 1, 1, 0, 0, 0, 0, 0),
  (5, .bipush 28, 2, 0, 0, 0, 28, 0),
  (7, .iushr, 1, 0, 0, 0, 0, 0),
  (8, .iconst 1, 1, 0, 0, 0, 1, 0),
  (9, .isub, 1, 0, 0, 0, 0, 0),
  (10, .istore_n 3, 1, 0, 0, 0, 0, 0),
  (11, .iload_n 3, 1, 0, 0, 0, 0, 0),
  (12, .ifCond .lt 21, 3, 33, 0, 0, 0, 0),
  (15, .aload_n 2, 1, 0, 0, 0, 0, 0),
  (16, .iload_n 1, 1, 0, 0, 0, 0, 0),
  (17, .iconst 4, 1, 0, 0, 0, 4, 0),
  (18, .iload_n 3, 1, 0, 0, 0, 0, 0),
  (19, .imul, 1, 0, 0, 0, 0, 0),
  (20, .iushr, 1, 0, 0, 0, 0, 0),
  (21, .bipush 15, 2, 0, 0, 0, 15, 0),
  (23, .iand, 1, 0, 0, 0, 0, 0),
  (24, .invokevirtual 185, 3, 702, 2, 0, 7, 821),
  (27, .iinc 3 (-1), 3, 0, 0, 0, 0, 0),
  (30, .goto (-19), 3, 11, 0, 0, 0, 0),
  (33, .aload_n 2, 1, 0, 0, 0, 0, 0),
  (34, .getfield 188, 3, 7, 1, 0, 0, 145),
  (37, .ireturn, 1, 1, 0, 0, 0, 0)]
def z_cc1 : List (List z_E) := [z_c100, z_c101, z_c102, z_c103, z_c104, z_c105, z_c106, z_c107, z_c108, z_c109, z_c110, z_c111, z_c112, z_c113, z_c114, z_c115, z_c116, z_c117, z_c118, z_c119, z_c120, z_c121]
def z_mm1 : List (MethodName × ByteArray × Nat × Option FieldType) := [(yX1_init, cX1_init, 2, none),
  (yX1_survey, cX1_survey, 5, (some .boolean)),
  (yX1_enter, cX1_enter, 4, none),
  (yX1_walk, cX1_walk, 7, none),
  (yX1_arrive, cX1_arrive, 4, none),
  (yX1_offer, cX1_offer, 6, none),
  (yX1_settle, cX1_settle, 6, none),
  (yX1_isBeaten, cX1_isBeaten, 9, (some .boolean)),
  (yX1_insert, cX1_insert, 6, none),
  (yX1_has, cX1_has, 2, (some .boolean)),
  (yX1_find, cX1_find, 3, (some .int)),
  (yX1_waysOf, cX1_waysOf, 2, (some .int)),
  (yX1_manyOf, cX1_manyOf, 2, (some .int)),
  (yX1_worthOf, cX1_worthOf, 2, (some .int)),
  (yX1_timeOf, cX1_timeOf, 2, (some .int)),
  (yX1_isOfCrowd, cX1_isOfCrowd, 2, (some .boolean)),
  (yX1_mayPay, cX1_mayPay, 3, (some .boolean)),
  (yX1_baseOf, cX1_baseOf, 3, (some .int)),
  (yX1_rankOf, cX1_rankOf, 3, (some .int)),
  (yX1_choice, cX1_choice, 9, (some .int)),
  (yX1_passes, cX1_passes, 7, (some .boolean)),
  (yX1_tellRoads, cX1_tellRoads, 4, (some .int))]
/-- TollsThatPay$Journeys.<init>()V -/
def z_c200 : List z_E := [(0, .aload_n 0, 1, 0, 0, 0, 0, 0),
  (1, .invokespecial 3, 3, 9998, 0, 0, 0, 220),
  (4, .aload_n 0, 1, 0, 0, 0, 0, 0),
  (5, .bipush 8, 2, 0, 0, 0, 8, 0),
  (7, .newarray .int, 2, 1, 0, 0, 0, 135),
  (9, .putfield 11, 3, 2, 1, 1, 0, 225),
  (12, .aload_n 0, 1, 0, 0, 0, 0, 0),
  (13, .bipush 8, 2, 0, 0, 0, 8, 0),
  (15, .newarray .int, 2, 1, 0, 0, 0, 135),
  (17, .putfield 15, 3, 2, 2, 1, 0, 226),
  (20, .aload_n 0, 1, 0, 0, 0, 0, 0),
  (21, .bipush 8, 2, 0, 0, 0, 8, 0),
  (23, .newarray .int, 2, 1, 0, 0, 0, 135),
  (25, .putfield 18, 3, 2, 3, 1, 0, 227),
  (28, .aload_n 0, 1, 0, 0, 0, 0, 0),
  (29, .bipush 8, 2, 0, 0, 0, 8, 0),
  (31, .newarray .int, 2, 1, 0, 0, 0, 135),
  (33, .putfield 21, 3, 2, 4, 1, 0, 228),
  (36, .aload_n 0, 1, 0, 0, 0, 0, 0),
  (37, .bipush 8, 2, 0, 0, 0, 8, 0),
  (39, .newarray .int, 2, 1, 0, 0, 0, 135),
  (41, .putfield 24, 3, 2, 5, 1, 0, 229),
  (44, .aload_n 0, 1, 0, 0, 0, 0, 0),
  (45, .bipush 8, 2, 0, 0, 0, 8, 0),
  (47, .newarray .int, 2, 1, 0, 0, 0, 135),
  (49, .putfield 27, 3, 2, 6, 1, 0, 230),
  (52, .aload_n 0, 1, 0, 0, 0, 0, 0),
  (53, .bipush 8, 2, 0, 0, 0, 8, 0),
  (55, .newarray .int, 2, 1, 0, 0, 0, 135),
  (57, .putfield 30, 3, 2, 7, 1, 0, 231),
  (60, .aload_n 0, 1, 0, 0, 0, 0, 0),
  (61, .bipush 8, 2, 0, 0, 0, 8, 0),
  (63, .newarray .int, 2, 1, 0, 0, 0, 135),
  (65, .putfield 33, 3, 2, 8, 1, 0, 232),
  (68, .aload_n 0, 1, 0, 0, 0, 0, 0),
  (69, .bipush 8, 2, 0, 0, 0, 8, 0),
  (71, .newarray .int, 2, 1, 0, 0, 0, 135),
  (73, .putfield 36, 3, 2, 9, 1, 0, 233),
  (76, .return_, 1, 0, 0, 0, 0, 0)]
/-- TollsThatPay$Journeys.copy(LTollsThatPay$Journeys;)V -/
def z_c201 : List z_E := [(0, .aload_n 0, 1, 0, 0, 0, 0, 0),
  (1, .aload_n 1, 1, 0, 0, 0, 0, 0),
  (2, .getfield 39, 3, 2, 0, 0, 0, 221),
  (5, .putfield 39, 3, 2, 0, 0, 0, 221),
  (8, .aload_n 1, 1, 0, 0, 0, 0, 0),
  (9, .getfield 11, 3, 2, 1, 1, 0, 225),
  (12, .iconst 0, 1, 0, 0, 0, 0, 0),
  (13, .aload_n 0, 1, 0, 0, 0, 0, 0),
  (14, .getfield 11, 3, 2, 1, 1, 0, 225),
  (17, .iconst 0, 1, 0, 0, 0, 0, 0),
  (18, .bipush 8, 2, 0, 0, 0, 8, 0),
  (20, .invokestatic 43, 3, 9999, 0, 0, 0, 557),
  (23, .aload_n 1, 1, 0, 0, 0, 0, 0),
  (24, .getfield 15, 3, 2, 2, 1, 0, 226),
  (27, .iconst 0, 1, 0, 0, 0, 0, 0),
  (28, .aload_n 0, 1, 0, 0, 0, 0, 0),
  (29, .getfield 15, 3, 2, 2, 1, 0, 226),
  (32, .iconst 0, 1, 0, 0, 0, 0, 0),
  (33, .bipush 8, 2, 0, 0, 0, 8, 0),
  (35, .invokestatic 43, 3, 9999, 0, 0, 0, 557),
  (38, .aload_n 1, 1, 0, 0, 0, 0, 0),
  (39, .getfield 18, 3, 2, 3, 1, 0, 227),
  (42, .iconst 0, 1, 0, 0, 0, 0, 0),
  (43, .aload_n 0, 1, 0, 0, 0, 0, 0),
  (44, .getfield 18, 3, 2, 3, 1, 0, 227),
  (47, .iconst 0, 1, 0, 0, 0, 0, 0),
  (48, .bipush 8, 2, 0, 0, 0, 8, 0),
  (50, .invokestatic 43, 3, 9999, 0, 0, 0, 557),
  (53, .aload_n 1, 1, 0, 0, 0, 0, 0),
  (54, .getfield 21, 3, 2, 4, 1, 0, 228),
  (57, .iconst 0, 1, 0, 0, 0, 0, 0),
  (58, .aload_n 0, 1, 0, 0, 0, 0, 0),
  (59, .getfield 21, 3, 2, 4, 1, 0, 228),
  (62, .iconst 0, 1, 0, 0, 0, 0, 0),
  (63, .bipush 8, 2, 0, 0, 0, 8, 0),
  (65, .invokestatic 43, 3, 9999, 0, 0, 0, 557),
  (68, .aload_n 1, 1, 0, 0, 0, 0, 0),
  (69, .getfield 24, 3, 2, 5, 1, 0, 229),
  (72, .iconst 0, 1, 0, 0, 0, 0, 0),
  (73, .aload_n 0, 1, 0, 0, 0, 0, 0),
  (74, .getfield 24, 3, 2, 5, 1, 0, 229),
  (77, .iconst 0, 1, 0, 0, 0, 0, 0),
  (78, .bipush 8, 2, 0, 0, 0, 8, 0),
  (80, .invokestatic 43, 3, 9999, 0, 0, 0, 557),
  (83, .aload_n 1, 1, 0, 0, 0, 0, 0),
  (84, .getfield 27, 3, 2, 6, 1, 0, 230),
  (87, .iconst 0, 1, 0, 0, 0, 0, 0),
  (88, .aload_n 0, 1, 0, 0, 0, 0, 0),
  (89, .getfield 27, 3, 2, 6, 1, 0, 230),
  (92, .iconst 0, 1, 0, 0, 0, 0, 0),
  (93, .bipush 8, 2, 0, 0, 0, 8, 0),
  (95, .invokestatic 43, 3, 9999, 0, 0, 0, 557),
  (98, .aload_n 1, 1, 0, 0, 0, 0, 0),
  (99, .getfield 30, 3, 2, 7, 1, 0, 231),
  (102, .iconst 0, 1, 0, 0, 0, 0, 0),
  (103, .aload_n 0, 1, 0, 0, 0, 0, 0),
  (104, .getfield 30, 3, 2, 7, 1, 0, 231),
  (107, .iconst 0, 1, 0, 0, 0, 0, 0),
  (108, .bipush 8, 2, 0, 0, 0, 8, 0),
  (110, .invokestatic 43, 3, 9999, 0, 0, 0, 557),
  (113, .aload_n 1, 1, 0, 0, 0, 0, 0),
  (114, .getfield 33, 3, 2, 8, 1, 0, 232),
  (117, .iconst 0, 1, 0, 0, 0, 0, 0),
  (118, .aload_n 0, 1, 0, 0, 0, 0, 0),
  (119, .getfield 33, 3, 2, 8, 1, 0, 232),
  (122, .iconst 0, 1, 0, 0, 0, 0, 0),
  (123, .bipush 8, 2, 0, 0, 0, 8, 0),
  (125, .invokestatic 43, 3, 9999, 0, 0, 0, 557),
  (128, .aload_n 1, 1, 0, 0, 0, 0, 0),
  (129, .getfield 36, 3, 2, 9, 1, 0, 233),
  (132, .iconst 0, 1, 0, 0, 0, 0, 0),
  (133, .aload_n 0, 1, 0, 0, 0, 0, 0),
  (134, .getfield 36, 3, 2, 9, 1, 0, 233),
  (137, .iconst 0, 1, 0, 0, 0, 0, 0),
  (138, .bipush 8, 2, 0, 0, 0, 8, 0),
  (140, .invokestatic 43, 3, 9999, 0, 0, 0, 557),
  (143, .return_, 1, 0, 0, 0, 0, 0)]
/-- TollsThatPay$Journeys.has(I)Z -/
def z_c202 : List z_E := [(0, .iload_n 1, 1, 0, 0, 0, 0, 0),
  (1, .ifCond .lt 21, 3, 22, 0, 0, 0, 0),
  (4, .iload_n 1, 1, 0, 0, 0, 0, 0),
  (5, .aload_n 0, 1, 0, 0, 0, 0, 0),
  (6, .getfield 39, 3, 2, 0, 0, 0, 221),
  (9, .if_icmp .ge 13, 3, 22, 0, 0, 0, 0),
  (12, .iload_n 1, 1, 0, 0, 0, 0, 0),
  (13, .bipush 8, 2, 0, 0, 0, 8, 0),
  (15, .if_icmp .ge 7, 3, 22, 0, 0, 0, 0),
  (18, .iconst 1, 1, 0, 0, 0, 1, 0),
  (19, .goto 4, 3, 23, 0, 0, 0, 0),
  (22, .iconst 0, 1, 0, 0, 0, 0, 0),
  (23, .ireturn, 1, 2, 0, 0, 0, 0)]
/-- TollsThatPay$Journeys.add(III)V -/
def z_c203 : List z_E := [(0, .aload_n 0, 1, 0, 0, 0, 0, 0),
  (1, .getfield 39, 3, 2, 0, 0, 0, 221),
  (4, .bipush 8, 2, 0, 0, 0, 8, 0),
  (6, .if_icmp .ge 33, 3, 39, 0, 0, 0, 0),
  (9, .aload_n 0, 1, 0, 0, 0, 0, 0),
  (10, .getfield 11, 3, 2, 1, 1, 0, 225),
  (13, .aload_n 0, 1, 0, 0, 0, 0, 0),
  (14, .getfield 39, 3, 2, 0, 0, 0, 221),
  (17, .iload_n 1, 1, 0, 0, 0, 0, 0),
  (18, .iastore, 1, 0, 0, 0, 0, 0),
  (19, .aload_n 0, 1, 0, 0, 0, 0, 0),
  (20, .getfield 15, 3, 2, 2, 1, 0, 226),
  (23, .aload_n 0, 1, 0, 0, 0, 0, 0),
  (24, .getfield 39, 3, 2, 0, 0, 0, 221),
  (27, .iload_n 2, 1, 0, 0, 0, 0, 0),
  (28, .iastore, 1, 0, 0, 0, 0, 0),
  (29, .aload_n 0, 1, 0, 0, 0, 0, 0),
  (30, .getfield 18, 3, 2, 3, 1, 0, 227),
  (33, .aload_n 0, 1, 0, 0, 0, 0, 0),
  (34, .getfield 39, 3, 2, 0, 0, 0, 221),
  (37, .iload_n 3, 1, 0, 0, 0, 0, 0),
  (38, .iastore, 1, 0, 0, 0, 0, 0),
  (39, .aload_n 0, 1, 0, 0, 0, 0, 0),
  (40, .dup, 1, 0, 0, 0, 0, 0),
  (41, .getfield 39, 3, 2, 0, 0, 0, 221),
  (44, .iconst 1, 1, 0, 0, 0, 1, 0),
  (45, .iadd, 1, 0, 0, 0, 0, 0),
  (46, .putfield 39, 3, 2, 0, 0, 0, 221),
  (49, .return_, 1, 0, 0, 0, 0, 0)]
/-- TollsThatPay$Journeys.worthsOfLatest(IIZ)V -/
def z_c204 : List z_E := [(0, .aload_n 0, 1, 0, 0, 0, 0, 0),
  (1, .getfield 39, 3, 2, 0, 0, 0, 221),
  (4, .iconst 1, 1, 0, 0, 0, 1, 0),
  (5, .isub, 1, 0, 0, 0, 0, 0),
  (6, .istore 4, 2, 0, 0, 0, 0, 0),
  (8, .aload_n 0, 1, 0, 0, 0, 0, 0),
  (9, .iload 4, 2, 0, 0, 0, 0, 0),
  (11, .invokevirtual 49, 3, 202, 2, 1, 2, 613),
  (14, .ifCond .eq 35, 3, 49, 0, 0, 0, 0),
  (17, .aload_n 0, 1, 0, 0, 0, 0, 0),
  (18, .getfield 21, 3, 2, 4, 1, 0, 228),
  (21, .iload 4, 2, 0, 0, 0, 0, 0),
  (23, .iload_n 1, 1, 0, 0, 0, 0, 0),
  (24, .iastore, 1, 0, 0, 0, 0, 0),
  (25, .aload_n 0, 1, 0, 0, 0, 0, 0),
  (26, .getfield 24, 3, 2, 5, 1, 0, 229),
  (29, .iload 4, 2, 0, 0, 0, 0, 0),
  (31, .iload_n 2, 1, 0, 0, 0, 0, 0),
  (32, .iastore, 1, 0, 0, 0, 0, 0),
  (33, .aload_n 0, 1, 0, 0, 0, 0, 0),
  (34, .getfield 27, 3, 2, 6, 1, 0, 230),
  (37, .iload 4, 2, 0, 0, 0, 0, 0),
  (39, .iload_n 3, 1, 0, 0, 0, 0, 0),
  (40, .ifCond .eq 7, 3, 47, 0, 0, 0, 0),
  (43, .iconst 1, 1, 0, 0, 0, 1, 0),
  (44, .goto 4, 3, 48, 0, 0, 0, 0),
  (47, .iconst 0, 1, 0, 0, 0, 0, 0),
  (48, .iastore, 1, 0, 0, 0, 0, 0),
  (49, .return_, 1, 0, 0, 0, 0, 0)]
/-- TollsThatPay$Journeys.boundsOfLatest(III)V -/
def z_c205 : List z_E := [(0, .aload_n 0, 1, 0, 0, 0, 0, 0),
  (1, .getfield 39, 3, 2, 0, 0, 0, 221),
  (4, .iconst 1, 1, 0, 0, 0, 1, 0),
  (5, .isub, 1, 0, 0, 0, 0, 0),
  (6, .istore 4, 2, 0, 0, 0, 0, 0),
  (8, .aload_n 0, 1, 0, 0, 0, 0, 0),
  (9, .iload 4, 2, 0, 0, 0, 0, 0),
  (11, .invokevirtual 49, 3, 202, 2, 1, 2, 613),
  (14, .ifCond .eq 32, 3, 46, 0, 0, 0, 0),
  (17, .aload_n 0, 1, 0, 0, 0, 0, 0),
  (18, .getfield 30, 3, 2, 7, 1, 0, 231),
  (21, .iload 4, 2, 0, 0, 0, 0, 0),
  (23, .iload_n 1, 1, 0, 0, 0, 0, 0),
  (24, .bipush 14, 2, 0, 0, 0, 14, 0),
  (26, .invokestatic 55, 3, 9996, 0, 0, 0, 621),
  (29, .iastore, 1, 0, 0, 0, 0, 0),
  (30, .aload_n 0, 1, 0, 0, 0, 0, 0),
  (31, .getfield 33, 3, 2, 8, 1, 0, 232),
  (34, .iload 4, 2, 0, 0, 0, 0, 0),
  (36, .iload_n 2, 1, 0, 0, 0, 0, 0),
  (37, .iastore, 1, 0, 0, 0, 0, 0),
  (38, .aload_n 0, 1, 0, 0, 0, 0, 0),
  (39, .getfield 36, 3, 2, 9, 1, 0, 233),
  (42, .iload 4, 2, 0, 0, 0, 0, 0),
  (44, .iload_n 3, 1, 0, 0, 0, 0, 0),
  (45, .iastore, 1, 0, 0, 0, 0, 0),
  (46, .return_, 1, 0, 0, 0, 0, 0)]
/-- TollsThatPay$Journeys.fromOf(I)I -/
def z_c206 : List z_E := [(0, .aload_n 0, 1, 0, 0, 0, 0, 0),
  (1, .iload_n 1, 1, 0, 0, 0, 0, 0),
  (2, .invokevirtual 49, 3, 202, 2, 1, 2, 613),
  (5, .ifCond .eq 12, 3, 17, 0, 0, 0, 0),
  (8, .aload_n 0, 1, 0, 0, 0, 0, 0),
  (9, .getfield 11, 3, 2, 1, 1, 0, 225),
  (12, .iload_n 1, 1, 0, 0, 0, 0, 0),
  (13, .iaload, 1, 0, 0, 0, 0, 0),
  (14, .goto 4, 3, 18, 0, 0, 0, 0),
  (17, .iconst 0, 1, 0, 0, 0, 0, 0),
  (18, .ireturn, 1, 1, 0, 0, 0, 0)]
/-- TollsThatPay$Journeys.toOf(I)I -/
def z_c207 : List z_E := [(0, .aload_n 0, 1, 0, 0, 0, 0, 0),
  (1, .iload_n 1, 1, 0, 0, 0, 0, 0),
  (2, .invokevirtual 49, 3, 202, 2, 1, 2, 613),
  (5, .ifCond .eq 12, 3, 17, 0, 0, 0, 0),
  (8, .aload_n 0, 1, 0, 0, 0, 0, 0),
  (9, .getfield 15, 3, 2, 2, 1, 0, 226),
  (12, .iload_n 1, 1, 0, 0, 0, 0, 0),
  (13, .iaload, 1, 0, 0, 0, 0, 0),
  (14, .goto 4, 3, 18, 0, 0, 0, 0),
  (17, .iconst 0, 1, 0, 0, 0, 0, 0),
  (18, .ireturn, 1, 1, 0, 0, 0, 0)]
/-- TollsThatPay$Journeys.manyOf(I)I -/
def z_c208 : List z_E := [(0, .aload_n 0, 1, 0, 0, 0, 0, 0),
  (1, .iload_n 1, 1, 0, 0, 0, 0, 0),
  (2, .invokevirtual 49, 3, 202, 2, 1, 2, 613),
  (5, .ifCond .eq 12, 3, 17, 0, 0, 0, 0),
  (8, .aload_n 0, 1, 0, 0, 0, 0, 0),
  (9, .getfield 18, 3, 2, 3, 1, 0, 227),
  (12, .iload_n 1, 1, 0, 0, 0, 0, 0),
  (13, .iaload, 1, 0, 0, 0, 0, 0),
  (14, .goto 4, 3, 18, 0, 0, 0, 0),
  (17, .iconst 0, 1, 0, 0, 0, 0, 0),
  (18, .ireturn, 1, 1, 0, 0, 0, 0)]
/-- TollsThatPay$Journeys.lowOf(I)I -/
def z_c209 : List z_E := [(0, .aload_n 0, 1, 0, 0, 0, 0, 0),
  (1, .iload_n 1, 1, 0, 0, 0, 0, 0),
  (2, .invokevirtual 49, 3, 202, 2, 1, 2, 613),
  (5, .ifCond .eq 12, 3, 17, 0, 0, 0, 0),
  (8, .aload_n 0, 1, 0, 0, 0, 0, 0),
  (9, .getfield 21, 3, 2, 4, 1, 0, 228),
  (12, .iload_n 1, 1, 0, 0, 0, 0, 0),
  (13, .iaload, 1, 0, 0, 0, 0, 0),
  (14, .goto 4, 3, 18, 0, 0, 0, 0),
  (17, .iconst 0, 1, 0, 0, 0, 0, 0),
  (18, .ireturn, 1, 1, 0, 0, 0, 0)]
/-- TollsThatPay$Journeys.highOf(I)I -/
def z_c210 : List z_E := [(0, .aload_n 0, 1, 0, 0, 0, 0, 0),
  (1, .iload_n 1, 1, 0, 0, 0, 0, 0),
  (2, .invokevirtual 49, 3, 202, 2, 1, 2, 613),
  (5, .ifCond .eq 12, 3, 17, 0, 0, 0, 0),
  (8, .aload_n 0, 1, 0, 0, 0, 0, 0),
  (9, .getfield 24, 3, 2, 5, 1, 0, 229),
  (12, .iload_n 1, 1, 0, 0, 0, 0, 0),
  (13, .iaload, 1, 0, 0, 0, 0, 0),
  (14, .goto 4, 3, 18, 0, 0, 0, 0),
  (17, .iconst (-1), 1, 0, 0, 0, (-1), 0),
  (18, .ireturn, 1, 1, 0, 0, 0, 0)]
/-- TollsThatPay$Journeys.isCrowd(I)Z -/
def z_c211 : List z_E := [(0, .aload_n 0, 1, 0, 0, 0, 0, 0),
  (1, .iload_n 1, 1, 0, 0, 0, 0, 0),
  (2, .invokevirtual 49, 3, 202, 2, 1, 2, 613),
  (5, .ifCond .eq 16, 3, 21, 0, 0, 0, 0),
  (8, .aload_n 0, 1, 0, 0, 0, 0, 0),
  (9, .getfield 27, 3, 2, 6, 1, 0, 230),
  (12, .iload_n 1, 1, 0, 0, 0, 0, 0),
  (13, .iaload, 1, 0, 0, 0, 0, 0),
  (14, .ifCond .eq 7, 3, 21, 0, 0, 0, 0),
  (17, .iconst 1, 1, 0, 0, 0, 1, 0),
  (18, .goto 4, 3, 22, 0, 0, 0, 0),
  (21, .iconst 0, 1, 0, 0, 0, 0, 0),
  (22, .ireturn, 1, 2, 0, 0, 0, 0)]
/-- TollsThatPay$Journeys.knownOf(I)I -/
def z_c212 : List z_E := [(0, .aload_n 0, 1, 0, 0, 0, 0, 0),
  (1, .iload_n 1, 1, 0, 0, 0, 0, 0),
  (2, .invokevirtual 49, 3, 202, 2, 1, 2, 613),
  (5, .ifCond .eq 12, 3, 17, 0, 0, 0, 0),
  (8, .aload_n 0, 1, 0, 0, 0, 0, 0),
  (9, .getfield 30, 3, 2, 7, 1, 0, 231),
  (12, .iload_n 1, 1, 0, 0, 0, 0, 0),
  (13, .iaload, 1, 0, 0, 0, 0, 0),
  (14, .goto 4, 3, 18, 0, 0, 0, 0),
  (17, .iconst 0, 1, 0, 0, 0, 0, 0),
  (18, .ireturn, 1, 1, 0, 0, 0, 0)]
/-- TollsThatPay$Journeys.homeOf(I)I -/
def z_c213 : List z_E := [(0, .aload_n 0, 1, 0, 0, 0, 0, 0),
  (1, .iload_n 1, 1, 0, 0, 0, 0, 0),
  (2, .invokevirtual 49, 3, 202, 2, 1, 2, 613),
  (5, .ifCond .eq 12, 3, 17, 0, 0, 0, 0),
  (8, .aload_n 0, 1, 0, 0, 0, 0, 0),
  (9, .getfield 33, 3, 2, 8, 1, 0, 232),
  (12, .iload_n 1, 1, 0, 0, 0, 0, 0),
  (13, .iaload, 1, 0, 0, 0, 0, 0),
  (14, .goto 4, 3, 18, 0, 0, 0, 0),
  (17, .iconst (-1), 1, 0, 0, 0, (-1), 0),
  (18, .ireturn, 1, 1, 0, 0, 0, 0)]
/-- TollsThatPay$Journeys.timeOf(I)I -/
def z_c214 : List z_E := [(0, .aload_n 0, 1, 0, 0, 0, 0, 0),
  (1, .iload_n 1, 1, 0, 0, 0, 0, 0),
  (2, .invokevirtual 49, 3, 202, 2, 1, 2, 613),
  (5, .ifCond .eq 12, 3, 17, 0, 0, 0, 0),
  (8, .aload_n 0, 1, 0, 0, 0, 0, 0),
  (9, .getfield 36, 3, 2, 9, 1, 0, 233),
  (12, .iload_n 1, 1, 0, 0, 0, 0, 0),
  (13, .iaload, 1, 0, 0, 0, 0, 0),
  (14, .goto 4, 3, 18, 0, 0, 0, 0),
  (17, .iconst (-1), 1, 0, 0, 0, (-1), 0),
  (18, .ireturn, 1, 1, 0, 0, 0, 0)]
def z_cc2 : List (List z_E) := [z_c200, z_c201, z_c202, z_c203, z_c204, z_c205, z_c206, z_c207, z_c208, z_c209, z_c210, z_c211, z_c212, z_c213, z_c214]
def z_mm2 : List (MethodName × ByteArray × Nat × Option FieldType) := [(yX2_init, cX2_init, 1, none),
  (yX2_copy, cX2_copy, 2, none),
  (yX2_has, cX2_has, 2, (some .boolean)),
  (yX2_add, cX2_add, 4, none),
  (yX2_worthsOfLatest, cX2_worthsOfLatest, 5, none),
  (yX2_boundsOfLatest, cX2_boundsOfLatest, 5, none),
  (yX2_fromOf, cX2_fromOf, 2, (some .int)),
  (yX2_toOf, cX2_toOf, 2, (some .int)),
  (yX2_manyOf, cX2_manyOf, 2, (some .int)),
  (yX2_lowOf, cX2_lowOf, 2, (some .int)),
  (yX2_highOf, cX2_highOf, 2, (some .int)),
  (yX2_isCrowd, cX2_isCrowd, 2, (some .boolean)),
  (yX2_knownOf, cX2_knownOf, 2, (some .int)),
  (yX2_homeOf, cX2_homeOf, 2, (some .int)),
  (yX2_timeOf, cX2_timeOf, 2, (some .int))]
/-- TollsThatPay$Land.<init>()V -/
def z_c300 : List z_E := [(0, .aload_n 0, 1, 0, 0, 0, 0, 0),
  (1, .invokespecial 1, 3, 9998, 0, 0, 0, 156),
  (4, .aload_n 0, 1, 0, 0, 0, 0, 0),
  (5, .new 7, 3, 6, 0, 0, 12, 157),
  (8, .dup, 1, 0, 0, 0, 0, 0),
  (9, .invokespecial 9, 3, 600, 1, 0, 6, 159),
  (12, .putfield 10, 3, 3, 0, 1, 0, 255),
  (15, .aload_n 0, 1, 0, 0, 0, 0, 0),
  (16, .new 16, 3, 2, 0, 0, 10, 215),
  (19, .dup, 1, 0, 0, 0, 0, 0),
  (20, .invokespecial 18, 3, 200, 1, 0, 2, 217),
  (23, .putfield 19, 3, 3, 1, 1, 0, 260),
  (26, .return_, 1, 0, 0, 0, 0, 0)]
/-- TollsThatPay$Land.copy(LTollsThatPay$Land;)V -/
def z_c301 : List z_E := [(0, .aload_n 0, 1, 0, 0, 0, 0, 0),
  (1, .getfield 10, 3, 3, 0, 1, 0, 255),
  (4, .aload_n 1, 1, 0, 0, 0, 0, 0),
  (5, .getfield 10, 3, 3, 0, 1, 0, 255),
  (8, .invokevirtual 23, 3, 601, 2, 0, 6, 546),
  (11, .aload_n 0, 1, 0, 0, 0, 0, 0),
  (12, .getfield 19, 3, 3, 1, 1, 0, 260),
  (15, .aload_n 1, 1, 0, 0, 0, 0, 0),
  (16, .getfield 19, 3, 3, 1, 1, 0, 260),
  (19, .invokevirtual 27, 3, 201, 2, 0, 2, 553),
  (22, .return_, 1, 0, 0, 0, 0, 0)]
/-- TollsThatPay$Land.excess()I -/
def z_c302 : List z_E := [(0, .aload_n 0, 1, 0, 0, 0, 0, 0),
  (1, .getfield 10, 3, 3, 0, 1, 0, 255),
  (4, .getfield 30, 3, 6, 0, 0, 0, 164),
  (7, .bipush 14, 2, 0, 0, 0, 14, 0),
  (9, .if_icmp .le 6, 3, 15, 0, 0, 0, 0),
  (12, .bipush (-100), 2, 0, 0, 0, (-100), 0),
  (14, .ireturn, 1, 1, 0, 0, 0, 0),
  (15, .aload_n 0, 1, 0, 0, 0, 0, 0),
  (16, .getfield 10, 3, 3, 0, 1, 0, 255),
  (19, .getfield 34, 3, 6, 1, 0, 0, 169),
  (22, .iconst 5, 1, 0, 0, 0, 5, 0),
  (23, .if_icmp .le 6, 3, 29, 0, 0, 0, 0),
  (26, .bipush (-101), 2, 0, 0, 0, (-101), 0),
  (28, .ireturn, 1, 1, 0, 0, 0, 0),
  (29, .aload_n 0, 1, 0, 0, 0, 0, 0),
  (30, .getfield 19, 3, 3, 1, 1, 0, 260),
  (33, .getfield 37, 3, 2, 0, 0, 0, 223),
  (36, .bipush 8, 2, 0, 0, 0, 8, 0),
  (38, .if_icmp .le 8, 3, 46, 0, 0, 0, 0),
  (41, .bipush (-102), 2, 0, 0, 0, (-102), 0),
  (43, .goto 4, 3, 47, 0, 0, 0, 0),
  (46, .iconst 0, 1, 0, 0, 0, 0, 0),
  (47, .ireturn, 1, 1, 0, 0, 0, 0)]
def z_cc3 : List (List z_E) := [z_c300, z_c301, z_c302]
def z_mm3 : List (MethodName × ByteArray × Nat × Option FieldType) := [(yX3_init, cX3_init, 1, none),
  (yX3_copy, cX3_copy, 2, none),
  (yX3_excess, cX3_excess, 1, (some .int))]
/-- TollsThatPay$Market.<init>(LTollsThatPay$Goers;LTollsThatPay$Roads;)V -/
def z_c400 : List z_E := [(0, .aload_n 0, 1, 0, 0, 0, 0, 0),
  (1, .invokespecial 3, 3, 9998, 0, 0, 0, 369),
  (4, .aload_n 0, 1, 0, 0, 0, 0, 0),
  (5, .new 9, 3, 8, 0, 0, 7, 370),
  (8, .dup, 1, 0, 0, 0, 0, 0),
  (9, .invokespecial 11, 3, 800, 1, 0, 8, 372),
  (12, .putfield 12, 3, 4, 0, 1, 0, 402),
  (15, .aload_n 0, 1, 0, 0, 0, 0, 0),
  (16, .iconst 5, 1, 0, 0, 0, 5, 0),
  (17, .newarray .int, 2, 1, 0, 0, 0, 135),
  (19, .putfield 20, 3, 4, 1, 1, 0, 405),
  (22, .aload_n 0, 1, 0, 0, 0, 0, 0),
  (23, .bipush 48, 2, 0, 0, 0, 48, 0),
  (25, .newarray .int, 2, 1, 0, 0, 0, 135),
  (27, .putfield 26, 3, 4, 4, 1, 0, 412),
  (30, .aload_n 0, 1, 0, 0, 0, 0, 0),
  (31, .aload_n 1, 1, 0, 0, 0, 0, 0),
  (32, .putfield 29, 3, 4, 3, 1, 0, 411),
  (35, .aload_n 0, 1, 0, 0, 0, 0, 0),
  (36, .aload_n 2, 1, 0, 0, 0, 0, 0),
  (37, .putfield 33, 3, 4, 2, 1, 0, 409),
  (40, .return_, 1, 0, 0, 0, 0, 0)]
/-- TollsThatPay$Market.open(LTollsThatPay$Roads;I)V -/
def z_c401 : List z_E := [(0, .aload_n 0, 1, 0, 0, 0, 0, 0),
  (1, .aload_n 1, 1, 0, 0, 0, 0, 0),
  (2, .putfield 33, 3, 4, 2, 1, 0, 409),
  (5, .aload_n 0, 1, 0, 0, 0, 0, 0),
  (6, .iload_n 2, 1, 0, 0, 0, 0, 0),
  (7, .putfield 37, 3, 4, 5, 0, 0, 413),
  (10, .aload_n 0, 1, 0, 0, 0, 0, 0),
  (11, .getfield 12, 3, 4, 0, 1, 0, 402),
  (14, .aload_n 1, 1, 0, 0, 0, 0, 0),
  (15, .getfield 41, 3, 6, 1, 0, 0, 168),
  (18, .putfield 44, 3, 8, 3, 0, 0, 382),
  (21, .iconst 0, 1, 0, 0, 0, 0, 0),
  (22, .istore_n 3, 1, 0, 0, 0, 0, 0),
  (23, .iload_n 3, 1, 0, 0, 0, 0, 0),
  (24, .aload_n 0, 1, 0, 0, 0, 0, 0),
  (25, .getfield 29, 3, 4, 3, 1, 0, 411),
  (28, .getfield 47, 3, 1, 0, 0, 0, 322),
  (31, .if_icmp .ge 32, 3, 63, 0, 0, 0, 0),
  (34, .iload_n 3, 1, 0, 0, 0, 0, 0),
  (35, .aload_n 0, 1, 0, 0, 0, 0, 0),
  (36, .getfield 26, 3, 4, 4, 1, 0, 412),
  (39, .arraylength, 1, 0, 0, 0, 0, 0),
  (40, .if_icmp .ge 23, 3, 63, 0, 0, 0, 0),
  (43, .aload_n 0, 1, 0, 0, 0, 0, 0),
  (44, .getfield 26, 3, 4, 4, 1, 0, 412),
  (47, .iload_n 3, 1, 0, 0, 0, 0, 0),
  (48, .aload_n 0, 1, 0, 0, 0, 0, 0),
  (49, .getfield 29, 3, 4, 3, 1, 0, 411),
  (52, .iload_n 3, 1, 0, 0, 0, 0, 0),
  (53, .invokevirtual 50, 3, 112, 2, 1, 1, 776),
  (56, .iastore, 1, 0, 0, 0, 0, 0),
  (57, .iinc 3 1, 3, 0, 0, 0, 0, 0),
  (60, .goto (-37), 3, 23, 0, 0, 0, 0),
  (63, .aload_n 0, 1, 0, 0, 0, 0, 0),
  (64, .aload_n 0, 1, 0, 0, 0, 0, 0),
  (65, .getfield 33, 3, 4, 2, 1, 0, 409),
  (68, .getfield 54, 3, 6, 5, 1, 0, 181),
  (71, .invokevirtual 57, 3, 404, 2, 0, 4, 784),
  (74, .return_, 1, 0, 0, 0, 0, 0)]
/-- TollsThatPay$Market.shareTime(I)V -/
def z_c402 : List z_E := [(0, .iconst 0, 1, 0, 0, 0, 0, 0),
  (1, .istore_n 2, 1, 0, 0, 0, 0, 0),
  (2, .iload_n 2, 1, 0, 0, 0, 0, 0),
  (3, .aload_n 0, 1, 0, 0, 0, 0, 0),
  (4, .getfield 29, 3, 4, 3, 1, 0, 411),
  (7, .getfield 47, 3, 1, 0, 0, 0, 322),
  (10, .if_icmp .ge 48, 3, 58, 0, 0, 0, 0),
  (13, .iload_n 2, 1, 0, 0, 0, 0, 0),
  (14, .aload_n 0, 1, 0, 0, 0, 0, 0),
  (15, .getfield 26, 3, 4, 4, 1, 0, 412),
  (18, .arraylength, 1, 0, 0, 0, 0, 0),
  (19, .if_icmp .ge 39, 3, 58, 0, 0, 0, 0),
  (22, .aload_n 0, 1, 0, 0, 0, 0, 0),
  (23, .getfield 26, 3, 4, 4, 1, 0, 412),
  (26, .iload_n 2, 1, 0, 0, 0, 0, 0),
  (27, .aload_n 0, 1, 0, 0, 0, 0, 0),
  (28, .getfield 29, 3, 4, 3, 1, 0, 411),
  (31, .iload_n 2, 1, 0, 0, 0, 0, 0),
  (32, .invokevirtual 61, 3, 114, 2, 1, 1, 1045),
  (35, .iload_n 1, 1, 0, 0, 0, 0, 0),
  (36, .if_icmp .ne 14, 3, 50, 0, 0, 0, 0),
  (39, .aload_n 0, 1, 0, 0, 0, 0, 0),
  (40, .getfield 29, 3, 4, 3, 1, 0, 411),
  (43, .iload_n 2, 1, 0, 0, 0, 0, 0),
  (44, .invokevirtual 50, 3, 112, 2, 1, 1, 776),
  (47, .goto 4, 3, 51, 0, 0, 0, 0),
  (50, .iconst 0, 1, 0, 0, 0, 0, 0),
  (51, .iastore, 1, 0, 0, 0, 0, 0),
  (52, .iinc 2 1, 3, 0, 0, 0, 0, 0),
  (55, .goto (-53), 3, 2, 0, 0, 0, 0),
  (58, .return_, 1, 0, 0, 0, 0, 0)]
/-- TollsThatPay$Market.shareMean([I)V -/
def z_c403 : List z_E := [(0, .iconst 0, 1, 0, 0, 0, 0, 0),
  (1, .istore_n 2, 1, 0, 0, 0, 0, 0),
  (2, .iconst 0, 1, 0, 0, 0, 0, 0),
  (3, .istore_n 3, 1, 0, 0, 0, 0, 0),
  (4, .iload_n 3, 1, 0, 0, 0, 0, 0),
  (5, .aload_n 1, 1, 0, 0, 0, 0, 0),
  (6, .arraylength, 1, 0, 0, 0, 0, 0),
  (7, .if_icmp .ge 15, 3, 22, 0, 0, 0, 0),
  (10, .iload_n 2, 1, 0, 0, 0, 0, 0),
  (11, .aload_n 1, 1, 0, 0, 0, 0, 0),
  (12, .iload_n 3, 1, 0, 0, 0, 0, 0),
  (13, .iaload, 1, 0, 0, 0, 0, 0),
  (14, .iadd, 1, 0, 0, 0, 0, 0),
  (15, .istore_n 2, 1, 0, 0, 0, 0, 0),
  (16, .iinc 3 1, 3, 0, 0, 0, 0, 0),
  (19, .goto (-15), 3, 4, 0, 0, 0, 0),
  (22, .iconst 0, 1, 0, 0, 0, 0, 0),
  (23, .istore_n 3, 1, 0, 0, 0, 0, 0),
  (24, .iload_n 3, 1, 0, 0, 0, 0, 0),
  (25, .aload_n 0, 1, 0, 0, 0, 0, 0),
  (26, .getfield 29, 3, 4, 3, 1, 0, 411),
  (29, .getfield 47, 3, 1, 0, 0, 0, 322),
  (32, .if_icmp .ge 82, 3, 114, 0, 0, 0, 0),
  (35, .iload_n 3, 1, 0, 0, 0, 0, 0),
  (36, .aload_n 0, 1, 0, 0, 0, 0, 0),
  (37, .getfield 26, 3, 4, 4, 1, 0, 412),
  (40, .arraylength, 1, 0, 0, 0, 0, 0),
  (41, .if_icmp .ge 73, 3, 114, 0, 0, 0, 0),
  (44, .aload_n 0, 1, 0, 0, 0, 0, 0),
  (45, .getfield 29, 3, 4, 3, 1, 0, 411),
  (48, .iload_n 3, 1, 0, 0, 0, 0, 0),
  (49, .invokevirtual 64, 3, 113, 2, 1, 1, 1162),
  (52, .istore 4, 2, 0, 0, 0, 0, 0),
  (54, .iload 4, 2, 0, 0, 0, 0, 0),
  (56, .ifCond .lt 17, 3, 73, 0, 0, 0, 0),
  (59, .iload 4, 2, 0, 0, 0, 0, 0),
  (61, .aload_n 1, 1, 0, 0, 0, 0, 0),
  (62, .arraylength, 1, 0, 0, 0, 0, 0),
  (63, .if_icmp .ge 10, 3, 73, 0, 0, 0, 0),
  (66, .aload_n 1, 1, 0, 0, 0, 0, 0),
  (67, .iload 4, 2, 0, 0, 0, 0, 0),
  (69, .iaload, 1, 0, 0, 0, 0, 0),
  (70, .goto 4, 3, 74, 0, 0, 0, 0),
  (73, .iconst 0, 1, 0, 0, 0, 0, 0),
  (74, .istore 5, 2, 0, 0, 0, 0, 0),
  (76, .aload_n 0, 1, 0, 0, 0, 0, 0),
  (77, .getfield 26, 3, 4, 4, 1, 0, 412),
  (80, .iload_n 3, 1, 0, 0, 0, 0, 0),
  (81, .aload_n 0, 1, 0, 0, 0, 0, 0),
  (82, .getfield 29, 3, 4, 3, 1, 0, 411),
  (85, .iload_n 3, 1, 0, 0, 0, 0, 0),
  (86, .invokevirtual 50, 3, 112, 2, 1, 1, 776),
  (89, .aload_n 0, 1, 0, 0, 0, 0, 0),
  (90, .getfield 29, 3, 4, 3, 1, 0, 411),
  (93, .iload_n 3, 1, 0, 0, 0, 0, 0),
  (94, .invokevirtual 67, 3, 115, 2, 1, 1, 1166),
  (97, .ifCond .eq 8, 3, 105, 0, 0, 0, 0),
  (100, .iload 5, 2, 0, 0, 0, 0, 0),
  (102, .goto 4, 3, 106, 0, 0, 0, 0),
  (105, .iload_n 2, 1, 0, 0, 0, 0, 0),
  (106, .imul, 1, 0, 0, 0, 0, 0),
  (107, .iastore, 1, 0, 0, 0, 0, 0),
  (108, .iinc 3 1, 3, 0, 0, 0, 0, 0),
  (111, .goto (-87), 3, 24, 0, 0, 0, 0),
  (114, .return_, 1, 0, 0, 0, 0, 0)]
/-- TollsThatPay$Market.fix([I)V -/
def z_c404 : List z_E := [(0, .aload_n 0, 1, 0, 0, 0, 0, 0),
  (1, .getfield 12, 3, 4, 0, 1, 0, 402),
  (4, .aload_n 1, 1, 0, 0, 0, 0, 0),
  (5, .iconst 0, 1, 0, 0, 0, 0, 0),
  (6, .aload_n 0, 1, 0, 0, 0, 0, 0),
  (7, .getfield 33, 3, 4, 2, 1, 0, 409),
  (10, .getfield 71, 3, 6, 2, 0, 0, 175),
  (13, .aload_n 0, 1, 0, 0, 0, 0, 0),
  (14, .getfield 37, 3, 4, 5, 0, 0, 413),
  (17, .invokevirtual 74, 3, 801, 5, 1, 8, 788),
  (20, .pop, 1, 0, 0, 0, 0, 0),
  (21, .return_, 1, 0, 0, 0, 0, 0)]
/-- TollsThatPay$Market.begin([III)I -/
def z_c405 : List z_E := [(0, .aload_n 0, 1, 0, 0, 0, 0, 0),
  (1, .getfield 12, 3, 4, 0, 1, 0, 402),
  (4, .aload_n 1, 1, 0, 0, 0, 0, 0),
  (5, .iload_n 2, 1, 0, 0, 0, 0, 0),
  (6, .iload_n 3, 1, 0, 0, 0, 0, 0),
  (7, .aload_n 0, 1, 0, 0, 0, 0, 0),
  (8, .getfield 37, 3, 4, 5, 0, 0, 413),
  (11, .invokevirtual 74, 3, 801, 5, 1, 8, 788),
  (14, .ireturn, 1, 1, 0, 0, 0, 0)]
/-- TollsThatPay$Market.choice(I)I -/
def z_c406 : List z_E := [(0, .aload_n 0, 1, 0, 0, 0, 0, 0),
  (1, .getfield 29, 3, 4, 3, 1, 0, 411),
  (4, .iload_n 1, 1, 0, 0, 0, 0, 0),
  (5, .aload_n 0, 1, 0, 0, 0, 0, 0),
  (6, .getfield 12, 3, 4, 0, 1, 0, 402),
  (9, .getfield 78, 3, 8, 2, 1, 0, 381),
  (12, .invokevirtual 81, 3, 119, 3, 1, 1, 804),
  (15, .ireturn, 1, 1, 0, 0, 0, 0)]
/-- TollsThatPay$Market.painsOf(II)I -/
def z_c407 : List z_E := [(0, .aload_n 0, 1, 0, 0, 0, 0, 0),
  (1, .getfield 29, 3, 4, 3, 1, 0, 411),
  (4, .iload_n 1, 1, 0, 0, 0, 0, 0),
  (5, .iload_n 2, 1, 0, 0, 0, 0, 0),
  (6, .invokevirtual 85, 3, 117, 3, 1, 1, 833),
  (9, .aload_n 0, 1, 0, 0, 0, 0, 0),
  (10, .getfield 12, 3, 4, 0, 1, 0, 402),
  (13, .iload_n 2, 1, 0, 0, 0, 0, 0),
  (14, .invokevirtual 89, 3, 804, 2, 1, 8, 837),
  (17, .iadd, 1, 0, 0, 0, 0, 0),
  (18, .ireturn, 1, 1, 0, 0, 0, 0)]
/-- TollsThatPay$Market.leastWithout(II)I -/
def z_c408 : List z_E := [(0, .iconst (-1), 1, 0, 0, 0, (-1), 0),
  (1, .istore_n 3, 1, 0, 0, 0, 0, 0),
  (2, .iconst 0, 1, 0, 0, 0, 0, 0),
  (3, .istore 4, 2, 0, 0, 0, 0, 0),
  (5, .iload 4, 2, 0, 0, 0, 0, 0),
  (7, .bipush 32, 2, 0, 0, 0, 32, 0),
  (9, .if_icmp .ge 56, 3, 65, 0, 0, 0, 0),
  (12, .iload 4, 2, 0, 0, 0, 0, 0),
  (14, .iload_n 2, 1, 0, 0, 0, 0, 0),
  (15, .iand, 1, 0, 0, 0, 0, 0),
  (16, .iload_n 2, 1, 0, 0, 0, 0, 0),
  (17, .if_icmp .eq 42, 3, 59, 0, 0, 0, 0),
  (20, .aload_n 0, 1, 0, 0, 0, 0, 0),
  (21, .getfield 29, 3, 4, 3, 1, 0, 411),
  (24, .iload_n 1, 1, 0, 0, 0, 0, 0),
  (25, .iload 4, 2, 0, 0, 0, 0, 0),
  (27, .invokevirtual 85, 3, 117, 3, 1, 1, 833),
  (30, .ifCond .lt 29, 3, 59, 0, 0, 0, 0),
  (33, .aload_n 0, 1, 0, 0, 0, 0, 0),
  (34, .iload_n 1, 1, 0, 0, 0, 0, 0),
  (35, .iload 4, 2, 0, 0, 0, 0, 0),
  (37, .invokevirtual 92, 3, 407, 3, 1, 4, 849),
  (40, .istore 5, 2, 0, 0, 0, 0, 0),
  (42, .iload_n 3, 1, 0, 0, 0, 0, 0),
  (43, .ifCond .lt 9, 3, 52, 0, 0, 0, 0),
  (46, .iload 5, 2, 0, 0, 0, 0, 0),
  (48, .iload_n 3, 1, 0, 0, 0, 0, 0),
  (49, .if_icmp .ge 8, 3, 57, 0, 0, 0, 0),
  (52, .iload 5, 2, 0, 0, 0, 0, 0),
  (54, .goto 4, 3, 58, 0, 0, 0, 0),
  (57, .iload_n 3, 1, 0, 0, 0, 0, 0),
  (58, .istore_n 3, 1, 0, 0, 0, 0, 0),
  (59, .iinc 4 1, 3, 0, 0, 0, 0, 0),
  (62, .goto (-57), 3, 5, 0, 0, 0, 0),
  (65, .iload_n 3, 1, 0, 0, 0, 0, 0),
  (66, .ireturn, 1, 1, 0, 0, 0, 0)]
/-- TollsThatPay$Market.brought(I)I -/
def z_c409 : List z_E := [(0, .iconst 0, 1, 0, 0, 0, 0, 0),
  (1, .istore_n 2, 1, 0, 0, 0, 0, 0),
  (2, .iconst 0, 1, 0, 0, 0, 0, 0),
  (3, .istore_n 3, 1, 0, 0, 0, 0, 0),
  (4, .iload_n 3, 1, 0, 0, 0, 0, 0),
  (5, .aload_n 0, 1, 0, 0, 0, 0, 0),
  (6, .getfield 29, 3, 4, 3, 1, 0, 411),
  (9, .getfield 47, 3, 1, 0, 0, 0, 322),
  (12, .if_icmp .ge 73, 3, 85, 0, 0, 0, 0),
  (15, .iload_n 3, 1, 0, 0, 0, 0, 0),
  (16, .aload_n 0, 1, 0, 0, 0, 0, 0),
  (17, .getfield 26, 3, 4, 4, 1, 0, 412),
  (20, .arraylength, 1, 0, 0, 0, 0, 0),
  (21, .if_icmp .ge 64, 3, 85, 0, 0, 0, 0),
  (24, .aload_n 0, 1, 0, 0, 0, 0, 0),
  (25, .getfield 26, 3, 4, 4, 1, 0, 412),
  (28, .iload_n 3, 1, 0, 0, 0, 0, 0),
  (29, .iaload, 1, 0, 0, 0, 0, 0),
  (30, .ifCond .eq 49, 3, 79, 0, 0, 0, 0),
  (33, .aload_n 0, 1, 0, 0, 0, 0, 0),
  (34, .getfield 29, 3, 4, 3, 1, 0, 411),
  (37, .iload_n 3, 1, 0, 0, 0, 0, 0),
  (38, .iload_n 1, 1, 0, 0, 0, 0, 0),
  (39, .invokevirtual 95, 3, 116, 3, 1, 1, 870),
  (42, .ifCond .eq 37, 3, 79, 0, 0, 0, 0),
  (45, .iload_n 2, 1, 0, 0, 0, 0, 0),
  (46, .aload_n 0, 1, 0, 0, 0, 0, 0),
  (47, .getfield 26, 3, 4, 4, 1, 0, 412),
  (50, .iload_n 3, 1, 0, 0, 0, 0, 0),
  (51, .iaload, 1, 0, 0, 0, 0, 0),
  (52, .aload_n 0, 1, 0, 0, 0, 0, 0),
  (53, .getfield 12, 3, 4, 0, 1, 0, 402),
  (56, .aload_n 0, 1, 0, 0, 0, 0, 0),
  (57, .getfield 29, 3, 4, 3, 1, 0, 411),
  (60, .iload_n 3, 1, 0, 0, 0, 0, 0),
  (61, .aload_n 0, 1, 0, 0, 0, 0, 0),
  (62, .getfield 12, 3, 4, 0, 1, 0, 402),
  (65, .getfield 78, 3, 8, 2, 1, 0, 381),
  (68, .invokevirtual 81, 3, 119, 3, 1, 1, 804),
  (71, .iload_n 1, 1, 0, 0, 0, 0, 0),
  (72, .iand, 1, 0, 0, 0, 0, 0),
  (73, .invokevirtual 89, 3, 804, 2, 1, 8, 837),
  (76, .imul, 1, 0, 0, 0, 0, 0),
  (77, .iadd, 1, 0, 0, 0, 0, 0),
  (78, .istore_n 2, 1, 0, 0, 0, 0, 0),
  (79, .iinc 3 1, 3, 0, 0, 0, 0, 0),
  (82, .goto (-78), 3, 4, 0, 0, 0, 0),
  (85, .iload_n 2, 1, 0, 0, 0, 0, 0),
  (86, .ireturn, 1, 1, 0, 0, 0, 0)]
/-- TollsThatPay$Market.sufferedNow()I -/
def z_c410 : List z_E := [(0, .iconst 0, 1, 0, 0, 0, 0, 0),
  (1, .istore_n 1, 1, 0, 0, 0, 0, 0),
  (2, .iconst 0, 1, 0, 0, 0, 0, 0),
  (3, .istore_n 2, 1, 0, 0, 0, 0, 0),
  (4, .iload_n 2, 1, 0, 0, 0, 0, 0),
  (5, .aload_n 0, 1, 0, 0, 0, 0, 0),
  (6, .getfield 29, 3, 4, 3, 1, 0, 411),
  (9, .getfield 47, 3, 1, 0, 0, 0, 322),
  (12, .if_icmp .ge 38, 3, 50, 0, 0, 0, 0),
  (15, .iload_n 2, 1, 0, 0, 0, 0, 0),
  (16, .aload_n 0, 1, 0, 0, 0, 0, 0),
  (17, .getfield 26, 3, 4, 4, 1, 0, 412),
  (20, .arraylength, 1, 0, 0, 0, 0, 0),
  (21, .if_icmp .ge 29, 3, 50, 0, 0, 0, 0),
  (24, .iload_n 1, 1, 0, 0, 0, 0, 0),
  (25, .aload_n 0, 1, 0, 0, 0, 0, 0),
  (26, .getfield 26, 3, 4, 4, 1, 0, 412),
  (29, .iload_n 2, 1, 0, 0, 0, 0, 0),
  (30, .iaload, 1, 0, 0, 0, 0, 0),
  (31, .aload_n 0, 1, 0, 0, 0, 0, 0),
  (32, .iload_n 2, 1, 0, 0, 0, 0, 0),
  (33, .aload_n 0, 1, 0, 0, 0, 0, 0),
  (34, .iload_n 2, 1, 0, 0, 0, 0, 0),
  (35, .invokevirtual 99, 3, 406, 2, 1, 4, 882),
  (38, .invokevirtual 92, 3, 407, 3, 1, 4, 849),
  (41, .imul, 1, 0, 0, 0, 0, 0),
  (42, .iadd, 1, 0, 0, 0, 0, 0),
  (43, .istore_n 1, 1, 0, 0, 0, 0, 0),
  (44, .iinc 2 1, 3, 0, 0, 0, 0, 0),
  (47, .goto (-43), 3, 4, 0, 0, 0, 0),
  (50, .iload_n 1, 1, 0, 0, 0, 0, 0),
  (51, .ireturn, 1, 1, 0, 0, 0, 0)]
/-- TollsThatPay$Market.bestOf(I)I -/
def z_c411 : List z_E := [(0, .aload_n 0, 1, 0, 0, 0, 0, 0),
  (1, .getfield 33, 3, 4, 2, 1, 0, 409),
  (4, .iload_n 1, 1, 0, 0, 0, 0, 0),
  (5, .invokevirtual 101, 3, 613, 2, 1, 6, 916),
  (8, .istore_n 2, 1, 0, 0, 0, 0, 0),
  (9, .aload_n 0, 1, 0, 0, 0, 0, 0),
  (10, .aload_n 0, 1, 0, 0, 0, 0, 0),
  (11, .getfield 33, 3, 4, 2, 1, 0, 409),
  (14, .getfield 54, 3, 6, 5, 1, 0, 181),
  (17, .iload_n 2, 1, 0, 0, 0, 0, 0),
  (18, .iload_n 2, 1, 0, 0, 0, 0, 0),
  (19, .aload_n 0, 1, 0, 0, 0, 0, 0),
  (20, .getfield 33, 3, 4, 2, 1, 0, 409),
  (23, .getfield 71, 3, 6, 2, 0, 0, 175),
  (26, .invokevirtual 104, 3, 412, 5, 1, 4, 917),
  (29, .ireturn, 1, 1, 0, 0, 0, 0)]
/-- TollsThatPay$Market.hunt([IIII)I -/
def z_c412 : List z_E := [(0, .aload_n 0, 1, 0, 0, 0, 0, 0),
  (1, .aload_n 1, 1, 0, 0, 0, 0, 0),
  (2, .iload_n 3, 1, 0, 0, 0, 0, 0),
  (3, .iload 4, 2, 0, 0, 0, 0, 0),
  (5, .invokevirtual 107, 3, 405, 4, 1, 4, 921),
  (8, .istore 5, 2, 0, 0, 0, 0, 0),
  (10, .iconst (-1), 1, 0, 0, 0, (-1), 0),
  (11, .istore 6, 2, 0, 0, 0, 0, 0),
  (13, .iconst 0, 1, 0, 0, 0, 0, 0),
  (14, .istore 7, 2, 0, 0, 0, 0, 0),
  (16, .iload 7, 2, 0, 0, 0, 0, 0),
  (18, .iload 5, 2, 0, 0, 0, 0, 0),
  (20, .if_icmp .ge 38, 3, 58, 0, 0, 0, 0),
  (23, .aload_n 0, 1, 0, 0, 0, 0, 0),
  (24, .iload_n 2, 1, 0, 0, 0, 0, 0),
  (25, .invokevirtual 110, 3, 409, 2, 1, 4, 925),
  (28, .istore 8, 2, 0, 0, 0, 0, 0),
  (30, .iload 8, 2, 0, 0, 0, 0, 0),
  (32, .iload 6, 2, 0, 0, 0, 0, 0),
  (34, .if_icmp .le 11, 3, 45, 0, 0, 0, 0),
  (37, .iload 8, 2, 0, 0, 0, 0, 0),
  (39, .istore 6, 2, 0, 0, 0, 0, 0),
  (41, .aload_n 0, 1, 0, 0, 0, 0, 0),
  (42, .invokevirtual 113, 3, 413, 1, 0, 4, 926),
  (45, .aload_n 0, 1, 0, 0, 0, 0, 0),
  (46, .getfield 12, 3, 4, 0, 1, 0, 402),
  (49, .invokevirtual 116, 3, 802, 1, 0, 8, 931),
  (52, .iinc 7 1, 3, 0, 0, 0, 0, 0),
  (55, .goto (-39), 3, 16, 0, 0, 0, 0),
  (58, .iload 6, 2, 0, 0, 0, 0, 0),
  (60, .ireturn, 1, 1, 0, 0, 0, 0)]
/-- TollsThatPay$Market.keep()V -/
def z_c413 : List z_E := [(0, .aload_n 0, 1, 0, 0, 0, 0, 0),
  (1, .getfield 12, 3, 4, 0, 1, 0, 402),
  (4, .getfield 119, 3, 8, 0, 1, 0, 378),
  (7, .iconst 0, 1, 0, 0, 0, 0, 0),
  (8, .aload_n 0, 1, 0, 0, 0, 0, 0),
  (9, .getfield 20, 3, 4, 1, 1, 0, 405),
  (12, .iconst 0, 1, 0, 0, 0, 0, 0),
  (13, .iconst 5, 1, 0, 0, 0, 5, 0),
  (14, .invokestatic 120, 3, 9999, 0, 0, 0, 930),
  (17, .return_, 1, 0, 0, 0, 0, 0)]
def z_cc4 : List (List z_E) := [z_c400, z_c401, z_c402, z_c403, z_c404, z_c405, z_c406, z_c407, z_c408, z_c409, z_c410, z_c411, z_c412, z_c413]
def z_mm4 : List (MethodName × ByteArray × Nat × Option FieldType) := [(yX4_init, cX4_init, 3, none),
  (yX4_open, cX4_open, 4, none),
  (yX4_shareTime, cX4_shareTime, 3, none),
  (yX4_shareMean, cX4_shareMean, 6, none),
  (yX4_fix, cX4_fix, 2, none),
  (yX4_begin, cX4_begin, 4, (some .int)),
  (yX4_choice, cX4_choice, 2, (some .int)),
  (yX4_painsOf, cX4_painsOf, 3, (some .int)),
  (yX4_leastWithout, cX4_leastWithout, 6, (some .int)),
  (yX4_brought, cX4_brought, 4, (some .int)),
  (yX4_sufferedNow, cX4_sufferedNow, 3, (some .int)),
  (yX4_bestOf, cX4_bestOf, 3, (some .int)),
  (yX4_hunt, cX4_hunt, 9, (some .int)),
  (yX4_keep, cX4_keep, 1, none)]
/-- TollsThatPay$Reader.<init>()V -/
def z_c500 : List z_E := [(0, .aload_n 0, 1, 0, 0, 0, 0, 0),
  (1, .invokespecial 3, 3, 9998, 0, 0, 0, 117),
  (4, .aload_n 0, 1, 0, 0, 0, 0, 0),
  (5, .bipush 100, 2, 0, 0, 0, 100, 0),
  (7, .newarray .int, 2, 1, 0, 0, 0, 135),
  (9, .putfield 11, 3, 5, 0, 1, 0, 118),
  (12, .return_, 1, 0, 0, 0, 0, 0)]
/-- TollsThatPay$Reader.push(I)I -/
def z_c501 : List z_E := [(0, .aload_n 0, 1, 0, 0, 0, 0, 0),
  (1, .getfield 15, 3, 5, 1, 0, 0, 119),
  (4, .bipush 96, 2, 0, 0, 0, 96, 0),
  (6, .if_icmp .le 5, 3, 11, 0, 0, 0, 0),
  (9, .iconst (-1), 1, 0, 0, 0, (-1), 0),
  (10, .ireturn, 1, 1, 0, 0, 0, 0),
  (11, .bipush 24, 2, 0, 0, 0, 24, 0),
  (13, .istore_n 2, 1, 0, 0, 0, 0, 0),
  (14, .iload_n 2, 1, 0, 0, 0, 0, 0),
  (15, .ifCond .lt 35, 3, 50, 0, 0, 0, 0),
  (18, .aload_n 0, 1, 0, 0, 0, 0, 0),
  (19, .getfield 11, 3, 5, 0, 1, 0, 118),
  (22, .aload_n 0, 1, 0, 0, 0, 0, 0),
  (23, .getfield 15, 3, 5, 1, 0, 0, 119),
  (26, .iload_n 1, 1, 0, 0, 0, 0, 0),
  (27, .iload_n 2, 1, 0, 0, 0, 0, 0),
  (28, .iushr, 1, 0, 0, 0, 0, 0),
  (29, .sipush 255, 3, 0, 0, 0, 255, 0),
  (32, .iand, 1, 0, 0, 0, 0, 0),
  (33, .iastore, 1, 0, 0, 0, 0, 0),
  (34, .aload_n 0, 1, 0, 0, 0, 0, 0),
  (35, .dup, 1, 0, 0, 0, 0, 0),
  (36, .getfield 15, 3, 5, 1, 0, 0, 119),
  (39, .iconst 1, 1, 0, 0, 0, 1, 0),
  (40, .iadd, 1, 0, 0, 0, 0, 0),
  (41, .putfield 15, 3, 5, 1, 0, 0, 119),
  (44, .iinc 2 (-8), 3, 0, 0, 0, 0, 0),
  (47, .goto (-33), 3, 14, 0, 0, 0, 0),
  (50, .aload_n 0, 1, 0, 0, 0, 0, 0),
  (51, .getfield 15, 3, 5, 1, 0, 0, 119),
  (54, .ireturn, 1, 1, 0, 0, 0, 0)]
/-- TollsThatPay$Reader.cut(I)Z -/
def z_c502 : List z_E := [(0, .iload_n 1, 1, 0, 0, 0, 0, 0),
  (1, .ifCond .lt 11, 3, 12, 0, 0, 0, 0),
  (4, .iload_n 1, 1, 0, 0, 0, 0, 0),
  (5, .aload_n 0, 1, 0, 0, 0, 0, 0),
  (6, .getfield 15, 3, 5, 1, 0, 0, 119),
  (9, .if_icmp .le 5, 3, 14, 0, 0, 0, 0),
  (12, .iconst 0, 1, 0, 0, 0, 0, 0),
  (13, .ireturn, 1, 2, 0, 0, 0, 0),
  (14, .aload_n 0, 1, 0, 0, 0, 0, 0),
  (15, .iload_n 1, 1, 0, 0, 0, 0, 0),
  (16, .putfield 15, 3, 5, 1, 0, 0, 119),
  (19, .iconst 1, 1, 0, 0, 0, 1, 0),
  (20, .ireturn, 1, 2, 0, 0, 0, 0)]
/-- TollsThatPay$Reader.read(LTollsThatPay$Land;)I -/
def z_c503 : List z_E := [(0, .aload_n 0, 1, 0, 0, 0, 0, 0),
  (1, .iconst 0, 1, 0, 0, 0, 0, 0),
  (2, .putfield 19, 3, 5, 2, 0, 0, 121),
  (5, .aload_n 0, 1, 0, 0, 0, 0, 0),
  (6, .iconst 0, 1, 0, 0, 0, 0, 0),
  (7, .putfield 22, 3, 5, 4, 3, 0, 123),
  (10, .aload_n 0, 1, 0, 0, 0, 0, 0),
  (11, .aload_n 0, 1, 0, 0, 0, 0, 0),
  (12, .getfield 15, 3, 5, 1, 0, 0, 119),
  (15, .bipush 60, 2, 0, 0, 0, 60, 0),
  (17, .invokestatic 26, 3, 9996, 0, 0, 0, 562),
  (20, .putfield 32, 3, 5, 3, 0, 0, 122),
  (23, .iconst 0, 1, 0, 0, 0, 0, 0),
  (24, .istore_n 2, 1, 0, 0, 0, 0, 0),
  (25, .iconst 1, 1, 0, 0, 0, 1, 0),
  (26, .istore_n 3, 1, 0, 0, 0, 0, 0),
  (27, .iload_n 3, 1, 0, 0, 0, 0, 0),
  (28, .ifCond .eq 54, 3, 82, 0, 0, 0, 0),
  (31, .iload_n 2, 1, 0, 0, 0, 0, 0),
  (32, .bipush 60, 2, 0, 0, 0, 60, 0),
  (34, .if_icmp .gt 48, 3, 82, 0, 0, 0, 0),
  (37, .aload_n 0, 1, 0, 0, 0, 0, 0),
  (38, .aload_n 1, 1, 0, 0, 0, 0, 0),
  (39, .invokevirtual 35, 3, 504, 2, 0, 5, 565),
  (42, .iinc 2 1, 3, 0, 0, 0, 0, 0),
  (45, .aload_n 0, 1, 0, 0, 0, 0, 0),
  (46, .getfield 22, 3, 5, 4, 3, 0, 123),
  (49, .ifCond .ne 18, 3, 67, 0, 0, 0, 0),
  (52, .aload_n 0, 1, 0, 0, 0, 0, 0),
  (53, .getfield 19, 3, 5, 2, 0, 0, 121),
  (56, .aload_n 0, 1, 0, 0, 0, 0, 0),
  (57, .getfield 32, 3, 5, 3, 0, 0, 122),
  (60, .if_icmp .ge 7, 3, 67, 0, 0, 0, 0),
  (63, .iconst 1, 1, 0, 0, 0, 1, 0),
  (64, .goto 4, 3, 68, 0, 0, 0, 0),
  (67, .iconst 0, 1, 0, 0, 0, 0, 0),
  (68, .istore_n 3, 1, 0, 0, 0, 0, 0),
  (69, .iload_n 3, 1, 0, 0, 0, 0, 0),
  (70, .ifCond .eq (-43), 3, 27, 0, 0, 0, 0),
  (73, .aload_n 0, 1, 0, 0, 0, 0, 0),
  (74, .bipush 59, 2, 0, 0, 0, 59, 0),
  (76, .invokevirtual 39, 3, 509, 2, 0, 5, 601),
  (79, .goto (-52), 3, 27, 0, 0, 0, 0),
  (82, .aload_n 0, 1, 0, 0, 0, 0, 0),
  (83, .getfield 22, 3, 5, 4, 3, 0, 123),
  (86, .ifCond .eq 10, 3, 96, 0, 0, 0, 0),
  (89, .iconst (-1), 1, 0, 0, 0, (-1), 0),
  (90, .aload_n 0, 1, 0, 0, 0, 0, 0),
  (91, .getfield 19, 3, 5, 2, 0, 0, 121),
  (94, .isub, 1, 0, 0, 0, 0, 0),
  (95, .ireturn, 1, 1, 0, 0, 0, 0),
  (96, .aload_n 0, 1, 0, 0, 0, 0, 0),
  (97, .getfield 15, 3, 5, 1, 0, 0, 119),
  (100, .bipush 60, 2, 0, 0, 0, 60, 0),
  (102, .if_icmp .le 8, 3, 110, 0, 0, 0, 0),
  (105, .bipush (-61), 2, 0, 0, 0, (-61), 0),
  (107, .goto 4, 3, 111, 0, 0, 0, 0),
  (110, .iload_n 2, 1, 0, 0, 0, 0, 0),
  (111, .ireturn, 1, 1, 0, 0, 0, 0)]
/-- TollsThatPay$Reader.readItem(LTollsThatPay$Land;)V -/
def z_c504 : List z_E := [(0, .aload_n 0, 1, 0, 0, 0, 0, 0),
  (1, .bipush 114, 2, 0, 0, 0, 114, 0),
  (3, .invokevirtual 43, 3, 508, 2, 1, 5, 569),
  (6, .ifCond .eq 12, 3, 18, 0, 0, 0, 0),
  (9, .aload_n 0, 1, 0, 0, 0, 0, 0),
  (10, .aload_n 1, 1, 0, 0, 0, 0, 0),
  (11, .iconst (-1), 1, 0, 0, 0, (-1), 0),
  (12, .invokevirtual 47, 3, 505, 3, 0, 5, 577),
  (15, .goto 96, 3, 111, 0, 0, 0, 0),
  (18, .aload_n 0, 1, 0, 0, 0, 0, 0),
  (19, .bipush 116, 2, 0, 0, 0, 116, 0),
  (21, .invokevirtual 43, 3, 508, 2, 1, 5, 569),
  (24, .ifCond .eq 12, 3, 36, 0, 0, 0, 0),
  (27, .aload_n 0, 1, 0, 0, 0, 0, 0),
  (28, .aload_n 1, 1, 0, 0, 0, 0, 0),
  (29, .iconst 0, 1, 0, 0, 0, 0, 0),
  (30, .invokevirtual 47, 3, 505, 3, 0, 5, 577),
  (33, .goto 78, 3, 111, 0, 0, 0, 0),
  (36, .aload_n 0, 1, 0, 0, 0, 0, 0),
  (37, .bipush 117, 2, 0, 0, 0, 117, 0),
  (39, .invokevirtual 43, 3, 508, 2, 1, 5, 569),
  (42, .ifCond .eq 12, 3, 54, 0, 0, 0, 0),
  (45, .aload_n 0, 1, 0, 0, 0, 0, 0),
  (46, .aload_n 1, 1, 0, 0, 0, 0, 0),
  (47, .iconst 1, 1, 0, 0, 0, 1, 0),
  (48, .invokevirtual 47, 3, 505, 3, 0, 5, 577),
  (51, .goto 60, 3, 111, 0, 0, 0, 0),
  (54, .aload_n 0, 1, 0, 0, 0, 0, 0),
  (55, .bipush 106, 2, 0, 0, 0, 106, 0),
  (57, .invokevirtual 43, 3, 508, 2, 1, 5, 569),
  (60, .ifCond .eq 11, 3, 71, 0, 0, 0, 0),
  (63, .aload_n 0, 1, 0, 0, 0, 0, 0),
  (64, .aload_n 1, 1, 0, 0, 0, 0, 0),
  (65, .invokevirtual 51, 3, 506, 2, 0, 5, 597),
  (68, .goto 43, 3, 111, 0, 0, 0, 0),
  (71, .aload_n 0, 1, 0, 0, 0, 0, 0),
  (72, .bipush 109, 2, 0, 0, 0, 109, 0),
  (74, .invokevirtual 43, 3, 508, 2, 1, 5, 569),
  (77, .ifCond .eq 29, 3, 106, 0, 0, 0, 0),
  (80, .aload_n 0, 1, 0, 0, 0, 0, 0),
  (81, .iconst 0, 1, 0, 0, 0, 0, 0),
  (82, .bipush 20, 2, 0, 0, 0, 20, 0),
  (84, .invokevirtual 54, 3, 512, 3, 1, 5, 585),
  (87, .istore_n 2, 1, 0, 0, 0, 0, 0),
  (88, .aload_n 0, 1, 0, 0, 0, 0, 0),
  (89, .getfield 22, 3, 5, 4, 3, 0, 123),
  (92, .ifCond .ne 11, 3, 103, 0, 0, 0, 0),
  (95, .aload_n 1, 1, 0, 0, 0, 0, 0),
  (96, .getfield 57, 3, 3, 0, 1, 0, 259),
  (99, .iload_n 2, 1, 0, 0, 0, 0, 0),
  (100, .invokevirtual 63, 3, 603, 2, 0, 6, 622),
  (103, .goto 8, 3, 111, 0, 0, 0, 0),
  (106, .aload_n 0, 1, 0, 0, 0, 0, 0),
  (107, .iconst 1, 1, 0, 0, 0, 1, 0),
  (108, .putfield 22, 3, 5, 4, 3, 0, 123),
  (111, .return_, 1, 0, 0, 0, 0, 0)]
/-- TollsThatPay$Reader.readRoad(LTollsThatPay$Land;I)V -/
def z_c505 : List z_E := [(0, .aload_n 0, 1, 0, 0, 0, 0, 0),
  (1, .iconst (-1), 1, 0, 0, 0, (-1), 0),
  (2, .invokevirtual 68, 3, 510, 2, 1, 5, 581),
  (5, .istore_n 3, 1, 0, 0, 0, 0, 0),
  (6, .aload_n 0, 1, 0, 0, 0, 0, 0),
  (7, .iload_n 3, 1, 0, 0, 0, 0, 0),
  (8, .invokevirtual 68, 3, 510, 2, 1, 5, 581),
  (11, .istore 4, 2, 0, 0, 0, 0, 0),
  (13, .aload_n 0, 1, 0, 0, 0, 0, 0),
  (14, .iconst 0, 1, 0, 0, 0, 0, 0),
  (15, .bipush 99, 2, 0, 0, 0, 99, 0),
  (17, .invokevirtual 54, 3, 512, 3, 1, 5, 585),
  (20, .istore 5, 2, 0, 0, 0, 0, 0),
  (22, .aload_n 0, 1, 0, 0, 0, 0, 0),
  (23, .bipush 43, 2, 0, 0, 0, 43, 0),
  (25, .invokevirtual 43, 3, 508, 2, 1, 5, 569),
  (28, .ifCond .eq 13, 3, 41, 0, 0, 0, 0),
  (31, .aload_n 0, 1, 0, 0, 0, 0, 0),
  (32, .iconst 0, 1, 0, 0, 0, 0, 0),
  (33, .bipush 9, 2, 0, 0, 0, 9, 0),
  (35, .invokevirtual 72, 3, 511, 3, 1, 5, 589),
  (38, .goto 4, 3, 42, 0, 0, 0, 0),
  (41, .iconst 0, 1, 0, 0, 0, 0, 0),
  (42, .istore 6, 2, 0, 0, 0, 0, 0),
  (44, .aload_n 0, 1, 0, 0, 0, 0, 0),
  (45, .getfield 22, 3, 5, 4, 3, 0, 123),
  (48, .ifCond .ne 18, 3, 66, 0, 0, 0, 0),
  (51, .aload_n 1, 1, 0, 0, 0, 0, 0),
  (52, .getfield 57, 3, 3, 0, 1, 0, 259),
  (55, .iload_n 2, 1, 0, 0, 0, 0, 0),
  (56, .iload_n 3, 1, 0, 0, 0, 0, 0),
  (57, .iload 4, 2, 0, 0, 0, 0, 0),
  (59, .iload 5, 2, 0, 0, 0, 0, 0),
  (61, .iload 6, 2, 0, 0, 0, 0, 0),
  (63, .invokevirtual 75, 3, 602, 6, 0, 6, 593),
  (66, .return_, 1, 0, 0, 0, 0, 0)]
/-- TollsThatPay$Reader.readJourney(LTollsThatPay$Land;)V -/
def z_c506 : List z_E := [(0, .aload_n 0, 1, 0, 0, 0, 0, 0),
  (1, .iconst (-1), 1, 0, 0, 0, (-1), 0),
  (2, .invokevirtual 68, 3, 510, 2, 1, 5, 581),
  (5, .istore_n 2, 1, 0, 0, 0, 0, 0),
  (6, .aload_n 0, 1, 0, 0, 0, 0, 0),
  (7, .iload_n 2, 1, 0, 0, 0, 0, 0),
  (8, .invokevirtual 68, 3, 510, 2, 1, 5, 581),
  (11, .istore_n 3, 1, 0, 0, 0, 0, 0),
  (12, .aload_n 0, 1, 0, 0, 0, 0, 0),
  (13, .bipush 42, 2, 0, 0, 0, 42, 0),
  (15, .invokevirtual 39, 3, 509, 2, 0, 5, 601),
  (18, .aload_n 0, 1, 0, 0, 0, 0, 0),
  (19, .iconst 1, 1, 0, 0, 0, 1, 0),
  (20, .bipush 99, 2, 0, 0, 0, 99, 0),
  (22, .invokevirtual 54, 3, 512, 3, 1, 5, 585),
  (25, .istore 4, 2, 0, 0, 0, 0, 0),
  (27, .iconst 0, 1, 0, 0, 0, 0, 0),
  (28, .istore 5, 2, 0, 0, 0, 0, 0),
  (30, .iconst 0, 1, 0, 0, 0, 0, 0),
  (31, .istore 6, 2, 0, 0, 0, 0, 0),
  (33, .iconst 0, 1, 0, 0, 0, 0, 0),
  (34, .istore 7, 2, 0, 0, 0, 0, 0),
  (36, .aload_n 0, 1, 0, 0, 0, 0, 0),
  (37, .bipush 119, 2, 0, 0, 0, 119, 0),
  (39, .invokevirtual 43, 3, 508, 2, 1, 5, 569),
  (42, .ifCond .eq 19, 3, 61, 0, 0, 0, 0),
  (45, .aload_n 0, 1, 0, 0, 0, 0, 0),
  (46, .iconst 0, 1, 0, 0, 0, 0, 0),
  (47, .bipush 9, 2, 0, 0, 0, 9, 0),
  (49, .invokevirtual 72, 3, 511, 3, 1, 5, 589),
  (52, .istore 5, 2, 0, 0, 0, 0, 0),
  (54, .iload 5, 2, 0, 0, 0, 0, 0),
  (56, .istore 6, 2, 0, 0, 0, 0, 0),
  (58, .goto 47, 3, 105, 0, 0, 0, 0),
  (61, .aload_n 0, 1, 0, 0, 0, 0, 0),
  (62, .bipush 99, 2, 0, 0, 0, 99, 0),
  (64, .invokevirtual 43, 3, 508, 2, 1, 5, 569),
  (67, .ifCond .eq 38, 3, 105, 0, 0, 0, 0),
  (70, .aload_n 0, 1, 0, 0, 0, 0, 0),
  (71, .iconst 0, 1, 0, 0, 0, 0, 0),
  (72, .bipush 9, 2, 0, 0, 0, 9, 0),
  (74, .invokevirtual 72, 3, 511, 3, 1, 5, 589),
  (77, .istore 5, 2, 0, 0, 0, 0, 0),
  (79, .aload_n 0, 1, 0, 0, 0, 0, 0),
  (80, .bipush 45, 2, 0, 0, 0, 45, 0),
  (82, .invokevirtual 39, 3, 509, 2, 0, 5, 601),
  (85, .aload_n 0, 1, 0, 0, 0, 0, 0),
  (86, .iload 5, 2, 0, 0, 0, 0, 0),
  (88, .bipush 9, 2, 0, 0, 0, 9, 0),
  (90, .iload 5, 2, 0, 0, 0, 0, 0),
  (92, .iconst 5, 1, 0, 0, 0, 5, 0),
  (93, .iadd, 1, 0, 0, 0, 0, 0),
  (94, .invokestatic 26, 3, 9996, 0, 0, 0, 562),
  (97, .invokevirtual 72, 3, 511, 3, 1, 5, 589),
  (100, .istore 6, 2, 0, 0, 0, 0, 0),
  (102, .iconst 1, 1, 0, 0, 0, 1, 0),
  (103, .istore 7, 2, 0, 0, 0, 0, 0),
  (105, .aload_n 0, 1, 0, 0, 0, 0, 0),
  (106, .bipush 115, 2, 0, 0, 0, 115, 0),
  (108, .invokevirtual 43, 3, 508, 2, 1, 5, 569),
  (111, .ifCond .eq 14, 3, 125, 0, 0, 0, 0),
  (114, .aload_n 0, 1, 0, 0, 0, 0, 0),
  (115, .iconst 0, 1, 0, 0, 0, 0, 0),
  (116, .sipush 999, 3, 0, 0, 0, 999, 0),
  (119, .invokevirtual 54, 3, 512, 3, 1, 5, 585),
  (122, .goto 5, 3, 127, 0, 0, 0, 0),
  (125, .bipush 14, 2, 0, 0, 0, 14, 0),
  (127, .istore 8, 2, 0, 0, 0, 0, 0),
  (129, .aload_n 0, 1, 0, 0, 0, 0, 0),
  (130, .bipush 47, 2, 0, 0, 0, 47, 0),
  (132, .invokevirtual 43, 3, 508, 2, 1, 5, 569),
  (135, .ifCond .eq 14, 3, 149, 0, 0, 0, 0),
  (138, .aload_n 0, 1, 0, 0, 0, 0, 0),
  (139, .iconst 0, 1, 0, 0, 0, 0, 0),
  (140, .sipush 999, 3, 0, 0, 0, 999, 0),
  (143, .invokevirtual 54, 3, 512, 3, 1, 5, 585),
  (146, .goto 4, 3, 150, 0, 0, 0, 0),
  (149, .iconst (-1), 1, 0, 0, 0, (-1), 0),
  (150, .istore 9, 2, 0, 0, 0, 0, 0),
  (152, .aload_n 0, 1, 0, 0, 0, 0, 0),
  (153, .bipush 64, 2, 0, 0, 0, 64, 0),
  (155, .invokevirtual 43, 3, 508, 2, 1, 5, 569),
  (158, .ifCond .eq 12, 3, 170, 0, 0, 0, 0),
  (161, .aload_n 0, 1, 0, 0, 0, 0, 0),
  (162, .iconst 0, 1, 0, 0, 0, 0, 0),
  (163, .iconst 3, 1, 0, 0, 0, 3, 0),
  (164, .invokevirtual 72, 3, 511, 3, 1, 5, 589),
  (167, .goto 4, 3, 171, 0, 0, 0, 0),
  (170, .iconst 0, 1, 0, 0, 0, 0, 0),
  (171, .istore 10, 2, 0, 0, 0, 0, 0),
  (173, .aload_n 0, 1, 0, 0, 0, 0, 0),
  (174, .getfield 22, 3, 5, 4, 3, 0, 123),
  (177, .ifCond .ne 40, 3, 217, 0, 0, 0, 0),
  (180, .aload_n 1, 1, 0, 0, 0, 0, 0),
  (181, .getfield 81, 3, 3, 1, 1, 0, 264),
  (184, .iload_n 2, 1, 0, 0, 0, 0, 0),
  (185, .iload_n 3, 1, 0, 0, 0, 0, 0),
  (186, .iload 4, 2, 0, 0, 0, 0, 0),
  (188, .invokevirtual 85, 3, 203, 4, 0, 2, 605),
  (191, .aload_n 1, 1, 0, 0, 0, 0, 0),
  (192, .getfield 81, 3, 3, 1, 1, 0, 264),
  (195, .iload 5, 2, 0, 0, 0, 0, 0),
  (197, .iload 6, 2, 0, 0, 0, 0, 0),
  (199, .iload 7, 2, 0, 0, 0, 0, 0),
  (201, .invokevirtual 88, 3, 204, 4, 0, 2, 609),
  (204, .aload_n 1, 1, 0, 0, 0, 0, 0),
  (205, .getfield 81, 3, 3, 1, 1, 0, 264),
  (208, .iload 8, 2, 0, 0, 0, 0, 0),
  (210, .iload 9, 2, 0, 0, 0, 0, 0),
  (212, .iload 10, 2, 0, 0, 0, 0, 0),
  (214, .invokevirtual 92, 3, 205, 4, 0, 2, 617),
  (217, .return_, 1, 0, 0, 0, 0, 0)]
/-- TollsThatPay$Reader.next()I -/
def z_c507 : List z_E := [(0, .aload_n 0, 1, 0, 0, 0, 0, 0),
  (1, .getfield 19, 3, 5, 2, 0, 0, 121),
  (4, .aload_n 0, 1, 0, 0, 0, 0, 0),
  (5, .getfield 32, 3, 5, 3, 0, 0, 122),
  (8, .if_icmp .ge 27, 3, 35, 0, 0, 0, 0),
  (11, .aload_n 0, 1, 0, 0, 0, 0, 0),
  (12, .getfield 19, 3, 5, 2, 0, 0, 121),
  (15, .aload_n 0, 1, 0, 0, 0, 0, 0),
  (16, .getfield 11, 3, 5, 0, 1, 0, 118),
  (19, .arraylength, 1, 0, 0, 0, 0, 0),
  (20, .if_icmp .ge 15, 3, 35, 0, 0, 0, 0),
  (23, .aload_n 0, 1, 0, 0, 0, 0, 0),
  (24, .getfield 11, 3, 5, 0, 1, 0, 118),
  (27, .aload_n 0, 1, 0, 0, 0, 0, 0),
  (28, .getfield 19, 3, 5, 2, 0, 0, 121),
  (31, .iaload, 1, 0, 0, 0, 0, 0),
  (32, .goto 4, 3, 36, 0, 0, 0, 0),
  (35, .iconst (-1), 1, 0, 0, 0, (-1), 0),
  (36, .ireturn, 1, 1, 0, 0, 0, 0)]
/-- TollsThatPay$Reader.eat(I)Z -/
def z_c508 : List z_E := [(0, .aload_n 0, 1, 0, 0, 0, 0, 0),
  (1, .getfield 22, 3, 5, 4, 3, 0, 123),
  (4, .ifCond .ne 11, 3, 15, 0, 0, 0, 0),
  (7, .aload_n 0, 1, 0, 0, 0, 0, 0),
  (8, .invokevirtual 95, 3, 507, 1, 1, 5, 573),
  (11, .iload_n 1, 1, 0, 0, 0, 0, 0),
  (12, .if_icmp .eq 5, 3, 17, 0, 0, 0, 0),
  (15, .iconst 0, 1, 0, 0, 0, 0, 0),
  (16, .ireturn, 1, 2, 0, 0, 0, 0),
  (17, .aload_n 0, 1, 0, 0, 0, 0, 0),
  (18, .dup, 1, 0, 0, 0, 0, 0),
  (19, .getfield 19, 3, 5, 2, 0, 0, 121),
  (22, .iconst 1, 1, 0, 0, 0, 1, 0),
  (23, .iadd, 1, 0, 0, 0, 0, 0),
  (24, .putfield 19, 3, 5, 2, 0, 0, 121),
  (27, .iconst 1, 1, 0, 0, 0, 1, 0),
  (28, .ireturn, 1, 2, 0, 0, 0, 0)]
/-- TollsThatPay$Reader.want(I)V -/
def z_c509 : List z_E := [(0, .aload_n 0, 1, 0, 0, 0, 0, 0),
  (1, .iload_n 1, 1, 0, 0, 0, 0, 0),
  (2, .invokevirtual 43, 3, 508, 2, 1, 5, 569),
  (5, .ifCond .ne 8, 3, 13, 0, 0, 0, 0),
  (8, .aload_n 0, 1, 0, 0, 0, 0, 0),
  (9, .iconst 1, 1, 0, 0, 0, 1, 0),
  (10, .putfield 22, 3, 5, 4, 3, 0, 123),
  (13, .return_, 1, 0, 0, 0, 0, 0)]
/-- TollsThatPay$Reader.corner(I)I -/
def z_c510 : List z_E := [(0, .aload_n 0, 1, 0, 0, 0, 0, 0),
  (1, .invokevirtual 95, 3, 507, 1, 1, 5, 573),
  (4, .bipush 97, 2, 0, 0, 0, 97, 0),
  (6, .isub, 1, 0, 0, 0, 0, 0),
  (7, .istore_n 2, 1, 0, 0, 0, 0, 0),
  (8, .aload_n 0, 1, 0, 0, 0, 0, 0),
  (9, .getfield 22, 3, 5, 4, 3, 0, 123),
  (12, .ifCond .ne 18, 3, 30, 0, 0, 0, 0),
  (15, .iload_n 2, 1, 0, 0, 0, 0, 0),
  (16, .ifCond .lt 14, 3, 30, 0, 0, 0, 0),
  (19, .iload_n 2, 1, 0, 0, 0, 0, 0),
  (20, .bipush 7, 2, 0, 0, 0, 7, 0),
  (22, .if_icmp .gt 8, 3, 30, 0, 0, 0, 0),
  (25, .iload_n 2, 1, 0, 0, 0, 0, 0),
  (26, .iload_n 1, 1, 0, 0, 0, 0, 0),
  (27, .if_icmp .ne 10, 3, 37, 0, 0, 0, 0),
  (30, .aload_n 0, 1, 0, 0, 0, 0, 0),
  (31, .iconst 1, 1, 0, 0, 0, 1, 0),
  (32, .putfield 22, 3, 5, 4, 3, 0, 123),
  (35, .iconst 0, 1, 0, 0, 0, 0, 0),
  (36, .ireturn, 1, 1, 0, 0, 0, 0),
  (37, .aload_n 0, 1, 0, 0, 0, 0, 0),
  (38, .dup, 1, 0, 0, 0, 0, 0),
  (39, .getfield 19, 3, 5, 2, 0, 0, 121),
  (42, .iconst 1, 1, 0, 0, 0, 1, 0),
  (43, .iadd, 1, 0, 0, 0, 0, 0),
  (44, .putfield 19, 3, 5, 2, 0, 0, 121),
  (47, .iload_n 2, 1, 0, 0, 0, 0, 0),
  (48, .ireturn, 1, 1, 0, 0, 0, 0)]
/-- TollsThatPay$Reader.digit(II)I -/
def z_c511 : List z_E := [(0, .aload_n 0, 1, 0, 0, 0, 0, 0),
  (1, .invokevirtual 95, 3, 507, 1, 1, 5, 573),
  (4, .bipush 48, 2, 0, 0, 0, 48, 0),
  (6, .isub, 1, 0, 0, 0, 0, 0),
  (7, .istore_n 3, 1, 0, 0, 0, 0, 0),
  (8, .aload_n 0, 1, 0, 0, 0, 0, 0),
  (9, .getfield 22, 3, 5, 4, 3, 0, 123),
  (12, .ifCond .ne 13, 3, 25, 0, 0, 0, 0),
  (15, .iload_n 3, 1, 0, 0, 0, 0, 0),
  (16, .iload_n 1, 1, 0, 0, 0, 0, 0),
  (17, .if_icmp .lt 8, 3, 25, 0, 0, 0, 0),
  (20, .iload_n 3, 1, 0, 0, 0, 0, 0),
  (21, .iload_n 2, 1, 0, 0, 0, 0, 0),
  (22, .if_icmp .le 10, 3, 32, 0, 0, 0, 0),
  (25, .aload_n 0, 1, 0, 0, 0, 0, 0),
  (26, .iconst 1, 1, 0, 0, 0, 1, 0),
  (27, .putfield 22, 3, 5, 4, 3, 0, 123),
  (30, .iconst 0, 1, 0, 0, 0, 0, 0),
  (31, .ireturn, 1, 1, 0, 0, 0, 0),
  (32, .aload_n 0, 1, 0, 0, 0, 0, 0),
  (33, .dup, 1, 0, 0, 0, 0, 0),
  (34, .getfield 19, 3, 5, 2, 0, 0, 121),
  (37, .iconst 1, 1, 0, 0, 0, 1, 0),
  (38, .iadd, 1, 0, 0, 0, 0, 0),
  (39, .putfield 19, 3, 5, 2, 0, 0, 121),
  (42, .iload_n 3, 1, 0, 0, 0, 0, 0),
  (43, .ireturn, 1, 1, 0, 0, 0, 0)]
/-- TollsThatPay$Reader.numeral(II)I -/
def z_c512 : List z_E := [(0, .iconst 0, 1, 0, 0, 0, 0, 0),
  (1, .istore_n 3, 1, 0, 0, 0, 0, 0),
  (2, .iconst 0, 1, 0, 0, 0, 0, 0),
  (3, .istore 4, 2, 0, 0, 0, 0, 0),
  (5, .aload_n 0, 1, 0, 0, 0, 0, 0),
  (6, .getfield 22, 3, 5, 4, 3, 0, 123),
  (9, .ifCond .ne 56, 3, 65, 0, 0, 0, 0),
  (12, .iload 4, 2, 0, 0, 0, 0, 0),
  (14, .iconst 3, 1, 0, 0, 0, 3, 0),
  (15, .if_icmp .ge 50, 3, 65, 0, 0, 0, 0),
  (18, .aload_n 0, 1, 0, 0, 0, 0, 0),
  (19, .invokevirtual 95, 3, 507, 1, 1, 5, 573),
  (22, .bipush 48, 2, 0, 0, 0, 48, 0),
  (24, .if_icmp .lt 41, 3, 65, 0, 0, 0, 0),
  (27, .aload_n 0, 1, 0, 0, 0, 0, 0),
  (28, .invokevirtual 95, 3, 507, 1, 1, 5, 573),
  (31, .bipush 57, 2, 0, 0, 0, 57, 0),
  (33, .if_icmp .gt 32, 3, 65, 0, 0, 0, 0),
  (36, .iload_n 3, 1, 0, 0, 0, 0, 0),
  (37, .bipush 10, 2, 0, 0, 0, 10, 0),
  (39, .imul, 1, 0, 0, 0, 0, 0),
  (40, .aload_n 0, 1, 0, 0, 0, 0, 0),
  (41, .invokevirtual 95, 3, 507, 1, 1, 5, 573),
  (44, .iadd, 1, 0, 0, 0, 0, 0),
  (45, .bipush 48, 2, 0, 0, 0, 48, 0),
  (47, .isub, 1, 0, 0, 0, 0, 0),
  (48, .istore_n 3, 1, 0, 0, 0, 0, 0),
  (49, .iinc 4 1, 3, 0, 0, 0, 0, 0),
  (52, .aload_n 0, 1, 0, 0, 0, 0, 0),
  (53, .dup, 1, 0, 0, 0, 0, 0),
  (54, .getfield 19, 3, 5, 2, 0, 0, 121),
  (57, .iconst 1, 1, 0, 0, 0, 1, 0),
  (58, .iadd, 1, 0, 0, 0, 0, 0),
  (59, .putfield 19, 3, 5, 2, 0, 0, 121),
  (62, .goto (-57), 3, 5, 0, 0, 0, 0),
  (65, .aload_n 0, 1, 0, 0, 0, 0, 0),
  (66, .getfield 22, 3, 5, 4, 3, 0, 123),
  (69, .ifCond .ne 8, 3, 77, 0, 0, 0, 0),
  (72, .iload 4, 2, 0, 0, 0, 0, 0),
  (74, .ifCond .ne 11, 3, 85, 0, 0, 0, 0),
  (77, .aload_n 0, 1, 0, 0, 0, 0, 0),
  (78, .iconst 1, 1, 0, 0, 0, 1, 0),
  (79, .putfield 22, 3, 5, 4, 3, 0, 123),
  (82, .goto 28, 3, 110, 0, 0, 0, 0),
  (85, .iload_n 3, 1, 0, 0, 0, 0, 0),
  (86, .iload_n 1, 1, 0, 0, 0, 0, 0),
  (87, .if_icmp .lt 8, 3, 95, 0, 0, 0, 0),
  (90, .iload_n 3, 1, 0, 0, 0, 0, 0),
  (91, .iload_n 2, 1, 0, 0, 0, 0, 0),
  (92, .if_icmp .le 18, 3, 110, 0, 0, 0, 0),
  (95, .aload_n 0, 1, 0, 0, 0, 0, 0),
  (96, .dup, 1, 0, 0, 0, 0, 0),
  (97, .getfield 19, 3, 5, 2, 0, 0, 121),
  (100, .iconst 1, 1, 0, 0, 0, 1, 0),
  (101, .isub, 1, 0, 0, 0, 0, 0),
  (102, .putfield 19, 3, 5, 2, 0, 0, 121),
  (105, .aload_n 0, 1, 0, 0, 0, 0, 0),
  (106, .iconst 1, 1, 0, 0, 0, 1, 0),
  (107, .putfield 22, 3, 5, 4, 3, 0, 123),
  (110, .iload_n 3, 1, 0, 0, 0, 0, 0),
  (111, .ireturn, 1, 1, 0, 0, 0, 0)]
def z_cc5 : List (List z_E) := [z_c500, z_c501, z_c502, z_c503, z_c504, z_c505, z_c506, z_c507, z_c508, z_c509, z_c510, z_c511, z_c512]
def z_mm5 : List (MethodName × ByteArray × Nat × Option FieldType) := [(yX5_init, cX5_init, 1, none),
  (yX5_push, cX5_push, 3, (some .int)),
  (yX5_cut, cX5_cut, 2, (some .boolean)),
  (yX5_read, cX5_read, 4, (some .int)),
  (yX5_readItem, cX5_readItem, 3, none),
  (yX5_readRoad, cX5_readRoad, 7, none),
  (yX5_readJourney, cX5_readJourney, 11, none),
  (yX5_next, cX5_next, 1, (some .int)),
  (yX5_eat, cX5_eat, 2, (some .boolean)),
  (yX5_want, cX5_want, 2, none),
  (yX5_corner, cX5_corner, 3, (some .int)),
  (yX5_digit, cX5_digit, 4, (some .int)),
  (yX5_numeral, cX5_numeral, 5, (some .int))]
/-- TollsThatPay$Roads.<init>()V -/
def z_c600 : List z_E := [(0, .aload_n 0, 1, 0, 0, 0, 0, 0),
  (1, .invokespecial 3, 3, 9998, 0, 0, 0, 162),
  (4, .aload_n 0, 1, 0, 0, 0, 0, 0),
  (5, .bipush 6, 2, 0, 0, 0, 6, 0),
  (7, .putfield 9, 3, 6, 2, 0, 0, 171),
  (10, .aload_n 0, 1, 0, 0, 0, 0, 0),
  (11, .bipush 14, 2, 0, 0, 0, 14, 0),
  (13, .newarray .int, 2, 1, 0, 0, 0, 135),
  (15, .putfield 15, 3, 6, 4, 1, 0, 178),
  (18, .aload_n 0, 1, 0, 0, 0, 0, 0),
  (19, .iconst 5, 1, 0, 0, 0, 5, 0),
  (20, .newarray .int, 2, 1, 0, 0, 0, 135),
  (22, .putfield 19, 3, 6, 5, 1, 0, 179),
  (25, .aload_n 0, 1, 0, 0, 0, 0, 0),
  (26, .bipush 14, 2, 0, 0, 0, 14, 0),
  (28, .newarray .int, 2, 1, 0, 0, 0, 135),
  (30, .putfield 22, 3, 6, 6, 1, 0, 184),
  (33, .aload_n 0, 1, 0, 0, 0, 0, 0),
  (34, .bipush 14, 2, 0, 0, 0, 14, 0),
  (36, .newarray .int, 2, 1, 0, 0, 0, 135),
  (38, .putfield 25, 3, 6, 7, 1, 0, 185),
  (41, .aload_n 0, 1, 0, 0, 0, 0, 0),
  (42, .bipush 14, 2, 0, 0, 0, 14, 0),
  (44, .newarray .int, 2, 1, 0, 0, 0, 135),
  (46, .putfield 28, 3, 6, 8, 1, 0, 186),
  (49, .aload_n 0, 1, 0, 0, 0, 0, 0),
  (50, .bipush 14, 2, 0, 0, 0, 14, 0),
  (52, .newarray .int, 2, 1, 0, 0, 0, 135),
  (54, .putfield 31, 3, 6, 9, 1, 0, 187),
  (57, .aload_n 0, 1, 0, 0, 0, 0, 0),
  (58, .bipush 14, 2, 0, 0, 0, 14, 0),
  (60, .newarray .int, 2, 1, 0, 0, 0, 135),
  (62, .putfield 34, 3, 6, 10, 1, 0, 188),
  (65, .aload_n 0, 1, 0, 0, 0, 0, 0),
  (66, .iconst 5, 1, 0, 0, 0, 5, 0),
  (67, .newarray .int, 2, 1, 0, 0, 0, 135),
  (69, .putfield 37, 3, 6, 11, 1, 0, 189),
  (72, .return_, 1, 0, 0, 0, 0, 0)]
/-- TollsThatPay$Roads.copy(LTollsThatPay$Roads;)V -/
def z_c601 : List z_E := [(0, .aload_n 0, 1, 0, 0, 0, 0, 0),
  (1, .aload_n 1, 1, 0, 0, 0, 0, 0),
  (2, .getfield 40, 3, 6, 0, 0, 0, 163),
  (5, .putfield 40, 3, 6, 0, 0, 0, 163),
  (8, .aload_n 0, 1, 0, 0, 0, 0, 0),
  (9, .aload_n 1, 1, 0, 0, 0, 0, 0),
  (10, .getfield 43, 3, 6, 1, 0, 0, 167),
  (13, .putfield 43, 3, 6, 1, 0, 0, 167),
  (16, .aload_n 0, 1, 0, 0, 0, 0, 0),
  (17, .aload_n 1, 1, 0, 0, 0, 0, 0),
  (18, .getfield 9, 3, 6, 2, 0, 0, 171),
  (21, .putfield 9, 3, 6, 2, 0, 0, 171),
  (24, .aload_n 0, 1, 0, 0, 0, 0, 0),
  (25, .aload_n 1, 1, 0, 0, 0, 0, 0),
  (26, .getfield 46, 3, 6, 3, 0, 0, 177),
  (29, .putfield 46, 3, 6, 3, 0, 0, 177),
  (32, .aload_n 1, 1, 0, 0, 0, 0, 0),
  (33, .getfield 15, 3, 6, 4, 1, 0, 178),
  (36, .iconst 0, 1, 0, 0, 0, 0, 0),
  (37, .aload_n 0, 1, 0, 0, 0, 0, 0),
  (38, .getfield 15, 3, 6, 4, 1, 0, 178),
  (41, .iconst 0, 1, 0, 0, 0, 0, 0),
  (42, .bipush 14, 2, 0, 0, 0, 14, 0),
  (44, .invokestatic 49, 3, 9999, 0, 0, 0, 550),
  (47, .aload_n 1, 1, 0, 0, 0, 0, 0),
  (48, .getfield 19, 3, 6, 5, 1, 0, 179),
  (51, .iconst 0, 1, 0, 0, 0, 0, 0),
  (52, .aload_n 0, 1, 0, 0, 0, 0, 0),
  (53, .getfield 19, 3, 6, 5, 1, 0, 179),
  (56, .iconst 0, 1, 0, 0, 0, 0, 0),
  (57, .iconst 5, 1, 0, 0, 0, 5, 0),
  (58, .invokestatic 49, 3, 9999, 0, 0, 0, 550),
  (61, .aload_n 1, 1, 0, 0, 0, 0, 0),
  (62, .getfield 22, 3, 6, 6, 1, 0, 184),
  (65, .iconst 0, 1, 0, 0, 0, 0, 0),
  (66, .aload_n 0, 1, 0, 0, 0, 0, 0),
  (67, .getfield 22, 3, 6, 6, 1, 0, 184),
  (70, .iconst 0, 1, 0, 0, 0, 0, 0),
  (71, .bipush 14, 2, 0, 0, 0, 14, 0),
  (73, .invokestatic 49, 3, 9999, 0, 0, 0, 550),
  (76, .aload_n 1, 1, 0, 0, 0, 0, 0),
  (77, .getfield 25, 3, 6, 7, 1, 0, 185),
  (80, .iconst 0, 1, 0, 0, 0, 0, 0),
  (81, .aload_n 0, 1, 0, 0, 0, 0, 0),
  (82, .getfield 25, 3, 6, 7, 1, 0, 185),
  (85, .iconst 0, 1, 0, 0, 0, 0, 0),
  (86, .bipush 14, 2, 0, 0, 0, 14, 0),
  (88, .invokestatic 49, 3, 9999, 0, 0, 0, 550),
  (91, .aload_n 1, 1, 0, 0, 0, 0, 0),
  (92, .getfield 28, 3, 6, 8, 1, 0, 186),
  (95, .iconst 0, 1, 0, 0, 0, 0, 0),
  (96, .aload_n 0, 1, 0, 0, 0, 0, 0),
  (97, .getfield 28, 3, 6, 8, 1, 0, 186),
  (100, .iconst 0, 1, 0, 0, 0, 0, 0),
  (101, .bipush 14, 2, 0, 0, 0, 14, 0),
  (103, .invokestatic 49, 3, 9999, 0, 0, 0, 550),
  (106, .aload_n 1, 1, 0, 0, 0, 0, 0),
  (107, .getfield 31, 3, 6, 9, 1, 0, 187),
  (110, .iconst 0, 1, 0, 0, 0, 0, 0),
  (111, .aload_n 0, 1, 0, 0, 0, 0, 0),
  (112, .getfield 31, 3, 6, 9, 1, 0, 187),
  (115, .iconst 0, 1, 0, 0, 0, 0, 0),
  (116, .bipush 14, 2, 0, 0, 0, 14, 0),
  (118, .invokestatic 49, 3, 9999, 0, 0, 0, 550),
  (121, .aload_n 1, 1, 0, 0, 0, 0, 0),
  (122, .getfield 34, 3, 6, 10, 1, 0, 188),
  (125, .iconst 0, 1, 0, 0, 0, 0, 0),
  (126, .aload_n 0, 1, 0, 0, 0, 0, 0),
  (127, .getfield 34, 3, 6, 10, 1, 0, 188),
  (130, .iconst 0, 1, 0, 0, 0, 0, 0),
  (131, .bipush 14, 2, 0, 0, 0, 14, 0),
  (133, .invokestatic 49, 3, 9999, 0, 0, 0, 550),
  (136, .aload_n 1, 1, 0, 0, 0, 0, 0),
  (137, .getfield 37, 3, 6, 11, 1, 0, 189),
  (140, .iconst 0, 1, 0, 0, 0, 0, 0),
  (141, .aload_n 0, 1, 0, 0, 0, 0, 0),
  (142, .getfield 37, 3, 6, 11, 1, 0, 189),
  (145, .iconst 0, 1, 0, 0, 0, 0, 0),
  (146, .iconst 5, 1, 0, 0, 0, 5, 0),
  (147, .invokestatic 49, 3, 9999, 0, 0, 0, 550),
  (150, .return_, 1, 0, 0, 0, 0, 0)]
/-- TollsThatPay$Roads.add(IIIII)V -/
def z_c602 : List z_E := [(0, .iload_n 1, 1, 0, 0, 0, 0, 0),
  (1, .iconst (-1), 1, 0, 0, 0, (-1), 0),
  (2, .if_icmp .eq 7, 3, 9, 0, 0, 0, 0),
  (5, .iconst 1, 1, 0, 0, 0, 1, 0),
  (6, .goto 4, 3, 10, 0, 0, 0, 0),
  (9, .iconst 0, 1, 0, 0, 0, 0, 0),
  (10, .istore 6, 2, 0, 0, 0, 0, 0),
  (12, .aload_n 0, 1, 0, 0, 0, 0, 0),
  (13, .getfield 40, 3, 6, 0, 0, 0, 163),
  (16, .bipush 14, 2, 0, 0, 0, 14, 0),
  (18, .if_icmp .ge 77, 3, 95, 0, 0, 0, 0),
  (21, .aload_n 0, 1, 0, 0, 0, 0, 0),
  (22, .getfield 15, 3, 6, 4, 1, 0, 178),
  (25, .aload_n 0, 1, 0, 0, 0, 0, 0),
  (26, .getfield 40, 3, 6, 0, 0, 0, 163),
  (29, .iload_n 1, 1, 0, 0, 0, 0, 0),
  (30, .iastore, 1, 0, 0, 0, 0, 0),
  (31, .aload_n 0, 1, 0, 0, 0, 0, 0),
  (32, .getfield 22, 3, 6, 6, 1, 0, 184),
  (35, .aload_n 0, 1, 0, 0, 0, 0, 0),
  (36, .getfield 40, 3, 6, 0, 0, 0, 163),
  (39, .iload_n 2, 1, 0, 0, 0, 0, 0),
  (40, .iastore, 1, 0, 0, 0, 0, 0),
  (41, .aload_n 0, 1, 0, 0, 0, 0, 0),
  (42, .getfield 25, 3, 6, 7, 1, 0, 185),
  (45, .aload_n 0, 1, 0, 0, 0, 0, 0),
  (46, .getfield 40, 3, 6, 0, 0, 0, 163),
  (49, .iload_n 3, 1, 0, 0, 0, 0, 0),
  (50, .iastore, 1, 0, 0, 0, 0, 0),
  (51, .aload_n 0, 1, 0, 0, 0, 0, 0),
  (52, .getfield 28, 3, 6, 8, 1, 0, 186),
  (55, .aload_n 0, 1, 0, 0, 0, 0, 0),
  (56, .getfield 40, 3, 6, 0, 0, 0, 163),
  (59, .iload 4, 2, 0, 0, 0, 0, 0),
  (61, .iastore, 1, 0, 0, 0, 0, 0),
  (62, .aload_n 0, 1, 0, 0, 0, 0, 0),
  (63, .getfield 31, 3, 6, 9, 1, 0, 187),
  (66, .aload_n 0, 1, 0, 0, 0, 0, 0),
  (67, .getfield 40, 3, 6, 0, 0, 0, 163),
  (70, .iload 5, 2, 0, 0, 0, 0, 0),
  (72, .iastore, 1, 0, 0, 0, 0, 0),
  (73, .aload_n 0, 1, 0, 0, 0, 0, 0),
  (74, .getfield 34, 3, 6, 10, 1, 0, 188),
  (77, .aload_n 0, 1, 0, 0, 0, 0, 0),
  (78, .getfield 40, 3, 6, 0, 0, 0, 163),
  (81, .iload 6, 2, 0, 0, 0, 0, 0),
  (83, .ifCond .eq 10, 3, 93, 0, 0, 0, 0),
  (86, .aload_n 0, 1, 0, 0, 0, 0, 0),
  (87, .getfield 43, 3, 6, 1, 0, 0, 167),
  (90, .goto 4, 3, 94, 0, 0, 0, 0),
  (93, .iconst (-1), 1, 0, 0, 0, (-1), 0),
  (94, .iastore, 1, 0, 0, 0, 0, 0),
  (95, .iload 6, 2, 0, 0, 0, 0, 0),
  (97, .ifCond .eq 34, 3, 131, 0, 0, 0, 0),
  (100, .aload_n 0, 1, 0, 0, 0, 0, 0),
  (101, .getfield 43, 3, 6, 1, 0, 0, 167),
  (104, .iconst 5, 1, 0, 0, 0, 5, 0),
  (105, .if_icmp .ge 26, 3, 131, 0, 0, 0, 0),
  (108, .aload_n 0, 1, 0, 0, 0, 0, 0),
  (109, .getfield 37, 3, 6, 11, 1, 0, 189),
  (112, .aload_n 0, 1, 0, 0, 0, 0, 0),
  (113, .getfield 43, 3, 6, 1, 0, 0, 167),
  (116, .aload_n 0, 1, 0, 0, 0, 0, 0),
  (117, .getfield 40, 3, 6, 0, 0, 0, 163),
  (120, .iastore, 1, 0, 0, 0, 0, 0),
  (121, .aload_n 0, 1, 0, 0, 0, 0, 0),
  (122, .getfield 19, 3, 6, 5, 1, 0, 179),
  (125, .aload_n 0, 1, 0, 0, 0, 0, 0),
  (126, .getfield 43, 3, 6, 1, 0, 0, 167),
  (129, .iconst 0, 1, 0, 0, 0, 0, 0),
  (130, .iastore, 1, 0, 0, 0, 0, 0),
  (131, .aload_n 0, 1, 0, 0, 0, 0, 0),
  (132, .dup, 1, 0, 0, 0, 0, 0),
  (133, .getfield 43, 3, 6, 1, 0, 0, 167),
  (136, .iload 6, 2, 0, 0, 0, 0, 0),
  (138, .ifCond .eq 7, 3, 145, 0, 0, 0, 0),
  (141, .iconst 1, 1, 0, 0, 0, 1, 0),
  (142, .goto 4, 3, 146, 0, 0, 0, 0),
  (145, .iconst 0, 1, 0, 0, 0, 0, 0),
  (146, .iadd, 1, 0, 0, 0, 0, 0),
  (147, .putfield 43, 3, 6, 1, 0, 0, 167),
  (150, .aload_n 0, 1, 0, 0, 0, 0, 0),
  (151, .dup, 1, 0, 0, 0, 0, 0),
  (152, .getfield 40, 3, 6, 0, 0, 0, 163),
  (155, .iconst 1, 1, 0, 0, 0, 1, 0),
  (156, .iadd, 1, 0, 0, 0, 0, 0),
  (157, .putfield 40, 3, 6, 0, 0, 0, 163),
  (160, .return_, 1, 0, 0, 0, 0, 0)]
/-- TollsThatPay$Roads.setCap(I)V -/
def z_c603 : List z_E := [(0, .aload_n 0, 1, 0, 0, 0, 0, 0),
  (1, .iload_n 1, 1, 0, 0, 0, 0, 0),
  (2, .putfield 9, 3, 6, 2, 0, 0, 171),
  (5, .iconst 0, 1, 0, 0, 0, 0, 0),
  (6, .istore_n 2, 1, 0, 0, 0, 0, 0),
  (7, .iload_n 2, 1, 0, 0, 0, 0, 0),
  (8, .iconst 5, 1, 0, 0, 0, 5, 0),
  (9, .if_icmp .ge 25, 3, 34, 0, 0, 0, 0),
  (12, .aload_n 0, 1, 0, 0, 0, 0, 0),
  (13, .getfield 19, 3, 6, 5, 1, 0, 179),
  (16, .iload_n 2, 1, 0, 0, 0, 0, 0),
  (17, .aload_n 0, 1, 0, 0, 0, 0, 0),
  (18, .getfield 19, 3, 6, 5, 1, 0, 179),
  (21, .iload_n 2, 1, 0, 0, 0, 0, 0),
  (22, .iaload, 1, 0, 0, 0, 0, 0),
  (23, .iload_n 1, 1, 0, 0, 0, 0, 0),
  (24, .invokestatic 55, 3, 9996, 0, 0, 0, 626),
  (27, .iastore, 1, 0, 0, 0, 0, 0),
  (28, .iinc 2 1, 3, 0, 0, 0, 0, 0),
  (31, .goto (-24), 3, 7, 0, 0, 0, 0),
  (34, .return_, 1, 0, 0, 0, 0, 0)]
/-- TollsThatPay$Roads.shut(I)V -/
def z_c604 : List z_E := [(0, .aload_n 0, 1, 0, 0, 0, 0, 0),
  (1, .iconst 1, 1, 0, 0, 0, 1, 0),
  (2, .iload_n 1, 1, 0, 0, 0, 0, 0),
  (3, .ishl, 1, 0, 0, 0, 0, 0),
  (4, .putfield 46, 3, 6, 3, 0, 0, 177),
  (7, .return_, 1, 0, 0, 0, 0, 0)]
/-- TollsThatPay$Roads.has(I)Z -/
def z_c605 : List z_E := [(0, .iload_n 1, 1, 0, 0, 0, 0, 0),
  (1, .ifCond .lt 21, 3, 22, 0, 0, 0, 0),
  (4, .iload_n 1, 1, 0, 0, 0, 0, 0),
  (5, .aload_n 0, 1, 0, 0, 0, 0, 0),
  (6, .getfield 40, 3, 6, 0, 0, 0, 163),
  (9, .if_icmp .ge 13, 3, 22, 0, 0, 0, 0),
  (12, .iload_n 1, 1, 0, 0, 0, 0, 0),
  (13, .bipush 14, 2, 0, 0, 0, 14, 0),
  (15, .if_icmp .ge 7, 3, 22, 0, 0, 0, 0),
  (18, .iconst 1, 1, 0, 0, 0, 1, 0),
  (19, .goto 4, 3, 23, 0, 0, 0, 0),
  (22, .iconst 0, 1, 0, 0, 0, 0, 0),
  (23, .ireturn, 1, 2, 0, 0, 0, 0)]
/-- TollsThatPay$Roads.canStand(III)Z -/
def z_c606 : List z_E := [(0, .iload_n 0, 1, 0, 0, 0, 0, 0),
  (1, .ifCond .lt 38, 3, 39, 0, 0, 0, 0),
  (4, .iload_n 0, 1, 0, 0, 0, 0, 0),
  (5, .bipush 8, 2, 0, 0, 0, 8, 0),
  (7, .if_icmp .ge 32, 3, 39, 0, 0, 0, 0),
  (10, .iload_n 1, 1, 0, 0, 0, 0, 0),
  (11, .ifCond .lt 28, 3, 39, 0, 0, 0, 0),
  (14, .iload_n 1, 1, 0, 0, 0, 0, 0),
  (15, .bipush 8, 2, 0, 0, 0, 8, 0),
  (17, .if_icmp .ge 22, 3, 39, 0, 0, 0, 0),
  (20, .iload_n 0, 1, 0, 0, 0, 0, 0),
  (21, .iload_n 1, 1, 0, 0, 0, 0, 0),
  (22, .if_icmp .eq 17, 3, 39, 0, 0, 0, 0),
  (25, .iload_n 2, 1, 0, 0, 0, 0, 0),
  (26, .ifCond .lt 13, 3, 39, 0, 0, 0, 0),
  (29, .iload_n 2, 1, 0, 0, 0, 0, 0),
  (30, .bipush 99, 2, 0, 0, 0, 99, 0),
  (32, .if_icmp .gt 7, 3, 39, 0, 0, 0, 0),
  (35, .iconst 1, 1, 0, 0, 0, 1, 0),
  (36, .goto 4, 3, 40, 0, 0, 0, 0),
  (39, .iconst 0, 1, 0, 0, 0, 0, 0),
  (40, .ireturn, 1, 2, 0, 0, 0, 0)]
/-- TollsThatPay$Roads.slotAt(I)I -/
def z_c607 : List z_E := [(0, .aload_n 0, 1, 0, 0, 0, 0, 0),
  (1, .iload_n 1, 1, 0, 0, 0, 0, 0),
  (2, .invokevirtual 61, 3, 605, 2, 1, 6, 704),
  (5, .ifCond .eq 12, 3, 17, 0, 0, 0, 0),
  (8, .aload_n 0, 1, 0, 0, 0, 0, 0),
  (9, .getfield 34, 3, 6, 10, 1, 0, 188),
  (12, .iload_n 1, 1, 0, 0, 0, 0, 0),
  (13, .iaload, 1, 0, 0, 0, 0, 0),
  (14, .goto 4, 3, 18, 0, 0, 0, 0),
  (17, .iconst (-1), 1, 0, 0, 0, (-1), 0),
  (18, .istore_n 2, 1, 0, 0, 0, 0, 0),
  (19, .iload_n 2, 1, 0, 0, 0, 0, 0),
  (20, .iconst 5, 1, 0, 0, 0, 5, 0),
  (21, .if_icmp .ge 7, 3, 28, 0, 0, 0, 0),
  (24, .iload_n 2, 1, 0, 0, 0, 0, 0),
  (25, .goto 4, 3, 29, 0, 0, 0, 0),
  (28, .iconst (-1), 1, 0, 0, 0, (-1), 0),
  (29, .ireturn, 1, 1, 0, 0, 0, 0)]
/-- TollsThatPay$Roads.houseOf(I)I -/
def z_c608 : List z_E := [(0, .aload_n 0, 1, 0, 0, 0, 0, 0),
  (1, .iload_n 1, 1, 0, 0, 0, 0, 0),
  (2, .invokevirtual 61, 3, 605, 2, 1, 6, 704),
  (5, .ifCond .eq 12, 3, 17, 0, 0, 0, 0),
  (8, .aload_n 0, 1, 0, 0, 0, 0, 0),
  (9, .getfield 15, 3, 6, 4, 1, 0, 178),
  (12, .iload_n 1, 1, 0, 0, 0, 0, 0),
  (13, .iaload, 1, 0, 0, 0, 0, 0),
  (14, .goto 4, 3, 18, 0, 0, 0, 0),
  (17, .iconst (-1), 1, 0, 0, 0, (-1), 0),
  (18, .ireturn, 1, 1, 0, 0, 0, 0)]
/-- TollsThatPay$Roads.costOf(I)I -/
def z_c609 : List z_E := [(0, .aload_n 0, 1, 0, 0, 0, 0, 0),
  (1, .iload_n 1, 1, 0, 0, 0, 0, 0),
  (2, .invokevirtual 61, 3, 605, 2, 1, 6, 704),
  (5, .ifCond .eq 12, 3, 17, 0, 0, 0, 0),
  (8, .aload_n 0, 1, 0, 0, 0, 0, 0),
  (9, .getfield 28, 3, 6, 8, 1, 0, 186),
  (12, .iload_n 1, 1, 0, 0, 0, 0, 0),
  (13, .iaload, 1, 0, 0, 0, 0, 0),
  (14, .goto 4, 3, 18, 0, 0, 0, 0),
  (17, .iconst 0, 1, 0, 0, 0, 0, 0),
  (18, .ireturn, 1, 1, 0, 0, 0, 0)]
/-- TollsThatPay$Roads.hoursOf(I)I -/
def z_c610 : List z_E := [(0, .aload_n 0, 1, 0, 0, 0, 0, 0),
  (1, .iload_n 1, 1, 0, 0, 0, 0, 0),
  (2, .invokevirtual 61, 3, 605, 2, 1, 6, 704),
  (5, .ifCond .eq 12, 3, 17, 0, 0, 0, 0),
  (8, .aload_n 0, 1, 0, 0, 0, 0, 0),
  (9, .getfield 31, 3, 6, 9, 1, 0, 187),
  (12, .iload_n 1, 1, 0, 0, 0, 0, 0),
  (13, .iaload, 1, 0, 0, 0, 0, 0),
  (14, .goto 4, 3, 18, 0, 0, 0, 0),
  (17, .iconst 0, 1, 0, 0, 0, 0, 0),
  (18, .ireturn, 1, 1, 0, 0, 0, 0)]
/-- TollsThatPay$Roads.across(II)I -/
def z_c611 : List z_E := [(0, .aload_n 0, 1, 0, 0, 0, 0, 0),
  (1, .iload_n 1, 1, 0, 0, 0, 0, 0),
  (2, .invokevirtual 61, 3, 605, 2, 1, 6, 704),
  (5, .ifCond .ne 5, 3, 10, 0, 0, 0, 0),
  (8, .iconst (-1), 1, 0, 0, 0, (-1), 0),
  (9, .ireturn, 1, 1, 0, 0, 0, 0),
  (10, .aload_n 0, 1, 0, 0, 0, 0, 0),
  (11, .getfield 22, 3, 6, 6, 1, 0, 184),
  (14, .iload_n 1, 1, 0, 0, 0, 0, 0),
  (15, .iaload, 1, 0, 0, 0, 0, 0),
  (16, .iload_n 2, 1, 0, 0, 0, 0, 0),
  (17, .if_icmp .ne 12, 3, 29, 0, 0, 0, 0),
  (20, .aload_n 0, 1, 0, 0, 0, 0, 0),
  (21, .getfield 25, 3, 6, 7, 1, 0, 185),
  (24, .iload_n 1, 1, 0, 0, 0, 0, 0),
  (25, .iaload, 1, 0, 0, 0, 0, 0),
  (26, .goto 23, 3, 49, 0, 0, 0, 0),
  (29, .aload_n 0, 1, 0, 0, 0, 0, 0),
  (30, .getfield 25, 3, 6, 7, 1, 0, 185),
  (33, .iload_n 1, 1, 0, 0, 0, 0, 0),
  (34, .iaload, 1, 0, 0, 0, 0, 0),
  (35, .iload_n 2, 1, 0, 0, 0, 0, 0),
  (36, .if_icmp .ne 12, 3, 48, 0, 0, 0, 0),
  (39, .aload_n 0, 1, 0, 0, 0, 0, 0),
  (40, .getfield 22, 3, 6, 6, 1, 0, 184),
  (43, .iload_n 1, 1, 0, 0, 0, 0, 0),
  (44, .iaload, 1, 0, 0, 0, 0, 0),
  (45, .goto 4, 3, 49, 0, 0, 0, 0),
  (48, .iconst (-1), 1, 0, 0, 0, (-1), 0),
  (49, .ireturn, 1, 1, 0, 0, 0, 0)]
/-- TollsThatPay$Roads.isOpen(I)Z -/
def z_c612 : List z_E := [(0, .aload_n 0, 1, 0, 0, 0, 0, 0),
  (1, .getfield 46, 3, 6, 3, 0, 0, 177),
  (4, .iload_n 1, 1, 0, 0, 0, 0, 0),
  (5, .ishr, 1, 0, 0, 0, 0, 0),
  (6, .iconst 1, 1, 0, 0, 0, 1, 0),
  (7, .iand, 1, 0, 0, 0, 0, 0),
  (8, .ifCond .ne 7, 3, 15, 0, 0, 0, 0),
  (11, .iconst 1, 1, 0, 0, 0, 1, 0),
  (12, .goto 4, 3, 16, 0, 0, 0, 0),
  (15, .iconst 0, 1, 0, 0, 0, 0, 0),
  (16, .ireturn, 1, 2, 0, 0, 0, 0)]
/-- TollsThatPay$Roads.sideOf(I)I -/
def z_c613 : List z_E := [(0, .iconst 0, 1, 0, 0, 0, 0, 0),
  (1, .istore_n 2, 1, 0, 0, 0, 0, 0),
  (2, .iconst 0, 1, 0, 0, 0, 0, 0),
  (3, .istore_n 3, 1, 0, 0, 0, 0, 0),
  (4, .iload_n 3, 1, 0, 0, 0, 0, 0),
  (5, .aload_n 0, 1, 0, 0, 0, 0, 0),
  (6, .getfield 43, 3, 6, 1, 0, 0, 167),
  (9, .if_icmp .ge 47, 3, 56, 0, 0, 0, 0),
  (12, .iload_n 3, 1, 0, 0, 0, 0, 0),
  (13, .iconst 5, 1, 0, 0, 0, 5, 0),
  (14, .if_icmp .ge 42, 3, 56, 0, 0, 0, 0),
  (17, .aload_n 0, 1, 0, 0, 0, 0, 0),
  (18, .getfield 37, 3, 6, 11, 1, 0, 189),
  (21, .iload_n 3, 1, 0, 0, 0, 0, 0),
  (22, .iaload, 1, 0, 0, 0, 0, 0),
  (23, .istore 4, 2, 0, 0, 0, 0, 0),
  (25, .aload_n 0, 1, 0, 0, 0, 0, 0),
  (26, .iload 4, 2, 0, 0, 0, 0, 0),
  (28, .invokevirtual 65, 3, 608, 2, 1, 6, 861),
  (31, .iload_n 1, 1, 0, 0, 0, 0, 0),
  (32, .if_icmp .ne 18, 3, 50, 0, 0, 0, 0),
  (35, .aload_n 0, 1, 0, 0, 0, 0, 0),
  (36, .iload 4, 2, 0, 0, 0, 0, 0),
  (38, .invokevirtual 69, 3, 612, 2, 1, 6, 865),
  (41, .ifCond .eq 9, 3, 50, 0, 0, 0, 0),
  (44, .iload_n 2, 1, 0, 0, 0, 0, 0),
  (45, .iconst 1, 1, 0, 0, 0, 1, 0),
  (46, .iload_n 3, 1, 0, 0, 0, 0, 0),
  (47, .ishl, 1, 0, 0, 0, 0, 0),
  (48, .ior, 1, 0, 0, 0, 0, 0),
  (49, .istore_n 2, 1, 0, 0, 0, 0, 0),
  (50, .iinc 3 1, 3, 0, 0, 0, 0, 0),
  (53, .goto (-49), 3, 4, 0, 0, 0, 0),
  (56, .iload_n 2, 1, 0, 0, 0, 0, 0),
  (57, .ireturn, 1, 1, 0, 0, 0, 0)]
/-- TollsThatPay$Roads.allSlots()I -/
def z_c614 : List z_E := [(0, .iconst 1, 1, 0, 0, 0, 1, 0),
  (1, .aload_n 0, 1, 0, 0, 0, 0, 0),
  (2, .getfield 43, 3, 6, 1, 0, 0, 167),
  (5, .iconst 5, 1, 0, 0, 0, 5, 0),
  (6, .invokestatic 55, 3, 9996, 0, 0, 0, 626),
  (9, .ishl, 1, 0, 0, 0, 0, 0),
  (10, .iconst 1, 1, 0, 0, 0, 1, 0),
  (11, .isub, 1, 0, 0, 0, 0, 0),
  (12, .ireturn, 1, 1, 0, 0, 0, 0)]
/-- TollsThatPay$Roads.roadsOf(I)I -/
def z_c615 : List z_E := [(0, .iconst 0, 1, 0, 0, 0, 0, 0),
  (1, .istore_n 2, 1, 0, 0, 0, 0, 0),
  (2, .iconst 0, 1, 0, 0, 0, 0, 0),
  (3, .istore_n 3, 1, 0, 0, 0, 0, 0),
  (4, .iload_n 3, 1, 0, 0, 0, 0, 0),
  (5, .iconst 5, 1, 0, 0, 0, 5, 0),
  (6, .if_icmp .ge 28, 3, 34, 0, 0, 0, 0),
  (9, .iload_n 1, 1, 0, 0, 0, 0, 0),
  (10, .iload_n 3, 1, 0, 0, 0, 0, 0),
  (11, .ishr, 1, 0, 0, 0, 0, 0),
  (12, .iconst 1, 1, 0, 0, 0, 1, 0),
  (13, .iand, 1, 0, 0, 0, 0, 0),
  (14, .ifCond .eq 14, 3, 28, 0, 0, 0, 0),
  (17, .iload_n 2, 1, 0, 0, 0, 0, 0),
  (18, .iconst 1, 1, 0, 0, 0, 1, 0),
  (19, .aload_n 0, 1, 0, 0, 0, 0, 0),
  (20, .getfield 37, 3, 6, 11, 1, 0, 189),
  (23, .iload_n 3, 1, 0, 0, 0, 0, 0),
  (24, .iaload, 1, 0, 0, 0, 0, 0),
  (25, .ishl, 1, 0, 0, 0, 0, 0),
  (26, .ior, 1, 0, 0, 0, 0, 0),
  (27, .istore_n 2, 1, 0, 0, 0, 0, 0),
  (28, .iinc 3 1, 3, 0, 0, 0, 0, 0),
  (31, .goto (-27), 3, 4, 0, 0, 0, 0),
  (34, .iload_n 2, 1, 0, 0, 0, 0, 0),
  (35, .ireturn, 1, 1, 0, 0, 0, 0)]
/-- TollsThatPay$Roads.tellOf(II)I -/
def z_c616 : List z_E := [(0, .aload_n 0, 1, 0, 0, 0, 0, 0),
  (1, .iload_n 1, 1, 0, 0, 0, 0, 0),
  (2, .invokevirtual 61, 3, 605, 2, 1, 6, 704),
  (5, .ifCond .ne 5, 3, 10, 0, 0, 0, 0),
  (8, .iconst (-1), 1, 0, 0, 0, (-1), 0),
  (9, .ireturn, 1, 1, 0, 0, 0, 0),
  (10, .iload_n 2, 1, 0, 0, 0, 0, 0),
  (11, .tableswitch 68 0 4 #[33, 40, 47, 54, 61], 33, 0, 0, 0, 0, 0),
  (44, .aload_n 0, 1, 0, 0, 0, 0, 0),
  (45, .getfield 22, 3, 6, 6, 1, 0, 184),
  (48, .iload_n 1, 1, 0, 0, 0, 0, 0),
  (49, .iaload, 1, 0, 0, 0, 0, 0),
  (50, .ireturn, 1, 1, 0, 0, 0, 0),
  (51, .aload_n 0, 1, 0, 0, 0, 0, 0),
  (52, .getfield 25, 3, 6, 7, 1, 0, 185),
  (55, .iload_n 1, 1, 0, 0, 0, 0, 0),
  (56, .iaload, 1, 0, 0, 0, 0, 0),
  (57, .ireturn, 1, 1, 0, 0, 0, 0),
  (58, .aload_n 0, 1, 0, 0, 0, 0, 0),
  (59, .getfield 28, 3, 6, 8, 1, 0, 186),
  (62, .iload_n 1, 1, 0, 0, 0, 0, 0),
  (63, .iaload, 1, 0, 0, 0, 0, 0),
  (64, .ireturn, 1, 1, 0, 0, 0, 0),
  (65, .aload_n 0, 1, 0, 0, 0, 0, 0),
  (66, .getfield 31, 3, 6, 9, 1, 0, 187),
  (69, .iload_n 1, 1, 0, 0, 0, 0, 0),
  (70, .iaload, 1, 0, 0, 0, 0, 0),
  (71, .ireturn, 1, 1, 0, 0, 0, 0),
  (72, .aload_n 0, 1, 0, 0, 0, 0, 0),
  (73, .getfield 15, 3, 6, 4, 1, 0, 178),
  (76, .iload_n 1, 1, 0, 0, 0, 0, 0),
  (77, .iaload, 1, 0, 0, 0, 0, 0),
  (78, .ireturn, 1, 1, 0, 0, 0, 0),
  (79, .aload_n 0, 1, 0, 0, 0, 0, 0),
  (80, .iload_n 1, 1, 0, 0, 0, 0, 0),
  (81, .invokevirtual 72, 3, 607, 2, 1, 6, 1313),
  (84, .istore_n 3, 1, 0, 0, 0, 0, 0),
  (85, .iload_n 3, 1, 0, 0, 0, 0, 0),
  (86, .ifCond .lt 12, 3, 98, 0, 0, 0, 0),
  (89, .aload_n 0, 1, 0, 0, 0, 0, 0),
  (90, .getfield 19, 3, 6, 5, 1, 0, 179),
  (93, .iload_n 3, 1, 0, 0, 0, 0, 0),
  (94, .iaload, 1, 0, 0, 0, 0, 0),
  (95, .goto 4, 3, 99, 0, 0, 0, 0),
  (98, .iconst 0, 1, 0, 0, 0, 0, 0),
  (99, .ireturn, 1, 1, 0, 0, 0, 0)]
/-- TollsThatPay$Roads.powerOf(II)I -/
def z_c617 : List z_E := [(0, .iconst 1, 1, 0, 0, 0, 1, 0),
  (1, .istore_n 2, 1, 0, 0, 0, 0, 0),
  (2, .iconst 0, 1, 0, 0, 0, 0, 0),
  (3, .istore_n 3, 1, 0, 0, 0, 0, 0),
  (4, .iload_n 3, 1, 0, 0, 0, 0, 0),
  (5, .iload_n 1, 1, 0, 0, 0, 0, 0),
  (6, .if_icmp .ge 18, 3, 24, 0, 0, 0, 0),
  (9, .iload_n 3, 1, 0, 0, 0, 0, 0),
  (10, .iconst 5, 1, 0, 0, 0, 5, 0),
  (11, .if_icmp .ge 13, 3, 24, 0, 0, 0, 0),
  (14, .iload_n 2, 1, 0, 0, 0, 0, 0),
  (15, .iload_n 0, 1, 0, 0, 0, 0, 0),
  (16, .imul, 1, 0, 0, 0, 0, 0),
  (17, .istore_n 2, 1, 0, 0, 0, 0, 0),
  (18, .iinc 3 1, 3, 0, 0, 0, 0, 0),
  (21, .goto (-17), 3, 4, 0, 0, 0, 0),
  (24, .iload_n 2, 1, 0, 0, 0, 0, 0),
  (25, .ireturn, 1, 1, 0, 0, 0, 0)]
def z_cc6 : List (List z_E) := [z_c600, z_c601, z_c602, z_c603, z_c604, z_c605, z_c606, z_c607, z_c608, z_c609, z_c610, z_c611, z_c612, z_c613, z_c614, z_c615, z_c616, z_c617]
def z_mm6 : List (MethodName × ByteArray × Nat × Option FieldType) := [(yX6_init, cX6_init, 1, none),
  (yX6_copy, cX6_copy, 2, none),
  (yX6_add, cX6_add, 7, none),
  (yX6_setCap, cX6_setCap, 3, none),
  (yX6_shut, cX6_shut, 2, none),
  (yX6_has, cX6_has, 2, (some .boolean)),
  (yX6_canStand, cX6_canStand, 3, (some .boolean)),
  (yX6_slotAt, cX6_slotAt, 3, (some .int)),
  (yX6_houseOf, cX6_houseOf, 2, (some .int)),
  (yX6_costOf, cX6_costOf, 2, (some .int)),
  (yX6_hoursOf, cX6_hoursOf, 2, (some .int)),
  (yX6_across, cX6_across, 3, (some .int)),
  (yX6_isOpen, cX6_isOpen, 2, (some .boolean)),
  (yX6_sideOf, cX6_sideOf, 5, (some .int)),
  (yX6_allSlots, cX6_allSlots, 1, (some .int)),
  (yX6_roadsOf, cX6_roadsOf, 4, (some .int)),
  (yX6_tellOf, cX6_tellOf, 4, (some .int)),
  (yX6_powerOf, cX6_powerOf, 4, (some .int))]
/-- TollsThatPay$Row.<init>()V -/
def z_c700 : List z_E := [(0, .aload_n 0, 1, 0, 0, 0, 0, 0),
  (1, .invokespecial 3, 3, 9998, 0, 0, 0, 141),
  (4, .aload_n 0, 1, 0, 0, 0, 0, 0),
  (5, .bipush 24, 2, 0, 0, 0, 24, 0),
  (7, .newarray .int, 2, 1, 0, 0, 0, 135),
  (9, .putfield 9, 3, 7, 0, 1, 0, 142),
  (12, .return_, 1, 0, 0, 0, 0, 0)]
/-- TollsThatPay$Row.clear()V -/
def z_c701 : List z_E := [(0, .aload_n 0, 1, 0, 0, 0, 0, 0),
  (1, .iconst 0, 1, 0, 0, 0, 0, 0),
  (2, .putfield 15, 3, 7, 1, 0, 0, 143),
  (5, .return_, 1, 0, 0, 0, 0, 0)]
/-- TollsThatPay$Row.add(I)V -/
def z_c702 : List z_E := [(0, .aload_n 0, 1, 0, 0, 0, 0, 0),
  (1, .getfield 15, 3, 7, 1, 0, 0, 143),
  (4, .aload_n 0, 1, 0, 0, 0, 0, 0),
  (5, .getfield 9, 3, 7, 0, 1, 0, 142),
  (8, .arraylength, 1, 0, 0, 0, 0, 0),
  (9, .if_icmp .ge 23, 3, 32, 0, 0, 0, 0),
  (12, .aload_n 0, 1, 0, 0, 0, 0, 0),
  (13, .getfield 9, 3, 7, 0, 1, 0, 142),
  (16, .aload_n 0, 1, 0, 0, 0, 0, 0),
  (17, .getfield 15, 3, 7, 1, 0, 0, 143),
  (20, .iload_n 1, 1, 0, 0, 0, 0, 0),
  (21, .iastore, 1, 0, 0, 0, 0, 0),
  (22, .aload_n 0, 1, 0, 0, 0, 0, 0),
  (23, .dup, 1, 0, 0, 0, 0, 0),
  (24, .getfield 15, 3, 7, 1, 0, 0, 143),
  (27, .iconst 1, 1, 0, 0, 0, 1, 0),
  (28, .iadd, 1, 0, 0, 0, 0, 0),
  (29, .putfield 15, 3, 7, 1, 0, 0, 143),
  (32, .return_, 1, 0, 0, 0, 0, 0)]
/-- TollsThatPay$Row.at(I)I -/
def z_c703 : List z_E := [(0, .iload_n 1, 1, 0, 0, 0, 0, 0),
  (1, .ifCond .lt 21, 3, 22, 0, 0, 0, 0),
  (4, .iload_n 1, 1, 0, 0, 0, 0, 0),
  (5, .aload_n 0, 1, 0, 0, 0, 0, 0),
  (6, .getfield 9, 3, 7, 0, 1, 0, 142),
  (9, .arraylength, 1, 0, 0, 0, 0, 0),
  (10, .if_icmp .ge 12, 3, 22, 0, 0, 0, 0),
  (13, .aload_n 0, 1, 0, 0, 0, 0, 0),
  (14, .getfield 9, 3, 7, 0, 1, 0, 142),
  (17, .iload_n 1, 1, 0, 0, 0, 0, 0),
  (18, .iaload, 1, 0, 0, 0, 0, 0),
  (19, .goto 4, 3, 23, 0, 0, 0, 0),
  (22, .iconst (-1), 1, 0, 0, 0, (-1), 0),
  (23, .ireturn, 1, 1, 0, 0, 0, 0)]
def z_cc7 : List (List z_E) := [z_c700, z_c701, z_c702, z_c703]
def z_mm7 : List (MethodName × ByteArray × Nat × Option FieldType) := [(yX7_init, cX7_init, 1, none),
  (yX7_clear, cX7_clear, 1, none),
  (yX7_add, cX7_add, 2, none),
  (yX7_at, cX7_at, 2, (some .int))]
/-- TollsThatPay$Sets.<init>()V -/
def z_c800 : List z_E := [(0, .aload_n 0, 1, 0, 0, 0, 0, 0),
  (1, .invokespecial 1, 3, 9998, 0, 0, 0, 375),
  (4, .aload_n 0, 1, 0, 0, 0, 0, 0),
  (5, .iconst 5, 1, 0, 0, 0, 5, 0),
  (6, .newarray .int, 2, 1, 0, 0, 0, 135),
  (8, .putfield 9, 3, 8, 0, 1, 0, 376),
  (11, .aload_n 0, 1, 0, 0, 0, 0, 0),
  (12, .bipush 32, 2, 0, 0, 0, 32, 0),
  (14, .newarray .int, 2, 1, 0, 0, 0, 135),
  (16, .putfield 17, 3, 8, 1, 1, 0, 379),
  (19, .aload_n 0, 1, 0, 0, 0, 0, 0),
  (20, .bipush 32, 2, 0, 0, 0, 32, 0),
  (22, .newarray .int, 2, 1, 0, 0, 0, 135),
  (24, .putfield 20, 3, 8, 2, 1, 0, 380),
  (27, .return_, 1, 0, 0, 0, 0, 0)]
/-- TollsThatPay$Sets.begin([IIII)I -/
def z_c801 : List z_E := [(0, .aload_n 0, 1, 0, 0, 0, 0, 0),
  (1, .iload_n 2, 1, 0, 0, 0, 0, 0),
  (2, .putfield 23, 3, 8, 4, 0, 0, 384),
  (5, .aload_n 0, 1, 0, 0, 0, 0, 0),
  (6, .iload_n 3, 1, 0, 0, 0, 0, 0),
  (7, .putfield 27, 3, 8, 5, 0, 0, 385),
  (10, .aload_n 0, 1, 0, 0, 0, 0, 0),
  (11, .iload 4, 2, 0, 0, 0, 0, 0),
  (13, .ifCond .ne 9, 3, 22, 0, 0, 0, 0),
  (16, .sipush 255, 3, 0, 0, 0, 255, 0),
  (19, .goto 6, 3, 25, 0, 0, 0, 0),
  (22, .sipush 257, 3, 0, 0, 0, 257, 0),
  (25, .putfield 30, 3, 8, 6, 0, 0, 386),
  (28, .iconst 0, 1, 0, 0, 0, 0, 0),
  (29, .istore 5, 2, 0, 0, 0, 0, 0),
  (31, .iload 5, 2, 0, 0, 0, 0, 0),
  (33, .aload_n 0, 1, 0, 0, 0, 0, 0),
  (34, .getfield 9, 3, 8, 0, 1, 0, 376),
  (37, .arraylength, 1, 0, 0, 0, 0, 0),
  (38, .if_icmp .ge 43, 3, 81, 0, 0, 0, 0),
  (41, .aload_n 0, 1, 0, 0, 0, 0, 0),
  (42, .getfield 9, 3, 8, 0, 1, 0, 376),
  (45, .iload 5, 2, 0, 0, 0, 0, 0),
  (47, .aload_n 0, 1, 0, 0, 0, 0, 0),
  (48, .getfield 23, 3, 8, 4, 0, 0, 384),
  (51, .iload 5, 2, 0, 0, 0, 0, 0),
  (53, .ishr, 1, 0, 0, 0, 0, 0),
  (54, .iconst 1, 1, 0, 0, 0, 1, 0),
  (55, .iand, 1, 0, 0, 0, 0, 0),
  (56, .ifCond .ne 10, 3, 66, 0, 0, 0, 0),
  (59, .iload 5, 2, 0, 0, 0, 0, 0),
  (61, .aload_n 1, 1, 0, 0, 0, 0, 0),
  (62, .arraylength, 1, 0, 0, 0, 0, 0),
  (63, .if_icmp .lt 7, 3, 70, 0, 0, 0, 0),
  (66, .iconst 0, 1, 0, 0, 0, 0, 0),
  (67, .goto 7, 3, 74, 0, 0, 0, 0),
  (70, .aload_n 1, 1, 0, 0, 0, 0, 0),
  (71, .iload 5, 2, 0, 0, 0, 0, 0),
  (73, .iaload, 1, 0, 0, 0, 0, 0),
  (74, .iastore, 1, 0, 0, 0, 0, 0),
  (75, .iinc 5 1, 3, 0, 0, 0, 0, 0),
  (78, .goto (-47), 3, 31, 0, 0, 0, 0),
  (81, .aload_n 0, 1, 0, 0, 0, 0, 0),
  (82, .iconst 0, 1, 0, 0, 0, 0, 0),
  (83, .invokevirtual 33, 3, 803, 2, 0, 8, 792),
  (86, .aload_n 0, 1, 0, 0, 0, 0, 0),
  (87, .getfield 27, 3, 8, 5, 0, 0, 385),
  (90, .iconst 1, 1, 0, 0, 0, 1, 0),
  (91, .iadd, 1, 0, 0, 0, 0, 0),
  (92, .aload_n 0, 1, 0, 0, 0, 0, 0),
  (93, .getfield 23, 3, 8, 4, 0, 0, 384),
  (96, .bipush 31, 2, 0, 0, 0, 31, 0),
  (98, .iand, 1, 0, 0, 0, 0, 0),
  (99, .invokestatic 37, 3, 1300, 1, 1, 0, 796),
  (102, .invokestatic 43, 3, 617, 2, 1, 0, 797),
  (105, .ireturn, 1, 1, 0, 0, 0, 0)]
/-- TollsThatPay$Sets.next()V -/
def z_c802 : List z_E := [(0, .aload_n 0, 1, 0, 0, 0, 0, 0),
  (1, .getfield 9, 3, 8, 0, 1, 0, 376),
  (4, .arraylength, 1, 0, 0, 0, 0, 0),
  (5, .istore_n 1, 1, 0, 0, 0, 0, 0),
  (6, .iconst 1, 1, 0, 0, 0, 1, 0),
  (7, .istore_n 2, 1, 0, 0, 0, 0, 0),
  (8, .aload_n 0, 1, 0, 0, 0, 0, 0),
  (9, .getfield 9, 3, 8, 0, 1, 0, 376),
  (12, .arraylength, 1, 0, 0, 0, 0, 0),
  (13, .iconst 1, 1, 0, 0, 0, 1, 0),
  (14, .isub, 1, 0, 0, 0, 0, 0),
  (15, .istore_n 3, 1, 0, 0, 0, 0, 0),
  (16, .iload_n 3, 1, 0, 0, 0, 0, 0),
  (17, .ifCond .lt 67, 3, 84, 0, 0, 0, 0),
  (20, .iload_n 2, 1, 0, 0, 0, 0, 0),
  (21, .ifCond .eq 63, 3, 84, 0, 0, 0, 0),
  (24, .aload_n 0, 1, 0, 0, 0, 0, 0),
  (25, .getfield 23, 3, 8, 4, 0, 0, 384),
  (28, .iload_n 3, 1, 0, 0, 0, 0, 0),
  (29, .ishr, 1, 0, 0, 0, 0, 0),
  (30, .iconst 1, 1, 0, 0, 0, 1, 0),
  (31, .iand, 1, 0, 0, 0, 0, 0),
  (32, .ifCond .eq 46, 3, 78, 0, 0, 0, 0),
  (35, .aload_n 0, 1, 0, 0, 0, 0, 0),
  (36, .getfield 9, 3, 8, 0, 1, 0, 376),
  (39, .iload_n 3, 1, 0, 0, 0, 0, 0),
  (40, .iaload, 1, 0, 0, 0, 0, 0),
  (41, .aload_n 0, 1, 0, 0, 0, 0, 0),
  (42, .getfield 27, 3, 8, 5, 0, 0, 385),
  (45, .if_icmp .lt 7, 3, 52, 0, 0, 0, 0),
  (48, .iconst 1, 1, 0, 0, 0, 1, 0),
  (49, .goto 4, 3, 53, 0, 0, 0, 0),
  (52, .iconst 0, 1, 0, 0, 0, 0, 0),
  (53, .istore_n 2, 1, 0, 0, 0, 0, 0),
  (54, .aload_n 0, 1, 0, 0, 0, 0, 0),
  (55, .getfield 9, 3, 8, 0, 1, 0, 376),
  (58, .iload_n 3, 1, 0, 0, 0, 0, 0),
  (59, .iload_n 2, 1, 0, 0, 0, 0, 0),
  (60, .ifCond .eq 7, 3, 67, 0, 0, 0, 0),
  (63, .iconst 0, 1, 0, 0, 0, 0, 0),
  (64, .goto 11, 3, 75, 0, 0, 0, 0),
  (67, .aload_n 0, 1, 0, 0, 0, 0, 0),
  (68, .getfield 9, 3, 8, 0, 1, 0, 376),
  (71, .iload_n 3, 1, 0, 0, 0, 0, 0),
  (72, .iaload, 1, 0, 0, 0, 0, 0),
  (73, .iconst 1, 1, 0, 0, 0, 1, 0),
  (74, .iadd, 1, 0, 0, 0, 0, 0),
  (75, .iastore, 1, 0, 0, 0, 0, 0),
  (76, .iload_n 3, 1, 0, 0, 0, 0, 0),
  (77, .istore_n 1, 1, 0, 0, 0, 0, 0),
  (78, .iinc 3 (-1), 3, 0, 0, 0, 0, 0),
  (81, .goto (-65), 3, 16, 0, 0, 0, 0),
  (84, .aload_n 0, 1, 0, 0, 0, 0, 0),
  (85, .iload_n 1, 1, 0, 0, 0, 0, 0),
  (86, .invokevirtual 33, 3, 803, 2, 0, 8, 792),
  (89, .return_, 1, 0, 0, 0, 0, 0)]
/-- TollsThatPay$Sets.reckon(I)V -/
def z_c803 : List z_E := [(0, .iload_n 1, 1, 0, 0, 0, 0, 0),
  (1, .istore_n 2, 1, 0, 0, 0, 0, 0),
  (2, .iload_n 2, 1, 0, 0, 0, 0, 0),
  (3, .ifCond .lt 103, 3, 106, 0, 0, 0, 0),
  (6, .iload_n 2, 1, 0, 0, 0, 0, 0),
  (7, .aload_n 0, 1, 0, 0, 0, 0, 0),
  (8, .getfield 47, 3, 8, 3, 0, 0, 383),
  (11, .if_icmp .ge 95, 3, 106, 0, 0, 0, 0),
  (14, .iload_n 2, 1, 0, 0, 0, 0, 0),
  (15, .aload_n 0, 1, 0, 0, 0, 0, 0),
  (16, .getfield 9, 3, 8, 0, 1, 0, 376),
  (19, .arraylength, 1, 0, 0, 0, 0, 0),
  (20, .if_icmp .ge 86, 3, 106, 0, 0, 0, 0),
  (23, .iconst 1, 1, 0, 0, 0, 1, 0),
  (24, .iload_n 2, 1, 0, 0, 0, 0, 0),
  (25, .ishl, 1, 0, 0, 0, 0, 0),
  (26, .istore_n 3, 1, 0, 0, 0, 0, 0),
  (27, .iconst 0, 1, 0, 0, 0, 0, 0),
  (28, .istore 4, 2, 0, 0, 0, 0, 0),
  (30, .iload 4, 2, 0, 0, 0, 0, 0),
  (32, .iload_n 3, 1, 0, 0, 0, 0, 0),
  (33, .if_icmp .ge 67, 3, 100, 0, 0, 0, 0),
  (36, .iload_n 3, 1, 0, 0, 0, 0, 0),
  (37, .iload 4, 2, 0, 0, 0, 0, 0),
  (39, .iadd, 1, 0, 0, 0, 0, 0),
  (40, .aload_n 0, 1, 0, 0, 0, 0, 0),
  (41, .getfield 17, 3, 8, 1, 1, 0, 379),
  (44, .arraylength, 1, 0, 0, 0, 0, 0),
  (45, .if_icmp .ge 55, 3, 100, 0, 0, 0, 0),
  (48, .aload_n 0, 1, 0, 0, 0, 0, 0),
  (49, .getfield 17, 3, 8, 1, 1, 0, 379),
  (52, .iload_n 3, 1, 0, 0, 0, 0, 0),
  (53, .iload 4, 2, 0, 0, 0, 0, 0),
  (55, .iadd, 1, 0, 0, 0, 0, 0),
  (56, .aload_n 0, 1, 0, 0, 0, 0, 0),
  (57, .getfield 17, 3, 8, 1, 1, 0, 379),
  (60, .iload 4, 2, 0, 0, 0, 0, 0),
  (62, .iaload, 1, 0, 0, 0, 0, 0),
  (63, .aload_n 0, 1, 0, 0, 0, 0, 0),
  (64, .getfield 9, 3, 8, 0, 1, 0, 376),
  (67, .iload_n 2, 1, 0, 0, 0, 0, 0),
  (68, .iaload, 1, 0, 0, 0, 0, 0),
  (69, .iadd, 1, 0, 0, 0, 0, 0),
  (70, .iastore, 1, 0, 0, 0, 0, 0),
  (71, .aload_n 0, 1, 0, 0, 0, 0, 0),
  (72, .getfield 20, 3, 8, 2, 1, 0, 380),
  (75, .iload_n 3, 1, 0, 0, 0, 0, 0),
  (76, .iload 4, 2, 0, 0, 0, 0, 0),
  (78, .iadd, 1, 0, 0, 0, 0, 0),
  (79, .aload_n 0, 1, 0, 0, 0, 0, 0),
  (80, .getfield 17, 3, 8, 1, 1, 0, 379),
  (83, .iload_n 3, 1, 0, 0, 0, 0, 0),
  (84, .iload 4, 2, 0, 0, 0, 0, 0),
  (86, .iadd, 1, 0, 0, 0, 0, 0),
  (87, .iaload, 1, 0, 0, 0, 0, 0),
  (88, .aload_n 0, 1, 0, 0, 0, 0, 0),
  (89, .getfield 30, 3, 8, 6, 0, 0, 386),
  (92, .imul, 1, 0, 0, 0, 0, 0),
  (93, .iastore, 1, 0, 0, 0, 0, 0),
  (94, .iinc 4 1, 3, 0, 0, 0, 0, 0),
  (97, .goto (-67), 3, 30, 0, 0, 0, 0),
  (100, .iinc 2 1, 3, 0, 0, 0, 0, 0),
  (103, .goto (-101), 3, 2, 0, 0, 0, 0),
  (106, .return_, 1, 0, 0, 0, 0, 0)]
/-- TollsThatPay$Sets.sumOf(I)I -/
def z_c804 : List z_E := [(0, .aload_n 0, 1, 0, 0, 0, 0, 0),
  (1, .getfield 17, 3, 8, 1, 1, 0, 379),
  (4, .iload_n 1, 1, 0, 0, 0, 0, 0),
  (5, .bipush 31, 2, 0, 0, 0, 31, 0),
  (7, .iand, 1, 0, 0, 0, 0, 0),
  (8, .iaload, 1, 0, 0, 0, 0, 0),
  (9, .ireturn, 1, 1, 0, 0, 0, 0)]
/-- TollsThatPay$Sets.placeOf(I)I -/
def z_c805 : List z_E := [(0, .iconst 0, 1, 0, 0, 0, 0, 0),
  (1, .istore_n 2, 1, 0, 0, 0, 0, 0),
  (2, .iconst 0, 1, 0, 0, 0, 0, 0),
  (3, .istore_n 3, 1, 0, 0, 0, 0, 0),
  (4, .iload_n 3, 1, 0, 0, 0, 0, 0),
  (5, .aload_n 0, 1, 0, 0, 0, 0, 0),
  (6, .getfield 9, 3, 8, 0, 1, 0, 376),
  (9, .arraylength, 1, 0, 0, 0, 0, 0),
  (10, .if_icmp .ge 33, 3, 43, 0, 0, 0, 0),
  (13, .iload_n 1, 1, 0, 0, 0, 0, 0),
  (14, .iload_n 3, 1, 0, 0, 0, 0, 0),
  (15, .ishr, 1, 0, 0, 0, 0, 0),
  (16, .iconst 1, 1, 0, 0, 0, 1, 0),
  (17, .iand, 1, 0, 0, 0, 0, 0),
  (18, .ifCond .eq 19, 3, 37, 0, 0, 0, 0),
  (21, .iload_n 2, 1, 0, 0, 0, 0, 0),
  (22, .aload_n 0, 1, 0, 0, 0, 0, 0),
  (23, .getfield 27, 3, 8, 5, 0, 0, 385),
  (26, .iconst 1, 1, 0, 0, 0, 1, 0),
  (27, .iadd, 1, 0, 0, 0, 0, 0),
  (28, .imul, 1, 0, 0, 0, 0, 0),
  (29, .aload_n 0, 1, 0, 0, 0, 0, 0),
  (30, .getfield 9, 3, 8, 0, 1, 0, 376),
  (33, .iload_n 3, 1, 0, 0, 0, 0, 0),
  (34, .iaload, 1, 0, 0, 0, 0, 0),
  (35, .iadd, 1, 0, 0, 0, 0, 0),
  (36, .istore_n 2, 1, 0, 0, 0, 0, 0),
  (37, .iinc 3 1, 3, 0, 0, 0, 0, 0),
  (40, .goto (-36), 3, 4, 0, 0, 0, 0),
  (43, .iload_n 2, 1, 0, 0, 0, 0, 0),
  (44, .ireturn, 1, 1, 0, 0, 0, 0)]
def z_cc8 : List (List z_E) := [z_c800, z_c801, z_c802, z_c803, z_c804, z_c805]
def z_mm8 : List (MethodName × ByteArray × Nat × Option FieldType) := [(yX8_init, cX8_init, 1, none),
  (yX8_begin, cX8_begin, 6, (some .int)),
  (yX8_next, cX8_next, 4, none),
  (yX8_reckon, cX8_reckon, 5, none),
  (yX8_sumOf, cX8_sumOf, 2, (some .int)),
  (yX8_placeOf, cX8_placeOf, 4, (some .int))]
/-- TollsThatPay$Study.<init>(LTollsThatPay$Market;LTollsThatPay$Goers;)V -/
def z_c900 : List z_E := [(0, .aload_n 0, 1, 0, 0, 0, 0, 0),
  (1, .invokespecial 3, 3, 9998, 0, 0, 0, 432),
  (4, .aload_n 0, 1, 0, 0, 0, 0, 0),
  (5, .iconst 5, 1, 0, 0, 0, 5, 0),
  (6, .newarray .int, 2, 1, 0, 0, 0, 135),
  (8, .putfield 11, 3, 9, 3, 1, 0, 439),
  (11, .aload_n 0, 1, 0, 0, 0, 0, 0),
  (12, .iconst 5, 1, 0, 0, 0, 5, 0),
  (13, .newarray .int, 2, 1, 0, 0, 0, 135),
  (15, .putfield 17, 3, 9, 6, 1, 0, 443),
  (18, .aload_n 0, 1, 0, 0, 0, 0, 0),
  (19, .bipush 21, 2, 0, 0, 0, 21, 0),
  (21, .newarray .int, 2, 1, 0, 0, 0, 135),
  (23, .putfield 20, 3, 9, 7, 1, 0, 444),
  (26, .aload_n 0, 1, 0, 0, 0, 0, 0),
  (27, .bipush 48, 2, 0, 0, 0, 48, 0),
  (29, .newarray .int, 2, 1, 0, 0, 0, 135),
  (31, .putfield 25, 3, 9, 8, 1, 0, 445),
  (34, .aload_n 0, 1, 0, 0, 0, 0, 0),
  (35, .bipush 32, 2, 0, 0, 0, 32, 0),
  (37, .newarray .int, 2, 1, 0, 0, 0, 135),
  (39, .putfield 28, 3, 9, 9, 1, 0, 446),
  (42, .aload_n 0, 1, 0, 0, 0, 0, 0),
  (43, .bipush 10, 2, 0, 0, 0, 10, 0),
  (45, .newarray .int, 2, 1, 0, 0, 0, 135),
  (47, .putfield 31, 3, 9, 10, 1, 0, 447),
  (50, .aload_n 0, 1, 0, 0, 0, 0, 0),
  (51, .aload_n 1, 1, 0, 0, 0, 0, 0),
  (52, .putfield 34, 3, 9, 4, 1, 0, 441),
  (55, .aload_n 0, 1, 0, 0, 0, 0, 0),
  (56, .aload_n 2, 1, 0, 0, 0, 0, 0),
  (57, .putfield 38, 3, 9, 5, 1, 0, 442),
  (60, .return_, 1, 0, 0, 0, 0, 0)]
/-- TollsThatPay$Study.boundOf(I)I -/
def z_c901 : List z_E := [(0, .aload_n 0, 1, 0, 0, 0, 0, 0),
  (1, .getfield 34, 3, 9, 4, 1, 0, 441),
  (4, .getfield 42, 3, 4, 2, 1, 0, 410),
  (7, .iload_n 1, 1, 0, 0, 0, 0, 0),
  (8, .invokevirtual 48, 3, 613, 2, 1, 6, 962),
  (11, .istore_n 2, 1, 0, 0, 0, 0, 0),
  (12, .iconst 0, 1, 0, 0, 0, 0, 0),
  (13, .istore_n 3, 1, 0, 0, 0, 0, 0),
  (14, .iload_n 3, 1, 0, 0, 0, 0, 0),
  (15, .aload_n 0, 1, 0, 0, 0, 0, 0),
  (16, .getfield 25, 3, 9, 8, 1, 0, 445),
  (19, .arraylength, 1, 0, 0, 0, 0, 0),
  (20, .if_icmp .ge 16, 3, 36, 0, 0, 0, 0),
  (23, .aload_n 0, 1, 0, 0, 0, 0, 0),
  (24, .getfield 25, 3, 9, 8, 1, 0, 445),
  (27, .iload_n 3, 1, 0, 0, 0, 0, 0),
  (28, .iconst 0, 1, 0, 0, 0, 0, 0),
  (29, .iastore, 1, 0, 0, 0, 0, 0),
  (30, .iinc 3 1, 3, 0, 0, 0, 0, 0),
  (33, .goto (-19), 3, 14, 0, 0, 0, 0),
  (36, .aload_n 0, 1, 0, 0, 0, 0, 0),
  (37, .getfield 34, 3, 9, 4, 1, 0, 441),
  (40, .aload_n 0, 1, 0, 0, 0, 0, 0),
  (41, .getfield 34, 3, 9, 4, 1, 0, 441),
  (44, .getfield 42, 3, 4, 2, 1, 0, 410),
  (47, .getfield 52, 3, 6, 5, 1, 0, 180),
  (50, .iload_n 2, 1, 0, 0, 0, 0, 0),
  (51, .aload_n 0, 1, 0, 0, 0, 0, 0),
  (52, .getfield 34, 3, 9, 4, 1, 0, 441),
  (55, .getfield 42, 3, 4, 2, 1, 0, 410),
  (58, .getfield 55, 3, 6, 2, 0, 0, 172),
  (61, .invokevirtual 59, 3, 405, 4, 1, 4, 963),
  (64, .istore_n 3, 1, 0, 0, 0, 0, 0),
  (65, .iconst 0, 1, 0, 0, 0, 0, 0),
  (66, .istore 4, 2, 0, 0, 0, 0, 0),
  (68, .iload 4, 2, 0, 0, 0, 0, 0),
  (70, .iload_n 3, 1, 0, 0, 0, 0, 0),
  (71, .if_icmp .ge 88, 3, 159, 0, 0, 0, 0),
  (74, .iconst 0, 1, 0, 0, 0, 0, 0),
  (75, .istore 5, 2, 0, 0, 0, 0, 0),
  (77, .iload 5, 2, 0, 0, 0, 0, 0),
  (79, .aload_n 0, 1, 0, 0, 0, 0, 0),
  (80, .getfield 38, 3, 9, 5, 1, 0, 442),
  (83, .getfield 63, 3, 1, 0, 0, 0, 323),
  (86, .if_icmp .ge 57, 3, 143, 0, 0, 0, 0),
  (89, .iload 5, 2, 0, 0, 0, 0, 0),
  (91, .aload_n 0, 1, 0, 0, 0, 0, 0),
  (92, .getfield 25, 3, 9, 8, 1, 0, 445),
  (95, .arraylength, 1, 0, 0, 0, 0, 0),
  (96, .if_icmp .ge 47, 3, 143, 0, 0, 0, 0),
  (99, .aload_n 0, 1, 0, 0, 0, 0, 0),
  (100, .getfield 25, 3, 9, 8, 1, 0, 445),
  (103, .iload 5, 2, 0, 0, 0, 0, 0),
  (105, .aload_n 0, 1, 0, 0, 0, 0, 0),
  (106, .getfield 25, 3, 9, 8, 1, 0, 445),
  (109, .iload 5, 2, 0, 0, 0, 0, 0),
  (111, .iaload, 1, 0, 0, 0, 0, 0),
  (112, .aload_n 0, 1, 0, 0, 0, 0, 0),
  (113, .getfield 34, 3, 9, 4, 1, 0, 441),
  (116, .getfield 66, 3, 4, 0, 1, 0, 403),
  (119, .aload_n 0, 1, 0, 0, 0, 0, 0),
  (120, .getfield 34, 3, 9, 4, 1, 0, 441),
  (123, .iload 5, 2, 0, 0, 0, 0, 0),
  (125, .invokevirtual 70, 3, 406, 2, 1, 4, 964),
  (128, .iload_n 2, 1, 0, 0, 0, 0, 0),
  (129, .iand, 1, 0, 0, 0, 0, 0),
  (130, .invokevirtual 73, 3, 804, 2, 1, 8, 965),
  (133, .invokestatic 78, 3, 9995, 0, 0, 0, 966),
  (136, .iastore, 1, 0, 0, 0, 0, 0),
  (137, .iinc 5 1, 3, 0, 0, 0, 0, 0),
  (140, .goto (-63), 3, 77, 0, 0, 0, 0),
  (143, .aload_n 0, 1, 0, 0, 0, 0, 0),
  (144, .getfield 34, 3, 9, 4, 1, 0, 441),
  (147, .getfield 66, 3, 4, 0, 1, 0, 403),
  (150, .invokevirtual 84, 3, 802, 1, 0, 8, 969),
  (153, .iinc 4 1, 3, 0, 0, 0, 0, 0),
  (156, .goto (-88), 3, 68, 0, 0, 0, 0),
  (159, .iconst 0, 1, 0, 0, 0, 0, 0),
  (160, .istore 4, 2, 0, 0, 0, 0, 0),
  (162, .iconst 0, 1, 0, 0, 0, 0, 0),
  (163, .istore 5, 2, 0, 0, 0, 0, 0),
  (165, .iload 5, 2, 0, 0, 0, 0, 0),
  (167, .aload_n 0, 1, 0, 0, 0, 0, 0),
  (168, .getfield 38, 3, 9, 5, 1, 0, 442),
  (171, .getfield 63, 3, 1, 0, 0, 0, 323),
  (174, .if_icmp .ge 41, 3, 215, 0, 0, 0, 0),
  (177, .iload 5, 2, 0, 0, 0, 0, 0),
  (179, .aload_n 0, 1, 0, 0, 0, 0, 0),
  (180, .getfield 25, 3, 9, 8, 1, 0, 445),
  (183, .arraylength, 1, 0, 0, 0, 0, 0),
  (184, .if_icmp .ge 31, 3, 215, 0, 0, 0, 0),
  (187, .iload 4, 2, 0, 0, 0, 0, 0),
  (189, .aload_n 0, 1, 0, 0, 0, 0, 0),
  (190, .getfield 38, 3, 9, 5, 1, 0, 442),
  (193, .iload 5, 2, 0, 0, 0, 0, 0),
  (195, .invokevirtual 87, 3, 112, 2, 1, 1, 970),
  (198, .aload_n 0, 1, 0, 0, 0, 0, 0),
  (199, .getfield 25, 3, 9, 8, 1, 0, 445),
  (202, .iload 5, 2, 0, 0, 0, 0, 0),
  (204, .iaload, 1, 0, 0, 0, 0, 0),
  (205, .imul, 1, 0, 0, 0, 0, 0),
  (206, .iadd, 1, 0, 0, 0, 0, 0),
  (207, .istore 4, 2, 0, 0, 0, 0, 0),
  (209, .iinc 5 1, 3, 0, 0, 0, 0, 0),
  (212, .goto (-47), 3, 165, 0, 0, 0, 0),
  (215, .iload 4, 2, 0, 0, 0, 0, 0),
  (217, .ireturn, 1, 1, 0, 0, 0, 0)]
/-- TollsThatPay$Study.givenOf(I)I -/
def z_c902 : List z_E := [(0, .aload_n 0, 1, 0, 0, 0, 0, 0),
  (1, .getfield 34, 3, 9, 4, 1, 0, 441),
  (4, .getfield 42, 3, 4, 2, 1, 0, 410),
  (7, .iload_n 1, 1, 0, 0, 0, 0, 0),
  (8, .invokevirtual 48, 3, 613, 2, 1, 6, 962),
  (11, .istore_n 2, 1, 0, 0, 0, 0, 0),
  (12, .iconst 0, 1, 0, 0, 0, 0, 0),
  (13, .istore_n 3, 1, 0, 0, 0, 0, 0),
  (14, .iload_n 3, 1, 0, 0, 0, 0, 0),
  (15, .aload_n 0, 1, 0, 0, 0, 0, 0),
  (16, .getfield 38, 3, 9, 5, 1, 0, 442),
  (19, .getfield 63, 3, 1, 0, 0, 0, 323),
  (22, .if_icmp .ge 32, 3, 54, 0, 0, 0, 0),
  (25, .iload_n 3, 1, 0, 0, 0, 0, 0),
  (26, .aload_n 0, 1, 0, 0, 0, 0, 0),
  (27, .getfield 25, 3, 9, 8, 1, 0, 445),
  (30, .arraylength, 1, 0, 0, 0, 0, 0),
  (31, .if_icmp .ge 23, 3, 54, 0, 0, 0, 0),
  (34, .aload_n 0, 1, 0, 0, 0, 0, 0),
  (35, .getfield 25, 3, 9, 8, 1, 0, 445),
  (38, .iload_n 3, 1, 0, 0, 0, 0, 0),
  (39, .aload_n 0, 1, 0, 0, 0, 0, 0),
  (40, .getfield 34, 3, 9, 4, 1, 0, 441),
  (43, .iload_n 3, 1, 0, 0, 0, 0, 0),
  (44, .invokevirtual 70, 3, 406, 2, 1, 4, 964),
  (47, .iastore, 1, 0, 0, 0, 0, 0),
  (48, .iinc 3 1, 3, 0, 0, 0, 0, 0),
  (51, .goto (-37), 3, 14, 0, 0, 0, 0),
  (54, .iconst (-1), 1, 0, 0, 0, (-1), 0),
  (55, .istore_n 3, 1, 0, 0, 0, 0, 0),
  (56, .aload_n 0, 1, 0, 0, 0, 0, 0),
  (57, .getfield 34, 3, 9, 4, 1, 0, 441),
  (60, .aload_n 0, 1, 0, 0, 0, 0, 0),
  (61, .getfield 34, 3, 9, 4, 1, 0, 441),
  (64, .getfield 42, 3, 4, 2, 1, 0, 410),
  (67, .getfield 52, 3, 6, 5, 1, 0, 180),
  (70, .iload_n 2, 1, 0, 0, 0, 0, 0),
  (71, .aload_n 0, 1, 0, 0, 0, 0, 0),
  (72, .getfield 34, 3, 9, 4, 1, 0, 441),
  (75, .getfield 42, 3, 4, 2, 1, 0, 410),
  (78, .getfield 55, 3, 6, 2, 0, 0, 172),
  (81, .invokevirtual 59, 3, 405, 4, 1, 4, 963),
  (84, .istore 4, 2, 0, 0, 0, 0, 0),
  (86, .iconst 0, 1, 0, 0, 0, 0, 0),
  (87, .istore 5, 2, 0, 0, 0, 0, 0),
  (89, .iload 5, 2, 0, 0, 0, 0, 0),
  (91, .iload 4, 2, 0, 0, 0, 0, 0),
  (93, .if_icmp .ge 42, 3, 135, 0, 0, 0, 0),
  (96, .aload_n 0, 1, 0, 0, 0, 0, 0),
  (97, .iload_n 2, 1, 0, 0, 0, 0, 0),
  (98, .invokevirtual 90, 3, 903, 2, 1, 9, 979),
  (101, .istore 6, 2, 0, 0, 0, 0, 0),
  (103, .iload 6, 2, 0, 0, 0, 0, 0),
  (105, .iload_n 3, 1, 0, 0, 0, 0, 0),
  (106, .if_icmp .le 13, 3, 119, 0, 0, 0, 0),
  (109, .iload 6, 2, 0, 0, 0, 0, 0),
  (111, .istore_n 3, 1, 0, 0, 0, 0, 0),
  (112, .aload_n 0, 1, 0, 0, 0, 0, 0),
  (113, .getfield 34, 3, 9, 4, 1, 0, 441),
  (116, .invokevirtual 93, 3, 413, 1, 0, 4, 983),
  (119, .aload_n 0, 1, 0, 0, 0, 0, 0),
  (120, .getfield 34, 3, 9, 4, 1, 0, 441),
  (123, .getfield 66, 3, 4, 0, 1, 0, 403),
  (126, .invokevirtual 84, 3, 802, 1, 0, 8, 969),
  (129, .iinc 5 1, 3, 0, 0, 0, 0, 0),
  (132, .goto (-43), 3, 89, 0, 0, 0, 0),
  (135, .iload_n 3, 1, 0, 0, 0, 0, 0),
  (136, .ireturn, 1, 1, 0, 0, 0, 0)]
/-- TollsThatPay$Study.takeIfAsNow(I)I -/
def z_c903 : List z_E := [(0, .iconst 0, 1, 0, 0, 0, 0, 0),
  (1, .istore_n 2, 1, 0, 0, 0, 0, 0),
  (2, .iconst 0, 1, 0, 0, 0, 0, 0),
  (3, .istore_n 3, 1, 0, 0, 0, 0, 0),
  (4, .iload_n 3, 1, 0, 0, 0, 0, 0),
  (5, .aload_n 0, 1, 0, 0, 0, 0, 0),
  (6, .getfield 38, 3, 9, 5, 1, 0, 442),
  (9, .getfield 63, 3, 1, 0, 0, 0, 323),
  (12, .if_icmp .ge 67, 3, 79, 0, 0, 0, 0),
  (15, .iload_n 3, 1, 0, 0, 0, 0, 0),
  (16, .aload_n 0, 1, 0, 0, 0, 0, 0),
  (17, .getfield 25, 3, 9, 8, 1, 0, 445),
  (20, .arraylength, 1, 0, 0, 0, 0, 0),
  (21, .if_icmp .ge 58, 3, 79, 0, 0, 0, 0),
  (24, .aload_n 0, 1, 0, 0, 0, 0, 0),
  (25, .getfield 34, 3, 9, 4, 1, 0, 441),
  (28, .iload_n 3, 1, 0, 0, 0, 0, 0),
  (29, .invokevirtual 70, 3, 406, 2, 1, 4, 964),
  (32, .aload_n 0, 1, 0, 0, 0, 0, 0),
  (33, .getfield 25, 3, 9, 8, 1, 0, 445),
  (36, .iload_n 3, 1, 0, 0, 0, 0, 0),
  (37, .iaload, 1, 0, 0, 0, 0, 0),
  (38, .if_icmp .eq 5, 3, 43, 0, 0, 0, 0),
  (41, .iconst (-1), 1, 0, 0, 0, (-1), 0),
  (42, .ireturn, 1, 1, 0, 0, 0, 0),
  (43, .iload_n 2, 1, 0, 0, 0, 0, 0),
  (44, .aload_n 0, 1, 0, 0, 0, 0, 0),
  (45, .getfield 38, 3, 9, 5, 1, 0, 442),
  (48, .iload_n 3, 1, 0, 0, 0, 0, 0),
  (49, .invokevirtual 87, 3, 112, 2, 1, 1, 970),
  (52, .aload_n 0, 1, 0, 0, 0, 0, 0),
  (53, .getfield 34, 3, 9, 4, 1, 0, 441),
  (56, .getfield 66, 3, 4, 0, 1, 0, 403),
  (59, .aload_n 0, 1, 0, 0, 0, 0, 0),
  (60, .getfield 25, 3, 9, 8, 1, 0, 445),
  (63, .iload_n 3, 1, 0, 0, 0, 0, 0),
  (64, .iaload, 1, 0, 0, 0, 0, 0),
  (65, .iload_n 1, 1, 0, 0, 0, 0, 0),
  (66, .iand, 1, 0, 0, 0, 0, 0),
  (67, .invokevirtual 73, 3, 804, 2, 1, 8, 965),
  (70, .imul, 1, 0, 0, 0, 0, 0),
  (71, .iadd, 1, 0, 0, 0, 0, 0),
  (72, .istore_n 2, 1, 0, 0, 0, 0, 0),
  (73, .iinc 3 1, 3, 0, 0, 0, 0, 0),
  (76, .goto (-72), 3, 4, 0, 0, 0, 0),
  (79, .iload_n 2, 1, 0, 0, 0, 0, 0),
  (80, .ireturn, 1, 1, 0, 0, 0, 0)]
/-- TollsThatPay$Study.aboveOf(II)I -/
def z_c904 : List z_E := [(0, .aload_n 0, 1, 0, 0, 0, 0, 0),
  (1, .getfield 34, 3, 9, 4, 1, 0, 441),
  (4, .getfield 42, 3, 4, 2, 1, 0, 410),
  (7, .iload_n 1, 1, 0, 0, 0, 0, 0),
  (8, .invokevirtual 48, 3, 613, 2, 1, 6, 962),
  (11, .istore_n 3, 1, 0, 0, 0, 0, 0),
  (12, .iconst 0, 1, 0, 0, 0, 0, 0),
  (13, .istore 4, 2, 0, 0, 0, 0, 0),
  (15, .aload_n 0, 1, 0, 0, 0, 0, 0),
  (16, .getfield 34, 3, 9, 4, 1, 0, 441),
  (19, .aload_n 0, 1, 0, 0, 0, 0, 0),
  (20, .getfield 34, 3, 9, 4, 1, 0, 441),
  (23, .getfield 42, 3, 4, 2, 1, 0, 410),
  (26, .getfield 52, 3, 6, 5, 1, 0, 180),
  (29, .iload_n 3, 1, 0, 0, 0, 0, 0),
  (30, .aload_n 0, 1, 0, 0, 0, 0, 0),
  (31, .getfield 34, 3, 9, 4, 1, 0, 441),
  (34, .getfield 42, 3, 4, 2, 1, 0, 410),
  (37, .getfield 55, 3, 6, 2, 0, 0, 172),
  (40, .invokevirtual 59, 3, 405, 4, 1, 4, 963),
  (43, .istore 5, 2, 0, 0, 0, 0, 0),
  (45, .iconst 0, 1, 0, 0, 0, 0, 0),
  (46, .istore 6, 2, 0, 0, 0, 0, 0),
  (48, .iload 6, 2, 0, 0, 0, 0, 0),
  (50, .iload 5, 2, 0, 0, 0, 0, 0),
  (52, .if_icmp .ge 41, 3, 93, 0, 0, 0, 0),
  (55, .iload 4, 2, 0, 0, 0, 0, 0),
  (57, .aload_n 0, 1, 0, 0, 0, 0, 0),
  (58, .getfield 34, 3, 9, 4, 1, 0, 441),
  (61, .iload_n 3, 1, 0, 0, 0, 0, 0),
  (62, .invokevirtual 96, 3, 409, 2, 1, 4, 992),
  (65, .iload_n 2, 1, 0, 0, 0, 0, 0),
  (66, .if_icmp .lt 7, 3, 73, 0, 0, 0, 0),
  (69, .iconst 1, 1, 0, 0, 0, 1, 0),
  (70, .goto 4, 3, 74, 0, 0, 0, 0),
  (73, .iconst 0, 1, 0, 0, 0, 0, 0),
  (74, .iadd, 1, 0, 0, 0, 0, 0),
  (75, .istore 4, 2, 0, 0, 0, 0, 0),
  (77, .aload_n 0, 1, 0, 0, 0, 0, 0),
  (78, .getfield 34, 3, 9, 4, 1, 0, 441),
  (81, .getfield 66, 3, 4, 0, 1, 0, 403),
  (84, .invokevirtual 84, 3, 802, 1, 0, 8, 969),
  (87, .iinc 6 1, 3, 0, 0, 0, 0, 0),
  (90, .goto (-42), 3, 48, 0, 0, 0, 0),
  (93, .iload 4, 2, 0, 0, 0, 0, 0),
  (95, .ireturn, 1, 1, 0, 0, 0, 0)]
/-- TollsThatPay$Study.reckonLine(I)I -/
def z_c905 : List z_E := [(0, .aload_n 0, 1, 0, 0, 0, 0, 0),
  (1, .aload_n 0, 1, 0, 0, 0, 0, 0),
  (2, .getfield 34, 3, 9, 4, 1, 0, 441),
  (5, .getfield 42, 3, 4, 2, 1, 0, 410),
  (8, .getfield 52, 3, 6, 5, 1, 0, 180),
  (11, .iload_n 1, 1, 0, 0, 0, 0, 0),
  (12, .aload_n 0, 1, 0, 0, 0, 0, 0),
  (13, .iload_n 1, 1, 0, 0, 0, 0, 0),
  (14, .invokevirtual 99, 3, 906, 2, 1, 9, 1001),
  (17, .invokevirtual 102, 3, 907, 4, 1, 9, 1005),
  (20, .ireturn, 1, 1, 0, 0, 0, 0)]
/-- TollsThatPay$Study.ownerSide(I)I -/
def z_c906 : List z_E := [(0, .aload_n 0, 1, 0, 0, 0, 0, 0),
  (1, .getfield 34, 3, 9, 4, 1, 0, 441),
  (4, .getfield 42, 3, 4, 2, 1, 0, 410),
  (7, .iconst 0, 1, 0, 0, 0, 0, 0),
  (8, .invokevirtual 48, 3, 613, 2, 1, 6, 962),
  (11, .istore_n 2, 1, 0, 0, 0, 0, 0),
  (12, .iload_n 2, 1, 0, 0, 0, 0, 0),
  (13, .iload_n 1, 1, 0, 0, 0, 0, 0),
  (14, .ishr, 1, 0, 0, 0, 0, 0),
  (15, .iconst 1, 1, 0, 0, 0, 1, 0),
  (16, .iand, 1, 0, 0, 0, 0, 0),
  (17, .ifCond .eq 7, 3, 24, 0, 0, 0, 0),
  (20, .iload_n 2, 1, 0, 0, 0, 0, 0),
  (21, .goto 14, 3, 35, 0, 0, 0, 0),
  (24, .aload_n 0, 1, 0, 0, 0, 0, 0),
  (25, .getfield 34, 3, 9, 4, 1, 0, 441),
  (28, .getfield 42, 3, 4, 2, 1, 0, 410),
  (31, .iconst 1, 1, 0, 0, 0, 1, 0),
  (32, .invokevirtual 48, 3, 613, 2, 1, 6, 962),
  (35, .ireturn, 1, 1, 0, 0, 0, 0)]
/-- TollsThatPay$Study.lineFrom([III)I -/
def z_c907 : List z_E := [(0, .iconst (-1), 1, 0, 0, 0, (-1), 0),
  (1, .istore 4, 2, 0, 0, 0, 0, 0),
  (3, .aload_n 0, 1, 0, 0, 0, 0, 0),
  (4, .getfield 34, 3, 9, 4, 1, 0, 441),
  (7, .aload_n 1, 1, 0, 0, 0, 0, 0),
  (8, .iconst 1, 1, 0, 0, 0, 1, 0),
  (9, .iload_n 2, 1, 0, 0, 0, 0, 0),
  (10, .ishl, 1, 0, 0, 0, 0, 0),
  (11, .aload_n 0, 1, 0, 0, 0, 0, 0),
  (12, .getfield 34, 3, 9, 4, 1, 0, 441),
  (15, .getfield 42, 3, 4, 2, 1, 0, 410),
  (18, .getfield 55, 3, 6, 2, 0, 0, 172),
  (21, .invokevirtual 59, 3, 405, 4, 1, 4, 963),
  (24, .istore 5, 2, 0, 0, 0, 0, 0),
  (26, .iconst 0, 1, 0, 0, 0, 0, 0),
  (27, .istore 6, 2, 0, 0, 0, 0, 0),
  (29, .iload 6, 2, 0, 0, 0, 0, 0),
  (31, .iload 5, 2, 0, 0, 0, 0, 0),
  (33, .if_icmp .ge 58, 3, 91, 0, 0, 0, 0),
  (36, .iload 6, 2, 0, 0, 0, 0, 0),
  (38, .aload_n 0, 1, 0, 0, 0, 0, 0),
  (39, .getfield 20, 3, 9, 7, 1, 0, 444),
  (42, .arraylength, 1, 0, 0, 0, 0, 0),
  (43, .if_icmp .ge 48, 3, 91, 0, 0, 0, 0),
  (46, .aload_n 0, 1, 0, 0, 0, 0, 0),
  (47, .getfield 20, 3, 9, 7, 1, 0, 444),
  (50, .iload 6, 2, 0, 0, 0, 0, 0),
  (52, .aload_n 0, 1, 0, 0, 0, 0, 0),
  (53, .getfield 34, 3, 9, 4, 1, 0, 441),
  (56, .iload_n 3, 1, 0, 0, 0, 0, 0),
  (57, .invokevirtual 96, 3, 409, 2, 1, 4, 992),
  (60, .iastore, 1, 0, 0, 0, 0, 0),
  (61, .iload 4, 2, 0, 0, 0, 0, 0),
  (63, .aload_n 0, 1, 0, 0, 0, 0, 0),
  (64, .getfield 20, 3, 9, 7, 1, 0, 444),
  (67, .iload 6, 2, 0, 0, 0, 0, 0),
  (69, .iaload, 1, 0, 0, 0, 0, 0),
  (70, .invokestatic 78, 3, 9995, 0, 0, 0, 966),
  (73, .istore 4, 2, 0, 0, 0, 0, 0),
  (75, .aload_n 0, 1, 0, 0, 0, 0, 0),
  (76, .getfield 34, 3, 9, 4, 1, 0, 441),
  (79, .getfield 66, 3, 4, 0, 1, 0, 403),
  (82, .invokevirtual 84, 3, 802, 1, 0, 8, 969),
  (85, .iinc 6 1, 3, 0, 0, 0, 0, 0),
  (88, .goto (-59), 3, 29, 0, 0, 0, 0),
  (91, .iload 4, 2, 0, 0, 0, 0, 0),
  (93, .ireturn, 1, 1, 0, 0, 0, 0)]
/-- TollsThatPay$Study.lineAt(I)I -/
def z_c908 : List z_E := [(0, .iload_n 1, 1, 0, 0, 0, 0, 0),
  (1, .ifCond .lt 21, 3, 22, 0, 0, 0, 0),
  (4, .iload_n 1, 1, 0, 0, 0, 0, 0),
  (5, .aload_n 0, 1, 0, 0, 0, 0, 0),
  (6, .getfield 20, 3, 9, 7, 1, 0, 444),
  (9, .arraylength, 1, 0, 0, 0, 0, 0),
  (10, .if_icmp .ge 12, 3, 22, 0, 0, 0, 0),
  (13, .aload_n 0, 1, 0, 0, 0, 0, 0),
  (14, .getfield 20, 3, 9, 7, 1, 0, 444),
  (17, .iload_n 1, 1, 0, 0, 0, 0, 0),
  (18, .iaload, 1, 0, 0, 0, 0, 0),
  (19, .goto 4, 3, 23, 0, 0, 0, 0),
  (22, .iconst 0, 1, 0, 0, 0, 0, 0),
  (23, .ireturn, 1, 1, 0, 0, 0, 0)]
/-- TollsThatPay$Study.climbOf(I)I -/
def z_c909 : List z_E := [(0, .aload_n 0, 1, 0, 0, 0, 0, 0),
  (1, .getfield 34, 3, 9, 4, 1, 0, 441),
  (4, .getfield 42, 3, 4, 2, 1, 0, 410),
  (7, .getfield 52, 3, 6, 5, 1, 0, 180),
  (10, .iconst 0, 1, 0, 0, 0, 0, 0),
  (11, .aload_n 0, 1, 0, 0, 0, 0, 0),
  (12, .getfield 11, 3, 9, 3, 1, 0, 439),
  (15, .iconst 0, 1, 0, 0, 0, 0, 0),
  (16, .aload_n 0, 1, 0, 0, 0, 0, 0),
  (17, .getfield 11, 3, 9, 3, 1, 0, 439),
  (20, .arraylength, 1, 0, 0, 0, 0, 0),
  (21, .invokestatic 105, 3, 9999, 0, 0, 0, 1025),
  (24, .aload_n 0, 1, 0, 0, 0, 0, 0),
  (25, .getfield 34, 3, 9, 4, 1, 0, 441),
  (28, .getfield 42, 3, 4, 2, 1, 0, 410),
  (31, .iload_n 1, 1, 0, 0, 0, 0, 0),
  (32, .invokevirtual 48, 3, 613, 2, 1, 6, 962),
  (35, .istore_n 2, 1, 0, 0, 0, 0, 0),
  (36, .iconst 0, 1, 0, 0, 0, 0, 0),
  (37, .istore_n 3, 1, 0, 0, 0, 0, 0),
  (38, .iconst 1, 1, 0, 0, 0, 1, 0),
  (39, .istore 4, 2, 0, 0, 0, 0, 0),
  (41, .iconst 0, 1, 0, 0, 0, 0, 0),
  (42, .istore 5, 2, 0, 0, 0, 0, 0),
  (44, .iload 5, 2, 0, 0, 0, 0, 0),
  (46, .ldc 111, 2, 0, 0, 0, 1000000, 1026),
  (48, .if_icmp .ge 76, 3, 124, 0, 0, 0, 0),
  (51, .iload 4, 2, 0, 0, 0, 0, 0),
  (53, .ifCond .eq 71, 3, 124, 0, 0, 0, 0),
  (56, .iload_n 3, 1, 0, 0, 0, 0, 0),
  (57, .istore 6, 2, 0, 0, 0, 0, 0),
  (59, .iconst 0, 1, 0, 0, 0, 0, 0),
  (60, .istore 7, 2, 0, 0, 0, 0, 0),
  (62, .iload 7, 2, 0, 0, 0, 0, 0),
  (64, .aload_n 0, 1, 0, 0, 0, 0, 0),
  (65, .getfield 11, 3, 9, 3, 1, 0, 439),
  (68, .arraylength, 1, 0, 0, 0, 0, 0),
  (69, .if_icmp .ge 36, 3, 105, 0, 0, 0, 0),
  (72, .iload_n 3, 1, 0, 0, 0, 0, 0),
  (73, .iload_n 2, 1, 0, 0, 0, 0, 0),
  (74, .iload 7, 2, 0, 0, 0, 0, 0),
  (76, .ishr, 1, 0, 0, 0, 0, 0),
  (77, .iconst 1, 1, 0, 0, 0, 1, 0),
  (78, .iand, 1, 0, 0, 0, 0, 0),
  (79, .ifCond .eq 17, 3, 96, 0, 0, 0, 0),
  (82, .aload_n 0, 1, 0, 0, 0, 0, 0),
  (83, .iload 7, 2, 0, 0, 0, 0, 0),
  (85, .iload_n 2, 1, 0, 0, 0, 0, 0),
  (86, .invokevirtual 112, 3, 910, 3, 1, 9, 1027),
  (89, .ifCond .eq 7, 3, 96, 0, 0, 0, 0),
  (92, .iconst 1, 1, 0, 0, 0, 1, 0),
  (93, .goto 4, 3, 97, 0, 0, 0, 0),
  (96, .iconst 0, 1, 0, 0, 0, 0, 0),
  (97, .iadd, 1, 0, 0, 0, 0, 0),
  (98, .istore_n 3, 1, 0, 0, 0, 0, 0),
  (99, .iinc 7 1, 3, 0, 0, 0, 0, 0),
  (102, .goto (-40), 3, 62, 0, 0, 0, 0),
  (105, .iload_n 3, 1, 0, 0, 0, 0, 0),
  (106, .iload 6, 2, 0, 0, 0, 0, 0),
  (108, .if_icmp .eq 7, 3, 115, 0, 0, 0, 0),
  (111, .iconst 1, 1, 0, 0, 0, 1, 0),
  (112, .goto 4, 3, 116, 0, 0, 0, 0),
  (115, .iconst 0, 1, 0, 0, 0, 0, 0),
  (116, .istore 4, 2, 0, 0, 0, 0, 0),
  (118, .iinc 5 1, 3, 0, 0, 0, 0, 0),
  (121, .goto (-77), 3, 44, 0, 0, 0, 0),
  (124, .aload_n 0, 1, 0, 0, 0, 0, 0),
  (125, .getfield 34, 3, 9, 4, 1, 0, 441),
  (128, .aload_n 0, 1, 0, 0, 0, 0, 0),
  (129, .getfield 11, 3, 9, 3, 1, 0, 439),
  (132, .invokevirtual 116, 3, 404, 2, 0, 4, 1032),
  (135, .aload_n 0, 1, 0, 0, 0, 0, 0),
  (136, .aload_n 0, 1, 0, 0, 0, 0, 0),
  (137, .getfield 34, 3, 9, 4, 1, 0, 441),
  (140, .iload_n 2, 1, 0, 0, 0, 0, 0),
  (141, .invokevirtual 96, 3, 409, 2, 1, 4, 992),
  (144, .putfield 120, 3, 9, 2, 0, 0, 437),
  (147, .iload_n 3, 1, 0, 0, 0, 0, 0),
  (148, .ireturn, 1, 1, 0, 0, 0, 0)]
/-- TollsThatPay$Study.lift(II)Z -/
def z_c910 : List z_E := [(0, .aload_n 0, 1, 0, 0, 0, 0, 0),
  (1, .aload_n 0, 1, 0, 0, 0, 0, 0),
  (2, .getfield 11, 3, 9, 3, 1, 0, 439),
  (5, .iload_n 1, 1, 0, 0, 0, 0, 0),
  (6, .iload_n 2, 1, 0, 0, 0, 0, 0),
  (7, .invokevirtual 102, 3, 907, 4, 1, 9, 1005),
  (10, .istore_n 3, 1, 0, 0, 0, 0, 0),
  (11, .iload_n 1, 1, 0, 0, 0, 0, 0),
  (12, .ifCond .lt 26, 3, 38, 0, 0, 0, 0),
  (15, .iload_n 1, 1, 0, 0, 0, 0, 0),
  (16, .aload_n 0, 1, 0, 0, 0, 0, 0),
  (17, .getfield 11, 3, 9, 3, 1, 0, 439),
  (20, .arraylength, 1, 0, 0, 0, 0, 0),
  (21, .if_icmp .ge 17, 3, 38, 0, 0, 0, 0),
  (24, .aload_n 0, 1, 0, 0, 0, 0, 0),
  (25, .aload_n 0, 1, 0, 0, 0, 0, 0),
  (26, .getfield 11, 3, 9, 3, 1, 0, 439),
  (29, .iload_n 1, 1, 0, 0, 0, 0, 0),
  (30, .iaload, 1, 0, 0, 0, 0, 0),
  (31, .invokevirtual 123, 3, 908, 2, 1, 9, 1031),
  (34, .iload_n 3, 1, 0, 0, 0, 0, 0),
  (35, .if_icmp .ne 5, 3, 40, 0, 0, 0, 0),
  (38, .iconst 0, 1, 0, 0, 0, 0, 0),
  (39, .ireturn, 1, 2, 0, 0, 0, 0),
  (40, .iconst 0, 1, 0, 0, 0, 0, 0),
  (41, .istore 4, 2, 0, 0, 0, 0, 0),
  (43, .iconst 0, 1, 0, 0, 0, 0, 0),
  (44, .istore 5, 2, 0, 0, 0, 0, 0),
  (46, .iload 5, 2, 0, 0, 0, 0, 0),
  (48, .aload_n 0, 1, 0, 0, 0, 0, 0),
  (49, .getfield 34, 3, 9, 4, 1, 0, 441),
  (52, .getfield 42, 3, 4, 2, 1, 0, 410),
  (55, .getfield 55, 3, 6, 2, 0, 0, 172),
  (58, .if_icmp .gt 35, 3, 93, 0, 0, 0, 0),
  (61, .iload 4, 2, 0, 0, 0, 0, 0),
  (63, .ifCond .ne 30, 3, 93, 0, 0, 0, 0),
  (66, .aload_n 0, 1, 0, 0, 0, 0, 0),
  (67, .iload 5, 2, 0, 0, 0, 0, 0),
  (69, .invokevirtual 123, 3, 908, 2, 1, 9, 1031),
  (72, .iload_n 3, 1, 0, 0, 0, 0, 0),
  (73, .if_icmp .ne 14, 3, 87, 0, 0, 0, 0),
  (76, .aload_n 0, 1, 0, 0, 0, 0, 0),
  (77, .getfield 11, 3, 9, 3, 1, 0, 439),
  (80, .iload_n 1, 1, 0, 0, 0, 0, 0),
  (81, .iload 5, 2, 0, 0, 0, 0, 0),
  (83, .iastore, 1, 0, 0, 0, 0, 0),
  (84, .iconst 1, 1, 0, 0, 0, 1, 0),
  (85, .istore 4, 2, 0, 0, 0, 0, 0),
  (87, .iinc 5 1, 3, 0, 0, 0, 0, 0),
  (90, .goto (-44), 3, 46, 0, 0, 0, 0),
  (93, .iload 4, 2, 0, 0, 0, 0, 0),
  (95, .ireturn, 1, 2, 0, 0, 0, 0)]
/-- TollsThatPay$Study.huntWithFree(II)I -/
def z_c911 : List z_E := [(0, .iconst 0, 1, 0, 0, 0, 0, 0),
  (1, .istore_n 3, 1, 0, 0, 0, 0, 0),
  (2, .iload_n 3, 1, 0, 0, 0, 0, 0),
  (3, .aload_n 0, 1, 0, 0, 0, 0, 0),
  (4, .getfield 17, 3, 9, 6, 1, 0, 443),
  (7, .arraylength, 1, 0, 0, 0, 0, 0),
  (8, .if_icmp .ge 39, 3, 47, 0, 0, 0, 0),
  (11, .aload_n 0, 1, 0, 0, 0, 0, 0),
  (12, .getfield 17, 3, 9, 6, 1, 0, 443),
  (15, .iload_n 3, 1, 0, 0, 0, 0, 0),
  (16, .iload_n 2, 1, 0, 0, 0, 0, 0),
  (17, .iload_n 3, 1, 0, 0, 0, 0, 0),
  (18, .ishr, 1, 0, 0, 0, 0, 0),
  (19, .iconst 1, 1, 0, 0, 0, 1, 0),
  (20, .iand, 1, 0, 0, 0, 0, 0),
  (21, .ifCond .eq 7, 3, 28, 0, 0, 0, 0),
  (24, .iconst 0, 1, 0, 0, 0, 0, 0),
  (25, .goto 15, 3, 40, 0, 0, 0, 0),
  (28, .aload_n 0, 1, 0, 0, 0, 0, 0),
  (29, .getfield 34, 3, 9, 4, 1, 0, 441),
  (32, .getfield 42, 3, 4, 2, 1, 0, 410),
  (35, .getfield 52, 3, 6, 5, 1, 0, 180),
  (38, .iload_n 3, 1, 0, 0, 0, 0, 0),
  (39, .iaload, 1, 0, 0, 0, 0, 0),
  (40, .iastore, 1, 0, 0, 0, 0, 0),
  (41, .iinc 3 1, 3, 0, 0, 0, 0, 0),
  (44, .goto (-42), 3, 2, 0, 0, 0, 0),
  (47, .aload_n 0, 1, 0, 0, 0, 0, 0),
  (48, .getfield 34, 3, 9, 4, 1, 0, 441),
  (51, .aload_n 0, 1, 0, 0, 0, 0, 0),
  (52, .getfield 17, 3, 9, 6, 1, 0, 443),
  (55, .iload_n 1, 1, 0, 0, 0, 0, 0),
  (56, .iload_n 1, 1, 0, 0, 0, 0, 0),
  (57, .iload_n 2, 1, 0, 0, 0, 0, 0),
  (58, .iconst (-1), 1, 0, 0, 0, (-1), 0),
  (59, .ixor, 1, 0, 0, 0, 0, 0),
  (60, .iand, 1, 0, 0, 0, 0, 0),
  (61, .aload_n 0, 1, 0, 0, 0, 0, 0),
  (62, .getfield 34, 3, 9, 4, 1, 0, 441),
  (65, .getfield 42, 3, 4, 2, 1, 0, 410),
  (68, .getfield 55, 3, 6, 2, 0, 0, 172),
  (71, .invokevirtual 126, 3, 412, 5, 1, 4, 1120),
  (74, .ireturn, 1, 1, 0, 0, 0, 0)]
/-- TollsThatPay$Study.bestWithFree(II)I -/
def z_c912 : List z_E := [(0, .aload_n 0, 1, 0, 0, 0, 0, 0),
  (1, .aload_n 0, 1, 0, 0, 0, 0, 0),
  (2, .getfield 34, 3, 9, 4, 1, 0, 441),
  (5, .getfield 42, 3, 4, 2, 1, 0, 410),
  (8, .iload_n 1, 1, 0, 0, 0, 0, 0),
  (9, .invokevirtual 48, 3, 613, 2, 1, 6, 962),
  (12, .iload_n 2, 1, 0, 0, 0, 0, 0),
  (13, .invokevirtual 130, 3, 911, 3, 1, 9, 1116),
  (16, .ireturn, 1, 1, 0, 0, 0, 0)]
/-- TollsThatPay$Study.spareOf(II)I -/
def z_c913 : List z_E := [(0, .aload_n 0, 1, 0, 0, 0, 0, 0),
  (1, .getfield 34, 3, 9, 4, 1, 0, 441),
  (4, .getfield 42, 3, 4, 2, 1, 0, 410),
  (7, .iload_n 1, 1, 0, 0, 0, 0, 0),
  (8, .invokevirtual 48, 3, 613, 2, 1, 6, 962),
  (11, .istore_n 3, 1, 0, 0, 0, 0, 0),
  (12, .iconst (-1), 1, 0, 0, 0, (-1), 0),
  (13, .istore 4, 2, 0, 0, 0, 0, 0),
  (15, .iconst 0, 1, 0, 0, 0, 0, 0),
  (16, .istore 5, 2, 0, 0, 0, 0, 0),
  (18, .iload 5, 2, 0, 0, 0, 0, 0),
  (20, .bipush 32, 2, 0, 0, 0, 32, 0),
  (22, .if_icmp .ge 87, 3, 109, 0, 0, 0, 0),
  (25, .iload 5, 2, 0, 0, 0, 0, 0),
  (27, .iload_n 3, 1, 0, 0, 0, 0, 0),
  (28, .iconst (-1), 1, 0, 0, 0, (-1), 0),
  (29, .ixor, 1, 0, 0, 0, 0, 0),
  (30, .iand, 1, 0, 0, 0, 0, 0),
  (31, .ifCond .ne 72, 3, 103, 0, 0, 0, 0),
  (34, .iload 5, 2, 0, 0, 0, 0, 0),
  (36, .invokestatic 133, 3, 1300, 1, 1, 0, 1115),
  (39, .iload_n 2, 1, 0, 0, 0, 0, 0),
  (40, .if_icmp .ne 63, 3, 103, 0, 0, 0, 0),
  (43, .aload_n 0, 1, 0, 0, 0, 0, 0),
  (44, .iload_n 3, 1, 0, 0, 0, 0, 0),
  (45, .iload 5, 2, 0, 0, 0, 0, 0),
  (47, .invokevirtual 130, 3, 911, 3, 1, 9, 1116),
  (50, .istore 6, 2, 0, 0, 0, 0, 0),
  (52, .aload_n 0, 1, 0, 0, 0, 0, 0),
  (53, .getfield 34, 3, 9, 4, 1, 0, 441),
  (56, .aload_n 0, 1, 0, 0, 0, 0, 0),
  (57, .getfield 34, 3, 9, 4, 1, 0, 441),
  (60, .getfield 138, 3, 4, 1, 1, 0, 407),
  (63, .invokevirtual 116, 3, 404, 2, 0, 4, 1032),
  (66, .aload_n 0, 1, 0, 0, 0, 0, 0),
  (67, .getfield 34, 3, 9, 4, 1, 0, 441),
  (70, .invokevirtual 141, 3, 410, 1, 1, 4, 1121),
  (73, .istore 7, 2, 0, 0, 0, 0, 0),
  (75, .iload 4, 2, 0, 0, 0, 0, 0),
  (77, .ifCond .lt 10, 3, 87, 0, 0, 0, 0),
  (80, .iload 7, 2, 0, 0, 0, 0, 0),
  (82, .iload 4, 2, 0, 0, 0, 0, 0),
  (84, .if_icmp .ge 19, 3, 103, 0, 0, 0, 0),
  (87, .iload 7, 2, 0, 0, 0, 0, 0),
  (89, .istore 4, 2, 0, 0, 0, 0, 0),
  (91, .aload_n 0, 1, 0, 0, 0, 0, 0),
  (92, .iload 5, 2, 0, 0, 0, 0, 0),
  (94, .putfield 145, 3, 9, 0, 0, 0, 433),
  (97, .aload_n 0, 1, 0, 0, 0, 0, 0),
  (98, .iload 6, 2, 0, 0, 0, 0, 0),
  (100, .putfield 148, 3, 9, 1, 0, 0, 435),
  (103, .iinc 5 1, 3, 0, 0, 0, 0, 0),
  (106, .goto (-88), 3, 18, 0, 0, 0, 0),
  (109, .iload 4, 2, 0, 0, 0, 0, 0),
  (111, .ireturn, 1, 1, 0, 0, 0, 0)]
/-- TollsThatPay$Study.ceilingOf(I)I -/
def z_c914 : List z_E := [(0, .aload_n 0, 1, 0, 0, 0, 0, 0),
  (1, .getfield 34, 3, 9, 4, 1, 0, 441),
  (4, .getfield 42, 3, 4, 2, 1, 0, 410),
  (7, .iload_n 1, 1, 0, 0, 0, 0, 0),
  (8, .invokevirtual 48, 3, 613, 2, 1, 6, 962),
  (11, .istore_n 2, 1, 0, 0, 0, 0, 0),
  (12, .iconst (-1), 1, 0, 0, 0, (-1), 0),
  (13, .istore_n 3, 1, 0, 0, 0, 0, 0),
  (14, .iconst 0, 1, 0, 0, 0, 0, 0),
  (15, .istore 4, 2, 0, 0, 0, 0, 0),
  (17, .iload 4, 2, 0, 0, 0, 0, 0),
  (19, .aload_n 0, 1, 0, 0, 0, 0, 0),
  (20, .getfield 34, 3, 9, 4, 1, 0, 441),
  (23, .getfield 42, 3, 4, 2, 1, 0, 410),
  (26, .getfield 55, 3, 6, 2, 0, 0, 172),
  (29, .if_icmp .gt 80, 3, 109, 0, 0, 0, 0),
  (32, .aload_n 0, 1, 0, 0, 0, 0, 0),
  (33, .getfield 34, 3, 9, 4, 1, 0, 441),
  (36, .aload_n 0, 1, 0, 0, 0, 0, 0),
  (37, .getfield 34, 3, 9, 4, 1, 0, 441),
  (40, .getfield 42, 3, 4, 2, 1, 0, 410),
  (43, .getfield 52, 3, 6, 5, 1, 0, 180),
  (46, .iload_n 2, 1, 0, 0, 0, 0, 0),
  (47, .iload_n 2, 1, 0, 0, 0, 0, 0),
  (48, .iload 4, 2, 0, 0, 0, 0, 0),
  (50, .invokevirtual 126, 3, 412, 5, 1, 4, 1120),
  (53, .istore 5, 2, 0, 0, 0, 0, 0),
  (55, .aload_n 0, 1, 0, 0, 0, 0, 0),
  (56, .getfield 34, 3, 9, 4, 1, 0, 441),
  (59, .aload_n 0, 1, 0, 0, 0, 0, 0),
  (60, .getfield 34, 3, 9, 4, 1, 0, 441),
  (63, .getfield 138, 3, 4, 1, 1, 0, 407),
  (66, .invokevirtual 116, 3, 404, 2, 0, 4, 1032),
  (69, .aload_n 0, 1, 0, 0, 0, 0, 0),
  (70, .getfield 34, 3, 9, 4, 1, 0, 441),
  (73, .invokevirtual 141, 3, 410, 1, 1, 4, 1121),
  (76, .istore 6, 2, 0, 0, 0, 0, 0),
  (78, .iload_n 3, 1, 0, 0, 0, 0, 0),
  (79, .ifCond .lt 9, 3, 88, 0, 0, 0, 0),
  (82, .iload 6, 2, 0, 0, 0, 0, 0),
  (84, .iload_n 3, 1, 0, 0, 0, 0, 0),
  (85, .if_icmp .gt 18, 3, 103, 0, 0, 0, 0),
  (88, .iload 6, 2, 0, 0, 0, 0, 0),
  (90, .istore_n 3, 1, 0, 0, 0, 0, 0),
  (91, .aload_n 0, 1, 0, 0, 0, 0, 0),
  (92, .iload 4, 2, 0, 0, 0, 0, 0),
  (94, .putfield 145, 3, 9, 0, 0, 0, 433),
  (97, .aload_n 0, 1, 0, 0, 0, 0, 0),
  (98, .iload 5, 2, 0, 0, 0, 0, 0),
  (100, .putfield 148, 3, 9, 1, 0, 0, 435),
  (103, .iinc 4 1, 3, 0, 0, 0, 0, 0),
  (106, .goto (-89), 3, 17, 0, 0, 0, 0),
  (109, .iload_n 3, 1, 0, 0, 0, 0, 0),
  (110, .ireturn, 1, 1, 0, 0, 0, 0)]
/-- TollsThatPay$Study.safeOf(I[I)I -/
def z_c915 : List z_E := [(0, .aload_n 0, 1, 0, 0, 0, 0, 0),
  (1, .getfield 34, 3, 9, 4, 1, 0, 441),
  (4, .getfield 42, 3, 4, 2, 1, 0, 410),
  (7, .iload_n 1, 1, 0, 0, 0, 0, 0),
  (8, .invokevirtual 48, 3, 613, 2, 1, 6, 962),
  (11, .istore_n 3, 1, 0, 0, 0, 0, 0),
  (12, .iconst (-1), 1, 0, 0, 0, (-1), 0),
  (13, .istore 4, 2, 0, 0, 0, 0, 0),
  (15, .aload_n 0, 1, 0, 0, 0, 0, 0),
  (16, .getfield 34, 3, 9, 4, 1, 0, 441),
  (19, .aload_n 0, 1, 0, 0, 0, 0, 0),
  (20, .getfield 34, 3, 9, 4, 1, 0, 441),
  (23, .getfield 42, 3, 4, 2, 1, 0, 410),
  (26, .getfield 52, 3, 6, 5, 1, 0, 180),
  (29, .iload_n 3, 1, 0, 0, 0, 0, 0),
  (30, .aload_n 0, 1, 0, 0, 0, 0, 0),
  (31, .getfield 34, 3, 9, 4, 1, 0, 441),
  (34, .getfield 42, 3, 4, 2, 1, 0, 410),
  (37, .getfield 55, 3, 6, 2, 0, 0, 172),
  (40, .invokevirtual 59, 3, 405, 4, 1, 4, 963),
  (43, .istore 5, 2, 0, 0, 0, 0, 0),
  (45, .iconst 0, 1, 0, 0, 0, 0, 0),
  (46, .istore 6, 2, 0, 0, 0, 0, 0),
  (48, .iload 6, 2, 0, 0, 0, 0, 0),
  (50, .iload 5, 2, 0, 0, 0, 0, 0),
  (52, .if_icmp .ge 45, 3, 97, 0, 0, 0, 0),
  (55, .aload_n 0, 1, 0, 0, 0, 0, 0),
  (56, .iload_n 3, 1, 0, 0, 0, 0, 0),
  (57, .aload_n 2, 1, 0, 0, 0, 0, 0),
  (58, .invokevirtual 151, 3, 916, 3, 1, 9, 1186),
  (61, .istore 7, 2, 0, 0, 0, 0, 0),
  (63, .iload 7, 2, 0, 0, 0, 0, 0),
  (65, .iload 4, 2, 0, 0, 0, 0, 0),
  (67, .if_icmp .le 14, 3, 81, 0, 0, 0, 0),
  (70, .iload 7, 2, 0, 0, 0, 0, 0),
  (72, .istore 4, 2, 0, 0, 0, 0, 0),
  (74, .aload_n 0, 1, 0, 0, 0, 0, 0),
  (75, .getfield 34, 3, 9, 4, 1, 0, 441),
  (78, .invokevirtual 93, 3, 413, 1, 0, 4, 983),
  (81, .aload_n 0, 1, 0, 0, 0, 0, 0),
  (82, .getfield 34, 3, 9, 4, 1, 0, 441),
  (85, .getfield 66, 3, 4, 0, 1, 0, 403),
  (88, .invokevirtual 84, 3, 802, 1, 0, 8, 969),
  (91, .iinc 6 1, 3, 0, 0, 0, 0, 0),
  (94, .goto (-46), 3, 48, 0, 0, 0, 0),
  (97, .iload 4, 2, 0, 0, 0, 0, 0),
  (99, .ireturn, 1, 1, 0, 0, 0, 0)]
/-- TollsThatPay$Study.leastTake(I[I)I -/
def z_c916 : List z_E := [(0, .aload_n 0, 1, 0, 0, 0, 0, 0),
  (1, .invokevirtual 155, 3, 918, 1, 1, 9, 1190),
  (4, .istore_n 3, 1, 0, 0, 0, 0, 0),
  (5, .iconst 0, 1, 0, 0, 0, 0, 0),
  (6, .istore 4, 2, 0, 0, 0, 0, 0),
  (8, .iload 4, 2, 0, 0, 0, 0, 0),
  (10, .aload_n 0, 1, 0, 0, 0, 0, 0),
  (11, .getfield 38, 3, 9, 5, 1, 0, 442),
  (14, .getfield 63, 3, 1, 0, 0, 0, 323),
  (17, .if_icmp .ge 49, 3, 66, 0, 0, 0, 0),
  (20, .iload_n 3, 1, 0, 0, 0, 0, 0),
  (21, .aload_n 0, 1, 0, 0, 0, 0, 0),
  (22, .iload 4, 2, 0, 0, 0, 0, 0),
  (24, .aload_n 0, 1, 0, 0, 0, 0, 0),
  (25, .getfield 38, 3, 9, 5, 1, 0, 442),
  (28, .iload 4, 2, 0, 0, 0, 0, 0),
  (30, .invokevirtual 87, 3, 112, 2, 1, 1, 970),
  (33, .aload_n 0, 1, 0, 0, 0, 0, 0),
  (34, .getfield 34, 3, 9, 4, 1, 0, 441),
  (37, .getfield 66, 3, 4, 0, 1, 0, 403),
  (40, .aload_n 0, 1, 0, 0, 0, 0, 0),
  (41, .getfield 34, 3, 9, 4, 1, 0, 441),
  (44, .iload 4, 2, 0, 0, 0, 0, 0),
  (46, .invokevirtual 70, 3, 406, 2, 1, 4, 964),
  (49, .iload_n 1, 1, 0, 0, 0, 0, 0),
  (50, .iand, 1, 0, 0, 0, 0, 0),
  (51, .invokevirtual 73, 3, 804, 2, 1, 8, 965),
  (54, .imul, 1, 0, 0, 0, 0, 0),
  (55, .invokevirtual 158, 3, 919, 3, 1, 9, 1194),
  (58, .iadd, 1, 0, 0, 0, 0, 0),
  (59, .istore_n 3, 1, 0, 0, 0, 0, 0),
  (60, .iinc 4 1, 3, 0, 0, 0, 0, 0),
  (63, .goto (-55), 3, 8, 0, 0, 0, 0),
  (66, .iconst (-1), 1, 0, 0, 0, (-1), 0),
  (67, .istore 4, 2, 0, 0, 0, 0, 0),
  (69, .iconst 0, 1, 0, 0, 0, 0, 0),
  (70, .istore 5, 2, 0, 0, 0, 0, 0),
  (72, .iload 5, 2, 0, 0, 0, 0, 0),
  (74, .aload_n 0, 1, 0, 0, 0, 0, 0),
  (75, .getfield 31, 3, 9, 10, 1, 0, 447),
  (78, .arraylength, 1, 0, 0, 0, 0, 0),
  (79, .if_icmp .ge 50, 3, 129, 0, 0, 0, 0),
  (82, .iload 5, 2, 0, 0, 0, 0, 0),
  (84, .aload_n 2, 1, 0, 0, 0, 0, 0),
  (85, .arraylength, 1, 0, 0, 0, 0, 0),
  (86, .if_icmp .ge 43, 3, 129, 0, 0, 0, 0),
  (89, .iload_n 3, 1, 0, 0, 0, 0, 0),
  (90, .aload_n 0, 1, 0, 0, 0, 0, 0),
  (91, .getfield 31, 3, 9, 10, 1, 0, 447),
  (94, .iload 5, 2, 0, 0, 0, 0, 0),
  (96, .iaload, 1, 0, 0, 0, 0, 0),
  (97, .iadd, 1, 0, 0, 0, 0, 0),
  (98, .istore 6, 2, 0, 0, 0, 0, 0),
  (100, .aload_n 2, 1, 0, 0, 0, 0, 0),
  (101, .iload 5, 2, 0, 0, 0, 0, 0),
  (103, .iaload, 1, 0, 0, 0, 0, 0),
  (104, .ifCond .le 19, 3, 123, 0, 0, 0, 0),
  (107, .iload 4, 2, 0, 0, 0, 0, 0),
  (109, .ifCond .lt 10, 3, 119, 0, 0, 0, 0),
  (112, .iload 6, 2, 0, 0, 0, 0, 0),
  (114, .iload 4, 2, 0, 0, 0, 0, 0),
  (116, .if_icmp .ge 7, 3, 123, 0, 0, 0, 0),
  (119, .iload 6, 2, 0, 0, 0, 0, 0),
  (121, .istore 4, 2, 0, 0, 0, 0, 0),
  (123, .iinc 5 1, 3, 0, 0, 0, 0, 0),
  (126, .goto (-54), 3, 72, 0, 0, 0, 0),
  (129, .iload 4, 2, 0, 0, 0, 0, 0),
  (131, .ireturn, 1, 1, 0, 0, 0, 0)]
/-- TollsThatPay$Study.worldsWith(II)I -/
def z_c917 : List z_E := [(0, .aload_n 0, 1, 0, 0, 0, 0, 0),
  (1, .invokevirtual 155, 3, 918, 1, 1, 9, 1190),
  (4, .istore_n 3, 1, 0, 0, 0, 0, 0),
  (5, .iconst 0, 1, 0, 0, 0, 0, 0),
  (6, .istore 4, 2, 0, 0, 0, 0, 0),
  (8, .iload 4, 2, 0, 0, 0, 0, 0),
  (10, .aload_n 0, 1, 0, 0, 0, 0, 0),
  (11, .getfield 38, 3, 9, 5, 1, 0, 442),
  (14, .getfield 63, 3, 1, 0, 0, 0, 323),
  (17, .if_icmp .ge 53, 3, 70, 0, 0, 0, 0),
  (20, .iload_n 3, 1, 0, 0, 0, 0, 0),
  (21, .aload_n 0, 1, 0, 0, 0, 0, 0),
  (22, .getfield 38, 3, 9, 5, 1, 0, 442),
  (25, .iload 4, 2, 0, 0, 0, 0, 0),
  (27, .aload_n 0, 1, 0, 0, 0, 0, 0),
  (28, .getfield 34, 3, 9, 4, 1, 0, 441),
  (31, .iload 4, 2, 0, 0, 0, 0, 0),
  (33, .invokevirtual 70, 3, 406, 2, 1, 4, 964),
  (36, .iload_n 1, 1, 0, 0, 0, 0, 0),
  (37, .invokevirtual 161, 3, 120, 4, 1, 1, 1208),
  (40, .ifCond .eq 21, 3, 61, 0, 0, 0, 0),
  (43, .aload_n 0, 1, 0, 0, 0, 0, 0),
  (44, .iload 4, 2, 0, 0, 0, 0, 0),
  (46, .aload_n 0, 1, 0, 0, 0, 0, 0),
  (47, .getfield 38, 3, 9, 5, 1, 0, 442),
  (50, .iload 4, 2, 0, 0, 0, 0, 0),
  (52, .invokevirtual 87, 3, 112, 2, 1, 1, 970),
  (55, .invokevirtual 158, 3, 919, 3, 1, 9, 1194),
  (58, .goto 4, 3, 62, 0, 0, 0, 0),
  (61, .iconst 0, 1, 0, 0, 0, 0, 0),
  (62, .iadd, 1, 0, 0, 0, 0, 0),
  (63, .istore_n 3, 1, 0, 0, 0, 0, 0),
  (64, .iinc 4 1, 3, 0, 0, 0, 0, 0),
  (67, .goto (-59), 3, 8, 0, 0, 0, 0),
  (70, .iconst 0, 1, 0, 0, 0, 0, 0),
  (71, .istore 4, 2, 0, 0, 0, 0, 0),
  (73, .iconst 0, 1, 0, 0, 0, 0, 0),
  (74, .istore 5, 2, 0, 0, 0, 0, 0),
  (76, .iload 5, 2, 0, 0, 0, 0, 0),
  (78, .aload_n 0, 1, 0, 0, 0, 0, 0),
  (79, .getfield 31, 3, 9, 10, 1, 0, 447),
  (82, .arraylength, 1, 0, 0, 0, 0, 0),
  (83, .if_icmp .ge 35, 3, 118, 0, 0, 0, 0),
  (86, .iload 4, 2, 0, 0, 0, 0, 0),
  (88, .iload_n 3, 1, 0, 0, 0, 0, 0),
  (89, .aload_n 0, 1, 0, 0, 0, 0, 0),
  (90, .getfield 31, 3, 9, 10, 1, 0, 447),
  (93, .iload 5, 2, 0, 0, 0, 0, 0),
  (95, .iaload, 1, 0, 0, 0, 0, 0),
  (96, .iadd, 1, 0, 0, 0, 0, 0),
  (97, .iload_n 2, 1, 0, 0, 0, 0, 0),
  (98, .if_icmp .ne 10, 3, 108, 0, 0, 0, 0),
  (101, .iconst 1, 1, 0, 0, 0, 1, 0),
  (102, .iload 5, 2, 0, 0, 0, 0, 0),
  (104, .ishl, 1, 0, 0, 0, 0, 0),
  (105, .goto 4, 3, 109, 0, 0, 0, 0),
  (108, .iconst 0, 1, 0, 0, 0, 0, 0),
  (109, .ior, 1, 0, 0, 0, 0, 0),
  (110, .istore 4, 2, 0, 0, 0, 0, 0),
  (112, .iinc 5 1, 3, 0, 0, 0, 0, 0),
  (115, .goto (-39), 3, 76, 0, 0, 0, 0),
  (118, .iload 4, 2, 0, 0, 0, 0, 0),
  (120, .ireturn, 1, 1, 0, 0, 0, 0)]
/-- TollsThatPay$Study.clearWorlds()I -/
def z_c918 : List z_E := [(0, .iconst 0, 1, 0, 0, 0, 0, 0),
  (1, .istore_n 1, 1, 0, 0, 0, 0, 0),
  (2, .iload_n 1, 1, 0, 0, 0, 0, 0),
  (3, .aload_n 0, 1, 0, 0, 0, 0, 0),
  (4, .getfield 31, 3, 9, 10, 1, 0, 447),
  (7, .arraylength, 1, 0, 0, 0, 0, 0),
  (8, .if_icmp .ge 16, 3, 24, 0, 0, 0, 0),
  (11, .aload_n 0, 1, 0, 0, 0, 0, 0),
  (12, .getfield 31, 3, 9, 10, 1, 0, 447),
  (15, .iload_n 1, 1, 0, 0, 0, 0, 0),
  (16, .iconst 0, 1, 0, 0, 0, 0, 0),
  (17, .iastore, 1, 0, 0, 0, 0, 0),
  (18, .iinc 1 1, 3, 0, 0, 0, 0, 0),
  (21, .goto (-19), 3, 2, 0, 0, 0, 0),
  (24, .iconst 0, 1, 0, 0, 0, 0, 0),
  (25, .ireturn, 1, 1, 0, 0, 0, 0)]
/-- TollsThatPay$Study.addTo(II)I -/
def z_c919 : List z_E := [(0, .aload_n 0, 1, 0, 0, 0, 0, 0),
  (1, .getfield 38, 3, 9, 5, 1, 0, 442),
  (4, .iload_n 1, 1, 0, 0, 0, 0, 0),
  (5, .invokevirtual 165, 3, 113, 2, 1, 1, 1198),
  (8, .istore_n 3, 1, 0, 0, 0, 0, 0),
  (9, .aload_n 0, 1, 0, 0, 0, 0, 0),
  (10, .getfield 38, 3, 9, 5, 1, 0, 442),
  (13, .iload_n 1, 1, 0, 0, 0, 0, 0),
  (14, .invokevirtual 168, 3, 115, 2, 1, 1, 1199),
  (17, .ifCond .ne 5, 3, 22, 0, 0, 0, 0),
  (20, .iload_n 2, 1, 0, 0, 0, 0, 0),
  (21, .ireturn, 1, 1, 0, 0, 0, 0),
  (22, .iload_n 3, 1, 0, 0, 0, 0, 0),
  (23, .ifCond .lt 22, 3, 45, 0, 0, 0, 0),
  (26, .iload_n 3, 1, 0, 0, 0, 0, 0),
  (27, .aload_n 0, 1, 0, 0, 0, 0, 0),
  (28, .getfield 31, 3, 9, 10, 1, 0, 447),
  (31, .arraylength, 1, 0, 0, 0, 0, 0),
  (32, .if_icmp .ge 13, 3, 45, 0, 0, 0, 0),
  (35, .aload_n 0, 1, 0, 0, 0, 0, 0),
  (36, .getfield 31, 3, 9, 10, 1, 0, 447),
  (39, .iload_n 3, 1, 0, 0, 0, 0, 0),
  (40, .dup2, 1, 0, 0, 0, 0, 0),
  (41, .iaload, 1, 0, 0, 0, 0, 0),
  (42, .iload_n 2, 1, 0, 0, 0, 0, 0),
  (43, .iadd, 1, 0, 0, 0, 0, 0),
  (44, .iastore, 1, 0, 0, 0, 0, 0),
  (45, .iconst 0, 1, 0, 0, 0, 0, 0),
  (46, .ireturn, 1, 1, 0, 0, 0, 0)]
/-- TollsThatPay$Study.growths(II)I -/
def z_c920 : List z_E := [(0, .aload_n 0, 1, 0, 0, 0, 0, 0),
  (1, .getfield 34, 3, 9, 4, 1, 0, 441),
  (4, .getfield 42, 3, 4, 2, 1, 0, 410),
  (7, .iload_n 1, 1, 0, 0, 0, 0, 0),
  (8, .invokevirtual 48, 3, 613, 2, 1, 6, 962),
  (11, .istore_n 3, 1, 0, 0, 0, 0, 0),
  (12, .iconst 1, 1, 0, 0, 0, 1, 0),
  (13, .iload_n 2, 1, 0, 0, 0, 0, 0),
  (14, .ishl, 1, 0, 0, 0, 0, 0),
  (15, .istore 4, 2, 0, 0, 0, 0, 0),
  (17, .iload_n 3, 1, 0, 0, 0, 0, 0),
  (18, .invokestatic 133, 3, 1300, 1, 1, 0, 1115),
  (21, .istore 5, 2, 0, 0, 0, 0, 0),
  (23, .iconst 0, 1, 0, 0, 0, 0, 0),
  (24, .istore 6, 2, 0, 0, 0, 0, 0),
  (26, .iload 6, 2, 0, 0, 0, 0, 0),
  (28, .aload_n 0, 1, 0, 0, 0, 0, 0),
  (29, .getfield 28, 3, 9, 9, 1, 0, 446),
  (32, .arraylength, 1, 0, 0, 0, 0, 0),
  (33, .if_icmp .ge 40, 3, 73, 0, 0, 0, 0),
  (36, .aload_n 0, 1, 0, 0, 0, 0, 0),
  (37, .getfield 28, 3, 9, 9, 1, 0, 446),
  (40, .iload 6, 2, 0, 0, 0, 0, 0),
  (42, .iload 6, 2, 0, 0, 0, 0, 0),
  (44, .iload_n 3, 1, 0, 0, 0, 0, 0),
  (45, .iconst (-1), 1, 0, 0, 0, (-1), 0),
  (46, .ixor, 1, 0, 0, 0, 0, 0),
  (47, .iand, 1, 0, 0, 0, 0, 0),
  (48, .ifCond .ne 17, 3, 65, 0, 0, 0, 0),
  (51, .aload_n 0, 1, 0, 0, 0, 0, 0),
  (52, .iload_n 3, 1, 0, 0, 0, 0, 0),
  (53, .iload_n 3, 1, 0, 0, 0, 0, 0),
  (54, .iload 6, 2, 0, 0, 0, 0, 0),
  (56, .iconst (-1), 1, 0, 0, 0, (-1), 0),
  (57, .ixor, 1, 0, 0, 0, 0, 0),
  (58, .iand, 1, 0, 0, 0, 0, 0),
  (59, .invokevirtual 130, 3, 911, 3, 1, 9, 1116),
  (62, .goto 4, 3, 66, 0, 0, 0, 0),
  (65, .iconst 0, 1, 0, 0, 0, 0, 0),
  (66, .iastore, 1, 0, 0, 0, 0, 0),
  (67, .iinc 6 1, 3, 0, 0, 0, 0, 0),
  (70, .goto (-44), 3, 26, 0, 0, 0, 0),
  (73, .iconst 0, 1, 0, 0, 0, 0, 0),
  (74, .istore 6, 2, 0, 0, 0, 0, 0),
  (76, .iconst 0, 1, 0, 0, 0, 0, 0),
  (77, .istore 7, 2, 0, 0, 0, 0, 0),
  (79, .iload 7, 2, 0, 0, 0, 0, 0),
  (81, .aload_n 0, 1, 0, 0, 0, 0, 0),
  (82, .getfield 28, 3, 9, 9, 1, 0, 446),
  (85, .arraylength, 1, 0, 0, 0, 0, 0),
  (86, .if_icmp .ge 86, 3, 172, 0, 0, 0, 0),
  (89, .iload 7, 2, 0, 0, 0, 0, 0),
  (91, .iload_n 3, 1, 0, 0, 0, 0, 0),
  (92, .iconst (-1), 1, 0, 0, 0, (-1), 0),
  (93, .ixor, 1, 0, 0, 0, 0, 0),
  (94, .iand, 1, 0, 0, 0, 0, 0),
  (95, .ifCond .ne 71, 3, 166, 0, 0, 0, 0),
  (98, .iload 7, 2, 0, 0, 0, 0, 0),
  (100, .iload 4, 2, 0, 0, 0, 0, 0),
  (102, .iand, 1, 0, 0, 0, 0, 0),
  (103, .ifCond .ne 63, 3, 166, 0, 0, 0, 0),
  (106, .iload 7, 2, 0, 0, 0, 0, 0),
  (108, .iload 4, 2, 0, 0, 0, 0, 0),
  (110, .ior, 1, 0, 0, 0, 0, 0),
  (111, .aload_n 0, 1, 0, 0, 0, 0, 0),
  (112, .getfield 28, 3, 9, 9, 1, 0, 446),
  (115, .arraylength, 1, 0, 0, 0, 0, 0),
  (116, .if_icmp .ge 50, 3, 166, 0, 0, 0, 0),
  (119, .iload 7, 2, 0, 0, 0, 0, 0),
  (121, .invokestatic 133, 3, 1300, 1, 1, 0, 1115),
  (124, .istore 8, 2, 0, 0, 0, 0, 0),
  (126, .iload 6, 2, 0, 0, 0, 0, 0),
  (128, .iload 8, 2, 0, 0, 0, 0, 0),
  (130, .invokestatic 172, 3, 921, 1, 1, 0, 1226),
  (133, .iload 5, 2, 0, 0, 0, 0, 0),
  (135, .iload 8, 2, 0, 0, 0, 0, 0),
  (137, .isub, 1, 0, 0, 0, 0, 0),
  (138, .iconst 1, 1, 0, 0, 0, 1, 0),
  (139, .isub, 1, 0, 0, 0, 0, 0),
  (140, .invokestatic 172, 3, 921, 1, 1, 0, 1226),
  (143, .imul, 1, 0, 0, 0, 0, 0),
  (144, .aload_n 0, 1, 0, 0, 0, 0, 0),
  (145, .getfield 28, 3, 9, 9, 1, 0, 446),
  (148, .iload 7, 2, 0, 0, 0, 0, 0),
  (150, .iload 4, 2, 0, 0, 0, 0, 0),
  (152, .ior, 1, 0, 0, 0, 0, 0),
  (153, .iaload, 1, 0, 0, 0, 0, 0),
  (154, .aload_n 0, 1, 0, 0, 0, 0, 0),
  (155, .getfield 28, 3, 9, 9, 1, 0, 446),
  (158, .iload 7, 2, 0, 0, 0, 0, 0),
  (160, .iaload, 1, 0, 0, 0, 0, 0),
  (161, .isub, 1, 0, 0, 0, 0, 0),
  (162, .imul, 1, 0, 0, 0, 0, 0),
  (163, .iadd, 1, 0, 0, 0, 0, 0),
  (164, .istore 6, 2, 0, 0, 0, 0, 0),
  (166, .iinc 7 1, 3, 0, 0, 0, 0, 0),
  (169, .goto (-90), 3, 79, 0, 0, 0, 0),
  (172, .iload 6, 2, 0, 0, 0, 0, 0),
  (174, .ireturn, 1, 1, 0, 0, 0, 0)]
/-- TollsThatPay$Study.orders(I)I -/
def z_c921 : List z_E := [(0, .iconst 1, 1, 0, 0, 0, 1, 0),
  (1, .istore_n 1, 1, 0, 0, 0, 0, 0),
  (2, .iconst 2, 1, 0, 0, 0, 2, 0),
  (3, .istore_n 2, 1, 0, 0, 0, 0, 0),
  (4, .iload_n 2, 1, 0, 0, 0, 0, 0),
  (5, .iload_n 0, 1, 0, 0, 0, 0, 0),
  (6, .if_icmp .gt 18, 3, 24, 0, 0, 0, 0),
  (9, .iload_n 2, 1, 0, 0, 0, 0, 0),
  (10, .iconst 5, 1, 0, 0, 0, 5, 0),
  (11, .if_icmp .gt 13, 3, 24, 0, 0, 0, 0),
  (14, .iload_n 1, 1, 0, 0, 0, 0, 0),
  (15, .iload_n 2, 1, 0, 0, 0, 0, 0),
  (16, .imul, 1, 0, 0, 0, 0, 0),
  (17, .istore_n 1, 1, 0, 0, 0, 0, 0),
  (18, .iinc 2 1, 3, 0, 0, 0, 0, 0),
  (21, .goto (-17), 3, 4, 0, 0, 0, 0),
  (24, .iload_n 1, 1, 0, 0, 0, 0, 0),
  (25, .ireturn, 1, 1, 0, 0, 0, 0)]
/-- TollsThatPay$Study.commonPart(II)I -/
def z_c922 : List z_E := [(0, .iload_n 0, 1, 0, 0, 0, 0, 0),
  (1, .invokestatic 175, 3, 9997, 0, 0, 0, 1233),
  (4, .istore_n 2, 1, 0, 0, 0, 0, 0),
  (5, .iload_n 1, 1, 0, 0, 0, 0, 0),
  (6, .invokestatic 175, 3, 9997, 0, 0, 0, 1233),
  (9, .istore_n 3, 1, 0, 0, 0, 0, 0),
  (10, .iconst 0, 1, 0, 0, 0, 0, 0),
  (11, .istore 4, 2, 0, 0, 0, 0, 0),
  (13, .iload 4, 2, 0, 0, 0, 0, 0),
  (15, .bipush 100, 2, 0, 0, 0, 100, 0),
  (17, .if_icmp .ge 23, 3, 40, 0, 0, 0, 0),
  (20, .iload_n 3, 1, 0, 0, 0, 0, 0),
  (21, .ifCond .le 19, 3, 40, 0, 0, 0, 0),
  (24, .iload_n 2, 1, 0, 0, 0, 0, 0),
  (25, .iload_n 3, 1, 0, 0, 0, 0, 0),
  (26, .irem, 1, 0, 0, 0, 0, 0),
  (27, .istore 5, 2, 0, 0, 0, 0, 0),
  (29, .iload_n 3, 1, 0, 0, 0, 0, 0),
  (30, .istore_n 2, 1, 0, 0, 0, 0, 0),
  (31, .iload 5, 2, 0, 0, 0, 0, 0),
  (33, .istore_n 3, 1, 0, 0, 0, 0, 0),
  (34, .iinc 4 1, 3, 0, 0, 0, 0, 0),
  (37, .goto (-24), 3, 13, 0, 0, 0, 0),
  (40, .iload_n 2, 1, 0, 0, 0, 0, 0),
  (41, .ireturn, 1, 1, 0, 0, 0, 0)]
def z_cc9 : List (List z_E) := [z_c900, z_c901, z_c902, z_c903, z_c904, z_c905, z_c906, z_c907, z_c908, z_c909, z_c910, z_c911, z_c912, z_c913, z_c914, z_c915, z_c916, z_c917, z_c918, z_c919, z_c920, z_c921, z_c922]
def z_mm9 : List (MethodName × ByteArray × Nat × Option FieldType) := [(yX9_init, cX9_init, 3, none),
  (yX9_boundOf, cX9_boundOf, 6, (some .int)),
  (yX9_givenOf, cX9_givenOf, 7, (some .int)),
  (yX9_takeIfAsNow, cX9_takeIfAsNow, 4, (some .int)),
  (yX9_aboveOf, cX9_aboveOf, 7, (some .int)),
  (yX9_reckonLine, cX9_reckonLine, 2, (some .int)),
  (yX9_ownerSide, cX9_ownerSide, 3, (some .int)),
  (yX9_lineFrom, cX9_lineFrom, 7, (some .int)),
  (yX9_lineAt, cX9_lineAt, 2, (some .int)),
  (yX9_climbOf, cX9_climbOf, 8, (some .int)),
  (yX9_lift, cX9_lift, 6, (some .boolean)),
  (yX9_huntWithFree, cX9_huntWithFree, 4, (some .int)),
  (yX9_bestWithFree, cX9_bestWithFree, 3, (some .int)),
  (yX9_spareOf, cX9_spareOf, 8, (some .int)),
  (yX9_ceilingOf, cX9_ceilingOf, 7, (some .int)),
  (yX9_safeOf, cX9_safeOf, 8, (some .int)),
  (yX9_leastTake, cX9_leastTake, 7, (some .int)),
  (yX9_worldsWith, cX9_worldsWith, 6, (some .int)),
  (yX9_clearWorlds, cX9_clearWorlds, 2, (some .int)),
  (yX9_addTo, cX9_addTo, 4, (some .int)),
  (yX9_growths, cX9_growths, 9, (some .int)),
  (yX9_orders, cX9_orders, 3, (some .int)),
  (yX9_commonPart, cX9_commonPart, 6, (some .int))]
/-- TollsThatPay$Trip.<init>()V -/
def z_c1000 : List z_E := [(0, .aload_n 0, 1, 0, 0, 0, 0, 0),
  (1, .invokespecial 3, 3, 9998, 0, 0, 0, 281),
  (4, .return_, 1, 0, 0, 0, 0, 0)]
/-- TollsThatPay$Trip.begin(LTollsThatPay$Land;I)V -/
def z_c1001 : List z_E := [(0, .aload_n 0, 1, 0, 0, 0, 0, 0),
  (1, .aload_n 1, 1, 0, 0, 0, 0, 0),
  (2, .getfield 9, 3, 3, 0, 1, 0, 257),
  (5, .putfield 15, 3, 10, 0, 1, 0, 282),
  (8, .aload_n 0, 1, 0, 0, 0, 0, 0),
  (9, .aload_n 1, 1, 0, 0, 0, 0, 0),
  (10, .getfield 18, 3, 3, 1, 1, 0, 263),
  (13, .iload_n 2, 1, 0, 0, 0, 0, 0),
  (14, .invokevirtual 22, 3, 207, 2, 1, 2, 655),
  (17, .putfield 28, 3, 10, 1, 0, 0, 283),
  (20, .aload_n 0, 1, 0, 0, 0, 0, 0),
  (21, .aload_n 1, 1, 0, 0, 0, 0, 0),
  (22, .getfield 18, 3, 3, 1, 1, 0, 263),
  (25, .iload_n 2, 1, 0, 0, 0, 0, 0),
  (26, .invokevirtual 32, 3, 212, 2, 1, 2, 659),
  (29, .putfield 35, 3, 10, 2, 0, 0, 284),
  (32, .aload_n 0, 1, 0, 0, 0, 0, 0),
  (33, .iconst 1, 1, 0, 0, 0, 1, 0),
  (34, .aload_n 1, 1, 0, 0, 0, 0, 0),
  (35, .getfield 18, 3, 3, 1, 1, 0, 263),
  (38, .iload_n 2, 1, 0, 0, 0, 0, 0),
  (39, .invokevirtual 38, 3, 206, 2, 1, 2, 663),
  (42, .ishl, 1, 0, 0, 0, 0, 0),
  (43, .putfield 41, 3, 10, 3, 0, 0, 285),
  (46, .aload_n 0, 1, 0, 0, 0, 0, 0),
  (47, .iconst 0, 1, 0, 0, 0, 0, 0),
  (48, .putfield 44, 3, 10, 4, 0, 0, 286),
  (51, .aload_n 0, 1, 0, 0, 0, 0, 0),
  (52, .iconst 0, 1, 0, 0, 0, 0, 0),
  (53, .putfield 47, 3, 10, 7, 0, 0, 290),
  (56, .aload_n 0, 1, 0, 0, 0, 0, 0),
  (57, .iconst 0, 1, 0, 0, 0, 0, 0),
  (58, .putfield 50, 3, 10, 8, 0, 0, 292),
  (61, .aload_n 0, 1, 0, 0, 0, 0, 0),
  (62, .iconst 0, 1, 0, 0, 0, 0, 0),
  (63, .putfield 53, 3, 10, 9, 0, 0, 294),
  (66, .aload_n 0, 1, 0, 0, 0, 0, 0),
  (67, .iconst 0, 1, 0, 0, 0, 0, 0),
  (68, .putfield 56, 3, 10, 10, 0, 0, 296),
  (71, .return_, 1, 0, 0, 0, 0, 0)]
/-- TollsThatPay$Trip.isThere(I)Z -/
def z_c1002 : List z_E := [(0, .iload_n 1, 1, 0, 0, 0, 0, 0),
  (1, .aload_n 0, 1, 0, 0, 0, 0, 0),
  (2, .getfield 28, 3, 10, 1, 0, 0, 283),
  (5, .if_icmp .ne 7, 3, 12, 0, 0, 0, 0),
  (8, .iconst 1, 1, 0, 0, 0, 1, 0),
  (9, .goto 4, 3, 13, 0, 0, 0, 0),
  (12, .iconst 0, 1, 0, 0, 0, 0, 0),
  (13, .ireturn, 1, 2, 0, 0, 0, 0)]
/-- TollsThatPay$Trip.isTired(I)Z -/
def z_c1003 : List z_E := [(0, .iload_n 1, 1, 0, 0, 0, 0, 0),
  (1, .bipush 7, 2, 0, 0, 0, 7, 0),
  (3, .if_icmp .ge 13, 3, 16, 0, 0, 0, 0),
  (6, .aload_n 0, 1, 0, 0, 0, 0, 0),
  (7, .getfield 44, 3, 10, 4, 0, 0, 286),
  (10, .sipush 200, 3, 0, 0, 0, 200, 0),
  (13, .if_icmp .le 7, 3, 20, 0, 0, 0, 0),
  (16, .iconst 1, 1, 0, 0, 0, 1, 0),
  (17, .goto 4, 3, 21, 0, 0, 0, 0),
  (20, .iconst 0, 1, 0, 0, 0, 0, 0),
  (21, .ireturn, 1, 2, 0, 0, 0, 0)]
/-- TollsThatPay$Trip.roadsKnown()I -/
def z_c1004 : List z_E := [(0, .aload_n 0, 1, 0, 0, 0, 0, 0),
  (1, .getfield 15, 3, 10, 0, 1, 0, 282),
  (4, .ifnonnull 7, 3, 11, 0, 0, 0, 0),
  (7, .iconst 0, 1, 0, 0, 0, 0, 0),
  (8, .goto 17, 3, 25, 0, 0, 0, 0),
  (11, .aload_n 0, 1, 0, 0, 0, 0, 0),
  (12, .getfield 35, 3, 10, 2, 0, 0, 284),
  (15, .aload_n 0, 1, 0, 0, 0, 0, 0),
  (16, .getfield 15, 3, 10, 0, 1, 0, 282),
  (19, .getfield 59, 3, 6, 0, 0, 0, 165),
  (22, .invokestatic 64, 3, 9996, 0, 0, 0, 687),
  (25, .ireturn, 1, 1, 0, 0, 0, 0)]
/-- TollsThatPay$Trip.ahead(II)I -/
def z_c1005 : List z_E := [(0, .aload_n 0, 1, 0, 0, 0, 0, 0),
  (1, .getfield 15, 3, 10, 0, 1, 0, 282),
  (4, .ifnull 14, 3, 18, 0, 0, 0, 0),
  (7, .aload_n 0, 1, 0, 0, 0, 0, 0),
  (8, .getfield 15, 3, 10, 0, 1, 0, 282),
  (11, .iload_n 1, 1, 0, 0, 0, 0, 0),
  (12, .invokevirtual 70, 3, 612, 2, 1, 6, 696),
  (15, .ifCond .ne 5, 3, 20, 0, 0, 0, 0),
  (18, .iconst (-1), 1, 0, 0, 0, (-1), 0),
  (19, .ireturn, 1, 1, 0, 0, 0, 0),
  (20, .aload_n 0, 1, 0, 0, 0, 0, 0),
  (21, .getfield 15, 3, 10, 0, 1, 0, 282),
  (24, .iload_n 1, 1, 0, 0, 0, 0, 0),
  (25, .iload_n 2, 1, 0, 0, 0, 0, 0),
  (26, .invokevirtual 74, 3, 611, 3, 1, 6, 700),
  (29, .istore_n 3, 1, 0, 0, 0, 0, 0),
  (30, .iload_n 3, 1, 0, 0, 0, 0, 0),
  (31, .ifCond .lt 18, 3, 49, 0, 0, 0, 0),
  (34, .aload_n 0, 1, 0, 0, 0, 0, 0),
  (35, .getfield 41, 3, 10, 3, 0, 0, 285),
  (38, .iload_n 3, 1, 0, 0, 0, 0, 0),
  (39, .ishr, 1, 0, 0, 0, 0, 0),
  (40, .iconst 1, 1, 0, 0, 0, 1, 0),
  (41, .iand, 1, 0, 0, 0, 0, 0),
  (42, .ifCond .ne 7, 3, 49, 0, 0, 0, 0),
  (45, .iload_n 3, 1, 0, 0, 0, 0, 0),
  (46, .goto 4, 3, 50, 0, 0, 0, 0),
  (49, .iconst (-1), 1, 0, 0, 0, (-1), 0),
  (50, .ireturn, 1, 1, 0, 0, 0, 0)]
/-- TollsThatPay$Trip.step(II)V -/
def z_c1006 : List z_E := [(0, .aload_n 0, 1, 0, 0, 0, 0, 0),
  (1, .getfield 15, 3, 10, 0, 1, 0, 282),
  (4, .ifnonnull 4, 3, 8, 0, 0, 0, 0),
  (7, .return_, 1, 0, 0, 0, 0, 0),
  (8, .aload_n 0, 1, 0, 0, 0, 0, 0),
  (9, .dup, 1, 0, 0, 0, 0, 0),
  (10, .getfield 41, 3, 10, 3, 0, 0, 285),
  (13, .iconst 1, 1, 0, 0, 0, 1, 0),
  (14, .iload_n 2, 1, 0, 0, 0, 0, 0),
  (15, .ishl, 1, 0, 0, 0, 0, 0),
  (16, .ior, 1, 0, 0, 0, 0, 0),
  (17, .putfield 41, 3, 10, 3, 0, 0, 285),
  (20, .aload_n 0, 1, 0, 0, 0, 0, 0),
  (21, .dup, 1, 0, 0, 0, 0, 0),
  (22, .getfield 47, 3, 10, 7, 0, 0, 290),
  (25, .aload_n 0, 1, 0, 0, 0, 0, 0),
  (26, .getfield 15, 3, 10, 0, 1, 0, 282),
  (29, .iload_n 1, 1, 0, 0, 0, 0, 0),
  (30, .invokevirtual 77, 3, 609, 2, 1, 6, 712),
  (33, .iadd, 1, 0, 0, 0, 0, 0),
  (34, .putfield 47, 3, 10, 7, 0, 0, 290),
  (37, .aload_n 0, 1, 0, 0, 0, 0, 0),
  (38, .dup, 1, 0, 0, 0, 0, 0),
  (39, .getfield 50, 3, 10, 8, 0, 0, 292),
  (42, .aload_n 0, 1, 0, 0, 0, 0, 0),
  (43, .getfield 15, 3, 10, 0, 1, 0, 282),
  (46, .iload_n 1, 1, 0, 0, 0, 0, 0),
  (47, .invokevirtual 80, 3, 610, 2, 1, 6, 716),
  (50, .iadd, 1, 0, 0, 0, 0, 0),
  (51, .putfield 50, 3, 10, 8, 0, 0, 292),
  (54, .aload_n 0, 1, 0, 0, 0, 0, 0),
  (55, .aload_n 0, 1, 0, 0, 0, 0, 0),
  (56, .getfield 56, 3, 10, 10, 0, 0, 296),
  (59, .iconst 4, 1, 0, 0, 0, 4, 0),
  (60, .ishl, 1, 0, 0, 0, 0, 0),
  (61, .iload_n 1, 1, 0, 0, 0, 0, 0),
  (62, .ior, 1, 0, 0, 0, 0, 0),
  (63, .putfield 56, 3, 10, 10, 0, 0, 296),
  (66, .aload_n 0, 1, 0, 0, 0, 0, 0),
  (67, .getfield 15, 3, 10, 0, 1, 0, 282),
  (70, .iload_n 1, 1, 0, 0, 0, 0, 0),
  (71, .invokevirtual 83, 3, 607, 2, 1, 6, 720),
  (74, .istore_n 3, 1, 0, 0, 0, 0, 0),
  (75, .aload_n 0, 1, 0, 0, 0, 0, 0),
  (76, .dup, 1, 0, 0, 0, 0, 0),
  (77, .getfield 53, 3, 10, 9, 0, 0, 294),
  (80, .iload_n 3, 1, 0, 0, 0, 0, 0),
  (81, .ifCond .lt 9, 3, 90, 0, 0, 0, 0),
  (84, .iconst 1, 1, 0, 0, 0, 1, 0),
  (85, .iload_n 3, 1, 0, 0, 0, 0, 0),
  (86, .ishl, 1, 0, 0, 0, 0, 0),
  (87, .goto 4, 3, 91, 0, 0, 0, 0),
  (90, .iconst 0, 1, 0, 0, 0, 0, 0),
  (91, .ior, 1, 0, 0, 0, 0, 0),
  (92, .putfield 53, 3, 10, 9, 0, 0, 294),
  (95, .return_, 1, 0, 0, 0, 0, 0)]
/-- TollsThatPay$Trip.back(II)V -/
def z_c1007 : List z_E := [(0, .aload_n 0, 1, 0, 0, 0, 0, 0),
  (1, .getfield 15, 3, 10, 0, 1, 0, 282),
  (4, .ifnonnull 4, 3, 8, 0, 0, 0, 0),
  (7, .return_, 1, 0, 0, 0, 0, 0),
  (8, .aload_n 0, 1, 0, 0, 0, 0, 0),
  (9, .dup, 1, 0, 0, 0, 0, 0),
  (10, .getfield 41, 3, 10, 3, 0, 0, 285),
  (13, .iconst 1, 1, 0, 0, 0, 1, 0),
  (14, .iload_n 2, 1, 0, 0, 0, 0, 0),
  (15, .ishl, 1, 0, 0, 0, 0, 0),
  (16, .iconst (-1), 1, 0, 0, 0, (-1), 0),
  (17, .ixor, 1, 0, 0, 0, 0, 0),
  (18, .iand, 1, 0, 0, 0, 0, 0),
  (19, .putfield 41, 3, 10, 3, 0, 0, 285),
  (22, .aload_n 0, 1, 0, 0, 0, 0, 0),
  (23, .dup, 1, 0, 0, 0, 0, 0),
  (24, .getfield 47, 3, 10, 7, 0, 0, 290),
  (27, .aload_n 0, 1, 0, 0, 0, 0, 0),
  (28, .getfield 15, 3, 10, 0, 1, 0, 282),
  (31, .iload_n 1, 1, 0, 0, 0, 0, 0),
  (32, .invokevirtual 77, 3, 609, 2, 1, 6, 712),
  (35, .isub, 1, 0, 0, 0, 0, 0),
  (36, .putfield 47, 3, 10, 7, 0, 0, 290),
  (39, .aload_n 0, 1, 0, 0, 0, 0, 0),
  (40, .dup, 1, 0, 0, 0, 0, 0),
  (41, .getfield 50, 3, 10, 8, 0, 0, 292),
  (44, .aload_n 0, 1, 0, 0, 0, 0, 0),
  (45, .getfield 15, 3, 10, 0, 1, 0, 282),
  (48, .iload_n 1, 1, 0, 0, 0, 0, 0),
  (49, .invokevirtual 80, 3, 610, 2, 1, 6, 716),
  (52, .isub, 1, 0, 0, 0, 0, 0),
  (53, .putfield 50, 3, 10, 8, 0, 0, 292),
  (56, .aload_n 0, 1, 0, 0, 0, 0, 0),
  (57, .dup, 1, 0, 0, 0, 0, 0),
  (58, .getfield 56, 3, 10, 10, 0, 0, 296),
  (61, .iconst 4, 1, 0, 0, 0, 4, 0),
  (62, .iushr, 1, 0, 0, 0, 0, 0),
  (63, .putfield 56, 3, 10, 10, 0, 0, 296),
  (66, .aload_n 0, 1, 0, 0, 0, 0, 0),
  (67, .getfield 15, 3, 10, 0, 1, 0, 282),
  (70, .iload_n 1, 1, 0, 0, 0, 0, 0),
  (71, .invokevirtual 83, 3, 607, 2, 1, 6, 720),
  (74, .istore_n 3, 1, 0, 0, 0, 0, 0),
  (75, .aload_n 0, 1, 0, 0, 0, 0, 0),
  (76, .dup, 1, 0, 0, 0, 0, 0),
  (77, .getfield 53, 3, 10, 9, 0, 0, 294),
  (80, .iload_n 3, 1, 0, 0, 0, 0, 0),
  (81, .ifCond .lt 11, 3, 92, 0, 0, 0, 0),
  (84, .iconst 1, 1, 0, 0, 0, 1, 0),
  (85, .iload_n 3, 1, 0, 0, 0, 0, 0),
  (86, .ishl, 1, 0, 0, 0, 0, 0),
  (87, .iconst (-1), 1, 0, 0, 0, (-1), 0),
  (88, .ixor, 1, 0, 0, 0, 0, 0),
  (89, .goto 4, 3, 93, 0, 0, 0, 0),
  (92, .iconst (-1), 1, 0, 0, 0, (-1), 0),
  (93, .iand, 1, 0, 0, 0, 0, 0),
  (94, .putfield 53, 3, 10, 9, 0, 0, 294),
  (97, .return_, 1, 0, 0, 0, 0, 0)]
def z_cc10 : List (List z_E) := [z_c1000, z_c1001, z_c1002, z_c1003, z_c1004, z_c1005, z_c1006, z_c1007]
def z_mm10 : List (MethodName × ByteArray × Nat × Option FieldType) := [(yX10_init, cX10_init, 1, none),
  (yX10_begin, cX10_begin, 3, none),
  (yX10_isThere, cX10_isThere, 2, (some .boolean)),
  (yX10_isTired, cX10_isTired, 2, (some .boolean)),
  (yX10_roadsKnown, cX10_roadsKnown, 1, (some .int)),
  (yX10_ahead, cX10_ahead, 4, (some .int)),
  (yX10_step, cX10_step, 4, none),
  (yX10_back, cX10_back, 4, none)]
/-- TollsThatPay.<init>()V -/
def z_c1100 : List z_E := [(0, .aload_n 0, 1, 0, 0, 0, 0, 0),
  (1, .invokespecial 1, 3, 9998, 0, 0, 0, 109),
  (4, .aload_n 0, 1, 0, 0, 0, 0, 0),
  (5, .new 7, 3, 5, 0, 0, 5, 112),
  (8, .dup, 1, 0, 0, 0, 0, 0),
  (9, .invokespecial 9, 3, 500, 1, 0, 5, 114),
  (12, .putfield 10, 3, 11, 0, 1, 0, 491),
  (15, .aload_n 0, 1, 0, 0, 0, 0, 0),
  (16, .new 16, 3, 7, 0, 0, 2, 136),
  (19, .dup, 1, 0, 0, 0, 0, 0),
  (20, .invokespecial 18, 3, 700, 1, 0, 7, 138),
  (23, .putfield 19, 3, 11, 1, 1, 0, 492),
  (26, .aload_n 0, 1, 0, 0, 0, 0, 0),
  (27, .new 23, 3, 3, 0, 0, 2, 151),
  (30, .dup, 1, 0, 0, 0, 0, 0),
  (31, .invokespecial 25, 3, 300, 1, 0, 3, 153),
  (34, .putfield 26, 3, 11, 7, 1, 0, 498),
  (37, .aload_n 0, 1, 0, 0, 0, 0, 0),
  (38, .new 23, 3, 3, 0, 0, 2, 151),
  (41, .dup, 1, 0, 0, 0, 0, 0),
  (42, .invokespecial 25, 3, 300, 1, 0, 3, 153),
  (45, .putfield 30, 3, 11, 8, 1, 0, 499),
  (48, .aload_n 0, 1, 0, 0, 0, 0, 0),
  (49, .new 33, 3, 1, 0, 0, 13, 270),
  (52, .dup, 1, 0, 0, 0, 0, 0),
  (53, .aload_n 0, 1, 0, 0, 0, 0, 0),
  (54, .getfield 26, 3, 11, 7, 1, 0, 498),
  (57, .getfield 35, 3, 3, 1, 1, 0, 261),
  (60, .invokespecial 39, 3, 100, 2, 0, 1, 272),
  (63, .putfield 42, 3, 11, 2, 1, 0, 493),
  (66, .aload_n 0, 1, 0, 0, 0, 0, 0),
  (67, .new 46, 3, 4, 0, 0, 6, 364),
  (70, .dup, 1, 0, 0, 0, 0, 0),
  (71, .aload_n 0, 1, 0, 0, 0, 0, 0),
  (72, .getfield 42, 3, 11, 2, 1, 0, 493),
  (75, .aload_n 0, 1, 0, 0, 0, 0, 0),
  (76, .getfield 26, 3, 11, 7, 1, 0, 498),
  (79, .getfield 48, 3, 3, 0, 1, 0, 256),
  (82, .invokespecial 52, 3, 400, 3, 0, 4, 366),
  (85, .putfield 55, 3, 11, 3, 1, 0, 494),
  (88, .aload_n 0, 1, 0, 0, 0, 0, 0),
  (89, .new 59, 3, 9, 0, 0, 11, 427),
  (92, .dup, 1, 0, 0, 0, 0, 0),
  (93, .aload_n 0, 1, 0, 0, 0, 0, 0),
  (94, .getfield 55, 3, 11, 3, 1, 0, 494),
  (97, .aload_n 0, 1, 0, 0, 0, 0, 0),
  (98, .getfield 42, 3, 11, 2, 1, 0, 493),
  (101, .invokespecial 61, 3, 900, 3, 0, 9, 429),
  (104, .putfield 64, 3, 11, 4, 1, 0, 495),
  (107, .aload_n 0, 1, 0, 0, 0, 0, 0),
  (108, .new 68, 3, 0, 0, 0, 4, 471),
  (111, .dup, 1, 0, 0, 0, 0, 0),
  (112, .aload_n 0, 1, 0, 0, 0, 0, 0),
  (113, .getfield 55, 3, 11, 3, 1, 0, 494),
  (116, .invokespecial 70, 3, 0, 2, 0, 0, 473),
  (119, .putfield 73, 3, 11, 5, 1, 0, 496),
  (122, .aload_n 0, 1, 0, 0, 0, 0, 0),
  (123, .bipush 10, 2, 0, 0, 0, 10, 0),
  (125, .newarray .int, 2, 1, 0, 0, 0, 135),
  (127, .putfield 77, 3, 11, 6, 1, 0, 497),
  (130, .iconst 0, 1, 0, 0, 0, 0, 0),
  (131, .istore_n 1, 1, 0, 0, 0, 0, 0),
  (132, .iload_n 1, 1, 0, 0, 0, 0, 0),
  (133, .aload_n 0, 1, 0, 0, 0, 0, 0),
  (134, .getfield 77, 3, 11, 6, 1, 0, 497),
  (137, .arraylength, 1, 0, 0, 0, 0, 0),
  (138, .if_icmp .ge 16, 3, 154, 0, 0, 0, 0),
  (141, .aload_n 0, 1, 0, 0, 0, 0, 0),
  (142, .getfield 77, 3, 11, 6, 1, 0, 497),
  (145, .iload_n 1, 1, 0, 0, 0, 0, 0),
  (146, .iconst 1, 1, 0, 0, 0, 1, 0),
  (147, .iastore, 1, 0, 0, 0, 0, 0),
  (148, .iinc 1 1, 3, 0, 0, 0, 0, 0),
  (151, .goto (-19), 3, 132, 0, 0, 0, 0),
  (154, .return_, 1, 0, 0, 0, 0, 0)]
/-- TollsThatPay.sign(I)I -/
def z_c1101 : List z_E := [(0, .aload_n 0, 1, 0, 0, 0, 0, 0),
  (1, .getfield 10, 3, 11, 0, 1, 0, 491),
  (4, .iload_n 1, 1, 0, 0, 0, 0, 0),
  (5, .invokevirtual 81, 3, 501, 2, 1, 5, 526),
  (8, .ireturn, 1, 1, 0, 0, 0, 0)]
/-- TollsThatPay.end(I)Z -/
def z_c1102 : List z_E := [(0, .aload_n 0, 1, 0, 0, 0, 0, 0),
  (1, .getfield 10, 3, 11, 0, 1, 0, 491),
  (4, .iload_n 1, 1, 0, 0, 0, 0, 0),
  (5, .invokevirtual 85, 3, 502, 2, 1, 5, 534),
  (8, .ireturn, 1, 2, 0, 0, 0, 0)]
/-- TollsThatPay.tell()I -/
def z_c1103 : List z_E := [(0, .aload_n 0, 1, 0, 0, 0, 0, 0),
  (1, .getfield 30, 3, 11, 8, 1, 0, 499),
  (4, .aload_n 0, 1, 0, 0, 0, 0, 0),
  (5, .getfield 26, 3, 11, 7, 1, 0, 498),
  (8, .invokevirtual 89, 3, 301, 2, 0, 3, 542),
  (11, .aload_n 0, 1, 0, 0, 0, 0, 0),
  (12, .getfield 10, 3, 11, 0, 1, 0, 491),
  (15, .aload_n 0, 1, 0, 0, 0, 0, 0),
  (16, .getfield 30, 3, 11, 8, 1, 0, 499),
  (19, .invokevirtual 93, 3, 503, 2, 1, 5, 558),
  (22, .istore_n 1, 1, 0, 0, 0, 0, 0),
  (23, .aload_n 0, 1, 0, 0, 0, 0, 0),
  (24, .getfield 10, 3, 11, 0, 1, 0, 491),
  (27, .iconst 0, 1, 0, 0, 0, 0, 0),
  (28, .invokevirtual 85, 3, 502, 2, 1, 5, 534),
  (31, .pop, 1, 0, 0, 0, 0, 0),
  (32, .iload_n 1, 1, 0, 0, 0, 0, 0),
  (33, .ifCond .ge 5, 3, 38, 0, 0, 0, 0),
  (36, .iload_n 1, 1, 0, 0, 0, 0, 0),
  (37, .ireturn, 1, 1, 0, 0, 0, 0),
  (38, .aload_n 0, 1, 0, 0, 0, 0, 0),
  (39, .getfield 30, 3, 11, 8, 1, 0, 499),
  (42, .invokevirtual 97, 3, 302, 1, 1, 3, 627),
  (45, .istore_n 2, 1, 0, 0, 0, 0, 0),
  (46, .iload_n 2, 1, 0, 0, 0, 0, 0),
  (47, .ifCond .ge 5, 3, 52, 0, 0, 0, 0),
  (50, .iload_n 2, 1, 0, 0, 0, 0, 0),
  (51, .ireturn, 1, 1, 0, 0, 0, 0),
  (52, .aload_n 0, 1, 0, 0, 0, 0, 0),
  (53, .getfield 42, 3, 11, 2, 1, 0, 493),
  (56, .aload_n 0, 1, 0, 0, 0, 0, 0),
  (57, .getfield 30, 3, 11, 8, 1, 0, 499),
  (60, .invokevirtual 101, 3, 101, 2, 1, 1, 631),
  (63, .ifCond .ne 18, 3, 81, 0, 0, 0, 0),
  (66, .aload_n 0, 1, 0, 0, 0, 0, 0),
  (67, .getfield 42, 3, 11, 2, 1, 0, 493),
  (70, .aload_n 0, 1, 0, 0, 0, 0, 0),
  (71, .getfield 26, 3, 11, 7, 1, 0, 498),
  (74, .invokevirtual 101, 3, 101, 2, 1, 1, 631),
  (77, .pop, 1, 0, 0, 0, 0, 0),
  (78, .bipush (-103), 2, 0, 0, 0, (-103), 0),
  (80, .ireturn, 1, 1, 0, 0, 0, 0),
  (81, .aload_n 0, 1, 0, 0, 0, 0, 0),
  (82, .getfield 26, 3, 11, 7, 1, 0, 498),
  (85, .astore_n 3, 1, 0, 0, 0, 0, 0),
  (86, .aload_n 0, 1, 0, 0, 0, 0, 0),
  (87, .aload_n 0, 1, 0, 0, 0, 0, 0),
  (88, .getfield 30, 3, 11, 8, 1, 0, 499),
  (91, .putfield 26, 3, 11, 7, 1, 0, 498),
  (94, .aload_n 0, 1, 0, 0, 0, 0, 0),
  (95, .aload_n 3, 1, 0, 0, 0, 0, 0),
  (96, .putfield 30, 3, 11, 8, 1, 0, 499),
  (99, .iload_n 1, 1, 0, 0, 0, 0, 0),
  (100, .ireturn, 1, 1, 0, 0, 0, 0)]
/-- TollsThatPay.toll(II)I -/
def z_c1104 : List z_E := [(0, .aload_n 0, 1, 0, 0, 0, 0, 0),
  (1, .getfield 26, 3, 11, 7, 1, 0, 498),
  (4, .getfield 48, 3, 3, 0, 1, 0, 256),
  (7, .iload_n 1, 1, 0, 0, 0, 0, 0),
  (8, .invokevirtual 105, 3, 607, 2, 1, 6, 754),
  (11, .istore_n 3, 1, 0, 0, 0, 0, 0),
  (12, .iload_n 3, 1, 0, 0, 0, 0, 0),
  (13, .ifCond .lt 21, 3, 34, 0, 0, 0, 0),
  (16, .iload_n 2, 1, 0, 0, 0, 0, 0),
  (17, .ifCond .lt 17, 3, 34, 0, 0, 0, 0),
  (20, .iload_n 2, 1, 0, 0, 0, 0, 0),
  (21, .aload_n 0, 1, 0, 0, 0, 0, 0),
  (22, .getfield 26, 3, 11, 7, 1, 0, 498),
  (25, .getfield 48, 3, 3, 0, 1, 0, 256),
  (28, .getfield 110, 3, 6, 2, 0, 0, 176),
  (31, .if_icmp .le 5, 3, 36, 0, 0, 0, 0),
  (34, .iconst (-1), 1, 0, 0, 0, (-1), 0),
  (35, .ireturn, 1, 1, 0, 0, 0, 0),
  (36, .aload_n 0, 1, 0, 0, 0, 0, 0),
  (37, .getfield 26, 3, 11, 7, 1, 0, 498),
  (40, .getfield 48, 3, 3, 0, 1, 0, 256),
  (43, .getfield 114, 3, 6, 5, 1, 0, 183),
  (46, .iload_n 3, 1, 0, 0, 0, 0, 0),
  (47, .iaload, 1, 0, 0, 0, 0, 0),
  (48, .istore 4, 2, 0, 0, 0, 0, 0),
  (50, .aload_n 0, 1, 0, 0, 0, 0, 0),
  (51, .getfield 26, 3, 11, 7, 1, 0, 498),
  (54, .getfield 48, 3, 3, 0, 1, 0, 256),
  (57, .getfield 114, 3, 6, 5, 1, 0, 183),
  (60, .iload_n 3, 1, 0, 0, 0, 0, 0),
  (61, .iload_n 2, 1, 0, 0, 0, 0, 0),
  (62, .iastore, 1, 0, 0, 0, 0, 0),
  (63, .iload 4, 2, 0, 0, 0, 0, 0),
  (65, .ireturn, 1, 1, 0, 0, 0, 0)]
/-- TollsThatPay.lean(I)I -/
def z_c1105 : List z_E := [(0, .iload_n 1, 1, 0, 0, 0, 0, 0),
  (1, .ifCond .lt 8, 3, 9, 0, 0, 0, 0),
  (4, .iload_n 1, 1, 0, 0, 0, 0, 0),
  (5, .iconst 1, 1, 0, 0, 0, 1, 0),
  (6, .if_icmp .le 5, 3, 11, 0, 0, 0, 0),
  (9, .iconst (-1), 1, 0, 0, 0, (-1), 0),
  (10, .ireturn, 1, 1, 0, 0, 0, 0),
  (11, .aload_n 0, 1, 0, 0, 0, 0, 0),
  (12, .getfield 117, 3, 11, 9, 0, 0, 500),
  (15, .istore_n 2, 1, 0, 0, 0, 0, 0),
  (16, .aload_n 0, 1, 0, 0, 0, 0, 0),
  (17, .iload_n 1, 1, 0, 0, 0, 0, 0),
  (18, .putfield 117, 3, 11, 9, 0, 0, 500),
  (21, .iload_n 2, 1, 0, 0, 0, 0, 0),
  (22, .ireturn, 1, 1, 0, 0, 0, 0)]
/-- TollsThatPay.way(II)I -/
def z_c1106 : List z_E := [(0, .aload_n 0, 1, 0, 0, 0, 0, 0),
  (1, .getfield 42, 3, 11, 2, 1, 0, 493),
  (4, .iload_n 1, 1, 0, 0, 0, 0, 0),
  (5, .iload_n 2, 1, 0, 0, 0, 0, 0),
  (6, .invokevirtual 120, 3, 110, 3, 1, 1, 763),
  (9, .istore_n 3, 1, 0, 0, 0, 0, 0),
  (10, .iload_n 3, 1, 0, 0, 0, 0, 0),
  (11, .ifCond .ge 5, 3, 16, 0, 0, 0, 0),
  (14, .iconst (-1), 1, 0, 0, 0, (-1), 0),
  (15, .ireturn, 1, 1, 0, 0, 0, 0),
  (16, .aload_n 0, 1, 0, 0, 0, 0, 0),
  (17, .invokevirtual 124, 3, 1139, 1, 0, 11, 768),
  (20, .aload_n 0, 1, 0, 0, 0, 0, 0),
  (21, .getfield 42, 3, 11, 2, 1, 0, 493),
  (24, .aload_n 0, 1, 0, 0, 0, 0, 0),
  (25, .getfield 42, 3, 11, 2, 1, 0, 493),
  (28, .iload_n 3, 1, 0, 0, 0, 0, 0),
  (29, .aload_n 0, 1, 0, 0, 0, 0, 0),
  (30, .getfield 55, 3, 11, 3, 1, 0, 494),
  (33, .iload_n 3, 1, 0, 0, 0, 0, 0),
  (34, .invokevirtual 127, 3, 406, 2, 1, 4, 800),
  (37, .invokevirtual 130, 3, 118, 3, 1, 1, 809),
  (40, .aload_n 0, 1, 0, 0, 0, 0, 0),
  (41, .getfield 19, 3, 11, 1, 1, 0, 492),
  (44, .invokevirtual 133, 3, 121, 3, 1, 1, 813),
  (47, .ireturn, 1, 1, 0, 0, 0, 0)]
/-- TollsThatPay.pains(II)I -/
def z_c1107 : List z_E := [(0, .aload_n 0, 1, 0, 0, 0, 0, 0),
  (1, .getfield 42, 3, 11, 2, 1, 0, 493),
  (4, .iload_n 1, 1, 0, 0, 0, 0, 0),
  (5, .iload_n 2, 1, 0, 0, 0, 0, 0),
  (6, .invokevirtual 120, 3, 110, 3, 1, 1, 763),
  (9, .istore_n 3, 1, 0, 0, 0, 0, 0),
  (10, .iload_n 3, 1, 0, 0, 0, 0, 0),
  (11, .ifCond .ge 5, 3, 16, 0, 0, 0, 0),
  (14, .iconst (-1), 1, 0, 0, 0, (-1), 0),
  (15, .ireturn, 1, 1, 0, 0, 0, 0),
  (16, .aload_n 0, 1, 0, 0, 0, 0, 0),
  (17, .invokevirtual 124, 3, 1139, 1, 0, 11, 768),
  (20, .aload_n 0, 1, 0, 0, 0, 0, 0),
  (21, .getfield 55, 3, 11, 3, 1, 0, 494),
  (24, .iload_n 3, 1, 0, 0, 0, 0, 0),
  (25, .aload_n 0, 1, 0, 0, 0, 0, 0),
  (26, .getfield 55, 3, 11, 3, 1, 0, 494),
  (29, .iload_n 3, 1, 0, 0, 0, 0, 0),
  (30, .invokevirtual 127, 3, 406, 2, 1, 4, 800),
  (33, .invokevirtual 137, 3, 407, 3, 1, 4, 829),
  (36, .ireturn, 1, 1, 0, 0, 0, 0)]
/-- TollsThatPay.room(II)I -/
def z_c1108 : List z_E := [(0, .aload_n 0, 1, 0, 0, 0, 0, 0),
  (1, .getfield 42, 3, 11, 2, 1, 0, 493),
  (4, .iload_n 1, 1, 0, 0, 0, 0, 0),
  (5, .iload_n 2, 1, 0, 0, 0, 0, 0),
  (6, .invokevirtual 120, 3, 110, 3, 1, 1, 763),
  (9, .istore_n 3, 1, 0, 0, 0, 0, 0),
  (10, .iload_n 3, 1, 0, 0, 0, 0, 0),
  (11, .ifCond .ge 5, 3, 16, 0, 0, 0, 0),
  (14, .iconst (-1), 1, 0, 0, 0, (-1), 0),
  (15, .ireturn, 1, 1, 0, 0, 0, 0),
  (16, .aload_n 0, 1, 0, 0, 0, 0, 0),
  (17, .invokevirtual 124, 3, 1139, 1, 0, 11, 768),
  (20, .aload_n 0, 1, 0, 0, 0, 0, 0),
  (21, .getfield 55, 3, 11, 3, 1, 0, 494),
  (24, .iload_n 3, 1, 0, 0, 0, 0, 0),
  (25, .invokevirtual 127, 3, 406, 2, 1, 4, 800),
  (28, .istore 4, 2, 0, 0, 0, 0, 0),
  (30, .aload_n 0, 1, 0, 0, 0, 0, 0),
  (31, .getfield 55, 3, 11, 3, 1, 0, 494),
  (34, .iload_n 3, 1, 0, 0, 0, 0, 0),
  (35, .iload 4, 2, 0, 0, 0, 0, 0),
  (37, .invokevirtual 140, 3, 408, 3, 1, 4, 845),
  (40, .istore 5, 2, 0, 0, 0, 0, 0),
  (42, .iload 4, 2, 0, 0, 0, 0, 0),
  (44, .ifCond .eq 8, 3, 52, 0, 0, 0, 0),
  (47, .iload 5, 2, 0, 0, 0, 0, 0),
  (49, .ifCond .ge 8, 3, 57, 0, 0, 0, 0),
  (52, .bipush (-2), 2, 0, 0, 0, (-2), 0),
  (54, .goto 16, 3, 70, 0, 0, 0, 0),
  (57, .iload 5, 2, 0, 0, 0, 0, 0),
  (59, .aload_n 0, 1, 0, 0, 0, 0, 0),
  (60, .getfield 55, 3, 11, 3, 1, 0, 494),
  (63, .iload_n 3, 1, 0, 0, 0, 0, 0),
  (64, .iload 4, 2, 0, 0, 0, 0, 0),
  (66, .invokevirtual 137, 3, 407, 3, 1, 4, 829),
  (69, .isub, 1, 0, 0, 0, 0, 0),
  (70, .ireturn, 1, 1, 0, 0, 0, 0)]
/-- TollsThatPay.take(I)I -/
def z_c1109 : List z_E := [(0, .iload_n 1, 1, 0, 0, 0, 0, 0),
  (1, .invokestatic 143, 3, 1140, 1, 1, 0, 854),
  (4, .ifCond .ne 5, 3, 9, 0, 0, 0, 0),
  (7, .iconst (-1), 1, 0, 0, 0, (-1), 0),
  (8, .ireturn, 1, 1, 0, 0, 0, 0),
  (9, .aload_n 0, 1, 0, 0, 0, 0, 0),
  (10, .invokevirtual 124, 3, 1139, 1, 0, 11, 768),
  (13, .aload_n 0, 1, 0, 0, 0, 0, 0),
  (14, .getfield 55, 3, 11, 3, 1, 0, 494),
  (17, .aload_n 0, 1, 0, 0, 0, 0, 0),
  (18, .getfield 26, 3, 11, 7, 1, 0, 498),
  (21, .getfield 48, 3, 3, 0, 1, 0, 256),
  (24, .iload_n 1, 1, 0, 0, 0, 0, 0),
  (25, .invokevirtual 146, 3, 613, 2, 1, 6, 857),
  (28, .invokevirtual 149, 3, 409, 2, 1, 4, 866),
  (31, .ireturn, 1, 1, 0, 0, 0, 0)]
/-- TollsThatPay.suffered()I -/
def z_c1110 : List z_E := [(0, .aload_n 0, 1, 0, 0, 0, 0, 0),
  (1, .invokevirtual 124, 3, 1139, 1, 0, 11, 768),
  (4, .aload_n 0, 1, 0, 0, 0, 0, 0),
  (5, .getfield 55, 3, 11, 3, 1, 0, 494),
  (8, .invokevirtual 152, 3, 410, 1, 1, 4, 878),
  (11, .ireturn, 1, 1, 0, 0, 0, 0)]
/-- TollsThatPay.by(I)I -/
def z_c1111 : List z_E := [(0, .aload_n 0, 1, 0, 0, 0, 0, 0),
  (1, .getfield 26, 3, 11, 7, 1, 0, 498),
  (4, .getfield 48, 3, 3, 0, 1, 0, 256),
  (7, .iload_n 1, 1, 0, 0, 0, 0, 0),
  (8, .invokevirtual 155, 3, 605, 2, 1, 6, 887),
  (11, .ifCond .ne 5, 3, 16, 0, 0, 0, 0),
  (14, .iconst (-1), 1, 0, 0, 0, (-1), 0),
  (15, .ireturn, 1, 1, 0, 0, 0, 0),
  (16, .aload_n 0, 1, 0, 0, 0, 0, 0),
  (17, .invokevirtual 124, 3, 1139, 1, 0, 11, 768),
  (20, .iconst 0, 1, 0, 0, 0, 0, 0),
  (21, .istore_n 2, 1, 0, 0, 0, 0, 0),
  (22, .iconst 0, 1, 0, 0, 0, 0, 0),
  (23, .istore_n 3, 1, 0, 0, 0, 0, 0),
  (24, .iload_n 3, 1, 0, 0, 0, 0, 0),
  (25, .aload_n 0, 1, 0, 0, 0, 0, 0),
  (26, .getfield 42, 3, 11, 2, 1, 0, 493),
  (29, .getfield 158, 3, 1, 0, 0, 0, 324),
  (32, .if_icmp .ge 40, 3, 72, 0, 0, 0, 0),
  (35, .aload_n 0, 1, 0, 0, 0, 0, 0),
  (36, .getfield 42, 3, 11, 2, 1, 0, 493),
  (39, .iload_n 3, 1, 0, 0, 0, 0, 0),
  (40, .aload_n 0, 1, 0, 0, 0, 0, 0),
  (41, .getfield 55, 3, 11, 3, 1, 0, 494),
  (44, .iload_n 3, 1, 0, 0, 0, 0, 0),
  (45, .invokevirtual 127, 3, 406, 2, 1, 4, 800),
  (48, .iload_n 1, 1, 0, 0, 0, 0, 0),
  (49, .invokevirtual 161, 3, 120, 4, 1, 1, 888),
  (52, .ifCond .eq 14, 3, 66, 0, 0, 0, 0),
  (55, .iload_n 2, 1, 0, 0, 0, 0, 0),
  (56, .aload_n 0, 1, 0, 0, 0, 0, 0),
  (57, .getfield 42, 3, 11, 2, 1, 0, 493),
  (60, .iload_n 3, 1, 0, 0, 0, 0, 0),
  (61, .invokevirtual 165, 3, 112, 2, 1, 1, 893),
  (64, .iadd, 1, 0, 0, 0, 0, 0),
  (65, .istore_n 2, 1, 0, 0, 0, 0, 0),
  (66, .iinc 3 1, 3, 0, 0, 0, 0, 0),
  (69, .goto (-45), 3, 24, 0, 0, 0, 0),
  (72, .iload_n 2, 1, 0, 0, 0, 0, 0),
  (73, .ireturn, 1, 1, 0, 0, 0, 0)]
/-- TollsThatPay.ways(I)I -/
def z_c1112 : List z_E := [(0, .aload_n 0, 1, 0, 0, 0, 0, 0),
  (1, .getfield 42, 3, 11, 2, 1, 0, 493),
  (4, .iload_n 1, 1, 0, 0, 0, 0, 0),
  (5, .invokevirtual 168, 3, 111, 2, 1, 1, 898),
  (8, .ireturn, 1, 1, 0, 0, 0, 0)]
/-- TollsThatPay.best(I)I -/
def z_c1113 : List z_E := [(0, .aload_n 0, 1, 0, 0, 0, 0, 0),
  (1, .iload_n 1, 1, 0, 0, 0, 0, 0),
  (2, .invokevirtual 171, 3, 1141, 2, 1, 11, 906),
  (5, .ifCond .ne 5, 3, 10, 0, 0, 0, 0),
  (8, .iconst (-1), 1, 0, 0, 0, (-1), 0),
  (9, .ireturn, 1, 1, 0, 0, 0, 0),
  (10, .aload_n 0, 1, 0, 0, 0, 0, 0),
  (11, .invokevirtual 124, 3, 1139, 1, 0, 11, 768),
  (14, .aload_n 0, 1, 0, 0, 0, 0, 0),
  (15, .getfield 55, 3, 11, 3, 1, 0, 494),
  (18, .iload_n 1, 1, 0, 0, 0, 0, 0),
  (19, .invokevirtual 174, 3, 411, 2, 1, 4, 912),
  (22, .istore_n 2, 1, 0, 0, 0, 0, 0),
  (23, .aload_n 0, 1, 0, 0, 0, 0, 0),
  (24, .iload_n 1, 1, 0, 0, 0, 0, 0),
  (25, .invokevirtual 177, 3, 1143, 2, 0, 11, 935),
  (28, .iload_n 2, 1, 0, 0, 0, 0, 0),
  (29, .ireturn, 1, 1, 0, 0, 0, 0)]
/-- TollsThatPay.set(I)I -/
def z_c1114 : List z_E := [(0, .aload_n 0, 1, 0, 0, 0, 0, 0),
  (1, .iload_n 1, 1, 0, 0, 0, 0, 0),
  (2, .invokevirtual 171, 3, 1141, 2, 1, 11, 906),
  (5, .ifCond .ne 5, 3, 10, 0, 0, 0, 0),
  (8, .iconst (-1), 1, 0, 0, 0, (-1), 0),
  (9, .ireturn, 1, 1, 0, 0, 0, 0),
  (10, .aload_n 0, 1, 0, 0, 0, 0, 0),
  (11, .invokevirtual 124, 3, 1139, 1, 0, 11, 768),
  (14, .aload_n 0, 1, 0, 0, 0, 0, 0),
  (15, .getfield 55, 3, 11, 3, 1, 0, 494),
  (18, .iload_n 1, 1, 0, 0, 0, 0, 0),
  (19, .invokevirtual 174, 3, 411, 2, 1, 4, 912),
  (22, .istore_n 2, 1, 0, 0, 0, 0, 0),
  (23, .aload_n 0, 1, 0, 0, 0, 0, 0),
  (24, .getfield 55, 3, 11, 3, 1, 0, 494),
  (27, .getfield 181, 3, 4, 1, 1, 0, 408),
  (30, .iconst 0, 1, 0, 0, 0, 0, 0),
  (31, .aload_n 0, 1, 0, 0, 0, 0, 0),
  (32, .getfield 26, 3, 11, 7, 1, 0, 498),
  (35, .getfield 48, 3, 3, 0, 1, 0, 256),
  (38, .getfield 114, 3, 6, 5, 1, 0, 183),
  (41, .iconst 0, 1, 0, 0, 0, 0, 0),
  (42, .iconst 5, 1, 0, 0, 0, 5, 0),
  (43, .invokestatic 184, 3, 9999, 0, 0, 0, 949),
  (46, .iload_n 2, 1, 0, 0, 0, 0, 0),
  (47, .ireturn, 1, 1, 0, 0, 0, 0)]
/-- TollsThatPay.ties(I)I -/
def z_c1115 : List z_E := [(0, .aload_n 0, 1, 0, 0, 0, 0, 0),
  (1, .iload_n 1, 1, 0, 0, 0, 0, 0),
  (2, .invokevirtual 171, 3, 1141, 2, 1, 11, 906),
  (5, .ifCond .ne 5, 3, 10, 0, 0, 0, 0),
  (8, .iconst (-1), 1, 0, 0, 0, (-1), 0),
  (9, .ireturn, 1, 1, 0, 0, 0, 0),
  (10, .aload_n 0, 1, 0, 0, 0, 0, 0),
  (11, .getfield 55, 3, 11, 3, 1, 0, 494),
  (14, .aload_n 0, 1, 0, 0, 0, 0, 0),
  (15, .getfield 26, 3, 11, 7, 1, 0, 498),
  (18, .getfield 48, 3, 3, 0, 1, 0, 256),
  (21, .iconst 1, 1, 0, 0, 0, 1, 0),
  (22, .invokevirtual 190, 3, 401, 3, 0, 4, 772),
  (25, .aload_n 0, 1, 0, 0, 0, 0, 0),
  (26, .getfield 55, 3, 11, 3, 1, 0, 494),
  (29, .iload_n 1, 1, 0, 0, 0, 0, 0),
  (30, .invokevirtual 174, 3, 411, 2, 1, 4, 912),
  (33, .istore_n 2, 1, 0, 0, 0, 0, 0),
  (34, .aload_n 0, 1, 0, 0, 0, 0, 0),
  (35, .getfield 55, 3, 11, 3, 1, 0, 494),
  (38, .aload_n 0, 1, 0, 0, 0, 0, 0),
  (39, .getfield 26, 3, 11, 7, 1, 0, 498),
  (42, .getfield 48, 3, 3, 0, 1, 0, 256),
  (45, .iconst 0, 1, 0, 0, 0, 0, 0),
  (46, .invokevirtual 190, 3, 401, 3, 0, 4, 772),
  (49, .iload_n 2, 1, 0, 0, 0, 0, 0),
  (50, .aload_n 0, 1, 0, 0, 0, 0, 0),
  (51, .getfield 55, 3, 11, 3, 1, 0, 494),
  (54, .iload_n 1, 1, 0, 0, 0, 0, 0),
  (55, .invokevirtual 174, 3, 411, 2, 1, 4, 912),
  (58, .isub, 1, 0, 0, 0, 0, 0),
  (59, .ireturn, 1, 1, 0, 0, 0, 0)]
/-- TollsThatPay.bound(I)I -/
def z_c1116 : List z_E := [(0, .aload_n 0, 1, 0, 0, 0, 0, 0),
  (1, .iload_n 1, 1, 0, 0, 0, 0, 0),
  (2, .invokevirtual 171, 3, 1141, 2, 1, 11, 906),
  (5, .ifCond .ne 5, 3, 10, 0, 0, 0, 0),
  (8, .iconst (-1), 1, 0, 0, 0, (-1), 0),
  (9, .ireturn, 1, 1, 0, 0, 0, 0),
  (10, .aload_n 0, 1, 0, 0, 0, 0, 0),
  (11, .invokevirtual 124, 3, 1139, 1, 0, 11, 768),
  (14, .aload_n 0, 1, 0, 0, 0, 0, 0),
  (15, .getfield 64, 3, 11, 4, 1, 0, 495),
  (18, .iload_n 1, 1, 0, 0, 0, 0, 0),
  (19, .invokevirtual 194, 3, 901, 2, 1, 9, 958),
  (22, .ireturn, 1, 1, 0, 0, 0, 0)]
/-- TollsThatPay.given(I)I -/
def z_c1117 : List z_E := [(0, .aload_n 0, 1, 0, 0, 0, 0, 0),
  (1, .iload_n 1, 1, 0, 0, 0, 0, 0),
  (2, .invokevirtual 171, 3, 1141, 2, 1, 11, 906),
  (5, .ifCond .ne 5, 3, 10, 0, 0, 0, 0),
  (8, .iconst (-1), 1, 0, 0, 0, (-1), 0),
  (9, .ireturn, 1, 1, 0, 0, 0, 0),
  (10, .aload_n 0, 1, 0, 0, 0, 0, 0),
  (11, .invokevirtual 124, 3, 1139, 1, 0, 11, 768),
  (14, .aload_n 0, 1, 0, 0, 0, 0, 0),
  (15, .getfield 64, 3, 11, 4, 1, 0, 495),
  (18, .iload_n 1, 1, 0, 0, 0, 0, 0),
  (19, .invokevirtual 197, 3, 902, 2, 1, 9, 975),
  (22, .istore_n 2, 1, 0, 0, 0, 0, 0),
  (23, .iload_n 2, 1, 0, 0, 0, 0, 0),
  (24, .ifCond .ge 6, 3, 30, 0, 0, 0, 0),
  (27, .bipush (-2), 2, 0, 0, 0, (-2), 0),
  (29, .ireturn, 1, 1, 0, 0, 0, 0),
  (30, .aload_n 0, 1, 0, 0, 0, 0, 0),
  (31, .iload_n 1, 1, 0, 0, 0, 0, 0),
  (32, .invokevirtual 177, 3, 1143, 2, 0, 11, 935),
  (35, .iload_n 2, 1, 0, 0, 0, 0, 0),
  (36, .ireturn, 1, 1, 0, 0, 0, 0)]
/-- TollsThatPay.above(II)I -/
def z_c1118 : List z_E := [(0, .aload_n 0, 1, 0, 0, 0, 0, 0),
  (1, .iload_n 1, 1, 0, 0, 0, 0, 0),
  (2, .invokevirtual 171, 3, 1141, 2, 1, 11, 906),
  (5, .ifCond .ne 5, 3, 10, 0, 0, 0, 0),
  (8, .iconst (-1), 1, 0, 0, 0, (-1), 0),
  (9, .ireturn, 1, 1, 0, 0, 0, 0),
  (10, .aload_n 0, 1, 0, 0, 0, 0, 0),
  (11, .invokevirtual 124, 3, 1139, 1, 0, 11, 768),
  (14, .aload_n 0, 1, 0, 0, 0, 0, 0),
  (15, .getfield 64, 3, 11, 4, 1, 0, 495),
  (18, .iload_n 1, 1, 0, 0, 0, 0, 0),
  (19, .iload_n 2, 1, 0, 0, 0, 0, 0),
  (20, .invokevirtual 200, 3, 904, 3, 1, 9, 988),
  (23, .ireturn, 1, 1, 0, 0, 0, 0)]
/-- TollsThatPay.line(I)I -/
def z_c1119 : List z_E := [(0, .aload_n 0, 1, 0, 0, 0, 0, 0),
  (1, .getfield 26, 3, 11, 7, 1, 0, 498),
  (4, .getfield 48, 3, 3, 0, 1, 0, 256),
  (7, .iload_n 1, 1, 0, 0, 0, 0, 0),
  (8, .invokevirtual 105, 3, 607, 2, 1, 6, 754),
  (11, .istore_n 2, 1, 0, 0, 0, 0, 0),
  (12, .iload_n 2, 1, 0, 0, 0, 0, 0),
  (13, .ifCond .ge 5, 3, 18, 0, 0, 0, 0),
  (16, .iconst (-1), 1, 0, 0, 0, (-1), 0),
  (17, .ireturn, 1, 1, 0, 0, 0, 0),
  (18, .aload_n 0, 1, 0, 0, 0, 0, 0),
  (19, .invokevirtual 124, 3, 1139, 1, 0, 11, 768),
  (22, .aload_n 0, 1, 0, 0, 0, 0, 0),
  (23, .getfield 64, 3, 11, 4, 1, 0, 495),
  (26, .iload_n 2, 1, 0, 0, 0, 0, 0),
  (27, .invokevirtual 203, 3, 905, 2, 1, 9, 997),
  (30, .istore_n 3, 1, 0, 0, 0, 0, 0),
  (31, .aload_n 0, 1, 0, 0, 0, 0, 0),
  (32, .getfield 19, 3, 11, 1, 1, 0, 492),
  (35, .invokevirtual 206, 3, 701, 1, 0, 7, 939),
  (38, .iconst 0, 1, 0, 0, 0, 0, 0),
  (39, .istore 4, 2, 0, 0, 0, 0, 0),
  (41, .iload 4, 2, 0, 0, 0, 0, 0),
  (43, .aload_n 0, 1, 0, 0, 0, 0, 0),
  (44, .getfield 26, 3, 11, 7, 1, 0, 498),
  (47, .getfield 48, 3, 3, 0, 1, 0, 256),
  (50, .getfield 110, 3, 6, 2, 0, 0, 176),
  (53, .if_icmp .gt 25, 3, 78, 0, 0, 0, 0),
  (56, .aload_n 0, 1, 0, 0, 0, 0, 0),
  (57, .getfield 19, 3, 11, 1, 1, 0, 492),
  (60, .aload_n 0, 1, 0, 0, 0, 0, 0),
  (61, .getfield 64, 3, 11, 4, 1, 0, 495),
  (64, .iload 4, 2, 0, 0, 0, 0, 0),
  (66, .invokevirtual 209, 3, 908, 2, 1, 9, 1009),
  (69, .invokevirtual 212, 3, 702, 2, 0, 7, 944),
  (72, .iinc 4 1, 3, 0, 0, 0, 0, 0),
  (75, .goto (-34), 3, 41, 0, 0, 0, 0),
  (78, .iload_n 3, 1, 0, 0, 0, 0, 0),
  (79, .ireturn, 1, 1, 0, 0, 0, 0)]
/-- TollsThatPay.bends(I)I -/
def z_c1120 : List z_E := [(0, .aload_n 0, 1, 0, 0, 0, 0, 0),
  (1, .getfield 26, 3, 11, 7, 1, 0, 498),
  (4, .getfield 48, 3, 3, 0, 1, 0, 256),
  (7, .iload_n 1, 1, 0, 0, 0, 0, 0),
  (8, .invokevirtual 105, 3, 607, 2, 1, 6, 754),
  (11, .istore_n 2, 1, 0, 0, 0, 0, 0),
  (12, .iload_n 2, 1, 0, 0, 0, 0, 0),
  (13, .ifCond .ge 5, 3, 18, 0, 0, 0, 0),
  (16, .iconst (-1), 1, 0, 0, 0, (-1), 0),
  (17, .ireturn, 1, 1, 0, 0, 0, 0),
  (18, .aload_n 0, 1, 0, 0, 0, 0, 0),
  (19, .invokevirtual 124, 3, 1139, 1, 0, 11, 768),
  (22, .aload_n 0, 1, 0, 0, 0, 0, 0),
  (23, .getfield 64, 3, 11, 4, 1, 0, 495),
  (26, .iload_n 2, 1, 0, 0, 0, 0, 0),
  (27, .invokevirtual 203, 3, 905, 2, 1, 9, 997),
  (30, .pop, 1, 0, 0, 0, 0, 0),
  (31, .aload_n 0, 1, 0, 0, 0, 0, 0),
  (32, .getfield 19, 3, 11, 1, 1, 0, 492),
  (35, .invokevirtual 206, 3, 701, 1, 0, 7, 939),
  (38, .iconst 1, 1, 0, 0, 0, 1, 0),
  (39, .istore_n 3, 1, 0, 0, 0, 0, 0),
  (40, .iload_n 3, 1, 0, 0, 0, 0, 0),
  (41, .aload_n 0, 1, 0, 0, 0, 0, 0),
  (42, .getfield 26, 3, 11, 7, 1, 0, 498),
  (45, .getfield 48, 3, 3, 0, 1, 0, 256),
  (48, .getfield 110, 3, 6, 2, 0, 0, 176),
  (51, .if_icmp .ge 56, 3, 107, 0, 0, 0, 0),
  (54, .aload_n 0, 1, 0, 0, 0, 0, 0),
  (55, .getfield 64, 3, 11, 4, 1, 0, 495),
  (58, .iload_n 3, 1, 0, 0, 0, 0, 0),
  (59, .invokevirtual 209, 3, 908, 2, 1, 9, 1009),
  (62, .istore 4, 2, 0, 0, 0, 0, 0),
  (64, .aload_n 0, 1, 0, 0, 0, 0, 0),
  (65, .getfield 64, 3, 11, 4, 1, 0, 495),
  (68, .iload_n 3, 1, 0, 0, 0, 0, 0),
  (69, .iconst 1, 1, 0, 0, 0, 1, 0),
  (70, .iadd, 1, 0, 0, 0, 0, 0),
  (71, .invokevirtual 209, 3, 908, 2, 1, 9, 1009),
  (74, .iload 4, 2, 0, 0, 0, 0, 0),
  (76, .isub, 1, 0, 0, 0, 0, 0),
  (77, .iload 4, 2, 0, 0, 0, 0, 0),
  (79, .aload_n 0, 1, 0, 0, 0, 0, 0),
  (80, .getfield 64, 3, 11, 4, 1, 0, 495),
  (83, .iload_n 3, 1, 0, 0, 0, 0, 0),
  (84, .iconst 1, 1, 0, 0, 0, 1, 0),
  (85, .isub, 1, 0, 0, 0, 0, 0),
  (86, .invokevirtual 209, 3, 908, 2, 1, 9, 1009),
  (89, .isub, 1, 0, 0, 0, 0, 0),
  (90, .if_icmp .eq 11, 3, 101, 0, 0, 0, 0),
  (93, .aload_n 0, 1, 0, 0, 0, 0, 0),
  (94, .getfield 19, 3, 11, 1, 1, 0, 492),
  (97, .iload_n 3, 1, 0, 0, 0, 0, 0),
  (98, .invokevirtual 212, 3, 702, 2, 0, 7, 944),
  (101, .iinc 3 1, 3, 0, 0, 0, 0, 0),
  (104, .goto (-64), 3, 40, 0, 0, 0, 0),
  (107, .aload_n 0, 1, 0, 0, 0, 0, 0),
  (108, .getfield 19, 3, 11, 1, 1, 0, 492),
  (111, .getfield 215, 3, 7, 1, 0, 0, 144),
  (114, .ireturn, 1, 1, 0, 0, 0, 0)]
/-- TollsThatPay.climb(I)I -/
def z_c1121 : List z_E := [(0, .iload_n 1, 1, 0, 0, 0, 0, 0),
  (1, .invokestatic 143, 3, 1140, 1, 1, 0, 854),
  (4, .ifCond .ne 5, 3, 9, 0, 0, 0, 0),
  (7, .iconst (-1), 1, 0, 0, 0, (-1), 0),
  (8, .ireturn, 1, 1, 0, 0, 0, 0),
  (9, .aload_n 0, 1, 0, 0, 0, 0, 0),
  (10, .invokevirtual 124, 3, 1139, 1, 0, 11, 768),
  (13, .aload_n 0, 1, 0, 0, 0, 0, 0),
  (14, .getfield 64, 3, 11, 4, 1, 0, 495),
  (17, .iload_n 1, 1, 0, 0, 0, 0, 0),
  (18, .invokevirtual 216, 3, 909, 2, 1, 9, 1021),
  (21, .istore_n 2, 1, 0, 0, 0, 0, 0),
  (22, .aload_n 0, 1, 0, 0, 0, 0, 0),
  (23, .getfield 19, 3, 11, 1, 1, 0, 492),
  (26, .invokevirtual 206, 3, 701, 1, 0, 7, 939),
  (29, .aload_n 0, 1, 0, 0, 0, 0, 0),
  (30, .getfield 19, 3, 11, 1, 1, 0, 492),
  (33, .aload_n 0, 1, 0, 0, 0, 0, 0),
  (34, .getfield 64, 3, 11, 4, 1, 0, 495),
  (37, .getfield 219, 3, 9, 2, 0, 0, 438),
  (40, .invokevirtual 212, 3, 702, 2, 0, 7, 944),
  (43, .aload_n 0, 1, 0, 0, 0, 0, 0),
  (44, .aload_n 0, 1, 0, 0, 0, 0, 0),
  (45, .getfield 64, 3, 11, 4, 1, 0, 495),
  (48, .getfield 222, 3, 9, 3, 1, 0, 440),
  (51, .aload_n 0, 1, 0, 0, 0, 0, 0),
  (52, .getfield 26, 3, 11, 7, 1, 0, 498),
  (55, .getfield 48, 3, 3, 0, 1, 0, 256),
  (58, .iload_n 1, 1, 0, 0, 0, 0, 0),
  (59, .invokevirtual 146, 3, 613, 2, 1, 6, 857),
  (62, .invokevirtual 225, 3, 1144, 3, 0, 11, 940),
  (65, .iload_n 2, 1, 0, 0, 0, 0, 0),
  (66, .ireturn, 1, 1, 0, 0, 0, 0)]
/-- TollsThatPay.gap(I)I -/
def z_c1122 : List z_E := [(0, .aload_n 0, 1, 0, 0, 0, 0, 0),
  (1, .iload_n 1, 1, 0, 0, 0, 0, 0),
  (2, .invokevirtual 171, 3, 1141, 2, 1, 11, 906),
  (5, .ifCond .ne 5, 3, 10, 0, 0, 0, 0),
  (8, .iconst (-1), 1, 0, 0, 0, (-1), 0),
  (9, .ireturn, 1, 1, 0, 0, 0, 0),
  (10, .aload_n 0, 1, 0, 0, 0, 0, 0),
  (11, .invokevirtual 124, 3, 1139, 1, 0, 11, 768),
  (14, .aload_n 0, 1, 0, 0, 0, 0, 0),
  (15, .getfield 55, 3, 11, 3, 1, 0, 494),
  (18, .iload_n 1, 1, 0, 0, 0, 0, 0),
  (19, .invokevirtual 174, 3, 411, 2, 1, 4, 912),
  (22, .istore_n 2, 1, 0, 0, 0, 0, 0),
  (23, .aload_n 0, 1, 0, 0, 0, 0, 0),
  (24, .getfield 64, 3, 11, 4, 1, 0, 495),
  (27, .iload_n 1, 1, 0, 0, 0, 0, 0),
  (28, .invokevirtual 216, 3, 909, 2, 1, 9, 1021),
  (31, .pop, 1, 0, 0, 0, 0, 0),
  (32, .iload_n 2, 1, 0, 0, 0, 0, 0),
  (33, .aload_n 0, 1, 0, 0, 0, 0, 0),
  (34, .getfield 64, 3, 11, 4, 1, 0, 495),
  (37, .getfield 219, 3, 9, 2, 0, 0, 438),
  (40, .isub, 1, 0, 0, 0, 0, 0),
  (41, .ireturn, 1, 1, 0, 0, 0, 0)]
/-- TollsThatPay.times(I)I -/
def z_c1123 : List z_E := [(0, .aload_n 0, 1, 0, 0, 0, 0, 0),
  (1, .iload_n 1, 1, 0, 0, 0, 0, 0),
  (2, .invokevirtual 171, 3, 1141, 2, 1, 11, 906),
  (5, .ifCond .ne 5, 3, 10, 0, 0, 0, 0),
  (8, .iconst (-1), 1, 0, 0, 0, (-1), 0),
  (9, .ireturn, 1, 1, 0, 0, 0, 0),
  (10, .aload_n 0, 1, 0, 0, 0, 0, 0),
  (11, .invokevirtual 124, 3, 1139, 1, 0, 11, 768),
  (14, .aload_n 0, 1, 0, 0, 0, 0, 0),
  (15, .getfield 19, 3, 11, 1, 1, 0, 492),
  (18, .invokevirtual 206, 3, 701, 1, 0, 7, 939),
  (21, .iconst 0, 1, 0, 0, 0, 0, 0),
  (22, .istore_n 2, 1, 0, 0, 0, 0, 0),
  (23, .iconst 0, 1, 0, 0, 0, 0, 0),
  (24, .istore_n 3, 1, 0, 0, 0, 0, 0),
  (25, .iload_n 3, 1, 0, 0, 0, 0, 0),
  (26, .iconst 4, 1, 0, 0, 0, 4, 0),
  (27, .if_icmp .ge 41, 3, 68, 0, 0, 0, 0),
  (30, .aload_n 0, 1, 0, 0, 0, 0, 0),
  (31, .getfield 55, 3, 11, 3, 1, 0, 494),
  (34, .iload_n 3, 1, 0, 0, 0, 0, 0),
  (35, .invokevirtual 231, 3, 402, 2, 0, 4, 1041),
  (38, .aload_n 0, 1, 0, 0, 0, 0, 0),
  (39, .getfield 55, 3, 11, 3, 1, 0, 494),
  (42, .iload_n 1, 1, 0, 0, 0, 0, 0),
  (43, .invokevirtual 174, 3, 411, 2, 1, 4, 912),
  (46, .istore 4, 2, 0, 0, 0, 0, 0),
  (48, .aload_n 0, 1, 0, 0, 0, 0, 0),
  (49, .getfield 19, 3, 11, 1, 1, 0, 492),
  (52, .iload 4, 2, 0, 0, 0, 0, 0),
  (54, .invokevirtual 212, 3, 702, 2, 0, 7, 944),
  (57, .iload_n 2, 1, 0, 0, 0, 0, 0),
  (58, .iload 4, 2, 0, 0, 0, 0, 0),
  (60, .iadd, 1, 0, 0, 0, 0, 0),
  (61, .istore_n 2, 1, 0, 0, 0, 0, 0),
  (62, .iinc 3 1, 3, 0, 0, 0, 0, 0),
  (65, .goto (-40), 3, 25, 0, 0, 0, 0),
  (68, .iload_n 2, 1, 0, 0, 0, 0, 0),
  (69, .ireturn, 1, 1, 0, 0, 0, 0)]
/-- TollsThatPay.answers(I)I -/
def z_c1124 : List z_E := [(0, .iload_n 1, 1, 0, 0, 0, 0, 0),
  (1, .iconst 1, 1, 0, 0, 0, 1, 0),
  (2, .if_icmp .lt 25, 3, 27, 0, 0, 0, 0),
  (5, .iload_n 1, 1, 0, 0, 0, 0, 0),
  (6, .bipush 60, 2, 0, 0, 0, 60, 0),
  (8, .if_icmp .gt 19, 3, 27, 0, 0, 0, 0),
  (11, .aload_n 0, 1, 0, 0, 0, 0, 0),
  (12, .iconst 0, 1, 0, 0, 0, 0, 0),
  (13, .invokevirtual 171, 3, 1141, 2, 1, 11, 906),
  (16, .ifCond .eq 11, 3, 27, 0, 0, 0, 0),
  (19, .aload_n 0, 1, 0, 0, 0, 0, 0),
  (20, .iconst 1, 1, 0, 0, 0, 1, 0),
  (21, .invokevirtual 171, 3, 1141, 2, 1, 11, 906),
  (24, .ifCond .ne 5, 3, 29, 0, 0, 0, 0),
  (27, .iconst (-1), 1, 0, 0, 0, (-1), 0),
  (28, .ireturn, 1, 1, 0, 0, 0, 0),
  (29, .aload_n 0, 1, 0, 0, 0, 0, 0),
  (30, .invokevirtual 124, 3, 1139, 1, 0, 11, 768),
  (33, .aload_n 0, 1, 0, 0, 0, 0, 0),
  (34, .getfield 73, 3, 11, 5, 1, 0, 496),
  (37, .iload_n 1, 1, 0, 0, 0, 0, 0),
  (38, .aload_n 0, 1, 0, 0, 0, 0, 0),
  (39, .getfield 26, 3, 11, 7, 1, 0, 498),
  (42, .getfield 48, 3, 3, 0, 1, 0, 256),
  (45, .invokevirtual 234, 3, 2, 3, 1, 0, 1057),
  (48, .istore_n 2, 1, 0, 0, 0, 0, 0),
  (49, .aload_n 0, 1, 0, 0, 0, 0, 0),
  (50, .getfield 19, 3, 11, 1, 1, 0, 492),
  (53, .invokevirtual 206, 3, 701, 1, 0, 7, 939),
  (56, .aload_n 0, 1, 0, 0, 0, 0, 0),
  (57, .getfield 19, 3, 11, 1, 1, 0, 492),
  (60, .aload_n 0, 1, 0, 0, 0, 0, 0),
  (61, .getfield 73, 3, 11, 5, 1, 0, 496),
  (64, .iconst 0, 1, 0, 0, 0, 0, 0),
  (65, .aload_n 0, 1, 0, 0, 0, 0, 0),
  (66, .getfield 73, 3, 11, 5, 1, 0, 496),
  (69, .getfield 238, 3, 0, 0, 1, 0, 478),
  (72, .aload_n 0, 1, 0, 0, 0, 0, 0),
  (73, .getfield 26, 3, 11, 7, 1, 0, 498),
  (76, .getfield 48, 3, 3, 0, 1, 0, 256),
  (79, .invokevirtual 239, 3, 1, 4, 1, 0, 1072),
  (82, .invokevirtual 212, 3, 702, 2, 0, 7, 944),
  (85, .aload_n 0, 1, 0, 0, 0, 0, 0),
  (86, .getfield 19, 3, 11, 1, 1, 0, 492),
  (89, .aload_n 0, 1, 0, 0, 0, 0, 0),
  (90, .getfield 73, 3, 11, 5, 1, 0, 496),
  (93, .iconst 1, 1, 0, 0, 0, 1, 0),
  (94, .aload_n 0, 1, 0, 0, 0, 0, 0),
  (95, .getfield 73, 3, 11, 5, 1, 0, 496),
  (98, .getfield 238, 3, 0, 0, 1, 0, 478),
  (101, .aload_n 0, 1, 0, 0, 0, 0, 0),
  (102, .getfield 26, 3, 11, 7, 1, 0, 498),
  (105, .getfield 48, 3, 3, 0, 1, 0, 256),
  (108, .invokevirtual 239, 3, 1, 4, 1, 0, 1072),
  (111, .invokevirtual 212, 3, 702, 2, 0, 7, 944),
  (114, .aload_n 0, 1, 0, 0, 0, 0, 0),
  (115, .aload_n 0, 1, 0, 0, 0, 0, 0),
  (116, .getfield 73, 3, 11, 5, 1, 0, 496),
  (119, .getfield 238, 3, 0, 0, 1, 0, 478),
  (122, .aload_n 0, 1, 0, 0, 0, 0, 0),
  (123, .getfield 26, 3, 11, 7, 1, 0, 498),
  (126, .getfield 48, 3, 3, 0, 1, 0, 256),
  (129, .invokevirtual 242, 3, 614, 1, 1, 6, 1078),
  (132, .invokevirtual 225, 3, 1144, 3, 0, 11, 940),
  (135, .iload_n 2, 1, 0, 0, 0, 0, 0),
  (136, .ireturn, 1, 1, 0, 0, 0, 0)]
/-- TollsThatPay.rests()I -/
def z_c1125 : List z_E := [(0, .aload_n 0, 1, 0, 0, 0, 0, 0),
  (1, .getfield 26, 3, 11, 7, 1, 0, 498),
  (4, .getfield 48, 3, 3, 0, 1, 0, 256),
  (7, .getfield 110, 3, 6, 2, 0, 0, 176),
  (10, .iconst 1, 1, 0, 0, 0, 1, 0),
  (11, .iadd, 1, 0, 0, 0, 0, 0),
  (12, .aload_n 0, 1, 0, 0, 0, 0, 0),
  (13, .getfield 26, 3, 11, 7, 1, 0, 498),
  (16, .getfield 48, 3, 3, 0, 1, 0, 256),
  (19, .getfield 245, 3, 6, 1, 0, 0, 170),
  (22, .invokestatic 248, 3, 617, 2, 1, 0, 911),
  (25, .sipush 2000, 3, 0, 0, 0, 2000, 0),
  (28, .if_icmp .le 5, 3, 33, 0, 0, 0, 0),
  (31, .iconst (-1), 1, 0, 0, 0, (-1), 0),
  (32, .ireturn, 1, 1, 0, 0, 0, 0),
  (33, .aload_n 0, 1, 0, 0, 0, 0, 0),
  (34, .invokevirtual 124, 3, 1139, 1, 0, 11, 768),
  (37, .aload_n 0, 1, 0, 0, 0, 0, 0),
  (38, .getfield 73, 3, 11, 5, 1, 0, 496),
  (41, .aload_n 0, 1, 0, 0, 0, 0, 0),
  (42, .getfield 26, 3, 11, 7, 1, 0, 498),
  (45, .getfield 48, 3, 3, 0, 1, 0, 256),
  (48, .invokevirtual 251, 3, 5, 2, 1, 0, 1086),
  (51, .istore_n 1, 1, 0, 0, 0, 0, 0),
  (52, .aload_n 0, 1, 0, 0, 0, 0, 0),
  (53, .getfield 19, 3, 11, 1, 1, 0, 492),
  (56, .invokevirtual 206, 3, 701, 1, 0, 7, 939),
  (59, .iload_n 1, 1, 0, 0, 0, 0, 0),
  (60, .ifCond .le 82, 3, 142, 0, 0, 0, 0),
  (63, .aload_n 0, 1, 0, 0, 0, 0, 0),
  (64, .aload_n 0, 1, 0, 0, 0, 0, 0),
  (65, .getfield 73, 3, 11, 5, 1, 0, 496),
  (68, .getfield 238, 3, 0, 0, 1, 0, 478),
  (71, .aload_n 0, 1, 0, 0, 0, 0, 0),
  (72, .getfield 26, 3, 11, 7, 1, 0, 498),
  (75, .getfield 48, 3, 3, 0, 1, 0, 256),
  (78, .invokevirtual 242, 3, 614, 1, 1, 6, 1078),
  (81, .invokevirtual 225, 3, 1144, 3, 0, 11, 940),
  (84, .aload_n 0, 1, 0, 0, 0, 0, 0),
  (85, .getfield 19, 3, 11, 1, 1, 0, 492),
  (88, .aload_n 0, 1, 0, 0, 0, 0, 0),
  (89, .getfield 73, 3, 11, 5, 1, 0, 496),
  (92, .iconst 0, 1, 0, 0, 0, 0, 0),
  (93, .aload_n 0, 1, 0, 0, 0, 0, 0),
  (94, .getfield 73, 3, 11, 5, 1, 0, 496),
  (97, .getfield 238, 3, 0, 0, 1, 0, 478),
  (100, .aload_n 0, 1, 0, 0, 0, 0, 0),
  (101, .getfield 26, 3, 11, 7, 1, 0, 498),
  (104, .getfield 48, 3, 3, 0, 1, 0, 256),
  (107, .invokevirtual 239, 3, 1, 4, 1, 0, 1072),
  (110, .invokevirtual 212, 3, 702, 2, 0, 7, 944),
  (113, .aload_n 0, 1, 0, 0, 0, 0, 0),
  (114, .getfield 19, 3, 11, 1, 1, 0, 492),
  (117, .aload_n 0, 1, 0, 0, 0, 0, 0),
  (118, .getfield 73, 3, 11, 5, 1, 0, 496),
  (121, .iconst 1, 1, 0, 0, 0, 1, 0),
  (122, .aload_n 0, 1, 0, 0, 0, 0, 0),
  (123, .getfield 73, 3, 11, 5, 1, 0, 496),
  (126, .getfield 238, 3, 0, 0, 1, 0, 478),
  (129, .aload_n 0, 1, 0, 0, 0, 0, 0),
  (130, .getfield 26, 3, 11, 7, 1, 0, 498),
  (133, .getfield 48, 3, 3, 0, 1, 0, 256),
  (136, .invokevirtual 239, 3, 1, 4, 1, 0, 1072),
  (139, .invokevirtual 212, 3, 702, 2, 0, 7, 944),
  (142, .iload_n 1, 1, 0, 0, 0, 0, 0),
  (143, .ireturn, 1, 1, 0, 0, 0, 0)]
/-- TollsThatPay.spare(II)I -/
def z_c1126 : List z_E := [(0, .aload_n 0, 1, 0, 0, 0, 0, 0),
  (1, .iload_n 1, 1, 0, 0, 0, 0, 0),
  (2, .invokevirtual 171, 3, 1141, 2, 1, 11, 906),
  (5, .ifCond .eq 25, 3, 30, 0, 0, 0, 0),
  (8, .iload_n 2, 1, 0, 0, 0, 0, 0),
  (9, .ifCond .lt 21, 3, 30, 0, 0, 0, 0),
  (12, .iload_n 2, 1, 0, 0, 0, 0, 0),
  (13, .aload_n 0, 1, 0, 0, 0, 0, 0),
  (14, .getfield 26, 3, 11, 7, 1, 0, 498),
  (17, .getfield 48, 3, 3, 0, 1, 0, 256),
  (20, .iload_n 1, 1, 0, 0, 0, 0, 0),
  (21, .invokevirtual 146, 3, 613, 2, 1, 6, 857),
  (24, .invokestatic 255, 3, 1300, 1, 1, 0, 910),
  (27, .if_icmp .le 5, 3, 32, 0, 0, 0, 0),
  (30, .iconst (-1), 1, 0, 0, 0, (-1), 0),
  (31, .ireturn, 1, 1, 0, 0, 0, 0),
  (32, .aload_n 0, 1, 0, 0, 0, 0, 0),
  (33, .invokevirtual 124, 3, 1139, 1, 0, 11, 768),
  (36, .aload_n 0, 1, 0, 0, 0, 0, 0),
  (37, .getfield 64, 3, 11, 4, 1, 0, 495),
  (40, .iload_n 1, 1, 0, 0, 0, 0, 0),
  (41, .iload_n 2, 1, 0, 0, 0, 0, 0),
  (42, .invokevirtual 260, 3, 913, 3, 1, 9, 1111),
  (45, .istore_n 3, 1, 0, 0, 0, 0, 0),
  (46, .aload_n 0, 1, 0, 0, 0, 0, 0),
  (47, .getfield 19, 3, 11, 1, 1, 0, 492),
  (50, .invokevirtual 206, 3, 701, 1, 0, 7, 939),
  (53, .aload_n 0, 1, 0, 0, 0, 0, 0),
  (54, .getfield 19, 3, 11, 1, 1, 0, 492),
  (57, .aload_n 0, 1, 0, 0, 0, 0, 0),
  (58, .getfield 26, 3, 11, 7, 1, 0, 498),
  (61, .getfield 48, 3, 3, 0, 1, 0, 256),
  (64, .aload_n 0, 1, 0, 0, 0, 0, 0),
  (65, .getfield 64, 3, 11, 4, 1, 0, 495),
  (68, .getfield 263, 3, 9, 0, 0, 0, 434),
  (71, .invokevirtual 266, 3, 615, 2, 1, 6, 1122),
  (74, .invokevirtual 212, 3, 702, 2, 0, 7, 944),
  (77, .aload_n 0, 1, 0, 0, 0, 0, 0),
  (78, .getfield 19, 3, 11, 1, 1, 0, 492),
  (81, .aload_n 0, 1, 0, 0, 0, 0, 0),
  (82, .getfield 64, 3, 11, 4, 1, 0, 495),
  (85, .getfield 269, 3, 9, 1, 0, 0, 436),
  (88, .invokevirtual 212, 3, 702, 2, 0, 7, 944),
  (91, .iload_n 3, 1, 0, 0, 0, 0, 0),
  (92, .ireturn, 1, 1, 0, 0, 0, 0)]
/-- TollsThatPay.ceiling(I)I -/
def z_c1127 : List z_E := [(0, .aload_n 0, 1, 0, 0, 0, 0, 0),
  (1, .iload_n 1, 1, 0, 0, 0, 0, 0),
  (2, .invokevirtual 171, 3, 1141, 2, 1, 11, 906),
  (5, .ifCond .ne 5, 3, 10, 0, 0, 0, 0),
  (8, .iconst (-1), 1, 0, 0, 0, (-1), 0),
  (9, .ireturn, 1, 1, 0, 0, 0, 0),
  (10, .aload_n 0, 1, 0, 0, 0, 0, 0),
  (11, .invokevirtual 124, 3, 1139, 1, 0, 11, 768),
  (14, .aload_n 0, 1, 0, 0, 0, 0, 0),
  (15, .getfield 64, 3, 11, 4, 1, 0, 495),
  (18, .iload_n 1, 1, 0, 0, 0, 0, 0),
  (19, .invokevirtual 272, 3, 914, 2, 1, 9, 1130),
  (22, .istore_n 2, 1, 0, 0, 0, 0, 0),
  (23, .aload_n 0, 1, 0, 0, 0, 0, 0),
  (24, .getfield 19, 3, 11, 1, 1, 0, 492),
  (27, .invokevirtual 206, 3, 701, 1, 0, 7, 939),
  (30, .aload_n 0, 1, 0, 0, 0, 0, 0),
  (31, .getfield 19, 3, 11, 1, 1, 0, 492),
  (34, .aload_n 0, 1, 0, 0, 0, 0, 0),
  (35, .getfield 64, 3, 11, 4, 1, 0, 495),
  (38, .getfield 263, 3, 9, 0, 0, 0, 434),
  (41, .invokevirtual 212, 3, 702, 2, 0, 7, 944),
  (44, .aload_n 0, 1, 0, 0, 0, 0, 0),
  (45, .getfield 19, 3, 11, 1, 1, 0, 492),
  (48, .aload_n 0, 1, 0, 0, 0, 0, 0),
  (49, .getfield 64, 3, 11, 4, 1, 0, 495),
  (52, .getfield 269, 3, 9, 1, 0, 0, 436),
  (55, .invokevirtual 212, 3, 702, 2, 0, 7, 944),
  (58, .iload_n 2, 1, 0, 0, 0, 0, 0),
  (59, .ireturn, 1, 1, 0, 0, 0, 0)]
/-- TollsThatPay.without(II)I -/
def z_c1128 : List z_E := [(0, .aload_n 0, 1, 0, 0, 0, 0, 0),
  (1, .iload_n 1, 1, 0, 0, 0, 0, 0),
  (2, .invokevirtual 171, 3, 1141, 2, 1, 11, 906),
  (5, .ifCond .eq 17, 3, 22, 0, 0, 0, 0),
  (8, .aload_n 0, 1, 0, 0, 0, 0, 0),
  (9, .getfield 26, 3, 11, 7, 1, 0, 498),
  (12, .getfield 48, 3, 3, 0, 1, 0, 256),
  (15, .iload_n 2, 1, 0, 0, 0, 0, 0),
  (16, .invokevirtual 155, 3, 605, 2, 1, 6, 887),
  (19, .ifCond .ne 5, 3, 24, 0, 0, 0, 0),
  (22, .iconst (-1), 1, 0, 0, 0, (-1), 0),
  (23, .ireturn, 1, 1, 0, 0, 0, 0),
  (24, .aload_n 0, 1, 0, 0, 0, 0, 0),
  (25, .invokevirtual 124, 3, 1139, 1, 0, 11, 768),
  (28, .aload_n 0, 1, 0, 0, 0, 0, 0),
  (29, .getfield 55, 3, 11, 3, 1, 0, 494),
  (32, .iload_n 1, 1, 0, 0, 0, 0, 0),
  (33, .invokevirtual 174, 3, 411, 2, 1, 4, 912),
  (36, .istore_n 3, 1, 0, 0, 0, 0, 0),
  (37, .aload_n 0, 1, 0, 0, 0, 0, 0),
  (38, .getfield 30, 3, 11, 8, 1, 0, 499),
  (41, .aload_n 0, 1, 0, 0, 0, 0, 0),
  (42, .getfield 26, 3, 11, 7, 1, 0, 498),
  (45, .invokevirtual 89, 3, 301, 2, 0, 3, 542),
  (48, .aload_n 0, 1, 0, 0, 0, 0, 0),
  (49, .getfield 30, 3, 11, 8, 1, 0, 499),
  (52, .getfield 48, 3, 3, 0, 1, 0, 256),
  (55, .iload_n 2, 1, 0, 0, 0, 0, 0),
  (56, .invokevirtual 275, 3, 604, 2, 0, 6, 1138),
  (59, .aload_n 0, 1, 0, 0, 0, 0, 0),
  (60, .getfield 42, 3, 11, 2, 1, 0, 493),
  (63, .aload_n 0, 1, 0, 0, 0, 0, 0),
  (64, .getfield 30, 3, 11, 8, 1, 0, 499),
  (67, .invokevirtual 101, 3, 101, 2, 1, 1, 631),
  (70, .pop, 1, 0, 0, 0, 0, 0),
  (71, .aload_n 0, 1, 0, 0, 0, 0, 0),
  (72, .getfield 55, 3, 11, 3, 1, 0, 494),
  (75, .aload_n 0, 1, 0, 0, 0, 0, 0),
  (76, .getfield 30, 3, 11, 8, 1, 0, 499),
  (79, .getfield 48, 3, 3, 0, 1, 0, 256),
  (82, .aload_n 0, 1, 0, 0, 0, 0, 0),
  (83, .getfield 117, 3, 11, 9, 0, 0, 500),
  (86, .invokevirtual 190, 3, 401, 3, 0, 4, 772),
  (89, .aload_n 0, 1, 0, 0, 0, 0, 0),
  (90, .getfield 55, 3, 11, 3, 1, 0, 494),
  (93, .iload_n 1, 1, 0, 0, 0, 0, 0),
  (94, .invokevirtual 174, 3, 411, 2, 1, 4, 912),
  (97, .istore 4, 2, 0, 0, 0, 0, 0),
  (99, .aload_n 0, 1, 0, 0, 0, 0, 0),
  (100, .getfield 42, 3, 11, 2, 1, 0, 493),
  (103, .aload_n 0, 1, 0, 0, 0, 0, 0),
  (104, .getfield 26, 3, 11, 7, 1, 0, 498),
  (107, .invokevirtual 101, 3, 101, 2, 1, 1, 631),
  (110, .pop, 1, 0, 0, 0, 0, 0),
  (111, .iload 4, 2, 0, 0, 0, 0, 0),
  (113, .iload_n 3, 1, 0, 0, 0, 0, 0),
  (114, .isub, 1, 0, 0, 0, 0, 0),
  (115, .ireturn, 1, 1, 0, 0, 0, 0)]
/-- TollsThatPay.ford(IIII)I -/
def z_c1129 : List z_E := [(0, .aload_n 0, 1, 0, 0, 0, 0, 0),
  (1, .iload_n 1, 1, 0, 0, 0, 0, 0),
  (2, .invokevirtual 171, 3, 1141, 2, 1, 11, 906),
  (5, .ifCond .eq 28, 3, 33, 0, 0, 0, 0),
  (8, .iload_n 2, 1, 0, 0, 0, 0, 0),
  (9, .iload_n 3, 1, 0, 0, 0, 0, 0),
  (10, .iload 4, 2, 0, 0, 0, 0, 0),
  (12, .invokestatic 278, 3, 606, 3, 1, 0, 1146),
  (15, .ifCond .eq 18, 3, 33, 0, 0, 0, 0),
  (18, .aload_n 0, 1, 0, 0, 0, 0, 0),
  (19, .getfield 26, 3, 11, 7, 1, 0, 498),
  (22, .getfield 48, 3, 3, 0, 1, 0, 256),
  (25, .getfield 281, 3, 6, 0, 0, 0, 166),
  (28, .bipush 14, 2, 0, 0, 0, 14, 0),
  (30, .if_icmp .lt 5, 3, 35, 0, 0, 0, 0),
  (33, .iconst (-1), 1, 0, 0, 0, (-1), 0),
  (34, .ireturn, 1, 1, 0, 0, 0, 0),
  (35, .aload_n 0, 1, 0, 0, 0, 0, 0),
  (36, .invokevirtual 124, 3, 1139, 1, 0, 11, 768),
  (39, .aload_n 0, 1, 0, 0, 0, 0, 0),
  (40, .getfield 55, 3, 11, 3, 1, 0, 494),
  (43, .iload_n 1, 1, 0, 0, 0, 0, 0),
  (44, .invokevirtual 174, 3, 411, 2, 1, 4, 912),
  (47, .istore 5, 2, 0, 0, 0, 0, 0),
  (49, .aload_n 0, 1, 0, 0, 0, 0, 0),
  (50, .getfield 30, 3, 11, 8, 1, 0, 499),
  (53, .aload_n 0, 1, 0, 0, 0, 0, 0),
  (54, .getfield 26, 3, 11, 7, 1, 0, 498),
  (57, .invokevirtual 89, 3, 301, 2, 0, 3, 542),
  (60, .aload_n 0, 1, 0, 0, 0, 0, 0),
  (61, .getfield 30, 3, 11, 8, 1, 0, 499),
  (64, .getfield 48, 3, 3, 0, 1, 0, 256),
  (67, .iconst (-1), 1, 0, 0, 0, (-1), 0),
  (68, .iload_n 2, 1, 0, 0, 0, 0, 0),
  (69, .iload_n 3, 1, 0, 0, 0, 0, 0),
  (70, .iload 4, 2, 0, 0, 0, 0, 0),
  (72, .iconst 0, 1, 0, 0, 0, 0, 0),
  (73, .invokevirtual 282, 3, 602, 6, 0, 6, 1149),
  (76, .iconst (-1), 1, 0, 0, 0, (-1), 0),
  (77, .istore 6, 2, 0, 0, 0, 0, 0),
  (79, .aload_n 0, 1, 0, 0, 0, 0, 0),
  (80, .getfield 42, 3, 11, 2, 1, 0, 493),
  (83, .aload_n 0, 1, 0, 0, 0, 0, 0),
  (84, .getfield 30, 3, 11, 8, 1, 0, 499),
  (87, .invokevirtual 101, 3, 101, 2, 1, 1, 631),
  (90, .ifCond .eq 34, 3, 124, 0, 0, 0, 0),
  (93, .aload_n 0, 1, 0, 0, 0, 0, 0),
  (94, .getfield 55, 3, 11, 3, 1, 0, 494),
  (97, .aload_n 0, 1, 0, 0, 0, 0, 0),
  (98, .getfield 30, 3, 11, 8, 1, 0, 499),
  (101, .getfield 48, 3, 3, 0, 1, 0, 256),
  (104, .aload_n 0, 1, 0, 0, 0, 0, 0),
  (105, .getfield 117, 3, 11, 9, 0, 0, 500),
  (108, .invokevirtual 190, 3, 401, 3, 0, 4, 772),
  (111, .aload_n 0, 1, 0, 0, 0, 0, 0),
  (112, .getfield 55, 3, 11, 3, 1, 0, 494),
  (115, .iload_n 1, 1, 0, 0, 0, 0, 0),
  (116, .invokevirtual 174, 3, 411, 2, 1, 4, 912),
  (119, .iload 5, 2, 0, 0, 0, 0, 0),
  (121, .isub, 1, 0, 0, 0, 0, 0),
  (122, .istore 6, 2, 0, 0, 0, 0, 0),
  (124, .aload_n 0, 1, 0, 0, 0, 0, 0),
  (125, .getfield 42, 3, 11, 2, 1, 0, 493),
  (128, .aload_n 0, 1, 0, 0, 0, 0, 0),
  (129, .getfield 26, 3, 11, 7, 1, 0, 498),
  (132, .invokevirtual 101, 3, 101, 2, 1, 1, 631),
  (135, .pop, 1, 0, 0, 0, 0, 0),
  (136, .iload 6, 2, 0, 0, 0, 0, 0),
  (138, .ireturn, 1, 1, 0, 0, 0, 0)]
/-- TollsThatPay.weight(II)I -/
def z_c1130 : List z_E := [(0, .iload_n 1, 1, 0, 0, 0, 0, 0),
  (1, .ifCond .lt 22, 3, 23, 0, 0, 0, 0),
  (4, .iload_n 1, 1, 0, 0, 0, 0, 0),
  (5, .aload_n 0, 1, 0, 0, 0, 0, 0),
  (6, .getfield 77, 3, 11, 6, 1, 0, 497),
  (9, .arraylength, 1, 0, 0, 0, 0, 0),
  (10, .if_icmp .ge 13, 3, 23, 0, 0, 0, 0),
  (13, .iload_n 2, 1, 0, 0, 0, 0, 0),
  (14, .ifCond .lt 9, 3, 23, 0, 0, 0, 0),
  (17, .iload_n 2, 1, 0, 0, 0, 0, 0),
  (18, .bipush 99, 2, 0, 0, 0, 99, 0),
  (20, .if_icmp .le 5, 3, 25, 0, 0, 0, 0),
  (23, .iconst (-1), 1, 0, 0, 0, (-1), 0),
  (24, .ireturn, 1, 1, 0, 0, 0, 0),
  (25, .aload_n 0, 1, 0, 0, 0, 0, 0),
  (26, .getfield 77, 3, 11, 6, 1, 0, 497),
  (29, .iload_n 1, 1, 0, 0, 0, 0, 0),
  (30, .iaload, 1, 0, 0, 0, 0, 0),
  (31, .istore_n 3, 1, 0, 0, 0, 0, 0),
  (32, .aload_n 0, 1, 0, 0, 0, 0, 0),
  (33, .getfield 77, 3, 11, 6, 1, 0, 497),
  (36, .iload_n 1, 1, 0, 0, 0, 0, 0),
  (37, .iload_n 2, 1, 0, 0, 0, 0, 0),
  (38, .iastore, 1, 0, 0, 0, 0, 0),
  (39, .iload_n 3, 1, 0, 0, 0, 0, 0),
  (40, .ireturn, 1, 1, 0, 0, 0, 0)]
/-- TollsThatPay.mean(I)I -/
def z_c1131 : List z_E := [(0, .aload_n 0, 1, 0, 0, 0, 0, 0),
  (1, .iload_n 1, 1, 0, 0, 0, 0, 0),
  (2, .invokevirtual 171, 3, 1141, 2, 1, 11, 906),
  (5, .ifCond .ne 5, 3, 10, 0, 0, 0, 0),
  (8, .iconst (-1), 1, 0, 0, 0, (-1), 0),
  (9, .ireturn, 1, 1, 0, 0, 0, 0),
  (10, .aload_n 0, 1, 0, 0, 0, 0, 0),
  (11, .invokevirtual 124, 3, 1139, 1, 0, 11, 768),
  (14, .aload_n 0, 1, 0, 0, 0, 0, 0),
  (15, .getfield 55, 3, 11, 3, 1, 0, 494),
  (18, .aload_n 0, 1, 0, 0, 0, 0, 0),
  (19, .getfield 77, 3, 11, 6, 1, 0, 497),
  (22, .invokevirtual 285, 3, 403, 2, 0, 4, 1158),
  (25, .aload_n 0, 1, 0, 0, 0, 0, 0),
  (26, .getfield 55, 3, 11, 3, 1, 0, 494),
  (29, .iload_n 1, 1, 0, 0, 0, 0, 0),
  (30, .invokevirtual 174, 3, 411, 2, 1, 4, 912),
  (33, .istore_n 2, 1, 0, 0, 0, 0, 0),
  (34, .aload_n 0, 1, 0, 0, 0, 0, 0),
  (35, .iload_n 1, 1, 0, 0, 0, 0, 0),
  (36, .invokevirtual 177, 3, 1143, 2, 0, 11, 935),
  (39, .iload_n 2, 1, 0, 0, 0, 0, 0),
  (40, .ireturn, 1, 1, 0, 0, 0, 0)]
/-- TollsThatPay.safe(I)I -/
def z_c1132 : List z_E := [(0, .aload_n 0, 1, 0, 0, 0, 0, 0),
  (1, .iload_n 1, 1, 0, 0, 0, 0, 0),
  (2, .invokevirtual 171, 3, 1141, 2, 1, 11, 906),
  (5, .ifCond .eq 10, 3, 15, 0, 0, 0, 0),
  (8, .aload_n 0, 1, 0, 0, 0, 0, 0),
  (9, .invokevirtual 289, 3, 1142, 1, 1, 11, 1178),
  (12, .ifCond .ne 5, 3, 17, 0, 0, 0, 0),
  (15, .iconst (-1), 1, 0, 0, 0, (-1), 0),
  (16, .ireturn, 1, 1, 0, 0, 0, 0),
  (17, .aload_n 0, 1, 0, 0, 0, 0, 0),
  (18, .invokevirtual 124, 3, 1139, 1, 0, 11, 768),
  (21, .aload_n 0, 1, 0, 0, 0, 0, 0),
  (22, .getfield 64, 3, 11, 4, 1, 0, 495),
  (25, .iload_n 1, 1, 0, 0, 0, 0, 0),
  (26, .aload_n 0, 1, 0, 0, 0, 0, 0),
  (27, .getfield 77, 3, 11, 6, 1, 0, 497),
  (30, .invokevirtual 293, 3, 915, 3, 1, 9, 1182),
  (33, .istore_n 2, 1, 0, 0, 0, 0, 0),
  (34, .aload_n 0, 1, 0, 0, 0, 0, 0),
  (35, .iload_n 1, 1, 0, 0, 0, 0, 0),
  (36, .invokevirtual 177, 3, 1143, 2, 0, 11, 935),
  (39, .iload_n 2, 1, 0, 0, 0, 0, 0),
  (40, .ireturn, 1, 1, 0, 0, 0, 0)]
/-- TollsThatPay.learn(II)I -/
def z_c1133 : List z_E := [(0, .aload_n 0, 1, 0, 0, 0, 0, 0),
  (1, .getfield 26, 3, 11, 7, 1, 0, 498),
  (4, .getfield 48, 3, 3, 0, 1, 0, 256),
  (7, .iload_n 1, 1, 0, 0, 0, 0, 0),
  (8, .invokevirtual 155, 3, 605, 2, 1, 6, 887),
  (11, .ifCond .eq 7, 3, 18, 0, 0, 0, 0),
  (14, .iload_n 2, 1, 0, 0, 0, 0, 0),
  (15, .ifCond .ge 5, 3, 20, 0, 0, 0, 0),
  (18, .iconst (-1), 1, 0, 0, 0, (-1), 0),
  (19, .ireturn, 1, 1, 0, 0, 0, 0),
  (20, .aload_n 0, 1, 0, 0, 0, 0, 0),
  (21, .invokevirtual 124, 3, 1139, 1, 0, 11, 768),
  (24, .aload_n 0, 1, 0, 0, 0, 0, 0),
  (25, .getfield 64, 3, 11, 4, 1, 0, 495),
  (28, .iload_n 1, 1, 0, 0, 0, 0, 0),
  (29, .iload_n 2, 1, 0, 0, 0, 0, 0),
  (30, .invokevirtual 297, 3, 917, 3, 1, 9, 1204),
  (33, .ireturn, 1, 1, 0, 0, 0, 0)]
/-- TollsThatPay.last(I)I -/
def z_c1134 : List z_E := [(0, .aload_n 0, 1, 0, 0, 0, 0, 0),
  (1, .getfield 26, 3, 11, 7, 1, 0, 498),
  (4, .getfield 48, 3, 3, 0, 1, 0, 256),
  (7, .iload_n 1, 1, 0, 0, 0, 0, 0),
  (8, .invokevirtual 105, 3, 607, 2, 1, 6, 754),
  (11, .istore_n 2, 1, 0, 0, 0, 0, 0),
  (12, .aload_n 0, 1, 0, 0, 0, 0, 0),
  (13, .getfield 26, 3, 11, 7, 1, 0, 498),
  (16, .getfield 48, 3, 3, 0, 1, 0, 256),
  (19, .iload_n 1, 1, 0, 0, 0, 0, 0),
  (20, .invokevirtual 300, 3, 608, 2, 1, 6, 1213),
  (23, .istore_n 3, 1, 0, 0, 0, 0, 0),
  (24, .iload_n 2, 1, 0, 0, 0, 0, 0),
  (25, .ifCond .lt 11, 3, 36, 0, 0, 0, 0),
  (28, .aload_n 0, 1, 0, 0, 0, 0, 0),
  (29, .iload_n 3, 1, 0, 0, 0, 0, 0),
  (30, .invokevirtual 171, 3, 1141, 2, 1, 11, 906),
  (33, .ifCond .ne 5, 3, 38, 0, 0, 0, 0),
  (36, .iconst (-1), 1, 0, 0, 0, (-1), 0),
  (37, .ireturn, 1, 1, 0, 0, 0, 0),
  (38, .aload_n 0, 1, 0, 0, 0, 0, 0),
  (39, .invokevirtual 124, 3, 1139, 1, 0, 11, 768),
  (42, .aload_n 0, 1, 0, 0, 0, 0, 0),
  (43, .getfield 55, 3, 11, 3, 1, 0, 494),
  (46, .iload_n 3, 1, 0, 0, 0, 0, 0),
  (47, .invokevirtual 174, 3, 411, 2, 1, 4, 912),
  (50, .aload_n 0, 1, 0, 0, 0, 0, 0),
  (51, .getfield 64, 3, 11, 4, 1, 0, 495),
  (54, .iload_n 3, 1, 0, 0, 0, 0, 0),
  (55, .iconst 1, 1, 0, 0, 0, 1, 0),
  (56, .iload_n 2, 1, 0, 0, 0, 0, 0),
  (57, .ishl, 1, 0, 0, 0, 0, 0),
  (58, .invokevirtual 303, 3, 912, 3, 1, 9, 1214),
  (61, .isub, 1, 0, 0, 0, 0, 0),
  (62, .ireturn, 1, 1, 0, 0, 0, 0)]
/-- TollsThatPay.fair(I)I -/
def z_c1135 : List z_E := [(0, .aload_n 0, 1, 0, 0, 0, 0, 0),
  (1, .getfield 26, 3, 11, 7, 1, 0, 498),
  (4, .getfield 48, 3, 3, 0, 1, 0, 256),
  (7, .iload_n 1, 1, 0, 0, 0, 0, 0),
  (8, .invokevirtual 105, 3, 607, 2, 1, 6, 754),
  (11, .istore_n 2, 1, 0, 0, 0, 0, 0),
  (12, .aload_n 0, 1, 0, 0, 0, 0, 0),
  (13, .getfield 26, 3, 11, 7, 1, 0, 498),
  (16, .getfield 48, 3, 3, 0, 1, 0, 256),
  (19, .iload_n 1, 1, 0, 0, 0, 0, 0),
  (20, .invokevirtual 300, 3, 608, 2, 1, 6, 1213),
  (23, .istore_n 3, 1, 0, 0, 0, 0, 0),
  (24, .iload_n 2, 1, 0, 0, 0, 0, 0),
  (25, .ifCond .lt 11, 3, 36, 0, 0, 0, 0),
  (28, .aload_n 0, 1, 0, 0, 0, 0, 0),
  (29, .iload_n 3, 1, 0, 0, 0, 0, 0),
  (30, .invokevirtual 171, 3, 1141, 2, 1, 11, 906),
  (33, .ifCond .ne 5, 3, 38, 0, 0, 0, 0),
  (36, .iconst (-1), 1, 0, 0, 0, (-1), 0),
  (37, .ireturn, 1, 1, 0, 0, 0, 0),
  (38, .aload_n 0, 1, 0, 0, 0, 0, 0),
  (39, .invokevirtual 124, 3, 1139, 1, 0, 11, 768),
  (42, .aload_n 0, 1, 0, 0, 0, 0, 0),
  (43, .getfield 64, 3, 11, 4, 1, 0, 495),
  (46, .iload_n 3, 1, 0, 0, 0, 0, 0),
  (47, .iload_n 2, 1, 0, 0, 0, 0, 0),
  (48, .invokevirtual 306, 3, 920, 3, 1, 9, 1222),
  (51, .istore 4, 2, 0, 0, 0, 0, 0),
  (53, .aload_n 0, 1, 0, 0, 0, 0, 0),
  (54, .getfield 26, 3, 11, 7, 1, 0, 498),
  (57, .getfield 48, 3, 3, 0, 1, 0, 256),
  (60, .iload_n 3, 1, 0, 0, 0, 0, 0),
  (61, .invokevirtual 146, 3, 613, 2, 1, 6, 857),
  (64, .invokestatic 255, 3, 1300, 1, 1, 0, 910),
  (67, .invokestatic 309, 3, 921, 1, 1, 0, 1229),
  (70, .istore 5, 2, 0, 0, 0, 0, 0),
  (72, .iload 4, 2, 0, 0, 0, 0, 0),
  (74, .iload 5, 2, 0, 0, 0, 0, 0),
  (76, .invokestatic 312, 3, 922, 2, 1, 0, 1230),
  (79, .istore 6, 2, 0, 0, 0, 0, 0),
  (81, .iload 6, 2, 0, 0, 0, 0, 0),
  (83, .ifCond .le 8, 3, 91, 0, 0, 0, 0),
  (86, .iload 5, 2, 0, 0, 0, 0, 0),
  (88, .ifCond .gt 5, 3, 93, 0, 0, 0, 0),
  (91, .iconst (-1), 1, 0, 0, 0, (-1), 0),
  (92, .ireturn, 1, 1, 0, 0, 0, 0),
  (93, .aload_n 0, 1, 0, 0, 0, 0, 0),
  (94, .getfield 19, 3, 11, 1, 1, 0, 492),
  (97, .invokevirtual 206, 3, 701, 1, 0, 7, 939),
  (100, .aload_n 0, 1, 0, 0, 0, 0, 0),
  (101, .getfield 19, 3, 11, 1, 1, 0, 492),
  (104, .iload 4, 2, 0, 0, 0, 0, 0),
  (106, .iload 6, 2, 0, 0, 0, 0, 0),
  (108, .idiv, 1, 0, 0, 0, 0, 0),
  (109, .invokevirtual 212, 3, 702, 2, 0, 7, 944),
  (112, .aload_n 0, 1, 0, 0, 0, 0, 0),
  (113, .getfield 19, 3, 11, 1, 1, 0, 492),
  (116, .iload 5, 2, 0, 0, 0, 0, 0),
  (118, .iload 6, 2, 0, 0, 0, 0, 0),
  (120, .idiv, 1, 0, 0, 0, 0, 0),
  (121, .invokevirtual 212, 3, 702, 2, 0, 7, 944),
  (124, .iload 4, 2, 0, 0, 0, 0, 0),
  (126, .iload 5, 2, 0, 0, 0, 0, 0),
  (128, .idiv, 1, 0, 0, 0, 0, 0),
  (129, .ireturn, 1, 1, 0, 0, 0, 0)]
/-- TollsThatPay.count(I)I -/
def z_c1136 : List z_E := [(0, .iload_n 1, 1, 0, 0, 0, 0, 0),
  (1, .tableswitch 120 0 7 #[47, 58, 69, 80, 88, 99, 104, 112], 47, 0, 0, 0, 0, 0),
  (48, .aload_n 0, 1, 0, 0, 0, 0, 0),
  (49, .getfield 26, 3, 11, 7, 1, 0, 498),
  (52, .getfield 48, 3, 3, 0, 1, 0, 256),
  (55, .getfield 281, 3, 6, 0, 0, 0, 166),
  (58, .ireturn, 1, 1, 0, 0, 0, 0),
  (59, .aload_n 0, 1, 0, 0, 0, 0, 0),
  (60, .getfield 26, 3, 11, 7, 1, 0, 498),
  (63, .getfield 48, 3, 3, 0, 1, 0, 256),
  (66, .getfield 245, 3, 6, 1, 0, 0, 170),
  (69, .ireturn, 1, 1, 0, 0, 0, 0),
  (70, .aload_n 0, 1, 0, 0, 0, 0, 0),
  (71, .getfield 26, 3, 11, 7, 1, 0, 498),
  (74, .getfield 35, 3, 3, 1, 1, 0, 261),
  (77, .getfield 315, 3, 2, 0, 0, 0, 224),
  (80, .ireturn, 1, 1, 0, 0, 0, 0),
  (81, .aload_n 0, 1, 0, 0, 0, 0, 0),
  (82, .getfield 42, 3, 11, 2, 1, 0, 493),
  (85, .getfield 158, 3, 1, 0, 0, 0, 324),
  (88, .ireturn, 1, 1, 0, 0, 0, 0),
  (89, .aload_n 0, 1, 0, 0, 0, 0, 0),
  (90, .getfield 26, 3, 11, 7, 1, 0, 498),
  (93, .getfield 48, 3, 3, 0, 1, 0, 256),
  (96, .getfield 110, 3, 6, 2, 0, 0, 176),
  (99, .ireturn, 1, 1, 0, 0, 0, 0),
  (100, .aload_n 0, 1, 0, 0, 0, 0, 0),
  (101, .getfield 117, 3, 11, 9, 0, 0, 500),
  (104, .ireturn, 1, 1, 0, 0, 0, 0),
  (105, .aload_n 0, 1, 0, 0, 0, 0, 0),
  (106, .getfield 19, 3, 11, 1, 1, 0, 492),
  (109, .getfield 215, 3, 7, 1, 0, 0, 144),
  (112, .ireturn, 1, 1, 0, 0, 0, 0),
  (113, .aload_n 0, 1, 0, 0, 0, 0, 0),
  (114, .getfield 10, 3, 11, 0, 1, 0, 491),
  (117, .getfield 316, 3, 5, 1, 0, 0, 120),
  (120, .ireturn, 1, 1, 0, 0, 0, 0),
  (121, .iconst (-1), 1, 0, 0, 0, (-1), 0),
  (122, .ireturn, 1, 1, 0, 0, 0, 0)]
/-- TollsThatPay.of(II)I -/
def z_c1137 : List z_E := [(0, .aload_n 0, 1, 0, 0, 0, 0, 0),
  (1, .getfield 26, 3, 11, 7, 1, 0, 498),
  (4, .getfield 48, 3, 3, 0, 1, 0, 256),
  (7, .iload_n 1, 1, 0, 0, 0, 0, 0),
  (8, .invokevirtual 155, 3, 605, 2, 1, 6, 887),
  (11, .ifCond .eq 12, 3, 23, 0, 0, 0, 0),
  (14, .iload_n 2, 1, 0, 0, 0, 0, 0),
  (15, .ifCond .lt 8, 3, 23, 0, 0, 0, 0),
  (18, .iload_n 2, 1, 0, 0, 0, 0, 0),
  (19, .iconst 5, 1, 0, 0, 0, 5, 0),
  (20, .if_icmp .le 11, 3, 31, 0, 0, 0, 0),
  (26, .dup, 1, 0, 0, 0, 0, 0),
  (31, .aload_n 0, 1, 0, 0, 0, 0, 0),
  (32, .getfield 26, 3, 11, 7, 1, 0, 498),
  (35, .getfield 48, 3, 3, 0, 1, 0, 256),
  (38, .iload_n 1, 1, 0, 0, 0, 0, 0),
  (39, .iload_n 2, 1, 0, 0, 0, 0, 0),
  (40, .invokevirtual 322, 3, 616, 3, 1, 6, 1309),
  (43, .ireturn, 1, 1, 0, 0, 0, 0)]
/-- TollsThatPay.row(I)I -/
def z_c1138 : List z_E := [(0, .iload_n 1, 1, 0, 0, 0, 0, 0),
  (1, .ifCond .lt 14, 3, 15, 0, 0, 0, 0),
  (4, .iload_n 1, 1, 0, 0, 0, 0, 0),
  (5, .aload_n 0, 1, 0, 0, 0, 0, 0),
  (6, .getfield 19, 3, 11, 1, 1, 0, 492),
  (9, .getfield 215, 3, 7, 1, 0, 0, 144),
  (12, .if_icmp .lt 11, 3, 23, 0, 0, 0, 0),
  (18, .dup, 1, 0, 0, 0, 0, 0),
  (23, .aload_n 0, 1, 0, 0, 0, 0, 0),
  (24, .getfield 19, 3, 11, 1, 1, 0, 492),
  (27, .iload_n 1, 1, 0, 0, 0, 0, 0),
  (28, .invokevirtual 325, 3, 703, 2, 1, 7, 1321),
  (31, .ireturn, 1, 1, 0, 0, 0, 0)]
/-- TollsThatPay.openNow()V -/
def z_c1139 : List z_E := [(0, .aload_n 0, 1, 0, 0, 0, 0, 0),
  (1, .getfield 55, 3, 11, 3, 1, 0, 494),
  (4, .aload_n 0, 1, 0, 0, 0, 0, 0),
  (5, .getfield 26, 3, 11, 7, 1, 0, 498),
  (8, .getfield 48, 3, 3, 0, 1, 0, 256),
  (11, .aload_n 0, 1, 0, 0, 0, 0, 0),
  (12, .getfield 117, 3, 11, 9, 0, 0, 500),
  (15, .invokevirtual 190, 3, 401, 3, 0, 4, 772),
  (18, .return_, 1, 0, 0, 0, 0, 0)]
/-- TollsThatPay.isHouse(I)Z -/
def z_c1140 : List z_E := [(0, .iload_n 0, 1, 0, 0, 0, 0, 0),
  (1, .ifCond .eq 8, 3, 9, 0, 0, 0, 0),
  (4, .iload_n 0, 1, 0, 0, 0, 0, 0),
  (5, .iconst 1, 1, 0, 0, 0, 1, 0),
  (6, .if_icmp .ne 7, 3, 13, 0, 0, 0, 0),
  (9, .iconst 1, 1, 0, 0, 0, 1, 0),
  (10, .goto 4, 3, 14, 0, 0, 0, 0),
  (13, .iconst 0, 1, 0, 0, 0, 0, 0),
  (14, .ireturn, 1, 2, 0, 0, 0, 0)]
/-- TollsThatPay.canSeek(I)Z -/
def z_c1141 : List z_E := [(0, .iload_n 1, 1, 0, 0, 0, 0, 0),
  (1, .invokestatic 143, 3, 1140, 1, 1, 0, 854),
  (4, .ifCond .eq 42, 3, 46, 0, 0, 0, 0),
  (7, .aload_n 0, 1, 0, 0, 0, 0, 0),
  (8, .getfield 26, 3, 11, 7, 1, 0, 498),
  (11, .getfield 48, 3, 3, 0, 1, 0, 256),
  (14, .getfield 110, 3, 6, 2, 0, 0, 176),
  (17, .iconst 1, 1, 0, 0, 0, 1, 0),
  (18, .iadd, 1, 0, 0, 0, 0, 0),
  (19, .aload_n 0, 1, 0, 0, 0, 0, 0),
  (20, .getfield 26, 3, 11, 7, 1, 0, 498),
  (23, .getfield 48, 3, 3, 0, 1, 0, 256),
  (26, .iload_n 1, 1, 0, 0, 0, 0, 0),
  (27, .invokevirtual 146, 3, 613, 2, 1, 6, 857),
  (30, .invokestatic 255, 3, 1300, 1, 1, 0, 910),
  (33, .invokestatic 248, 3, 617, 2, 1, 0, 911),
  (36, .sipush 20000, 3, 0, 0, 0, 20000, 0),
  (39, .if_icmp .gt 7, 3, 46, 0, 0, 0, 0),
  (42, .iconst 1, 1, 0, 0, 0, 1, 0),
  (43, .goto 4, 3, 47, 0, 0, 0, 0),
  (46, .iconst 0, 1, 0, 0, 0, 0, 0),
  (47, .ireturn, 1, 2, 0, 0, 0, 0)]
/-- TollsThatPay.isAnyWeight()Z -/
def z_c1142 : List z_E := [(0, .iconst 0, 1, 0, 0, 0, 0, 0),
  (1, .istore_n 1, 1, 0, 0, 0, 0, 0),
  (2, .iconst 0, 1, 0, 0, 0, 0, 0),
  (3, .istore_n 2, 1, 0, 0, 0, 0, 0),
  (4, .iload_n 2, 1, 0, 0, 0, 0, 0),
  (5, .aload_n 0, 1, 0, 0, 0, 0, 0),
  (6, .getfield 77, 3, 11, 6, 1, 0, 497),
  (9, .arraylength, 1, 0, 0, 0, 0, 0),
  (10, .if_icmp .ge 28, 3, 38, 0, 0, 0, 0),
  (13, .iload_n 1, 1, 0, 0, 0, 0, 0),
  (14, .ifCond .ne 12, 3, 26, 0, 0, 0, 0),
  (17, .aload_n 0, 1, 0, 0, 0, 0, 0),
  (18, .getfield 77, 3, 11, 6, 1, 0, 497),
  (21, .iload_n 2, 1, 0, 0, 0, 0, 0),
  (22, .iaload, 1, 0, 0, 0, 0, 0),
  (23, .ifCond .le 7, 3, 30, 0, 0, 0, 0),
  (26, .iconst 1, 1, 0, 0, 0, 1, 0),
  (27, .goto 4, 3, 31, 0, 0, 0, 0),
  (30, .iconst 0, 1, 0, 0, 0, 0, 0),
  (31, .istore_n 1, 1, 0, 0, 0, 0, 0),
  (32, .iinc 2 1, 3, 0, 0, 0, 0, 0),
  (35, .goto (-31), 3, 4, 0, 0, 0, 0),
  (38, .iload_n 1, 1, 0, 0, 0, 0, 0),
  (39, .ireturn, 1, 2, 0, 0, 0, 0)]
/-- TollsThatPay.tellFound(I)V -/
def z_c1143 : List z_E := [(0, .aload_n 0, 1, 0, 0, 0, 0, 0),
  (1, .getfield 19, 3, 11, 1, 1, 0, 492),
  (4, .invokevirtual 206, 3, 701, 1, 0, 7, 939),
  (7, .aload_n 0, 1, 0, 0, 0, 0, 0),
  (8, .aload_n 0, 1, 0, 0, 0, 0, 0),
  (9, .getfield 55, 3, 11, 3, 1, 0, 494),
  (12, .getfield 181, 3, 4, 1, 1, 0, 408),
  (15, .aload_n 0, 1, 0, 0, 0, 0, 0),
  (16, .getfield 26, 3, 11, 7, 1, 0, 498),
  (19, .getfield 48, 3, 3, 0, 1, 0, 256),
  (22, .iload_n 1, 1, 0, 0, 0, 0, 0),
  (23, .invokevirtual 146, 3, 613, 2, 1, 6, 857),
  (26, .invokevirtual 225, 3, 1144, 3, 0, 11, 940),
  (29, .return_, 1, 0, 0, 0, 0, 0)]
/-- TollsThatPay.tellTolls([II)V -/
def z_c1144 : List z_E := [(0, .iconst 0, 1, 0, 0, 0, 0, 0),
  (1, .istore_n 3, 1, 0, 0, 0, 0, 0),
  (2, .iload_n 3, 1, 0, 0, 0, 0, 0),
  (3, .aload_n 1, 1, 0, 0, 0, 0, 0),
  (4, .arraylength, 1, 0, 0, 0, 0, 0),
  (5, .if_icmp .ge 27, 3, 32, 0, 0, 0, 0),
  (8, .iload_n 2, 1, 0, 0, 0, 0, 0),
  (9, .iload_n 3, 1, 0, 0, 0, 0, 0),
  (10, .ishr, 1, 0, 0, 0, 0, 0),
  (11, .iconst 1, 1, 0, 0, 0, 1, 0),
  (12, .iand, 1, 0, 0, 0, 0, 0),
  (13, .ifCond .eq 13, 3, 26, 0, 0, 0, 0),
  (16, .aload_n 0, 1, 0, 0, 0, 0, 0),
  (17, .getfield 19, 3, 11, 1, 1, 0, 492),
  (20, .aload_n 1, 1, 0, 0, 0, 0, 0),
  (21, .iload_n 3, 1, 0, 0, 0, 0, 0),
  (22, .iaload, 1, 0, 0, 0, 0, 0),
  (23, .invokevirtual 212, 3, 702, 2, 0, 7, 944),
  (26, .iinc 3 1, 3, 0, 0, 0, 0, 0),
  (29, .goto (-27), 3, 2, 0, 0, 0, 0),
  (32, .return_, 1, 0, 0, 0, 0, 0)]
def z_cc11 : List (List z_E) := [z_c1100, z_c1101, z_c1102, z_c1103, z_c1104, z_c1105, z_c1106, z_c1107, z_c1108, z_c1109, z_c1110, z_c1111, z_c1112, z_c1113, z_c1114, z_c1115, z_c1116, z_c1117, z_c1118, z_c1119, z_c1120, z_c1121, z_c1122, z_c1123, z_c1124, z_c1125, z_c1126, z_c1127, z_c1128, z_c1129, z_c1130, z_c1131, z_c1132, z_c1133, z_c1134, z_c1135, z_c1136, z_c1137, z_c1138, z_c1139, z_c1140, z_c1141, z_c1142, z_c1143, z_c1144]
def z_mm11 : List (MethodName × ByteArray × Nat × Option FieldType) := [(yX11_init, cX11_init, 2, none),
  (yX11_sign, cX11_sign, 2, (some .int)),
  (yX11_end, cX11_end, 2, (some .boolean)),
  (yX11_tell, cX11_tell, 4, (some .int)),
  (yX11_toll, cX11_toll, 5, (some .int)),
  (yX11_lean, cX11_lean, 3, (some .int)),
  (yX11_way, cX11_way, 4, (some .int)),
  (yX11_pains, cX11_pains, 4, (some .int)),
  (yX11_room, cX11_room, 6, (some .int)),
  (yX11_take, cX11_take, 2, (some .int)),
  (yX11_suffered, cX11_suffered, 1, (some .int)),
  (yX11_by, cX11_by, 4, (some .int)),
  (yX11_ways, cX11_ways, 2, (some .int)),
  (yX11_best, cX11_best, 3, (some .int)),
  (yX11_set, cX11_set, 3, (some .int)),
  (yX11_ties, cX11_ties, 3, (some .int)),
  (yX11_bound, cX11_bound, 2, (some .int)),
  (yX11_given, cX11_given, 3, (some .int)),
  (yX11_above, cX11_above, 3, (some .int)),
  (yX11_line, cX11_line, 5, (some .int)),
  (yX11_bends, cX11_bends, 5, (some .int)),
  (yX11_climb, cX11_climb, 3, (some .int)),
  (yX11_gap, cX11_gap, 3, (some .int)),
  (yX11_times, cX11_times, 5, (some .int)),
  (yX11_answers, cX11_answers, 3, (some .int)),
  (yX11_rests, cX11_rests, 2, (some .int)),
  (yX11_spare, cX11_spare, 4, (some .int)),
  (yX11_ceiling, cX11_ceiling, 3, (some .int)),
  (yX11_without, cX11_without, 5, (some .int)),
  (yX11_ford, cX11_ford, 7, (some .int)),
  (yX11_weight, cX11_weight, 4, (some .int)),
  (yX11_mean, cX11_mean, 3, (some .int)),
  (yX11_safe, cX11_safe, 3, (some .int)),
  (yX11_learn, cX11_learn, 3, (some .int)),
  (yX11_last, cX11_last, 4, (some .int)),
  (yX11_fair, cX11_fair, 7, (some .int)),
  (yX11_count, cX11_count, 2, (some .int)),
  (yX11_of, cX11_of, 3, (some .int)),
  (yX11_row, cX11_row, 2, (some .int)),
  (yX11_openNow, cX11_openNow, 1, none),
  (yX11_isHouse, cX11_isHouse, 1, (some .boolean)),
  (yX11_canSeek, cX11_canSeek, 2, (some .boolean)),
  (yX11_isAnyWeight, cX11_isAnyWeight, 3, (some .boolean)),
  (yX11_tellFound, cX11_tellFound, 2, none),
  (yX11_tellTolls, cX11_tellTolls, 4, none)]
/-- TollsThatPayModel.<init>()V -/
def z_c1200 : List z_E := [(0, .aload_n 0, 1, 0, 0, 0, 0, 0),
  (1, .invokespecial 3, 3, 9998, 0, 0, 0, 1330),
  (4, .aload_n 0, 1, 0, 0, 0, 0, 0),
  (5, .bipush 15, 2, 0, 0, 0, 15, 0),
  (7, .newarray .int, 2, 1, 0, 0, 0, 135),
  (9, .putfield 9, 3, 12, 0, 1, 0, 1331),
  (12, .aload_n 0, 1, 0, 0, 0, 0, 0),
  (13, .bipush 15, 2, 0, 0, 0, 15, 0),
  (15, .newarray .int, 2, 1, 0, 0, 0, 135),
  (17, .putfield 13, 3, 12, 1, 1, 0, 1332),
  (20, .aload_n 0, 1, 0, 0, 0, 0, 0),
  (21, .bipush 15, 2, 0, 0, 0, 15, 0),
  (23, .newarray .int, 2, 1, 0, 0, 0, 135),
  (25, .putfield 16, 3, 12, 2, 1, 0, 1333),
  (28, .aload_n 0, 1, 0, 0, 0, 0, 0),
  (29, .bipush 15, 2, 0, 0, 0, 15, 0),
  (31, .newarray .int, 2, 1, 0, 0, 0, 135),
  (33, .putfield 19, 3, 12, 3, 1, 0, 1334),
  (36, .aload_n 0, 1, 0, 0, 0, 0, 0),
  (37, .bipush 15, 2, 0, 0, 0, 15, 0),
  (39, .newarray .int, 2, 1, 0, 0, 0, 135),
  (41, .putfield 22, 3, 12, 4, 1, 0, 1335),
  (44, .aload_n 0, 1, 0, 0, 0, 0, 0),
  (45, .iconst 5, 1, 0, 0, 0, 5, 0),
  (46, .newarray .int, 2, 1, 0, 0, 0, 135),
  (48, .putfield 25, 3, 12, 6, 1, 0, 1337),
  (51, .aload_n 0, 1, 0, 0, 0, 0, 0),
  (52, .iconst 5, 1, 0, 0, 0, 5, 0),
  (53, .newarray .int, 2, 1, 0, 0, 0, 135),
  (55, .putfield 28, 3, 12, 7, 1, 0, 1338),
  (58, .aload_n 0, 1, 0, 0, 0, 0, 0),
  (59, .bipush 6, 2, 0, 0, 0, 6, 0),
  (61, .putfield 31, 3, 12, 9, 0, 0, 1340),
  (64, .aload_n 0, 1, 0, 0, 0, 0, 0),
  (65, .bipush 8, 2, 0, 0, 0, 8, 0),
  (67, .newarray .int, 2, 1, 0, 0, 0, 135),
  (69, .putfield 35, 3, 12, 11, 1, 0, 1342),
  (72, .aload_n 0, 1, 0, 0, 0, 0, 0),
  (73, .bipush 8, 2, 0, 0, 0, 8, 0),
  (75, .newarray .int, 2, 1, 0, 0, 0, 135),
  (77, .putfield 38, 3, 12, 12, 1, 0, 1343),
  (80, .aload_n 0, 1, 0, 0, 0, 0, 0),
  (81, .bipush 8, 2, 0, 0, 0, 8, 0),
  (83, .newarray .int, 2, 1, 0, 0, 0, 135),
  (85, .putfield 41, 3, 12, 13, 1, 0, 1344),
  (88, .aload_n 0, 1, 0, 0, 0, 0, 0),
  (89, .bipush 8, 2, 0, 0, 0, 8, 0),
  (91, .newarray .int, 2, 1, 0, 0, 0, 135),
  (93, .putfield 44, 3, 12, 14, 1, 0, 1345),
  (96, .aload_n 0, 1, 0, 0, 0, 0, 0),
  (97, .bipush 8, 2, 0, 0, 0, 8, 0),
  (99, .newarray .int, 2, 1, 0, 0, 0, 135),
  (101, .putfield 47, 3, 12, 15, 1, 0, 1346),
  (104, .aload_n 0, 1, 0, 0, 0, 0, 0),
  (105, .bipush 8, 2, 0, 0, 0, 8, 0),
  (107, .newarray .boolean, 2, 2, 0, 0, 0, 1557),
  (109, .putfield 50, 3, 12, 16, 1, 0, 1347),
  (112, .aload_n 0, 1, 0, 0, 0, 0, 0),
  (113, .bipush 8, 2, 0, 0, 0, 8, 0),
  (115, .newarray .int, 2, 1, 0, 0, 0, 135),
  (117, .putfield 54, 3, 12, 17, 1, 0, 1348),
  (120, .aload_n 0, 1, 0, 0, 0, 0, 0),
  (121, .bipush 8, 2, 0, 0, 0, 8, 0),
  (123, .newarray .int, 2, 1, 0, 0, 0, 135),
  (125, .putfield 57, 3, 12, 18, 1, 0, 1349),
  (128, .aload_n 0, 1, 0, 0, 0, 0, 0),
  (129, .bipush 8, 2, 0, 0, 0, 8, 0),
  (131, .newarray .int, 2, 1, 0, 0, 0, 135),
  (133, .putfield 60, 3, 12, 19, 1, 0, 1350),
  (136, .aload_n 0, 1, 0, 0, 0, 0, 0),
  (137, .bipush 10, 2, 0, 0, 0, 10, 0),
  (139, .newarray .int, 2, 1, 0, 0, 0, 135),
  (141, .putfield 63, 3, 12, 21, 1, 0, 1352),
  (144, .aload_n 0, 1, 0, 0, 0, 0, 0),
  (145, .bipush 100, 2, 0, 0, 0, 100, 0),
  (147, .newarray .byte, 2, 3, 0, 0, 0, 1558),
  (149, .putfield 66, 3, 12, 22, 1, 0, 1353),
  (152, .aload_n 0, 1, 0, 0, 0, 0, 0),
  (153, .bipush 32, 2, 0, 0, 0, 32, 0),
  (155, .newarray .int, 2, 1, 0, 0, 0, 135),
  (157, .putfield 70, 3, 12, 24, 1, 0, 1355),
  (160, .aload_n 0, 1, 0, 0, 0, 0, 0),
  (161, .bipush 60, 2, 0, 0, 0, 60, 0),
  (163, .newarray .char, 2, 4, 0, 0, 0, 1559),
  (165, .putfield 73, 3, 12, 30, 1, 0, 1361),
  (168, .aload_n 0, 1, 0, 0, 0, 0, 0),
  (169, .bipush 60, 2, 0, 0, 0, 60, 0),
  (171, .newarray .int, 2, 1, 0, 0, 0, 135),
  (173, .putfield 77, 3, 12, 31, 1, 0, 1362),
  (176, .aload_n 0, 1, 0, 0, 0, 0, 0),
  (177, .bipush 60, 2, 0, 0, 0, 60, 0),
  (179, .newarray .int, 2, 1, 0, 0, 0, 135),
  (181, .putfield 80, 3, 12, 32, 1, 0, 1363),
  (184, .aload_n 0, 1, 0, 0, 0, 0, 0),
  (185, .bipush 60, 2, 0, 0, 0, 60, 0),
  (187, .newarray .int, 2, 1, 0, 0, 0, 135),
  (189, .putfield 83, 3, 12, 33, 1, 0, 1364),
  (192, .aload_n 0, 1, 0, 0, 0, 0, 0),
  (193, .bipush 60, 2, 0, 0, 0, 60, 0),
  (195, .newarray .int, 2, 1, 0, 0, 0, 135),
  (197, .putfield 86, 3, 12, 34, 1, 0, 1365),
  (200, .aload_n 0, 1, 0, 0, 0, 0, 0),
  (201, .bipush 60, 2, 0, 0, 0, 60, 0),
  (203, .newarray .int, 2, 1, 0, 0, 0, 135),
  (205, .putfield 89, 3, 12, 35, 1, 0, 1366),
  (208, .aload_n 0, 1, 0, 0, 0, 0, 0),
  (209, .bipush 60, 2, 0, 0, 0, 60, 0),
  (211, .newarray .int, 2, 1, 0, 0, 0, 135),
  (213, .putfield 92, 3, 12, 36, 1, 0, 1367),
  (216, .aload_n 0, 1, 0, 0, 0, 0, 0),
  (217, .bipush 60, 2, 0, 0, 0, 60, 0),
  (219, .newarray .boolean, 2, 2, 0, 0, 0, 1557),
  (221, .putfield 95, 3, 12, 37, 1, 0, 1368),
  (224, .aload_n 0, 1, 0, 0, 0, 0, 0),
  (225, .bipush 60, 2, 0, 0, 0, 60, 0),
  (227, .newarray .int, 2, 1, 0, 0, 0, 135),
  (229, .putfield 98, 3, 12, 38, 1, 0, 1369),
  (232, .aload_n 0, 1, 0, 0, 0, 0, 0),
  (233, .bipush 60, 2, 0, 0, 0, 60, 0),
  (235, .newarray .int, 2, 1, 0, 0, 0, 135),
  (237, .putfield 101, 3, 12, 39, 1, 0, 1370),
  (240, .aload_n 0, 1, 0, 0, 0, 0, 0),
  (241, .bipush 60, 2, 0, 0, 0, 60, 0),
  (243, .newarray .int, 2, 1, 0, 0, 0, 135),
  (245, .putfield 104, 3, 12, 40, 1, 0, 1371),
  (248, .aload_n 0, 1, 0, 0, 0, 0, 0),
  (249, .sipush 11200, 3, 0, 0, 0, 11200, 0),
  (252, .newarray .int, 2, 1, 0, 0, 0, 135),
  (254, .putfield 107, 3, 12, 42, 1, 0, 1373),
  (257, .aload_n 0, 1, 0, 0, 0, 0, 0),
  (258, .sipush 1600, 3, 0, 0, 0, 1600, 0),
  (261, .newarray .int, 2, 1, 0, 0, 0, 135),
  (263, .putfield 110, 3, 12, 43, 1, 0, 1374),
  (266, .aload_n 0, 1, 0, 0, 0, 0, 0),
  (267, .bipush 8, 2, 0, 0, 0, 8, 0),
  (269, .newarray .int, 2, 1, 0, 0, 0, 135),
  (271, .putfield 113, 3, 12, 44, 1, 0, 1375),
  (274, .aload_n 0, 1, 0, 0, 0, 0, 0),
  (275, .bipush 7, 2, 0, 0, 0, 7, 0),
  (277, .newarray .int, 2, 1, 0, 0, 0, 135),
  (279, .putfield 116, 3, 12, 45, 1, 0, 1376),
  (282, .aload_n 0, 1, 0, 0, 0, 0, 0),
  (283, .bipush 48, 2, 0, 0, 0, 48, 0),
  (285, .newarray .int, 2, 1, 0, 0, 0, 135),
  (287, .putfield 119, 3, 12, 46, 1, 0, 1377),
  (290, .aload_n 0, 1, 0, 0, 0, 0, 0),
  (291, .bipush 48, 2, 0, 0, 0, 48, 0),
  (293, .newarray .int, 2, 1, 0, 0, 0, 135),
  (295, .putfield 122, 3, 12, 47, 1, 0, 1378),
  (298, .aload_n 0, 1, 0, 0, 0, 0, 0),
  (299, .sipush 1536, 3, 0, 0, 0, 1536, 0),
  (302, .newarray .int, 2, 1, 0, 0, 0, 135),
  (304, .putfield 125, 3, 12, 49, 1, 0, 1380),
  (307, .aload_n 0, 1, 0, 0, 0, 0, 0),
  (308, .sipush 1536, 3, 0, 0, 0, 1536, 0),
  (311, .newarray .int, 2, 1, 0, 0, 0, 135),
  (313, .putfield 128, 3, 12, 50, 1, 0, 1381),
  (316, .aload_n 0, 1, 0, 0, 0, 0, 0),
  (317, .bipush 32, 2, 0, 0, 0, 32, 0),
  (319, .newarray .int, 2, 1, 0, 0, 0, 135),
  (321, .putfield 131, 3, 12, 51, 1, 0, 1382),
  (324, .aload_n 0, 1, 0, 0, 0, 0, 0),
  (325, .iconst 2, 1, 0, 0, 0, 2, 0),
  (326, .newarray .int, 2, 1, 0, 0, 0, 135),
  (328, .putfield 134, 3, 12, 52, 1, 0, 1383),
  (331, .aload_n 0, 1, 0, 0, 0, 0, 0),
  (332, .iconst 2, 1, 0, 0, 0, 2, 0),
  (333, .newarray .int, 2, 1, 0, 0, 0, 135),
  (335, .putfield 137, 3, 12, 53, 1, 0, 1384),
  (338, .aload_n 0, 1, 0, 0, 0, 0, 0),
  (339, .iconst 5, 1, 0, 0, 0, 5, 0),
  (340, .newarray .int, 2, 1, 0, 0, 0, 135),
  (342, .putfield 140, 3, 12, 55, 1, 0, 1386),
  (345, .aload_n 0, 1, 0, 0, 0, 0, 0),
  (346, .iconst 5, 1, 0, 0, 0, 5, 0),
  (347, .newarray .int, 2, 1, 0, 0, 0, 135),
  (349, .putfield 143, 3, 12, 57, 1, 0, 1388),
  (352, .aload_n 0, 1, 0, 0, 0, 0, 0),
  (353, .iconst 5, 1, 0, 0, 0, 5, 0),
  (354, .newarray .int, 2, 1, 0, 0, 0, 135),
  (356, .putfield 146, 3, 12, 58, 1, 0, 1389),
  (359, .aload_n 0, 1, 0, 0, 0, 0, 0),
  (360, .bipush 48, 2, 0, 0, 0, 48, 0),
  (362, .newarray .int, 2, 1, 0, 0, 0, 135),
  (364, .putfield 149, 3, 12, 60, 1, 0, 1391),
  (367, .aload_n 0, 1, 0, 0, 0, 0, 0),
  (368, .bipush 48, 2, 0, 0, 0, 48, 0),
  (370, .newarray .int, 2, 1, 0, 0, 0, 135),
  (372, .putfield 152, 3, 12, 61, 1, 0, 1392),
  (375, .aload_n 0, 1, 0, 0, 0, 0, 0),
  (376, .bipush 21, 2, 0, 0, 0, 21, 0),
  (378, .newarray .int, 2, 1, 0, 0, 0, 135),
  (380, .putfield 155, 3, 12, 62, 1, 0, 1393),
  (383, .aload_n 0, 1, 0, 0, 0, 0, 0),
  (384, .iconst 5, 1, 0, 0, 0, 5, 0),
  (385, .newarray .int, 2, 1, 0, 0, 0, 135),
  (387, .putfield 158, 3, 12, 64, 1, 0, 1395),
  (390, .aload_n 0, 1, 0, 0, 0, 0, 0),
  (391, .sipush 300, 3, 0, 0, 0, 300, 0),
  (394, .newarray .int, 2, 1, 0, 0, 0, 135),
  (396, .putfield 161, 3, 12, 65, 1, 0, 1396),
  (399, .aload_n 0, 1, 0, 0, 0, 0, 0),
  (400, .sipush 2000, 3, 0, 0, 0, 2000, 0),
  (403, .newarray .int, 2, 1, 0, 0, 0, 135),
  (405, .putfield 164, 3, 12, 66, 1, 0, 1397),
  (408, .aload_n 0, 1, 0, 0, 0, 0, 0),
  (409, .sipush 2000, 3, 0, 0, 0, 2000, 0),
  (412, .newarray .int, 2, 1, 0, 0, 0, 135),
  (414, .putfield 167, 3, 12, 67, 1, 0, 1398),
  (417, .aload_n 0, 1, 0, 0, 0, 0, 0),
  (418, .sipush 2000, 3, 0, 0, 0, 2000, 0),
  (421, .newarray .int, 2, 1, 0, 0, 0, 135),
  (423, .putfield 170, 3, 12, 68, 1, 0, 1399),
  (426, .aload_n 0, 1, 0, 0, 0, 0, 0),
  (427, .sipush 2000, 3, 0, 0, 0, 2000, 0),
  (430, .newarray .int, 2, 1, 0, 0, 0, 135),
  (432, .putfield 173, 3, 12, 69, 1, 0, 1400),
  (435, .aload_n 0, 1, 0, 0, 0, 0, 0),
  (436, .sipush 20000, 3, 0, 0, 0, 20000, 0),
  (439, .newarray .int, 2, 1, 0, 0, 0, 135),
  (441, .putfield 176, 3, 12, 70, 1, 0, 1401),
  (444, .aload_n 0, 1, 0, 0, 0, 0, 0),
  (445, .sipush 20000, 3, 0, 0, 0, 20000, 0),
  (448, .newarray .int, 2, 1, 0, 0, 0, 135),
  (450, .putfield 179, 3, 12, 71, 1, 0, 1402),
  (453, .aload_n 0, 1, 0, 0, 0, 0, 0),
  (454, .bipush 32, 2, 0, 0, 0, 32, 0),
  (456, .newarray .int, 2, 1, 0, 0, 0, 135),
  (458, .putfield 182, 3, 12, 72, 1, 0, 1403),
  (461, .iconst 0, 1, 0, 0, 0, 0, 0),
  (462, .istore_n 1, 1, 0, 0, 0, 0, 0),
  (463, .iload_n 1, 1, 0, 0, 0, 0, 0),
  (464, .bipush 10, 2, 0, 0, 0, 10, 0),
  (466, .if_icmp .ge 16, 3, 482, 0, 0, 0, 0),
  (469, .aload_n 0, 1, 0, 0, 0, 0, 0),
  (470, .getfield 63, 3, 12, 21, 1, 0, 1352),
  (473, .iload_n 1, 1, 0, 0, 0, 0, 0),
  (474, .iconst 1, 1, 0, 0, 0, 1, 0),
  (475, .iastore, 1, 0, 0, 0, 0, 0),
  (476, .iinc 1 1, 3, 0, 0, 0, 0, 0),
  (479, .goto (-16), 3, 463, 0, 0, 0, 0),
  (482, .return_, 1, 0, 0, 0, 0, 0)]
/-- TollsThatPayModel.thrown()I -/
def z_c1201 : List z_E := [(0, .aload_n 0, 1, 0, 0, 0, 0, 0),
  (1, .getfield 185, 3, 12, 26, 0, 0, 1357),
  (4, .ireturn, 1, 1, 0, 0, 0, 0)]
/-- TollsThatPayModel.in(III)Z -/
def z_c1202 : List z_E := [(0, .iload_n 0, 1, 0, 0, 0, 0, 0),
  (1, .iload_n 1, 1, 0, 0, 0, 0, 0),
  (2, .if_icmp .lt 12, 3, 14, 0, 0, 0, 0),
  (5, .iload_n 0, 1, 0, 0, 0, 0, 0),
  (6, .iload_n 2, 1, 0, 0, 0, 0, 0),
  (7, .if_icmp .gt 7, 3, 14, 0, 0, 0, 0),
  (10, .iconst 1, 1, 0, 0, 0, 1, 0),
  (11, .goto 4, 3, 15, 0, 0, 0, 0),
  (14, .iconst 0, 1, 0, 0, 0, 0, 0),
  (15, .ireturn, 1, 2, 0, 0, 0, 0)]
/-- TollsThatPayModel.lost()I -/
def z_c1203 : List z_E := [(0, .aload_n 0, 1, 0, 0, 0, 0, 0),
  (1, .iconst 1, 1, 0, 0, 0, 1, 0),
  (2, .putfield 185, 3, 12, 26, 0, 0, 1357),
  (5, .iconst 0, 1, 0, 0, 0, 0, 0),
  (6, .ireturn, 1, 1, 0, 0, 0, 0)]
/-- TollsThatPayModel.tell(I)V -/
def z_c1204 : List z_E := [(0, .aload_n 0, 1, 0, 0, 0, 0, 0),
  (1, .getfield 70, 3, 12, 24, 1, 0, 1355),
  (4, .aload_n 0, 1, 0, 0, 0, 0, 0),
  (5, .getfield 188, 3, 12, 25, 0, 0, 1356),
  (8, .iload_n 1, 1, 0, 0, 0, 0, 0),
  (9, .iastore, 1, 0, 0, 0, 0, 0),
  (10, .aload_n 0, 1, 0, 0, 0, 0, 0),
  (11, .dup, 1, 0, 0, 0, 0, 0),
  (12, .getfield 188, 3, 12, 25, 0, 0, 1356),
  (15, .iconst 1, 1, 0, 0, 0, 1, 0),
  (16, .iadd, 1, 0, 0, 0, 0, 0),
  (17, .putfield 188, 3, 12, 25, 0, 0, 1356),
  (20, .return_, 1, 0, 0, 0, 0, 0)]
/-- TollsThatPayModel.isRoad(I)Z -/
def z_c1205 : List z_E := [(0, .iload_n 1, 1, 0, 0, 0, 0, 0),
  (1, .iconst 0, 1, 0, 0, 0, 0, 0),
  (2, .aload_n 0, 1, 0, 0, 0, 0, 0),
  (3, .getfield 191, 3, 12, 5, 0, 0, 1336),
  (6, .iconst 1, 1, 0, 0, 0, 1, 0),
  (7, .isub, 1, 0, 0, 0, 0, 0),
  (8, .invokestatic 194, 3, 1202, 3, 1, 0, 1572),
  (11, .ireturn, 1, 2, 0, 0, 0, 0)]
/-- TollsThatPayModel.isJourney(I)Z -/
def z_c1206 : List z_E := [(0, .iload_n 1, 1, 0, 0, 0, 0, 0),
  (1, .iconst 0, 1, 0, 0, 0, 0, 0),
  (2, .aload_n 0, 1, 0, 0, 0, 0, 0),
  (3, .getfield 198, 3, 12, 20, 0, 0, 1351),
  (6, .iconst 1, 1, 0, 0, 0, 1, 0),
  (7, .isub, 1, 0, 0, 0, 0, 0),
  (8, .invokestatic 194, 3, 1202, 3, 1, 0, 1572),
  (11, .ireturn, 1, 2, 0, 0, 0, 0)]
/-- TollsThatPayModel.isHouse(I)Z -/
def z_c1207 : List z_E := [(0, .iload_n 0, 1, 0, 0, 0, 0, 0),
  (1, .ifCond .eq 8, 3, 9, 0, 0, 0, 0),
  (4, .iload_n 0, 1, 0, 0, 0, 0, 0),
  (5, .iconst 1, 1, 0, 0, 0, 1, 0),
  (6, .if_icmp .ne 7, 3, 13, 0, 0, 0, 0),
  (9, .iconst 1, 1, 0, 0, 0, 1, 0),
  (10, .goto 4, 3, 14, 0, 0, 0, 0),
  (13, .iconst 0, 1, 0, 0, 0, 0, 0),
  (14, .ireturn, 1, 2, 0, 0, 0, 0)]
/-- TollsThatPayModel.tollOf(I)I -/
def z_c1208 : List z_E := [(0, .iconst 0, 1, 0, 0, 0, 0, 0),
  (1, .istore_n 2, 1, 0, 0, 0, 0, 0),
  (2, .iload_n 2, 1, 0, 0, 0, 0, 0),
  (3, .aload_n 0, 1, 0, 0, 0, 0, 0),
  (4, .getfield 201, 3, 12, 8, 0, 0, 1339),
  (7, .if_icmp .ge 21, 3, 28, 0, 0, 0, 0),
  (10, .aload_n 0, 1, 0, 0, 0, 0, 0),
  (11, .getfield 25, 3, 12, 6, 1, 0, 1337),
  (14, .iload_n 2, 1, 0, 0, 0, 0, 0),
  (15, .iaload, 1, 0, 0, 0, 0, 0),
  (16, .iload_n 1, 1, 0, 0, 0, 0, 0),
  (17, .if_icmp .ne 5, 3, 22, 0, 0, 0, 0),
  (20, .iload_n 2, 1, 0, 0, 0, 0, 0),
  (21, .ireturn, 1, 1, 0, 0, 0, 0),
  (22, .iinc 2 1, 3, 0, 0, 0, 0, 0),
  (25, .goto (-23), 3, 2, 0, 0, 0, 0),
  (28, .iconst (-1), 1, 0, 0, 0, (-1), 0),
  (29, .ireturn, 1, 1, 0, 0, 0, 0)]
/-- TollsThatPayModel.sign(I)I -/
def z_c1209 : List z_E := [(0, .aload_n 0, 1, 0, 0, 0, 0, 0),
  (1, .iconst 0, 1, 0, 0, 0, 0, 0),
  (2, .putfield 185, 3, 12, 26, 0, 0, 1357),
  (5, .aload_n 0, 1, 0, 0, 0, 0, 0),
  (6, .getfield 204, 3, 12, 23, 0, 0, 1354),
  (9, .iconst 4, 1, 0, 0, 0, 4, 0),
  (10, .iadd, 1, 0, 0, 0, 0, 0),
  (11, .bipush 100, 2, 0, 0, 0, 100, 0),
  (13, .if_icmp .le 5, 3, 18, 0, 0, 0, 0),
  (16, .iconst (-1), 1, 0, 0, 0, (-1), 0),
  (17, .ireturn, 1, 1, 0, 0, 0, 0),
  (18, .iconst 3, 1, 0, 0, 0, 3, 0),
  (19, .istore_n 2, 1, 0, 0, 0, 0, 0),
  (20, .iload_n 2, 1, 0, 0, 0, 0, 0),
  (21, .ifCond .lt 32, 3, 53, 0, 0, 0, 0),
  (24, .aload_n 0, 1, 0, 0, 0, 0, 0),
  (25, .getfield 66, 3, 12, 22, 1, 0, 1353),
  (28, .aload_n 0, 1, 0, 0, 0, 0, 0),
  (29, .dup, 1, 0, 0, 0, 0, 0),
  (30, .getfield 204, 3, 12, 23, 0, 0, 1354),
  (33, .dup_x1, 1, 0, 0, 0, 0, 0),
  (34, .iconst 1, 1, 0, 0, 0, 1, 0),
  (35, .iadd, 1, 0, 0, 0, 0, 0),
  (36, .putfield 204, 3, 12, 23, 0, 0, 1354),
  (39, .iload_n 1, 1, 0, 0, 0, 0, 0),
  (40, .bipush 8, 2, 0, 0, 0, 8, 0),
  (42, .iload_n 2, 1, 0, 0, 0, 0, 0),
  (43, .imul, 1, 0, 0, 0, 0, 0),
  (44, .ishr, 1, 0, 0, 0, 0, 0),
  (45, .i2b, 1, 0, 0, 0, 0, 0),
  (46, .bastore, 1, 3, 0, 0, 0, 0),
  (47, .iinc 2 (-1), 3, 0, 0, 0, 0, 0),
  (50, .goto (-30), 3, 20, 0, 0, 0, 0),
  (53, .aload_n 0, 1, 0, 0, 0, 0, 0),
  (54, .getfield 204, 3, 12, 23, 0, 0, 1354),
  (57, .ireturn, 1, 1, 0, 0, 0, 0)]
/-- TollsThatPayModel.end(I)Z -/
def z_c1210 : List z_E := [(0, .aload_n 0, 1, 0, 0, 0, 0, 0),
  (1, .iconst 0, 1, 0, 0, 0, 0, 0),
  (2, .putfield 185, 3, 12, 26, 0, 0, 1357),
  (5, .iload_n 1, 1, 0, 0, 0, 0, 0),
  (6, .iconst 0, 1, 0, 0, 0, 0, 0),
  (7, .aload_n 0, 1, 0, 0, 0, 0, 0),
  (8, .getfield 204, 3, 12, 23, 0, 0, 1354),
  (11, .invokestatic 194, 3, 1202, 3, 1, 0, 1572),
  (14, .ifCond .ne 5, 3, 19, 0, 0, 0, 0),
  (17, .iconst 0, 1, 0, 0, 0, 0, 0),
  (18, .ireturn, 1, 2, 0, 0, 0, 0),
  (19, .aload_n 0, 1, 0, 0, 0, 0, 0),
  (20, .iload_n 1, 1, 0, 0, 0, 0, 0),
  (21, .putfield 204, 3, 12, 23, 0, 0, 1354),
  (24, .iconst 1, 1, 0, 0, 0, 1, 0),
  (25, .ireturn, 1, 2, 0, 0, 0, 0)]
/-- TollsThatPayModel.here()I -/
def z_c1211 : List z_E := [(0, .aload_n 0, 1, 0, 0, 0, 0, 0),
  (1, .getfield 207, 3, 12, 28, 0, 0, 1359),
  (4, .aload_n 0, 1, 0, 0, 0, 0, 0),
  (5, .getfield 210, 3, 12, 27, 0, 0, 1358),
  (8, .if_icmp .ge 24, 3, 32, 0, 0, 0, 0),
  (11, .aload_n 0, 1, 0, 0, 0, 0, 0),
  (12, .getfield 207, 3, 12, 28, 0, 0, 1359),
  (15, .bipush 60, 2, 0, 0, 0, 60, 0),
  (17, .if_icmp .ge 15, 3, 32, 0, 0, 0, 0),
  (20, .aload_n 0, 1, 0, 0, 0, 0, 0),
  (21, .getfield 66, 3, 12, 22, 1, 0, 1353),
  (24, .aload_n 0, 1, 0, 0, 0, 0, 0),
  (25, .getfield 207, 3, 12, 28, 0, 0, 1359),
  (28, .baload, 1, 0, 0, 0, 0, 0),
  (29, .goto 4, 3, 33, 0, 0, 0, 0),
  (32, .iconst (-1), 1, 0, 0, 0, (-1), 0),
  (33, .ireturn, 1, 1, 0, 0, 0, 0)]
/-- TollsThatPayModel.passes(C)Z -/
def z_c1212 : List z_E := [(0, .aload_n 0, 1, 0, 0, 0, 0, 0),
  (1, .invokevirtual 213, 3, 1211, 1, 1, 12, 1583),
  (4, .iload_n 1, 1, 0, 0, 0, 0, 0),
  (5, .if_icmp .eq 5, 3, 10, 0, 0, 0, 0),
  (8, .iconst 0, 1, 0, 0, 0, 0, 0),
  (9, .ireturn, 1, 2, 0, 0, 0, 0),
  (10, .aload_n 0, 1, 0, 0, 0, 0, 0),
  (11, .dup, 1, 0, 0, 0, 0, 0),
  (12, .getfield 207, 3, 12, 28, 0, 0, 1359),
  (15, .iconst 1, 1, 0, 0, 0, 1, 0),
  (16, .iadd, 1, 0, 0, 0, 0, 0),
  (17, .putfield 207, 3, 12, 28, 0, 0, 1359),
  (20, .iconst 1, 1, 0, 0, 0, 1, 0),
  (21, .ireturn, 1, 2, 0, 0, 0, 0)]
/-- TollsThatPayModel.fine()Z -/
def z_c1213 : List z_E := [(0, .aload_n 0, 1, 0, 0, 0, 0, 0),
  (1, .getfield 217, 3, 12, 29, 0, 0, 1360),
  (4, .iconst (-1), 1, 0, 0, 0, (-1), 0),
  (5, .if_icmp .ne 7, 3, 12, 0, 0, 0, 0),
  (8, .iconst 1, 1, 0, 0, 0, 1, 0),
  (9, .goto 4, 3, 13, 0, 0, 0, 0),
  (12, .iconst 0, 1, 0, 0, 0, 0, 0),
  (13, .ireturn, 1, 2, 0, 0, 0, 0)]
/-- TollsThatPayModel.isWrong(I)V -/
def z_c1214 : List z_E := [(0, .aload_n 0, 1, 0, 0, 0, 0, 0),
  (1, .invokevirtual 220, 3, 1213, 1, 1, 12, 1591),
  (4, .ifCond .eq 8, 3, 12, 0, 0, 0, 0),
  (7, .aload_n 0, 1, 0, 0, 0, 0, 0),
  (8, .iload_n 1, 1, 0, 0, 0, 0, 0),
  (9, .putfield 217, 3, 12, 29, 0, 0, 1360),
  (12, .return_, 1, 0, 0, 0, 0, 0)]
/-- TollsThatPayModel.corner(I)I -/
def z_c1215 : List z_E := [(0, .aload_n 0, 1, 0, 0, 0, 0, 0),
  (1, .invokevirtual 213, 3, 1211, 1, 1, 12, 1583),
  (4, .bipush 97, 2, 0, 0, 0, 97, 0),
  (6, .isub, 1, 0, 0, 0, 0, 0),
  (7, .istore_n 2, 1, 0, 0, 0, 0, 0),
  (8, .iload_n 2, 1, 0, 0, 0, 0, 0),
  (9, .iconst 0, 1, 0, 0, 0, 0, 0),
  (10, .bipush 7, 2, 0, 0, 0, 7, 0),
  (12, .invokestatic 194, 3, 1202, 3, 1, 0, 1572),
  (15, .ifCond .eq 8, 3, 23, 0, 0, 0, 0),
  (18, .iload_n 2, 1, 0, 0, 0, 0, 0),
  (19, .iload_n 1, 1, 0, 0, 0, 0, 0),
  (20, .if_icmp .ne 13, 3, 33, 0, 0, 0, 0),
  (23, .aload_n 0, 1, 0, 0, 0, 0, 0),
  (24, .aload_n 0, 1, 0, 0, 0, 0, 0),
  (25, .getfield 207, 3, 12, 28, 0, 0, 1359),
  (28, .invokevirtual 224, 3, 1214, 2, 0, 12, 1587),
  (31, .iconst 0, 1, 0, 0, 0, 0, 0),
  (32, .ireturn, 1, 1, 0, 0, 0, 0),
  (33, .aload_n 0, 1, 0, 0, 0, 0, 0),
  (34, .dup, 1, 0, 0, 0, 0, 0),
  (35, .getfield 207, 3, 12, 28, 0, 0, 1359),
  (38, .iconst 1, 1, 0, 0, 0, 1, 0),
  (39, .iadd, 1, 0, 0, 0, 0, 0),
  (40, .putfield 207, 3, 12, 28, 0, 0, 1359),
  (43, .iload_n 2, 1, 0, 0, 0, 0, 0),
  (44, .ireturn, 1, 1, 0, 0, 0, 0)]
/-- TollsThatPayModel.digit(II)I -/
def z_c1216 : List z_E := [(0, .aload_n 0, 1, 0, 0, 0, 0, 0),
  (1, .invokevirtual 213, 3, 1211, 1, 1, 12, 1583),
  (4, .bipush 48, 2, 0, 0, 0, 48, 0),
  (6, .isub, 1, 0, 0, 0, 0, 0),
  (7, .istore_n 3, 1, 0, 0, 0, 0, 0),
  (8, .iload_n 3, 1, 0, 0, 0, 0, 0),
  (9, .iload_n 1, 1, 0, 0, 0, 0, 0),
  (10, .iload_n 2, 1, 0, 0, 0, 0, 0),
  (11, .invokestatic 194, 3, 1202, 3, 1, 0, 1572),
  (14, .ifCond .ne 13, 3, 27, 0, 0, 0, 0),
  (17, .aload_n 0, 1, 0, 0, 0, 0, 0),
  (18, .aload_n 0, 1, 0, 0, 0, 0, 0),
  (19, .getfield 207, 3, 12, 28, 0, 0, 1359),
  (22, .invokevirtual 224, 3, 1214, 2, 0, 12, 1587),
  (25, .iconst 0, 1, 0, 0, 0, 0, 0),
  (26, .ireturn, 1, 1, 0, 0, 0, 0),
  (27, .aload_n 0, 1, 0, 0, 0, 0, 0),
  (28, .dup, 1, 0, 0, 0, 0, 0),
  (29, .getfield 207, 3, 12, 28, 0, 0, 1359),
  (32, .iconst 1, 1, 0, 0, 0, 1, 0),
  (33, .iadd, 1, 0, 0, 0, 0, 0),
  (34, .putfield 207, 3, 12, 28, 0, 0, 1359),
  (37, .iload_n 3, 1, 0, 0, 0, 0, 0),
  (38, .ireturn, 1, 1, 0, 0, 0, 0)]
/-- TollsThatPayModel.number(II)I -/
def z_c1217 : List z_E := [(0, .aload_n 0, 1, 0, 0, 0, 0, 0),
  (1, .iconst 0, 1, 0, 0, 0, 0, 0),
  (2, .bipush 9, 2, 0, 0, 0, 9, 0),
  (4, .invokevirtual 228, 3, 1216, 3, 1, 12, 1599),
  (7, .istore_n 3, 1, 0, 0, 0, 0, 0),
  (8, .iconst 1, 1, 0, 0, 0, 1, 0),
  (9, .istore 4, 2, 0, 0, 0, 0, 0),
  (11, .iload 4, 2, 0, 0, 0, 0, 0),
  (13, .iconst 3, 1, 0, 0, 0, 3, 0),
  (14, .if_icmp .ge 43, 3, 57, 0, 0, 0, 0),
  (17, .aload_n 0, 1, 0, 0, 0, 0, 0),
  (18, .invokevirtual 220, 3, 1213, 1, 1, 12, 1591),
  (21, .ifCond .eq 36, 3, 57, 0, 0, 0, 0),
  (24, .aload_n 0, 1, 0, 0, 0, 0, 0),
  (25, .invokevirtual 213, 3, 1211, 1, 1, 12, 1583),
  (28, .bipush 48, 2, 0, 0, 0, 48, 0),
  (30, .bipush 57, 2, 0, 0, 0, 57, 0),
  (32, .invokestatic 194, 3, 1202, 3, 1, 0, 1572),
  (35, .ifCond .eq 22, 3, 57, 0, 0, 0, 0),
  (38, .bipush 10, 2, 0, 0, 0, 10, 0),
  (40, .iload_n 3, 1, 0, 0, 0, 0, 0),
  (41, .imul, 1, 0, 0, 0, 0, 0),
  (42, .aload_n 0, 1, 0, 0, 0, 0, 0),
  (43, .iconst 0, 1, 0, 0, 0, 0, 0),
  (44, .bipush 9, 2, 0, 0, 0, 9, 0),
  (46, .invokevirtual 228, 3, 1216, 3, 1, 12, 1599),
  (49, .iadd, 1, 0, 0, 0, 0, 0),
  (50, .istore_n 3, 1, 0, 0, 0, 0, 0),
  (51, .iinc 4 1, 3, 0, 0, 0, 0, 0),
  (54, .goto (-43), 3, 11, 0, 0, 0, 0),
  (57, .aload_n 0, 1, 0, 0, 0, 0, 0),
  (58, .invokevirtual 220, 3, 1213, 1, 1, 12, 1591),
  (61, .ifCond .eq 22, 3, 83, 0, 0, 0, 0),
  (64, .iload_n 3, 1, 0, 0, 0, 0, 0),
  (65, .iload_n 1, 1, 0, 0, 0, 0, 0),
  (66, .iload_n 2, 1, 0, 0, 0, 0, 0),
  (67, .invokestatic 194, 3, 1202, 3, 1, 0, 1572),
  (70, .ifCond .ne 13, 3, 83, 0, 0, 0, 0),
  (73, .aload_n 0, 1, 0, 0, 0, 0, 0),
  (74, .aload_n 0, 1, 0, 0, 0, 0, 0),
  (75, .getfield 207, 3, 12, 28, 0, 0, 1359),
  (78, .iconst 1, 1, 0, 0, 0, 1, 0),
  (79, .isub, 1, 0, 0, 0, 0, 0),
  (80, .invokevirtual 224, 3, 1214, 2, 0, 12, 1587),
  (83, .iload_n 3, 1, 0, 0, 0, 0, 0),
  (84, .ireturn, 1, 1, 0, 0, 0, 0)]
/-- TollsThatPayModel.readItem()V -/
def z_c1218 : List z_E := [(0, .aload_n 0, 1, 0, 0, 0, 0, 0),
  (1, .getfield 232, 3, 12, 41, 0, 0, 1372),
  (4, .istore_n 1, 1, 0, 0, 0, 0, 0),
  (5, .aload_n 0, 1, 0, 0, 0, 0, 0),
  (6, .invokevirtual 213, 3, 1211, 1, 1, 12, 1583),
  (9, .istore_n 2, 1, 0, 0, 0, 0, 0),
  (10, .iload_n 2, 1, 0, 0, 0, 0, 0),
  (11, .bipush 114, 2, 0, 0, 0, 114, 0),
  (13, .if_icmp .eq 36, 3, 49, 0, 0, 0, 0),
  (16, .iload_n 2, 1, 0, 0, 0, 0, 0),
  (17, .bipush 116, 2, 0, 0, 0, 116, 0),
  (19, .if_icmp .eq 30, 3, 49, 0, 0, 0, 0),
  (22, .iload_n 2, 1, 0, 0, 0, 0, 0),
  (23, .bipush 117, 2, 0, 0, 0, 117, 0),
  (25, .if_icmp .eq 24, 3, 49, 0, 0, 0, 0),
  (28, .iload_n 2, 1, 0, 0, 0, 0, 0),
  (29, .bipush 106, 2, 0, 0, 0, 106, 0),
  (31, .if_icmp .eq 18, 3, 49, 0, 0, 0, 0),
  (34, .iload_n 2, 1, 0, 0, 0, 0, 0),
  (35, .bipush 109, 2, 0, 0, 0, 109, 0),
  (37, .if_icmp .eq 12, 3, 49, 0, 0, 0, 0),
  (40, .aload_n 0, 1, 0, 0, 0, 0, 0),
  (41, .aload_n 0, 1, 0, 0, 0, 0, 0),
  (42, .getfield 207, 3, 12, 28, 0, 0, 1359),
  (45, .invokevirtual 224, 3, 1214, 2, 0, 12, 1587),
  (48, .return_, 1, 0, 0, 0, 0, 0),
  (49, .aload_n 0, 1, 0, 0, 0, 0, 0),
  (50, .getfield 73, 3, 12, 30, 1, 0, 1361),
  (53, .iload_n 1, 1, 0, 0, 0, 0, 0),
  (54, .iload_n 2, 1, 0, 0, 0, 0, 0),
  (55, .i2c, 1, 0, 0, 0, 0, 0),
  (56, .castore, 1, 0, 0, 0, 0, 0),
  (57, .aload_n 0, 1, 0, 0, 0, 0, 0),
  (58, .dup, 1, 0, 0, 0, 0, 0),
  (59, .getfield 232, 3, 12, 41, 0, 0, 1372),
  (62, .iconst 1, 1, 0, 0, 0, 1, 0),
  (63, .iadd, 1, 0, 0, 0, 0, 0),
  (64, .putfield 232, 3, 12, 41, 0, 0, 1372),
  (67, .aload_n 0, 1, 0, 0, 0, 0, 0),
  (68, .dup, 1, 0, 0, 0, 0, 0),
  (69, .getfield 207, 3, 12, 28, 0, 0, 1359),
  (72, .iconst 1, 1, 0, 0, 0, 1, 0),
  (73, .iadd, 1, 0, 0, 0, 0, 0),
  (74, .putfield 207, 3, 12, 28, 0, 0, 1359),
  (77, .iload_n 2, 1, 0, 0, 0, 0, 0),
  (78, .bipush 109, 2, 0, 0, 0, 109, 0),
  (80, .if_icmp .ne 17, 3, 97, 0, 0, 0, 0),
  (83, .aload_n 0, 1, 0, 0, 0, 0, 0),
  (84, .getfield 83, 3, 12, 33, 1, 0, 1364),
  (87, .iload_n 1, 1, 0, 0, 0, 0, 0),
  (88, .aload_n 0, 1, 0, 0, 0, 0, 0),
  (89, .iconst 0, 1, 0, 0, 0, 0, 0),
  (90, .bipush 20, 2, 0, 0, 0, 20, 0),
  (92, .invokevirtual 235, 3, 1217, 3, 1, 12, 1595),
  (95, .iastore, 1, 0, 0, 0, 0, 0),
  (96, .return_, 1, 0, 0, 0, 0, 0),
  (97, .aload_n 0, 1, 0, 0, 0, 0, 0),
  (98, .getfield 77, 3, 12, 31, 1, 0, 1362),
  (101, .iload_n 1, 1, 0, 0, 0, 0, 0),
  (102, .aload_n 0, 1, 0, 0, 0, 0, 0),
  (103, .iconst (-1), 1, 0, 0, 0, (-1), 0),
  (104, .invokevirtual 238, 3, 1215, 2, 1, 12, 1603),
  (107, .iastore, 1, 0, 0, 0, 0, 0),
  (108, .aload_n 0, 1, 0, 0, 0, 0, 0),
  (109, .invokevirtual 220, 3, 1213, 1, 1, 12, 1591),
  (112, .ifCond .eq 19, 3, 131, 0, 0, 0, 0),
  (115, .aload_n 0, 1, 0, 0, 0, 0, 0),
  (116, .getfield 80, 3, 12, 32, 1, 0, 1363),
  (119, .iload_n 1, 1, 0, 0, 0, 0, 0),
  (120, .aload_n 0, 1, 0, 0, 0, 0, 0),
  (121, .aload_n 0, 1, 0, 0, 0, 0, 0),
  (122, .getfield 77, 3, 12, 31, 1, 0, 1362),
  (125, .iload_n 1, 1, 0, 0, 0, 0, 0),
  (126, .iaload, 1, 0, 0, 0, 0, 0),
  (127, .invokevirtual 238, 3, 1215, 2, 1, 12, 1603),
  (130, .iastore, 1, 0, 0, 0, 0, 0),
  (131, .aload_n 0, 1, 0, 0, 0, 0, 0),
  (132, .invokevirtual 220, 3, 1213, 1, 1, 12, 1591),
  (135, .ifCond .ne 4, 3, 139, 0, 0, 0, 0),
  (138, .return_, 1, 0, 0, 0, 0, 0),
  (139, .iload_n 2, 1, 0, 0, 0, 0, 0),
  (140, .bipush 106, 2, 0, 0, 0, 106, 0),
  (142, .if_icmp .ne 9, 3, 151, 0, 0, 0, 0),
  (145, .aload_n 0, 1, 0, 0, 0, 0, 0),
  (146, .iload_n 1, 1, 0, 0, 0, 0, 0),
  (147, .invokevirtual 242, 3, 1219, 2, 0, 12, 1607),
  (150, .return_, 1, 0, 0, 0, 0, 0),
  (151, .aload_n 0, 1, 0, 0, 0, 0, 0),
  (152, .getfield 83, 3, 12, 33, 1, 0, 1364),
  (155, .iload_n 1, 1, 0, 0, 0, 0, 0),
  (156, .aload_n 0, 1, 0, 0, 0, 0, 0),
  (157, .iconst 0, 1, 0, 0, 0, 0, 0),
  (158, .bipush 99, 2, 0, 0, 0, 99, 0),
  (160, .invokevirtual 235, 3, 1217, 3, 1, 12, 1595),
  (163, .iastore, 1, 0, 0, 0, 0, 0),
  (164, .aload_n 0, 1, 0, 0, 0, 0, 0),
  (165, .getfield 86, 3, 12, 34, 1, 0, 1365),
  (168, .iload_n 1, 1, 0, 0, 0, 0, 0),
  (169, .aload_n 0, 1, 0, 0, 0, 0, 0),
  (170, .invokevirtual 220, 3, 1213, 1, 1, 12, 1591),
  (173, .ifCond .eq 22, 3, 195, 0, 0, 0, 0),
  (176, .aload_n 0, 1, 0, 0, 0, 0, 0),
  (177, .bipush 43, 2, 0, 0, 0, 43, 0),
  (179, .invokevirtual 245, 3, 1212, 2, 1, 12, 1611),
  (182, .ifCond .eq 13, 3, 195, 0, 0, 0, 0),
  (185, .aload_n 0, 1, 0, 0, 0, 0, 0),
  (186, .iconst 0, 1, 0, 0, 0, 0, 0),
  (187, .bipush 9, 2, 0, 0, 0, 9, 0),
  (189, .invokevirtual 228, 3, 1216, 3, 1, 12, 1599),
  (192, .goto 4, 3, 196, 0, 0, 0, 0),
  (195, .iconst 0, 1, 0, 0, 0, 0, 0),
  (196, .iastore, 1, 0, 0, 0, 0, 0),
  (197, .return_, 1, 0, 0, 0, 0, 0)]
/-- TollsThatPayModel.readJourney(I)V -/
def z_c1219 : List z_E := [(0, .aload_n 0, 1, 0, 0, 0, 0, 0),
  (1, .getfield 89, 3, 12, 35, 1, 0, 1366),
  (4, .iload_n 1, 1, 0, 0, 0, 0, 0),
  (5, .iconst 0, 1, 0, 0, 0, 0, 0),
  (6, .iastore, 1, 0, 0, 0, 0, 0),
  (7, .aload_n 0, 1, 0, 0, 0, 0, 0),
  (8, .getfield 92, 3, 12, 36, 1, 0, 1367),
  (11, .iload_n 1, 1, 0, 0, 0, 0, 0),
  (12, .iconst 0, 1, 0, 0, 0, 0, 0),
  (13, .iastore, 1, 0, 0, 0, 0, 0),
  (14, .aload_n 0, 1, 0, 0, 0, 0, 0),
  (15, .getfield 95, 3, 12, 37, 1, 0, 1368),
  (18, .iload_n 1, 1, 0, 0, 0, 0, 0),
  (19, .iconst 0, 1, 0, 0, 0, 0, 0),
  (20, .bastore, 1, 2, 0, 0, 0, 0),
  (21, .aload_n 0, 1, 0, 0, 0, 0, 0),
  (22, .getfield 98, 3, 12, 38, 1, 0, 1369),
  (25, .iload_n 1, 1, 0, 0, 0, 0, 0),
  (26, .sipush 1000, 3, 0, 0, 0, 1000, 0),
  (29, .iastore, 1, 0, 0, 0, 0, 0),
  (30, .aload_n 0, 1, 0, 0, 0, 0, 0),
  (31, .getfield 101, 3, 12, 39, 1, 0, 1370),
  (34, .iload_n 1, 1, 0, 0, 0, 0, 0),
  (35, .iconst (-1), 1, 0, 0, 0, (-1), 0),
  (36, .iastore, 1, 0, 0, 0, 0, 0),
  (37, .aload_n 0, 1, 0, 0, 0, 0, 0),
  (38, .getfield 104, 3, 12, 40, 1, 0, 1371),
  (41, .iload_n 1, 1, 0, 0, 0, 0, 0),
  (42, .iconst 0, 1, 0, 0, 0, 0, 0),
  (43, .iastore, 1, 0, 0, 0, 0, 0),
  (44, .aload_n 0, 1, 0, 0, 0, 0, 0),
  (45, .bipush 42, 2, 0, 0, 0, 42, 0),
  (47, .invokevirtual 245, 3, 1212, 2, 1, 12, 1611),
  (50, .ifCond .ne 12, 3, 62, 0, 0, 0, 0),
  (53, .aload_n 0, 1, 0, 0, 0, 0, 0),
  (54, .aload_n 0, 1, 0, 0, 0, 0, 0),
  (55, .getfield 207, 3, 12, 28, 0, 0, 1359),
  (58, .invokevirtual 224, 3, 1214, 2, 0, 12, 1587),
  (61, .return_, 1, 0, 0, 0, 0, 0),
  (62, .aload_n 0, 1, 0, 0, 0, 0, 0),
  (63, .getfield 83, 3, 12, 33, 1, 0, 1364),
  (66, .iload_n 1, 1, 0, 0, 0, 0, 0),
  (67, .aload_n 0, 1, 0, 0, 0, 0, 0),
  (68, .iconst 1, 1, 0, 0, 0, 1, 0),
  (69, .bipush 99, 2, 0, 0, 0, 99, 0),
  (71, .invokevirtual 235, 3, 1217, 3, 1, 12, 1595),
  (74, .iastore, 1, 0, 0, 0, 0, 0),
  (75, .aload_n 0, 1, 0, 0, 0, 0, 0),
  (76, .invokevirtual 220, 3, 1213, 1, 1, 12, 1591),
  (79, .ifCond .ne 4, 3, 83, 0, 0, 0, 0),
  (82, .return_, 1, 0, 0, 0, 0, 0),
  (83, .aload_n 0, 1, 0, 0, 0, 0, 0),
  (84, .bipush 119, 2, 0, 0, 0, 119, 0),
  (86, .invokevirtual 245, 3, 1212, 2, 1, 12, 1611),
  (89, .ifCond .eq 31, 3, 120, 0, 0, 0, 0),
  (92, .aload_n 0, 1, 0, 0, 0, 0, 0),
  (93, .getfield 89, 3, 12, 35, 1, 0, 1366),
  (96, .iload_n 1, 1, 0, 0, 0, 0, 0),
  (97, .aload_n 0, 1, 0, 0, 0, 0, 0),
  (98, .iconst 0, 1, 0, 0, 0, 0, 0),
  (99, .bipush 9, 2, 0, 0, 0, 9, 0),
  (101, .invokevirtual 228, 3, 1216, 3, 1, 12, 1599),
  (104, .iastore, 1, 0, 0, 0, 0, 0),
  (105, .aload_n 0, 1, 0, 0, 0, 0, 0),
  (106, .getfield 92, 3, 12, 36, 1, 0, 1367),
  (109, .iload_n 1, 1, 0, 0, 0, 0, 0),
  (110, .aload_n 0, 1, 0, 0, 0, 0, 0),
  (111, .getfield 89, 3, 12, 35, 1, 0, 1366),
  (114, .iload_n 1, 1, 0, 0, 0, 0, 0),
  (115, .iaload, 1, 0, 0, 0, 0, 0),
  (116, .iastore, 1, 0, 0, 0, 0, 0),
  (117, .goto 95, 3, 212, 0, 0, 0, 0),
  (120, .aload_n 0, 1, 0, 0, 0, 0, 0),
  (121, .bipush 99, 2, 0, 0, 0, 99, 0),
  (123, .invokevirtual 245, 3, 1212, 2, 1, 12, 1611),
  (126, .ifCond .eq 86, 3, 212, 0, 0, 0, 0),
  (129, .aload_n 0, 1, 0, 0, 0, 0, 0),
  (130, .getfield 95, 3, 12, 37, 1, 0, 1368),
  (133, .iload_n 1, 1, 0, 0, 0, 0, 0),
  (134, .iconst 1, 1, 0, 0, 0, 1, 0),
  (135, .bastore, 1, 2, 0, 0, 0, 0),
  (136, .aload_n 0, 1, 0, 0, 0, 0, 0),
  (137, .getfield 89, 3, 12, 35, 1, 0, 1366),
  (140, .iload_n 1, 1, 0, 0, 0, 0, 0),
  (141, .aload_n 0, 1, 0, 0, 0, 0, 0),
  (142, .iconst 0, 1, 0, 0, 0, 0, 0),
  (143, .bipush 9, 2, 0, 0, 0, 9, 0),
  (145, .invokevirtual 228, 3, 1216, 3, 1, 12, 1599),
  (148, .iastore, 1, 0, 0, 0, 0, 0),
  (149, .aload_n 0, 1, 0, 0, 0, 0, 0),
  (150, .invokevirtual 220, 3, 1213, 1, 1, 12, 1591),
  (153, .ifCond .eq 20, 3, 173, 0, 0, 0, 0),
  (156, .aload_n 0, 1, 0, 0, 0, 0, 0),
  (157, .bipush 45, 2, 0, 0, 0, 45, 0),
  (159, .invokevirtual 245, 3, 1212, 2, 1, 12, 1611),
  (162, .ifCond .ne 11, 3, 173, 0, 0, 0, 0),
  (165, .aload_n 0, 1, 0, 0, 0, 0, 0),
  (166, .aload_n 0, 1, 0, 0, 0, 0, 0),
  (167, .getfield 207, 3, 12, 28, 0, 0, 1359),
  (170, .invokevirtual 224, 3, 1214, 2, 0, 12, 1587),
  (173, .aload_n 0, 1, 0, 0, 0, 0, 0),
  (174, .invokevirtual 220, 3, 1213, 1, 1, 12, 1591),
  (177, .ifCond .eq 35, 3, 212, 0, 0, 0, 0),
  (180, .aload_n 0, 1, 0, 0, 0, 0, 0),
  (181, .getfield 92, 3, 12, 36, 1, 0, 1367),
  (184, .iload_n 1, 1, 0, 0, 0, 0, 0),
  (185, .aload_n 0, 1, 0, 0, 0, 0, 0),
  (186, .aload_n 0, 1, 0, 0, 0, 0, 0),
  (187, .getfield 89, 3, 12, 35, 1, 0, 1366),
  (190, .iload_n 1, 1, 0, 0, 0, 0, 0),
  (191, .iaload, 1, 0, 0, 0, 0, 0),
  (192, .bipush 9, 2, 0, 0, 0, 9, 0),
  (194, .aload_n 0, 1, 0, 0, 0, 0, 0),
  (195, .getfield 89, 3, 12, 35, 1, 0, 1366),
  (198, .iload_n 1, 1, 0, 0, 0, 0, 0),
  (199, .iaload, 1, 0, 0, 0, 0, 0),
  (200, .bipush 6, 2, 0, 0, 0, 6, 0),
  (202, .iadd, 1, 0, 0, 0, 0, 0),
  (203, .iconst 1, 1, 0, 0, 0, 1, 0),
  (204, .isub, 1, 0, 0, 0, 0, 0),
  (205, .invokestatic 249, 3, 9996, 0, 0, 0, 1615),
  (208, .invokevirtual 228, 3, 1216, 3, 1, 12, 1599),
  (211, .iastore, 1, 0, 0, 0, 0, 0),
  (212, .aload_n 0, 1, 0, 0, 0, 0, 0),
  (213, .invokevirtual 220, 3, 1213, 1, 1, 12, 1591),
  (216, .ifCond .eq 26, 3, 242, 0, 0, 0, 0),
  (219, .aload_n 0, 1, 0, 0, 0, 0, 0),
  (220, .bipush 115, 2, 0, 0, 0, 115, 0),
  (222, .invokevirtual 245, 3, 1212, 2, 1, 12, 1611),
  (225, .ifCond .eq 17, 3, 242, 0, 0, 0, 0),
  (228, .aload_n 0, 1, 0, 0, 0, 0, 0),
  (229, .getfield 98, 3, 12, 38, 1, 0, 1369),
  (232, .iload_n 1, 1, 0, 0, 0, 0, 0),
  (233, .aload_n 0, 1, 0, 0, 0, 0, 0),
  (234, .iconst 0, 1, 0, 0, 0, 0, 0),
  (235, .sipush 999, 3, 0, 0, 0, 999, 0),
  (238, .invokevirtual 235, 3, 1217, 3, 1, 12, 1595),
  (241, .iastore, 1, 0, 0, 0, 0, 0),
  (242, .aload_n 0, 1, 0, 0, 0, 0, 0),
  (243, .invokevirtual 220, 3, 1213, 1, 1, 12, 1591),
  (246, .ifCond .eq 26, 3, 272, 0, 0, 0, 0),
  (249, .aload_n 0, 1, 0, 0, 0, 0, 0),
  (250, .bipush 47, 2, 0, 0, 0, 47, 0),
  (252, .invokevirtual 245, 3, 1212, 2, 1, 12, 1611),
  (255, .ifCond .eq 17, 3, 272, 0, 0, 0, 0),
  (258, .aload_n 0, 1, 0, 0, 0, 0, 0),
  (259, .getfield 101, 3, 12, 39, 1, 0, 1370),
  (262, .iload_n 1, 1, 0, 0, 0, 0, 0),
  (263, .aload_n 0, 1, 0, 0, 0, 0, 0),
  (264, .iconst 0, 1, 0, 0, 0, 0, 0),
  (265, .sipush 999, 3, 0, 0, 0, 999, 0),
  (268, .invokevirtual 235, 3, 1217, 3, 1, 12, 1595),
  (271, .iastore, 1, 0, 0, 0, 0, 0),
  (272, .aload_n 0, 1, 0, 0, 0, 0, 0),
  (273, .invokevirtual 220, 3, 1213, 1, 1, 12, 1591),
  (276, .ifCond .eq 24, 3, 300, 0, 0, 0, 0),
  (279, .aload_n 0, 1, 0, 0, 0, 0, 0),
  (280, .bipush 64, 2, 0, 0, 0, 64, 0),
  (282, .invokevirtual 245, 3, 1212, 2, 1, 12, 1611),
  (285, .ifCond .eq 15, 3, 300, 0, 0, 0, 0),
  (288, .aload_n 0, 1, 0, 0, 0, 0, 0),
  (289, .getfield 104, 3, 12, 40, 1, 0, 1371),
  (292, .iload_n 1, 1, 0, 0, 0, 0, 0),
  (293, .aload_n 0, 1, 0, 0, 0, 0, 0),
  (294, .iconst 0, 1, 0, 0, 0, 0, 0),
  (295, .iconst 3, 1, 0, 0, 0, 3, 0),
  (296, .invokevirtual 228, 3, 1216, 3, 1, 12, 1599),
  (299, .iastore, 1, 0, 0, 0, 0, 0),
  (300, .return_, 1, 0, 0, 0, 0, 0)]
/-- TollsThatPayModel.tell()I -/
def z_c1220 : List z_E := [(0, .aload_n 0, 1, 0, 0, 0, 0, 0),
  (1, .iconst 0, 1, 0, 0, 0, 0, 0),
  (2, .putfield 185, 3, 12, 26, 0, 0, 1357),
  (5, .aload_n 0, 1, 0, 0, 0, 0, 0),
  (6, .aload_n 0, 1, 0, 0, 0, 0, 0),
  (7, .getfield 204, 3, 12, 23, 0, 0, 1354),
  (10, .putfield 210, 3, 12, 27, 0, 0, 1358),
  (13, .aload_n 0, 1, 0, 0, 0, 0, 0),
  (14, .iconst 0, 1, 0, 0, 0, 0, 0),
  (15, .putfield 204, 3, 12, 23, 0, 0, 1354),
  (18, .aload_n 0, 1, 0, 0, 0, 0, 0),
  (19, .iconst 0, 1, 0, 0, 0, 0, 0),
  (20, .putfield 207, 3, 12, 28, 0, 0, 1359),
  (23, .aload_n 0, 1, 0, 0, 0, 0, 0),
  (24, .iconst (-1), 1, 0, 0, 0, (-1), 0),
  (25, .putfield 217, 3, 12, 29, 0, 0, 1360),
  (28, .aload_n 0, 1, 0, 0, 0, 0, 0),
  (29, .iconst 0, 1, 0, 0, 0, 0, 0),
  (30, .putfield 232, 3, 12, 41, 0, 0, 1372),
  (33, .aload_n 0, 1, 0, 0, 0, 0, 0),
  (34, .invokevirtual 254, 3, 1218, 1, 0, 12, 1579),
  (37, .aload_n 0, 1, 0, 0, 0, 0, 0),
  (38, .invokevirtual 220, 3, 1213, 1, 1, 12, 1591),
  (41, .ifCond .eq 12, 3, 53, 0, 0, 0, 0),
  (44, .aload_n 0, 1, 0, 0, 0, 0, 0),
  (45, .bipush 59, 2, 0, 0, 0, 59, 0),
  (47, .invokevirtual 245, 3, 1212, 2, 1, 12, 1611),
  (50, .ifCond .ne (-17), 3, 33, 0, 0, 0, 0),
  (53, .aload_n 0, 1, 0, 0, 0, 0, 0),
  (54, .invokevirtual 220, 3, 1213, 1, 1, 12, 1591),
  (57, .ifCond .eq 22, 3, 79, 0, 0, 0, 0),
  (60, .aload_n 0, 1, 0, 0, 0, 0, 0),
  (61, .getfield 207, 3, 12, 28, 0, 0, 1359),
  (64, .aload_n 0, 1, 0, 0, 0, 0, 0),
  (65, .getfield 210, 3, 12, 27, 0, 0, 1358),
  (68, .if_icmp .ge 11, 3, 79, 0, 0, 0, 0),
  (71, .aload_n 0, 1, 0, 0, 0, 0, 0),
  (72, .aload_n 0, 1, 0, 0, 0, 0, 0),
  (73, .getfield 207, 3, 12, 28, 0, 0, 1359),
  (76, .invokevirtual 224, 3, 1214, 2, 0, 12, 1587),
  (79, .aload_n 0, 1, 0, 0, 0, 0, 0),
  (80, .invokevirtual 220, 3, 1213, 1, 1, 12, 1591),
  (83, .ifCond .ne 10, 3, 93, 0, 0, 0, 0),
  (86, .iconst (-1), 1, 0, 0, 0, (-1), 0),
  (87, .aload_n 0, 1, 0, 0, 0, 0, 0),
  (88, .getfield 217, 3, 12, 29, 0, 0, 1360),
  (91, .isub, 1, 0, 0, 0, 0, 0),
  (92, .ireturn, 1, 1, 0, 0, 0, 0),
  (93, .iconst 0, 1, 0, 0, 0, 0, 0),
  (94, .istore_n 1, 1, 0, 0, 0, 0, 0),
  (95, .iconst 0, 1, 0, 0, 0, 0, 0),
  (96, .istore_n 2, 1, 0, 0, 0, 0, 0),
  (97, .iconst 0, 1, 0, 0, 0, 0, 0),
  (98, .istore_n 3, 1, 0, 0, 0, 0, 0),
  (99, .iconst 0, 1, 0, 0, 0, 0, 0),
  (100, .istore 4, 2, 0, 0, 0, 0, 0),
  (102, .iload 4, 2, 0, 0, 0, 0, 0),
  (104, .aload_n 0, 1, 0, 0, 0, 0, 0),
  (105, .getfield 232, 3, 12, 41, 0, 0, 1372),
  (108, .if_icmp .ge 105, 3, 213, 0, 0, 0, 0),
  (111, .iload_n 1, 1, 0, 0, 0, 0, 0),
  (112, .aload_n 0, 1, 0, 0, 0, 0, 0),
  (113, .getfield 73, 3, 12, 30, 1, 0, 1361),
  (116, .iload 4, 2, 0, 0, 0, 0, 0),
  (118, .caload, 1, 0, 0, 0, 0, 0),
  (119, .bipush 114, 2, 0, 0, 0, 114, 0),
  (121, .if_icmp .eq 27, 3, 148, 0, 0, 0, 0),
  (124, .aload_n 0, 1, 0, 0, 0, 0, 0),
  (125, .getfield 73, 3, 12, 30, 1, 0, 1361),
  (128, .iload 4, 2, 0, 0, 0, 0, 0),
  (130, .caload, 1, 0, 0, 0, 0, 0),
  (131, .bipush 116, 2, 0, 0, 0, 116, 0),
  (133, .if_icmp .eq 15, 3, 148, 0, 0, 0, 0),
  (136, .aload_n 0, 1, 0, 0, 0, 0, 0),
  (137, .getfield 73, 3, 12, 30, 1, 0, 1361),
  (140, .iload 4, 2, 0, 0, 0, 0, 0),
  (142, .caload, 1, 0, 0, 0, 0, 0),
  (143, .bipush 117, 2, 0, 0, 0, 117, 0),
  (145, .if_icmp .ne 7, 3, 152, 0, 0, 0, 0),
  (148, .iconst 1, 1, 0, 0, 0, 1, 0),
  (149, .goto 4, 3, 153, 0, 0, 0, 0),
  (152, .iconst 0, 1, 0, 0, 0, 0, 0),
  (153, .iadd, 1, 0, 0, 0, 0, 0),
  (154, .istore_n 1, 1, 0, 0, 0, 0, 0),
  (155, .iload_n 2, 1, 0, 0, 0, 0, 0),
  (156, .aload_n 0, 1, 0, 0, 0, 0, 0),
  (157, .getfield 73, 3, 12, 30, 1, 0, 1361),
  (160, .iload 4, 2, 0, 0, 0, 0, 0),
  (162, .caload, 1, 0, 0, 0, 0, 0),
  (163, .bipush 116, 2, 0, 0, 0, 116, 0),
  (165, .if_icmp .eq 15, 3, 180, 0, 0, 0, 0),
  (168, .aload_n 0, 1, 0, 0, 0, 0, 0),
  (169, .getfield 73, 3, 12, 30, 1, 0, 1361),
  (172, .iload 4, 2, 0, 0, 0, 0, 0),
  (174, .caload, 1, 0, 0, 0, 0, 0),
  (175, .bipush 117, 2, 0, 0, 0, 117, 0),
  (177, .if_icmp .ne 7, 3, 184, 0, 0, 0, 0),
  (180, .iconst 1, 1, 0, 0, 0, 1, 0),
  (181, .goto 4, 3, 185, 0, 0, 0, 0),
  (184, .iconst 0, 1, 0, 0, 0, 0, 0),
  (185, .iadd, 1, 0, 0, 0, 0, 0),
  (186, .istore_n 2, 1, 0, 0, 0, 0, 0),
  (187, .iload_n 3, 1, 0, 0, 0, 0, 0),
  (188, .aload_n 0, 1, 0, 0, 0, 0, 0),
  (189, .getfield 73, 3, 12, 30, 1, 0, 1361),
  (192, .iload 4, 2, 0, 0, 0, 0, 0),
  (194, .caload, 1, 0, 0, 0, 0, 0),
  (195, .bipush 106, 2, 0, 0, 0, 106, 0),
  (197, .if_icmp .ne 7, 3, 204, 0, 0, 0, 0),
  (200, .iconst 1, 1, 0, 0, 0, 1, 0),
  (201, .goto 4, 3, 205, 0, 0, 0, 0),
  (204, .iconst 0, 1, 0, 0, 0, 0, 0),
  (205, .iadd, 1, 0, 0, 0, 0, 0),
  (206, .istore_n 3, 1, 0, 0, 0, 0, 0),
  (207, .iinc 4 1, 3, 0, 0, 0, 0, 0),
  (210, .goto (-108), 3, 102, 0, 0, 0, 0),
  (213, .aload_n 0, 1, 0, 0, 0, 0, 0),
  (214, .getfield 191, 3, 12, 5, 0, 0, 1336),
  (217, .iload_n 1, 1, 0, 0, 0, 0, 0),
  (218, .iadd, 1, 0, 0, 0, 0, 0),
  (219, .bipush 14, 2, 0, 0, 0, 14, 0),
  (221, .if_icmp .le 6, 3, 227, 0, 0, 0, 0),
  (224, .bipush (-100), 2, 0, 0, 0, (-100), 0),
  (226, .ireturn, 1, 1, 0, 0, 0, 0),
  (227, .aload_n 0, 1, 0, 0, 0, 0, 0),
  (228, .getfield 201, 3, 12, 8, 0, 0, 1339),
  (231, .iload_n 2, 1, 0, 0, 0, 0, 0),
  (232, .iadd, 1, 0, 0, 0, 0, 0),
  (233, .iconst 5, 1, 0, 0, 0, 5, 0),
  (234, .if_icmp .le 6, 3, 240, 0, 0, 0, 0),
  (237, .bipush (-101), 2, 0, 0, 0, (-101), 0),
  (239, .ireturn, 1, 1, 0, 0, 0, 0),
  (240, .aload_n 0, 1, 0, 0, 0, 0, 0),
  (241, .getfield 198, 3, 12, 20, 0, 0, 1351),
  (244, .iload_n 3, 1, 0, 0, 0, 0, 0),
  (245, .iadd, 1, 0, 0, 0, 0, 0),
  (246, .bipush 8, 2, 0, 0, 0, 8, 0),
  (248, .if_icmp .le 6, 3, 254, 0, 0, 0, 0),
  (251, .bipush (-102), 2, 0, 0, 0, (-102), 0),
  (253, .ireturn, 1, 1, 0, 0, 0, 0),
  (254, .aload_n 0, 1, 0, 0, 0, 0, 0),
  (255, .getfield 191, 3, 12, 5, 0, 0, 1336),
  (258, .istore 4, 2, 0, 0, 0, 0, 0),
  (260, .aload_n 0, 1, 0, 0, 0, 0, 0),
  (261, .getfield 201, 3, 12, 8, 0, 0, 1339),
  (264, .istore 5, 2, 0, 0, 0, 0, 0),
  (266, .aload_n 0, 1, 0, 0, 0, 0, 0),
  (267, .getfield 198, 3, 12, 20, 0, 0, 1351),
  (270, .istore 6, 2, 0, 0, 0, 0, 0),
  (272, .iconst 0, 1, 0, 0, 0, 0, 0),
  (273, .istore 7, 2, 0, 0, 0, 0, 0),
  (275, .iload 7, 2, 0, 0, 0, 0, 0),
  (277, .aload_n 0, 1, 0, 0, 0, 0, 0),
  (278, .getfield 232, 3, 12, 41, 0, 0, 1372),
  (281, .if_icmp .ge 27, 3, 308, 0, 0, 0, 0),
  (284, .aload_n 0, 1, 0, 0, 0, 0, 0),
  (285, .getfield 73, 3, 12, 30, 1, 0, 1361),
  (288, .iload 7, 2, 0, 0, 0, 0, 0),
  (290, .caload, 1, 0, 0, 0, 0, 0),
  (291, .bipush 109, 2, 0, 0, 0, 109, 0),
  (293, .if_icmp .eq 9, 3, 302, 0, 0, 0, 0),
  (296, .aload_n 0, 1, 0, 0, 0, 0, 0),
  (297, .iload 7, 2, 0, 0, 0, 0, 0),
  (299, .invokevirtual 257, 3, 1221, 2, 0, 12, 1616),
  (302, .iinc 7 1, 3, 0, 0, 0, 0, 0),
  (305, .goto (-30), 3, 275, 0, 0, 0, 0),
  (308, .aload_n 0, 1, 0, 0, 0, 0, 0),
  (309, .invokevirtual 260, 3, 1222, 1, 1, 12, 1620),
  (312, .ifCond .ne 29, 3, 341, 0, 0, 0, 0),
  (315, .aload_n 0, 1, 0, 0, 0, 0, 0),
  (316, .iload 4, 2, 0, 0, 0, 0, 0),
  (318, .putfield 191, 3, 12, 5, 0, 0, 1336),
  (321, .aload_n 0, 1, 0, 0, 0, 0, 0),
  (322, .iload 5, 2, 0, 0, 0, 0, 0),
  (324, .putfield 201, 3, 12, 8, 0, 0, 1339),
  (327, .aload_n 0, 1, 0, 0, 0, 0, 0),
  (328, .iload 6, 2, 0, 0, 0, 0, 0),
  (330, .putfield 198, 3, 12, 20, 0, 0, 1351),
  (333, .aload_n 0, 1, 0, 0, 0, 0, 0),
  (334, .invokevirtual 260, 3, 1222, 1, 1, 12, 1620),
  (337, .pop, 1, 0, 0, 0, 0, 0),
  (338, .bipush (-103), 2, 0, 0, 0, (-103), 0),
  (340, .ireturn, 1, 1, 0, 0, 0, 0),
  (341, .iconst 0, 1, 0, 0, 0, 0, 0),
  (342, .istore 7, 2, 0, 0, 0, 0, 0),
  (344, .iload 7, 2, 0, 0, 0, 0, 0),
  (346, .aload_n 0, 1, 0, 0, 0, 0, 0),
  (347, .getfield 232, 3, 12, 41, 0, 0, 1372),
  (350, .if_icmp .ge 74, 3, 424, 0, 0, 0, 0),
  (353, .aload_n 0, 1, 0, 0, 0, 0, 0),
  (354, .getfield 73, 3, 12, 30, 1, 0, 1361),
  (357, .iload 7, 2, 0, 0, 0, 0, 0),
  (359, .caload, 1, 0, 0, 0, 0, 0),
  (360, .bipush 109, 2, 0, 0, 0, 109, 0),
  (362, .if_icmp .eq 6, 3, 368, 0, 0, 0, 0),
  (365, .goto 53, 3, 418, 0, 0, 0, 0),
  (368, .aload_n 0, 1, 0, 0, 0, 0, 0),
  (369, .aload_n 0, 1, 0, 0, 0, 0, 0),
  (370, .getfield 83, 3, 12, 33, 1, 0, 1364),
  (373, .iload 7, 2, 0, 0, 0, 0, 0),
  (375, .iaload, 1, 0, 0, 0, 0, 0),
  (376, .putfield 31, 3, 12, 9, 0, 0, 1340),
  (379, .iconst 0, 1, 0, 0, 0, 0, 0),
  (380, .istore 8, 2, 0, 0, 0, 0, 0),
  (382, .iload 8, 2, 0, 0, 0, 0, 0),
  (384, .aload_n 0, 1, 0, 0, 0, 0, 0),
  (385, .getfield 201, 3, 12, 8, 0, 0, 1339),
  (388, .if_icmp .ge 30, 3, 418, 0, 0, 0, 0),
  (391, .aload_n 0, 1, 0, 0, 0, 0, 0),
  (392, .getfield 28, 3, 12, 7, 1, 0, 1338),
  (395, .iload 8, 2, 0, 0, 0, 0, 0),
  (397, .aload_n 0, 1, 0, 0, 0, 0, 0),
  (398, .getfield 28, 3, 12, 7, 1, 0, 1338),
  (401, .iload 8, 2, 0, 0, 0, 0, 0),
  (403, .iaload, 1, 0, 0, 0, 0, 0),
  (404, .aload_n 0, 1, 0, 0, 0, 0, 0),
  (405, .getfield 31, 3, 12, 9, 0, 0, 1340),
  (408, .invokestatic 249, 3, 9996, 0, 0, 0, 1615),
  (411, .iastore, 1, 0, 0, 0, 0, 0),
  (412, .iinc 8 1, 3, 0, 0, 0, 0, 0),
  (415, .goto (-33), 3, 382, 0, 0, 0, 0),
  (418, .iinc 7 1, 3, 0, 0, 0, 0, 0),
  (421, .goto (-77), 3, 344, 0, 0, 0, 0),
  (424, .aload_n 0, 1, 0, 0, 0, 0, 0),
  (425, .getfield 232, 3, 12, 41, 0, 0, 1372),
  (428, .ireturn, 1, 1, 0, 0, 0, 0)]
/-- TollsThatPayModel.tellItem(I)V -/
def z_c1221 : List z_E := [(0, .aload_n 0, 1, 0, 0, 0, 0, 0),
  (1, .getfield 73, 3, 12, 30, 1, 0, 1361),
  (4, .iload_n 1, 1, 0, 0, 0, 0, 0),
  (5, .caload, 1, 0, 0, 0, 0, 0),
  (6, .bipush 106, 2, 0, 0, 0, 106, 0),
  (8, .if_icmp .ne 149, 3, 157, 0, 0, 0, 0),
  (11, .aload_n 0, 1, 0, 0, 0, 0, 0),
  (12, .getfield 35, 3, 12, 11, 1, 0, 1342),
  (15, .aload_n 0, 1, 0, 0, 0, 0, 0),
  (16, .getfield 198, 3, 12, 20, 0, 0, 1351),
  (19, .aload_n 0, 1, 0, 0, 0, 0, 0),
  (20, .getfield 77, 3, 12, 31, 1, 0, 1362),
  (23, .iload_n 1, 1, 0, 0, 0, 0, 0),
  (24, .iaload, 1, 0, 0, 0, 0, 0),
  (25, .iastore, 1, 0, 0, 0, 0, 0),
  (26, .aload_n 0, 1, 0, 0, 0, 0, 0),
  (27, .getfield 38, 3, 12, 12, 1, 0, 1343),
  (30, .aload_n 0, 1, 0, 0, 0, 0, 0),
  (31, .getfield 198, 3, 12, 20, 0, 0, 1351),
  (34, .aload_n 0, 1, 0, 0, 0, 0, 0),
  (35, .getfield 80, 3, 12, 32, 1, 0, 1363),
  (38, .iload_n 1, 1, 0, 0, 0, 0, 0),
  (39, .iaload, 1, 0, 0, 0, 0, 0),
  (40, .iastore, 1, 0, 0, 0, 0, 0),
  (41, .aload_n 0, 1, 0, 0, 0, 0, 0),
  (42, .getfield 41, 3, 12, 13, 1, 0, 1344),
  (45, .aload_n 0, 1, 0, 0, 0, 0, 0),
  (46, .getfield 198, 3, 12, 20, 0, 0, 1351),
  (49, .aload_n 0, 1, 0, 0, 0, 0, 0),
  (50, .getfield 83, 3, 12, 33, 1, 0, 1364),
  (53, .iload_n 1, 1, 0, 0, 0, 0, 0),
  (54, .iaload, 1, 0, 0, 0, 0, 0),
  (55, .iastore, 1, 0, 0, 0, 0, 0),
  (56, .aload_n 0, 1, 0, 0, 0, 0, 0),
  (57, .getfield 44, 3, 12, 14, 1, 0, 1345),
  (60, .aload_n 0, 1, 0, 0, 0, 0, 0),
  (61, .getfield 198, 3, 12, 20, 0, 0, 1351),
  (64, .aload_n 0, 1, 0, 0, 0, 0, 0),
  (65, .getfield 89, 3, 12, 35, 1, 0, 1366),
  (68, .iload_n 1, 1, 0, 0, 0, 0, 0),
  (69, .iaload, 1, 0, 0, 0, 0, 0),
  (70, .iastore, 1, 0, 0, 0, 0, 0),
  (71, .aload_n 0, 1, 0, 0, 0, 0, 0),
  (72, .getfield 47, 3, 12, 15, 1, 0, 1346),
  (75, .aload_n 0, 1, 0, 0, 0, 0, 0),
  (76, .getfield 198, 3, 12, 20, 0, 0, 1351),
  (79, .aload_n 0, 1, 0, 0, 0, 0, 0),
  (80, .getfield 92, 3, 12, 36, 1, 0, 1367),
  (83, .iload_n 1, 1, 0, 0, 0, 0, 0),
  (84, .iaload, 1, 0, 0, 0, 0, 0),
  (85, .iastore, 1, 0, 0, 0, 0, 0),
  (86, .aload_n 0, 1, 0, 0, 0, 0, 0),
  (87, .getfield 50, 3, 12, 16, 1, 0, 1347),
  (90, .aload_n 0, 1, 0, 0, 0, 0, 0),
  (91, .getfield 198, 3, 12, 20, 0, 0, 1351),
  (94, .aload_n 0, 1, 0, 0, 0, 0, 0),
  (95, .getfield 95, 3, 12, 37, 1, 0, 1368),
  (98, .iload_n 1, 1, 0, 0, 0, 0, 0),
  (99, .baload, 1, 0, 0, 0, 0, 0),
  (100, .bastore, 1, 2, 0, 0, 0, 0),
  (101, .aload_n 0, 1, 0, 0, 0, 0, 0),
  (102, .getfield 54, 3, 12, 17, 1, 0, 1348),
  (105, .aload_n 0, 1, 0, 0, 0, 0, 0),
  (106, .getfield 198, 3, 12, 20, 0, 0, 1351),
  (109, .aload_n 0, 1, 0, 0, 0, 0, 0),
  (110, .getfield 98, 3, 12, 38, 1, 0, 1369),
  (113, .iload_n 1, 1, 0, 0, 0, 0, 0),
  (114, .iaload, 1, 0, 0, 0, 0, 0),
  (115, .iastore, 1, 0, 0, 0, 0, 0),
  (116, .aload_n 0, 1, 0, 0, 0, 0, 0),
  (117, .getfield 57, 3, 12, 18, 1, 0, 1349),
  (120, .aload_n 0, 1, 0, 0, 0, 0, 0),
  (121, .getfield 198, 3, 12, 20, 0, 0, 1351),
  (124, .aload_n 0, 1, 0, 0, 0, 0, 0),
  (125, .getfield 101, 3, 12, 39, 1, 0, 1370),
  (128, .iload_n 1, 1, 0, 0, 0, 0, 0),
  (129, .iaload, 1, 0, 0, 0, 0, 0),
  (130, .iastore, 1, 0, 0, 0, 0, 0),
  (131, .aload_n 0, 1, 0, 0, 0, 0, 0),
  (132, .getfield 60, 3, 12, 19, 1, 0, 1350),
  (135, .aload_n 0, 1, 0, 0, 0, 0, 0),
  (136, .getfield 198, 3, 12, 20, 0, 0, 1351),
  (139, .aload_n 0, 1, 0, 0, 0, 0, 0),
  (140, .getfield 104, 3, 12, 40, 1, 0, 1371),
  (143, .iload_n 1, 1, 0, 0, 0, 0, 0),
  (144, .iaload, 1, 0, 0, 0, 0, 0),
  (145, .iastore, 1, 0, 0, 0, 0, 0),
  (146, .aload_n 0, 1, 0, 0, 0, 0, 0),
  (147, .dup, 1, 0, 0, 0, 0, 0),
  (148, .getfield 198, 3, 12, 20, 0, 0, 1351),
  (151, .iconst 1, 1, 0, 0, 0, 1, 0),
  (152, .iadd, 1, 0, 0, 0, 0, 0),
  (153, .putfield 198, 3, 12, 20, 0, 0, 1351),
  (156, .return_, 1, 0, 0, 0, 0, 0),
  (157, .aload_n 0, 1, 0, 0, 0, 0, 0),
  (158, .getfield 9, 3, 12, 0, 1, 0, 1331),
  (161, .aload_n 0, 1, 0, 0, 0, 0, 0),
  (162, .getfield 191, 3, 12, 5, 0, 0, 1336),
  (165, .aload_n 0, 1, 0, 0, 0, 0, 0),
  (166, .getfield 77, 3, 12, 31, 1, 0, 1362),
  (169, .iload_n 1, 1, 0, 0, 0, 0, 0),
  (170, .iaload, 1, 0, 0, 0, 0, 0),
  (171, .iastore, 1, 0, 0, 0, 0, 0),
  (172, .aload_n 0, 1, 0, 0, 0, 0, 0),
  (173, .getfield 13, 3, 12, 1, 1, 0, 1332),
  (176, .aload_n 0, 1, 0, 0, 0, 0, 0),
  (177, .getfield 191, 3, 12, 5, 0, 0, 1336),
  (180, .aload_n 0, 1, 0, 0, 0, 0, 0),
  (181, .getfield 80, 3, 12, 32, 1, 0, 1363),
  (184, .iload_n 1, 1, 0, 0, 0, 0, 0),
  (185, .iaload, 1, 0, 0, 0, 0, 0),
  (186, .iastore, 1, 0, 0, 0, 0, 0),
  (187, .aload_n 0, 1, 0, 0, 0, 0, 0),
  (188, .getfield 16, 3, 12, 2, 1, 0, 1333),
  (191, .aload_n 0, 1, 0, 0, 0, 0, 0),
  (192, .getfield 191, 3, 12, 5, 0, 0, 1336),
  (195, .aload_n 0, 1, 0, 0, 0, 0, 0),
  (196, .getfield 83, 3, 12, 33, 1, 0, 1364),
  (199, .iload_n 1, 1, 0, 0, 0, 0, 0),
  (200, .iaload, 1, 0, 0, 0, 0, 0),
  (201, .iastore, 1, 0, 0, 0, 0, 0),
  (202, .aload_n 0, 1, 0, 0, 0, 0, 0),
  (203, .getfield 19, 3, 12, 3, 1, 0, 1334),
  (206, .aload_n 0, 1, 0, 0, 0, 0, 0),
  (207, .getfield 191, 3, 12, 5, 0, 0, 1336),
  (210, .aload_n 0, 1, 0, 0, 0, 0, 0),
  (211, .getfield 86, 3, 12, 34, 1, 0, 1365),
  (214, .iload_n 1, 1, 0, 0, 0, 0, 0),
  (215, .iaload, 1, 0, 0, 0, 0, 0),
  (216, .iastore, 1, 0, 0, 0, 0, 0),
  (217, .aload_n 0, 1, 0, 0, 0, 0, 0),
  (218, .getfield 22, 3, 12, 4, 1, 0, 1335),
  (221, .aload_n 0, 1, 0, 0, 0, 0, 0),
  (222, .getfield 191, 3, 12, 5, 0, 0, 1336),
  (225, .aload_n 0, 1, 0, 0, 0, 0, 0),
  (226, .getfield 73, 3, 12, 30, 1, 0, 1361),
  (229, .iload_n 1, 1, 0, 0, 0, 0, 0),
  (230, .caload, 1, 0, 0, 0, 0, 0),
  (231, .bipush 114, 2, 0, 0, 0, 114, 0),
  (233, .if_icmp .ne 7, 3, 240, 0, 0, 0, 0),
  (236, .iconst (-1), 1, 0, 0, 0, (-1), 0),
  (237, .goto 19, 3, 256, 0, 0, 0, 0),
  (240, .aload_n 0, 1, 0, 0, 0, 0, 0),
  (241, .getfield 73, 3, 12, 30, 1, 0, 1361),
  (244, .iload_n 1, 1, 0, 0, 0, 0, 0),
  (245, .caload, 1, 0, 0, 0, 0, 0),
  (246, .bipush 116, 2, 0, 0, 0, 116, 0),
  (248, .if_icmp .ne 7, 3, 255, 0, 0, 0, 0),
  (251, .iconst 0, 1, 0, 0, 0, 0, 0),
  (252, .goto 4, 3, 256, 0, 0, 0, 0),
  (255, .iconst 1, 1, 0, 0, 0, 1, 0),
  (256, .iastore, 1, 0, 0, 0, 0, 0),
  (257, .aload_n 0, 1, 0, 0, 0, 0, 0),
  (258, .getfield 73, 3, 12, 30, 1, 0, 1361),
  (261, .iload_n 1, 1, 0, 0, 0, 0, 0),
  (262, .caload, 1, 0, 0, 0, 0, 0),
  (263, .bipush 114, 2, 0, 0, 0, 114, 0),
  (265, .if_icmp .eq 36, 3, 301, 0, 0, 0, 0),
  (268, .aload_n 0, 1, 0, 0, 0, 0, 0),
  (269, .getfield 25, 3, 12, 6, 1, 0, 1337),
  (272, .aload_n 0, 1, 0, 0, 0, 0, 0),
  (273, .getfield 201, 3, 12, 8, 0, 0, 1339),
  (276, .aload_n 0, 1, 0, 0, 0, 0, 0),
  (277, .getfield 191, 3, 12, 5, 0, 0, 1336),
  (280, .iastore, 1, 0, 0, 0, 0, 0),
  (281, .aload_n 0, 1, 0, 0, 0, 0, 0),
  (282, .getfield 28, 3, 12, 7, 1, 0, 1338),
  (285, .aload_n 0, 1, 0, 0, 0, 0, 0),
  (286, .getfield 201, 3, 12, 8, 0, 0, 1339),
  (289, .iconst 0, 1, 0, 0, 0, 0, 0),
  (290, .iastore, 1, 0, 0, 0, 0, 0),
  (291, .aload_n 0, 1, 0, 0, 0, 0, 0),
  (292, .dup, 1, 0, 0, 0, 0, 0),
  (293, .getfield 201, 3, 12, 8, 0, 0, 1339),
  (296, .iconst 1, 1, 0, 0, 0, 1, 0),
  (297, .iadd, 1, 0, 0, 0, 0, 0),
  (298, .putfield 201, 3, 12, 8, 0, 0, 1339),
  (301, .aload_n 0, 1, 0, 0, 0, 0, 0),
  (302, .dup, 1, 0, 0, 0, 0, 0),
  (303, .getfield 191, 3, 12, 5, 0, 0, 1336),
  (306, .iconst 1, 1, 0, 0, 0, 1, 0),
  (307, .iadd, 1, 0, 0, 0, 0, 0),
  (308, .putfield 191, 3, 12, 5, 0, 0, 1336),
  (311, .return_, 1, 0, 0, 0, 0, 0)]
/-- TollsThatPayModel.findWays()Z -/
def z_c1222 : List z_E := [(0, .iconst 1, 1, 0, 0, 0, 1, 0),
  (1, .istore_n 1, 1, 0, 0, 0, 0, 0),
  (2, .iconst 0, 1, 0, 0, 0, 0, 0),
  (3, .istore_n 2, 1, 0, 0, 0, 0, 0),
  (4, .iload_n 2, 1, 0, 0, 0, 0, 0),
  (5, .aload_n 0, 1, 0, 0, 0, 0, 0),
  (6, .getfield 198, 3, 12, 20, 0, 0, 1351),
  (9, .if_icmp .ge 84, 3, 93, 0, 0, 0, 0),
  (12, .aload_n 0, 1, 0, 0, 0, 0, 0),
  (13, .getfield 113, 3, 12, 44, 1, 0, 1375),
  (16, .iload_n 2, 1, 0, 0, 0, 0, 0),
  (17, .iconst 0, 1, 0, 0, 0, 0, 0),
  (18, .iastore, 1, 0, 0, 0, 0, 0),
  (19, .aload_n 0, 1, 0, 0, 0, 0, 0),
  (20, .getfield 57, 3, 12, 18, 1, 0, 1349),
  (23, .iload_n 2, 1, 0, 0, 0, 0, 0),
  (24, .iaload, 1, 0, 0, 0, 0, 0),
  (25, .iconst (-1), 1, 0, 0, 0, (-1), 0),
  (26, .if_icmp .eq 21, 3, 47, 0, 0, 0, 0),
  (29, .aload_n 0, 1, 0, 0, 0, 0, 0),
  (30, .getfield 110, 3, 12, 43, 1, 0, 1374),
  (33, .sipush 200, 3, 0, 0, 0, 200, 0),
  (36, .iload_n 2, 1, 0, 0, 0, 0, 0),
  (37, .imul, 1, 0, 0, 0, 0, 0),
  (38, .iconst 0, 1, 0, 0, 0, 0, 0),
  (39, .iastore, 1, 0, 0, 0, 0, 0),
  (40, .aload_n 0, 1, 0, 0, 0, 0, 0),
  (41, .getfield 113, 3, 12, 44, 1, 0, 1375),
  (44, .iload_n 2, 1, 0, 0, 0, 0, 0),
  (45, .iconst 1, 1, 0, 0, 0, 1, 0),
  (46, .iastore, 1, 0, 0, 0, 0, 0),
  (47, .iconst 1, 1, 0, 0, 0, 1, 0),
  (48, .istore_n 3, 1, 0, 0, 0, 0, 0),
  (49, .iload_n 3, 1, 0, 0, 0, 0, 0),
  (50, .bipush 7, 2, 0, 0, 0, 7, 0),
  (52, .if_icmp .gt 35, 3, 87, 0, 0, 0, 0),
  (55, .iload_n 1, 1, 0, 0, 0, 0, 0),
  (56, .ifCond .eq 31, 3, 87, 0, 0, 0, 0),
  (59, .aload_n 0, 1, 0, 0, 0, 0, 0),
  (60, .iload_n 2, 1, 0, 0, 0, 0, 0),
  (61, .aload_n 0, 1, 0, 0, 0, 0, 0),
  (62, .getfield 35, 3, 12, 11, 1, 0, 1342),
  (65, .iload_n 2, 1, 0, 0, 0, 0, 0),
  (66, .iaload, 1, 0, 0, 0, 0, 0),
  (67, .iconst 1, 1, 0, 0, 0, 1, 0),
  (68, .aload_n 0, 1, 0, 0, 0, 0, 0),
  (69, .getfield 35, 3, 12, 11, 1, 0, 1342),
  (72, .iload_n 2, 1, 0, 0, 0, 0, 0),
  (73, .iaload, 1, 0, 0, 0, 0, 0),
  (74, .ishl, 1, 0, 0, 0, 0, 0),
  (75, .iconst 0, 1, 0, 0, 0, 0, 0),
  (76, .iload_n 3, 1, 0, 0, 0, 0, 0),
  (77, .invokevirtual 263, 3, 1223, 6, 1, 12, 1624),
  (80, .istore_n 1, 1, 0, 0, 0, 0, 0),
  (81, .iinc 3 1, 3, 0, 0, 0, 0, 0),
  (84, .goto (-35), 3, 49, 0, 0, 0, 0),
  (87, .iinc 2 1, 3, 0, 0, 0, 0, 0),
  (90, .goto (-86), 3, 4, 0, 0, 0, 0),
  (93, .iload_n 1, 1, 0, 0, 0, 0, 0),
  (94, .ireturn, 1, 2, 0, 0, 0, 0)]
/-- TollsThatPayModel.goOn(IIIII)Z -/
def z_c1223 : List z_E := [(0, .iload_n 2, 1, 0, 0, 0, 0, 0),
  (1, .aload_n 0, 1, 0, 0, 0, 0, 0),
  (2, .getfield 38, 3, 12, 12, 1, 0, 1343),
  (5, .iload_n 1, 1, 0, 0, 0, 0, 0),
  (6, .iaload, 1, 0, 0, 0, 0, 0),
  (7, .if_icmp .ne 97, 3, 104, 0, 0, 0, 0),
  (10, .iload 4, 2, 0, 0, 0, 0, 0),
  (12, .iload 5, 2, 0, 0, 0, 0, 0),
  (14, .if_icmp .ge 5, 3, 19, 0, 0, 0, 0),
  (17, .iconst 1, 1, 0, 0, 0, 1, 0),
  (18, .ireturn, 1, 2, 0, 0, 0, 0),
  (19, .aload_n 0, 1, 0, 0, 0, 0, 0),
  (20, .getfield 113, 3, 12, 44, 1, 0, 1375),
  (23, .iload_n 1, 1, 0, 0, 0, 0, 0),
  (24, .iaload, 1, 0, 0, 0, 0, 0),
  (25, .sipush 200, 3, 0, 0, 0, 200, 0),
  (28, .if_icmp .ne 5, 3, 33, 0, 0, 0, 0),
  (31, .iconst 0, 1, 0, 0, 0, 0, 0),
  (32, .ireturn, 1, 2, 0, 0, 0, 0),
  (33, .sipush 200, 3, 0, 0, 0, 200, 0),
  (36, .iload_n 1, 1, 0, 0, 0, 0, 0),
  (37, .imul, 1, 0, 0, 0, 0, 0),
  (38, .aload_n 0, 1, 0, 0, 0, 0, 0),
  (39, .getfield 113, 3, 12, 44, 1, 0, 1375),
  (42, .iload_n 1, 1, 0, 0, 0, 0, 0),
  (43, .iaload, 1, 0, 0, 0, 0, 0),
  (44, .iadd, 1, 0, 0, 0, 0, 0),
  (45, .istore 6, 2, 0, 0, 0, 0, 0),
  (47, .aload_n 0, 1, 0, 0, 0, 0, 0),
  (48, .getfield 113, 3, 12, 44, 1, 0, 1375),
  (51, .iload_n 1, 1, 0, 0, 0, 0, 0),
  (52, .dup2, 1, 0, 0, 0, 0, 0),
  (53, .iaload, 1, 0, 0, 0, 0, 0),
  (54, .iconst 1, 1, 0, 0, 0, 1, 0),
  (55, .iadd, 1, 0, 0, 0, 0, 0),
  (56, .iastore, 1, 0, 0, 0, 0, 0),
  (57, .aload_n 0, 1, 0, 0, 0, 0, 0),
  (58, .getfield 110, 3, 12, 43, 1, 0, 1374),
  (61, .iload 6, 2, 0, 0, 0, 0, 0),
  (63, .iload 4, 2, 0, 0, 0, 0, 0),
  (65, .iastore, 1, 0, 0, 0, 0, 0),
  (66, .iconst 0, 1, 0, 0, 0, 0, 0),
  (67, .istore 7, 2, 0, 0, 0, 0, 0),
  (69, .iload 7, 2, 0, 0, 0, 0, 0),
  (71, .iload 4, 2, 0, 0, 0, 0, 0),
  (73, .if_icmp .ge 29, 3, 102, 0, 0, 0, 0),
  (76, .aload_n 0, 1, 0, 0, 0, 0, 0),
  (77, .getfield 107, 3, 12, 42, 1, 0, 1373),
  (80, .bipush 7, 2, 0, 0, 0, 7, 0),
  (82, .iload 6, 2, 0, 0, 0, 0, 0),
  (84, .imul, 1, 0, 0, 0, 0, 0),
  (85, .iload 7, 2, 0, 0, 0, 0, 0),
  (87, .iadd, 1, 0, 0, 0, 0, 0),
  (88, .aload_n 0, 1, 0, 0, 0, 0, 0),
  (89, .getfield 116, 3, 12, 45, 1, 0, 1376),
  (92, .iload 7, 2, 0, 0, 0, 0, 0),
  (94, .iaload, 1, 0, 0, 0, 0, 0),
  (95, .iastore, 1, 0, 0, 0, 0, 0),
  (96, .iinc 7 1, 3, 0, 0, 0, 0, 0),
  (99, .goto (-30), 3, 69, 0, 0, 0, 0),
  (102, .iconst 1, 1, 0, 0, 0, 1, 0),
  (103, .ireturn, 1, 2, 0, 0, 0, 0),
  (104, .iload 4, 2, 0, 0, 0, 0, 0),
  (106, .iload 5, 2, 0, 0, 0, 0, 0),
  (108, .if_icmp .ne 5, 3, 113, 0, 0, 0, 0),
  (111, .iconst 1, 1, 0, 0, 0, 1, 0),
  (112, .ireturn, 1, 2, 0, 0, 0, 0),
  (113, .iconst 0, 1, 0, 0, 0, 0, 0),
  (114, .istore 6, 2, 0, 0, 0, 0, 0),
  (116, .iload 6, 2, 0, 0, 0, 0, 0),
  (118, .aload_n 0, 1, 0, 0, 0, 0, 0),
  (119, .getfield 191, 3, 12, 5, 0, 0, 1336),
  (122, .if_icmp .ge 110, 3, 232, 0, 0, 0, 0),
  (125, .iload 6, 2, 0, 0, 0, 0, 0),
  (127, .aload_n 0, 1, 0, 0, 0, 0, 0),
  (128, .getfield 54, 3, 12, 17, 1, 0, 1348),
  (131, .iload_n 1, 1, 0, 0, 0, 0, 0),
  (132, .iaload, 1, 0, 0, 0, 0, 0),
  (133, .if_icmp .ge 99, 3, 232, 0, 0, 0, 0),
  (136, .aload_n 0, 1, 0, 0, 0, 0, 0),
  (137, .getfield 9, 3, 12, 0, 1, 0, 1331),
  (140, .iload 6, 2, 0, 0, 0, 0, 0),
  (142, .iaload, 1, 0, 0, 0, 0, 0),
  (143, .iload_n 2, 1, 0, 0, 0, 0, 0),
  (144, .if_icmp .eq 17, 3, 161, 0, 0, 0, 0),
  (147, .aload_n 0, 1, 0, 0, 0, 0, 0),
  (148, .getfield 13, 3, 12, 1, 1, 0, 1332),
  (151, .iload 6, 2, 0, 0, 0, 0, 0),
  (153, .iaload, 1, 0, 0, 0, 0, 0),
  (154, .iload_n 2, 1, 0, 0, 0, 0, 0),
  (155, .if_icmp .eq 6, 3, 161, 0, 0, 0, 0),
  (158, .goto 68, 3, 226, 0, 0, 0, 0),
  (161, .aload_n 0, 1, 0, 0, 0, 0, 0),
  (162, .getfield 9, 3, 12, 0, 1, 0, 1331),
  (165, .iload 6, 2, 0, 0, 0, 0, 0),
  (167, .iaload, 1, 0, 0, 0, 0, 0),
  (168, .aload_n 0, 1, 0, 0, 0, 0, 0),
  (169, .getfield 13, 3, 12, 1, 1, 0, 1332),
  (172, .iload 6, 2, 0, 0, 0, 0, 0),
  (174, .iaload, 1, 0, 0, 0, 0, 0),
  (175, .iadd, 1, 0, 0, 0, 0, 0),
  (176, .iload_n 2, 1, 0, 0, 0, 0, 0),
  (177, .isub, 1, 0, 0, 0, 0, 0),
  (178, .istore 7, 2, 0, 0, 0, 0, 0),
  (180, .iload_n 3, 1, 0, 0, 0, 0, 0),
  (181, .iload 7, 2, 0, 0, 0, 0, 0),
  (183, .ishr, 1, 0, 0, 0, 0, 0),
  (184, .iconst 1, 1, 0, 0, 0, 1, 0),
  (185, .iand, 1, 0, 0, 0, 0, 0),
  (186, .iconst 1, 1, 0, 0, 0, 1, 0),
  (187, .if_icmp .ne 6, 3, 193, 0, 0, 0, 0),
  (190, .goto 36, 3, 226, 0, 0, 0, 0),
  (193, .aload_n 0, 1, 0, 0, 0, 0, 0),
  (194, .getfield 116, 3, 12, 45, 1, 0, 1376),
  (197, .iload 4, 2, 0, 0, 0, 0, 0),
  (199, .iload 6, 2, 0, 0, 0, 0, 0),
  (201, .iastore, 1, 0, 0, 0, 0, 0),
  (202, .aload_n 0, 1, 0, 0, 0, 0, 0),
  (203, .iload_n 1, 1, 0, 0, 0, 0, 0),
  (204, .iload 7, 2, 0, 0, 0, 0, 0),
  (206, .iload_n 3, 1, 0, 0, 0, 0, 0),
  (207, .iconst 1, 1, 0, 0, 0, 1, 0),
  (208, .iload 7, 2, 0, 0, 0, 0, 0),
  (210, .ishl, 1, 0, 0, 0, 0, 0),
  (211, .ior, 1, 0, 0, 0, 0, 0),
  (212, .iload 4, 2, 0, 0, 0, 0, 0),
  (214, .iconst 1, 1, 0, 0, 0, 1, 0),
  (215, .iadd, 1, 0, 0, 0, 0, 0),
  (216, .iload 5, 2, 0, 0, 0, 0, 0),
  (218, .invokevirtual 263, 3, 1223, 6, 1, 12, 1624),
  (221, .ifCond .ne 5, 3, 226, 0, 0, 0, 0),
  (224, .iconst 0, 1, 0, 0, 0, 0, 0),
  (225, .ireturn, 1, 2, 0, 0, 0, 0),
  (226, .iinc 6 1, 3, 0, 0, 0, 0, 0),
  (229, .goto (-113), 3, 116, 0, 0, 0, 0),
  (232, .iconst 1, 1, 0, 0, 0, 1, 0),
  (233, .ireturn, 1, 2, 0, 0, 0, 0)]
/-- TollsThatPayModel.has(II)Z -/
def z_c1224 : List z_E := [(0, .iconst 0, 1, 0, 0, 0, 0, 0),
  (1, .istore_n 3, 1, 0, 0, 0, 0, 0),
  (2, .iload_n 3, 1, 0, 0, 0, 0, 0),
  (3, .aload_n 0, 1, 0, 0, 0, 0, 0),
  (4, .getfield 110, 3, 12, 43, 1, 0, 1374),
  (7, .iload_n 1, 1, 0, 0, 0, 0, 0),
  (8, .iaload, 1, 0, 0, 0, 0, 0),
  (9, .if_icmp .ge 26, 3, 35, 0, 0, 0, 0),
  (12, .aload_n 0, 1, 0, 0, 0, 0, 0),
  (13, .getfield 107, 3, 12, 42, 1, 0, 1373),
  (16, .bipush 7, 2, 0, 0, 0, 7, 0),
  (18, .iload_n 1, 1, 0, 0, 0, 0, 0),
  (19, .imul, 1, 0, 0, 0, 0, 0),
  (20, .iload_n 3, 1, 0, 0, 0, 0, 0),
  (21, .iadd, 1, 0, 0, 0, 0, 0),
  (22, .iaload, 1, 0, 0, 0, 0, 0),
  (23, .iload_n 2, 1, 0, 0, 0, 0, 0),
  (24, .if_icmp .ne 5, 3, 29, 0, 0, 0, 0),
  (27, .iconst 1, 1, 0, 0, 0, 1, 0),
  (28, .ireturn, 1, 2, 0, 0, 0, 0),
  (29, .iinc 3 1, 3, 0, 0, 0, 0, 0),
  (32, .goto (-30), 3, 2, 0, 0, 0, 0),
  (35, .iconst 0, 1, 0, 0, 0, 0, 0),
  (36, .ireturn, 1, 2, 0, 0, 0, 0)]
/-- TollsThatPayModel.plainPains(III)I -/
def z_c1225 : List z_E := [(0, .aload_n 0, 1, 0, 0, 0, 0, 0),
  (1, .getfield 110, 3, 12, 43, 1, 0, 1374),
  (4, .iload_n 2, 1, 0, 0, 0, 0, 0),
  (5, .iaload, 1, 0, 0, 0, 0, 0),
  (6, .ifCond .ne 10, 3, 16, 0, 0, 0, 0),
  (9, .aload_n 0, 1, 0, 0, 0, 0, 0),
  (10, .getfield 57, 3, 12, 18, 1, 0, 1349),
  (13, .iload_n 1, 1, 0, 0, 0, 0, 0),
  (14, .iaload, 1, 0, 0, 0, 0, 0),
  (15, .ireturn, 1, 1, 0, 0, 0, 0),
  (16, .iconst 0, 1, 0, 0, 0, 0, 0),
  (17, .istore 4, 2, 0, 0, 0, 0, 0),
  (19, .iconst 0, 1, 0, 0, 0, 0, 0),
  (20, .istore 5, 2, 0, 0, 0, 0, 0),
  (22, .iload 5, 2, 0, 0, 0, 0, 0),
  (24, .aload_n 0, 1, 0, 0, 0, 0, 0),
  (25, .getfield 110, 3, 12, 43, 1, 0, 1374),
  (28, .iload_n 2, 1, 0, 0, 0, 0, 0),
  (29, .iaload, 1, 0, 0, 0, 0, 0),
  (30, .if_icmp .ge 51, 3, 81, 0, 0, 0, 0),
  (33, .iload 4, 2, 0, 0, 0, 0, 0),
  (35, .aload_n 0, 1, 0, 0, 0, 0, 0),
  (36, .getfield 16, 3, 12, 2, 1, 0, 1333),
  (39, .aload_n 0, 1, 0, 0, 0, 0, 0),
  (40, .getfield 107, 3, 12, 42, 1, 0, 1373),
  (43, .bipush 7, 2, 0, 0, 0, 7, 0),
  (45, .iload_n 2, 1, 0, 0, 0, 0, 0),
  (46, .imul, 1, 0, 0, 0, 0, 0),
  (47, .iload 5, 2, 0, 0, 0, 0, 0),
  (49, .iadd, 1, 0, 0, 0, 0, 0),
  (50, .iaload, 1, 0, 0, 0, 0, 0),
  (51, .iaload, 1, 0, 0, 0, 0, 0),
  (52, .iload_n 3, 1, 0, 0, 0, 0, 0),
  (53, .aload_n 0, 1, 0, 0, 0, 0, 0),
  (54, .getfield 19, 3, 12, 3, 1, 0, 1334),
  (57, .aload_n 0, 1, 0, 0, 0, 0, 0),
  (58, .getfield 107, 3, 12, 42, 1, 0, 1373),
  (61, .bipush 7, 2, 0, 0, 0, 7, 0),
  (63, .iload_n 2, 1, 0, 0, 0, 0, 0),
  (64, .imul, 1, 0, 0, 0, 0, 0),
  (65, .iload 5, 2, 0, 0, 0, 0, 0),
  (67, .iadd, 1, 0, 0, 0, 0, 0),
  (68, .iaload, 1, 0, 0, 0, 0, 0),
  (69, .iaload, 1, 0, 0, 0, 0, 0),
  (70, .imul, 1, 0, 0, 0, 0, 0),
  (71, .iadd, 1, 0, 0, 0, 0, 0),
  (72, .iadd, 1, 0, 0, 0, 0, 0),
  (73, .istore 4, 2, 0, 0, 0, 0, 0),
  (75, .iinc 5 1, 3, 0, 0, 0, 0, 0),
  (78, .goto (-56), 3, 22, 0, 0, 0, 0),
  (81, .iload 4, 2, 0, 0, 0, 0, 0),
  (83, .ireturn, 1, 1, 0, 0, 0, 0)]
/-- TollsThatPayModel.maskOf(I)I -/
def z_c1226 : List z_E := [(0, .iconst 0, 1, 0, 0, 0, 0, 0),
  (1, .istore_n 2, 1, 0, 0, 0, 0, 0),
  (2, .iconst 0, 1, 0, 0, 0, 0, 0),
  (3, .istore_n 3, 1, 0, 0, 0, 0, 0),
  (4, .iload_n 3, 1, 0, 0, 0, 0, 0),
  (5, .aload_n 0, 1, 0, 0, 0, 0, 0),
  (6, .getfield 201, 3, 12, 8, 0, 0, 1339),
  (9, .if_icmp .ge 29, 3, 38, 0, 0, 0, 0),
  (12, .aload_n 0, 1, 0, 0, 0, 0, 0),
  (13, .iload_n 1, 1, 0, 0, 0, 0, 0),
  (14, .aload_n 0, 1, 0, 0, 0, 0, 0),
  (15, .getfield 25, 3, 12, 6, 1, 0, 1337),
  (18, .iload_n 3, 1, 0, 0, 0, 0, 0),
  (19, .iaload, 1, 0, 0, 0, 0, 0),
  (20, .invokevirtual 267, 3, 1224, 3, 1, 12, 1668),
  (23, .ifCond .eq 9, 3, 32, 0, 0, 0, 0),
  (26, .iload_n 2, 1, 0, 0, 0, 0, 0),
  (27, .iconst 1, 1, 0, 0, 0, 1, 0),
  (28, .iload_n 3, 1, 0, 0, 0, 0, 0),
  (29, .ishl, 1, 0, 0, 0, 0, 0),
  (30, .ior, 1, 0, 0, 0, 0, 0),
  (31, .istore_n 2, 1, 0, 0, 0, 0, 0),
  (32, .iinc 3 1, 3, 0, 0, 0, 0, 0),
  (35, .goto (-31), 3, 4, 0, 0, 0, 0),
  (38, .iload_n 2, 1, 0, 0, 0, 0, 0),
  (39, .ireturn, 1, 1, 0, 0, 0, 0)]
/-- TollsThatPayModel.addGoer(III)V -/
def z_c1227 : List z_E := [(0, .aload_n 0, 1, 0, 0, 0, 0, 0),
  (1, .getfield 271, 3, 12, 48, 0, 0, 1379),
  (4, .istore 4, 2, 0, 0, 0, 0, 0),
  (6, .aload_n 0, 1, 0, 0, 0, 0, 0),
  (7, .dup, 1, 0, 0, 0, 0, 0),
  (8, .getfield 271, 3, 12, 48, 0, 0, 1379),
  (11, .iconst 1, 1, 0, 0, 0, 1, 0),
  (12, .iadd, 1, 0, 0, 0, 0, 0),
  (13, .putfield 271, 3, 12, 48, 0, 0, 1379),
  (16, .aload_n 0, 1, 0, 0, 0, 0, 0),
  (17, .getfield 119, 3, 12, 46, 1, 0, 1377),
  (20, .iload 4, 2, 0, 0, 0, 0, 0),
  (22, .iload_n 1, 1, 0, 0, 0, 0, 0),
  (23, .iastore, 1, 0, 0, 0, 0, 0),
  (24, .aload_n 0, 1, 0, 0, 0, 0, 0),
  (25, .getfield 122, 3, 12, 47, 1, 0, 1378),
  (28, .iload 4, 2, 0, 0, 0, 0, 0),
  (30, .iload_n 2, 1, 0, 0, 0, 0, 0),
  (31, .iastore, 1, 0, 0, 0, 0, 0),
  (32, .iconst 0, 1, 0, 0, 0, 0, 0),
  (33, .istore 5, 2, 0, 0, 0, 0, 0),
  (35, .iload 5, 2, 0, 0, 0, 0, 0),
  (37, .bipush 32, 2, 0, 0, 0, 32, 0),
  (39, .if_icmp .ge 23, 3, 62, 0, 0, 0, 0),
  (42, .aload_n 0, 1, 0, 0, 0, 0, 0),
  (43, .getfield 125, 3, 12, 49, 1, 0, 1380),
  (46, .bipush 32, 2, 0, 0, 0, 32, 0),
  (48, .iload 4, 2, 0, 0, 0, 0, 0),
  (50, .imul, 1, 0, 0, 0, 0, 0),
  (51, .iload 5, 2, 0, 0, 0, 0, 0),
  (53, .iadd, 1, 0, 0, 0, 0, 0),
  (54, .iconst (-1), 1, 0, 0, 0, (-1), 0),
  (55, .iastore, 1, 0, 0, 0, 0, 0),
  (56, .iinc 5 1, 3, 0, 0, 0, 0, 0),
  (59, .goto (-24), 3, 35, 0, 0, 0, 0),
  (62, .iconst 0, 1, 0, 0, 0, 0, 0),
  (63, .istore 5, 2, 0, 0, 0, 0, 0),
  (65, .iload 5, 2, 0, 0, 0, 0, 0),
  (67, .aload_n 0, 1, 0, 0, 0, 0, 0),
  (68, .getfield 113, 3, 12, 44, 1, 0, 1375),
  (71, .iload_n 1, 1, 0, 0, 0, 0, 0),
  (72, .iaload, 1, 0, 0, 0, 0, 0),
  (73, .if_icmp .ge 105, 3, 178, 0, 0, 0, 0),
  (76, .sipush 200, 3, 0, 0, 0, 200, 0),
  (79, .iload_n 1, 1, 0, 0, 0, 0, 0),
  (80, .imul, 1, 0, 0, 0, 0, 0),
  (81, .iload 5, 2, 0, 0, 0, 0, 0),
  (83, .iadd, 1, 0, 0, 0, 0, 0),
  (84, .istore 6, 2, 0, 0, 0, 0, 0),
  (86, .iload_n 3, 1, 0, 0, 0, 0, 0),
  (87, .iconst (-1), 1, 0, 0, 0, (-1), 0),
  (88, .if_icmp .eq 16, 3, 104, 0, 0, 0, 0),
  (91, .aload_n 0, 1, 0, 0, 0, 0, 0),
  (92, .iload 6, 2, 0, 0, 0, 0, 0),
  (94, .iload_n 3, 1, 0, 0, 0, 0, 0),
  (95, .invokevirtual 267, 3, 1224, 3, 1, 12, 1668),
  (98, .ifCond .eq 6, 3, 104, 0, 0, 0, 0),
  (101, .goto 71, 3, 172, 0, 0, 0, 0),
  (104, .bipush 32, 2, 0, 0, 0, 32, 0),
  (106, .iload 4, 2, 0, 0, 0, 0, 0),
  (108, .imul, 1, 0, 0, 0, 0, 0),
  (109, .aload_n 0, 1, 0, 0, 0, 0, 0),
  (110, .iload 6, 2, 0, 0, 0, 0, 0),
  (112, .invokevirtual 274, 3, 1226, 2, 1, 12, 1672),
  (115, .iadd, 1, 0, 0, 0, 0, 0),
  (116, .istore 7, 2, 0, 0, 0, 0, 0),
  (118, .aload_n 0, 1, 0, 0, 0, 0, 0),
  (119, .iload_n 1, 1, 0, 0, 0, 0, 0),
  (120, .iload 6, 2, 0, 0, 0, 0, 0),
  (122, .iload_n 2, 1, 0, 0, 0, 0, 0),
  (123, .invokevirtual 277, 3, 1225, 4, 1, 12, 1676),
  (126, .istore 8, 2, 0, 0, 0, 0, 0),
  (128, .aload_n 0, 1, 0, 0, 0, 0, 0),
  (129, .getfield 125, 3, 12, 49, 1, 0, 1380),
  (132, .iload 7, 2, 0, 0, 0, 0, 0),
  (134, .iaload, 1, 0, 0, 0, 0, 0),
  (135, .iconst (-1), 1, 0, 0, 0, (-1), 0),
  (136, .if_icmp .eq 18, 3, 154, 0, 0, 0, 0),
  (139, .aload_n 0, 1, 0, 0, 0, 0, 0),
  (140, .getfield 128, 3, 12, 50, 1, 0, 1381),
  (143, .iload 7, 2, 0, 0, 0, 0, 0),
  (145, .iaload, 1, 0, 0, 0, 0, 0),
  (146, .iload 8, 2, 0, 0, 0, 0, 0),
  (148, .if_icmp .gt 6, 3, 154, 0, 0, 0, 0),
  (151, .goto 21, 3, 172, 0, 0, 0, 0),
  (154, .aload_n 0, 1, 0, 0, 0, 0, 0),
  (155, .getfield 125, 3, 12, 49, 1, 0, 1380),
  (158, .iload 7, 2, 0, 0, 0, 0, 0),
  (160, .iload 6, 2, 0, 0, 0, 0, 0),
  (162, .iastore, 1, 0, 0, 0, 0, 0),
  (163, .aload_n 0, 1, 0, 0, 0, 0, 0),
  (164, .getfield 128, 3, 12, 50, 1, 0, 1381),
  (167, .iload 7, 2, 0, 0, 0, 0, 0),
  (169, .iload 8, 2, 0, 0, 0, 0, 0),
  (171, .iastore, 1, 0, 0, 0, 0, 0),
  (172, .iinc 5 1, 3, 0, 0, 0, 0, 0),
  (175, .goto (-110), 3, 65, 0, 0, 0, 0),
  (178, .return_, 1, 0, 0, 0, 0, 0)]
/-- TollsThatPayModel.gather(III)V -/
def z_c1228 : List z_E := [(0, .aload_n 0, 1, 0, 0, 0, 0, 0),
  (1, .iconst 0, 1, 0, 0, 0, 0, 0),
  (2, .putfield 271, 3, 12, 48, 0, 0, 1379),
  (5, .iconst 0, 1, 0, 0, 0, 0, 0),
  (6, .istore 4, 2, 0, 0, 0, 0, 0),
  (8, .iload 4, 2, 0, 0, 0, 0, 0),
  (10, .aload_n 0, 1, 0, 0, 0, 0, 0),
  (11, .getfield 198, 3, 12, 20, 0, 0, 1351),
  (14, .if_icmp .ge 85, 3, 99, 0, 0, 0, 0),
  (17, .iload_n 1, 1, 0, 0, 0, 0, 0),
  (18, .iconst (-1), 1, 0, 0, 0, (-1), 0),
  (19, .if_icmp .eq 17, 3, 36, 0, 0, 0, 0),
  (22, .aload_n 0, 1, 0, 0, 0, 0, 0),
  (23, .getfield 60, 3, 12, 19, 1, 0, 1350),
  (26, .iload 4, 2, 0, 0, 0, 0, 0),
  (28, .iaload, 1, 0, 0, 0, 0, 0),
  (29, .iload_n 1, 1, 0, 0, 0, 0, 0),
  (30, .if_icmp .eq 6, 3, 36, 0, 0, 0, 0),
  (33, .goto 60, 3, 93, 0, 0, 0, 0),
  (36, .aload_n 0, 1, 0, 0, 0, 0, 0),
  (37, .getfield 44, 3, 12, 14, 1, 0, 1345),
  (40, .iload 4, 2, 0, 0, 0, 0, 0),
  (42, .iaload, 1, 0, 0, 0, 0, 0),
  (43, .istore 5, 2, 0, 0, 0, 0, 0),
  (45, .iload 5, 2, 0, 0, 0, 0, 0),
  (47, .aload_n 0, 1, 0, 0, 0, 0, 0),
  (48, .getfield 47, 3, 12, 15, 1, 0, 1346),
  (51, .iload 4, 2, 0, 0, 0, 0, 0),
  (53, .iaload, 1, 0, 0, 0, 0, 0),
  (54, .if_icmp .gt 39, 3, 93, 0, 0, 0, 0),
  (57, .iload_n 3, 1, 0, 0, 0, 0, 0),
  (58, .iconst (-1), 1, 0, 0, 0, (-1), 0),
  (59, .if_icmp .eq 19, 3, 78, 0, 0, 0, 0),
  (62, .aload_n 0, 1, 0, 0, 0, 0, 0),
  (63, .getfield 50, 3, 12, 16, 1, 0, 1347),
  (66, .iload 4, 2, 0, 0, 0, 0, 0),
  (68, .baload, 1, 0, 0, 0, 0, 0),
  (69, .ifCond .eq 9, 3, 78, 0, 0, 0, 0),
  (72, .iload 5, 2, 0, 0, 0, 0, 0),
  (74, .iload_n 3, 1, 0, 0, 0, 0, 0),
  (75, .if_icmp .ne 12, 3, 87, 0, 0, 0, 0),
  (78, .aload_n 0, 1, 0, 0, 0, 0, 0),
  (79, .iload 4, 2, 0, 0, 0, 0, 0),
  (81, .iload 5, 2, 0, 0, 0, 0, 0),
  (83, .iload_n 2, 1, 0, 0, 0, 0, 0),
  (84, .invokevirtual 281, 3, 1227, 4, 0, 12, 1664),
  (87, .iinc 5 1, 3, 0, 0, 0, 0, 0),
  (90, .goto (-45), 3, 45, 0, 0, 0, 0),
  (93, .iinc 4 1, 3, 0, 0, 0, 0, 0),
  (96, .goto (-88), 3, 8, 0, 0, 0, 0),
  (99, .return_, 1, 0, 0, 0, 0, 0)]
/-- TollsThatPayModel.gatherAll()V -/
def z_c1229 : List z_E := [(0, .aload_n 0, 1, 0, 0, 0, 0, 0),
  (1, .iconst (-1), 1, 0, 0, 0, (-1), 0),
  (2, .iconst (-1), 1, 0, 0, 0, (-1), 0),
  (3, .iconst (-1), 1, 0, 0, 0, (-1), 0),
  (4, .invokevirtual 285, 3, 1228, 4, 0, 12, 1660),
  (7, .return_, 1, 0, 0, 0, 0, 0)]
/-- TollsThatPayModel.ask()V -/
def z_c1230 : List z_E := [(0, .iconst 1, 1, 0, 0, 0, 1, 0),
  (1, .istore_n 1, 1, 0, 0, 0, 0, 0),
  (2, .iload_n 1, 1, 0, 0, 0, 0, 0),
  (3, .iconst 1, 1, 0, 0, 0, 1, 0),
  (4, .aload_n 0, 1, 0, 0, 0, 0, 0),
  (5, .getfield 201, 3, 12, 8, 0, 0, 1339),
  (8, .ishl, 1, 0, 0, 0, 0, 0),
  (9, .if_icmp .ge 37, 3, 46, 0, 0, 0, 0),
  (12, .iload_n 1, 1, 0, 0, 0, 0, 0),
  (13, .invokestatic 288, 3, 1301, 1, 1, 0, 1684),
  (16, .istore_n 2, 1, 0, 0, 0, 0, 0),
  (17, .aload_n 0, 1, 0, 0, 0, 0, 0),
  (18, .getfield 131, 3, 12, 51, 1, 0, 1382),
  (21, .iload_n 1, 1, 0, 0, 0, 0, 0),
  (22, .aload_n 0, 1, 0, 0, 0, 0, 0),
  (23, .getfield 131, 3, 12, 51, 1, 0, 1382),
  (26, .iload_n 1, 1, 0, 0, 0, 0, 0),
  (27, .iload_n 1, 1, 0, 0, 0, 0, 0),
  (28, .iconst 1, 1, 0, 0, 0, 1, 0),
  (29, .isub, 1, 0, 0, 0, 0, 0),
  (30, .iand, 1, 0, 0, 0, 0, 0),
  (31, .iaload, 1, 0, 0, 0, 0, 0),
  (32, .aload_n 0, 1, 0, 0, 0, 0, 0),
  (33, .getfield 28, 3, 12, 7, 1, 0, 1338),
  (36, .iload_n 2, 1, 0, 0, 0, 0, 0),
  (37, .iaload, 1, 0, 0, 0, 0, 0),
  (38, .iadd, 1, 0, 0, 0, 0, 0),
  (39, .iastore, 1, 0, 0, 0, 0, 0),
  (40, .iinc 1 1, 3, 0, 0, 0, 0, 0),
  (43, .goto (-41), 3, 2, 0, 0, 0, 0),
  (46, .aload_n 0, 1, 0, 0, 0, 0, 0),
  (47, .getfield 131, 3, 12, 51, 1, 0, 1382),
  (50, .iconst 0, 1, 0, 0, 0, 0, 0),
  (51, .iconst 0, 1, 0, 0, 0, 0, 0),
  (52, .iastore, 1, 0, 0, 0, 0, 0),
  (53, .aload_n 0, 1, 0, 0, 0, 0, 0),
  (54, .getfield 134, 3, 12, 52, 1, 0, 1383),
  (57, .iconst 0, 1, 0, 0, 0, 0, 0),
  (58, .iconst 0, 1, 0, 0, 0, 0, 0),
  (59, .iastore, 1, 0, 0, 0, 0, 0),
  (60, .aload_n 0, 1, 0, 0, 0, 0, 0),
  (61, .getfield 134, 3, 12, 52, 1, 0, 1383),
  (64, .iconst 1, 1, 0, 0, 0, 1, 0),
  (65, .iconst 0, 1, 0, 0, 0, 0, 0),
  (66, .iastore, 1, 0, 0, 0, 0, 0),
  (67, .iconst 0, 1, 0, 0, 0, 0, 0),
  (68, .istore_n 1, 1, 0, 0, 0, 0, 0),
  (69, .iload_n 1, 1, 0, 0, 0, 0, 0),
  (70, .aload_n 0, 1, 0, 0, 0, 0, 0),
  (71, .getfield 201, 3, 12, 8, 0, 0, 1339),
  (74, .if_icmp .ge 31, 3, 105, 0, 0, 0, 0),
  (77, .aload_n 0, 1, 0, 0, 0, 0, 0),
  (78, .getfield 134, 3, 12, 52, 1, 0, 1383),
  (81, .aload_n 0, 1, 0, 0, 0, 0, 0),
  (82, .getfield 22, 3, 12, 4, 1, 0, 1335),
  (85, .aload_n 0, 1, 0, 0, 0, 0, 0),
  (86, .getfield 25, 3, 12, 6, 1, 0, 1337),
  (89, .iload_n 1, 1, 0, 0, 0, 0, 0),
  (90, .iaload, 1, 0, 0, 0, 0, 0),
  (91, .iaload, 1, 0, 0, 0, 0, 0),
  (92, .dup2, 1, 0, 0, 0, 0, 0),
  (93, .iaload, 1, 0, 0, 0, 0, 0),
  (94, .iconst 1, 1, 0, 0, 0, 1, 0),
  (95, .iload_n 1, 1, 0, 0, 0, 0, 0),
  (96, .ishl, 1, 0, 0, 0, 0, 0),
  (97, .ior, 1, 0, 0, 0, 0, 0),
  (98, .iastore, 1, 0, 0, 0, 0, 0),
  (99, .iinc 1 1, 3, 0, 0, 0, 0, 0),
  (102, .goto (-33), 3, 69, 0, 0, 0, 0),
  (105, .return_, 1, 0, 0, 0, 0, 0)]
/-- TollsThatPayModel.choose(I)I -/
def z_c1231 : List z_E := [(0, .iconst (-1), 1, 0, 0, 0, (-1), 0),
  (1, .istore_n 2, 1, 0, 0, 0, 0, 0),
  (2, .iconst 0, 1, 0, 0, 0, 0, 0),
  (3, .istore_n 3, 1, 0, 0, 0, 0, 0),
  (4, .iload_n 3, 1, 0, 0, 0, 0, 0),
  (5, .iconst 1, 1, 0, 0, 0, 1, 0),
  (6, .aload_n 0, 1, 0, 0, 0, 0, 0),
  (7, .getfield 201, 3, 12, 8, 0, 0, 1339),
  (10, .ishl, 1, 0, 0, 0, 0, 0),
  (11, .if_icmp .ge 55, 3, 66, 0, 0, 0, 0),
  (14, .bipush 32, 2, 0, 0, 0, 32, 0),
  (16, .iload_n 1, 1, 0, 0, 0, 0, 0),
  (17, .imul, 1, 0, 0, 0, 0, 0),
  (18, .iload_n 3, 1, 0, 0, 0, 0, 0),
  (19, .iadd, 1, 0, 0, 0, 0, 0),
  (20, .istore 4, 2, 0, 0, 0, 0, 0),
  (22, .aload_n 0, 1, 0, 0, 0, 0, 0),
  (23, .getfield 125, 3, 12, 49, 1, 0, 1380),
  (26, .iload 4, 2, 0, 0, 0, 0, 0),
  (28, .iaload, 1, 0, 0, 0, 0, 0),
  (29, .iconst (-1), 1, 0, 0, 0, (-1), 0),
  (30, .if_icmp .ne 6, 3, 36, 0, 0, 0, 0),
  (33, .goto 27, 3, 60, 0, 0, 0, 0),
  (36, .iload_n 2, 1, 0, 0, 0, 0, 0),
  (37, .iconst (-1), 1, 0, 0, 0, (-1), 0),
  (38, .if_icmp .eq 20, 3, 58, 0, 0, 0, 0),
  (41, .aload_n 0, 1, 0, 0, 0, 0, 0),
  (42, .iload 4, 2, 0, 0, 0, 0, 0),
  (44, .iload_n 3, 1, 0, 0, 0, 0, 0),
  (45, .bipush 32, 2, 0, 0, 0, 32, 0),
  (47, .iload_n 1, 1, 0, 0, 0, 0, 0),
  (48, .imul, 1, 0, 0, 0, 0, 0),
  (49, .iload_n 2, 1, 0, 0, 0, 0, 0),
  (50, .iadd, 1, 0, 0, 0, 0, 0),
  (51, .iload_n 2, 1, 0, 0, 0, 0, 0),
  (52, .invokevirtual 293, 3, 1232, 5, 1, 12, 1700),
  (55, .ifCond .eq 5, 3, 60, 0, 0, 0, 0),
  (58, .iload_n 3, 1, 0, 0, 0, 0, 0),
  (59, .istore_n 2, 1, 0, 0, 0, 0, 0),
  (60, .iinc 3 1, 3, 0, 0, 0, 0, 0),
  (63, .goto (-59), 3, 4, 0, 0, 0, 0),
  (66, .iload_n 2, 1, 0, 0, 0, 0, 0),
  (67, .ireturn, 1, 1, 0, 0, 0, 0)]
/-- TollsThatPayModel.isAhead(IIII)Z -/
def z_c1232 : List z_E := [(0, .aload_n 0, 1, 0, 0, 0, 0, 0),
  (1, .getfield 128, 3, 12, 50, 1, 0, 1381),
  (4, .iload_n 1, 1, 0, 0, 0, 0, 0),
  (5, .iaload, 1, 0, 0, 0, 0, 0),
  (6, .aload_n 0, 1, 0, 0, 0, 0, 0),
  (7, .getfield 131, 3, 12, 51, 1, 0, 1382),
  (10, .iload_n 2, 1, 0, 0, 0, 0, 0),
  (11, .iaload, 1, 0, 0, 0, 0, 0),
  (12, .iadd, 1, 0, 0, 0, 0, 0),
  (13, .aload_n 0, 1, 0, 0, 0, 0, 0),
  (14, .getfield 128, 3, 12, 50, 1, 0, 1381),
  (17, .iload_n 3, 1, 0, 0, 0, 0, 0),
  (18, .iaload, 1, 0, 0, 0, 0, 0),
  (19, .isub, 1, 0, 0, 0, 0, 0),
  (20, .aload_n 0, 1, 0, 0, 0, 0, 0),
  (21, .getfield 131, 3, 12, 51, 1, 0, 1382),
  (24, .iload 4, 2, 0, 0, 0, 0, 0),
  (26, .iaload, 1, 0, 0, 0, 0, 0),
  (27, .isub, 1, 0, 0, 0, 0, 0),
  (28, .istore 5, 2, 0, 0, 0, 0, 0),
  (30, .iload 5, 2, 0, 0, 0, 0, 0),
  (32, .ifCond .eq 14, 3, 46, 0, 0, 0, 0),
  (35, .iload 5, 2, 0, 0, 0, 0, 0),
  (37, .ifCond .ge 7, 3, 44, 0, 0, 0, 0),
  (40, .iconst 1, 1, 0, 0, 0, 1, 0),
  (41, .goto 4, 3, 45, 0, 0, 0, 0),
  (44, .iconst 0, 1, 0, 0, 0, 0, 0),
  (45, .ireturn, 1, 2, 0, 0, 0, 0),
  (46, .aload_n 0, 1, 0, 0, 0, 0, 0),
  (47, .getfield 131, 3, 12, 51, 1, 0, 1382),
  (50, .iload_n 2, 1, 0, 0, 0, 0, 0),
  (51, .iaload, 1, 0, 0, 0, 0, 0),
  (52, .aload_n 0, 1, 0, 0, 0, 0, 0),
  (53, .getfield 131, 3, 12, 51, 1, 0, 1382),
  (56, .iload 4, 2, 0, 0, 0, 0, 0),
  (58, .iaload, 1, 0, 0, 0, 0, 0),
  (59, .isub, 1, 0, 0, 0, 0, 0),
  (60, .istore 5, 2, 0, 0, 0, 0, 0),
  (62, .iload 5, 2, 0, 0, 0, 0, 0),
  (64, .ifCond .eq 34, 3, 98, 0, 0, 0, 0),
  (67, .iload 5, 2, 0, 0, 0, 0, 0),
  (69, .ifCond .le 7, 3, 76, 0, 0, 0, 0),
  (72, .iconst 1, 1, 0, 0, 0, 1, 0),
  (73, .goto 4, 3, 77, 0, 0, 0, 0),
  (76, .iconst 0, 1, 0, 0, 0, 0, 0),
  (77, .aload_n 0, 1, 0, 0, 0, 0, 0),
  (78, .getfield 297, 3, 12, 10, 0, 0, 1341),
  (81, .ifCond .ne 7, 3, 88, 0, 0, 0, 0),
  (84, .iconst 1, 1, 0, 0, 0, 1, 0),
  (85, .goto 4, 3, 89, 0, 0, 0, 0),
  (88, .iconst 0, 1, 0, 0, 0, 0, 0),
  (89, .if_icmp .ne 7, 3, 96, 0, 0, 0, 0),
  (92, .iconst 1, 1, 0, 0, 0, 1, 0),
  (93, .goto 4, 3, 97, 0, 0, 0, 0),
  (96, .iconst 0, 1, 0, 0, 0, 0, 0),
  (97, .ireturn, 1, 2, 0, 0, 0, 0),
  (98, .aload_n 0, 1, 0, 0, 0, 0, 0),
  (99, .getfield 125, 3, 12, 49, 1, 0, 1380),
  (102, .iload_n 1, 1, 0, 0, 0, 0, 0),
  (103, .iaload, 1, 0, 0, 0, 0, 0),
  (104, .aload_n 0, 1, 0, 0, 0, 0, 0),
  (105, .getfield 125, 3, 12, 49, 1, 0, 1380),
  (108, .iload_n 3, 1, 0, 0, 0, 0, 0),
  (109, .iaload, 1, 0, 0, 0, 0, 0),
  (110, .if_icmp .ge 7, 3, 117, 0, 0, 0, 0),
  (113, .iconst 1, 1, 0, 0, 0, 1, 0),
  (114, .goto 4, 3, 118, 0, 0, 0, 0),
  (117, .iconst 0, 1, 0, 0, 0, 0, 0),
  (118, .ireturn, 1, 2, 0, 0, 0, 0)]
/-- TollsThatPayModel.work()V -/
def z_c1233 : List z_E := [(0, .aload_n 0, 1, 0, 0, 0, 0, 0),
  (1, .invokevirtual 300, 3, 1230, 1, 0, 12, 1680),
  (4, .aload_n 0, 1, 0, 0, 0, 0, 0),
  (5, .getfield 137, 3, 12, 53, 1, 0, 1384),
  (8, .iconst 0, 1, 0, 0, 0, 0, 0),
  (9, .iconst 0, 1, 0, 0, 0, 0, 0),
  (10, .iastore, 1, 0, 0, 0, 0, 0),
  (11, .aload_n 0, 1, 0, 0, 0, 0, 0),
  (12, .getfield 137, 3, 12, 53, 1, 0, 1384),
  (15, .iconst 1, 1, 0, 0, 0, 1, 0),
  (16, .iconst 0, 1, 0, 0, 0, 0, 0),
  (17, .iastore, 1, 0, 0, 0, 0, 0),
  (18, .aload_n 0, 1, 0, 0, 0, 0, 0),
  (19, .iconst 0, 1, 0, 0, 0, 0, 0),
  (20, .putfield 303, 3, 12, 54, 0, 0, 1385),
  (23, .iconst 0, 1, 0, 0, 0, 0, 0),
  (24, .istore_n 1, 1, 0, 0, 0, 0, 0),
  (25, .iload_n 1, 1, 0, 0, 0, 0, 0),
  (26, .aload_n 0, 1, 0, 0, 0, 0, 0),
  (27, .getfield 271, 3, 12, 48, 0, 0, 1379),
  (30, .if_icmp .ge 112, 3, 142, 0, 0, 0, 0),
  (33, .aload_n 0, 1, 0, 0, 0, 0, 0),
  (34, .iload_n 1, 1, 0, 0, 0, 0, 0),
  (35, .invokevirtual 306, 3, 1231, 2, 1, 12, 1696),
  (38, .istore_n 2, 1, 0, 0, 0, 0, 0),
  (39, .iload_n 2, 1, 0, 0, 0, 0, 0),
  (40, .iconst (-1), 1, 0, 0, 0, (-1), 0),
  (41, .if_icmp .ne 6, 3, 47, 0, 0, 0, 0),
  (44, .goto 92, 3, 136, 0, 0, 0, 0),
  (47, .aload_n 0, 1, 0, 0, 0, 0, 0),
  (48, .getfield 41, 3, 12, 13, 1, 0, 1344),
  (51, .aload_n 0, 1, 0, 0, 0, 0, 0),
  (52, .getfield 119, 3, 12, 46, 1, 0, 1377),
  (55, .iload_n 1, 1, 0, 0, 0, 0, 0),
  (56, .iaload, 1, 0, 0, 0, 0, 0),
  (57, .iaload, 1, 0, 0, 0, 0, 0),
  (58, .istore_n 3, 1, 0, 0, 0, 0, 0),
  (59, .aload_n 0, 1, 0, 0, 0, 0, 0),
  (60, .getfield 137, 3, 12, 53, 1, 0, 1384),
  (63, .iconst 0, 1, 0, 0, 0, 0, 0),
  (64, .dup2, 1, 0, 0, 0, 0, 0),
  (65, .iaload, 1, 0, 0, 0, 0, 0),
  (66, .iload_n 3, 1, 0, 0, 0, 0, 0),
  (67, .aload_n 0, 1, 0, 0, 0, 0, 0),
  (68, .getfield 131, 3, 12, 51, 1, 0, 1382),
  (71, .iload_n 2, 1, 0, 0, 0, 0, 0),
  (72, .aload_n 0, 1, 0, 0, 0, 0, 0),
  (73, .getfield 134, 3, 12, 52, 1, 0, 1383),
  (76, .iconst 0, 1, 0, 0, 0, 0, 0),
  (77, .iaload, 1, 0, 0, 0, 0, 0),
  (78, .iand, 1, 0, 0, 0, 0, 0),
  (79, .iaload, 1, 0, 0, 0, 0, 0),
  (80, .imul, 1, 0, 0, 0, 0, 0),
  (81, .iadd, 1, 0, 0, 0, 0, 0),
  (82, .iastore, 1, 0, 0, 0, 0, 0),
  (83, .aload_n 0, 1, 0, 0, 0, 0, 0),
  (84, .getfield 137, 3, 12, 53, 1, 0, 1384),
  (87, .iconst 1, 1, 0, 0, 0, 1, 0),
  (88, .dup2, 1, 0, 0, 0, 0, 0),
  (89, .iaload, 1, 0, 0, 0, 0, 0),
  (90, .iload_n 3, 1, 0, 0, 0, 0, 0),
  (91, .aload_n 0, 1, 0, 0, 0, 0, 0),
  (92, .getfield 131, 3, 12, 51, 1, 0, 1382),
  (95, .iload_n 2, 1, 0, 0, 0, 0, 0),
  (96, .aload_n 0, 1, 0, 0, 0, 0, 0),
  (97, .getfield 134, 3, 12, 52, 1, 0, 1383),
  (100, .iconst 1, 1, 0, 0, 0, 1, 0),
  (101, .iaload, 1, 0, 0, 0, 0, 0),
  (102, .iand, 1, 0, 0, 0, 0, 0),
  (103, .iaload, 1, 0, 0, 0, 0, 0),
  (104, .imul, 1, 0, 0, 0, 0, 0),
  (105, .iadd, 1, 0, 0, 0, 0, 0),
  (106, .iastore, 1, 0, 0, 0, 0, 0),
  (107, .aload_n 0, 1, 0, 0, 0, 0, 0),
  (108, .dup, 1, 0, 0, 0, 0, 0),
  (109, .getfield 303, 3, 12, 54, 0, 0, 1385),
  (112, .iload_n 3, 1, 0, 0, 0, 0, 0),
  (113, .aload_n 0, 1, 0, 0, 0, 0, 0),
  (114, .getfield 128, 3, 12, 50, 1, 0, 1381),
  (117, .bipush 32, 2, 0, 0, 0, 32, 0),
  (119, .iload_n 1, 1, 0, 0, 0, 0, 0),
  (120, .imul, 1, 0, 0, 0, 0, 0),
  (121, .iload_n 2, 1, 0, 0, 0, 0, 0),
  (122, .iadd, 1, 0, 0, 0, 0, 0),
  (123, .iaload, 1, 0, 0, 0, 0, 0),
  (124, .aload_n 0, 1, 0, 0, 0, 0, 0),
  (125, .getfield 131, 3, 12, 51, 1, 0, 1382),
  (128, .iload_n 2, 1, 0, 0, 0, 0, 0),
  (129, .iaload, 1, 0, 0, 0, 0, 0),
  (130, .iadd, 1, 0, 0, 0, 0, 0),
  (131, .imul, 1, 0, 0, 0, 0, 0),
  (132, .iadd, 1, 0, 0, 0, 0, 0),
  (133, .putfield 303, 3, 12, 54, 0, 0, 1385),
  (136, .iinc 1 1, 3, 0, 0, 0, 0, 0),
  (139, .goto (-114), 3, 25, 0, 0, 0, 0),
  (142, .return_, 1, 0, 0, 0, 0, 0)]
/-- TollsThatPayModel.toll(II)I -/
def z_c1234 : List z_E := [(0, .aload_n 0, 1, 0, 0, 0, 0, 0),
  (1, .iconst 0, 1, 0, 0, 0, 0, 0),
  (2, .putfield 185, 3, 12, 26, 0, 0, 1357),
  (5, .aload_n 0, 1, 0, 0, 0, 0, 0),
  (6, .iload_n 1, 1, 0, 0, 0, 0, 0),
  (7, .invokevirtual 309, 3, 1205, 2, 1, 12, 1632),
  (10, .ifCond .eq 24, 3, 34, 0, 0, 0, 0),
  (13, .aload_n 0, 1, 0, 0, 0, 0, 0),
  (14, .iload_n 1, 1, 0, 0, 0, 0, 0),
  (15, .invokevirtual 313, 3, 1208, 2, 1, 12, 1636),
  (18, .iconst (-1), 1, 0, 0, 0, (-1), 0),
  (19, .if_icmp .eq 15, 3, 34, 0, 0, 0, 0),
  (22, .iload_n 2, 1, 0, 0, 0, 0, 0),
  (23, .iconst 0, 1, 0, 0, 0, 0, 0),
  (24, .aload_n 0, 1, 0, 0, 0, 0, 0),
  (25, .getfield 31, 3, 12, 9, 0, 0, 1340),
  (28, .invokestatic 194, 3, 1202, 3, 1, 0, 1572),
  (31, .ifCond .ne 5, 3, 36, 0, 0, 0, 0),
  (34, .iconst (-1), 1, 0, 0, 0, (-1), 0),
  (35, .ireturn, 1, 1, 0, 0, 0, 0),
  (36, .aload_n 0, 1, 0, 0, 0, 0, 0),
  (37, .getfield 28, 3, 12, 7, 1, 0, 1338),
  (40, .aload_n 0, 1, 0, 0, 0, 0, 0),
  (41, .iload_n 1, 1, 0, 0, 0, 0, 0),
  (42, .invokevirtual 313, 3, 1208, 2, 1, 12, 1636),
  (45, .iaload, 1, 0, 0, 0, 0, 0),
  (46, .istore_n 3, 1, 0, 0, 0, 0, 0),
  (47, .aload_n 0, 1, 0, 0, 0, 0, 0),
  (48, .getfield 28, 3, 12, 7, 1, 0, 1338),
  (51, .aload_n 0, 1, 0, 0, 0, 0, 0),
  (52, .iload_n 1, 1, 0, 0, 0, 0, 0),
  (53, .invokevirtual 313, 3, 1208, 2, 1, 12, 1636),
  (56, .iload_n 2, 1, 0, 0, 0, 0, 0),
  (57, .iastore, 1, 0, 0, 0, 0, 0),
  (58, .iload_n 3, 1, 0, 0, 0, 0, 0),
  (59, .ireturn, 1, 1, 0, 0, 0, 0)]
/-- TollsThatPayModel.lean(I)I -/
def z_c1235 : List z_E := [(0, .aload_n 0, 1, 0, 0, 0, 0, 0),
  (1, .iconst 0, 1, 0, 0, 0, 0, 0),
  (2, .putfield 185, 3, 12, 26, 0, 0, 1357),
  (5, .iload_n 1, 1, 0, 0, 0, 0, 0),
  (6, .iconst 0, 1, 0, 0, 0, 0, 0),
  (7, .iconst 1, 1, 0, 0, 0, 1, 0),
  (8, .invokestatic 194, 3, 1202, 3, 1, 0, 1572),
  (11, .ifCond .ne 5, 3, 16, 0, 0, 0, 0),
  (14, .iconst (-1), 1, 0, 0, 0, (-1), 0),
  (15, .ireturn, 1, 1, 0, 0, 0, 0),
  (16, .aload_n 0, 1, 0, 0, 0, 0, 0),
  (17, .getfield 297, 3, 12, 10, 0, 0, 1341),
  (20, .istore_n 2, 1, 0, 0, 0, 0, 0),
  (21, .aload_n 0, 1, 0, 0, 0, 0, 0),
  (22, .iload_n 1, 1, 0, 0, 0, 0, 0),
  (23, .putfield 297, 3, 12, 10, 0, 0, 1341),
  (26, .iload_n 2, 1, 0, 0, 0, 0, 0),
  (27, .ireturn, 1, 1, 0, 0, 0, 0)]
/-- TollsThatPayModel.goerOf(II)I -/
def z_c1236 : List z_E := [(0, .iconst 0, 1, 0, 0, 0, 0, 0),
  (1, .istore_n 3, 1, 0, 0, 0, 0, 0),
  (2, .iload_n 3, 1, 0, 0, 0, 0, 0),
  (3, .aload_n 0, 1, 0, 0, 0, 0, 0),
  (4, .getfield 271, 3, 12, 48, 0, 0, 1379),
  (7, .if_icmp .ge 31, 3, 38, 0, 0, 0, 0),
  (10, .aload_n 0, 1, 0, 0, 0, 0, 0),
  (11, .getfield 119, 3, 12, 46, 1, 0, 1377),
  (14, .iload_n 3, 1, 0, 0, 0, 0, 0),
  (15, .iaload, 1, 0, 0, 0, 0, 0),
  (16, .iload_n 1, 1, 0, 0, 0, 0, 0),
  (17, .if_icmp .ne 15, 3, 32, 0, 0, 0, 0),
  (20, .aload_n 0, 1, 0, 0, 0, 0, 0),
  (21, .getfield 122, 3, 12, 47, 1, 0, 1378),
  (24, .iload_n 3, 1, 0, 0, 0, 0, 0),
  (25, .iaload, 1, 0, 0, 0, 0, 0),
  (26, .iload_n 2, 1, 0, 0, 0, 0, 0),
  (27, .if_icmp .ne 5, 3, 32, 0, 0, 0, 0),
  (30, .iload_n 3, 1, 0, 0, 0, 0, 0),
  (31, .ireturn, 1, 1, 0, 0, 0, 0),
  (32, .iinc 3 1, 3, 0, 0, 0, 0, 0),
  (35, .goto (-33), 3, 2, 0, 0, 0, 0),
  (38, .iconst (-1), 1, 0, 0, 0, (-1), 0),
  (39, .ireturn, 1, 1, 0, 0, 0, 0)]
/-- TollsThatPayModel.wayOf(I)I -/
def z_c1237 : List z_E := [(0, .aload_n 0, 1, 0, 0, 0, 0, 0),
  (1, .iload_n 1, 1, 0, 0, 0, 0, 0),
  (2, .invokevirtual 306, 3, 1231, 2, 1, 12, 1696),
  (5, .istore_n 2, 1, 0, 0, 0, 0, 0),
  (6, .iload_n 2, 1, 0, 0, 0, 0, 0),
  (7, .iconst (-1), 1, 0, 0, 0, (-1), 0),
  (8, .if_icmp .ne 7, 3, 15, 0, 0, 0, 0),
  (11, .iconst (-1), 1, 0, 0, 0, (-1), 0),
  (12, .goto 14, 3, 26, 0, 0, 0, 0),
  (15, .aload_n 0, 1, 0, 0, 0, 0, 0),
  (16, .getfield 125, 3, 12, 49, 1, 0, 1380),
  (19, .bipush 32, 2, 0, 0, 0, 32, 0),
  (21, .iload_n 1, 1, 0, 0, 0, 0, 0),
  (22, .imul, 1, 0, 0, 0, 0, 0),
  (23, .iload_n 2, 1, 0, 0, 0, 0, 0),
  (24, .iadd, 1, 0, 0, 0, 0, 0),
  (25, .iaload, 1, 0, 0, 0, 0, 0),
  (26, .ireturn, 1, 1, 0, 0, 0, 0)]
/-- TollsThatPayModel.asks(II)I -/
def z_c1238 : List z_E := [(0, .aload_n 0, 1, 0, 0, 0, 0, 0),
  (1, .iload_n 1, 1, 0, 0, 0, 0, 0),
  (2, .invokevirtual 316, 3, 1206, 2, 1, 12, 1652),
  (5, .ifCond .ne 5, 3, 10, 0, 0, 0, 0),
  (8, .iconst (-1), 1, 0, 0, 0, (-1), 0),
  (9, .ireturn, 1, 1, 0, 0, 0, 0),
  (10, .aload_n 0, 1, 0, 0, 0, 0, 0),
  (11, .invokevirtual 319, 3, 1229, 1, 0, 12, 1656),
  (14, .aload_n 0, 1, 0, 0, 0, 0, 0),
  (15, .invokevirtual 300, 3, 1230, 1, 0, 12, 1680),
  (18, .aload_n 0, 1, 0, 0, 0, 0, 0),
  (19, .iload_n 1, 1, 0, 0, 0, 0, 0),
  (20, .iload_n 2, 1, 0, 0, 0, 0, 0),
  (21, .invokevirtual 322, 3, 1236, 3, 1, 12, 1688),
  (24, .ireturn, 1, 1, 0, 0, 0, 0)]
/-- TollsThatPayModel.way(II)I -/
def z_c1239 : List z_E := [(0, .aload_n 0, 1, 0, 0, 0, 0, 0),
  (1, .iconst 0, 1, 0, 0, 0, 0, 0),
  (2, .putfield 185, 3, 12, 26, 0, 0, 1357),
  (5, .aload_n 0, 1, 0, 0, 0, 0, 0),
  (6, .iload_n 1, 1, 0, 0, 0, 0, 0),
  (7, .iload_n 2, 1, 0, 0, 0, 0, 0),
  (8, .invokevirtual 325, 3, 1238, 3, 1, 12, 1648),
  (11, .istore_n 3, 1, 0, 0, 0, 0, 0),
  (12, .iload_n 3, 1, 0, 0, 0, 0, 0),
  (13, .iconst (-1), 1, 0, 0, 0, (-1), 0),
  (14, .if_icmp .ne 5, 3, 19, 0, 0, 0, 0),
  (17, .iconst (-1), 1, 0, 0, 0, (-1), 0),
  (18, .ireturn, 1, 1, 0, 0, 0, 0),
  (19, .aload_n 0, 1, 0, 0, 0, 0, 0),
  (20, .iload_n 3, 1, 0, 0, 0, 0, 0),
  (21, .invokevirtual 328, 3, 1237, 2, 1, 12, 1692),
  (24, .istore 4, 2, 0, 0, 0, 0, 0),
  (26, .aload_n 0, 1, 0, 0, 0, 0, 0),
  (27, .iconst 0, 1, 0, 0, 0, 0, 0),
  (28, .putfield 188, 3, 12, 25, 0, 0, 1356),
  (31, .iconst 0, 1, 0, 0, 0, 0, 0),
  (32, .istore 5, 2, 0, 0, 0, 0, 0),
  (34, .iload 4, 2, 0, 0, 0, 0, 0),
  (36, .iconst (-1), 1, 0, 0, 0, (-1), 0),
  (37, .if_icmp .eq 38, 3, 75, 0, 0, 0, 0),
  (40, .iload 5, 2, 0, 0, 0, 0, 0),
  (42, .aload_n 0, 1, 0, 0, 0, 0, 0),
  (43, .getfield 110, 3, 12, 43, 1, 0, 1374),
  (46, .iload 4, 2, 0, 0, 0, 0, 0),
  (48, .iaload, 1, 0, 0, 0, 0, 0),
  (49, .if_icmp .ge 26, 3, 75, 0, 0, 0, 0),
  (52, .aload_n 0, 1, 0, 0, 0, 0, 0),
  (53, .aload_n 0, 1, 0, 0, 0, 0, 0),
  (54, .getfield 107, 3, 12, 42, 1, 0, 1373),
  (57, .bipush 7, 2, 0, 0, 0, 7, 0),
  (59, .iload 4, 2, 0, 0, 0, 0, 0),
  (61, .imul, 1, 0, 0, 0, 0, 0),
  (62, .iload 5, 2, 0, 0, 0, 0, 0),
  (64, .iadd, 1, 0, 0, 0, 0, 0),
  (65, .iaload, 1, 0, 0, 0, 0, 0),
  (66, .invokevirtual 331, 3, 1204, 2, 0, 12, 1704),
  (69, .iinc 5 1, 3, 0, 0, 0, 0, 0),
  (72, .goto (-38), 3, 34, 0, 0, 0, 0),
  (75, .aload_n 0, 1, 0, 0, 0, 0, 0),
  (76, .getfield 188, 3, 12, 25, 0, 0, 1356),
  (79, .ireturn, 1, 1, 0, 0, 0, 0)]
/-- TollsThatPayModel.pains(II)I -/
def z_c1240 : List z_E := [(0, .aload_n 0, 1, 0, 0, 0, 0, 0),
  (1, .iconst 0, 1, 0, 0, 0, 0, 0),
  (2, .putfield 185, 3, 12, 26, 0, 0, 1357),
  (5, .aload_n 0, 1, 0, 0, 0, 0, 0),
  (6, .iload_n 1, 1, 0, 0, 0, 0, 0),
  (7, .iload_n 2, 1, 0, 0, 0, 0, 0),
  (8, .invokevirtual 325, 3, 1238, 3, 1, 12, 1648),
  (11, .istore_n 3, 1, 0, 0, 0, 0, 0),
  (12, .iload_n 3, 1, 0, 0, 0, 0, 0),
  (13, .iconst (-1), 1, 0, 0, 0, (-1), 0),
  (14, .if_icmp .ne 5, 3, 19, 0, 0, 0, 0),
  (17, .iconst (-1), 1, 0, 0, 0, (-1), 0),
  (18, .ireturn, 1, 1, 0, 0, 0, 0),
  (19, .aload_n 0, 1, 0, 0, 0, 0, 0),
  (20, .iload_n 3, 1, 0, 0, 0, 0, 0),
  (21, .invokevirtual 306, 3, 1231, 2, 1, 12, 1696),
  (24, .istore 4, 2, 0, 0, 0, 0, 0),
  (26, .iload 4, 2, 0, 0, 0, 0, 0),
  (28, .iconst (-1), 1, 0, 0, 0, (-1), 0),
  (29, .if_icmp .ne 7, 3, 36, 0, 0, 0, 0),
  (32, .iconst 0, 1, 0, 0, 0, 0, 0),
  (33, .goto 23, 3, 56, 0, 0, 0, 0),
  (36, .aload_n 0, 1, 0, 0, 0, 0, 0),
  (37, .getfield 128, 3, 12, 50, 1, 0, 1381),
  (40, .bipush 32, 2, 0, 0, 0, 32, 0),
  (42, .iload_n 3, 1, 0, 0, 0, 0, 0),
  (43, .imul, 1, 0, 0, 0, 0, 0),
  (44, .iload 4, 2, 0, 0, 0, 0, 0),
  (46, .iadd, 1, 0, 0, 0, 0, 0),
  (47, .iaload, 1, 0, 0, 0, 0, 0),
  (48, .aload_n 0, 1, 0, 0, 0, 0, 0),
  (49, .getfield 131, 3, 12, 51, 1, 0, 1382),
  (52, .iload 4, 2, 0, 0, 0, 0, 0),
  (54, .iaload, 1, 0, 0, 0, 0, 0),
  (55, .iadd, 1, 0, 0, 0, 0, 0),
  (56, .ireturn, 1, 1, 0, 0, 0, 0)]
/-- TollsThatPayModel.room(II)I -/
def z_c1241 : List z_E := [(0, .aload_n 0, 1, 0, 0, 0, 0, 0),
  (1, .iconst 0, 1, 0, 0, 0, 0, 0),
  (2, .putfield 185, 3, 12, 26, 0, 0, 1357),
  (5, .aload_n 0, 1, 0, 0, 0, 0, 0),
  (6, .iload_n 1, 1, 0, 0, 0, 0, 0),
  (7, .iload_n 2, 1, 0, 0, 0, 0, 0),
  (8, .invokevirtual 325, 3, 1238, 3, 1, 12, 1648),
  (11, .istore_n 3, 1, 0, 0, 0, 0, 0),
  (12, .iload_n 3, 1, 0, 0, 0, 0, 0),
  (13, .iconst (-1), 1, 0, 0, 0, (-1), 0),
  (14, .if_icmp .ne 5, 3, 19, 0, 0, 0, 0),
  (17, .iconst (-1), 1, 0, 0, 0, (-1), 0),
  (18, .ireturn, 1, 1, 0, 0, 0, 0),
  (19, .aload_n 0, 1, 0, 0, 0, 0, 0),
  (20, .iload_n 3, 1, 0, 0, 0, 0, 0),
  (21, .invokevirtual 306, 3, 1231, 2, 1, 12, 1696),
  (24, .istore 4, 2, 0, 0, 0, 0, 0),
  (26, .iload 4, 2, 0, 0, 0, 0, 0),
  (28, .iconst (-1), 1, 0, 0, 0, (-1), 0),
  (29, .if_icmp .eq 8, 3, 37, 0, 0, 0, 0),
  (32, .iload 4, 2, 0, 0, 0, 0, 0),
  (34, .ifCond .ne 6, 3, 40, 0, 0, 0, 0),
  (37, .bipush (-2), 2, 0, 0, 0, (-2), 0),
  (39, .ireturn, 1, 1, 0, 0, 0, 0),
  (40, .iconst (-1), 1, 0, 0, 0, (-1), 0),
  (41, .istore 5, 2, 0, 0, 0, 0, 0),
  (43, .iconst 0, 1, 0, 0, 0, 0, 0),
  (44, .istore 6, 2, 0, 0, 0, 0, 0),
  (46, .iload 6, 2, 0, 0, 0, 0, 0),
  (48, .iconst 1, 1, 0, 0, 0, 1, 0),
  (49, .aload_n 0, 1, 0, 0, 0, 0, 0),
  (50, .getfield 201, 3, 12, 8, 0, 0, 1339),
  (53, .ishl, 1, 0, 0, 0, 0, 0),
  (54, .if_icmp .ge 85, 3, 139, 0, 0, 0, 0),
  (57, .bipush 32, 2, 0, 0, 0, 32, 0),
  (59, .iload_n 3, 1, 0, 0, 0, 0, 0),
  (60, .imul, 1, 0, 0, 0, 0, 0),
  (61, .iload 6, 2, 0, 0, 0, 0, 0),
  (63, .iadd, 1, 0, 0, 0, 0, 0),
  (64, .istore 7, 2, 0, 0, 0, 0, 0),
  (66, .iload 6, 2, 0, 0, 0, 0, 0),
  (68, .iload 4, 2, 0, 0, 0, 0, 0),
  (70, .iand, 1, 0, 0, 0, 0, 0),
  (71, .iload 4, 2, 0, 0, 0, 0, 0),
  (73, .if_icmp .eq 60, 3, 133, 0, 0, 0, 0),
  (76, .aload_n 0, 1, 0, 0, 0, 0, 0),
  (77, .getfield 125, 3, 12, 49, 1, 0, 1380),
  (80, .iload 7, 2, 0, 0, 0, 0, 0),
  (82, .iaload, 1, 0, 0, 0, 0, 0),
  (83, .iconst (-1), 1, 0, 0, 0, (-1), 0),
  (84, .if_icmp .ne 6, 3, 90, 0, 0, 0, 0),
  (87, .goto 46, 3, 133, 0, 0, 0, 0),
  (90, .iload 5, 2, 0, 0, 0, 0, 0),
  (92, .iconst (-1), 1, 0, 0, 0, (-1), 0),
  (93, .if_icmp .eq 23, 3, 116, 0, 0, 0, 0),
  (96, .aload_n 0, 1, 0, 0, 0, 0, 0),
  (97, .getfield 128, 3, 12, 50, 1, 0, 1381),
  (100, .iload 7, 2, 0, 0, 0, 0, 0),
  (102, .iaload, 1, 0, 0, 0, 0, 0),
  (103, .aload_n 0, 1, 0, 0, 0, 0, 0),
  (104, .getfield 131, 3, 12, 51, 1, 0, 1382),
  (107, .iload 6, 2, 0, 0, 0, 0, 0),
  (109, .iaload, 1, 0, 0, 0, 0, 0),
  (110, .iadd, 1, 0, 0, 0, 0, 0),
  (111, .iload 5, 2, 0, 0, 0, 0, 0),
  (113, .if_icmp .ge 20, 3, 133, 0, 0, 0, 0),
  (116, .aload_n 0, 1, 0, 0, 0, 0, 0),
  (117, .getfield 128, 3, 12, 50, 1, 0, 1381),
  (120, .iload 7, 2, 0, 0, 0, 0, 0),
  (122, .iaload, 1, 0, 0, 0, 0, 0),
  (123, .aload_n 0, 1, 0, 0, 0, 0, 0),
  (124, .getfield 131, 3, 12, 51, 1, 0, 1382),
  (127, .iload 6, 2, 0, 0, 0, 0, 0),
  (129, .iaload, 1, 0, 0, 0, 0, 0),
  (130, .iadd, 1, 0, 0, 0, 0, 0),
  (131, .istore 5, 2, 0, 0, 0, 0, 0),
  (133, .iinc 6 1, 3, 0, 0, 0, 0, 0),
  (136, .goto (-90), 3, 46, 0, 0, 0, 0),
  (139, .iload 5, 2, 0, 0, 0, 0, 0),
  (141, .iconst (-1), 1, 0, 0, 0, (-1), 0),
  (142, .if_icmp .ne 8, 3, 150, 0, 0, 0, 0),
  (145, .bipush (-2), 2, 0, 0, 0, (-2), 0),
  (147, .goto 26, 3, 173, 0, 0, 0, 0),
  (150, .iload 5, 2, 0, 0, 0, 0, 0),
  (152, .aload_n 0, 1, 0, 0, 0, 0, 0),
  (153, .getfield 128, 3, 12, 50, 1, 0, 1381),
  (156, .bipush 32, 2, 0, 0, 0, 32, 0),
  (158, .iload_n 3, 1, 0, 0, 0, 0, 0),
  (159, .imul, 1, 0, 0, 0, 0, 0),
  (160, .iload 4, 2, 0, 0, 0, 0, 0),
  (162, .iadd, 1, 0, 0, 0, 0, 0),
  (163, .iaload, 1, 0, 0, 0, 0, 0),
  (164, .isub, 1, 0, 0, 0, 0, 0),
  (165, .aload_n 0, 1, 0, 0, 0, 0, 0),
  (166, .getfield 131, 3, 12, 51, 1, 0, 1382),
  (169, .iload 4, 2, 0, 0, 0, 0, 0),
  (171, .iaload, 1, 0, 0, 0, 0, 0),
  (172, .isub, 1, 0, 0, 0, 0, 0),
  (173, .ireturn, 1, 1, 0, 0, 0, 0)]
/-- TollsThatPayModel.take(I)I -/
def z_c1242 : List z_E := [(0, .aload_n 0, 1, 0, 0, 0, 0, 0),
  (1, .iconst 0, 1, 0, 0, 0, 0, 0),
  (2, .putfield 185, 3, 12, 26, 0, 0, 1357),
  (5, .iload_n 1, 1, 0, 0, 0, 0, 0),
  (6, .invokestatic 334, 3, 1207, 1, 1, 0, 1720),
  (9, .ifCond .ne 5, 3, 14, 0, 0, 0, 0),
  (12, .iconst (-1), 1, 0, 0, 0, (-1), 0),
  (13, .ireturn, 1, 1, 0, 0, 0, 0),
  (14, .aload_n 0, 1, 0, 0, 0, 0, 0),
  (15, .invokevirtual 319, 3, 1229, 1, 0, 12, 1656),
  (18, .aload_n 0, 1, 0, 0, 0, 0, 0),
  (19, .invokevirtual 337, 3, 1233, 1, 0, 12, 1723),
  (22, .aload_n 0, 1, 0, 0, 0, 0, 0),
  (23, .getfield 137, 3, 12, 53, 1, 0, 1384),
  (26, .iload_n 1, 1, 0, 0, 0, 0, 0),
  (27, .iaload, 1, 0, 0, 0, 0, 0),
  (28, .ireturn, 1, 1, 0, 0, 0, 0)]
/-- TollsThatPayModel.suffered()I -/
def z_c1243 : List z_E := [(0, .aload_n 0, 1, 0, 0, 0, 0, 0),
  (1, .iconst 0, 1, 0, 0, 0, 0, 0),
  (2, .putfield 185, 3, 12, 26, 0, 0, 1357),
  (5, .aload_n 0, 1, 0, 0, 0, 0, 0),
  (6, .invokevirtual 319, 3, 1229, 1, 0, 12, 1656),
  (9, .aload_n 0, 1, 0, 0, 0, 0, 0),
  (10, .invokevirtual 337, 3, 1233, 1, 0, 12, 1723),
  (13, .aload_n 0, 1, 0, 0, 0, 0, 0),
  (14, .getfield 303, 3, 12, 54, 0, 0, 1385),
  (17, .ireturn, 1, 1, 0, 0, 0, 0)]
/-- TollsThatPayModel.by(I)I -/
def z_c1244 : List z_E := [(0, .aload_n 0, 1, 0, 0, 0, 0, 0),
  (1, .iconst 0, 1, 0, 0, 0, 0, 0),
  (2, .putfield 185, 3, 12, 26, 0, 0, 1357),
  (5, .aload_n 0, 1, 0, 0, 0, 0, 0),
  (6, .iload_n 1, 1, 0, 0, 0, 0, 0),
  (7, .invokevirtual 309, 3, 1205, 2, 1, 12, 1632),
  (10, .ifCond .ne 5, 3, 15, 0, 0, 0, 0),
  (13, .iconst (-1), 1, 0, 0, 0, (-1), 0),
  (14, .ireturn, 1, 1, 0, 0, 0, 0),
  (15, .aload_n 0, 1, 0, 0, 0, 0, 0),
  (16, .invokevirtual 319, 3, 1229, 1, 0, 12, 1656),
  (19, .aload_n 0, 1, 0, 0, 0, 0, 0),
  (20, .iload_n 1, 1, 0, 0, 0, 0, 0),
  (21, .invokevirtual 340, 3, 1245, 2, 1, 12, 1735),
  (24, .ireturn, 1, 1, 0, 0, 0, 0)]
/-- TollsThatPayModel.goBy(I)I -/
def z_c1245 : List z_E := [(0, .aload_n 0, 1, 0, 0, 0, 0, 0),
  (1, .invokevirtual 300, 3, 1230, 1, 0, 12, 1680),
  (4, .iconst 0, 1, 0, 0, 0, 0, 0),
  (5, .istore_n 2, 1, 0, 0, 0, 0, 0),
  (6, .iconst 0, 1, 0, 0, 0, 0, 0),
  (7, .istore_n 3, 1, 0, 0, 0, 0, 0),
  (8, .iload_n 3, 1, 0, 0, 0, 0, 0),
  (9, .aload_n 0, 1, 0, 0, 0, 0, 0),
  (10, .getfield 271, 3, 12, 48, 0, 0, 1379),
  (13, .if_icmp .ge 46, 3, 59, 0, 0, 0, 0),
  (16, .aload_n 0, 1, 0, 0, 0, 0, 0),
  (17, .iload_n 3, 1, 0, 0, 0, 0, 0),
  (18, .invokevirtual 328, 3, 1237, 2, 1, 12, 1692),
  (21, .istore 4, 2, 0, 0, 0, 0, 0),
  (23, .iload 4, 2, 0, 0, 0, 0, 0),
  (25, .iconst (-1), 1, 0, 0, 0, (-1), 0),
  (26, .if_icmp .eq 27, 3, 53, 0, 0, 0, 0),
  (29, .aload_n 0, 1, 0, 0, 0, 0, 0),
  (30, .iload 4, 2, 0, 0, 0, 0, 0),
  (32, .iload_n 1, 1, 0, 0, 0, 0, 0),
  (33, .invokevirtual 267, 3, 1224, 3, 1, 12, 1668),
  (36, .ifCond .eq 17, 3, 53, 0, 0, 0, 0),
  (39, .iload_n 2, 1, 0, 0, 0, 0, 0),
  (40, .aload_n 0, 1, 0, 0, 0, 0, 0),
  (41, .getfield 41, 3, 12, 13, 1, 0, 1344),
  (44, .aload_n 0, 1, 0, 0, 0, 0, 0),
  (45, .getfield 119, 3, 12, 46, 1, 0, 1377),
  (48, .iload_n 3, 1, 0, 0, 0, 0, 0),
  (49, .iaload, 1, 0, 0, 0, 0, 0),
  (50, .iaload, 1, 0, 0, 0, 0, 0),
  (51, .iadd, 1, 0, 0, 0, 0, 0),
  (52, .istore_n 2, 1, 0, 0, 0, 0, 0),
  (53, .iinc 3 1, 3, 0, 0, 0, 0, 0),
  (56, .goto (-48), 3, 8, 0, 0, 0, 0),
  (59, .iload_n 2, 1, 0, 0, 0, 0, 0),
  (60, .ireturn, 1, 1, 0, 0, 0, 0)]
/-- TollsThatPayModel.ways(I)I -/
def z_c1246 : List z_E := [(0, .aload_n 0, 1, 0, 0, 0, 0, 0),
  (1, .iconst 0, 1, 0, 0, 0, 0, 0),
  (2, .putfield 185, 3, 12, 26, 0, 0, 1357),
  (5, .aload_n 0, 1, 0, 0, 0, 0, 0),
  (6, .iload_n 1, 1, 0, 0, 0, 0, 0),
  (7, .invokevirtual 316, 3, 1206, 2, 1, 12, 1652),
  (10, .ifCond .eq 12, 3, 22, 0, 0, 0, 0),
  (13, .aload_n 0, 1, 0, 0, 0, 0, 0),
  (14, .getfield 113, 3, 12, 44, 1, 0, 1375),
  (17, .iload_n 1, 1, 0, 0, 0, 0, 0),
  (18, .iaload, 1, 0, 0, 0, 0, 0),
  (19, .goto 4, 3, 23, 0, 0, 0, 0),
  (22, .iconst (-1), 1, 0, 0, 0, (-1), 0),
  (23, .ireturn, 1, 1, 0, 0, 0, 0)]
/-- TollsThatPayModel.keep()V -/
def z_c1247 : List z_E := [(0, .iconst 0, 1, 0, 0, 0, 0, 0),
  (1, .istore_n 1, 1, 0, 0, 0, 0, 0),
  (2, .iload_n 1, 1, 0, 0, 0, 0, 0),
  (3, .iconst 5, 1, 0, 0, 0, 5, 0),
  (4, .if_icmp .ge 21, 3, 25, 0, 0, 0, 0),
  (7, .aload_n 0, 1, 0, 0, 0, 0, 0),
  (8, .getfield 143, 3, 12, 57, 1, 0, 1388),
  (11, .iload_n 1, 1, 0, 0, 0, 0, 0),
  (12, .aload_n 0, 1, 0, 0, 0, 0, 0),
  (13, .getfield 28, 3, 12, 7, 1, 0, 1338),
  (16, .iload_n 1, 1, 0, 0, 0, 0, 0),
  (17, .iaload, 1, 0, 0, 0, 0, 0),
  (18, .iastore, 1, 0, 0, 0, 0, 0),
  (19, .iinc 1 1, 3, 0, 0, 0, 0, 0),
  (22, .goto (-20), 3, 2, 0, 0, 0, 0),
  (25, .return_, 1, 0, 0, 0, 0, 0)]
/-- TollsThatPayModel.putBack()V -/
def z_c1248 : List z_E := [(0, .iconst 0, 1, 0, 0, 0, 0, 0),
  (1, .istore_n 1, 1, 0, 0, 0, 0, 0),
  (2, .iload_n 1, 1, 0, 0, 0, 0, 0),
  (3, .iconst 5, 1, 0, 0, 0, 5, 0),
  (4, .if_icmp .ge 21, 3, 25, 0, 0, 0, 0),
  (7, .aload_n 0, 1, 0, 0, 0, 0, 0),
  (8, .getfield 28, 3, 12, 7, 1, 0, 1338),
  (11, .iload_n 1, 1, 0, 0, 0, 0, 0),
  (12, .aload_n 0, 1, 0, 0, 0, 0, 0),
  (13, .getfield 143, 3, 12, 57, 1, 0, 1388),
  (16, .iload_n 1, 1, 0, 0, 0, 0, 0),
  (17, .iaload, 1, 0, 0, 0, 0, 0),
  (18, .iastore, 1, 0, 0, 0, 0, 0),
  (19, .iinc 1 1, 3, 0, 0, 0, 0, 0),
  (22, .goto (-20), 3, 2, 0, 0, 0, 0),
  (25, .return_, 1, 0, 0, 0, 0, 0)]
/-- TollsThatPayModel.lay(II)V -/
def z_c1249 : List z_E := [(0, .aload_n 0, 1, 0, 0, 0, 0, 0),
  (1, .iconst 0, 1, 0, 0, 0, 0, 0),
  (2, .putfield 343, 3, 12, 56, 0, 0, 1387),
  (5, .iconst 0, 1, 0, 0, 0, 0, 0),
  (6, .istore_n 3, 1, 0, 0, 0, 0, 0),
  (7, .iload_n 3, 1, 0, 0, 0, 0, 0),
  (8, .aload_n 0, 1, 0, 0, 0, 0, 0),
  (9, .getfield 201, 3, 12, 8, 0, 0, 1339),
  (12, .if_icmp .ge 59, 3, 71, 0, 0, 0, 0),
  (15, .aload_n 0, 1, 0, 0, 0, 0, 0),
  (16, .getfield 22, 3, 12, 4, 1, 0, 1335),
  (19, .aload_n 0, 1, 0, 0, 0, 0, 0),
  (20, .getfield 25, 3, 12, 6, 1, 0, 1337),
  (23, .iload_n 3, 1, 0, 0, 0, 0, 0),
  (24, .iaload, 1, 0, 0, 0, 0, 0),
  (25, .iaload, 1, 0, 0, 0, 0, 0),
  (26, .iload_n 1, 1, 0, 0, 0, 0, 0),
  (27, .if_icmp .eq 6, 3, 33, 0, 0, 0, 0),
  (30, .goto 35, 3, 65, 0, 0, 0, 0),
  (33, .aload_n 0, 1, 0, 0, 0, 0, 0),
  (34, .getfield 28, 3, 12, 7, 1, 0, 1338),
  (37, .iload_n 3, 1, 0, 0, 0, 0, 0),
  (38, .iconst 0, 1, 0, 0, 0, 0, 0),
  (39, .iastore, 1, 0, 0, 0, 0, 0),
  (40, .iload_n 2, 1, 0, 0, 0, 0, 0),
  (41, .iload_n 3, 1, 0, 0, 0, 0, 0),
  (42, .ishr, 1, 0, 0, 0, 0, 0),
  (43, .iconst 1, 1, 0, 0, 0, 1, 0),
  (44, .iand, 1, 0, 0, 0, 0, 0),
  (45, .ifCond .ne 20, 3, 65, 0, 0, 0, 0),
  (48, .aload_n 0, 1, 0, 0, 0, 0, 0),
  (49, .getfield 140, 3, 12, 55, 1, 0, 1386),
  (52, .aload_n 0, 1, 0, 0, 0, 0, 0),
  (53, .dup, 1, 0, 0, 0, 0, 0),
  (54, .getfield 343, 3, 12, 56, 0, 0, 1387),
  (57, .dup_x1, 1, 0, 0, 0, 0, 0),
  (58, .iconst 1, 1, 0, 0, 0, 1, 0),
  (59, .iadd, 1, 0, 0, 0, 0, 0),
  (60, .putfield 343, 3, 12, 56, 0, 0, 1387),
  (63, .iload_n 3, 1, 0, 0, 0, 0, 0),
  (64, .iastore, 1, 0, 0, 0, 0, 0),
  (65, .iinc 3 1, 3, 0, 0, 0, 0, 0),
  (68, .goto (-61), 3, 7, 0, 0, 0, 0),
  (71, .return_, 1, 0, 0, 0, 0, 0)]
/-- TollsThatPayModel.next(I)Z -/
def z_c1250 : List z_E := [(0, .aload_n 0, 1, 0, 0, 0, 0, 0),
  (1, .getfield 343, 3, 12, 56, 0, 0, 1387),
  (4, .iconst 1, 1, 0, 0, 0, 1, 0),
  (5, .isub, 1, 0, 0, 0, 0, 0),
  (6, .istore_n 2, 1, 0, 0, 0, 0, 0),
  (7, .iload_n 2, 1, 0, 0, 0, 0, 0),
  (8, .ifCond .lt 36, 3, 44, 0, 0, 0, 0),
  (11, .aload_n 0, 1, 0, 0, 0, 0, 0),
  (12, .getfield 28, 3, 12, 7, 1, 0, 1338),
  (15, .aload_n 0, 1, 0, 0, 0, 0, 0),
  (16, .getfield 140, 3, 12, 55, 1, 0, 1386),
  (19, .iload_n 2, 1, 0, 0, 0, 0, 0),
  (20, .iaload, 1, 0, 0, 0, 0, 0),
  (21, .iaload, 1, 0, 0, 0, 0, 0),
  (22, .iload_n 1, 1, 0, 0, 0, 0, 0),
  (23, .if_icmp .ne 21, 3, 44, 0, 0, 0, 0),
  (26, .aload_n 0, 1, 0, 0, 0, 0, 0),
  (27, .getfield 28, 3, 12, 7, 1, 0, 1338),
  (30, .aload_n 0, 1, 0, 0, 0, 0, 0),
  (31, .getfield 140, 3, 12, 55, 1, 0, 1386),
  (34, .iload_n 2, 1, 0, 0, 0, 0, 0),
  (35, .iaload, 1, 0, 0, 0, 0, 0),
  (36, .iconst 0, 1, 0, 0, 0, 0, 0),
  (37, .iastore, 1, 0, 0, 0, 0, 0),
  (38, .iinc 2 (-1), 3, 0, 0, 0, 0, 0),
  (41, .goto (-34), 3, 7, 0, 0, 0, 0),
  (44, .iload_n 2, 1, 0, 0, 0, 0, 0),
  (45, .ifCond .ge 5, 3, 50, 0, 0, 0, 0),
  (48, .iconst 0, 1, 0, 0, 0, 0, 0),
  (49, .ireturn, 1, 2, 0, 0, 0, 0),
  (50, .aload_n 0, 1, 0, 0, 0, 0, 0),
  (51, .getfield 28, 3, 12, 7, 1, 0, 1338),
  (54, .aload_n 0, 1, 0, 0, 0, 0, 0),
  (55, .getfield 140, 3, 12, 55, 1, 0, 1386),
  (58, .iload_n 2, 1, 0, 0, 0, 0, 0),
  (59, .iaload, 1, 0, 0, 0, 0, 0),
  (60, .dup2, 1, 0, 0, 0, 0, 0),
  (61, .iaload, 1, 0, 0, 0, 0, 0),
  (62, .iconst 1, 1, 0, 0, 0, 1, 0),
  (63, .iadd, 1, 0, 0, 0, 0, 0),
  (64, .iastore, 1, 0, 0, 0, 0, 0),
  (65, .iconst 1, 1, 0, 0, 0, 1, 0),
  (66, .ireturn, 1, 2, 0, 0, 0, 0)]
/-- TollsThatPayModel.areFew(II)Z -/
def z_c1251 : List z_E := [(0, .lconst 1, 1, 0, 0, 0, 1, 0),
  (1, .lstore_n 3, 1, 0, 0, 0, 0, 0),
  (2, .iconst 0, 1, 0, 0, 0, 0, 0),
  (3, .istore 5, 2, 0, 0, 0, 0, 0),
  (5, .iload 5, 2, 0, 0, 0, 0, 0),
  (7, .aload_n 0, 1, 0, 0, 0, 0, 0),
  (8, .getfield 201, 3, 12, 8, 0, 0, 1339),
  (11, .if_icmp .ge 46, 3, 57, 0, 0, 0, 0),
  (14, .aload_n 0, 1, 0, 0, 0, 0, 0),
  (15, .getfield 22, 3, 12, 4, 1, 0, 1335),
  (18, .aload_n 0, 1, 0, 0, 0, 0, 0),
  (19, .getfield 25, 3, 12, 6, 1, 0, 1337),
  (22, .iload 5, 2, 0, 0, 0, 0, 0),
  (24, .iaload, 1, 0, 0, 0, 0, 0),
  (25, .iaload, 1, 0, 0, 0, 0, 0),
  (26, .iload_n 1, 1, 0, 0, 0, 0, 0),
  (27, .if_icmp .ne 24, 3, 51, 0, 0, 0, 0),
  (30, .aload_n 0, 1, 0, 0, 0, 0, 0),
  (31, .getfield 25, 3, 12, 6, 1, 0, 1337),
  (34, .iload 5, 2, 0, 0, 0, 0, 0),
  (36, .iaload, 1, 0, 0, 0, 0, 0),
  (37, .iload_n 2, 1, 0, 0, 0, 0, 0),
  (38, .if_icmp .eq 13, 3, 51, 0, 0, 0, 0),
  (41, .lload_n 3, 1, 0, 0, 0, 0, 0),
  (42, .aload_n 0, 1, 0, 0, 0, 0, 0),
  (43, .getfield 31, 3, 12, 9, 0, 0, 1340),
  (46, .iconst 1, 1, 0, 0, 0, 1, 0),
  (47, .iadd, 1, 0, 0, 0, 0, 0),
  (48, .i2l, 1, 0, 0, 0, 0, 0),
  (49, .lmul, 1, 0, 0, 0, 0, 0),
  (50, .lstore_n 3, 1, 0, 0, 0, 0, 0),
  (51, .iinc 5 1, 3, 0, 0, 0, 0, 0),
  (54, .goto (-49), 3, 5, 0, 0, 0, 0),
  (57, .lload_n 3, 1, 0, 0, 0, 0, 0),
  (58, .ldc2_w 346, 3, 0, 0, 0, 20000, 1755),
  (61, .lcmp, 1, 0, 0, 0, 0, 0),
  (62, .ifCond .gt 7, 3, 69, 0, 0, 0, 0),
  (65, .iconst 1, 1, 0, 0, 0, 1, 0),
  (66, .goto 4, 3, 70, 0, 0, 0, 0),
  (69, .iconst 0, 1, 0, 0, 0, 0, 0),
  (70, .ireturn, 1, 2, 0, 0, 0, 0)]
/-- TollsThatPayModel.canSet(I)Z -/
def z_c1252 : List z_E := [(0, .iload_n 1, 1, 0, 0, 0, 0, 0),
  (1, .invokestatic 334, 3, 1207, 1, 1, 0, 1720),
  (4, .ifCond .eq 16, 3, 20, 0, 0, 0, 0),
  (7, .aload_n 0, 1, 0, 0, 0, 0, 0),
  (8, .iload_n 1, 1, 0, 0, 0, 0, 0),
  (9, .iconst (-1), 1, 0, 0, 0, (-1), 0),
  (10, .invokevirtual 348, 3, 1251, 3, 1, 12, 1751),
  (13, .ifCond .eq 7, 3, 20, 0, 0, 0, 0),
  (16, .iconst 1, 1, 0, 0, 0, 1, 0),
  (17, .goto 4, 3, 21, 0, 0, 0, 0),
  (20, .iconst 0, 1, 0, 0, 0, 0, 0),
  (21, .ireturn, 1, 2, 0, 0, 0, 0)]
/-- TollsThatPayModel.bestOf(III)I -/
def z_c1253 : List z_E := [(0, .aload_n 0, 1, 0, 0, 0, 0, 0),
  (1, .invokevirtual 351, 3, 1247, 1, 0, 12, 1760),
  (4, .aload_n 0, 1, 0, 0, 0, 0, 0),
  (5, .iload_n 1, 1, 0, 0, 0, 0, 0),
  (6, .iload_n 2, 1, 0, 0, 0, 0, 0),
  (7, .invokevirtual 354, 3, 1249, 3, 0, 12, 1764),
  (10, .iconst (-1), 1, 0, 0, 0, (-1), 0),
  (11, .istore 4, 2, 0, 0, 0, 0, 0),
  (13, .aload_n 0, 1, 0, 0, 0, 0, 0),
  (14, .invokevirtual 337, 3, 1233, 1, 0, 12, 1723),
  (17, .aload_n 0, 1, 0, 0, 0, 0, 0),
  (18, .getfield 137, 3, 12, 53, 1, 0, 1384),
  (21, .iload_n 1, 1, 0, 0, 0, 0, 0),
  (22, .iaload, 1, 0, 0, 0, 0, 0),
  (23, .iload 4, 2, 0, 0, 0, 0, 0),
  (25, .if_icmp .gt 6, 3, 31, 0, 0, 0, 0),
  (28, .goto 48, 3, 76, 0, 0, 0, 0),
  (31, .aload_n 0, 1, 0, 0, 0, 0, 0),
  (32, .getfield 137, 3, 12, 53, 1, 0, 1384),
  (35, .iload_n 1, 1, 0, 0, 0, 0, 0),
  (36, .iaload, 1, 0, 0, 0, 0, 0),
  (37, .istore 4, 2, 0, 0, 0, 0, 0),
  (39, .aload_n 0, 1, 0, 0, 0, 0, 0),
  (40, .aload_n 0, 1, 0, 0, 0, 0, 0),
  (41, .getfield 303, 3, 12, 54, 0, 0, 1385),
  (44, .putfield 358, 3, 12, 59, 0, 0, 1390),
  (47, .iconst 0, 1, 0, 0, 0, 0, 0),
  (48, .istore 5, 2, 0, 0, 0, 0, 0),
  (50, .iload 5, 2, 0, 0, 0, 0, 0),
  (52, .iconst 5, 1, 0, 0, 0, 5, 0),
  (53, .if_icmp .ge 23, 3, 76, 0, 0, 0, 0),
  (56, .aload_n 0, 1, 0, 0, 0, 0, 0),
  (57, .getfield 146, 3, 12, 58, 1, 0, 1389),
  (60, .iload 5, 2, 0, 0, 0, 0, 0),
  (62, .aload_n 0, 1, 0, 0, 0, 0, 0),
  (63, .getfield 28, 3, 12, 7, 1, 0, 1338),
  (66, .iload 5, 2, 0, 0, 0, 0, 0),
  (68, .iaload, 1, 0, 0, 0, 0, 0),
  (69, .iastore, 1, 0, 0, 0, 0, 0),
  (70, .iinc 5 1, 3, 0, 0, 0, 0, 0),
  (73, .goto (-23), 3, 50, 0, 0, 0, 0),
  (76, .aload_n 0, 1, 0, 0, 0, 0, 0),
  (77, .iload_n 3, 1, 0, 0, 0, 0, 0),
  (78, .invokevirtual 361, 3, 1250, 2, 1, 12, 1768),
  (81, .ifCond .ne (-68), 3, 13, 0, 0, 0, 0),
  (84, .aload_n 0, 1, 0, 0, 0, 0, 0),
  (85, .invokevirtual 364, 3, 1248, 1, 0, 12, 1772),
  (88, .iload 4, 2, 0, 0, 0, 0, 0),
  (90, .ireturn, 1, 1, 0, 0, 0, 0)]
/-- TollsThatPayModel.tellTolls([II)V -/
def z_c1254 : List z_E := [(0, .iconst 0, 1, 0, 0, 0, 0, 0),
  (1, .istore_n 3, 1, 0, 0, 0, 0, 0),
  (2, .iload_n 3, 1, 0, 0, 0, 0, 0),
  (3, .aload_n 0, 1, 0, 0, 0, 0, 0),
  (4, .getfield 201, 3, 12, 8, 0, 0, 1339),
  (7, .if_icmp .ge 36, 3, 43, 0, 0, 0, 0),
  (10, .iload_n 2, 1, 0, 0, 0, 0, 0),
  (11, .iconst (-1), 1, 0, 0, 0, (-1), 0),
  (12, .if_icmp .eq 18, 3, 30, 0, 0, 0, 0),
  (15, .aload_n 0, 1, 0, 0, 0, 0, 0),
  (16, .getfield 22, 3, 12, 4, 1, 0, 1335),
  (19, .aload_n 0, 1, 0, 0, 0, 0, 0),
  (20, .getfield 25, 3, 12, 6, 1, 0, 1337),
  (23, .iload_n 3, 1, 0, 0, 0, 0, 0),
  (24, .iaload, 1, 0, 0, 0, 0, 0),
  (25, .iaload, 1, 0, 0, 0, 0, 0),
  (26, .iload_n 2, 1, 0, 0, 0, 0, 0),
  (27, .if_icmp .ne 10, 3, 37, 0, 0, 0, 0),
  (30, .aload_n 0, 1, 0, 0, 0, 0, 0),
  (31, .aload_n 1, 1, 0, 0, 0, 0, 0),
  (32, .iload_n 3, 1, 0, 0, 0, 0, 0),
  (33, .iaload, 1, 0, 0, 0, 0, 0),
  (34, .invokevirtual 331, 3, 1204, 2, 0, 12, 1704),
  (37, .iinc 3 1, 3, 0, 0, 0, 0, 0),
  (40, .goto (-38), 3, 2, 0, 0, 0, 0),
  (43, .return_, 1, 0, 0, 0, 0, 0)]
/-- TollsThatPayModel.best(I)I -/
def z_c1255 : List z_E := [(0, .aload_n 0, 1, 0, 0, 0, 0, 0),
  (1, .iconst 0, 1, 0, 0, 0, 0, 0),
  (2, .putfield 185, 3, 12, 26, 0, 0, 1357),
  (5, .aload_n 0, 1, 0, 0, 0, 0, 0),
  (6, .iload_n 1, 1, 0, 0, 0, 0, 0),
  (7, .invokevirtual 367, 3, 1252, 2, 1, 12, 1747),
  (10, .ifCond .ne 5, 3, 15, 0, 0, 0, 0),
  (13, .iconst (-1), 1, 0, 0, 0, (-1), 0),
  (14, .ireturn, 1, 1, 0, 0, 0, 0),
  (15, .aload_n 0, 1, 0, 0, 0, 0, 0),
  (16, .invokevirtual 319, 3, 1229, 1, 0, 12, 1656),
  (19, .aload_n 0, 1, 0, 0, 0, 0, 0),
  (20, .iload_n 1, 1, 0, 0, 0, 0, 0),
  (21, .iconst 0, 1, 0, 0, 0, 0, 0),
  (22, .aload_n 0, 1, 0, 0, 0, 0, 0),
  (23, .getfield 31, 3, 12, 9, 0, 0, 1340),
  (26, .invokevirtual 370, 3, 1253, 4, 1, 12, 1756),
  (29, .istore_n 2, 1, 0, 0, 0, 0, 0),
  (30, .aload_n 0, 1, 0, 0, 0, 0, 0),
  (31, .iconst 0, 1, 0, 0, 0, 0, 0),
  (32, .putfield 188, 3, 12, 25, 0, 0, 1356),
  (35, .aload_n 0, 1, 0, 0, 0, 0, 0),
  (36, .aload_n 0, 1, 0, 0, 0, 0, 0),
  (37, .getfield 146, 3, 12, 58, 1, 0, 1389),
  (40, .iload_n 1, 1, 0, 0, 0, 0, 0),
  (41, .invokevirtual 373, 3, 1254, 3, 0, 12, 1776),
  (44, .iload_n 2, 1, 0, 0, 0, 0, 0),
  (45, .ireturn, 1, 1, 0, 0, 0, 0)]
/-- TollsThatPayModel.set(I)I -/
def z_c1256 : List z_E := [(0, .aload_n 0, 1, 0, 0, 0, 0, 0),
  (1, .iconst 0, 1, 0, 0, 0, 0, 0),
  (2, .putfield 185, 3, 12, 26, 0, 0, 1357),
  (5, .aload_n 0, 1, 0, 0, 0, 0, 0),
  (6, .iload_n 1, 1, 0, 0, 0, 0, 0),
  (7, .invokevirtual 367, 3, 1252, 2, 1, 12, 1747),
  (10, .ifCond .ne 5, 3, 15, 0, 0, 0, 0),
  (13, .iconst (-1), 1, 0, 0, 0, (-1), 0),
  (14, .ireturn, 1, 1, 0, 0, 0, 0),
  (15, .aload_n 0, 1, 0, 0, 0, 0, 0),
  (16, .invokevirtual 319, 3, 1229, 1, 0, 12, 1656),
  (19, .aload_n 0, 1, 0, 0, 0, 0, 0),
  (20, .iload_n 1, 1, 0, 0, 0, 0, 0),
  (21, .iconst 0, 1, 0, 0, 0, 0, 0),
  (22, .aload_n 0, 1, 0, 0, 0, 0, 0),
  (23, .getfield 31, 3, 12, 9, 0, 0, 1340),
  (26, .invokevirtual 370, 3, 1253, 4, 1, 12, 1756),
  (29, .istore_n 2, 1, 0, 0, 0, 0, 0),
  (30, .iconst 0, 1, 0, 0, 0, 0, 0),
  (31, .istore_n 3, 1, 0, 0, 0, 0, 0),
  (32, .iload_n 3, 1, 0, 0, 0, 0, 0),
  (33, .iconst 5, 1, 0, 0, 0, 5, 0),
  (34, .if_icmp .ge 21, 3, 55, 0, 0, 0, 0),
  (37, .aload_n 0, 1, 0, 0, 0, 0, 0),
  (38, .getfield 28, 3, 12, 7, 1, 0, 1338),
  (41, .iload_n 3, 1, 0, 0, 0, 0, 0),
  (42, .aload_n 0, 1, 0, 0, 0, 0, 0),
  (43, .getfield 146, 3, 12, 58, 1, 0, 1389),
  (46, .iload_n 3, 1, 0, 0, 0, 0, 0),
  (47, .iaload, 1, 0, 0, 0, 0, 0),
  (48, .iastore, 1, 0, 0, 0, 0, 0),
  (49, .iinc 3 1, 3, 0, 0, 0, 0, 0),
  (52, .goto (-20), 3, 32, 0, 0, 0, 0),
  (55, .iload_n 2, 1, 0, 0, 0, 0, 0),
  (56, .ireturn, 1, 1, 0, 0, 0, 0)]
/-- TollsThatPayModel.ties(I)I -/
def z_c1257 : List z_E := [(0, .aload_n 0, 1, 0, 0, 0, 0, 0),
  (1, .iconst 0, 1, 0, 0, 0, 0, 0),
  (2, .putfield 185, 3, 12, 26, 0, 0, 1357),
  (5, .aload_n 0, 1, 0, 0, 0, 0, 0),
  (6, .iload_n 1, 1, 0, 0, 0, 0, 0),
  (7, .invokevirtual 367, 3, 1252, 2, 1, 12, 1747),
  (10, .ifCond .ne 5, 3, 15, 0, 0, 0, 0),
  (13, .iconst (-1), 1, 0, 0, 0, (-1), 0),
  (14, .ireturn, 1, 1, 0, 0, 0, 0),
  (15, .aload_n 0, 1, 0, 0, 0, 0, 0),
  (16, .invokevirtual 319, 3, 1229, 1, 0, 12, 1656),
  (19, .aload_n 0, 1, 0, 0, 0, 0, 0),
  (20, .getfield 297, 3, 12, 10, 0, 0, 1341),
  (23, .istore_n 2, 1, 0, 0, 0, 0, 0),
  (24, .aload_n 0, 1, 0, 0, 0, 0, 0),
  (25, .iconst 1, 1, 0, 0, 0, 1, 0),
  (26, .putfield 297, 3, 12, 10, 0, 0, 1341),
  (29, .aload_n 0, 1, 0, 0, 0, 0, 0),
  (30, .iload_n 1, 1, 0, 0, 0, 0, 0),
  (31, .iconst 0, 1, 0, 0, 0, 0, 0),
  (32, .aload_n 0, 1, 0, 0, 0, 0, 0),
  (33, .getfield 31, 3, 12, 9, 0, 0, 1340),
  (36, .invokevirtual 370, 3, 1253, 4, 1, 12, 1756),
  (39, .istore_n 3, 1, 0, 0, 0, 0, 0),
  (40, .aload_n 0, 1, 0, 0, 0, 0, 0),
  (41, .iconst 0, 1, 0, 0, 0, 0, 0),
  (42, .putfield 297, 3, 12, 10, 0, 0, 1341),
  (45, .iload_n 3, 1, 0, 0, 0, 0, 0),
  (46, .aload_n 0, 1, 0, 0, 0, 0, 0),
  (47, .iload_n 1, 1, 0, 0, 0, 0, 0),
  (48, .iconst 0, 1, 0, 0, 0, 0, 0),
  (49, .aload_n 0, 1, 0, 0, 0, 0, 0),
  (50, .getfield 31, 3, 12, 9, 0, 0, 1340),
  (53, .invokevirtual 370, 3, 1253, 4, 1, 12, 1756),
  (56, .isub, 1, 0, 0, 0, 0, 0),
  (57, .istore_n 3, 1, 0, 0, 0, 0, 0),
  (58, .aload_n 0, 1, 0, 0, 0, 0, 0),
  (59, .iload_n 2, 1, 0, 0, 0, 0, 0),
  (60, .putfield 297, 3, 12, 10, 0, 0, 1341),
  (63, .iload_n 3, 1, 0, 0, 0, 0, 0),
  (64, .ireturn, 1, 1, 0, 0, 0, 0)]
/-- TollsThatPayModel.bound(I)I -/
def z_c1258 : List z_E := [(0, .aload_n 0, 1, 0, 0, 0, 0, 0),
  (1, .iconst 0, 1, 0, 0, 0, 0, 0),
  (2, .putfield 185, 3, 12, 26, 0, 0, 1357),
  (5, .aload_n 0, 1, 0, 0, 0, 0, 0),
  (6, .iload_n 1, 1, 0, 0, 0, 0, 0),
  (7, .invokevirtual 367, 3, 1252, 2, 1, 12, 1747),
  (10, .ifCond .ne 5, 3, 15, 0, 0, 0, 0),
  (13, .iconst (-1), 1, 0, 0, 0, (-1), 0),
  (14, .ireturn, 1, 1, 0, 0, 0, 0),
  (15, .aload_n 0, 1, 0, 0, 0, 0, 0),
  (16, .invokevirtual 319, 3, 1229, 1, 0, 12, 1656),
  (19, .iconst 0, 1, 0, 0, 0, 0, 0),
  (20, .istore_n 2, 1, 0, 0, 0, 0, 0),
  (21, .iload_n 2, 1, 0, 0, 0, 0, 0),
  (22, .aload_n 0, 1, 0, 0, 0, 0, 0),
  (23, .getfield 271, 3, 12, 48, 0, 0, 1379),
  (26, .if_icmp .ge 16, 3, 42, 0, 0, 0, 0),
  (29, .aload_n 0, 1, 0, 0, 0, 0, 0),
  (30, .getfield 149, 3, 12, 60, 1, 0, 1391),
  (33, .iload_n 2, 1, 0, 0, 0, 0, 0),
  (34, .iconst 0, 1, 0, 0, 0, 0, 0),
  (35, .iastore, 1, 0, 0, 0, 0, 0),
  (36, .iinc 2 1, 3, 0, 0, 0, 0, 0),
  (39, .goto (-18), 3, 21, 0, 0, 0, 0),
  (42, .aload_n 0, 1, 0, 0, 0, 0, 0),
  (43, .invokevirtual 351, 3, 1247, 1, 0, 12, 1760),
  (46, .aload_n 0, 1, 0, 0, 0, 0, 0),
  (47, .iload_n 1, 1, 0, 0, 0, 0, 0),
  (48, .iconst 0, 1, 0, 0, 0, 0, 0),
  (49, .invokevirtual 354, 3, 1249, 3, 0, 12, 1764),
  (52, .aload_n 0, 1, 0, 0, 0, 0, 0),
  (53, .invokevirtual 300, 3, 1230, 1, 0, 12, 1680),
  (56, .iconst 0, 1, 0, 0, 0, 0, 0),
  (57, .istore_n 2, 1, 0, 0, 0, 0, 0),
  (58, .iload_n 2, 1, 0, 0, 0, 0, 0),
  (59, .aload_n 0, 1, 0, 0, 0, 0, 0),
  (60, .getfield 271, 3, 12, 48, 0, 0, 1379),
  (63, .if_icmp .ge 48, 3, 111, 0, 0, 0, 0),
  (66, .aload_n 0, 1, 0, 0, 0, 0, 0),
  (67, .iload_n 2, 1, 0, 0, 0, 0, 0),
  (68, .invokevirtual 306, 3, 1231, 2, 1, 12, 1696),
  (71, .istore_n 3, 1, 0, 0, 0, 0, 0),
  (72, .iload_n 3, 1, 0, 0, 0, 0, 0),
  (73, .iconst (-1), 1, 0, 0, 0, (-1), 0),
  (74, .if_icmp .eq 31, 3, 105, 0, 0, 0, 0),
  (77, .aload_n 0, 1, 0, 0, 0, 0, 0),
  (78, .getfield 149, 3, 12, 60, 1, 0, 1391),
  (81, .iload_n 2, 1, 0, 0, 0, 0, 0),
  (82, .aload_n 0, 1, 0, 0, 0, 0, 0),
  (83, .getfield 149, 3, 12, 60, 1, 0, 1391),
  (86, .iload_n 2, 1, 0, 0, 0, 0, 0),
  (87, .iaload, 1, 0, 0, 0, 0, 0),
  (88, .aload_n 0, 1, 0, 0, 0, 0, 0),
  (89, .getfield 131, 3, 12, 51, 1, 0, 1382),
  (92, .iload_n 3, 1, 0, 0, 0, 0, 0),
  (93, .aload_n 0, 1, 0, 0, 0, 0, 0),
  (94, .getfield 134, 3, 12, 52, 1, 0, 1383),
  (97, .iload_n 1, 1, 0, 0, 0, 0, 0),
  (98, .iaload, 1, 0, 0, 0, 0, 0),
  (99, .iand, 1, 0, 0, 0, 0, 0),
  (100, .iaload, 1, 0, 0, 0, 0, 0),
  (101, .invokestatic 377, 3, 9995, 0, 0, 0, 1792),
  (104, .iastore, 1, 0, 0, 0, 0, 0),
  (105, .iinc 2 1, 3, 0, 0, 0, 0, 0),
  (108, .goto (-50), 3, 58, 0, 0, 0, 0),
  (111, .aload_n 0, 1, 0, 0, 0, 0, 0),
  (112, .aload_n 0, 1, 0, 0, 0, 0, 0),
  (113, .getfield 31, 3, 12, 9, 0, 0, 1340),
  (116, .invokevirtual 361, 3, 1250, 2, 1, 12, 1768),
  (119, .ifCond .ne (-67), 3, 52, 0, 0, 0, 0),
  (122, .aload_n 0, 1, 0, 0, 0, 0, 0),
  (123, .invokevirtual 364, 3, 1248, 1, 0, 12, 1772),
  (126, .iconst 0, 1, 0, 0, 0, 0, 0),
  (127, .istore_n 2, 1, 0, 0, 0, 0, 0),
  (128, .iconst 0, 1, 0, 0, 0, 0, 0),
  (129, .istore_n 3, 1, 0, 0, 0, 0, 0),
  (130, .iload_n 3, 1, 0, 0, 0, 0, 0),
  (131, .aload_n 0, 1, 0, 0, 0, 0, 0),
  (132, .getfield 271, 3, 12, 48, 0, 0, 1379),
  (135, .if_icmp .ge 30, 3, 165, 0, 0, 0, 0),
  (138, .iload_n 2, 1, 0, 0, 0, 0, 0),
  (139, .aload_n 0, 1, 0, 0, 0, 0, 0),
  (140, .getfield 41, 3, 12, 13, 1, 0, 1344),
  (143, .aload_n 0, 1, 0, 0, 0, 0, 0),
  (144, .getfield 119, 3, 12, 46, 1, 0, 1377),
  (147, .iload_n 3, 1, 0, 0, 0, 0, 0),
  (148, .iaload, 1, 0, 0, 0, 0, 0),
  (149, .iaload, 1, 0, 0, 0, 0, 0),
  (150, .aload_n 0, 1, 0, 0, 0, 0, 0),
  (151, .getfield 149, 3, 12, 60, 1, 0, 1391),
  (154, .iload_n 3, 1, 0, 0, 0, 0, 0),
  (155, .iaload, 1, 0, 0, 0, 0, 0),
  (156, .imul, 1, 0, 0, 0, 0, 0),
  (157, .iadd, 1, 0, 0, 0, 0, 0),
  (158, .istore_n 2, 1, 0, 0, 0, 0, 0),
  (159, .iinc 3 1, 3, 0, 0, 0, 0, 0),
  (162, .goto (-32), 3, 130, 0, 0, 0, 0),
  (165, .iload_n 2, 1, 0, 0, 0, 0, 0),
  (166, .ireturn, 1, 1, 0, 0, 0, 0)]
/-- TollsThatPayModel.given(I)I -/
def z_c1259 : List z_E := [(0, .aload_n 0, 1, 0, 0, 0, 0, 0),
  (1, .iconst 0, 1, 0, 0, 0, 0, 0),
  (2, .putfield 185, 3, 12, 26, 0, 0, 1357),
  (5, .aload_n 0, 1, 0, 0, 0, 0, 0),
  (6, .iload_n 1, 1, 0, 0, 0, 0, 0),
  (7, .invokevirtual 367, 3, 1252, 2, 1, 12, 1747),
  (10, .ifCond .ne 5, 3, 15, 0, 0, 0, 0),
  (13, .iconst (-1), 1, 0, 0, 0, (-1), 0),
  (14, .ireturn, 1, 1, 0, 0, 0, 0),
  (15, .aload_n 0, 1, 0, 0, 0, 0, 0),
  (16, .invokevirtual 319, 3, 1229, 1, 0, 12, 1656),
  (19, .aload_n 0, 1, 0, 0, 0, 0, 0),
  (20, .invokevirtual 300, 3, 1230, 1, 0, 12, 1680),
  (23, .iconst 0, 1, 0, 0, 0, 0, 0),
  (24, .istore_n 2, 1, 0, 0, 0, 0, 0),
  (25, .iload_n 2, 1, 0, 0, 0, 0, 0),
  (26, .aload_n 0, 1, 0, 0, 0, 0, 0),
  (27, .getfield 271, 3, 12, 48, 0, 0, 1379),
  (30, .if_icmp .ge 20, 3, 50, 0, 0, 0, 0),
  (33, .aload_n 0, 1, 0, 0, 0, 0, 0),
  (34, .getfield 152, 3, 12, 61, 1, 0, 1392),
  (37, .iload_n 2, 1, 0, 0, 0, 0, 0),
  (38, .aload_n 0, 1, 0, 0, 0, 0, 0),
  (39, .iload_n 2, 1, 0, 0, 0, 0, 0),
  (40, .invokevirtual 328, 3, 1237, 2, 1, 12, 1692),
  (43, .iastore, 1, 0, 0, 0, 0, 0),
  (44, .iinc 2 1, 3, 0, 0, 0, 0, 0),
  (47, .goto (-22), 3, 25, 0, 0, 0, 0),
  (50, .iconst (-1), 1, 0, 0, 0, (-1), 0),
  (51, .istore_n 2, 1, 0, 0, 0, 0, 0),
  (52, .aload_n 0, 1, 0, 0, 0, 0, 0),
  (53, .invokevirtual 351, 3, 1247, 1, 0, 12, 1760),
  (56, .aload_n 0, 1, 0, 0, 0, 0, 0),
  (57, .iload_n 1, 1, 0, 0, 0, 0, 0),
  (58, .iconst 0, 1, 0, 0, 0, 0, 0),
  (59, .invokevirtual 354, 3, 1249, 3, 0, 12, 1764),
  (62, .aload_n 0, 1, 0, 0, 0, 0, 0),
  (63, .invokevirtual 337, 3, 1233, 1, 0, 12, 1723),
  (66, .aload_n 0, 1, 0, 0, 0, 0, 0),
  (67, .getfield 137, 3, 12, 53, 1, 0, 1384),
  (70, .iload_n 1, 1, 0, 0, 0, 0, 0),
  (71, .iaload, 1, 0, 0, 0, 0, 0),
  (72, .iload_n 2, 1, 0, 0, 0, 0, 0),
  (73, .if_icmp .le 7, 3, 80, 0, 0, 0, 0),
  (76, .iconst 1, 1, 0, 0, 0, 1, 0),
  (77, .goto 4, 3, 81, 0, 0, 0, 0),
  (80, .iconst 0, 1, 0, 0, 0, 0, 0),
  (81, .istore_n 3, 1, 0, 0, 0, 0, 0),
  (82, .iconst 0, 1, 0, 0, 0, 0, 0),
  (83, .istore 4, 2, 0, 0, 0, 0, 0),
  (85, .iload 4, 2, 0, 0, 0, 0, 0),
  (87, .aload_n 0, 1, 0, 0, 0, 0, 0),
  (88, .getfield 271, 3, 12, 48, 0, 0, 1379),
  (91, .if_icmp .ge 35, 3, 126, 0, 0, 0, 0),
  (94, .iload_n 3, 1, 0, 0, 0, 0, 0),
  (95, .ifCond .eq 31, 3, 126, 0, 0, 0, 0),
  (98, .aload_n 0, 1, 0, 0, 0, 0, 0),
  (99, .iload 4, 2, 0, 0, 0, 0, 0),
  (101, .invokevirtual 328, 3, 1237, 2, 1, 12, 1692),
  (104, .aload_n 0, 1, 0, 0, 0, 0, 0),
  (105, .getfield 152, 3, 12, 61, 1, 0, 1392),
  (108, .iload 4, 2, 0, 0, 0, 0, 0),
  (110, .iaload, 1, 0, 0, 0, 0, 0),
  (111, .if_icmp .ne 7, 3, 118, 0, 0, 0, 0),
  (114, .iconst 1, 1, 0, 0, 0, 1, 0),
  (115, .goto 4, 3, 119, 0, 0, 0, 0),
  (118, .iconst 0, 1, 0, 0, 0, 0, 0),
  (119, .istore_n 3, 1, 0, 0, 0, 0, 0),
  (120, .iinc 4 1, 3, 0, 0, 0, 0, 0),
  (123, .goto (-38), 3, 85, 0, 0, 0, 0),
  (126, .iload_n 3, 1, 0, 0, 0, 0, 0),
  (127, .ifCond .ne 6, 3, 133, 0, 0, 0, 0),
  (130, .goto 39, 3, 169, 0, 0, 0, 0),
  (133, .aload_n 0, 1, 0, 0, 0, 0, 0),
  (134, .getfield 137, 3, 12, 53, 1, 0, 1384),
  (137, .iload_n 1, 1, 0, 0, 0, 0, 0),
  (138, .iaload, 1, 0, 0, 0, 0, 0),
  (139, .istore_n 2, 1, 0, 0, 0, 0, 0),
  (140, .iconst 0, 1, 0, 0, 0, 0, 0),
  (141, .istore 4, 2, 0, 0, 0, 0, 0),
  (143, .iload 4, 2, 0, 0, 0, 0, 0),
  (145, .iconst 5, 1, 0, 0, 0, 5, 0),
  (146, .if_icmp .ge 23, 3, 169, 0, 0, 0, 0),
  (149, .aload_n 0, 1, 0, 0, 0, 0, 0),
  (150, .getfield 146, 3, 12, 58, 1, 0, 1389),
  (153, .iload 4, 2, 0, 0, 0, 0, 0),
  (155, .aload_n 0, 1, 0, 0, 0, 0, 0),
  (156, .getfield 28, 3, 12, 7, 1, 0, 1338),
  (159, .iload 4, 2, 0, 0, 0, 0, 0),
  (161, .iaload, 1, 0, 0, 0, 0, 0),
  (162, .iastore, 1, 0, 0, 0, 0, 0),
  (163, .iinc 4 1, 3, 0, 0, 0, 0, 0),
  (166, .goto (-23), 3, 143, 0, 0, 0, 0),
  (169, .aload_n 0, 1, 0, 0, 0, 0, 0),
  (170, .aload_n 0, 1, 0, 0, 0, 0, 0),
  (171, .getfield 31, 3, 12, 9, 0, 0, 1340),
  (174, .invokevirtual 361, 3, 1250, 2, 1, 12, 1768),
  (177, .ifCond .ne (-115), 3, 62, 0, 0, 0, 0),
  (180, .aload_n 0, 1, 0, 0, 0, 0, 0),
  (181, .invokevirtual 364, 3, 1248, 1, 0, 12, 1772),
  (184, .iload_n 2, 1, 0, 0, 0, 0, 0),
  (185, .iconst (-1), 1, 0, 0, 0, (-1), 0),
  (186, .if_icmp .ne 6, 3, 192, 0, 0, 0, 0),
  (189, .bipush (-2), 2, 0, 0, 0, (-2), 0),
  (191, .ireturn, 1, 1, 0, 0, 0, 0),
  (192, .aload_n 0, 1, 0, 0, 0, 0, 0),
  (193, .iconst 0, 1, 0, 0, 0, 0, 0),
  (194, .putfield 188, 3, 12, 25, 0, 0, 1356),
  (197, .aload_n 0, 1, 0, 0, 0, 0, 0),
  (198, .aload_n 0, 1, 0, 0, 0, 0, 0),
  (199, .getfield 146, 3, 12, 58, 1, 0, 1389),
  (202, .iload_n 1, 1, 0, 0, 0, 0, 0),
  (203, .invokevirtual 373, 3, 1254, 3, 0, 12, 1776),
  (206, .iload_n 2, 1, 0, 0, 0, 0, 0),
  (207, .ireturn, 1, 1, 0, 0, 0, 0)]
/-- TollsThatPayModel.above(II)I -/
def z_c1260 : List z_E := [(0, .aload_n 0, 1, 0, 0, 0, 0, 0),
  (1, .iconst 0, 1, 0, 0, 0, 0, 0),
  (2, .putfield 185, 3, 12, 26, 0, 0, 1357),
  (5, .aload_n 0, 1, 0, 0, 0, 0, 0),
  (6, .iload_n 1, 1, 0, 0, 0, 0, 0),
  (7, .invokevirtual 367, 3, 1252, 2, 1, 12, 1747),
  (10, .ifCond .ne 5, 3, 15, 0, 0, 0, 0),
  (13, .iconst (-1), 1, 0, 0, 0, (-1), 0),
  (14, .ireturn, 1, 1, 0, 0, 0, 0),
  (15, .aload_n 0, 1, 0, 0, 0, 0, 0),
  (16, .invokevirtual 319, 3, 1229, 1, 0, 12, 1656),
  (19, .iconst 0, 1, 0, 0, 0, 0, 0),
  (20, .istore_n 3, 1, 0, 0, 0, 0, 0),
  (21, .aload_n 0, 1, 0, 0, 0, 0, 0),
  (22, .invokevirtual 351, 3, 1247, 1, 0, 12, 1760),
  (25, .aload_n 0, 1, 0, 0, 0, 0, 0),
  (26, .iload_n 1, 1, 0, 0, 0, 0, 0),
  (27, .iconst 0, 1, 0, 0, 0, 0, 0),
  (28, .invokevirtual 354, 3, 1249, 3, 0, 12, 1764),
  (31, .aload_n 0, 1, 0, 0, 0, 0, 0),
  (32, .invokevirtual 337, 3, 1233, 1, 0, 12, 1723),
  (35, .iload_n 3, 1, 0, 0, 0, 0, 0),
  (36, .aload_n 0, 1, 0, 0, 0, 0, 0),
  (37, .getfield 137, 3, 12, 53, 1, 0, 1384),
  (40, .iload_n 1, 1, 0, 0, 0, 0, 0),
  (41, .iaload, 1, 0, 0, 0, 0, 0),
  (42, .iload_n 2, 1, 0, 0, 0, 0, 0),
  (43, .if_icmp .lt 7, 3, 50, 0, 0, 0, 0),
  (46, .iconst 1, 1, 0, 0, 0, 1, 0),
  (47, .goto 4, 3, 51, 0, 0, 0, 0),
  (50, .iconst 0, 1, 0, 0, 0, 0, 0),
  (51, .iadd, 1, 0, 0, 0, 0, 0),
  (52, .istore_n 3, 1, 0, 0, 0, 0, 0),
  (53, .aload_n 0, 1, 0, 0, 0, 0, 0),
  (54, .aload_n 0, 1, 0, 0, 0, 0, 0),
  (55, .getfield 31, 3, 12, 9, 0, 0, 1340),
  (58, .invokevirtual 361, 3, 1250, 2, 1, 12, 1768),
  (61, .ifCond .ne (-30), 3, 31, 0, 0, 0, 0),
  (64, .aload_n 0, 1, 0, 0, 0, 0, 0),
  (65, .invokevirtual 364, 3, 1248, 1, 0, 12, 1772),
  (68, .iload_n 3, 1, 0, 0, 0, 0, 0),
  (69, .ireturn, 1, 1, 0, 0, 0, 0)]
/-- TollsThatPayModel.goLine(I)V -/
def z_c1261 : List z_E := [(0, .aload_n 0, 1, 0, 0, 0, 0, 0),
  (1, .getfield 28, 3, 12, 7, 1, 0, 1338),
  (4, .iload_n 1, 1, 0, 0, 0, 0, 0),
  (5, .iaload, 1, 0, 0, 0, 0, 0),
  (6, .istore_n 2, 1, 0, 0, 0, 0, 0),
  (7, .iconst 0, 1, 0, 0, 0, 0, 0),
  (8, .istore_n 3, 1, 0, 0, 0, 0, 0),
  (9, .iload_n 3, 1, 0, 0, 0, 0, 0),
  (10, .aload_n 0, 1, 0, 0, 0, 0, 0),
  (11, .getfield 31, 3, 12, 9, 0, 0, 1340),
  (14, .if_icmp .gt 42, 3, 56, 0, 0, 0, 0),
  (17, .aload_n 0, 1, 0, 0, 0, 0, 0),
  (18, .getfield 28, 3, 12, 7, 1, 0, 1338),
  (21, .iload_n 1, 1, 0, 0, 0, 0, 0),
  (22, .iload_n 3, 1, 0, 0, 0, 0, 0),
  (23, .iastore, 1, 0, 0, 0, 0, 0),
  (24, .aload_n 0, 1, 0, 0, 0, 0, 0),
  (25, .invokevirtual 337, 3, 1233, 1, 0, 12, 1723),
  (28, .aload_n 0, 1, 0, 0, 0, 0, 0),
  (29, .getfield 155, 3, 12, 62, 1, 0, 1393),
  (32, .iload_n 3, 1, 0, 0, 0, 0, 0),
  (33, .aload_n 0, 1, 0, 0, 0, 0, 0),
  (34, .getfield 137, 3, 12, 53, 1, 0, 1384),
  (37, .aload_n 0, 1, 0, 0, 0, 0, 0),
  (38, .getfield 22, 3, 12, 4, 1, 0, 1335),
  (41, .aload_n 0, 1, 0, 0, 0, 0, 0),
  (42, .getfield 25, 3, 12, 6, 1, 0, 1337),
  (45, .iload_n 1, 1, 0, 0, 0, 0, 0),
  (46, .iaload, 1, 0, 0, 0, 0, 0),
  (47, .iaload, 1, 0, 0, 0, 0, 0),
  (48, .iaload, 1, 0, 0, 0, 0, 0),
  (49, .iastore, 1, 0, 0, 0, 0, 0),
  (50, .iinc 3 1, 3, 0, 0, 0, 0, 0),
  (53, .goto (-44), 3, 9, 0, 0, 0, 0),
  (56, .aload_n 0, 1, 0, 0, 0, 0, 0),
  (57, .getfield 28, 3, 12, 7, 1, 0, 1338),
  (60, .iload_n 1, 1, 0, 0, 0, 0, 0),
  (61, .iload_n 2, 1, 0, 0, 0, 0, 0),
  (62, .iastore, 1, 0, 0, 0, 0, 0),
  (63, .return_, 1, 0, 0, 0, 0, 0)]
/-- TollsThatPayModel.placeOf(I)I -/
def z_c1262 : List z_E := [(0, .aload_n 0, 1, 0, 0, 0, 0, 0),
  (1, .iload_n 1, 1, 0, 0, 0, 0, 0),
  (2, .invokevirtual 309, 3, 1205, 2, 1, 12, 1632),
  (5, .ifCond .eq 11, 3, 16, 0, 0, 0, 0),
  (8, .aload_n 0, 1, 0, 0, 0, 0, 0),
  (9, .iload_n 1, 1, 0, 0, 0, 0, 0),
  (10, .invokevirtual 313, 3, 1208, 2, 1, 12, 1636),
  (13, .goto 4, 3, 17, 0, 0, 0, 0),
  (16, .iconst (-1), 1, 0, 0, 0, (-1), 0),
  (17, .ireturn, 1, 1, 0, 0, 0, 0)]
/-- TollsThatPayModel.line(I)I -/
def z_c1263 : List z_E := [(0, .aload_n 0, 1, 0, 0, 0, 0, 0),
  (1, .iconst 0, 1, 0, 0, 0, 0, 0),
  (2, .putfield 185, 3, 12, 26, 0, 0, 1357),
  (5, .aload_n 0, 1, 0, 0, 0, 0, 0),
  (6, .iload_n 1, 1, 0, 0, 0, 0, 0),
  (7, .invokevirtual 380, 3, 1262, 2, 1, 12, 1805),
  (10, .istore_n 2, 1, 0, 0, 0, 0, 0),
  (11, .iload_n 2, 1, 0, 0, 0, 0, 0),
  (12, .iconst (-1), 1, 0, 0, 0, (-1), 0),
  (13, .if_icmp .ne 5, 3, 18, 0, 0, 0, 0),
  (16, .iconst (-1), 1, 0, 0, 0, (-1), 0),
  (17, .ireturn, 1, 1, 0, 0, 0, 0),
  (18, .aload_n 0, 1, 0, 0, 0, 0, 0),
  (19, .invokevirtual 319, 3, 1229, 1, 0, 12, 1656),
  (22, .aload_n 0, 1, 0, 0, 0, 0, 0),
  (23, .iload_n 2, 1, 0, 0, 0, 0, 0),
  (24, .invokevirtual 383, 3, 1261, 2, 0, 12, 1809),
  (27, .iconst 0, 1, 0, 0, 0, 0, 0),
  (28, .istore_n 3, 1, 0, 0, 0, 0, 0),
  (29, .aload_n 0, 1, 0, 0, 0, 0, 0),
  (30, .iconst 0, 1, 0, 0, 0, 0, 0),
  (31, .putfield 188, 3, 12, 25, 0, 0, 1356),
  (34, .iconst 0, 1, 0, 0, 0, 0, 0),
  (35, .istore 4, 2, 0, 0, 0, 0, 0),
  (37, .iload 4, 2, 0, 0, 0, 0, 0),
  (39, .aload_n 0, 1, 0, 0, 0, 0, 0),
  (40, .getfield 31, 3, 12, 9, 0, 0, 1340),
  (43, .if_icmp .gt 32, 3, 75, 0, 0, 0, 0),
  (46, .aload_n 0, 1, 0, 0, 0, 0, 0),
  (47, .aload_n 0, 1, 0, 0, 0, 0, 0),
  (48, .getfield 155, 3, 12, 62, 1, 0, 1393),
  (51, .iload 4, 2, 0, 0, 0, 0, 0),
  (53, .iaload, 1, 0, 0, 0, 0, 0),
  (54, .invokevirtual 331, 3, 1204, 2, 0, 12, 1704),
  (57, .iload_n 3, 1, 0, 0, 0, 0, 0),
  (58, .aload_n 0, 1, 0, 0, 0, 0, 0),
  (59, .getfield 155, 3, 12, 62, 1, 0, 1393),
  (62, .iload 4, 2, 0, 0, 0, 0, 0),
  (64, .iaload, 1, 0, 0, 0, 0, 0),
  (65, .invokestatic 377, 3, 9995, 0, 0, 0, 1792),
  (68, .istore_n 3, 1, 0, 0, 0, 0, 0),
  (69, .iinc 4 1, 3, 0, 0, 0, 0, 0),
  (72, .goto (-35), 3, 37, 0, 0, 0, 0),
  (75, .iload_n 3, 1, 0, 0, 0, 0, 0),
  (76, .ireturn, 1, 1, 0, 0, 0, 0)]
/-- TollsThatPayModel.bends(I)I -/
def z_c1264 : List z_E := [(0, .aload_n 0, 1, 0, 0, 0, 0, 0),
  (1, .iconst 0, 1, 0, 0, 0, 0, 0),
  (2, .putfield 185, 3, 12, 26, 0, 0, 1357),
  (5, .aload_n 0, 1, 0, 0, 0, 0, 0),
  (6, .iload_n 1, 1, 0, 0, 0, 0, 0),
  (7, .invokevirtual 380, 3, 1262, 2, 1, 12, 1805),
  (10, .istore_n 2, 1, 0, 0, 0, 0, 0),
  (11, .iload_n 2, 1, 0, 0, 0, 0, 0),
  (12, .iconst (-1), 1, 0, 0, 0, (-1), 0),
  (13, .if_icmp .ne 5, 3, 18, 0, 0, 0, 0),
  (16, .iconst (-1), 1, 0, 0, 0, (-1), 0),
  (17, .ireturn, 1, 1, 0, 0, 0, 0),
  (18, .aload_n 0, 1, 0, 0, 0, 0, 0),
  (19, .invokevirtual 319, 3, 1229, 1, 0, 12, 1656),
  (22, .aload_n 0, 1, 0, 0, 0, 0, 0),
  (23, .iload_n 2, 1, 0, 0, 0, 0, 0),
  (24, .invokevirtual 383, 3, 1261, 2, 0, 12, 1809),
  (27, .aload_n 0, 1, 0, 0, 0, 0, 0),
  (28, .iconst 0, 1, 0, 0, 0, 0, 0),
  (29, .putfield 188, 3, 12, 25, 0, 0, 1356),
  (32, .iconst 1, 1, 0, 0, 0, 1, 0),
  (33, .istore_n 3, 1, 0, 0, 0, 0, 0),
  (34, .iload_n 3, 1, 0, 0, 0, 0, 0),
  (35, .aload_n 0, 1, 0, 0, 0, 0, 0),
  (36, .getfield 31, 3, 12, 9, 0, 0, 1340),
  (39, .if_icmp .ge 47, 3, 86, 0, 0, 0, 0),
  (42, .aload_n 0, 1, 0, 0, 0, 0, 0),
  (43, .getfield 155, 3, 12, 62, 1, 0, 1393),
  (46, .iload_n 3, 1, 0, 0, 0, 0, 0),
  (47, .iconst 1, 1, 0, 0, 0, 1, 0),
  (48, .iadd, 1, 0, 0, 0, 0, 0),
  (49, .iaload, 1, 0, 0, 0, 0, 0),
  (50, .aload_n 0, 1, 0, 0, 0, 0, 0),
  (51, .getfield 155, 3, 12, 62, 1, 0, 1393),
  (54, .iload_n 3, 1, 0, 0, 0, 0, 0),
  (55, .iaload, 1, 0, 0, 0, 0, 0),
  (56, .isub, 1, 0, 0, 0, 0, 0),
  (57, .aload_n 0, 1, 0, 0, 0, 0, 0),
  (58, .getfield 155, 3, 12, 62, 1, 0, 1393),
  (61, .iload_n 3, 1, 0, 0, 0, 0, 0),
  (62, .iaload, 1, 0, 0, 0, 0, 0),
  (63, .aload_n 0, 1, 0, 0, 0, 0, 0),
  (64, .getfield 155, 3, 12, 62, 1, 0, 1393),
  (67, .iload_n 3, 1, 0, 0, 0, 0, 0),
  (68, .iconst 1, 1, 0, 0, 0, 1, 0),
  (69, .isub, 1, 0, 0, 0, 0, 0),
  (70, .iaload, 1, 0, 0, 0, 0, 0),
  (71, .isub, 1, 0, 0, 0, 0, 0),
  (72, .if_icmp .eq 8, 3, 80, 0, 0, 0, 0),
  (75, .aload_n 0, 1, 0, 0, 0, 0, 0),
  (76, .iload_n 3, 1, 0, 0, 0, 0, 0),
  (77, .invokevirtual 331, 3, 1204, 2, 0, 12, 1704),
  (80, .iinc 3 1, 3, 0, 0, 0, 0, 0),
  (83, .goto (-49), 3, 34, 0, 0, 0, 0),
  (86, .aload_n 0, 1, 0, 0, 0, 0, 0),
  (87, .getfield 188, 3, 12, 25, 0, 0, 1356),
  (90, .ireturn, 1, 1, 0, 0, 0, 0)]
/-- TollsThatPayModel.climbOf(I)I -/
def z_c1265 : List z_E := [(0, .aload_n 0, 1, 0, 0, 0, 0, 0),
  (1, .iconst 0, 1, 0, 0, 0, 0, 0),
  (2, .putfield 386, 3, 12, 63, 0, 0, 1394),
  (5, .iconst 1, 1, 0, 0, 0, 1, 0),
  (6, .istore_n 2, 1, 0, 0, 0, 0, 0),
  (7, .iload_n 2, 1, 0, 0, 0, 0, 0),
  (8, .ifCond .eq 148, 3, 156, 0, 0, 0, 0),
  (11, .iconst 0, 1, 0, 0, 0, 0, 0),
  (12, .istore_n 2, 1, 0, 0, 0, 0, 0),
  (13, .iconst 0, 1, 0, 0, 0, 0, 0),
  (14, .istore_n 3, 1, 0, 0, 0, 0, 0),
  (15, .iload_n 3, 1, 0, 0, 0, 0, 0),
  (16, .aload_n 0, 1, 0, 0, 0, 0, 0),
  (17, .getfield 201, 3, 12, 8, 0, 0, 1339),
  (20, .if_icmp .ge 133, 3, 153, 0, 0, 0, 0),
  (23, .aload_n 0, 1, 0, 0, 0, 0, 0),
  (24, .getfield 22, 3, 12, 4, 1, 0, 1335),
  (27, .aload_n 0, 1, 0, 0, 0, 0, 0),
  (28, .getfield 25, 3, 12, 6, 1, 0, 1337),
  (31, .iload_n 3, 1, 0, 0, 0, 0, 0),
  (32, .iaload, 1, 0, 0, 0, 0, 0),
  (33, .iaload, 1, 0, 0, 0, 0, 0),
  (34, .iload_n 1, 1, 0, 0, 0, 0, 0),
  (35, .if_icmp .eq 6, 3, 41, 0, 0, 0, 0),
  (38, .goto 109, 3, 147, 0, 0, 0, 0),
  (41, .aload_n 0, 1, 0, 0, 0, 0, 0),
  (42, .iload_n 3, 1, 0, 0, 0, 0, 0),
  (43, .invokevirtual 383, 3, 1261, 2, 0, 12, 1809),
  (46, .aload_n 0, 1, 0, 0, 0, 0, 0),
  (47, .getfield 28, 3, 12, 7, 1, 0, 1338),
  (50, .iload_n 3, 1, 0, 0, 0, 0, 0),
  (51, .iaload, 1, 0, 0, 0, 0, 0),
  (52, .istore 4, 2, 0, 0, 0, 0, 0),
  (54, .aload_n 0, 1, 0, 0, 0, 0, 0),
  (55, .getfield 31, 3, 12, 9, 0, 0, 1340),
  (58, .istore 5, 2, 0, 0, 0, 0, 0),
  (60, .iload 5, 2, 0, 0, 0, 0, 0),
  (62, .ifCond .lt 51, 3, 113, 0, 0, 0, 0),
  (65, .aload_n 0, 1, 0, 0, 0, 0, 0),
  (66, .getfield 155, 3, 12, 62, 1, 0, 1393),
  (69, .iload 5, 2, 0, 0, 0, 0, 0),
  (71, .iaload, 1, 0, 0, 0, 0, 0),
  (72, .aload_n 0, 1, 0, 0, 0, 0, 0),
  (73, .getfield 155, 3, 12, 62, 1, 0, 1393),
  (76, .aload_n 0, 1, 0, 0, 0, 0, 0),
  (77, .getfield 28, 3, 12, 7, 1, 0, 1338),
  (80, .iload_n 3, 1, 0, 0, 0, 0, 0),
  (81, .iaload, 1, 0, 0, 0, 0, 0),
  (82, .iaload, 1, 0, 0, 0, 0, 0),
  (83, .if_icmp .le 24, 3, 107, 0, 0, 0, 0),
  (86, .aload_n 0, 1, 0, 0, 0, 0, 0),
  (87, .getfield 155, 3, 12, 62, 1, 0, 1393),
  (90, .iload 5, 2, 0, 0, 0, 0, 0),
  (92, .iaload, 1, 0, 0, 0, 0, 0),
  (93, .aload_n 0, 1, 0, 0, 0, 0, 0),
  (94, .getfield 155, 3, 12, 62, 1, 0, 1393),
  (97, .iload 4, 2, 0, 0, 0, 0, 0),
  (99, .iaload, 1, 0, 0, 0, 0, 0),
  (100, .if_icmp .lt 7, 3, 107, 0, 0, 0, 0),
  (103, .iload 5, 2, 0, 0, 0, 0, 0),
  (105, .istore 4, 2, 0, 0, 0, 0, 0),
  (107, .iinc 5 (-1), 3, 0, 0, 0, 0, 0),
  (110, .goto (-50), 3, 60, 0, 0, 0, 0),
  (113, .iload 4, 2, 0, 0, 0, 0, 0),
  (115, .aload_n 0, 1, 0, 0, 0, 0, 0),
  (116, .getfield 28, 3, 12, 7, 1, 0, 1338),
  (119, .iload_n 3, 1, 0, 0, 0, 0, 0),
  (120, .iaload, 1, 0, 0, 0, 0, 0),
  (121, .if_icmp .ne 6, 3, 127, 0, 0, 0, 0),
  (124, .goto 23, 3, 147, 0, 0, 0, 0),
  (127, .aload_n 0, 1, 0, 0, 0, 0, 0),
  (128, .getfield 28, 3, 12, 7, 1, 0, 1338),
  (131, .iload_n 3, 1, 0, 0, 0, 0, 0),
  (132, .iload 4, 2, 0, 0, 0, 0, 0),
  (134, .iastore, 1, 0, 0, 0, 0, 0),
  (135, .aload_n 0, 1, 0, 0, 0, 0, 0),
  (136, .dup, 1, 0, 0, 0, 0, 0),
  (137, .getfield 386, 3, 12, 63, 0, 0, 1394),
  (140, .iconst 1, 1, 0, 0, 0, 1, 0),
  (141, .iadd, 1, 0, 0, 0, 0, 0),
  (142, .putfield 386, 3, 12, 63, 0, 0, 1394),
  (145, .iconst 1, 1, 0, 0, 0, 1, 0),
  (146, .istore_n 2, 1, 0, 0, 0, 0, 0),
  (147, .iinc 3 1, 3, 0, 0, 0, 0, 0),
  (150, .goto (-135), 3, 15, 0, 0, 0, 0),
  (153, .goto (-146), 3, 7, 0, 0, 0, 0),
  (156, .aload_n 0, 1, 0, 0, 0, 0, 0),
  (157, .invokevirtual 337, 3, 1233, 1, 0, 12, 1723),
  (160, .aload_n 0, 1, 0, 0, 0, 0, 0),
  (161, .getfield 137, 3, 12, 53, 1, 0, 1384),
  (164, .iload_n 1, 1, 0, 0, 0, 0, 0),
  (165, .iaload, 1, 0, 0, 0, 0, 0),
  (166, .ireturn, 1, 1, 0, 0, 0, 0)]
/-- TollsThatPayModel.climb(I)I -/
def z_c1266 : List z_E := [(0, .aload_n 0, 1, 0, 0, 0, 0, 0),
  (1, .iconst 0, 1, 0, 0, 0, 0, 0),
  (2, .putfield 185, 3, 12, 26, 0, 0, 1357),
  (5, .iload_n 1, 1, 0, 0, 0, 0, 0),
  (6, .invokestatic 334, 3, 1207, 1, 1, 0, 1720),
  (9, .ifCond .ne 5, 3, 14, 0, 0, 0, 0),
  (12, .iconst (-1), 1, 0, 0, 0, (-1), 0),
  (13, .ireturn, 1, 1, 0, 0, 0, 0),
  (14, .aload_n 0, 1, 0, 0, 0, 0, 0),
  (15, .invokevirtual 319, 3, 1229, 1, 0, 12, 1656),
  (18, .iconst 0, 1, 0, 0, 0, 0, 0),
  (19, .istore_n 2, 1, 0, 0, 0, 0, 0),
  (20, .iload_n 2, 1, 0, 0, 0, 0, 0),
  (21, .iconst 5, 1, 0, 0, 0, 5, 0),
  (22, .if_icmp .ge 21, 3, 43, 0, 0, 0, 0),
  (25, .aload_n 0, 1, 0, 0, 0, 0, 0),
  (26, .getfield 158, 3, 12, 64, 1, 0, 1395),
  (29, .iload_n 2, 1, 0, 0, 0, 0, 0),
  (30, .aload_n 0, 1, 0, 0, 0, 0, 0),
  (31, .getfield 28, 3, 12, 7, 1, 0, 1338),
  (34, .iload_n 2, 1, 0, 0, 0, 0, 0),
  (35, .iaload, 1, 0, 0, 0, 0, 0),
  (36, .iastore, 1, 0, 0, 0, 0, 0),
  (37, .iinc 2 1, 3, 0, 0, 0, 0, 0),
  (40, .goto (-20), 3, 20, 0, 0, 0, 0),
  (43, .aload_n 0, 1, 0, 0, 0, 0, 0),
  (44, .iload_n 1, 1, 0, 0, 0, 0, 0),
  (45, .invokevirtual 389, 3, 1265, 2, 1, 12, 1821),
  (48, .istore_n 2, 1, 0, 0, 0, 0, 0),
  (49, .aload_n 0, 1, 0, 0, 0, 0, 0),
  (50, .iconst 0, 1, 0, 0, 0, 0, 0),
  (51, .putfield 188, 3, 12, 25, 0, 0, 1356),
  (54, .aload_n 0, 1, 0, 0, 0, 0, 0),
  (55, .iload_n 2, 1, 0, 0, 0, 0, 0),
  (56, .invokevirtual 331, 3, 1204, 2, 0, 12, 1704),
  (59, .aload_n 0, 1, 0, 0, 0, 0, 0),
  (60, .aload_n 0, 1, 0, 0, 0, 0, 0),
  (61, .getfield 28, 3, 12, 7, 1, 0, 1338),
  (64, .iload_n 1, 1, 0, 0, 0, 0, 0),
  (65, .invokevirtual 373, 3, 1254, 3, 0, 12, 1776),
  (68, .iconst 0, 1, 0, 0, 0, 0, 0),
  (69, .istore_n 3, 1, 0, 0, 0, 0, 0),
  (70, .iload_n 3, 1, 0, 0, 0, 0, 0),
  (71, .iconst 5, 1, 0, 0, 0, 5, 0),
  (72, .if_icmp .ge 21, 3, 93, 0, 0, 0, 0),
  (75, .aload_n 0, 1, 0, 0, 0, 0, 0),
  (76, .getfield 28, 3, 12, 7, 1, 0, 1338),
  (79, .iload_n 3, 1, 0, 0, 0, 0, 0),
  (80, .aload_n 0, 1, 0, 0, 0, 0, 0),
  (81, .getfield 158, 3, 12, 64, 1, 0, 1395),
  (84, .iload_n 3, 1, 0, 0, 0, 0, 0),
  (85, .iaload, 1, 0, 0, 0, 0, 0),
  (86, .iastore, 1, 0, 0, 0, 0, 0),
  (87, .iinc 3 1, 3, 0, 0, 0, 0, 0),
  (90, .goto (-20), 3, 70, 0, 0, 0, 0),
  (93, .aload_n 0, 1, 0, 0, 0, 0, 0),
  (94, .getfield 386, 3, 12, 63, 0, 0, 1394),
  (97, .ireturn, 1, 1, 0, 0, 0, 0)]
/-- TollsThatPayModel.gap(I)I -/
def z_c1267 : List z_E := [(0, .aload_n 0, 1, 0, 0, 0, 0, 0),
  (1, .iconst 0, 1, 0, 0, 0, 0, 0),
  (2, .putfield 185, 3, 12, 26, 0, 0, 1357),
  (5, .aload_n 0, 1, 0, 0, 0, 0, 0),
  (6, .iload_n 1, 1, 0, 0, 0, 0, 0),
  (7, .invokevirtual 367, 3, 1252, 2, 1, 12, 1747),
  (10, .ifCond .ne 5, 3, 15, 0, 0, 0, 0),
  (13, .iconst (-1), 1, 0, 0, 0, (-1), 0),
  (14, .ireturn, 1, 1, 0, 0, 0, 0),
  (15, .aload_n 0, 1, 0, 0, 0, 0, 0),
  (16, .invokevirtual 319, 3, 1229, 1, 0, 12, 1656),
  (19, .aload_n 0, 1, 0, 0, 0, 0, 0),
  (20, .iload_n 1, 1, 0, 0, 0, 0, 0),
  (21, .iconst 0, 1, 0, 0, 0, 0, 0),
  (22, .aload_n 0, 1, 0, 0, 0, 0, 0),
  (23, .getfield 31, 3, 12, 9, 0, 0, 1340),
  (26, .invokevirtual 370, 3, 1253, 4, 1, 12, 1756),
  (29, .istore_n 2, 1, 0, 0, 0, 0, 0),
  (30, .iconst 0, 1, 0, 0, 0, 0, 0),
  (31, .istore_n 3, 1, 0, 0, 0, 0, 0),
  (32, .iload_n 3, 1, 0, 0, 0, 0, 0),
  (33, .iconst 5, 1, 0, 0, 0, 5, 0),
  (34, .if_icmp .ge 21, 3, 55, 0, 0, 0, 0),
  (37, .aload_n 0, 1, 0, 0, 0, 0, 0),
  (38, .getfield 158, 3, 12, 64, 1, 0, 1395),
  (41, .iload_n 3, 1, 0, 0, 0, 0, 0),
  (42, .aload_n 0, 1, 0, 0, 0, 0, 0),
  (43, .getfield 28, 3, 12, 7, 1, 0, 1338),
  (46, .iload_n 3, 1, 0, 0, 0, 0, 0),
  (47, .iaload, 1, 0, 0, 0, 0, 0),
  (48, .iastore, 1, 0, 0, 0, 0, 0),
  (49, .iinc 3 1, 3, 0, 0, 0, 0, 0),
  (52, .goto (-20), 3, 32, 0, 0, 0, 0),
  (55, .aload_n 0, 1, 0, 0, 0, 0, 0),
  (56, .iload_n 1, 1, 0, 0, 0, 0, 0),
  (57, .invokevirtual 389, 3, 1265, 2, 1, 12, 1821),
  (60, .istore_n 3, 1, 0, 0, 0, 0, 0),
  (61, .iconst 0, 1, 0, 0, 0, 0, 0),
  (62, .istore 4, 2, 0, 0, 0, 0, 0),
  (64, .iload 4, 2, 0, 0, 0, 0, 0),
  (66, .iconst 5, 1, 0, 0, 0, 5, 0),
  (67, .if_icmp .ge 23, 3, 90, 0, 0, 0, 0),
  (70, .aload_n 0, 1, 0, 0, 0, 0, 0),
  (71, .getfield 28, 3, 12, 7, 1, 0, 1338),
  (74, .iload 4, 2, 0, 0, 0, 0, 0),
  (76, .aload_n 0, 1, 0, 0, 0, 0, 0),
  (77, .getfield 158, 3, 12, 64, 1, 0, 1395),
  (80, .iload 4, 2, 0, 0, 0, 0, 0),
  (82, .iaload, 1, 0, 0, 0, 0, 0),
  (83, .iastore, 1, 0, 0, 0, 0, 0),
  (84, .iinc 4 1, 3, 0, 0, 0, 0, 0),
  (87, .goto (-23), 3, 64, 0, 0, 0, 0),
  (90, .iload_n 2, 1, 0, 0, 0, 0, 0),
  (91, .iload_n 3, 1, 0, 0, 0, 0, 0),
  (92, .isub, 1, 0, 0, 0, 0, 0),
  (93, .ireturn, 1, 1, 0, 0, 0, 0)]
/-- TollsThatPayModel.times(I)I -/
def z_c1268 : List z_E := [(0, .aload_n 0, 1, 0, 0, 0, 0, 0),
  (1, .iconst 0, 1, 0, 0, 0, 0, 0),
  (2, .putfield 185, 3, 12, 26, 0, 0, 1357),
  (5, .aload_n 0, 1, 0, 0, 0, 0, 0),
  (6, .iload_n 1, 1, 0, 0, 0, 0, 0),
  (7, .invokevirtual 367, 3, 1252, 2, 1, 12, 1747),
  (10, .ifCond .ne 5, 3, 15, 0, 0, 0, 0),
  (13, .iconst (-1), 1, 0, 0, 0, (-1), 0),
  (14, .ireturn, 1, 1, 0, 0, 0, 0),
  (15, .iconst 0, 1, 0, 0, 0, 0, 0),
  (16, .istore_n 2, 1, 0, 0, 0, 0, 0),
  (17, .aload_n 0, 1, 0, 0, 0, 0, 0),
  (18, .iconst 0, 1, 0, 0, 0, 0, 0),
  (19, .putfield 188, 3, 12, 25, 0, 0, 1356),
  (22, .iconst 0, 1, 0, 0, 0, 0, 0),
  (23, .istore_n 3, 1, 0, 0, 0, 0, 0),
  (24, .iload_n 3, 1, 0, 0, 0, 0, 0),
  (25, .iconst 4, 1, 0, 0, 0, 4, 0),
  (26, .if_icmp .ge 39, 3, 65, 0, 0, 0, 0),
  (29, .aload_n 0, 1, 0, 0, 0, 0, 0),
  (30, .iload_n 3, 1, 0, 0, 0, 0, 0),
  (31, .iconst (-1), 1, 0, 0, 0, (-1), 0),
  (32, .iconst (-1), 1, 0, 0, 0, (-1), 0),
  (33, .invokevirtual 285, 3, 1228, 4, 0, 12, 1660),
  (36, .aload_n 0, 1, 0, 0, 0, 0, 0),
  (37, .iload_n 1, 1, 0, 0, 0, 0, 0),
  (38, .iconst 0, 1, 0, 0, 0, 0, 0),
  (39, .aload_n 0, 1, 0, 0, 0, 0, 0),
  (40, .getfield 31, 3, 12, 9, 0, 0, 1340),
  (43, .invokevirtual 370, 3, 1253, 4, 1, 12, 1756),
  (46, .istore 4, 2, 0, 0, 0, 0, 0),
  (48, .aload_n 0, 1, 0, 0, 0, 0, 0),
  (49, .iload 4, 2, 0, 0, 0, 0, 0),
  (51, .invokevirtual 331, 3, 1204, 2, 0, 12, 1704),
  (54, .iload_n 2, 1, 0, 0, 0, 0, 0),
  (55, .iload 4, 2, 0, 0, 0, 0, 0),
  (57, .iadd, 1, 0, 0, 0, 0, 0),
  (58, .istore_n 2, 1, 0, 0, 0, 0, 0),
  (59, .iinc 3 1, 3, 0, 0, 0, 0, 0),
  (62, .goto (-38), 3, 24, 0, 0, 0, 0),
  (65, .iload_n 2, 1, 0, 0, 0, 0, 0),
  (66, .ireturn, 1, 1, 0, 0, 0, 0)]
/-- TollsThatPayModel.wasAhead(I)Z -/
def z_c1269 : List z_E := [(0, .iload_n 1, 1, 0, 0, 0, 0, 0),
  (1, .iconst 1, 1, 0, 0, 0, 1, 0),
  (2, .iand, 1, 0, 0, 0, 0, 0),
  (3, .istore_n 2, 1, 0, 0, 0, 0, 0),
  (4, .iload_n 2, 1, 0, 0, 0, 0, 0),
  (5, .iload_n 1, 1, 0, 0, 0, 0, 0),
  (6, .if_icmp .ge 66, 3, 72, 0, 0, 0, 0),
  (9, .iconst 1, 1, 0, 0, 0, 1, 0),
  (10, .istore_n 3, 1, 0, 0, 0, 0, 0),
  (11, .iconst 0, 1, 0, 0, 0, 0, 0),
  (12, .istore 4, 2, 0, 0, 0, 0, 0),
  (14, .iload 4, 2, 0, 0, 0, 0, 0),
  (16, .aload_n 0, 1, 0, 0, 0, 0, 0),
  (17, .getfield 201, 3, 12, 8, 0, 0, 1339),
  (20, .if_icmp .ge 40, 3, 60, 0, 0, 0, 0),
  (23, .iload_n 3, 1, 0, 0, 0, 0, 0),
  (24, .ifCond .eq 28, 3, 52, 0, 0, 0, 0),
  (27, .aload_n 0, 1, 0, 0, 0, 0, 0),
  (28, .getfield 161, 3, 12, 65, 1, 0, 1396),
  (31, .iconst 5, 1, 0, 0, 0, 5, 0),
  (32, .iload_n 2, 1, 0, 0, 0, 0, 0),
  (33, .imul, 1, 0, 0, 0, 0, 0),
  (34, .iload 4, 2, 0, 0, 0, 0, 0),
  (36, .iadd, 1, 0, 0, 0, 0, 0),
  (37, .iaload, 1, 0, 0, 0, 0, 0),
  (38, .aload_n 0, 1, 0, 0, 0, 0, 0),
  (39, .getfield 28, 3, 12, 7, 1, 0, 1338),
  (42, .iload 4, 2, 0, 0, 0, 0, 0),
  (44, .iaload, 1, 0, 0, 0, 0, 0),
  (45, .if_icmp .ne 7, 3, 52, 0, 0, 0, 0),
  (48, .iconst 1, 1, 0, 0, 0, 1, 0),
  (49, .goto 4, 3, 53, 0, 0, 0, 0),
  (52, .iconst 0, 1, 0, 0, 0, 0, 0),
  (53, .istore_n 3, 1, 0, 0, 0, 0, 0),
  (54, .iinc 4 1, 3, 0, 0, 0, 0, 0),
  (57, .goto (-43), 3, 14, 0, 0, 0, 0),
  (60, .iload_n 3, 1, 0, 0, 0, 0, 0),
  (61, .ifCond .eq 5, 3, 66, 0, 0, 0, 0),
  (64, .iconst 1, 1, 0, 0, 0, 1, 0),
  (65, .ireturn, 1, 2, 0, 0, 0, 0),
  (66, .iinc 2 2, 3, 0, 0, 0, 0, 0),
  (69, .goto (-65), 3, 4, 0, 0, 0, 0),
  (72, .iconst 0, 1, 0, 0, 0, 0, 0),
  (73, .ireturn, 1, 2, 0, 0, 0, 0)]
/-- TollsThatPayModel.answers(I)I -/
def z_c1270 : List z_E := [(0, .aload_n 0, 1, 0, 0, 0, 0, 0),
  (1, .iconst 0, 1, 0, 0, 0, 0, 0),
  (2, .putfield 185, 3, 12, 26, 0, 0, 1357),
  (5, .iload_n 1, 1, 0, 0, 0, 0, 0),
  (6, .iconst 1, 1, 0, 0, 0, 1, 0),
  (7, .bipush 60, 2, 0, 0, 0, 60, 0),
  (9, .invokestatic 194, 3, 1202, 3, 1, 0, 1572),
  (12, .ifCond .eq 19, 3, 31, 0, 0, 0, 0),
  (15, .aload_n 0, 1, 0, 0, 0, 0, 0),
  (16, .iconst 0, 1, 0, 0, 0, 0, 0),
  (17, .invokevirtual 367, 3, 1252, 2, 1, 12, 1747),
  (20, .ifCond .eq 11, 3, 31, 0, 0, 0, 0),
  (23, .aload_n 0, 1, 0, 0, 0, 0, 0),
  (24, .iconst 1, 1, 0, 0, 0, 1, 0),
  (25, .invokevirtual 367, 3, 1252, 2, 1, 12, 1747),
  (28, .ifCond .ne 5, 3, 33, 0, 0, 0, 0),
  (31, .iconst (-1), 1, 0, 0, 0, (-1), 0),
  (32, .ireturn, 1, 1, 0, 0, 0, 0),
  (33, .aload_n 0, 1, 0, 0, 0, 0, 0),
  (34, .invokevirtual 319, 3, 1229, 1, 0, 12, 1656),
  (37, .iconst 0, 1, 0, 0, 0, 0, 0),
  (38, .istore_n 2, 1, 0, 0, 0, 0, 0),
  (39, .iload_n 2, 1, 0, 0, 0, 0, 0),
  (40, .iconst 5, 1, 0, 0, 0, 5, 0),
  (41, .if_icmp .ge 21, 3, 62, 0, 0, 0, 0),
  (44, .aload_n 0, 1, 0, 0, 0, 0, 0),
  (45, .getfield 158, 3, 12, 64, 1, 0, 1395),
  (48, .iload_n 2, 1, 0, 0, 0, 0, 0),
  (49, .aload_n 0, 1, 0, 0, 0, 0, 0),
  (50, .getfield 28, 3, 12, 7, 1, 0, 1338),
  (53, .iload_n 2, 1, 0, 0, 0, 0, 0),
  (54, .iaload, 1, 0, 0, 0, 0, 0),
  (55, .iastore, 1, 0, 0, 0, 0, 0),
  (56, .iinc 2 1, 3, 0, 0, 0, 0, 0),
  (59, .goto (-20), 3, 39, 0, 0, 0, 0),
  (62, .bipush (-3), 2, 0, 0, 0, (-3), 0),
  (64, .istore_n 2, 1, 0, 0, 0, 0, 0),
  (65, .iconst 0, 1, 0, 0, 0, 0, 0),
  (66, .istore_n 3, 1, 0, 0, 0, 0, 0),
  (67, .iconst 0, 1, 0, 0, 0, 0, 0),
  (68, .istore 4, 2, 0, 0, 0, 0, 0),
  (70, .iload 4, 2, 0, 0, 0, 0, 0),
  (72, .iload_n 1, 1, 0, 0, 0, 0, 0),
  (73, .if_icmp .ge 168, 3, 241, 0, 0, 0, 0),
  (76, .iload_n 2, 1, 0, 0, 0, 0, 0),
  (77, .bipush (-3), 2, 0, 0, 0, (-3), 0),
  (79, .if_icmp .ne 162, 3, 241, 0, 0, 0, 0),
  (82, .aload_n 0, 1, 0, 0, 0, 0, 0),
  (83, .iload 4, 2, 0, 0, 0, 0, 0),
  (85, .iconst 1, 1, 0, 0, 0, 1, 0),
  (86, .iand, 1, 0, 0, 0, 0, 0),
  (87, .iconst 0, 1, 0, 0, 0, 0, 0),
  (88, .aload_n 0, 1, 0, 0, 0, 0, 0),
  (89, .getfield 31, 3, 12, 9, 0, 0, 1340),
  (92, .invokevirtual 370, 3, 1253, 4, 1, 12, 1756),
  (95, .pop, 1, 0, 0, 0, 0, 0),
  (96, .iconst 0, 1, 0, 0, 0, 0, 0),
  (97, .istore 5, 2, 0, 0, 0, 0, 0),
  (99, .iconst 0, 1, 0, 0, 0, 0, 0),
  (100, .istore 6, 2, 0, 0, 0, 0, 0),
  (102, .iload 6, 2, 0, 0, 0, 0, 0),
  (104, .aload_n 0, 1, 0, 0, 0, 0, 0),
  (105, .getfield 201, 3, 12, 8, 0, 0, 1339),
  (108, .if_icmp .ge 52, 3, 160, 0, 0, 0, 0),
  (111, .iload 5, 2, 0, 0, 0, 0, 0),
  (113, .ifCond .ne 20, 3, 133, 0, 0, 0, 0),
  (116, .aload_n 0, 1, 0, 0, 0, 0, 0),
  (117, .getfield 28, 3, 12, 7, 1, 0, 1338),
  (120, .iload 6, 2, 0, 0, 0, 0, 0),
  (122, .iaload, 1, 0, 0, 0, 0, 0),
  (123, .aload_n 0, 1, 0, 0, 0, 0, 0),
  (124, .getfield 146, 3, 12, 58, 1, 0, 1389),
  (127, .iload 6, 2, 0, 0, 0, 0, 0),
  (129, .iaload, 1, 0, 0, 0, 0, 0),
  (130, .if_icmp .eq 7, 3, 137, 0, 0, 0, 0),
  (133, .iconst 1, 1, 0, 0, 0, 1, 0),
  (134, .goto 4, 3, 138, 0, 0, 0, 0),
  (137, .iconst 0, 1, 0, 0, 0, 0, 0),
  (138, .istore 5, 2, 0, 0, 0, 0, 0),
  (140, .aload_n 0, 1, 0, 0, 0, 0, 0),
  (141, .getfield 28, 3, 12, 7, 1, 0, 1338),
  (144, .iload 6, 2, 0, 0, 0, 0, 0),
  (146, .aload_n 0, 1, 0, 0, 0, 0, 0),
  (147, .getfield 146, 3, 12, 58, 1, 0, 1389),
  (150, .iload 6, 2, 0, 0, 0, 0, 0),
  (152, .iaload, 1, 0, 0, 0, 0, 0),
  (153, .iastore, 1, 0, 0, 0, 0, 0),
  (154, .iinc 6 1, 3, 0, 0, 0, 0, 0),
  (157, .goto (-55), 3, 102, 0, 0, 0, 0),
  (160, .iload 5, 2, 0, 0, 0, 0, 0),
  (162, .ifCond .eq 7, 3, 169, 0, 0, 0, 0),
  (165, .iconst 0, 1, 0, 0, 0, 0, 0),
  (166, .goto 6, 3, 172, 0, 0, 0, 0),
  (169, .iload_n 3, 1, 0, 0, 0, 0, 0),
  (170, .iconst 1, 1, 0, 0, 0, 1, 0),
  (171, .iadd, 1, 0, 0, 0, 0, 0),
  (172, .istore_n 3, 1, 0, 0, 0, 0, 0),
  (173, .iload_n 3, 1, 0, 0, 0, 0, 0),
  (174, .iconst 2, 1, 0, 0, 0, 2, 0),
  (175, .if_icmp .ne 11, 3, 186, 0, 0, 0, 0),
  (178, .iload 4, 2, 0, 0, 0, 0, 0),
  (180, .iconst 1, 1, 0, 0, 0, 1, 0),
  (181, .isub, 1, 0, 0, 0, 0, 0),
  (182, .istore_n 2, 1, 0, 0, 0, 0, 0),
  (183, .goto 15, 3, 198, 0, 0, 0, 0),
  (186, .aload_n 0, 1, 0, 0, 0, 0, 0),
  (187, .iload 4, 2, 0, 0, 0, 0, 0),
  (189, .invokevirtual 392, 3, 1269, 2, 1, 12, 1837),
  (192, .ifCond .eq 6, 3, 198, 0, 0, 0, 0),
  (195, .bipush (-2), 2, 0, 0, 0, (-2), 0),
  (197, .istore_n 2, 1, 0, 0, 0, 0, 0),
  (198, .iconst 0, 1, 0, 0, 0, 0, 0),
  (199, .istore 6, 2, 0, 0, 0, 0, 0),
  (201, .iload 6, 2, 0, 0, 0, 0, 0),
  (203, .aload_n 0, 1, 0, 0, 0, 0, 0),
  (204, .getfield 201, 3, 12, 8, 0, 0, 1339),
  (207, .if_icmp .ge 28, 3, 235, 0, 0, 0, 0),
  (210, .aload_n 0, 1, 0, 0, 0, 0, 0),
  (211, .getfield 161, 3, 12, 65, 1, 0, 1396),
  (214, .iconst 5, 1, 0, 0, 0, 5, 0),
  (215, .iload 4, 2, 0, 0, 0, 0, 0),
  (217, .imul, 1, 0, 0, 0, 0, 0),
  (218, .iload 6, 2, 0, 0, 0, 0, 0),
  (220, .iadd, 1, 0, 0, 0, 0, 0),
  (221, .aload_n 0, 1, 0, 0, 0, 0, 0),
  (222, .getfield 28, 3, 12, 7, 1, 0, 1338),
  (225, .iload 6, 2, 0, 0, 0, 0, 0),
  (227, .iaload, 1, 0, 0, 0, 0, 0),
  (228, .iastore, 1, 0, 0, 0, 0, 0),
  (229, .iinc 6 1, 3, 0, 0, 0, 0, 0),
  (232, .goto (-31), 3, 201, 0, 0, 0, 0),
  (235, .iinc 4 1, 3, 0, 0, 0, 0, 0),
  (238, .goto (-168), 3, 70, 0, 0, 0, 0),
  (241, .aload_n 0, 1, 0, 0, 0, 0, 0),
  (242, .invokevirtual 337, 3, 1233, 1, 0, 12, 1723),
  (245, .aload_n 0, 1, 0, 0, 0, 0, 0),
  (246, .iconst 0, 1, 0, 0, 0, 0, 0),
  (247, .putfield 188, 3, 12, 25, 0, 0, 1356),
  (250, .aload_n 0, 1, 0, 0, 0, 0, 0),
  (251, .aload_n 0, 1, 0, 0, 0, 0, 0),
  (252, .getfield 137, 3, 12, 53, 1, 0, 1384),
  (255, .iconst 0, 1, 0, 0, 0, 0, 0),
  (256, .iaload, 1, 0, 0, 0, 0, 0),
  (257, .invokevirtual 331, 3, 1204, 2, 0, 12, 1704),
  (260, .aload_n 0, 1, 0, 0, 0, 0, 0),
  (261, .aload_n 0, 1, 0, 0, 0, 0, 0),
  (262, .getfield 137, 3, 12, 53, 1, 0, 1384),
  (265, .iconst 1, 1, 0, 0, 0, 1, 0),
  (266, .iaload, 1, 0, 0, 0, 0, 0),
  (267, .invokevirtual 331, 3, 1204, 2, 0, 12, 1704),
  (270, .aload_n 0, 1, 0, 0, 0, 0, 0),
  (271, .aload_n 0, 1, 0, 0, 0, 0, 0),
  (272, .getfield 28, 3, 12, 7, 1, 0, 1338),
  (275, .iconst (-1), 1, 0, 0, 0, (-1), 0),
  (276, .invokevirtual 373, 3, 1254, 3, 0, 12, 1776),
  (279, .iconst 0, 1, 0, 0, 0, 0, 0),
  (280, .istore 4, 2, 0, 0, 0, 0, 0),
  (282, .iload 4, 2, 0, 0, 0, 0, 0),
  (284, .iconst 5, 1, 0, 0, 0, 5, 0),
  (285, .if_icmp .ge 23, 3, 308, 0, 0, 0, 0),
  (288, .aload_n 0, 1, 0, 0, 0, 0, 0),
  (289, .getfield 28, 3, 12, 7, 1, 0, 1338),
  (292, .iload 4, 2, 0, 0, 0, 0, 0),
  (294, .aload_n 0, 1, 0, 0, 0, 0, 0),
  (295, .getfield 158, 3, 12, 64, 1, 0, 1395),
  (298, .iload 4, 2, 0, 0, 0, 0, 0),
  (300, .iaload, 1, 0, 0, 0, 0, 0),
  (301, .iastore, 1, 0, 0, 0, 0, 0),
  (302, .iinc 4 1, 3, 0, 0, 0, 0, 0),
  (305, .goto (-23), 3, 282, 0, 0, 0, 0),
  (308, .iload_n 2, 1, 0, 0, 0, 0, 0),
  (309, .ireturn, 1, 1, 0, 0, 0, 0)]
/-- TollsThatPayModel.numberOf(I)I -/
def z_c1271 : List z_E := [(0, .iconst 0, 1, 0, 0, 0, 0, 0),
  (1, .istore_n 2, 1, 0, 0, 0, 0, 0),
  (2, .iconst 0, 1, 0, 0, 0, 0, 0),
  (3, .istore_n 3, 1, 0, 0, 0, 0, 0),
  (4, .iload_n 3, 1, 0, 0, 0, 0, 0),
  (5, .aload_n 0, 1, 0, 0, 0, 0, 0),
  (6, .getfield 201, 3, 12, 8, 0, 0, 1339),
  (9, .if_icmp .ge 49, 3, 58, 0, 0, 0, 0),
  (12, .iload_n 2, 1, 0, 0, 0, 0, 0),
  (13, .aload_n 0, 1, 0, 0, 0, 0, 0),
  (14, .getfield 31, 3, 12, 9, 0, 0, 1340),
  (17, .iconst 1, 1, 0, 0, 0, 1, 0),
  (18, .iadd, 1, 0, 0, 0, 0, 0),
  (19, .imul, 1, 0, 0, 0, 0, 0),
  (20, .iload_n 1, 1, 0, 0, 0, 0, 0),
  (21, .iconst (-1), 1, 0, 0, 0, (-1), 0),
  (22, .if_icmp .eq 22, 3, 44, 0, 0, 0, 0),
  (25, .aload_n 0, 1, 0, 0, 0, 0, 0),
  (26, .getfield 22, 3, 12, 4, 1, 0, 1335),
  (29, .aload_n 0, 1, 0, 0, 0, 0, 0),
  (30, .getfield 25, 3, 12, 6, 1, 0, 1337),
  (33, .iload_n 3, 1, 0, 0, 0, 0, 0),
  (34, .iaload, 1, 0, 0, 0, 0, 0),
  (35, .iaload, 1, 0, 0, 0, 0, 0),
  (36, .iload_n 1, 1, 0, 0, 0, 0, 0),
  (37, .if_icmp .ne 7, 3, 44, 0, 0, 0, 0),
  (40, .iconst 0, 1, 0, 0, 0, 0, 0),
  (41, .goto 9, 3, 50, 0, 0, 0, 0),
  (44, .aload_n 0, 1, 0, 0, 0, 0, 0),
  (45, .getfield 28, 3, 12, 7, 1, 0, 1338),
  (48, .iload_n 3, 1, 0, 0, 0, 0, 0),
  (49, .iaload, 1, 0, 0, 0, 0, 0),
  (50, .iadd, 1, 0, 0, 0, 0, 0),
  (51, .istore_n 2, 1, 0, 0, 0, 0, 0),
  (52, .iinc 3 1, 3, 0, 0, 0, 0, 0),
  (55, .goto (-51), 3, 4, 0, 0, 0, 0),
  (58, .iload_n 2, 1, 0, 0, 0, 0, 0),
  (59, .ireturn, 1, 1, 0, 0, 0, 0)]
/-- TollsThatPayModel.layAll()V -/
def z_c1272 : List z_E := [(0, .aload_n 0, 1, 0, 0, 0, 0, 0),
  (1, .aload_n 0, 1, 0, 0, 0, 0, 0),
  (2, .getfield 201, 3, 12, 8, 0, 0, 1339),
  (5, .putfield 343, 3, 12, 56, 0, 0, 1387),
  (8, .iconst 0, 1, 0, 0, 0, 0, 0),
  (9, .istore_n 1, 1, 0, 0, 0, 0, 0),
  (10, .iload_n 1, 1, 0, 0, 0, 0, 0),
  (11, .aload_n 0, 1, 0, 0, 0, 0, 0),
  (12, .getfield 201, 3, 12, 8, 0, 0, 1339),
  (15, .if_icmp .ge 23, 3, 38, 0, 0, 0, 0),
  (18, .aload_n 0, 1, 0, 0, 0, 0, 0),
  (19, .getfield 140, 3, 12, 55, 1, 0, 1386),
  (22, .iload_n 1, 1, 0, 0, 0, 0, 0),
  (23, .iload_n 1, 1, 0, 0, 0, 0, 0),
  (24, .iastore, 1, 0, 0, 0, 0, 0),
  (25, .aload_n 0, 1, 0, 0, 0, 0, 0),
  (26, .getfield 28, 3, 12, 7, 1, 0, 1338),
  (29, .iload_n 1, 1, 0, 0, 0, 0, 0),
  (30, .iconst 0, 1, 0, 0, 0, 0, 0),
  (31, .iastore, 1, 0, 0, 0, 0, 0),
  (32, .iinc 1 1, 3, 0, 0, 0, 0, 0),
  (35, .goto (-25), 3, 10, 0, 0, 0, 0),
  (38, .return_, 1, 0, 0, 0, 0, 0)]
/-- TollsThatPayModel.rests()I -/
def z_c1273 : List z_E := [(0, .aload_n 0, 1, 0, 0, 0, 0, 0),
  (1, .iconst 0, 1, 0, 0, 0, 0, 0),
  (2, .putfield 185, 3, 12, 26, 0, 0, 1357),
  (5, .lconst 1, 1, 0, 0, 0, 1, 0),
  (6, .lstore_n 1, 1, 0, 0, 0, 0, 0),
  (7, .iconst 0, 1, 0, 0, 0, 0, 0),
  (8, .istore_n 3, 1, 0, 0, 0, 0, 0),
  (9, .iload_n 3, 1, 0, 0, 0, 0, 0),
  (10, .aload_n 0, 1, 0, 0, 0, 0, 0),
  (11, .getfield 201, 3, 12, 8, 0, 0, 1339),
  (14, .if_icmp .ge 19, 3, 33, 0, 0, 0, 0),
  (17, .lload_n 1, 1, 0, 0, 0, 0, 0),
  (18, .aload_n 0, 1, 0, 0, 0, 0, 0),
  (19, .getfield 31, 3, 12, 9, 0, 0, 1340),
  (22, .iconst 1, 1, 0, 0, 0, 1, 0),
  (23, .iadd, 1, 0, 0, 0, 0, 0),
  (24, .i2l, 1, 0, 0, 0, 0, 0),
  (25, .lmul, 1, 0, 0, 0, 0, 0),
  (26, .lstore_n 1, 1, 0, 0, 0, 0, 0),
  (27, .iinc 3 1, 3, 0, 0, 0, 0, 0),
  (30, .goto (-21), 3, 9, 0, 0, 0, 0),
  (33, .lload_n 1, 1, 0, 0, 0, 0, 0),
  (34, .ldc2_w 395, 3, 0, 0, 0, 2000, 1845),
  (37, .lcmp, 1, 0, 0, 0, 0, 0),
  (38, .ifCond .le 5, 3, 43, 0, 0, 0, 0),
  (41, .iconst (-1), 1, 0, 0, 0, (-1), 0),
  (42, .ireturn, 1, 1, 0, 0, 0, 0),
  (43, .aload_n 0, 1, 0, 0, 0, 0, 0),
  (44, .invokevirtual 319, 3, 1229, 1, 0, 12, 1656),
  (47, .aload_n 0, 1, 0, 0, 0, 0, 0),
  (48, .invokevirtual 351, 3, 1247, 1, 0, 12, 1760),
  (51, .iconst 0, 1, 0, 0, 0, 0, 0),
  (52, .istore_n 3, 1, 0, 0, 0, 0, 0),
  (53, .iload_n 3, 1, 0, 0, 0, 0, 0),
  (54, .i2l, 1, 0, 0, 0, 0, 0),
  (55, .lload_n 1, 1, 0, 0, 0, 0, 0),
  (56, .lcmp, 1, 0, 0, 0, 0, 0),
  (57, .ifCond .ge 23, 3, 80, 0, 0, 0, 0),
  (60, .aload_n 0, 1, 0, 0, 0, 0, 0),
  (61, .getfield 170, 3, 12, 68, 1, 0, 1399),
  (64, .iload_n 3, 1, 0, 0, 0, 0, 0),
  (65, .iconst 0, 1, 0, 0, 0, 0, 0),
  (66, .iastore, 1, 0, 0, 0, 0, 0),
  (67, .aload_n 0, 1, 0, 0, 0, 0, 0),
  (68, .getfield 173, 3, 12, 69, 1, 0, 1400),
  (71, .iload_n 3, 1, 0, 0, 0, 0, 0),
  (72, .iconst 0, 1, 0, 0, 0, 0, 0),
  (73, .iastore, 1, 0, 0, 0, 0, 0),
  (74, .iinc 3 1, 3, 0, 0, 0, 0, 0),
  (77, .goto (-24), 3, 53, 0, 0, 0, 0),
  (80, .aload_n 0, 1, 0, 0, 0, 0, 0),
  (81, .invokevirtual 397, 3, 1272, 1, 0, 12, 1846),
  (84, .iconst 0, 1, 0, 0, 0, 0, 0),
  (85, .istore_n 3, 1, 0, 0, 0, 0, 0),
  (86, .aload_n 0, 1, 0, 0, 0, 0, 0),
  (87, .invokevirtual 337, 3, 1233, 1, 0, 12, 1723),
  (90, .aload_n 0, 1, 0, 0, 0, 0, 0),
  (91, .getfield 164, 3, 12, 66, 1, 0, 1397),
  (94, .iload_n 3, 1, 0, 0, 0, 0, 0),
  (95, .aload_n 0, 1, 0, 0, 0, 0, 0),
  (96, .getfield 137, 3, 12, 53, 1, 0, 1384),
  (99, .iconst 0, 1, 0, 0, 0, 0, 0),
  (100, .iaload, 1, 0, 0, 0, 0, 0),
  (101, .iastore, 1, 0, 0, 0, 0, 0),
  (102, .aload_n 0, 1, 0, 0, 0, 0, 0),
  (103, .getfield 167, 3, 12, 67, 1, 0, 1398),
  (106, .iload_n 3, 1, 0, 0, 0, 0, 0),
  (107, .aload_n 0, 1, 0, 0, 0, 0, 0),
  (108, .getfield 137, 3, 12, 53, 1, 0, 1384),
  (111, .iconst 1, 1, 0, 0, 0, 1, 0),
  (112, .iaload, 1, 0, 0, 0, 0, 0),
  (113, .iastore, 1, 0, 0, 0, 0, 0),
  (114, .aload_n 0, 1, 0, 0, 0, 0, 0),
  (115, .getfield 170, 3, 12, 68, 1, 0, 1399),
  (118, .aload_n 0, 1, 0, 0, 0, 0, 0),
  (119, .iconst 0, 1, 0, 0, 0, 0, 0),
  (120, .invokevirtual 400, 3, 1271, 2, 1, 12, 1850),
  (123, .aload_n 0, 1, 0, 0, 0, 0, 0),
  (124, .getfield 170, 3, 12, 68, 1, 0, 1399),
  (127, .aload_n 0, 1, 0, 0, 0, 0, 0),
  (128, .iconst 0, 1, 0, 0, 0, 0, 0),
  (129, .invokevirtual 400, 3, 1271, 2, 1, 12, 1850),
  (132, .iaload, 1, 0, 0, 0, 0, 0),
  (133, .aload_n 0, 1, 0, 0, 0, 0, 0),
  (134, .getfield 137, 3, 12, 53, 1, 0, 1384),
  (137, .iconst 0, 1, 0, 0, 0, 0, 0),
  (138, .iaload, 1, 0, 0, 0, 0, 0),
  (139, .invokestatic 377, 3, 9995, 0, 0, 0, 1792),
  (142, .iastore, 1, 0, 0, 0, 0, 0),
  (143, .aload_n 0, 1, 0, 0, 0, 0, 0),
  (144, .getfield 173, 3, 12, 69, 1, 0, 1400),
  (147, .aload_n 0, 1, 0, 0, 0, 0, 0),
  (148, .iconst 1, 1, 0, 0, 0, 1, 0),
  (149, .invokevirtual 400, 3, 1271, 2, 1, 12, 1850),
  (152, .aload_n 0, 1, 0, 0, 0, 0, 0),
  (153, .getfield 173, 3, 12, 69, 1, 0, 1400),
  (156, .aload_n 0, 1, 0, 0, 0, 0, 0),
  (157, .iconst 1, 1, 0, 0, 0, 1, 0),
  (158, .invokevirtual 400, 3, 1271, 2, 1, 12, 1850),
  (161, .iaload, 1, 0, 0, 0, 0, 0),
  (162, .aload_n 0, 1, 0, 0, 0, 0, 0),
  (163, .getfield 137, 3, 12, 53, 1, 0, 1384),
  (166, .iconst 1, 1, 0, 0, 0, 1, 0),
  (167, .iaload, 1, 0, 0, 0, 0, 0),
  (168, .invokestatic 377, 3, 9995, 0, 0, 0, 1792),
  (171, .iastore, 1, 0, 0, 0, 0, 0),
  (172, .iinc 3 1, 3, 0, 0, 0, 0, 0),
  (175, .aload_n 0, 1, 0, 0, 0, 0, 0),
  (176, .aload_n 0, 1, 0, 0, 0, 0, 0),
  (177, .getfield 31, 3, 12, 9, 0, 0, 1340),
  (180, .invokevirtual 361, 3, 1250, 2, 1, 12, 1768),
  (183, .ifCond .ne (-97), 3, 86, 0, 0, 0, 0),
  (186, .aload_n 0, 1, 0, 0, 0, 0, 0),
  (187, .invokevirtual 397, 3, 1272, 1, 0, 12, 1846),
  (190, .iconst 0, 1, 0, 0, 0, 0, 0),
  (191, .istore 4, 2, 0, 0, 0, 0, 0),
  (193, .iconst 0, 1, 0, 0, 0, 0, 0),
  (194, .istore_n 3, 1, 0, 0, 0, 0, 0),
  (195, .aload_n 0, 1, 0, 0, 0, 0, 0),
  (196, .iconst 0, 1, 0, 0, 0, 0, 0),
  (197, .putfield 188, 3, 12, 25, 0, 0, 1356),
  (200, .aload_n 0, 1, 0, 0, 0, 0, 0),
  (201, .getfield 164, 3, 12, 66, 1, 0, 1397),
  (204, .iload_n 3, 1, 0, 0, 0, 0, 0),
  (205, .iaload, 1, 0, 0, 0, 0, 0),
  (206, .aload_n 0, 1, 0, 0, 0, 0, 0),
  (207, .getfield 170, 3, 12, 68, 1, 0, 1399),
  (210, .aload_n 0, 1, 0, 0, 0, 0, 0),
  (211, .iconst 0, 1, 0, 0, 0, 0, 0),
  (212, .invokevirtual 400, 3, 1271, 2, 1, 12, 1850),
  (215, .iaload, 1, 0, 0, 0, 0, 0),
  (216, .if_icmp .ne 59, 3, 275, 0, 0, 0, 0),
  (219, .aload_n 0, 1, 0, 0, 0, 0, 0),
  (220, .getfield 167, 3, 12, 67, 1, 0, 1398),
  (223, .iload_n 3, 1, 0, 0, 0, 0, 0),
  (224, .iaload, 1, 0, 0, 0, 0, 0),
  (225, .aload_n 0, 1, 0, 0, 0, 0, 0),
  (226, .getfield 173, 3, 12, 69, 1, 0, 1400),
  (229, .aload_n 0, 1, 0, 0, 0, 0, 0),
  (230, .iconst 1, 1, 0, 0, 0, 1, 0),
  (231, .invokevirtual 400, 3, 1271, 2, 1, 12, 1850),
  (234, .iaload, 1, 0, 0, 0, 0, 0),
  (235, .if_icmp .ne 40, 3, 275, 0, 0, 0, 0),
  (238, .iload 4, 2, 0, 0, 0, 0, 0),
  (240, .ifCond .ne 32, 3, 272, 0, 0, 0, 0),
  (243, .aload_n 0, 1, 0, 0, 0, 0, 0),
  (244, .aload_n 0, 1, 0, 0, 0, 0, 0),
  (245, .getfield 28, 3, 12, 7, 1, 0, 1338),
  (248, .iconst (-1), 1, 0, 0, 0, (-1), 0),
  (249, .invokevirtual 373, 3, 1254, 3, 0, 12, 1776),
  (252, .aload_n 0, 1, 0, 0, 0, 0, 0),
  (253, .aload_n 0, 1, 0, 0, 0, 0, 0),
  (254, .getfield 164, 3, 12, 66, 1, 0, 1397),
  (257, .iload_n 3, 1, 0, 0, 0, 0, 0),
  (258, .iaload, 1, 0, 0, 0, 0, 0),
  (259, .invokevirtual 331, 3, 1204, 2, 0, 12, 1704),
  (262, .aload_n 0, 1, 0, 0, 0, 0, 0),
  (263, .aload_n 0, 1, 0, 0, 0, 0, 0),
  (264, .getfield 167, 3, 12, 67, 1, 0, 1398),
  (267, .iload_n 3, 1, 0, 0, 0, 0, 0),
  (268, .iaload, 1, 0, 0, 0, 0, 0),
  (269, .invokevirtual 331, 3, 1204, 2, 0, 12, 1704),
  (272, .iinc 4 1, 3, 0, 0, 0, 0, 0),
  (275, .iinc 3 1, 3, 0, 0, 0, 0, 0),
  (278, .aload_n 0, 1, 0, 0, 0, 0, 0),
  (279, .aload_n 0, 1, 0, 0, 0, 0, 0),
  (280, .getfield 31, 3, 12, 9, 0, 0, 1340),
  (283, .invokevirtual 361, 3, 1250, 2, 1, 12, 1768),
  (286, .ifCond .ne (-86), 3, 200, 0, 0, 0, 0),
  (289, .aload_n 0, 1, 0, 0, 0, 0, 0),
  (290, .invokevirtual 364, 3, 1248, 1, 0, 12, 1772),
  (293, .iload 4, 2, 0, 0, 0, 0, 0),
  (295, .ireturn, 1, 1, 0, 0, 0, 0)]
/-- TollsThatPayModel.roadBits(I)I -/
def z_c1274 : List z_E := [(0, .iconst 0, 1, 0, 0, 0, 0, 0),
  (1, .istore_n 2, 1, 0, 0, 0, 0, 0),
  (2, .iconst 0, 1, 0, 0, 0, 0, 0),
  (3, .istore_n 3, 1, 0, 0, 0, 0, 0),
  (4, .iload_n 3, 1, 0, 0, 0, 0, 0),
  (5, .aload_n 0, 1, 0, 0, 0, 0, 0),
  (6, .getfield 201, 3, 12, 8, 0, 0, 1339),
  (9, .if_icmp .ge 29, 3, 38, 0, 0, 0, 0),
  (12, .iload_n 1, 1, 0, 0, 0, 0, 0),
  (13, .iload_n 3, 1, 0, 0, 0, 0, 0),
  (14, .ishr, 1, 0, 0, 0, 0, 0),
  (15, .iconst 1, 1, 0, 0, 0, 1, 0),
  (16, .iand, 1, 0, 0, 0, 0, 0),
  (17, .iconst 1, 1, 0, 0, 0, 1, 0),
  (18, .if_icmp .ne 14, 3, 32, 0, 0, 0, 0),
  (21, .iload_n 2, 1, 0, 0, 0, 0, 0),
  (22, .iconst 1, 1, 0, 0, 0, 1, 0),
  (23, .aload_n 0, 1, 0, 0, 0, 0, 0),
  (24, .getfield 25, 3, 12, 6, 1, 0, 1337),
  (27, .iload_n 3, 1, 0, 0, 0, 0, 0),
  (28, .iaload, 1, 0, 0, 0, 0, 0),
  (29, .ishl, 1, 0, 0, 0, 0, 0),
  (30, .ior, 1, 0, 0, 0, 0, 0),
  (31, .istore_n 2, 1, 0, 0, 0, 0, 0),
  (32, .iinc 3 1, 3, 0, 0, 0, 0, 0),
  (35, .goto (-31), 3, 4, 0, 0, 0, 0),
  (38, .iload_n 2, 1, 0, 0, 0, 0, 0),
  (39, .ireturn, 1, 1, 0, 0, 0, 0)]
/-- TollsThatPayModel.spare(II)I -/
def z_c1275 : List z_E := [(0, .aload_n 0, 1, 0, 0, 0, 0, 0),
  (1, .iconst 0, 1, 0, 0, 0, 0, 0),
  (2, .putfield 185, 3, 12, 26, 0, 0, 1357),
  (5, .aload_n 0, 1, 0, 0, 0, 0, 0),
  (6, .iload_n 1, 1, 0, 0, 0, 0, 0),
  (7, .invokevirtual 367, 3, 1252, 2, 1, 12, 1747),
  (10, .ifCond .ne 5, 3, 15, 0, 0, 0, 0),
  (13, .iconst (-1), 1, 0, 0, 0, (-1), 0),
  (14, .ireturn, 1, 1, 0, 0, 0, 0),
  (15, .iconst 0, 1, 0, 0, 0, 0, 0),
  (16, .istore_n 3, 1, 0, 0, 0, 0, 0),
  (17, .iconst 0, 1, 0, 0, 0, 0, 0),
  (18, .istore 4, 2, 0, 0, 0, 0, 0),
  (20, .iload 4, 2, 0, 0, 0, 0, 0),
  (22, .aload_n 0, 1, 0, 0, 0, 0, 0),
  (23, .getfield 201, 3, 12, 8, 0, 0, 1339),
  (26, .if_icmp .ge 36, 3, 62, 0, 0, 0, 0),
  (29, .iload_n 3, 1, 0, 0, 0, 0, 0),
  (30, .aload_n 0, 1, 0, 0, 0, 0, 0),
  (31, .getfield 22, 3, 12, 4, 1, 0, 1335),
  (34, .aload_n 0, 1, 0, 0, 0, 0, 0),
  (35, .getfield 25, 3, 12, 6, 1, 0, 1337),
  (38, .iload 4, 2, 0, 0, 0, 0, 0),
  (40, .iaload, 1, 0, 0, 0, 0, 0),
  (41, .iaload, 1, 0, 0, 0, 0, 0),
  (42, .iload_n 1, 1, 0, 0, 0, 0, 0),
  (43, .if_icmp .ne 10, 3, 53, 0, 0, 0, 0),
  (46, .iconst 1, 1, 0, 0, 0, 1, 0),
  (47, .iload 4, 2, 0, 0, 0, 0, 0),
  (49, .ishl, 1, 0, 0, 0, 0, 0),
  (50, .goto 4, 3, 54, 0, 0, 0, 0),
  (53, .iconst 0, 1, 0, 0, 0, 0, 0),
  (54, .ior, 1, 0, 0, 0, 0, 0),
  (55, .istore_n 3, 1, 0, 0, 0, 0, 0),
  (56, .iinc 4 1, 3, 0, 0, 0, 0, 0),
  (59, .goto (-39), 3, 20, 0, 0, 0, 0),
  (62, .iload_n 2, 1, 0, 0, 0, 0, 0),
  (63, .iconst 0, 1, 0, 0, 0, 0, 0),
  (64, .iload_n 3, 1, 0, 0, 0, 0, 0),
  (65, .invokestatic 403, 3, 1300, 1, 1, 0, 1858),
  (68, .invokestatic 194, 3, 1202, 3, 1, 0, 1572),
  (71, .ifCond .ne 5, 3, 76, 0, 0, 0, 0),
  (74, .iconst (-1), 1, 0, 0, 0, (-1), 0),
  (75, .ireturn, 1, 1, 0, 0, 0, 0),
  (76, .aload_n 0, 1, 0, 0, 0, 0, 0),
  (77, .invokevirtual 319, 3, 1229, 1, 0, 12, 1656),
  (80, .iconst (-1), 1, 0, 0, 0, (-1), 0),
  (81, .istore 4, 2, 0, 0, 0, 0, 0),
  (83, .iconst 0, 1, 0, 0, 0, 0, 0),
  (84, .istore 5, 2, 0, 0, 0, 0, 0),
  (86, .iconst 0, 1, 0, 0, 0, 0, 0),
  (87, .istore 6, 2, 0, 0, 0, 0, 0),
  (89, .iconst 0, 1, 0, 0, 0, 0, 0),
  (90, .istore 7, 2, 0, 0, 0, 0, 0),
  (92, .iload 7, 2, 0, 0, 0, 0, 0),
  (94, .iload_n 3, 1, 0, 0, 0, 0, 0),
  (95, .if_icmp .gt 79, 3, 174, 0, 0, 0, 0),
  (98, .iload 7, 2, 0, 0, 0, 0, 0),
  (100, .iload_n 3, 1, 0, 0, 0, 0, 0),
  (101, .iconst (-1), 1, 0, 0, 0, (-1), 0),
  (102, .ixor, 1, 0, 0, 0, 0, 0),
  (103, .iand, 1, 0, 0, 0, 0, 0),
  (104, .ifCond .ne 64, 3, 168, 0, 0, 0, 0),
  (107, .iload 7, 2, 0, 0, 0, 0, 0),
  (109, .invokestatic 403, 3, 1300, 1, 1, 0, 1858),
  (112, .iload_n 2, 1, 0, 0, 0, 0, 0),
  (113, .if_icmp .eq 6, 3, 119, 0, 0, 0, 0),
  (116, .goto 52, 3, 168, 0, 0, 0, 0),
  (119, .aload_n 0, 1, 0, 0, 0, 0, 0),
  (120, .iload_n 1, 1, 0, 0, 0, 0, 0),
  (121, .iload 7, 2, 0, 0, 0, 0, 0),
  (123, .aload_n 0, 1, 0, 0, 0, 0, 0),
  (124, .getfield 31, 3, 12, 9, 0, 0, 1340),
  (127, .invokevirtual 370, 3, 1253, 4, 1, 12, 1756),
  (130, .istore 8, 2, 0, 0, 0, 0, 0),
  (132, .iload 4, 2, 0, 0, 0, 0, 0),
  (134, .iconst (-1), 1, 0, 0, 0, (-1), 0),
  (135, .if_icmp .eq 15, 3, 150, 0, 0, 0, 0),
  (138, .aload_n 0, 1, 0, 0, 0, 0, 0),
  (139, .getfield 358, 3, 12, 59, 0, 0, 1390),
  (142, .iload 4, 2, 0, 0, 0, 0, 0),
  (144, .if_icmp .lt 6, 3, 150, 0, 0, 0, 0),
  (147, .goto 21, 3, 168, 0, 0, 0, 0),
  (150, .aload_n 0, 1, 0, 0, 0, 0, 0),
  (151, .getfield 358, 3, 12, 59, 0, 0, 1390),
  (154, .istore 4, 2, 0, 0, 0, 0, 0),
  (156, .aload_n 0, 1, 0, 0, 0, 0, 0),
  (157, .iload 7, 2, 0, 0, 0, 0, 0),
  (159, .invokevirtual 406, 3, 1274, 2, 1, 12, 1859),
  (162, .istore 5, 2, 0, 0, 0, 0, 0),
  (164, .iload 8, 2, 0, 0, 0, 0, 0),
  (166, .istore 6, 2, 0, 0, 0, 0, 0),
  (168, .iinc 7 1, 3, 0, 0, 0, 0, 0),
  (171, .goto (-79), 3, 92, 0, 0, 0, 0),
  (174, .aload_n 0, 1, 0, 0, 0, 0, 0),
  (175, .iconst 0, 1, 0, 0, 0, 0, 0),
  (176, .putfield 188, 3, 12, 25, 0, 0, 1356),
  (179, .aload_n 0, 1, 0, 0, 0, 0, 0),
  (180, .iload 5, 2, 0, 0, 0, 0, 0),
  (182, .invokevirtual 331, 3, 1204, 2, 0, 12, 1704),
  (185, .aload_n 0, 1, 0, 0, 0, 0, 0),
  (186, .iload 6, 2, 0, 0, 0, 0, 0),
  (188, .invokevirtual 331, 3, 1204, 2, 0, 12, 1704),
  (191, .iload 4, 2, 0, 0, 0, 0, 0),
  (193, .ireturn, 1, 1, 0, 0, 0, 0)]
/-- TollsThatPayModel.ceiling(I)I -/
def z_c1276 : List z_E := [(0, .aload_n 0, 1, 0, 0, 0, 0, 0),
  (1, .iconst 0, 1, 0, 0, 0, 0, 0),
  (2, .putfield 185, 3, 12, 26, 0, 0, 1357),
  (5, .aload_n 0, 1, 0, 0, 0, 0, 0),
  (6, .iload_n 1, 1, 0, 0, 0, 0, 0),
  (7, .invokevirtual 367, 3, 1252, 2, 1, 12, 1747),
  (10, .ifCond .ne 5, 3, 15, 0, 0, 0, 0),
  (13, .iconst (-1), 1, 0, 0, 0, (-1), 0),
  (14, .ireturn, 1, 1, 0, 0, 0, 0),
  (15, .aload_n 0, 1, 0, 0, 0, 0, 0),
  (16, .invokevirtual 319, 3, 1229, 1, 0, 12, 1656),
  (19, .iconst (-1), 1, 0, 0, 0, (-1), 0),
  (20, .istore_n 2, 1, 0, 0, 0, 0, 0),
  (21, .iconst 0, 1, 0, 0, 0, 0, 0),
  (22, .istore_n 3, 1, 0, 0, 0, 0, 0),
  (23, .iconst 0, 1, 0, 0, 0, 0, 0),
  (24, .istore 4, 2, 0, 0, 0, 0, 0),
  (26, .aload_n 0, 1, 0, 0, 0, 0, 0),
  (27, .getfield 31, 3, 12, 9, 0, 0, 1340),
  (30, .istore 5, 2, 0, 0, 0, 0, 0),
  (32, .iload 5, 2, 0, 0, 0, 0, 0),
  (34, .ifCond .lt 47, 3, 81, 0, 0, 0, 0),
  (37, .aload_n 0, 1, 0, 0, 0, 0, 0),
  (38, .iload_n 1, 1, 0, 0, 0, 0, 0),
  (39, .iconst 0, 1, 0, 0, 0, 0, 0),
  (40, .iload 5, 2, 0, 0, 0, 0, 0),
  (42, .invokevirtual 370, 3, 1253, 4, 1, 12, 1756),
  (45, .istore 6, 2, 0, 0, 0, 0, 0),
  (47, .iload_n 2, 1, 0, 0, 0, 0, 0),
  (48, .iconst (-1), 1, 0, 0, 0, (-1), 0),
  (49, .if_icmp .eq 14, 3, 63, 0, 0, 0, 0),
  (52, .aload_n 0, 1, 0, 0, 0, 0, 0),
  (53, .getfield 358, 3, 12, 59, 0, 0, 1390),
  (56, .iload_n 2, 1, 0, 0, 0, 0, 0),
  (57, .if_icmp .lt 6, 3, 63, 0, 0, 0, 0),
  (60, .goto 15, 3, 75, 0, 0, 0, 0),
  (63, .aload_n 0, 1, 0, 0, 0, 0, 0),
  (64, .getfield 358, 3, 12, 59, 0, 0, 1390),
  (67, .istore_n 2, 1, 0, 0, 0, 0, 0),
  (68, .iload 5, 2, 0, 0, 0, 0, 0),
  (70, .istore_n 3, 1, 0, 0, 0, 0, 0),
  (71, .iload 6, 2, 0, 0, 0, 0, 0),
  (73, .istore 4, 2, 0, 0, 0, 0, 0),
  (75, .iinc 5 (-1), 3, 0, 0, 0, 0, 0),
  (78, .goto (-46), 3, 32, 0, 0, 0, 0),
  (81, .aload_n 0, 1, 0, 0, 0, 0, 0),
  (82, .iconst 0, 1, 0, 0, 0, 0, 0),
  (83, .putfield 188, 3, 12, 25, 0, 0, 1356),
  (86, .aload_n 0, 1, 0, 0, 0, 0, 0),
  (87, .iload_n 3, 1, 0, 0, 0, 0, 0),
  (88, .invokevirtual 331, 3, 1204, 2, 0, 12, 1704),
  (91, .aload_n 0, 1, 0, 0, 0, 0, 0),
  (92, .iload 4, 2, 0, 0, 0, 0, 0),
  (94, .invokevirtual 331, 3, 1204, 2, 0, 12, 1704),
  (97, .iload_n 2, 1, 0, 0, 0, 0, 0),
  (98, .ireturn, 1, 1, 0, 0, 0, 0)]
/-- TollsThatPayModel.without(II)I -/
def z_c1277 : List z_E := [(0, .aload_n 0, 1, 0, 0, 0, 0, 0),
  (1, .iconst 0, 1, 0, 0, 0, 0, 0),
  (2, .putfield 185, 3, 12, 26, 0, 0, 1357),
  (5, .aload_n 0, 1, 0, 0, 0, 0, 0),
  (6, .iload_n 1, 1, 0, 0, 0, 0, 0),
  (7, .invokevirtual 367, 3, 1252, 2, 1, 12, 1747),
  (10, .ifCond .eq 11, 3, 21, 0, 0, 0, 0),
  (13, .aload_n 0, 1, 0, 0, 0, 0, 0),
  (14, .iload_n 2, 1, 0, 0, 0, 0, 0),
  (15, .invokevirtual 309, 3, 1205, 2, 1, 12, 1632),
  (18, .ifCond .ne 5, 3, 23, 0, 0, 0, 0),
  (21, .iconst (-1), 1, 0, 0, 0, (-1), 0),
  (22, .ireturn, 1, 1, 0, 0, 0, 0),
  (23, .aload_n 0, 1, 0, 0, 0, 0, 0),
  (24, .invokevirtual 319, 3, 1229, 1, 0, 12, 1656),
  (27, .aload_n 0, 1, 0, 0, 0, 0, 0),
  (28, .iload_n 1, 1, 0, 0, 0, 0, 0),
  (29, .iconst 0, 1, 0, 0, 0, 0, 0),
  (30, .aload_n 0, 1, 0, 0, 0, 0, 0),
  (31, .getfield 31, 3, 12, 9, 0, 0, 1340),
  (34, .invokevirtual 370, 3, 1253, 4, 1, 12, 1756),
  (37, .istore_n 3, 1, 0, 0, 0, 0, 0),
  (38, .aload_n 0, 1, 0, 0, 0, 0, 0),
  (39, .iconst (-1), 1, 0, 0, 0, (-1), 0),
  (40, .iload_n 2, 1, 0, 0, 0, 0, 0),
  (41, .iconst (-1), 1, 0, 0, 0, (-1), 0),
  (42, .invokevirtual 285, 3, 1228, 4, 0, 12, 1660),
  (45, .aload_n 0, 1, 0, 0, 0, 0, 0),
  (46, .iload_n 2, 1, 0, 0, 0, 0, 0),
  (47, .invokevirtual 313, 3, 1208, 2, 1, 12, 1636),
  (50, .istore 4, 2, 0, 0, 0, 0, 0),
  (52, .aload_n 0, 1, 0, 0, 0, 0, 0),
  (53, .iload_n 1, 1, 0, 0, 0, 0, 0),
  (54, .iload 4, 2, 0, 0, 0, 0, 0),
  (56, .iconst (-1), 1, 0, 0, 0, (-1), 0),
  (57, .if_icmp .eq 20, 3, 77, 0, 0, 0, 0),
  (60, .aload_n 0, 1, 0, 0, 0, 0, 0),
  (61, .getfield 22, 3, 12, 4, 1, 0, 1335),
  (64, .iload_n 2, 1, 0, 0, 0, 0, 0),
  (65, .iaload, 1, 0, 0, 0, 0, 0),
  (66, .iload_n 1, 1, 0, 0, 0, 0, 0),
  (67, .if_icmp .ne 10, 3, 77, 0, 0, 0, 0),
  (70, .iconst 1, 1, 0, 0, 0, 1, 0),
  (71, .iload 4, 2, 0, 0, 0, 0, 0),
  (73, .ishl, 1, 0, 0, 0, 0, 0),
  (74, .goto 4, 3, 78, 0, 0, 0, 0),
  (77, .iconst 0, 1, 0, 0, 0, 0, 0),
  (78, .aload_n 0, 1, 0, 0, 0, 0, 0),
  (79, .getfield 31, 3, 12, 9, 0, 0, 1340),
  (82, .invokevirtual 370, 3, 1253, 4, 1, 12, 1756),
  (85, .istore 5, 2, 0, 0, 0, 0, 0),
  (87, .iload 5, 2, 0, 0, 0, 0, 0),
  (89, .iload_n 3, 1, 0, 0, 0, 0, 0),
  (90, .isub, 1, 0, 0, 0, 0, 0),
  (91, .ireturn, 1, 1, 0, 0, 0, 0)]
/-- TollsThatPayModel.ford(IIII)I -/
def z_c1278 : List z_E := [(0, .aload_n 0, 1, 0, 0, 0, 0, 0),
  (1, .iconst 0, 1, 0, 0, 0, 0, 0),
  (2, .putfield 185, 3, 12, 26, 0, 0, 1357),
  (5, .aload_n 0, 1, 0, 0, 0, 0, 0),
  (6, .iload_n 1, 1, 0, 0, 0, 0, 0),
  (7, .invokevirtual 367, 3, 1252, 2, 1, 12, 1747),
  (10, .ifCond .eq 48, 3, 58, 0, 0, 0, 0),
  (13, .iload_n 2, 1, 0, 0, 0, 0, 0),
  (14, .iconst 0, 1, 0, 0, 0, 0, 0),
  (15, .bipush 7, 2, 0, 0, 0, 7, 0),
  (17, .invokestatic 194, 3, 1202, 3, 1, 0, 1572),
  (20, .ifCond .eq 38, 3, 58, 0, 0, 0, 0),
  (23, .iload_n 3, 1, 0, 0, 0, 0, 0),
  (24, .iconst 0, 1, 0, 0, 0, 0, 0),
  (25, .bipush 7, 2, 0, 0, 0, 7, 0),
  (27, .invokestatic 194, 3, 1202, 3, 1, 0, 1572),
  (30, .ifCond .eq 28, 3, 58, 0, 0, 0, 0),
  (33, .iload_n 2, 1, 0, 0, 0, 0, 0),
  (34, .iload_n 3, 1, 0, 0, 0, 0, 0),
  (35, .if_icmp .eq 23, 3, 58, 0, 0, 0, 0),
  (38, .iload 4, 2, 0, 0, 0, 0, 0),
  (40, .iconst 0, 1, 0, 0, 0, 0, 0),
  (41, .bipush 99, 2, 0, 0, 0, 99, 0),
  (43, .invokestatic 194, 3, 1202, 3, 1, 0, 1572),
  (46, .ifCond .eq 12, 3, 58, 0, 0, 0, 0),
  (49, .aload_n 0, 1, 0, 0, 0, 0, 0),
  (50, .getfield 191, 3, 12, 5, 0, 0, 1336),
  (53, .bipush 14, 2, 0, 0, 0, 14, 0),
  (55, .if_icmp .ne 5, 3, 60, 0, 0, 0, 0),
  (58, .iconst (-1), 1, 0, 0, 0, (-1), 0),
  (59, .ireturn, 1, 1, 0, 0, 0, 0),
  (60, .aload_n 0, 1, 0, 0, 0, 0, 0),
  (61, .invokevirtual 319, 3, 1229, 1, 0, 12, 1656),
  (64, .aload_n 0, 1, 0, 0, 0, 0, 0),
  (65, .iload_n 1, 1, 0, 0, 0, 0, 0),
  (66, .iconst 0, 1, 0, 0, 0, 0, 0),
  (67, .aload_n 0, 1, 0, 0, 0, 0, 0),
  (68, .getfield 31, 3, 12, 9, 0, 0, 1340),
  (71, .invokevirtual 370, 3, 1253, 4, 1, 12, 1756),
  (74, .istore 5, 2, 0, 0, 0, 0, 0),
  (76, .aload_n 0, 1, 0, 0, 0, 0, 0),
  (77, .getfield 9, 3, 12, 0, 1, 0, 1331),
  (80, .aload_n 0, 1, 0, 0, 0, 0, 0),
  (81, .getfield 191, 3, 12, 5, 0, 0, 1336),
  (84, .iload_n 2, 1, 0, 0, 0, 0, 0),
  (85, .iastore, 1, 0, 0, 0, 0, 0),
  (86, .aload_n 0, 1, 0, 0, 0, 0, 0),
  (87, .getfield 13, 3, 12, 1, 1, 0, 1332),
  (90, .aload_n 0, 1, 0, 0, 0, 0, 0),
  (91, .getfield 191, 3, 12, 5, 0, 0, 1336),
  (94, .iload_n 3, 1, 0, 0, 0, 0, 0),
  (95, .iastore, 1, 0, 0, 0, 0, 0),
  (96, .aload_n 0, 1, 0, 0, 0, 0, 0),
  (97, .getfield 16, 3, 12, 2, 1, 0, 1333),
  (100, .aload_n 0, 1, 0, 0, 0, 0, 0),
  (101, .getfield 191, 3, 12, 5, 0, 0, 1336),
  (104, .iload 4, 2, 0, 0, 0, 0, 0),
  (106, .iastore, 1, 0, 0, 0, 0, 0),
  (107, .aload_n 0, 1, 0, 0, 0, 0, 0),
  (108, .getfield 19, 3, 12, 3, 1, 0, 1334),
  (111, .aload_n 0, 1, 0, 0, 0, 0, 0),
  (112, .getfield 191, 3, 12, 5, 0, 0, 1336),
  (115, .iconst 0, 1, 0, 0, 0, 0, 0),
  (116, .iastore, 1, 0, 0, 0, 0, 0),
  (117, .aload_n 0, 1, 0, 0, 0, 0, 0),
  (118, .getfield 22, 3, 12, 4, 1, 0, 1335),
  (121, .aload_n 0, 1, 0, 0, 0, 0, 0),
  (122, .getfield 191, 3, 12, 5, 0, 0, 1336),
  (125, .iconst (-1), 1, 0, 0, 0, (-1), 0),
  (126, .iastore, 1, 0, 0, 0, 0, 0),
  (127, .aload_n 0, 1, 0, 0, 0, 0, 0),
  (128, .dup, 1, 0, 0, 0, 0, 0),
  (129, .getfield 191, 3, 12, 5, 0, 0, 1336),
  (132, .iconst 1, 1, 0, 0, 0, 1, 0),
  (133, .iadd, 1, 0, 0, 0, 0, 0),
  (134, .putfield 191, 3, 12, 5, 0, 0, 1336),
  (137, .aload_n 0, 1, 0, 0, 0, 0, 0),
  (138, .invokevirtual 260, 3, 1222, 1, 1, 12, 1620),
  (141, .istore 6, 2, 0, 0, 0, 0, 0),
  (143, .iconst 0, 1, 0, 0, 0, 0, 0),
  (144, .istore 7, 2, 0, 0, 0, 0, 0),
  (146, .iload 6, 2, 0, 0, 0, 0, 0),
  (148, .ifCond .eq 19, 3, 167, 0, 0, 0, 0),
  (151, .aload_n 0, 1, 0, 0, 0, 0, 0),
  (152, .invokevirtual 319, 3, 1229, 1, 0, 12, 1656),
  (155, .aload_n 0, 1, 0, 0, 0, 0, 0),
  (156, .iload_n 1, 1, 0, 0, 0, 0, 0),
  (157, .iconst 0, 1, 0, 0, 0, 0, 0),
  (158, .aload_n 0, 1, 0, 0, 0, 0, 0),
  (159, .getfield 31, 3, 12, 9, 0, 0, 1340),
  (162, .invokevirtual 370, 3, 1253, 4, 1, 12, 1756),
  (165, .istore 7, 2, 0, 0, 0, 0, 0),
  (167, .aload_n 0, 1, 0, 0, 0, 0, 0),
  (168, .dup, 1, 0, 0, 0, 0, 0),
  (169, .getfield 191, 3, 12, 5, 0, 0, 1336),
  (172, .iconst 1, 1, 0, 0, 0, 1, 0),
  (173, .isub, 1, 0, 0, 0, 0, 0),
  (174, .putfield 191, 3, 12, 5, 0, 0, 1336),
  (177, .aload_n 0, 1, 0, 0, 0, 0, 0),
  (178, .invokevirtual 260, 3, 1222, 1, 1, 12, 1620),
  (181, .pop, 1, 0, 0, 0, 0, 0),
  (182, .iload 6, 2, 0, 0, 0, 0, 0),
  (184, .ifCond .eq 11, 3, 195, 0, 0, 0, 0),
  (187, .iload 7, 2, 0, 0, 0, 0, 0),
  (189, .iload 5, 2, 0, 0, 0, 0, 0),
  (191, .isub, 1, 0, 0, 0, 0, 0),
  (192, .goto 4, 3, 196, 0, 0, 0, 0),
  (195, .iconst (-1), 1, 0, 0, 0, (-1), 0),
  (196, .ireturn, 1, 1, 0, 0, 0, 0)]
/-- TollsThatPayModel.weight(II)I -/
def z_c1279 : List z_E := [(0, .aload_n 0, 1, 0, 0, 0, 0, 0),
  (1, .iconst 0, 1, 0, 0, 0, 0, 0),
  (2, .putfield 185, 3, 12, 26, 0, 0, 1357),
  (5, .iload_n 1, 1, 0, 0, 0, 0, 0),
  (6, .iconst 0, 1, 0, 0, 0, 0, 0),
  (7, .bipush 9, 2, 0, 0, 0, 9, 0),
  (9, .invokestatic 194, 3, 1202, 3, 1, 0, 1572),
  (12, .ifCond .eq 13, 3, 25, 0, 0, 0, 0),
  (15, .iload_n 2, 1, 0, 0, 0, 0, 0),
  (16, .iconst 0, 1, 0, 0, 0, 0, 0),
  (17, .bipush 99, 2, 0, 0, 0, 99, 0),
  (19, .invokestatic 194, 3, 1202, 3, 1, 0, 1572),
  (22, .ifCond .ne 5, 3, 27, 0, 0, 0, 0),
  (25, .iconst (-1), 1, 0, 0, 0, (-1), 0),
  (26, .ireturn, 1, 1, 0, 0, 0, 0),
  (27, .aload_n 0, 1, 0, 0, 0, 0, 0),
  (28, .getfield 63, 3, 12, 21, 1, 0, 1352),
  (31, .iload_n 1, 1, 0, 0, 0, 0, 0),
  (32, .iaload, 1, 0, 0, 0, 0, 0),
  (33, .istore_n 3, 1, 0, 0, 0, 0, 0),
  (34, .aload_n 0, 1, 0, 0, 0, 0, 0),
  (35, .getfield 63, 3, 12, 21, 1, 0, 1352),
  (38, .iload_n 1, 1, 0, 0, 0, 0, 0),
  (39, .iload_n 2, 1, 0, 0, 0, 0, 0),
  (40, .iastore, 1, 0, 0, 0, 0, 0),
  (41, .iload_n 3, 1, 0, 0, 0, 0, 0),
  (42, .ireturn, 1, 1, 0, 0, 0, 0)]
/-- TollsThatPayModel.byWorths(I)I -/
def z_c1280 : List z_E := [(0, .iconst 0, 1, 0, 0, 0, 0, 0),
  (1, .istore_n 2, 1, 0, 0, 0, 0, 0),
  (2, .aload_n 0, 1, 0, 0, 0, 0, 0),
  (3, .invokevirtual 351, 3, 1247, 1, 0, 12, 1760),
  (6, .iconst 0, 1, 0, 0, 0, 0, 0),
  (7, .istore_n 3, 1, 0, 0, 0, 0, 0),
  (8, .iload_n 3, 1, 0, 0, 0, 0, 0),
  (9, .bipush 10, 2, 0, 0, 0, 10, 0),
  (11, .if_icmp .ge 118, 3, 129, 0, 0, 0, 0),
  (14, .aload_n 0, 1, 0, 0, 0, 0, 0),
  (15, .iconst (-1), 1, 0, 0, 0, (-1), 0),
  (16, .iconst (-1), 1, 0, 0, 0, (-1), 0),
  (17, .iload_n 3, 1, 0, 0, 0, 0, 0),
  (18, .invokevirtual 285, 3, 1228, 4, 0, 12, 1660),
  (21, .aload_n 0, 1, 0, 0, 0, 0, 0),
  (22, .iload_n 1, 1, 0, 0, 0, 0, 0),
  (23, .iconst 0, 1, 0, 0, 0, 0, 0),
  (24, .invokevirtual 354, 3, 1249, 3, 0, 12, 1764),
  (27, .iconst 0, 1, 0, 0, 0, 0, 0),
  (28, .istore_n 2, 1, 0, 0, 0, 0, 0),
  (29, .aload_n 0, 1, 0, 0, 0, 0, 0),
  (30, .invokevirtual 337, 3, 1233, 1, 0, 12, 1723),
  (33, .iload_n 3, 1, 0, 0, 0, 0, 0),
  (34, .ifCond .ne 19, 3, 53, 0, 0, 0, 0),
  (37, .aload_n 0, 1, 0, 0, 0, 0, 0),
  (38, .getfield 176, 3, 12, 70, 1, 0, 1401),
  (41, .iload_n 2, 1, 0, 0, 0, 0, 0),
  (42, .iconst 0, 1, 0, 0, 0, 0, 0),
  (43, .iastore, 1, 0, 0, 0, 0, 0),
  (44, .aload_n 0, 1, 0, 0, 0, 0, 0),
  (45, .getfield 179, 3, 12, 71, 1, 0, 1402),
  (48, .iload_n 2, 1, 0, 0, 0, 0, 0),
  (49, .ldc_w 409, 3, 0, 0, 0, 2147483647, 1887),
  (52, .iastore, 1, 0, 0, 0, 0, 0),
  (53, .aload_n 0, 1, 0, 0, 0, 0, 0),
  (54, .getfield 176, 3, 12, 70, 1, 0, 1401),
  (57, .iload_n 2, 1, 0, 0, 0, 0, 0),
  (58, .dup2, 1, 0, 0, 0, 0, 0),
  (59, .iaload, 1, 0, 0, 0, 0, 0),
  (60, .aload_n 0, 1, 0, 0, 0, 0, 0),
  (61, .getfield 63, 3, 12, 21, 1, 0, 1352),
  (64, .iload_n 3, 1, 0, 0, 0, 0, 0),
  (65, .iaload, 1, 0, 0, 0, 0, 0),
  (66, .aload_n 0, 1, 0, 0, 0, 0, 0),
  (67, .getfield 137, 3, 12, 53, 1, 0, 1384),
  (70, .iload_n 1, 1, 0, 0, 0, 0, 0),
  (71, .iaload, 1, 0, 0, 0, 0, 0),
  (72, .imul, 1, 0, 0, 0, 0, 0),
  (73, .iadd, 1, 0, 0, 0, 0, 0),
  (74, .iastore, 1, 0, 0, 0, 0, 0),
  (75, .aload_n 0, 1, 0, 0, 0, 0, 0),
  (76, .getfield 63, 3, 12, 21, 1, 0, 1352),
  (79, .iload_n 3, 1, 0, 0, 0, 0, 0),
  (80, .iaload, 1, 0, 0, 0, 0, 0),
  (81, .ifCond .le 24, 3, 105, 0, 0, 0, 0),
  (84, .aload_n 0, 1, 0, 0, 0, 0, 0),
  (85, .getfield 179, 3, 12, 71, 1, 0, 1402),
  (88, .iload_n 2, 1, 0, 0, 0, 0, 0),
  (89, .aload_n 0, 1, 0, 0, 0, 0, 0),
  (90, .getfield 179, 3, 12, 71, 1, 0, 1402),
  (93, .iload_n 2, 1, 0, 0, 0, 0, 0),
  (94, .iaload, 1, 0, 0, 0, 0, 0),
  (95, .aload_n 0, 1, 0, 0, 0, 0, 0),
  (96, .getfield 137, 3, 12, 53, 1, 0, 1384),
  (99, .iload_n 1, 1, 0, 0, 0, 0, 0),
  (100, .iaload, 1, 0, 0, 0, 0, 0),
  (101, .invokestatic 249, 3, 9996, 0, 0, 0, 1615),
  (104, .iastore, 1, 0, 0, 0, 0, 0),
  (105, .iinc 2 1, 3, 0, 0, 0, 0, 0),
  (108, .aload_n 0, 1, 0, 0, 0, 0, 0),
  (109, .aload_n 0, 1, 0, 0, 0, 0, 0),
  (110, .getfield 31, 3, 12, 9, 0, 0, 1340),
  (113, .invokevirtual 361, 3, 1250, 2, 1, 12, 1768),
  (116, .ifCond .ne (-87), 3, 29, 0, 0, 0, 0),
  (119, .aload_n 0, 1, 0, 0, 0, 0, 0),
  (120, .invokevirtual 364, 3, 1248, 1, 0, 12, 1772),
  (123, .iinc 3 1, 3, 0, 0, 0, 0, 0),
  (126, .goto (-118), 3, 8, 0, 0, 0, 0),
  (129, .iload_n 2, 1, 0, 0, 0, 0, 0),
  (130, .ireturn, 1, 1, 0, 0, 0, 0)]
/-- TollsThatPayModel.tellSet(II)V -/
def z_c1281 : List z_E := [(0, .aload_n 0, 1, 0, 0, 0, 0, 0),
  (1, .invokevirtual 351, 3, 1247, 1, 0, 12, 1760),
  (4, .aload_n 0, 1, 0, 0, 0, 0, 0),
  (5, .iload_n 1, 1, 0, 0, 0, 0, 0),
  (6, .iconst 0, 1, 0, 0, 0, 0, 0),
  (7, .invokevirtual 354, 3, 1249, 3, 0, 12, 1764),
  (10, .iconst 0, 1, 0, 0, 0, 0, 0),
  (11, .istore_n 3, 1, 0, 0, 0, 0, 0),
  (12, .iload_n 3, 1, 0, 0, 0, 0, 0),
  (13, .iload_n 2, 1, 0, 0, 0, 0, 0),
  (14, .if_icmp .ge 18, 3, 32, 0, 0, 0, 0),
  (17, .aload_n 0, 1, 0, 0, 0, 0, 0),
  (18, .aload_n 0, 1, 0, 0, 0, 0, 0),
  (19, .getfield 31, 3, 12, 9, 0, 0, 1340),
  (22, .invokevirtual 361, 3, 1250, 2, 1, 12, 1768),
  (25, .pop, 1, 0, 0, 0, 0, 0),
  (26, .iinc 3 1, 3, 0, 0, 0, 0, 0),
  (29, .goto (-17), 3, 12, 0, 0, 0, 0),
  (32, .aload_n 0, 1, 0, 0, 0, 0, 0),
  (33, .iconst 0, 1, 0, 0, 0, 0, 0),
  (34, .putfield 188, 3, 12, 25, 0, 0, 1356),
  (37, .aload_n 0, 1, 0, 0, 0, 0, 0),
  (38, .aload_n 0, 1, 0, 0, 0, 0, 0),
  (39, .getfield 28, 3, 12, 7, 1, 0, 1338),
  (42, .iload_n 1, 1, 0, 0, 0, 0, 0),
  (43, .invokevirtual 373, 3, 1254, 3, 0, 12, 1776),
  (46, .aload_n 0, 1, 0, 0, 0, 0, 0),
  (47, .invokevirtual 364, 3, 1248, 1, 0, 12, 1772),
  (50, .return_, 1, 0, 0, 0, 0, 0)]
/-- TollsThatPayModel.mean(I)I -/
def z_c1282 : List z_E := [(0, .aload_n 0, 1, 0, 0, 0, 0, 0),
  (1, .iconst 0, 1, 0, 0, 0, 0, 0),
  (2, .putfield 185, 3, 12, 26, 0, 0, 1357),
  (5, .aload_n 0, 1, 0, 0, 0, 0, 0),
  (6, .iload_n 1, 1, 0, 0, 0, 0, 0),
  (7, .invokevirtual 367, 3, 1252, 2, 1, 12, 1747),
  (10, .ifCond .ne 5, 3, 15, 0, 0, 0, 0),
  (13, .iconst (-1), 1, 0, 0, 0, (-1), 0),
  (14, .ireturn, 1, 1, 0, 0, 0, 0),
  (15, .aload_n 0, 1, 0, 0, 0, 0, 0),
  (16, .iload_n 1, 1, 0, 0, 0, 0, 0),
  (17, .invokevirtual 410, 3, 1280, 2, 1, 12, 1883),
  (20, .istore_n 2, 1, 0, 0, 0, 0, 0),
  (21, .iconst 0, 1, 0, 0, 0, 0, 0),
  (22, .istore_n 3, 1, 0, 0, 0, 0, 0),
  (23, .iconst 1, 1, 0, 0, 0, 1, 0),
  (24, .istore 4, 2, 0, 0, 0, 0, 0),
  (26, .iload 4, 2, 0, 0, 0, 0, 0),
  (28, .iload_n 2, 1, 0, 0, 0, 0, 0),
  (29, .if_icmp .ge 28, 3, 57, 0, 0, 0, 0),
  (32, .aload_n 0, 1, 0, 0, 0, 0, 0),
  (33, .getfield 176, 3, 12, 70, 1, 0, 1401),
  (36, .iload 4, 2, 0, 0, 0, 0, 0),
  (38, .iaload, 1, 0, 0, 0, 0, 0),
  (39, .aload_n 0, 1, 0, 0, 0, 0, 0),
  (40, .getfield 176, 3, 12, 70, 1, 0, 1401),
  (43, .iload_n 3, 1, 0, 0, 0, 0, 0),
  (44, .iaload, 1, 0, 0, 0, 0, 0),
  (45, .if_icmp .le 6, 3, 51, 0, 0, 0, 0),
  (48, .iload 4, 2, 0, 0, 0, 0, 0),
  (50, .istore_n 3, 1, 0, 0, 0, 0, 0),
  (51, .iinc 4 1, 3, 0, 0, 0, 0, 0),
  (54, .goto (-28), 3, 26, 0, 0, 0, 0),
  (57, .aload_n 0, 1, 0, 0, 0, 0, 0),
  (58, .iload_n 1, 1, 0, 0, 0, 0, 0),
  (59, .iload_n 3, 1, 0, 0, 0, 0, 0),
  (60, .invokevirtual 413, 3, 1281, 3, 0, 12, 1888),
  (63, .aload_n 0, 1, 0, 0, 0, 0, 0),
  (64, .getfield 176, 3, 12, 70, 1, 0, 1401),
  (67, .iload_n 3, 1, 0, 0, 0, 0, 0),
  (68, .iaload, 1, 0, 0, 0, 0, 0),
  (69, .ireturn, 1, 1, 0, 0, 0, 0)]
/-- TollsThatPayModel.safe(I)I -/
def z_c1283 : List z_E := [(0, .aload_n 0, 1, 0, 0, 0, 0, 0),
  (1, .iconst 0, 1, 0, 0, 0, 0, 0),
  (2, .putfield 185, 3, 12, 26, 0, 0, 1357),
  (5, .iconst 0, 1, 0, 0, 0, 0, 0),
  (6, .istore_n 2, 1, 0, 0, 0, 0, 0),
  (7, .iconst 0, 1, 0, 0, 0, 0, 0),
  (8, .istore_n 3, 1, 0, 0, 0, 0, 0),
  (9, .iload_n 3, 1, 0, 0, 0, 0, 0),
  (10, .bipush 10, 2, 0, 0, 0, 10, 0),
  (12, .if_icmp .ge 28, 3, 40, 0, 0, 0, 0),
  (15, .iload_n 2, 1, 0, 0, 0, 0, 0),
  (16, .ifCond .ne 12, 3, 28, 0, 0, 0, 0),
  (19, .aload_n 0, 1, 0, 0, 0, 0, 0),
  (20, .getfield 63, 3, 12, 21, 1, 0, 1352),
  (23, .iload_n 3, 1, 0, 0, 0, 0, 0),
  (24, .iaload, 1, 0, 0, 0, 0, 0),
  (25, .ifCond .le 7, 3, 32, 0, 0, 0, 0),
  (28, .iconst 1, 1, 0, 0, 0, 1, 0),
  (29, .goto 4, 3, 33, 0, 0, 0, 0),
  (32, .iconst 0, 1, 0, 0, 0, 0, 0),
  (33, .istore_n 2, 1, 0, 0, 0, 0, 0),
  (34, .iinc 3 1, 3, 0, 0, 0, 0, 0),
  (37, .goto (-28), 3, 9, 0, 0, 0, 0),
  (40, .aload_n 0, 1, 0, 0, 0, 0, 0),
  (41, .iload_n 1, 1, 0, 0, 0, 0, 0),
  (42, .invokevirtual 367, 3, 1252, 2, 1, 12, 1747),
  (45, .ifCond .eq 7, 3, 52, 0, 0, 0, 0),
  (48, .iload_n 2, 1, 0, 0, 0, 0, 0),
  (49, .ifCond .ne 5, 3, 54, 0, 0, 0, 0),
  (52, .iconst (-1), 1, 0, 0, 0, (-1), 0),
  (53, .ireturn, 1, 1, 0, 0, 0, 0),
  (54, .aload_n 0, 1, 0, 0, 0, 0, 0),
  (55, .iload_n 1, 1, 0, 0, 0, 0, 0),
  (56, .invokevirtual 410, 3, 1280, 2, 1, 12, 1883),
  (59, .istore_n 3, 1, 0, 0, 0, 0, 0),
  (60, .iconst 0, 1, 0, 0, 0, 0, 0),
  (61, .istore 4, 2, 0, 0, 0, 0, 0),
  (63, .iconst 1, 1, 0, 0, 0, 1, 0),
  (64, .istore 5, 2, 0, 0, 0, 0, 0),
  (66, .iload 5, 2, 0, 0, 0, 0, 0),
  (68, .iload_n 3, 1, 0, 0, 0, 0, 0),
  (69, .if_icmp .ge 30, 3, 99, 0, 0, 0, 0),
  (72, .aload_n 0, 1, 0, 0, 0, 0, 0),
  (73, .getfield 179, 3, 12, 71, 1, 0, 1402),
  (76, .iload 5, 2, 0, 0, 0, 0, 0),
  (78, .iaload, 1, 0, 0, 0, 0, 0),
  (79, .aload_n 0, 1, 0, 0, 0, 0, 0),
  (80, .getfield 179, 3, 12, 71, 1, 0, 1402),
  (83, .iload 4, 2, 0, 0, 0, 0, 0),
  (85, .iaload, 1, 0, 0, 0, 0, 0),
  (86, .if_icmp .le 7, 3, 93, 0, 0, 0, 0),
  (89, .iload 5, 2, 0, 0, 0, 0, 0),
  (91, .istore 4, 2, 0, 0, 0, 0, 0),
  (93, .iinc 5 1, 3, 0, 0, 0, 0, 0),
  (96, .goto (-30), 3, 66, 0, 0, 0, 0),
  (99, .aload_n 0, 1, 0, 0, 0, 0, 0),
  (100, .iload_n 1, 1, 0, 0, 0, 0, 0),
  (101, .iload 4, 2, 0, 0, 0, 0, 0),
  (103, .invokevirtual 413, 3, 1281, 3, 0, 12, 1888),
  (106, .aload_n 0, 1, 0, 0, 0, 0, 0),
  (107, .getfield 179, 3, 12, 71, 1, 0, 1402),
  (110, .iload 4, 2, 0, 0, 0, 0, 0),
  (112, .iaload, 1, 0, 0, 0, 0, 0),
  (113, .ireturn, 1, 1, 0, 0, 0, 0)]
/-- TollsThatPayModel.learn(II)I -/
def z_c1284 : List z_E := [(0, .aload_n 0, 1, 0, 0, 0, 0, 0),
  (1, .iconst 0, 1, 0, 0, 0, 0, 0),
  (2, .putfield 185, 3, 12, 26, 0, 0, 1357),
  (5, .aload_n 0, 1, 0, 0, 0, 0, 0),
  (6, .iload_n 1, 1, 0, 0, 0, 0, 0),
  (7, .invokevirtual 309, 3, 1205, 2, 1, 12, 1632),
  (10, .ifCond .eq 7, 3, 17, 0, 0, 0, 0),
  (13, .iload_n 2, 1, 0, 0, 0, 0, 0),
  (14, .ifCond .ge 5, 3, 19, 0, 0, 0, 0),
  (17, .iconst (-1), 1, 0, 0, 0, (-1), 0),
  (18, .ireturn, 1, 1, 0, 0, 0, 0),
  (19, .iconst 0, 1, 0, 0, 0, 0, 0),
  (20, .istore_n 3, 1, 0, 0, 0, 0, 0),
  (21, .iconst 0, 1, 0, 0, 0, 0, 0),
  (22, .istore 4, 2, 0, 0, 0, 0, 0),
  (24, .iload 4, 2, 0, 0, 0, 0, 0),
  (26, .bipush 10, 2, 0, 0, 0, 10, 0),
  (28, .if_icmp .ge 33, 3, 61, 0, 0, 0, 0),
  (31, .aload_n 0, 1, 0, 0, 0, 0, 0),
  (32, .iconst (-1), 1, 0, 0, 0, (-1), 0),
  (33, .iconst (-1), 1, 0, 0, 0, (-1), 0),
  (34, .iload 4, 2, 0, 0, 0, 0, 0),
  (36, .invokevirtual 285, 3, 1228, 4, 0, 12, 1660),
  (39, .aload_n 0, 1, 0, 0, 0, 0, 0),
  (40, .iload_n 1, 1, 0, 0, 0, 0, 0),
  (41, .invokevirtual 340, 3, 1245, 2, 1, 12, 1735),
  (44, .iload_n 2, 1, 0, 0, 0, 0, 0),
  (45, .if_icmp .ne 10, 3, 55, 0, 0, 0, 0),
  (48, .iload_n 3, 1, 0, 0, 0, 0, 0),
  (49, .iconst 1, 1, 0, 0, 0, 1, 0),
  (50, .iload 4, 2, 0, 0, 0, 0, 0),
  (52, .ishl, 1, 0, 0, 0, 0, 0),
  (53, .ior, 1, 0, 0, 0, 0, 0),
  (54, .istore_n 3, 1, 0, 0, 0, 0, 0),
  (55, .iinc 4 1, 3, 0, 0, 0, 0, 0),
  (58, .goto (-34), 3, 24, 0, 0, 0, 0),
  (61, .iload_n 3, 1, 0, 0, 0, 0, 0),
  (62, .ireturn, 1, 1, 0, 0, 0, 0)]
/-- TollsThatPayModel.last(I)I -/
def z_c1285 : List z_E := [(0, .aload_n 0, 1, 0, 0, 0, 0, 0),
  (1, .iconst 0, 1, 0, 0, 0, 0, 0),
  (2, .putfield 185, 3, 12, 26, 0, 0, 1357),
  (5, .aload_n 0, 1, 0, 0, 0, 0, 0),
  (6, .iload_n 1, 1, 0, 0, 0, 0, 0),
  (7, .invokevirtual 380, 3, 1262, 2, 1, 12, 1805),
  (10, .istore_n 2, 1, 0, 0, 0, 0, 0),
  (11, .iload_n 2, 1, 0, 0, 0, 0, 0),
  (12, .iconst (-1), 1, 0, 0, 0, (-1), 0),
  (13, .if_icmp .eq 16, 3, 29, 0, 0, 0, 0),
  (16, .aload_n 0, 1, 0, 0, 0, 0, 0),
  (17, .aload_n 0, 1, 0, 0, 0, 0, 0),
  (18, .getfield 22, 3, 12, 4, 1, 0, 1335),
  (21, .iload_n 1, 1, 0, 0, 0, 0, 0),
  (22, .iaload, 1, 0, 0, 0, 0, 0),
  (23, .invokevirtual 367, 3, 1252, 2, 1, 12, 1747),
  (26, .ifCond .ne 5, 3, 31, 0, 0, 0, 0),
  (29, .iconst (-1), 1, 0, 0, 0, (-1), 0),
  (30, .ireturn, 1, 1, 0, 0, 0, 0),
  (31, .aload_n 0, 1, 0, 0, 0, 0, 0),
  (32, .invokevirtual 319, 3, 1229, 1, 0, 12, 1656),
  (35, .aload_n 0, 1, 0, 0, 0, 0, 0),
  (36, .aload_n 0, 1, 0, 0, 0, 0, 0),
  (37, .getfield 22, 3, 12, 4, 1, 0, 1335),
  (40, .iload_n 1, 1, 0, 0, 0, 0, 0),
  (41, .iaload, 1, 0, 0, 0, 0, 0),
  (42, .iconst 0, 1, 0, 0, 0, 0, 0),
  (43, .aload_n 0, 1, 0, 0, 0, 0, 0),
  (44, .getfield 31, 3, 12, 9, 0, 0, 1340),
  (47, .invokevirtual 370, 3, 1253, 4, 1, 12, 1756),
  (50, .aload_n 0, 1, 0, 0, 0, 0, 0),
  (51, .aload_n 0, 1, 0, 0, 0, 0, 0),
  (52, .getfield 22, 3, 12, 4, 1, 0, 1335),
  (55, .iload_n 1, 1, 0, 0, 0, 0, 0),
  (56, .iaload, 1, 0, 0, 0, 0, 0),
  (57, .iconst 1, 1, 0, 0, 0, 1, 0),
  (58, .iload_n 2, 1, 0, 0, 0, 0, 0),
  (59, .ishl, 1, 0, 0, 0, 0, 0),
  (60, .aload_n 0, 1, 0, 0, 0, 0, 0),
  (61, .getfield 31, 3, 12, 9, 0, 0, 1340),
  (64, .invokevirtual 370, 3, 1253, 4, 1, 12, 1756),
  (67, .isub, 1, 0, 0, 0, 0, 0),
  (68, .ireturn, 1, 1, 0, 0, 0, 0)]
/-- TollsThatPayModel.orders(III)V -/
def z_c1286 : List z_E := [(0, .iload_n 2, 1, 0, 0, 0, 0, 0),
  (1, .iload_n 1, 1, 0, 0, 0, 0, 0),
  (2, .if_icmp .ne 14, 3, 16, 0, 0, 0, 0),
  (5, .aload_n 0, 1, 0, 0, 0, 0, 0),
  (6, .dup, 1, 0, 0, 0, 0, 0),
  (7, .getfield 416, 3, 12, 74, 0, 0, 1405),
  (10, .iconst 1, 1, 0, 0, 0, 1, 0),
  (11, .iadd, 1, 0, 0, 0, 0, 0),
  (12, .putfield 416, 3, 12, 74, 0, 0, 1405),
  (15, .return_, 1, 0, 0, 0, 0, 0),
  (16, .iconst 0, 1, 0, 0, 0, 0, 0),
  (17, .istore 4, 2, 0, 0, 0, 0, 0),
  (19, .iload 4, 2, 0, 0, 0, 0, 0),
  (21, .aload_n 0, 1, 0, 0, 0, 0, 0),
  (22, .getfield 201, 3, 12, 8, 0, 0, 1339),
  (25, .if_icmp .ge 91, 3, 116, 0, 0, 0, 0),
  (28, .iload_n 1, 1, 0, 0, 0, 0, 0),
  (29, .iload 4, 2, 0, 0, 0, 0, 0),
  (31, .ishr, 1, 0, 0, 0, 0, 0),
  (32, .iconst 1, 1, 0, 0, 0, 1, 0),
  (33, .iand, 1, 0, 0, 0, 0, 0),
  (34, .ifCond .eq 76, 3, 110, 0, 0, 0, 0),
  (37, .iload_n 2, 1, 0, 0, 0, 0, 0),
  (38, .iload 4, 2, 0, 0, 0, 0, 0),
  (40, .ishr, 1, 0, 0, 0, 0, 0),
  (41, .iconst 1, 1, 0, 0, 0, 1, 0),
  (42, .iand, 1, 0, 0, 0, 0, 0),
  (43, .iconst 1, 1, 0, 0, 0, 1, 0),
  (44, .if_icmp .ne 6, 3, 50, 0, 0, 0, 0),
  (47, .goto 63, 3, 110, 0, 0, 0, 0),
  (50, .aload_n 0, 1, 0, 0, 0, 0, 0),
  (51, .getfield 416, 3, 12, 74, 0, 0, 1405),
  (54, .istore 5, 2, 0, 0, 0, 0, 0),
  (56, .aload_n 0, 1, 0, 0, 0, 0, 0),
  (57, .iload_n 1, 1, 0, 0, 0, 0, 0),
  (58, .iload_n 2, 1, 0, 0, 0, 0, 0),
  (59, .iconst 1, 1, 0, 0, 0, 1, 0),
  (60, .iload 4, 2, 0, 0, 0, 0, 0),
  (62, .ishl, 1, 0, 0, 0, 0, 0),
  (63, .ior, 1, 0, 0, 0, 0, 0),
  (64, .iload_n 3, 1, 0, 0, 0, 0, 0),
  (65, .invokevirtual 419, 3, 1286, 4, 0, 12, 1908),
  (68, .iload 4, 2, 0, 0, 0, 0, 0),
  (70, .iload_n 3, 1, 0, 0, 0, 0, 0),
  (71, .if_icmp .ne 39, 3, 110, 0, 0, 0, 0),
  (74, .aload_n 0, 1, 0, 0, 0, 0, 0),
  (75, .dup, 1, 0, 0, 0, 0, 0),
  (76, .getfield 422, 3, 12, 73, 2, 0, 1404),
  (79, .aload_n 0, 1, 0, 0, 0, 0, 0),
  (80, .getfield 416, 3, 12, 74, 0, 0, 1405),
  (83, .iload 5, 2, 0, 0, 0, 0, 0),
  (85, .isub, 1, 0, 0, 0, 0, 0),
  (86, .i2l, 1, 0, 0, 0, 0, 0),
  (87, .aload_n 0, 1, 0, 0, 0, 0, 0),
  (88, .getfield 182, 3, 12, 72, 1, 0, 1403),
  (91, .iload_n 2, 1, 0, 0, 0, 0, 0),
  (92, .iconst 1, 1, 0, 0, 0, 1, 0),
  (93, .iload_n 3, 1, 0, 0, 0, 0, 0),
  (94, .ishl, 1, 0, 0, 0, 0, 0),
  (95, .ior, 1, 0, 0, 0, 0, 0),
  (96, .iaload, 1, 0, 0, 0, 0, 0),
  (97, .aload_n 0, 1, 0, 0, 0, 0, 0),
  (98, .getfield 182, 3, 12, 72, 1, 0, 1403),
  (101, .iload_n 2, 1, 0, 0, 0, 0, 0),
  (102, .iaload, 1, 0, 0, 0, 0, 0),
  (103, .isub, 1, 0, 0, 0, 0, 0),
  (104, .i2l, 1, 0, 0, 0, 0, 0),
  (105, .lmul, 1, 0, 0, 0, 0, 0),
  (106, .ladd, 1, 0, 0, 0, 0, 0),
  (107, .putfield 422, 3, 12, 73, 2, 0, 1404),
  (110, .iinc 4 1, 3, 0, 0, 0, 0, 0),
  (113, .goto (-94), 3, 19, 0, 0, 0, 0),
  (116, .return_, 1, 0, 0, 0, 0, 0)]
/-- TollsThatPayModel.fair(I)I -/
def z_c1287 : List z_E := [(0, .aload_n 0, 1, 0, 0, 0, 0, 0),
  (1, .iconst 0, 1, 0, 0, 0, 0, 0),
  (2, .putfield 185, 3, 12, 26, 0, 0, 1357),
  (5, .aload_n 0, 1, 0, 0, 0, 0, 0),
  (6, .iload_n 1, 1, 0, 0, 0, 0, 0),
  (7, .invokevirtual 380, 3, 1262, 2, 1, 12, 1805),
  (10, .istore_n 2, 1, 0, 0, 0, 0, 0),
  (11, .iload_n 2, 1, 0, 0, 0, 0, 0),
  (12, .iconst (-1), 1, 0, 0, 0, (-1), 0),
  (13, .if_icmp .eq 16, 3, 29, 0, 0, 0, 0),
  (16, .aload_n 0, 1, 0, 0, 0, 0, 0),
  (17, .aload_n 0, 1, 0, 0, 0, 0, 0),
  (18, .getfield 22, 3, 12, 4, 1, 0, 1335),
  (21, .iload_n 1, 1, 0, 0, 0, 0, 0),
  (22, .iaload, 1, 0, 0, 0, 0, 0),
  (23, .invokevirtual 367, 3, 1252, 2, 1, 12, 1747),
  (26, .ifCond .ne 5, 3, 31, 0, 0, 0, 0),
  (29, .iconst (-1), 1, 0, 0, 0, (-1), 0),
  (30, .ireturn, 1, 1, 0, 0, 0, 0),
  (31, .aload_n 0, 1, 0, 0, 0, 0, 0),
  (32, .invokevirtual 319, 3, 1229, 1, 0, 12, 1656),
  (35, .iconst 0, 1, 0, 0, 0, 0, 0),
  (36, .istore_n 3, 1, 0, 0, 0, 0, 0),
  (37, .iconst 0, 1, 0, 0, 0, 0, 0),
  (38, .istore 4, 2, 0, 0, 0, 0, 0),
  (40, .iload 4, 2, 0, 0, 0, 0, 0),
  (42, .aload_n 0, 1, 0, 0, 0, 0, 0),
  (43, .getfield 201, 3, 12, 8, 0, 0, 1339),
  (46, .if_icmp .ge 41, 3, 87, 0, 0, 0, 0),
  (49, .iload_n 3, 1, 0, 0, 0, 0, 0),
  (50, .aload_n 0, 1, 0, 0, 0, 0, 0),
  (51, .getfield 22, 3, 12, 4, 1, 0, 1335),
  (54, .aload_n 0, 1, 0, 0, 0, 0, 0),
  (55, .getfield 25, 3, 12, 6, 1, 0, 1337),
  (58, .iload 4, 2, 0, 0, 0, 0, 0),
  (60, .iaload, 1, 0, 0, 0, 0, 0),
  (61, .iaload, 1, 0, 0, 0, 0, 0),
  (62, .aload_n 0, 1, 0, 0, 0, 0, 0),
  (63, .getfield 22, 3, 12, 4, 1, 0, 1335),
  (66, .iload_n 1, 1, 0, 0, 0, 0, 0),
  (67, .iaload, 1, 0, 0, 0, 0, 0),
  (68, .if_icmp .ne 10, 3, 78, 0, 0, 0, 0),
  (71, .iconst 1, 1, 0, 0, 0, 1, 0),
  (72, .iload 4, 2, 0, 0, 0, 0, 0),
  (74, .ishl, 1, 0, 0, 0, 0, 0),
  (75, .goto 4, 3, 79, 0, 0, 0, 0),
  (78, .iconst 0, 1, 0, 0, 0, 0, 0),
  (79, .ior, 1, 0, 0, 0, 0, 0),
  (80, .istore_n 3, 1, 0, 0, 0, 0, 0),
  (81, .iinc 4 1, 3, 0, 0, 0, 0, 0),
  (84, .goto (-44), 3, 40, 0, 0, 0, 0),
  (87, .iconst 0, 1, 0, 0, 0, 0, 0),
  (88, .istore 4, 2, 0, 0, 0, 0, 0),
  (90, .iload 4, 2, 0, 0, 0, 0, 0),
  (92, .iload_n 3, 1, 0, 0, 0, 0, 0),
  (93, .if_icmp .gt 43, 3, 136, 0, 0, 0, 0),
  (96, .iload 4, 2, 0, 0, 0, 0, 0),
  (98, .iload_n 3, 1, 0, 0, 0, 0, 0),
  (99, .iconst (-1), 1, 0, 0, 0, (-1), 0),
  (100, .ixor, 1, 0, 0, 0, 0, 0),
  (101, .iand, 1, 0, 0, 0, 0, 0),
  (102, .ifCond .ne 28, 3, 130, 0, 0, 0, 0),
  (105, .aload_n 0, 1, 0, 0, 0, 0, 0),
  (106, .getfield 182, 3, 12, 72, 1, 0, 1403),
  (109, .iload 4, 2, 0, 0, 0, 0, 0),
  (111, .aload_n 0, 1, 0, 0, 0, 0, 0),
  (112, .aload_n 0, 1, 0, 0, 0, 0, 0),
  (113, .getfield 22, 3, 12, 4, 1, 0, 1335),
  (116, .iload_n 1, 1, 0, 0, 0, 0, 0),
  (117, .iaload, 1, 0, 0, 0, 0, 0),
  (118, .iload_n 3, 1, 0, 0, 0, 0, 0),
  (119, .iload 4, 2, 0, 0, 0, 0, 0),
  (121, .ixor, 1, 0, 0, 0, 0, 0),
  (122, .aload_n 0, 1, 0, 0, 0, 0, 0),
  (123, .getfield 31, 3, 12, 9, 0, 0, 1340),
  (126, .invokevirtual 370, 3, 1253, 4, 1, 12, 1756),
  (129, .iastore, 1, 0, 0, 0, 0, 0),
  (130, .iinc 4 1, 3, 0, 0, 0, 0, 0),
  (133, .goto (-43), 3, 90, 0, 0, 0, 0),
  (136, .aload_n 0, 1, 0, 0, 0, 0, 0),
  (137, .lconst 0, 1, 0, 0, 0, 0, 0),
  (138, .putfield 422, 3, 12, 73, 2, 0, 1404),
  (141, .aload_n 0, 1, 0, 0, 0, 0, 0),
  (142, .iconst 0, 1, 0, 0, 0, 0, 0),
  (143, .putfield 416, 3, 12, 74, 0, 0, 1405),
  (146, .aload_n 0, 1, 0, 0, 0, 0, 0),
  (147, .iload_n 3, 1, 0, 0, 0, 0, 0),
  (148, .iconst 0, 1, 0, 0, 0, 0, 0),
  (149, .iload_n 2, 1, 0, 0, 0, 0, 0),
  (150, .invokevirtual 419, 3, 1286, 4, 0, 12, 1908),
  (153, .aload_n 0, 1, 0, 0, 0, 0, 0),
  (154, .getfield 422, 3, 12, 73, 2, 0, 1404),
  (157, .lstore 4, 2, 0, 0, 0, 0, 0),
  (159, .aload_n 0, 1, 0, 0, 0, 0, 0),
  (160, .getfield 416, 3, 12, 74, 0, 0, 1405),
  (163, .i2l, 1, 0, 0, 0, 0, 0),
  (164, .lstore 6, 2, 0, 0, 0, 0, 0),
  (166, .lload 6, 2, 0, 0, 0, 0, 0),
  (168, .lconst 0, 1, 0, 0, 0, 0, 0),
  (169, .lcmp, 1, 0, 0, 0, 0, 0),
  (170, .ifCond .eq 21, 3, 191, 0, 0, 0, 0),
  (173, .lload 4, 2, 0, 0, 0, 0, 0),
  (175, .lload 6, 2, 0, 0, 0, 0, 0),
  (177, .lrem, 1, 0, 0, 0, 0, 0),
  (178, .lstore 8, 2, 0, 0, 0, 0, 0),
  (180, .lload 6, 2, 0, 0, 0, 0, 0),
  (182, .lstore 4, 2, 0, 0, 0, 0, 0),
  (184, .lload 8, 2, 0, 0, 0, 0, 0),
  (186, .lstore 6, 2, 0, 0, 0, 0, 0),
  (188, .goto (-22), 3, 166, 0, 0, 0, 0),
  (191, .aload_n 0, 1, 0, 0, 0, 0, 0),
  (192, .iconst 0, 1, 0, 0, 0, 0, 0),
  (193, .putfield 188, 3, 12, 25, 0, 0, 1356),
  (196, .aload_n 0, 1, 0, 0, 0, 0, 0),
  (197, .aload_n 0, 1, 0, 0, 0, 0, 0),
  (198, .getfield 422, 3, 12, 73, 2, 0, 1404),
  (201, .lload 4, 2, 0, 0, 0, 0, 0),
  (203, .ldiv, 1, 0, 0, 0, 0, 0),
  (204, .l2i, 1, 0, 0, 0, 0, 0),
  (205, .invokevirtual 331, 3, 1204, 2, 0, 12, 1704),
  (208, .aload_n 0, 1, 0, 0, 0, 0, 0),
  (209, .aload_n 0, 1, 0, 0, 0, 0, 0),
  (210, .getfield 416, 3, 12, 74, 0, 0, 1405),
  (213, .i2l, 1, 0, 0, 0, 0, 0),
  (214, .lload 4, 2, 0, 0, 0, 0, 0),
  (216, .ldiv, 1, 0, 0, 0, 0, 0),
  (217, .l2i, 1, 0, 0, 0, 0, 0),
  (218, .invokevirtual 331, 3, 1204, 2, 0, 12, 1704),
  (221, .aload_n 0, 1, 0, 0, 0, 0, 0),
  (222, .getfield 422, 3, 12, 73, 2, 0, 1404),
  (225, .aload_n 0, 1, 0, 0, 0, 0, 0),
  (226, .getfield 416, 3, 12, 74, 0, 0, 1405),
  (229, .i2l, 1, 0, 0, 0, 0, 0),
  (230, .ldiv, 1, 0, 0, 0, 0, 0),
  (231, .l2i, 1, 0, 0, 0, 0, 0),
  (232, .ireturn, 1, 1, 0, 0, 0, 0)]
/-- TollsThatPayModel.count(I)I -/
def z_c1288 : List z_E := [(0, .aload_n 0, 1, 0, 0, 0, 0, 0),
  (1, .iconst 0, 1, 0, 0, 0, 0, 0),
  (2, .putfield 185, 3, 12, 26, 0, 0, 1357),
  (5, .iload_n 1, 1, 0, 0, 0, 0, 0),
  (6, .tableswitch 90 0 7 #[46, 51, 56, 61, 70, 75, 80, 85], 46, 0, 0, 0, 0, 0),
  (52, .aload_n 0, 1, 0, 0, 0, 0, 0),
  (53, .getfield 191, 3, 12, 5, 0, 0, 1336),
  (56, .ireturn, 1, 1, 0, 0, 0, 0),
  (57, .aload_n 0, 1, 0, 0, 0, 0, 0),
  (58, .getfield 201, 3, 12, 8, 0, 0, 1339),
  (61, .ireturn, 1, 1, 0, 0, 0, 0),
  (62, .aload_n 0, 1, 0, 0, 0, 0, 0),
  (63, .getfield 198, 3, 12, 20, 0, 0, 1351),
  (66, .ireturn, 1, 1, 0, 0, 0, 0),
  (67, .aload_n 0, 1, 0, 0, 0, 0, 0),
  (68, .invokevirtual 319, 3, 1229, 1, 0, 12, 1656),
  (71, .aload_n 0, 1, 0, 0, 0, 0, 0),
  (72, .getfield 271, 3, 12, 48, 0, 0, 1379),
  (75, .ireturn, 1, 1, 0, 0, 0, 0),
  (76, .aload_n 0, 1, 0, 0, 0, 0, 0),
  (77, .getfield 31, 3, 12, 9, 0, 0, 1340),
  (80, .ireturn, 1, 1, 0, 0, 0, 0),
  (81, .aload_n 0, 1, 0, 0, 0, 0, 0),
  (82, .getfield 297, 3, 12, 10, 0, 0, 1341),
  (85, .ireturn, 1, 1, 0, 0, 0, 0),
  (86, .aload_n 0, 1, 0, 0, 0, 0, 0),
  (87, .getfield 188, 3, 12, 25, 0, 0, 1356),
  (90, .ireturn, 1, 1, 0, 0, 0, 0),
  (91, .aload_n 0, 1, 0, 0, 0, 0, 0),
  (92, .getfield 204, 3, 12, 23, 0, 0, 1354),
  (95, .ireturn, 1, 1, 0, 0, 0, 0),
  (96, .iconst (-1), 1, 0, 0, 0, (-1), 0),
  (97, .ireturn, 1, 1, 0, 0, 0, 0)]
/-- TollsThatPayModel.of(II)I -/
def z_c1289 : List z_E := [(0, .aload_n 0, 1, 0, 0, 0, 0, 0),
  (1, .iconst 0, 1, 0, 0, 0, 0, 0),
  (2, .putfield 185, 3, 12, 26, 0, 0, 1357),
  (5, .aload_n 0, 1, 0, 0, 0, 0, 0),
  (6, .iload_n 1, 1, 0, 0, 0, 0, 0),
  (7, .invokevirtual 309, 3, 1205, 2, 1, 12, 1632),
  (10, .ifCond .eq 12, 3, 22, 0, 0, 0, 0),
  (13, .iload_n 2, 1, 0, 0, 0, 0, 0),
  (14, .iconst 0, 1, 0, 0, 0, 0, 0),
  (15, .iconst 5, 1, 0, 0, 0, 5, 0),
  (16, .invokestatic 194, 3, 1202, 3, 1, 0, 1572),
  (19, .ifCond .ne 8, 3, 27, 0, 0, 0, 0),
  (22, .aload_n 0, 1, 0, 0, 0, 0, 0),
  (23, .invokevirtual 426, 3, 1203, 1, 1, 12, 1920),
  (26, .ireturn, 1, 1, 0, 0, 0, 0),
  (27, .iload_n 2, 1, 0, 0, 0, 0, 0),
  (28, .tableswitch 71 0 4 #[36, 43, 50, 57, 64], 36, 0, 0, 0, 0, 0),
  (64, .aload_n 0, 1, 0, 0, 0, 0, 0),
  (65, .getfield 9, 3, 12, 0, 1, 0, 1331),
  (68, .iload_n 1, 1, 0, 0, 0, 0, 0),
  (69, .iaload, 1, 0, 0, 0, 0, 0),
  (70, .ireturn, 1, 1, 0, 0, 0, 0),
  (71, .aload_n 0, 1, 0, 0, 0, 0, 0),
  (72, .getfield 13, 3, 12, 1, 1, 0, 1332),
  (75, .iload_n 1, 1, 0, 0, 0, 0, 0),
  (76, .iaload, 1, 0, 0, 0, 0, 0),
  (77, .ireturn, 1, 1, 0, 0, 0, 0),
  (78, .aload_n 0, 1, 0, 0, 0, 0, 0),
  (79, .getfield 16, 3, 12, 2, 1, 0, 1333),
  (82, .iload_n 1, 1, 0, 0, 0, 0, 0),
  (83, .iaload, 1, 0, 0, 0, 0, 0),
  (84, .ireturn, 1, 1, 0, 0, 0, 0),
  (85, .aload_n 0, 1, 0, 0, 0, 0, 0),
  (86, .getfield 19, 3, 12, 3, 1, 0, 1334),
  (89, .iload_n 1, 1, 0, 0, 0, 0, 0),
  (90, .iaload, 1, 0, 0, 0, 0, 0),
  (91, .ireturn, 1, 1, 0, 0, 0, 0),
  (92, .aload_n 0, 1, 0, 0, 0, 0, 0),
  (93, .getfield 22, 3, 12, 4, 1, 0, 1335),
  (96, .iload_n 1, 1, 0, 0, 0, 0, 0),
  (97, .iaload, 1, 0, 0, 0, 0, 0),
  (98, .ireturn, 1, 1, 0, 0, 0, 0),
  (99, .aload_n 0, 1, 0, 0, 0, 0, 0),
  (100, .iload_n 1, 1, 0, 0, 0, 0, 0),
  (101, .invokevirtual 313, 3, 1208, 2, 1, 12, 1636),
  (104, .iconst (-1), 1, 0, 0, 0, (-1), 0),
  (105, .if_icmp .ne 7, 3, 112, 0, 0, 0, 0),
  (108, .iconst 0, 1, 0, 0, 0, 0, 0),
  (109, .goto 13, 3, 122, 0, 0, 0, 0),
  (112, .aload_n 0, 1, 0, 0, 0, 0, 0),
  (113, .getfield 28, 3, 12, 7, 1, 0, 1338),
  (116, .aload_n 0, 1, 0, 0, 0, 0, 0),
  (117, .iload_n 1, 1, 0, 0, 0, 0, 0),
  (118, .invokevirtual 313, 3, 1208, 2, 1, 12, 1636),
  (121, .iaload, 1, 0, 0, 0, 0, 0),
  (122, .ireturn, 1, 1, 0, 0, 0, 0)]
/-- TollsThatPayModel.row(I)I -/
def z_c1290 : List z_E := [(0, .aload_n 0, 1, 0, 0, 0, 0, 0),
  (1, .iconst 0, 1, 0, 0, 0, 0, 0),
  (2, .putfield 185, 3, 12, 26, 0, 0, 1357),
  (5, .iload_n 1, 1, 0, 0, 0, 0, 0),
  (6, .iconst 0, 1, 0, 0, 0, 0, 0),
  (7, .aload_n 0, 1, 0, 0, 0, 0, 0),
  (8, .getfield 188, 3, 12, 25, 0, 0, 1356),
  (11, .iconst 1, 1, 0, 0, 0, 1, 0),
  (12, .isub, 1, 0, 0, 0, 0, 0),
  (13, .invokestatic 194, 3, 1202, 3, 1, 0, 1572),
  (16, .ifCond .eq 12, 3, 28, 0, 0, 0, 0),
  (19, .aload_n 0, 1, 0, 0, 0, 0, 0),
  (20, .getfield 70, 3, 12, 24, 1, 0, 1355),
  (23, .iload_n 1, 1, 0, 0, 0, 0, 0),
  (24, .iaload, 1, 0, 0, 0, 0, 0),
  (25, .goto 7, 3, 32, 0, 0, 0, 0),
  (28, .aload_n 0, 1, 0, 0, 0, 0, 0),
  (29, .invokevirtual 426, 3, 1203, 1, 1, 12, 1920),
  (32, .ireturn, 1, 1, 0, 0, 0, 0)]
def z_cc12 : List (List z_E) := [z_c1200, z_c1201, z_c1202, z_c1203, z_c1204, z_c1205, z_c1206, z_c1207, z_c1208, z_c1209, z_c1210, z_c1211, z_c1212, z_c1213, z_c1214, z_c1215, z_c1216, z_c1217, z_c1218, z_c1219, z_c1220, z_c1221, z_c1222, z_c1223, z_c1224, z_c1225, z_c1226, z_c1227, z_c1228, z_c1229, z_c1230, z_c1231, z_c1232, z_c1233, z_c1234, z_c1235, z_c1236, z_c1237, z_c1238, z_c1239, z_c1240, z_c1241, z_c1242, z_c1243, z_c1244, z_c1245, z_c1246, z_c1247, z_c1248, z_c1249, z_c1250, z_c1251, z_c1252, z_c1253, z_c1254, z_c1255, z_c1256, z_c1257, z_c1258, z_c1259, z_c1260, z_c1261, z_c1262, z_c1263, z_c1264, z_c1265, z_c1266, z_c1267, z_c1268, z_c1269, z_c1270, z_c1271, z_c1272, z_c1273, z_c1274, z_c1275, z_c1276, z_c1277, z_c1278, z_c1279, z_c1280, z_c1281, z_c1282, z_c1283, z_c1284, z_c1285, z_c1286, z_c1287, z_c1288, z_c1289, z_c1290]
def z_mm12 : List (MethodName × ByteArray × Nat × Option FieldType) := [(yX12_init, cX12_init, 2, none),
  (yX12_thrown, cX12_thrown, 1, (some .int)),
  (yX12_in, cX12_in, 3, (some .boolean)),
  (yX12_lost, cX12_lost, 1, (some .int)),
  (yX12_tell, cX12_tell, 2, none),
  (yX12_isRoad, cX12_isRoad, 2, (some .boolean)),
  (yX12_isJourney, cX12_isJourney, 2, (some .boolean)),
  (yX12_isHouse, cX12_isHouse, 1, (some .boolean)),
  (yX12_tollOf, cX12_tollOf, 3, (some .int)),
  (yX12_sign, cX12_sign, 3, (some .int)),
  (yX12_end, cX12_end, 2, (some .boolean)),
  (yX12_here, cX12_here, 1, (some .int)),
  (yX12_passes, cX12_passes, 2, (some .boolean)),
  (yX12_fine, cX12_fine, 1, (some .boolean)),
  (yX12_isWrong, cX12_isWrong, 2, none),
  (yX12_corner, cX12_corner, 3, (some .int)),
  (yX12_digit, cX12_digit, 4, (some .int)),
  (yX12_number, cX12_number, 5, (some .int)),
  (yX12_readItem, cX12_readItem, 3, none),
  (yX12_readJourney, cX12_readJourney, 2, none),
  (yX12_tell_, cX12_tell_, 9, (some .int)),
  (yX12_tellItem, cX12_tellItem, 2, none),
  (yX12_findWays, cX12_findWays, 4, (some .boolean)),
  (yX12_goOn, cX12_goOn, 8, (some .boolean)),
  (yX12_has, cX12_has, 4, (some .boolean)),
  (yX12_plainPains, cX12_plainPains, 6, (some .int)),
  (yX12_maskOf, cX12_maskOf, 4, (some .int)),
  (yX12_addGoer, cX12_addGoer, 9, none),
  (yX12_gather, cX12_gather, 6, none),
  (yX12_gatherAll, cX12_gatherAll, 1, none),
  (yX12_ask, cX12_ask, 3, none),
  (yX12_choose, cX12_choose, 5, (some .int)),
  (yX12_isAhead, cX12_isAhead, 6, (some .boolean)),
  (yX12_work, cX12_work, 4, none),
  (yX12_toll, cX12_toll, 4, (some .int)),
  (yX12_lean, cX12_lean, 3, (some .int)),
  (yX12_goerOf, cX12_goerOf, 4, (some .int)),
  (yX12_wayOf, cX12_wayOf, 3, (some .int)),
  (yX12_asks, cX12_asks, 3, (some .int)),
  (yX12_way, cX12_way, 6, (some .int)),
  (yX12_pains, cX12_pains, 5, (some .int)),
  (yX12_room, cX12_room, 8, (some .int)),
  (yX12_take, cX12_take, 2, (some .int)),
  (yX12_suffered, cX12_suffered, 1, (some .int)),
  (yX12_by, cX12_by, 2, (some .int)),
  (yX12_goBy, cX12_goBy, 5, (some .int)),
  (yX12_ways, cX12_ways, 2, (some .int)),
  (yX12_keep, cX12_keep, 2, none),
  (yX12_putBack, cX12_putBack, 2, none),
  (yX12_lay, cX12_lay, 4, none),
  (yX12_next, cX12_next, 3, (some .boolean)),
  (yX12_areFew, cX12_areFew, 6, (some .boolean)),
  (yX12_canSet, cX12_canSet, 2, (some .boolean)),
  (yX12_bestOf, cX12_bestOf, 6, (some .int)),
  (yX12_tellTolls, cX12_tellTolls, 4, none),
  (yX12_best, cX12_best, 3, (some .int)),
  (yX12_set, cX12_set, 4, (some .int)),
  (yX12_ties, cX12_ties, 4, (some .int)),
  (yX12_bound, cX12_bound, 4, (some .int)),
  (yX12_given, cX12_given, 5, (some .int)),
  (yX12_above, cX12_above, 4, (some .int)),
  (yX12_goLine, cX12_goLine, 4, none),
  (yX12_placeOf, cX12_placeOf, 2, (some .int)),
  (yX12_line, cX12_line, 5, (some .int)),
  (yX12_bends, cX12_bends, 4, (some .int)),
  (yX12_climbOf, cX12_climbOf, 6, (some .int)),
  (yX12_climb, cX12_climb, 4, (some .int)),
  (yX12_gap, cX12_gap, 5, (some .int)),
  (yX12_times, cX12_times, 5, (some .int)),
  (yX12_wasAhead, cX12_wasAhead, 5, (some .boolean)),
  (yX12_answers, cX12_answers, 7, (some .int)),
  (yX12_numberOf, cX12_numberOf, 4, (some .int)),
  (yX12_layAll, cX12_layAll, 2, none),
  (yX12_rests, cX12_rests, 5, (some .int)),
  (yX12_roadBits, cX12_roadBits, 4, (some .int)),
  (yX12_spare, cX12_spare, 9, (some .int)),
  (yX12_ceiling, cX12_ceiling, 7, (some .int)),
  (yX12_without, cX12_without, 6, (some .int)),
  (yX12_ford, cX12_ford, 8, (some .int)),
  (yX12_weight, cX12_weight, 4, (some .int)),
  (yX12_byWorths, cX12_byWorths, 4, (some .int)),
  (yX12_tellSet, cX12_tellSet, 4, none),
  (yX12_mean, cX12_mean, 5, (some .int)),
  (yX12_safe, cX12_safe, 6, (some .int)),
  (yX12_learn, cX12_learn, 5, (some .int)),
  (yX12_last, cX12_last, 3, (some .int)),
  (yX12_orders, cX12_orders, 6, none),
  (yX12_fair, cX12_fair, 10, (some .int)),
  (yX12_count, cX12_count, 2, (some .int)),
  (yX12_of, cX12_of, 3, (some .int)),
  (yX12_row, cX12_row, 2, (some .int))]
/-- java/lang/Integer.bitCount(I)I -/
def z_c1300 : List z_E := [(0, .iload_n 0, 1, 0, 0, 0, 0, 0),
  (1, .iload_n 0, 1, 0, 0, 0, 0, 0),
  (2, .iconst 1, 1, 0, 0, 0, 1, 0),
  (3, .iushr, 1, 0, 0, 0, 0, 0),
  (4, .ldc_w 265, 3, 0, 0, 0, 1431655765, 743),
  (7, .iand, 1, 0, 0, 0, 0, 0),
  (8, .isub, 1, 0, 0, 0, 0, 0),
  (9, .istore_n 0, 1, 0, 0, 0, 0, 0),
  (10, .iload_n 0, 1, 0, 0, 0, 0, 0),
  (11, .ldc_w 266, 3, 0, 0, 0, 858993459, 744),
  (14, .iand, 1, 0, 0, 0, 0, 0),
  (15, .iload_n 0, 1, 0, 0, 0, 0, 0),
  (16, .iconst 2, 1, 0, 0, 0, 2, 0),
  (17, .iushr, 1, 0, 0, 0, 0, 0),
  (18, .ldc_w 266, 3, 0, 0, 0, 858993459, 744),
  (21, .iand, 1, 0, 0, 0, 0, 0),
  (22, .iadd, 1, 0, 0, 0, 0, 0),
  (23, .istore_n 0, 1, 0, 0, 0, 0, 0),
  (24, .iload_n 0, 1, 0, 0, 0, 0, 0),
  (25, .iload_n 0, 1, 0, 0, 0, 0, 0),
  (26, .iconst 4, 1, 0, 0, 0, 4, 0),
  (27, .iushr, 1, 0, 0, 0, 0, 0),
  (28, .iadd, 1, 0, 0, 0, 0, 0),
  (29, .ldc_w 267, 3, 0, 0, 0, 252645135, 745),
  (32, .iand, 1, 0, 0, 0, 0, 0),
  (33, .istore_n 0, 1, 0, 0, 0, 0, 0),
  (34, .iload_n 0, 1, 0, 0, 0, 0, 0),
  (35, .iload_n 0, 1, 0, 0, 0, 0, 0),
  (36, .bipush 8, 2, 0, 0, 0, 8, 0),
  (38, .iushr, 1, 0, 0, 0, 0, 0),
  (39, .iadd, 1, 0, 0, 0, 0, 0),
  (40, .istore_n 0, 1, 0, 0, 0, 0, 0),
  (41, .iload_n 0, 1, 0, 0, 0, 0, 0),
  (42, .iload_n 0, 1, 0, 0, 0, 0, 0),
  (43, .bipush 16, 2, 0, 0, 0, 16, 0),
  (45, .iushr, 1, 0, 0, 0, 0, 0),
  (46, .iadd, 1, 0, 0, 0, 0, 0),
  (47, .istore_n 0, 1, 0, 0, 0, 0, 0),
  (48, .iload_n 0, 1, 0, 0, 0, 0, 0),
  (49, .bipush 63, 2, 0, 0, 0, 63, 0),
  (51, .iand, 1, 0, 0, 0, 0, 0),
  (52, .ireturn, 1, 1, 0, 0, 0, 0)]
/-- java/lang/Integer.numberOfTrailingZeros(I)I -/
def z_c1301 : List z_E := [(0, .iload_n 0, 1, 0, 0, 0, 0, 0),
  (1, .iconst (-1), 1, 0, 0, 0, (-1), 0),
  (2, .ixor, 1, 0, 0, 0, 0, 0),
  (3, .iload_n 0, 1, 0, 0, 0, 0, 0),
  (4, .iconst 1, 1, 0, 0, 0, 1, 0),
  (5, .isub, 1, 0, 0, 0, 0, 0),
  (6, .iand, 1, 0, 0, 0, 0, 0),
  (7, .istore_n 0, 1, 0, 0, 0, 0, 0),
  (8, .iload_n 0, 1, 0, 0, 0, 0, 0),
  (9, .ifCond .gt 8, 3, 17, 0, 0, 0, 0),
  (12, .iload_n 0, 1, 0, 0, 0, 0, 0),
  (13, .bipush 32, 2, 0, 0, 0, 32, 0),
  (15, .iand, 1, 0, 0, 0, 0, 0),
  (16, .ireturn, 1, 1, 0, 0, 0, 0),
  (17, .iconst 1, 1, 0, 0, 0, 1, 0),
  (18, .istore_n 1, 1, 0, 0, 0, 0, 0),
  (19, .iload_n 0, 1, 0, 0, 0, 0, 0),
  (20, .ldc_w 264, 3, 0, 0, 0, 65536, 1687),
  (23, .if_icmp .le 11, 3, 34, 0, 0, 0, 0),
  (26, .iinc 1 16, 3, 0, 0, 0, 0, 0),
  (29, .iload_n 0, 1, 0, 0, 0, 0, 0),
  (30, .bipush 16, 2, 0, 0, 0, 16, 0),
  (32, .iushr, 1, 0, 0, 0, 0, 0),
  (33, .istore_n 0, 1, 0, 0, 0, 0, 0),
  (34, .iload_n 0, 1, 0, 0, 0, 0, 0),
  (35, .sipush 256, 3, 0, 0, 0, 256, 0),
  (38, .if_icmp .le 11, 3, 49, 0, 0, 0, 0),
  (41, .iinc 1 8, 3, 0, 0, 0, 0, 0),
  (44, .iload_n 0, 1, 0, 0, 0, 0, 0),
  (45, .bipush 8, 2, 0, 0, 0, 8, 0),
  (47, .iushr, 1, 0, 0, 0, 0, 0),
  (48, .istore_n 0, 1, 0, 0, 0, 0, 0),
  (49, .iload_n 0, 1, 0, 0, 0, 0, 0),
  (50, .bipush 16, 2, 0, 0, 0, 16, 0),
  (52, .if_icmp .le 10, 3, 62, 0, 0, 0, 0),
  (55, .iinc 1 4, 3, 0, 0, 0, 0, 0),
  (58, .iload_n 0, 1, 0, 0, 0, 0, 0),
  (59, .iconst 4, 1, 0, 0, 0, 4, 0),
  (60, .iushr, 1, 0, 0, 0, 0, 0),
  (61, .istore_n 0, 1, 0, 0, 0, 0, 0),
  (62, .iload_n 0, 1, 0, 0, 0, 0, 0),
  (63, .iconst 4, 1, 0, 0, 0, 4, 0),
  (64, .if_icmp .le 10, 3, 74, 0, 0, 0, 0),
  (67, .iinc 1 2, 3, 0, 0, 0, 0, 0),
  (70, .iload_n 0, 1, 0, 0, 0, 0, 0),
  (71, .iconst 2, 1, 0, 0, 0, 2, 0),
  (72, .iushr, 1, 0, 0, 0, 0, 0),
  (73, .istore_n 0, 1, 0, 0, 0, 0, 0),
  (74, .iload_n 1, 1, 0, 0, 0, 0, 0),
  (75, .iload_n 0, 1, 0, 0, 0, 0, 0),
  (76, .iconst 1, 1, 0, 0, 0, 1, 0),
  (77, .iushr, 1, 0, 0, 0, 0, 0),
  (78, .iadd, 1, 0, 0, 0, 0, 0),
  (79, .ireturn, 1, 1, 0, 0, 0, 0)]
def z_cc13 : List (List z_E) := [z_c1300, z_c1301]
def z_mm13 : List (MethodName × ByteArray × Nat × Option FieldType) := [(yJ6_bitCount_0f7a4, cJ6_bitCount_0f7a4, 1, (some .int)),
  (yJ6_numberOfTrailingZeros_0f7a4, cJ6_numberOfTrailingZeros_0f7a4, 2, (some .int))]
def z_ccs : List (List (List z_E)) := [z_cc0, z_cc1, z_cc2, z_cc3, z_cc4, z_cc5, z_cc6, z_cc7, z_cc8, z_cc9, z_cc10, z_cc11, z_cc12, z_cc13]
def z_mms : List (List (MethodName × ByteArray × Nat × Option FieldType)) := [z_mm0, z_mm1, z_mm2, z_mm3, z_mm4, z_mm5, z_mm6, z_mm7, z_mm8, z_mm9, z_mm10, z_mm11, z_mm12, z_mm13]
def z_code (m : Nat) : List z_E := z_at (z_at z_ccs (m / 100) []) (m % 100) []
def z_mi (m : Nat) : MethodName × ByteArray × Nat × Option FieldType := z_at (z_at z_mms (m / 100) []) (m % 100) (⟨"", "", ""⟩, ⟨#[]⟩, 0, none)
def z_my (m : Nat) : MethodName := (z_mi m).1
def z_mb (m : Nat) : ByteArray := (z_mi m).2.1
def z_ml (m : Nat) : Nat := (z_mi m).2.2.1
def z_mr (m : Nat) : Option FieldType := (z_mi m).2.2.2
end
section
def z_fts : List (List Nat) := [[1, 1, 1, 1], [0, 1, 1, 1, 1, 1, 1, 1, 1, 1, 1, 1, 1], [0, 1, 1, 1, 1, 1, 1, 1, 1, 1], [1, 1], [1, 1, 1, 1, 1, 0], [1, 0, 0, 0, 3], [0, 0, 0, 0, 1, 1, 1, 1, 1, 1, 1, 1], [1, 0], [1, 1, 1, 0, 0, 0, 0], [0, 0, 0, 1, 1, 1, 1, 1, 1, 1, 1], [1, 0, 0, 0, 0, 0, 0, 0, 0, 0, 0], [1, 1, 1, 1, 1, 1, 1, 1, 1, 0], [1, 1, 1, 1, 1, 0, 1, 1, 0, 0, 0, 1, 1, 1, 1, 1, 1, 1, 1, 1, 0, 1, 1, 0, 1, 0, 0, 0, 0, 0, 1, 1, 1, 1, 1, 1, 1, 1, 1, 1, 1, 0, 1, 1, 1, 1, 1, 1, 0, 1, 1, 1, 1, 1, 0, 1, 0, 1, 1, 0, 1, 1, 1, 0, 1, 1, 1, 1, 1, 1, 1, 1, 1, 2, 0]]
def z_ft (c f : Nat) : Nat := z_at (z_at z_fts c []) f 0
def z_T (c : Nat) : u_T := z_at [TX0, TX1, TX2, TX3, TX4, TX5, TX6, TX7, TX8, TX9, TX10, TX11, TX12] c TX0
def z_nf (c : Nat) : Nat := z_at [4, 13, 10, 2, 6, 5, 12, 2, 7, 11, 11, 10, 75] c 0
def z_cl (c : Nat) : String := z_at [RX0, RX1, RX2, RX3, RX4, RX5, RX6, RX7, RX8, RX9, RX10, RX11, RX12] c ""
def z_ty (c : Nat) : Nat → FieldType := z_at [tyX0, tyX1, tyX2, tyX3, tyX4, tyX5, tyX6, tyX7, tyX8, tyX9, tyX10, tyX11, tyX12] c tyX0
/-- the tables words that a method may use -/
def z_tw : List Jvm.Cond := lw_tbl.filter goodWord
/-- method, kind (0 virtual, 1 static, 2 <init>), parameters, places of its words -/
def z_pp0 : List (Nat × Nat × Nat × Nat × Nat × Nat × Nat) := [(0, 2, 1, 475, 95, 474, 0), (1, 0, 3, 1075, 95, 1073, 1074), (2, 0, 2, 1060, 95, 1058, 1059), (3, 0, 0, 1065, 95, 1064, 24), (4, 0, 1, 1071, 95, 1070, 25), (5, 0, 1, 1089, 95, 1087, 1088), (6, 0, 2, 1100, 95, 1099, 26), (7, 0, 1, 1106, 95, 1105, 27)]
def z_pp1 : List (Nat × Nat × Nat × Nat × Nat × Nat × Nat) := [(100, 2, 1, 274, 90, 273, 0), (101, 0, 1, 634, 90, 632, 633), (102, 0, 1, 638, 90, 637, 9), (103, 1, 4, 670, 90, 669, 0), (104, 0, 2, 678, 90, 677, 10), (105, 0, 4, 682, 90, 681, 11), (106, 0, 3, 735, 90, 734, 12), (107, 0, 3, 739, 90, 738, 13), (108, 0, 2, 749, 90, 748, 14), (109, 0, 1, 783, 90, 781, 782), (110, 0, 2, 766, 90, 764, 765), (111, 0, 1, 901, 90, 899, 900), (112, 0, 1, 779, 90, 777, 778), (113, 0, 1, 1165, 90, 1163, 1164), (114, 0, 1, 1048, 90, 1046, 1047), (115, 0, 1, 1169, 90, 1167, 1168), (116, 0, 2, 873, 90, 871, 872), (117, 0, 2, 836, 90, 834, 835), (118, 0, 2, 812, 90, 810, 811), (119, 0, 2, 807, 90, 805, 806), (120, 0, 3, 891, 90, 889, 890), (121, 0, 2, 816, 90, 814, 815)]
def z_pp2 : List (Nat × Nat × Nat × Nat × Nat × Nat × Nat) := [(200, 2, 0, 219, 89, 218, 0), (201, 0, 1, 556, 89, 554, 555), (202, 0, 1, 616, 89, 614, 615), (203, 0, 3, 608, 89, 606, 607), (204, 0, 3, 612, 89, 610, 611), (205, 0, 3, 620, 89, 618, 619), (206, 0, 1, 666, 89, 664, 665), (207, 0, 1, 658, 89, 656, 657), (208, 0, 1, 650, 89, 648, 649), (209, 0, 1, 642, 89, 640, 641), (210, 0, 1, 646, 89, 644, 645), (211, 0, 1, 1173, 89, 1171, 1172), (212, 0, 1, 662, 89, 660, 661), (213, 0, 1, 731, 89, 729, 730), (214, 0, 1, 1052, 89, 1050, 1051)]
def z_pp3 : List (Nat × Nat × Nat × Nat × Nat × Nat × Nat) := [(300, 2, 0, 155, 87, 154, 0), (301, 0, 1, 545, 87, 543, 544), (302, 0, 0, 630, 87, 628, 629)]
def z_pp4 : List (Nat × Nat × Nat × Nat × Nat × Nat × Nat) := [(400, 2, 2, 368, 92, 367, 0), (401, 0, 2, 775, 92, 773, 774), (402, 0, 1, 1044, 92, 1042, 1043), (403, 0, 1, 1161, 92, 1159, 1160), (404, 0, 1, 787, 92, 785, 786), (405, 0, 3, 924, 92, 922, 923), (406, 0, 1, 803, 92, 801, 802), (407, 0, 2, 832, 92, 830, 831), (408, 0, 2, 848, 92, 846, 847), (409, 0, 1, 869, 92, 867, 868), (410, 0, 0, 881, 92, 879, 880), (411, 0, 1, 915, 92, 913, 914), (412, 0, 4, 920, 92, 918, 919), (413, 0, 0, 929, 92, 927, 928)]
def z_pp5 : List (Nat × Nat × Nat × Nat × Nat × Nat × Nat) := [(500, 2, 0, 116, 85, 115, 0), (501, 0, 1, 529, 85, 527, 528), (502, 0, 1, 537, 85, 535, 536), (503, 0, 1, 561, 85, 559, 560), (504, 0, 1, 568, 85, 567, 0), (505, 0, 2, 580, 85, 579, 3), (506, 0, 1, 600, 85, 599, 7), (507, 0, 0, 576, 85, 575, 2), (508, 0, 1, 572, 85, 571, 1), (509, 0, 1, 604, 85, 603, 8), (510, 0, 1, 584, 85, 583, 4), (511, 0, 2, 592, 85, 591, 6), (512, 0, 2, 588, 85, 587, 5)]
def z_pp6 : List (Nat × Nat × Nat × Nat × Nat × Nat × Nat) := [(600, 2, 0, 161, 88, 160, 0), (601, 0, 1, 549, 88, 547, 548), (602, 0, 5, 596, 88, 594, 595), (603, 0, 1, 625, 88, 623, 624), (604, 0, 1, 1141, 88, 1139, 1140), (605, 0, 1, 707, 88, 705, 706), (606, 1, 3, 1148, 88, 1147, 0), (607, 0, 1, 723, 88, 721, 722), (608, 0, 1, 864, 88, 862, 863), (609, 0, 1, 715, 88, 713, 714), (610, 0, 1, 719, 88, 717, 718), (611, 0, 2, 703, 88, 701, 702), (612, 0, 1, 699, 88, 697, 698), (613, 0, 1, 860, 88, 858, 859), (614, 0, 0, 1081, 88, 1079, 1080), (615, 0, 1, 1125, 88, 1123, 1124), (616, 0, 2, 1312, 88, 1310, 1311), (617, 1, 2, 799, 88, 798, 0)]
def z_pp7 : List (Nat × Nat × Nat × Nat × Nat × Nat × Nat) := [(700, 2, 0, 140, 86, 139, 0), (701, 0, 0, 820, 86, 818, 819), (702, 0, 1, 824, 86, 822, 823), (703, 0, 1, 1324, 86, 1322, 1323)]
def z_pp8 : List (Nat × Nat × Nat × Nat × Nat × Nat × Nat) := [(800, 2, 0, 374, 93, 373, 0), (801, 0, 4, 791, 93, 789, 790), (802, 0, 0, 934, 93, 932, 933), (803, 0, 1, 795, 93, 794, 16), (804, 0, 1, 840, 93, 838, 839), (805, 0, 1, 1096, 93, 1094, 1095)]
def z_pp9 : List (Nat × Nat × Nat × Nat × Nat × Nat × Nat) := [(900, 2, 2, 431, 94, 430, 0), (901, 0, 1, 961, 94, 959, 960), (902, 0, 1, 978, 94, 976, 977), (903, 0, 1, 982, 94, 981, 20), (904, 0, 2, 991, 94, 989, 990), (905, 0, 1, 1000, 94, 998, 999), (906, 0, 1, 1004, 94, 1003, 21), (907, 0, 3, 1008, 94, 1007, 22), (908, 0, 1, 1012, 94, 1010, 1011), (909, 0, 1, 1024, 94, 1022, 1023), (910, 0, 2, 1030, 94, 1029, 23), (911, 0, 2, 1119, 94, 1118, 28), (912, 0, 2, 1217, 94, 1215, 1216), (913, 0, 2, 1114, 94, 1112, 1113), (914, 0, 1, 1133, 94, 1131, 1132), (915, 0, 2, 1185, 94, 1183, 1184), (916, 0, 2, 1189, 94, 1188, 30), (917, 0, 2, 1207, 94, 1205, 1206), (918, 0, 0, 1193, 94, 1192, 31), (919, 0, 2, 1197, 94, 1196, 32), (920, 0, 2, 1225, 94, 1223, 1224), (921, 1, 1, 1228, 94, 1227, 0), (922, 1, 2, 1232, 94, 1231, 0)]
def z_pp10 : List (Nat × Nat × Nat × Nat × Nat × Nat × Nat) := [(1000, 2, 0, 280, 91, 279, 0), (1001, 0, 2, 654, 91, 652, 653), (1002, 0, 1, 674, 91, 672, 673), (1003, 0, 1, 691, 91, 689, 690), (1004, 0, 0, 686, 91, 684, 685), (1005, 0, 2, 695, 91, 693, 694), (1006, 0, 2, 711, 91, 709, 710), (1007, 0, 2, 727, 91, 725, 726)]
def z_pp11 : List (Nat × Nat × Nat × Nat × Nat × Nat × Nat) := [(1100, 2, 0, 108, 84, 107, 0), (1101, 0, 1, 525, 84, 523, 524), (1102, 0, 1, 533, 84, 531, 532), (1103, 0, 0, 541, 84, 539, 540), (1104, 0, 2, 753, 84, 751, 752), (1105, 0, 1, 758, 84, 756, 757), (1106, 0, 2, 762, 84, 760, 761), (1107, 0, 2, 828, 84, 826, 827), (1108, 0, 2, 844, 84, 842, 843), (1109, 0, 1, 853, 84, 851, 852), (1110, 0, 0, 877, 84, 875, 876), (1111, 0, 1, 886, 84, 884, 885), (1112, 0, 1, 897, 84, 895, 896), (1113, 0, 1, 905, 84, 903, 904), (1114, 0, 1, 948, 84, 946, 947), (1115, 0, 1, 953, 84, 951, 952), (1116, 0, 1, 957, 84, 955, 956), (1117, 0, 1, 974, 84, 972, 973), (1118, 0, 2, 987, 84, 985, 986), (1119, 0, 1, 996, 84, 994, 995), (1120, 0, 1, 1016, 84, 1014, 1015), (1121, 0, 1, 1020, 84, 1018, 1019), (1122, 0, 1, 1036, 84, 1034, 1035), (1123, 0, 1, 1040, 84, 1038, 1039), (1124, 0, 1, 1056, 84, 1054, 1055), (1125, 0, 0, 1085, 84, 1083, 1084), (1126, 0, 2, 1110, 84, 1108, 1109), (1127, 0, 1, 1129, 84, 1127, 1128), (1128, 0, 2, 1137, 84, 1135, 1136), (1129, 0, 4, 1145, 84, 1143, 1144), (1130, 0, 2, 1153, 84, 1151, 1152), (1131, 0, 1, 1157, 84, 1155, 1156), (1132, 0, 1, 1177, 84, 1175, 1176), (1133, 0, 2, 1203, 84, 1201, 1202), (1134, 0, 1, 1212, 84, 1210, 1211), (1135, 0, 1, 1221, 84, 1219, 1220), (1136, 0, 1, 1239, 84, 1237, 1238), (1137, 0, 2, 1247, 84, 1245, 1246), (1138, 0, 1, 1320, 84, 1318, 1319), (1139, 0, 0, 771, 84, 770, 15), (1140, 1, 1, 856, 84, 855, 0), (1141, 0, 1, 909, 84, 908, 17), (1142, 0, 0, 1181, 84, 1180, 29), (1143, 0, 1, 938, 84, 937, 18), (1144, 0, 2, 943, 84, 942, 19)]
def z_pp12 : List (Nat × Nat × Nat × Nat × Nat × Nat × Nat) := [(1200, 2, 0, 1329, 96, 1328, 0), (1201, 0, 0, 1563, 96, 1561, 1562), (1202, 1, 3, 1574, 96, 1573, 0), (1203, 0, 0, 1923, 96, 1922, 82), (1204, 0, 1, 1707, 96, 1706, 61), (1205, 0, 1, 1635, 96, 1634, 46), (1206, 0, 1, 1655, 96, 1654, 49), (1207, 1, 1, 1722, 96, 1721, 0), (1208, 0, 1, 1639, 96, 1638, 47), (1209, 0, 1, 1567, 96, 1565, 1566), (1210, 0, 1, 1571, 96, 1569, 1570), (1211, 0, 0, 1586, 96, 1585, 35), (1212, 0, 1, 1614, 96, 1613, 42), (1213, 0, 0, 1594, 96, 1593, 37), (1214, 0, 1, 1590, 96, 1589, 36), (1215, 0, 1, 1606, 96, 1605, 40), (1216, 0, 2, 1602, 96, 1601, 39), (1217, 0, 2, 1598, 96, 1597, 38), (1218, 0, 0, 1582, 96, 1581, 34), (1219, 0, 1, 1610, 96, 1609, 41), (1220, 0, 0, 1578, 96, 1576, 1577), (1221, 0, 1, 1619, 96, 1618, 43), (1222, 0, 0, 1623, 96, 1622, 44), (1223, 0, 5, 1627, 96, 1626, 45), (1224, 0, 2, 1671, 96, 1670, 53), (1225, 0, 3, 1679, 96, 1678, 55), (1226, 0, 1, 1675, 96, 1674, 54), (1227, 0, 3, 1667, 96, 1666, 52), (1228, 0, 3, 1663, 96, 1662, 51), (1229, 0, 0, 1659, 96, 1658, 50), (1230, 0, 0, 1683, 96, 1682, 56), (1231, 0, 1, 1699, 96, 1698, 59), (1232, 0, 4, 1703, 96, 1702, 60), (1233, 0, 0, 1726, 96, 1725, 62), (1234, 0, 2, 1631, 96, 1629, 1630), (1235, 0, 1, 1643, 96, 1641, 1642), (1236, 0, 2, 1691, 96, 1690, 57), (1237, 0, 1, 1695, 96, 1694, 58), (1238, 0, 2, 1651, 96, 1650, 48), (1239, 0, 2, 1647, 96, 1645, 1646), (1240, 0, 2, 1711, 96, 1709, 1710), (1241, 0, 2, 1715, 96, 1713, 1714), (1242, 0, 1, 1719, 96, 1717, 1718), (1243, 0, 0, 1730, 96, 1728, 1729), (1244, 0, 1, 1734, 96, 1732, 1733), (1245, 0, 1, 1738, 96, 1737, 63), (1246, 0, 1, 1742, 96, 1740, 1741), (1247, 0, 0, 1763, 96, 1762, 67), (1248, 0, 0, 1775, 96, 1774, 70), (1249, 0, 2, 1767, 96, 1766, 68), (1250, 0, 1, 1771, 96, 1770, 69), (1251, 0, 2, 1754, 96, 1753, 65), (1252, 0, 1, 1750, 96, 1749, 64), (1253, 0, 3, 1759, 96, 1758, 66), (1254, 0, 2, 1779, 96, 1778, 71), (1255, 0, 1, 1746, 96, 1744, 1745), (1256, 0, 1, 1783, 96, 1781, 1782), (1257, 0, 1, 1787, 96, 1785, 1786), (1258, 0, 1, 1791, 96, 1789, 1790), (1259, 0, 1, 1796, 96, 1794, 1795), (1260, 0, 2, 1800, 96, 1798, 1799), (1261, 0, 1, 1812, 96, 1811, 73), (1262, 0, 1, 1808, 96, 1807, 72), (1263, 0, 1, 1804, 96, 1802, 1803), (1264, 0, 1, 1816, 96, 1814, 1815), (1265, 0, 1, 1824, 96, 1823, 74), (1266, 0, 1, 1820, 96, 1818, 1819), (1267, 0, 1, 1828, 96, 1826, 1827), (1268, 0, 1, 1832, 96, 1830, 1831), (1269, 0, 1, 1840, 96, 1839, 75), (1270, 0, 1, 1836, 96, 1834, 1835), (1271, 0, 1, 1853, 96, 1852, 77), (1272, 0, 0, 1849, 96, 1848, 76), (1273, 0, 0, 1844, 96, 1842, 1843), (1274, 0, 1, 1862, 96, 1861, 78), (1275, 0, 2, 1857, 96, 1855, 1856), (1276, 0, 1, 1866, 96, 1864, 1865), (1277, 0, 2, 1870, 96, 1868, 1869), (1278, 0, 4, 1874, 96, 1872, 1873), (1279, 0, 2, 1878, 96, 1876, 1877), (1280, 0, 1, 1886, 96, 1885, 79), (1281, 0, 2, 1891, 96, 1890, 80), (1282, 0, 1, 1882, 96, 1880, 1881), (1283, 0, 1, 1895, 96, 1893, 1894), (1284, 0, 2, 1899, 96, 1897, 1898), (1285, 0, 1, 1903, 96, 1901, 1902), (1286, 0, 3, 1911, 96, 1910, 81), (1287, 0, 1, 1907, 96, 1905, 1906), (1288, 0, 1, 1915, 96, 1913, 1914), (1289, 0, 2, 1919, 96, 1917, 1918), (1290, 0, 1, 1927, 96, 1925, 1926)]
def z_pp13 : List (Nat × Nat × Nat × Nat × Nat × Nat × Nat) := [(1300, 1, 1, 742, 99, 741, 0), (1301, 1, 1, 1686, 99, 1685, 0)]
def z_pps : List (List (Nat × Nat × Nat × Nat × Nat × Nat × Nat)) := [z_pp0, z_pp1, z_pp2, z_pp3, z_pp4, z_pp5, z_pp6, z_pp7, z_pp8, z_pp9, z_pp10, z_pp11, z_pp12, z_pp13]
def z_mp (m : Nat) : Nat × Nat × Nat × Nat × Nat × Nat × Nat := z_at (z_at z_pps (m / 100) []) (m % 100) (0, 0, 0, 0, 0, 0, 0)
def z_kd (m : Nat) : Nat := (z_mp m).2.1
def z_np (m : Nat) : Nat := (z_mp m).2.2.1
def z_has (p : Nat) (w : Jvm.Cond) : Bool := decide (lw_tbl[p]? = some w) && goodWord w
def z_i32 (x : Int) : Bool := decide (-2147483648 ≤ x) && decide (x ≤ 2147483647)
def z_i64 (x : Int) : Bool := decide (-9223372036854775808 ≤ x) && decide (x ≤ 9223372036854775807)
def z_akind (t : ArrayType) : Nat := match t with
  | .int => 1
  | .boolean => 2
  | .byte => 3
  | .char => 4
  | _ => 0
def z_plain (y : MethodName) : Bool := plainName y.cls && decide (y.cls ≠ "java/lang/invoke/MethodHandle") && decide (y.cls ≠ "java/lang/invoke/VarHandle")
/-- a call's own checks: the callee's kind, how many it takes, what it gives -/
def z_chkI (kd a c d : Nat) (b : Int) : Bool := decide (z_kd a = kd) && decide (c = z_np a + (if kd = 1 then 0 else 1)) && decide ((z_mr a = none) = (d = 0)) && (decide (kd = 1) || (decide (z_cl b.toNat = (z_my a).cls) && decide (b.toNat < 13))) && decide ((z_mp a).1 = a)
def z_chk (m : Nat) (e : z_E) : Bool :=
  match e with
  | (pc, i, len, a, c, d, b, p) =>
  decide (decode (z_mb m) pc = .ok (i, len)) &&
  match i with
  | .aload _ | .iload _ | .lload _ => decide (len = 2)
  | .istore j | .astore j => decide (len = 2) && decide (j < z_ml m)
  | .lstore j => decide (len = 2) && decide (j + 1 < z_ml m)
  | .aload_n _ | .iload_n _ | .lload_n _ => decide (len = 1)
  | .istore_n j | .astore_n j => decide (len = 1) && decide ((j : Nat) < z_ml m)
  | .lstore_n j => decide (len = 1) && decide ((j : Nat) + 1 < z_ml m)
  | .iinc j _ => decide (len = 3) && decide (j < z_ml m)
  | .iconst n => decide (len = 1) && decide (b = n) && z_i32 b
  | .bipush n => decide (len = 2) && decide ((Int8.ofInt n).toInt32 = Int32.ofInt b) && z_i32 b
  | .sipush n => decide (len = 3) && decide ((Int16.ofInt n).toInt32 = Int32.ofInt b) && z_i32 b
  | .ldc x => decide (len = 2) && z_i32 b && z_has p (.constant (z_my m).cls x (Int32.ofInt b))
  | .ldc_w x => decide (len = 3) && z_i32 b && z_has p (.constant (z_my m).cls x (Int32.ofInt b))
  | .ldc2_w x => decide (len = 3) && z_i64 b && z_has p (.constantLong (z_my m).cls x (Int64.ofInt b))
  | .lconst n => decide (len = 1) && decide (Int64.ofNat (n : Nat) = Int64.ofInt b) && z_i64 b
  | .iadd | .isub | .imul | .iand | .ior | .ixor | .ishl | .ishr | .iushr | .idiv | .irem | .ineg | .ladd | .lmul | .ldiv | .lrem | .lcmp | .i2l | .l2i | .i2b | .i2c | .pop | .dup | .dup_x1 | .dup2 | .iaload | .baload | .caload | .iastore | .castore | .bastore | .arraylength => decide (len = 1)
  | .ifCond _ off | .if_icmp _ off | .ifnull off | .ifnonnull off | .goto off => decide (len = 3) && decide ((pc : Int) + off = (a : Int))
  | .tableswitch dflt lo hi offs => offs.toList.all (fun o => decide (0 ≤ (pc : Int) + o)) && decide (0 ≤ (pc : Int) + dflt) && decide (hi = lo + (offs.toList.length : Int) - 1)
  | .getfield x => decide (len = 3) && decide (a < 13) && decide (c < z_nf a) && decide (d = z_ft a c) && z_has p (.fieldLink (z_my m).cls x (z_T a c).1 (z_T a c).2.1 (z_T a c).2.2.1)
  | .putfield x => decide (len = 3) && decide (a < 13) && decide (c < z_nf a) && decide (d = z_ft a c) && z_has p (.fieldLink (z_my m).cls x (z_T a c).1 (z_T a c).2.1 (z_T a c).2.2.1) && (decide ((z_T a c).2.2.2 = false) || (decide ((z_my m).name = "<init>") && decide ((z_T a c).1 = (z_my m).cls)))
  | .newarray t => decide (len = 2) && decide (a = z_akind t) && decide (0 < a) && z_has p (.arrayClass (newarray.typeOf t))
  | .new x => decide (len = 3) && decide (a < 13) && decide (b = z_nf a) && z_has p (.classLink (z_my m).cls x (z_cl a)) && decide (Jvm.Cond.instantiable (z_cl a) (z_nf a) ∈ lw_tbl) && decide (Jvm.Cond.initialized (z_cl a) ∈ lw_tbl)
  | .ireturn => decide (len = 1) && ((decide (a = 2) && decide (z_mr m = some .boolean)) || (decide (a = 1) && decide (z_mr m = some .int)))
  | .return_ => decide (len = 1) && decide (z_mr m = none)
  | .invokestatic x => decide (len = 3) && (if a = 9999 then z_has p (.methodLink (z_my m).cls x arraycopyName) else if a = 9995 then z_has p (.methodLink (z_my m).cls x Lib.Math.max.name) else if a = 9996 then z_has p (.methodLink (z_my m).cls x Lib.Math.min.name) else if a = 9997 then z_has p (.methodLink (z_my m).cls x Lib.Math.abs.name) else decide (a < 9990) && z_has p (.methodLink (z_my m).cls x (z_my a)) && z_chkI 1 a c d b)
  | .invokespecial x => decide (len = 3) && (if a = 9998 then z_has p (.methodLink (z_my m).cls x Lib.objectInit) else z_has p (.methodLink (z_my m).cls x (z_my a)) && z_chkI 2 a c d b && decide (z_mr a = none))
  | .invokevirtual x => decide (len = 3) && z_has p (.methodLink (z_my m).cls x (z_my a)) && z_chkI 0 a c d b
  | _ => false
def z_mchk (q : Nat × Nat × Nat × Nat × Nat × Nat × Nat) : Bool :=
  match q with
  | (m, kd, np, _, p1, p2, p3) =>
  decide (z_kd m = kd) && decide (z_np m = np) && decide ((parseMethodDescriptor (z_my m).desc).map (fun d => d.parameters.length) = some np) && z_plain (z_my m) && z_has p1 (.initialized (z_my m).cls) &&
  decide (z_ml m ≤ 40) && decide (np + (if kd = 1 then 0 else 1) ≤ z_ml m) &&
  (if kd = 1 then z_has p2 (.static (z_my m)) else z_has p2 (.instanceMethod (z_my m))) && (if kd = 0 then z_has p3 (.selects (z_my m).cls (z_my m) (z_my m)) else true) && (if kd = 2 then decide ((z_my m).name = "<init>") else true)

theorem z_e0 : z_c0.all (z_chk 0) = true := by decide +kernel
theorem z_e1 : z_c1.all (z_chk 1) = true := by decide +kernel
theorem z_e2 : z_c2.all (z_chk 2) = true := by decide +kernel
theorem z_e3 : z_c3.all (z_chk 3) = true := by decide +kernel
theorem z_e4 : z_c4.all (z_chk 4) = true := by decide +kernel
theorem z_e5 : z_c5.all (z_chk 5) = true := by decide +kernel
theorem z_e6 : z_c6.all (z_chk 6) = true := by decide +kernel
theorem z_e7 : z_c7.all (z_chk 7) = true := by decide +kernel
theorem z_e100 : z_c100.all (z_chk 100) = true := by decide +kernel
theorem z_e101 : z_c101.all (z_chk 101) = true := by decide +kernel
theorem z_e102 : z_c102.all (z_chk 102) = true := by decide +kernel
theorem z_e103 : z_c103.all (z_chk 103) = true := by decide +kernel
theorem z_e104 : z_c104.all (z_chk 104) = true := by decide +kernel
theorem z_e105 : z_c105.all (z_chk 105) = true := by decide +kernel
theorem z_e106 : z_c106.all (z_chk 106) = true := by decide +kernel
theorem z_e107 : z_c107.all (z_chk 107) = true := by decide +kernel
theorem z_e108 : z_c108.all (z_chk 108) = true := by decide +kernel
theorem z_e109 : z_c109.all (z_chk 109) = true := by decide +kernel
theorem z_e110 : z_c110.all (z_chk 110) = true := by decide +kernel
theorem z_e111 : z_c111.all (z_chk 111) = true := by decide +kernel
theorem z_e112 : z_c112.all (z_chk 112) = true := by decide +kernel
theorem z_e113 : z_c113.all (z_chk 113) = true := by decide +kernel
theorem z_e114 : z_c114.all (z_chk 114) = true := by decide +kernel
theorem z_e115 : z_c115.all (z_chk 115) = true := by decide +kernel
theorem z_e116 : z_c116.all (z_chk 116) = true := by decide +kernel
theorem z_e117 : z_c117.all (z_chk 117) = true := by decide +kernel
theorem z_e118 : z_c118.all (z_chk 118) = true := by decide +kernel
theorem z_e119 : z_c119.all (z_chk 119) = true := by decide +kernel
theorem z_e120 : z_c120.all (z_chk 120) = true := by decide +kernel
theorem z_e121 : z_c121.all (z_chk 121) = true := by decide +kernel
theorem z_e200 : z_c200.all (z_chk 200) = true := by decide +kernel
theorem z_e201 : z_c201.all (z_chk 201) = true := by decide +kernel
theorem z_e202 : z_c202.all (z_chk 202) = true := by decide +kernel
theorem z_e203 : z_c203.all (z_chk 203) = true := by decide +kernel
theorem z_e204 : z_c204.all (z_chk 204) = true := by decide +kernel
theorem z_e205 : z_c205.all (z_chk 205) = true := by decide +kernel
theorem z_e206 : z_c206.all (z_chk 206) = true := by decide +kernel
theorem z_e207 : z_c207.all (z_chk 207) = true := by decide +kernel
theorem z_e208 : z_c208.all (z_chk 208) = true := by decide +kernel
theorem z_e209 : z_c209.all (z_chk 209) = true := by decide +kernel
theorem z_e210 : z_c210.all (z_chk 210) = true := by decide +kernel
theorem z_e211 : z_c211.all (z_chk 211) = true := by decide +kernel
theorem z_e212 : z_c212.all (z_chk 212) = true := by decide +kernel
theorem z_e213 : z_c213.all (z_chk 213) = true := by decide +kernel
theorem z_e214 : z_c214.all (z_chk 214) = true := by decide +kernel
theorem z_e300 : z_c300.all (z_chk 300) = true := by decide +kernel
theorem z_e301 : z_c301.all (z_chk 301) = true := by decide +kernel
theorem z_e302 : z_c302.all (z_chk 302) = true := by decide +kernel
theorem z_e400 : z_c400.all (z_chk 400) = true := by decide +kernel
theorem z_e401 : z_c401.all (z_chk 401) = true := by decide +kernel
theorem z_e402 : z_c402.all (z_chk 402) = true := by decide +kernel
theorem z_e403 : z_c403.all (z_chk 403) = true := by decide +kernel
theorem z_e404 : z_c404.all (z_chk 404) = true := by decide +kernel
theorem z_e405 : z_c405.all (z_chk 405) = true := by decide +kernel
theorem z_e406 : z_c406.all (z_chk 406) = true := by decide +kernel
theorem z_e407 : z_c407.all (z_chk 407) = true := by decide +kernel
theorem z_e408 : z_c408.all (z_chk 408) = true := by decide +kernel
theorem z_e409 : z_c409.all (z_chk 409) = true := by decide +kernel
theorem z_e410 : z_c410.all (z_chk 410) = true := by decide +kernel
theorem z_e411 : z_c411.all (z_chk 411) = true := by decide +kernel
theorem z_e412 : z_c412.all (z_chk 412) = true := by decide +kernel
theorem z_e413 : z_c413.all (z_chk 413) = true := by decide +kernel
theorem z_e500 : z_c500.all (z_chk 500) = true := by decide +kernel
theorem z_e501 : z_c501.all (z_chk 501) = true := by decide +kernel
theorem z_e502 : z_c502.all (z_chk 502) = true := by decide +kernel
theorem z_e503 : z_c503.all (z_chk 503) = true := by decide +kernel
theorem z_e504 : z_c504.all (z_chk 504) = true := by decide +kernel
theorem z_e505 : z_c505.all (z_chk 505) = true := by decide +kernel
theorem z_e506 : z_c506.all (z_chk 506) = true := by decide +kernel
theorem z_e507 : z_c507.all (z_chk 507) = true := by decide +kernel
theorem z_e508 : z_c508.all (z_chk 508) = true := by decide +kernel
theorem z_e509 : z_c509.all (z_chk 509) = true := by decide +kernel
theorem z_e510 : z_c510.all (z_chk 510) = true := by decide +kernel
theorem z_e511 : z_c511.all (z_chk 511) = true := by decide +kernel
theorem z_e512 : z_c512.all (z_chk 512) = true := by decide +kernel
theorem z_e600 : z_c600.all (z_chk 600) = true := by decide +kernel
theorem z_e601 : z_c601.all (z_chk 601) = true := by decide +kernel
theorem z_e602 : z_c602.all (z_chk 602) = true := by decide +kernel
theorem z_e603 : z_c603.all (z_chk 603) = true := by decide +kernel
theorem z_e604 : z_c604.all (z_chk 604) = true := by decide +kernel
theorem z_e605 : z_c605.all (z_chk 605) = true := by decide +kernel
theorem z_e606 : z_c606.all (z_chk 606) = true := by decide +kernel
theorem z_e607 : z_c607.all (z_chk 607) = true := by decide +kernel
theorem z_e608 : z_c608.all (z_chk 608) = true := by decide +kernel
theorem z_e609 : z_c609.all (z_chk 609) = true := by decide +kernel
theorem z_e610 : z_c610.all (z_chk 610) = true := by decide +kernel
theorem z_e611 : z_c611.all (z_chk 611) = true := by decide +kernel
theorem z_e612 : z_c612.all (z_chk 612) = true := by decide +kernel
theorem z_e613 : z_c613.all (z_chk 613) = true := by decide +kernel
theorem z_e614 : z_c614.all (z_chk 614) = true := by decide +kernel
theorem z_e615 : z_c615.all (z_chk 615) = true := by decide +kernel
theorem z_e616 : z_c616.all (z_chk 616) = true := by decide +kernel
theorem z_e617 : z_c617.all (z_chk 617) = true := by decide +kernel
theorem z_e700 : z_c700.all (z_chk 700) = true := by decide +kernel
theorem z_e701 : z_c701.all (z_chk 701) = true := by decide +kernel
theorem z_e702 : z_c702.all (z_chk 702) = true := by decide +kernel
theorem z_e703 : z_c703.all (z_chk 703) = true := by decide +kernel
theorem z_e800 : z_c800.all (z_chk 800) = true := by decide +kernel
theorem z_e801 : z_c801.all (z_chk 801) = true := by decide +kernel
theorem z_e802 : z_c802.all (z_chk 802) = true := by decide +kernel
theorem z_e803 : z_c803.all (z_chk 803) = true := by decide +kernel
theorem z_e804 : z_c804.all (z_chk 804) = true := by decide +kernel
theorem z_e805 : z_c805.all (z_chk 805) = true := by decide +kernel
theorem z_e900 : z_c900.all (z_chk 900) = true := by decide +kernel
theorem z_e901 : z_c901.all (z_chk 901) = true := by decide +kernel
theorem z_e902 : z_c902.all (z_chk 902) = true := by decide +kernel
theorem z_e903 : z_c903.all (z_chk 903) = true := by decide +kernel
theorem z_e904 : z_c904.all (z_chk 904) = true := by decide +kernel
theorem z_e905 : z_c905.all (z_chk 905) = true := by decide +kernel
theorem z_e906 : z_c906.all (z_chk 906) = true := by decide +kernel
theorem z_e907 : z_c907.all (z_chk 907) = true := by decide +kernel
theorem z_e908 : z_c908.all (z_chk 908) = true := by decide +kernel
theorem z_e909 : z_c909.all (z_chk 909) = true := by decide +kernel
theorem z_e910 : z_c910.all (z_chk 910) = true := by decide +kernel
theorem z_e911 : z_c911.all (z_chk 911) = true := by decide +kernel
theorem z_e912 : z_c912.all (z_chk 912) = true := by decide +kernel
theorem z_e913 : z_c913.all (z_chk 913) = true := by decide +kernel
theorem z_e914 : z_c914.all (z_chk 914) = true := by decide +kernel
theorem z_e915 : z_c915.all (z_chk 915) = true := by decide +kernel
theorem z_e916 : z_c916.all (z_chk 916) = true := by decide +kernel
theorem z_e917 : z_c917.all (z_chk 917) = true := by decide +kernel
theorem z_e918 : z_c918.all (z_chk 918) = true := by decide +kernel
theorem z_e919 : z_c919.all (z_chk 919) = true := by decide +kernel
theorem z_e920 : z_c920.all (z_chk 920) = true := by decide +kernel
theorem z_e921 : z_c921.all (z_chk 921) = true := by decide +kernel
theorem z_e922 : z_c922.all (z_chk 922) = true := by decide +kernel
theorem z_e1000 : z_c1000.all (z_chk 1000) = true := by decide +kernel
theorem z_e1001 : z_c1001.all (z_chk 1001) = true := by decide +kernel
theorem z_e1002 : z_c1002.all (z_chk 1002) = true := by decide +kernel
theorem z_e1003 : z_c1003.all (z_chk 1003) = true := by decide +kernel
theorem z_e1004 : z_c1004.all (z_chk 1004) = true := by decide +kernel
theorem z_e1005 : z_c1005.all (z_chk 1005) = true := by decide +kernel
theorem z_e1006 : z_c1006.all (z_chk 1006) = true := by decide +kernel
theorem z_e1007 : z_c1007.all (z_chk 1007) = true := by decide +kernel
theorem z_e1100 : z_c1100.all (z_chk 1100) = true := by decide +kernel
theorem z_e1101 : z_c1101.all (z_chk 1101) = true := by decide +kernel
theorem z_e1102 : z_c1102.all (z_chk 1102) = true := by decide +kernel
theorem z_e1103 : z_c1103.all (z_chk 1103) = true := by decide +kernel
theorem z_e1104 : z_c1104.all (z_chk 1104) = true := by decide +kernel
theorem z_e1105 : z_c1105.all (z_chk 1105) = true := by decide +kernel
theorem z_e1106 : z_c1106.all (z_chk 1106) = true := by decide +kernel
theorem z_e1107 : z_c1107.all (z_chk 1107) = true := by decide +kernel
theorem z_e1108 : z_c1108.all (z_chk 1108) = true := by decide +kernel
theorem z_e1109 : z_c1109.all (z_chk 1109) = true := by decide +kernel
theorem z_e1110 : z_c1110.all (z_chk 1110) = true := by decide +kernel
theorem z_e1111 : z_c1111.all (z_chk 1111) = true := by decide +kernel
theorem z_e1112 : z_c1112.all (z_chk 1112) = true := by decide +kernel
theorem z_e1113 : z_c1113.all (z_chk 1113) = true := by decide +kernel
theorem z_e1114 : z_c1114.all (z_chk 1114) = true := by decide +kernel
theorem z_e1115 : z_c1115.all (z_chk 1115) = true := by decide +kernel
theorem z_e1116 : z_c1116.all (z_chk 1116) = true := by decide +kernel
theorem z_e1117 : z_c1117.all (z_chk 1117) = true := by decide +kernel
theorem z_e1118 : z_c1118.all (z_chk 1118) = true := by decide +kernel
theorem z_e1119 : z_c1119.all (z_chk 1119) = true := by decide +kernel
theorem z_e1120 : z_c1120.all (z_chk 1120) = true := by decide +kernel
theorem z_e1121 : z_c1121.all (z_chk 1121) = true := by decide +kernel
theorem z_e1122 : z_c1122.all (z_chk 1122) = true := by decide +kernel
theorem z_e1123 : z_c1123.all (z_chk 1123) = true := by decide +kernel
theorem z_e1124 : z_c1124.all (z_chk 1124) = true := by decide +kernel
theorem z_e1125 : z_c1125.all (z_chk 1125) = true := by decide +kernel
theorem z_e1126 : z_c1126.all (z_chk 1126) = true := by decide +kernel
theorem z_e1127 : z_c1127.all (z_chk 1127) = true := by decide +kernel
theorem z_e1128 : z_c1128.all (z_chk 1128) = true := by decide +kernel
theorem z_e1129 : z_c1129.all (z_chk 1129) = true := by decide +kernel
theorem z_e1130 : z_c1130.all (z_chk 1130) = true := by decide +kernel
theorem z_e1131 : z_c1131.all (z_chk 1131) = true := by decide +kernel
theorem z_e1132 : z_c1132.all (z_chk 1132) = true := by decide +kernel
theorem z_e1133 : z_c1133.all (z_chk 1133) = true := by decide +kernel
theorem z_e1134 : z_c1134.all (z_chk 1134) = true := by decide +kernel
theorem z_e1135 : z_c1135.all (z_chk 1135) = true := by decide +kernel
theorem z_e1136 : z_c1136.all (z_chk 1136) = true := by decide +kernel
theorem z_e1137 : z_c1137.all (z_chk 1137) = true := by decide +kernel
theorem z_e1138 : z_c1138.all (z_chk 1138) = true := by decide +kernel
theorem z_e1139 : z_c1139.all (z_chk 1139) = true := by decide +kernel
theorem z_e1140 : z_c1140.all (z_chk 1140) = true := by decide +kernel
theorem z_e1141 : z_c1141.all (z_chk 1141) = true := by decide +kernel
theorem z_e1142 : z_c1142.all (z_chk 1142) = true := by decide +kernel
theorem z_e1143 : z_c1143.all (z_chk 1143) = true := by decide +kernel
theorem z_e1144 : z_c1144.all (z_chk 1144) = true := by decide +kernel
theorem z_e1200 : z_c1200.all (z_chk 1200) = true := by decide +kernel
theorem z_e1201 : z_c1201.all (z_chk 1201) = true := by decide +kernel
theorem z_e1202 : z_c1202.all (z_chk 1202) = true := by decide +kernel
theorem z_e1203 : z_c1203.all (z_chk 1203) = true := by decide +kernel
theorem z_e1204 : z_c1204.all (z_chk 1204) = true := by decide +kernel
theorem z_e1205 : z_c1205.all (z_chk 1205) = true := by decide +kernel
theorem z_e1206 : z_c1206.all (z_chk 1206) = true := by decide +kernel
theorem z_e1207 : z_c1207.all (z_chk 1207) = true := by decide +kernel
theorem z_e1208 : z_c1208.all (z_chk 1208) = true := by decide +kernel
theorem z_e1209 : z_c1209.all (z_chk 1209) = true := by decide +kernel
theorem z_e1210 : z_c1210.all (z_chk 1210) = true := by decide +kernel
theorem z_e1211 : z_c1211.all (z_chk 1211) = true := by decide +kernel
theorem z_e1212 : z_c1212.all (z_chk 1212) = true := by decide +kernel
theorem z_e1213 : z_c1213.all (z_chk 1213) = true := by decide +kernel
theorem z_e1214 : z_c1214.all (z_chk 1214) = true := by decide +kernel
theorem z_e1215 : z_c1215.all (z_chk 1215) = true := by decide +kernel
theorem z_e1216 : z_c1216.all (z_chk 1216) = true := by decide +kernel
theorem z_e1217 : z_c1217.all (z_chk 1217) = true := by decide +kernel
theorem z_e1218 : z_c1218.all (z_chk 1218) = true := by decide +kernel
theorem z_e1219 : z_c1219.all (z_chk 1219) = true := by decide +kernel
theorem z_e1220 : z_c1220.all (z_chk 1220) = true := by decide +kernel
theorem z_e1221 : z_c1221.all (z_chk 1221) = true := by decide +kernel
theorem z_e1222 : z_c1222.all (z_chk 1222) = true := by decide +kernel
theorem z_e1223 : z_c1223.all (z_chk 1223) = true := by decide +kernel
theorem z_e1224 : z_c1224.all (z_chk 1224) = true := by decide +kernel
theorem z_e1225 : z_c1225.all (z_chk 1225) = true := by decide +kernel
theorem z_e1226 : z_c1226.all (z_chk 1226) = true := by decide +kernel
theorem z_e1227 : z_c1227.all (z_chk 1227) = true := by decide +kernel
theorem z_e1228 : z_c1228.all (z_chk 1228) = true := by decide +kernel
theorem z_e1229 : z_c1229.all (z_chk 1229) = true := by decide +kernel
theorem z_e1230 : z_c1230.all (z_chk 1230) = true := by decide +kernel
theorem z_e1231 : z_c1231.all (z_chk 1231) = true := by decide +kernel
theorem z_e1232 : z_c1232.all (z_chk 1232) = true := by decide +kernel
theorem z_e1233 : z_c1233.all (z_chk 1233) = true := by decide +kernel
theorem z_e1234 : z_c1234.all (z_chk 1234) = true := by decide +kernel
theorem z_e1235 : z_c1235.all (z_chk 1235) = true := by decide +kernel
theorem z_e1236 : z_c1236.all (z_chk 1236) = true := by decide +kernel
theorem z_e1237 : z_c1237.all (z_chk 1237) = true := by decide +kernel
theorem z_e1238 : z_c1238.all (z_chk 1238) = true := by decide +kernel
theorem z_e1239 : z_c1239.all (z_chk 1239) = true := by decide +kernel
theorem z_e1240 : z_c1240.all (z_chk 1240) = true := by decide +kernel
theorem z_e1241 : z_c1241.all (z_chk 1241) = true := by decide +kernel
theorem z_e1242 : z_c1242.all (z_chk 1242) = true := by decide +kernel
theorem z_e1243 : z_c1243.all (z_chk 1243) = true := by decide +kernel
theorem z_e1244 : z_c1244.all (z_chk 1244) = true := by decide +kernel
theorem z_e1245 : z_c1245.all (z_chk 1245) = true := by decide +kernel
theorem z_e1246 : z_c1246.all (z_chk 1246) = true := by decide +kernel
theorem z_e1247 : z_c1247.all (z_chk 1247) = true := by decide +kernel
theorem z_e1248 : z_c1248.all (z_chk 1248) = true := by decide +kernel
theorem z_e1249 : z_c1249.all (z_chk 1249) = true := by decide +kernel
theorem z_e1250 : z_c1250.all (z_chk 1250) = true := by decide +kernel
theorem z_e1251 : z_c1251.all (z_chk 1251) = true := by decide +kernel
theorem z_e1252 : z_c1252.all (z_chk 1252) = true := by decide +kernel
theorem z_e1253 : z_c1253.all (z_chk 1253) = true := by decide +kernel
theorem z_e1254 : z_c1254.all (z_chk 1254) = true := by decide +kernel
theorem z_e1255 : z_c1255.all (z_chk 1255) = true := by decide +kernel
theorem z_e1256 : z_c1256.all (z_chk 1256) = true := by decide +kernel
theorem z_e1257 : z_c1257.all (z_chk 1257) = true := by decide +kernel
theorem z_e1258 : z_c1258.all (z_chk 1258) = true := by decide +kernel
theorem z_e1259 : z_c1259.all (z_chk 1259) = true := by decide +kernel
theorem z_e1260 : z_c1260.all (z_chk 1260) = true := by decide +kernel
theorem z_e1261 : z_c1261.all (z_chk 1261) = true := by decide +kernel
theorem z_e1262 : z_c1262.all (z_chk 1262) = true := by decide +kernel
theorem z_e1263 : z_c1263.all (z_chk 1263) = true := by decide +kernel
theorem z_e1264 : z_c1264.all (z_chk 1264) = true := by decide +kernel
theorem z_e1265 : z_c1265.all (z_chk 1265) = true := by decide +kernel
theorem z_e1266 : z_c1266.all (z_chk 1266) = true := by decide +kernel
theorem z_e1267 : z_c1267.all (z_chk 1267) = true := by decide +kernel
theorem z_e1268 : z_c1268.all (z_chk 1268) = true := by decide +kernel
theorem z_e1269 : z_c1269.all (z_chk 1269) = true := by decide +kernel
theorem z_e1270 : z_c1270.all (z_chk 1270) = true := by decide +kernel
theorem z_e1271 : z_c1271.all (z_chk 1271) = true := by decide +kernel
theorem z_e1272 : z_c1272.all (z_chk 1272) = true := by decide +kernel
theorem z_e1273 : z_c1273.all (z_chk 1273) = true := by decide +kernel
theorem z_e1274 : z_c1274.all (z_chk 1274) = true := by decide +kernel
theorem z_e1275 : z_c1275.all (z_chk 1275) = true := by decide +kernel
theorem z_e1276 : z_c1276.all (z_chk 1276) = true := by decide +kernel
theorem z_e1277 : z_c1277.all (z_chk 1277) = true := by decide +kernel
theorem z_e1278 : z_c1278.all (z_chk 1278) = true := by decide +kernel
theorem z_e1279 : z_c1279.all (z_chk 1279) = true := by decide +kernel
theorem z_e1280 : z_c1280.all (z_chk 1280) = true := by decide +kernel
theorem z_e1281 : z_c1281.all (z_chk 1281) = true := by decide +kernel
theorem z_e1282 : z_c1282.all (z_chk 1282) = true := by decide +kernel
theorem z_e1283 : z_c1283.all (z_chk 1283) = true := by decide +kernel
theorem z_e1284 : z_c1284.all (z_chk 1284) = true := by decide +kernel
theorem z_e1285 : z_c1285.all (z_chk 1285) = true := by decide +kernel
theorem z_e1286 : z_c1286.all (z_chk 1286) = true := by decide +kernel
theorem z_e1287 : z_c1287.all (z_chk 1287) = true := by decide +kernel
theorem z_e1288 : z_c1288.all (z_chk 1288) = true := by decide +kernel
theorem z_e1289 : z_c1289.all (z_chk 1289) = true := by decide +kernel
theorem z_e1290 : z_c1290.all (z_chk 1290) = true := by decide +kernel
theorem z_e1300 : z_c1300.all (z_chk 1300) = true := by decide +kernel
theorem z_e1301 : z_c1301.all (z_chk 1301) = true := by decide +kernel
theorem z_m0 : z_pp0.all z_mchk = true := by decide +kernel
theorem z_m1 : z_pp1.all z_mchk = true := by decide +kernel
theorem z_m2 : z_pp2.all z_mchk = true := by decide +kernel
theorem z_m3 : z_pp3.all z_mchk = true := by decide +kernel
theorem z_m4 : z_pp4.all z_mchk = true := by decide +kernel
theorem z_m5 : z_pp5.all z_mchk = true := by decide +kernel
theorem z_m6 : z_pp6.all z_mchk = true := by decide +kernel
theorem z_m7 : z_pp7.all z_mchk = true := by decide +kernel
theorem z_m8 : z_pp8.all z_mchk = true := by decide +kernel
theorem z_m9 : z_pp9.all z_mchk = true := by decide +kernel
theorem z_m10 : z_pp10.all z_mchk = true := by decide +kernel
theorem z_m11 : z_pp11.all z_mchk = true := by decide +kernel
theorem z_m12 : z_pp12.all z_mchk = true := by decide +kernel
theorem z_m13 : z_pp13.all z_mchk = true := by decide +kernel
set_option maxRecDepth 100000 in
theorem z_w0 : lw_tbl[475]? = some (.code (z_my 0) (z_mb 0) (z_ml 0) (z_mr 0)) := by rfl
set_option maxRecDepth 100000 in
theorem z_w1 : lw_tbl[1075]? = some (.code (z_my 1) (z_mb 1) (z_ml 1) (z_mr 1)) := by rfl
set_option maxRecDepth 100000 in
theorem z_w2 : lw_tbl[1060]? = some (.code (z_my 2) (z_mb 2) (z_ml 2) (z_mr 2)) := by rfl
set_option maxRecDepth 100000 in
theorem z_w3 : lw_tbl[1065]? = some (.code (z_my 3) (z_mb 3) (z_ml 3) (z_mr 3)) := by rfl
set_option maxRecDepth 100000 in
theorem z_w4 : lw_tbl[1071]? = some (.code (z_my 4) (z_mb 4) (z_ml 4) (z_mr 4)) := by rfl
set_option maxRecDepth 100000 in
theorem z_w5 : lw_tbl[1089]? = some (.code (z_my 5) (z_mb 5) (z_ml 5) (z_mr 5)) := by rfl
set_option maxRecDepth 100000 in
theorem z_w6 : lw_tbl[1100]? = some (.code (z_my 6) (z_mb 6) (z_ml 6) (z_mr 6)) := by rfl
set_option maxRecDepth 100000 in
theorem z_w7 : lw_tbl[1106]? = some (.code (z_my 7) (z_mb 7) (z_ml 7) (z_mr 7)) := by rfl
set_option maxRecDepth 100000 in
theorem z_w100 : lw_tbl[274]? = some (.code (z_my 100) (z_mb 100) (z_ml 100) (z_mr 100)) := by rfl
set_option maxRecDepth 100000 in
theorem z_w101 : lw_tbl[634]? = some (.code (z_my 101) (z_mb 101) (z_ml 101) (z_mr 101)) := by rfl
set_option maxRecDepth 100000 in
theorem z_w102 : lw_tbl[638]? = some (.code (z_my 102) (z_mb 102) (z_ml 102) (z_mr 102)) := by rfl
set_option maxRecDepth 100000 in
theorem z_w103 : lw_tbl[670]? = some (.code (z_my 103) (z_mb 103) (z_ml 103) (z_mr 103)) := by rfl
set_option maxRecDepth 100000 in
theorem z_w104 : lw_tbl[678]? = some (.code (z_my 104) (z_mb 104) (z_ml 104) (z_mr 104)) := by rfl
set_option maxRecDepth 100000 in
theorem z_w105 : lw_tbl[682]? = some (.code (z_my 105) (z_mb 105) (z_ml 105) (z_mr 105)) := by rfl
set_option maxRecDepth 100000 in
theorem z_w106 : lw_tbl[735]? = some (.code (z_my 106) (z_mb 106) (z_ml 106) (z_mr 106)) := by rfl
set_option maxRecDepth 100000 in
theorem z_w107 : lw_tbl[739]? = some (.code (z_my 107) (z_mb 107) (z_ml 107) (z_mr 107)) := by rfl
set_option maxRecDepth 100000 in
theorem z_w108 : lw_tbl[749]? = some (.code (z_my 108) (z_mb 108) (z_ml 108) (z_mr 108)) := by rfl
set_option maxRecDepth 100000 in
theorem z_w109 : lw_tbl[783]? = some (.code (z_my 109) (z_mb 109) (z_ml 109) (z_mr 109)) := by rfl
set_option maxRecDepth 100000 in
theorem z_w110 : lw_tbl[766]? = some (.code (z_my 110) (z_mb 110) (z_ml 110) (z_mr 110)) := by rfl
set_option maxRecDepth 100000 in
theorem z_w111 : lw_tbl[901]? = some (.code (z_my 111) (z_mb 111) (z_ml 111) (z_mr 111)) := by rfl
set_option maxRecDepth 100000 in
theorem z_w112 : lw_tbl[779]? = some (.code (z_my 112) (z_mb 112) (z_ml 112) (z_mr 112)) := by rfl
set_option maxRecDepth 100000 in
theorem z_w113 : lw_tbl[1165]? = some (.code (z_my 113) (z_mb 113) (z_ml 113) (z_mr 113)) := by rfl
set_option maxRecDepth 100000 in
theorem z_w114 : lw_tbl[1048]? = some (.code (z_my 114) (z_mb 114) (z_ml 114) (z_mr 114)) := by rfl
set_option maxRecDepth 100000 in
theorem z_w115 : lw_tbl[1169]? = some (.code (z_my 115) (z_mb 115) (z_ml 115) (z_mr 115)) := by rfl
set_option maxRecDepth 100000 in
theorem z_w116 : lw_tbl[873]? = some (.code (z_my 116) (z_mb 116) (z_ml 116) (z_mr 116)) := by rfl
set_option maxRecDepth 100000 in
theorem z_w117 : lw_tbl[836]? = some (.code (z_my 117) (z_mb 117) (z_ml 117) (z_mr 117)) := by rfl
set_option maxRecDepth 100000 in
theorem z_w118 : lw_tbl[812]? = some (.code (z_my 118) (z_mb 118) (z_ml 118) (z_mr 118)) := by rfl
set_option maxRecDepth 100000 in
theorem z_w119 : lw_tbl[807]? = some (.code (z_my 119) (z_mb 119) (z_ml 119) (z_mr 119)) := by rfl
set_option maxRecDepth 100000 in
theorem z_w120 : lw_tbl[891]? = some (.code (z_my 120) (z_mb 120) (z_ml 120) (z_mr 120)) := by rfl
set_option maxRecDepth 100000 in
theorem z_w121 : lw_tbl[816]? = some (.code (z_my 121) (z_mb 121) (z_ml 121) (z_mr 121)) := by rfl
set_option maxRecDepth 100000 in
theorem z_w200 : lw_tbl[219]? = some (.code (z_my 200) (z_mb 200) (z_ml 200) (z_mr 200)) := by rfl
set_option maxRecDepth 100000 in
theorem z_w201 : lw_tbl[556]? = some (.code (z_my 201) (z_mb 201) (z_ml 201) (z_mr 201)) := by rfl
set_option maxRecDepth 100000 in
theorem z_w202 : lw_tbl[616]? = some (.code (z_my 202) (z_mb 202) (z_ml 202) (z_mr 202)) := by rfl
set_option maxRecDepth 100000 in
theorem z_w203 : lw_tbl[608]? = some (.code (z_my 203) (z_mb 203) (z_ml 203) (z_mr 203)) := by rfl
set_option maxRecDepth 100000 in
theorem z_w204 : lw_tbl[612]? = some (.code (z_my 204) (z_mb 204) (z_ml 204) (z_mr 204)) := by rfl
set_option maxRecDepth 100000 in
theorem z_w205 : lw_tbl[620]? = some (.code (z_my 205) (z_mb 205) (z_ml 205) (z_mr 205)) := by rfl
set_option maxRecDepth 100000 in
theorem z_w206 : lw_tbl[666]? = some (.code (z_my 206) (z_mb 206) (z_ml 206) (z_mr 206)) := by rfl
set_option maxRecDepth 100000 in
theorem z_w207 : lw_tbl[658]? = some (.code (z_my 207) (z_mb 207) (z_ml 207) (z_mr 207)) := by rfl
set_option maxRecDepth 100000 in
theorem z_w208 : lw_tbl[650]? = some (.code (z_my 208) (z_mb 208) (z_ml 208) (z_mr 208)) := by rfl
set_option maxRecDepth 100000 in
theorem z_w209 : lw_tbl[642]? = some (.code (z_my 209) (z_mb 209) (z_ml 209) (z_mr 209)) := by rfl
set_option maxRecDepth 100000 in
theorem z_w210 : lw_tbl[646]? = some (.code (z_my 210) (z_mb 210) (z_ml 210) (z_mr 210)) := by rfl
set_option maxRecDepth 100000 in
theorem z_w211 : lw_tbl[1173]? = some (.code (z_my 211) (z_mb 211) (z_ml 211) (z_mr 211)) := by rfl
set_option maxRecDepth 100000 in
theorem z_w212 : lw_tbl[662]? = some (.code (z_my 212) (z_mb 212) (z_ml 212) (z_mr 212)) := by rfl
set_option maxRecDepth 100000 in
theorem z_w213 : lw_tbl[731]? = some (.code (z_my 213) (z_mb 213) (z_ml 213) (z_mr 213)) := by rfl
set_option maxRecDepth 100000 in
theorem z_w214 : lw_tbl[1052]? = some (.code (z_my 214) (z_mb 214) (z_ml 214) (z_mr 214)) := by rfl
set_option maxRecDepth 100000 in
theorem z_w300 : lw_tbl[155]? = some (.code (z_my 300) (z_mb 300) (z_ml 300) (z_mr 300)) := by rfl
set_option maxRecDepth 100000 in
theorem z_w301 : lw_tbl[545]? = some (.code (z_my 301) (z_mb 301) (z_ml 301) (z_mr 301)) := by rfl
set_option maxRecDepth 100000 in
theorem z_w302 : lw_tbl[630]? = some (.code (z_my 302) (z_mb 302) (z_ml 302) (z_mr 302)) := by rfl
set_option maxRecDepth 100000 in
theorem z_w400 : lw_tbl[368]? = some (.code (z_my 400) (z_mb 400) (z_ml 400) (z_mr 400)) := by rfl
set_option maxRecDepth 100000 in
theorem z_w401 : lw_tbl[775]? = some (.code (z_my 401) (z_mb 401) (z_ml 401) (z_mr 401)) := by rfl
set_option maxRecDepth 100000 in
theorem z_w402 : lw_tbl[1044]? = some (.code (z_my 402) (z_mb 402) (z_ml 402) (z_mr 402)) := by rfl
set_option maxRecDepth 100000 in
theorem z_w403 : lw_tbl[1161]? = some (.code (z_my 403) (z_mb 403) (z_ml 403) (z_mr 403)) := by rfl
set_option maxRecDepth 100000 in
theorem z_w404 : lw_tbl[787]? = some (.code (z_my 404) (z_mb 404) (z_ml 404) (z_mr 404)) := by rfl
set_option maxRecDepth 100000 in
theorem z_w405 : lw_tbl[924]? = some (.code (z_my 405) (z_mb 405) (z_ml 405) (z_mr 405)) := by rfl
set_option maxRecDepth 100000 in
theorem z_w406 : lw_tbl[803]? = some (.code (z_my 406) (z_mb 406) (z_ml 406) (z_mr 406)) := by rfl
set_option maxRecDepth 100000 in
theorem z_w407 : lw_tbl[832]? = some (.code (z_my 407) (z_mb 407) (z_ml 407) (z_mr 407)) := by rfl
set_option maxRecDepth 100000 in
theorem z_w408 : lw_tbl[848]? = some (.code (z_my 408) (z_mb 408) (z_ml 408) (z_mr 408)) := by rfl
set_option maxRecDepth 100000 in
theorem z_w409 : lw_tbl[869]? = some (.code (z_my 409) (z_mb 409) (z_ml 409) (z_mr 409)) := by rfl
set_option maxRecDepth 100000 in
theorem z_w410 : lw_tbl[881]? = some (.code (z_my 410) (z_mb 410) (z_ml 410) (z_mr 410)) := by rfl
set_option maxRecDepth 100000 in
theorem z_w411 : lw_tbl[915]? = some (.code (z_my 411) (z_mb 411) (z_ml 411) (z_mr 411)) := by rfl
set_option maxRecDepth 100000 in
theorem z_w412 : lw_tbl[920]? = some (.code (z_my 412) (z_mb 412) (z_ml 412) (z_mr 412)) := by rfl
set_option maxRecDepth 100000 in
theorem z_w413 : lw_tbl[929]? = some (.code (z_my 413) (z_mb 413) (z_ml 413) (z_mr 413)) := by rfl
set_option maxRecDepth 100000 in
theorem z_w500 : lw_tbl[116]? = some (.code (z_my 500) (z_mb 500) (z_ml 500) (z_mr 500)) := by rfl
set_option maxRecDepth 100000 in
theorem z_w501 : lw_tbl[529]? = some (.code (z_my 501) (z_mb 501) (z_ml 501) (z_mr 501)) := by rfl
set_option maxRecDepth 100000 in
theorem z_w502 : lw_tbl[537]? = some (.code (z_my 502) (z_mb 502) (z_ml 502) (z_mr 502)) := by rfl
set_option maxRecDepth 100000 in
theorem z_w503 : lw_tbl[561]? = some (.code (z_my 503) (z_mb 503) (z_ml 503) (z_mr 503)) := by rfl
set_option maxRecDepth 100000 in
theorem z_w504 : lw_tbl[568]? = some (.code (z_my 504) (z_mb 504) (z_ml 504) (z_mr 504)) := by rfl
set_option maxRecDepth 100000 in
theorem z_w505 : lw_tbl[580]? = some (.code (z_my 505) (z_mb 505) (z_ml 505) (z_mr 505)) := by rfl
set_option maxRecDepth 100000 in
theorem z_w506 : lw_tbl[600]? = some (.code (z_my 506) (z_mb 506) (z_ml 506) (z_mr 506)) := by rfl
set_option maxRecDepth 100000 in
theorem z_w507 : lw_tbl[576]? = some (.code (z_my 507) (z_mb 507) (z_ml 507) (z_mr 507)) := by rfl
set_option maxRecDepth 100000 in
theorem z_w508 : lw_tbl[572]? = some (.code (z_my 508) (z_mb 508) (z_ml 508) (z_mr 508)) := by rfl
set_option maxRecDepth 100000 in
theorem z_w509 : lw_tbl[604]? = some (.code (z_my 509) (z_mb 509) (z_ml 509) (z_mr 509)) := by rfl
set_option maxRecDepth 100000 in
theorem z_w510 : lw_tbl[584]? = some (.code (z_my 510) (z_mb 510) (z_ml 510) (z_mr 510)) := by rfl
set_option maxRecDepth 100000 in
theorem z_w511 : lw_tbl[592]? = some (.code (z_my 511) (z_mb 511) (z_ml 511) (z_mr 511)) := by rfl
set_option maxRecDepth 100000 in
theorem z_w512 : lw_tbl[588]? = some (.code (z_my 512) (z_mb 512) (z_ml 512) (z_mr 512)) := by rfl
set_option maxRecDepth 100000 in
theorem z_w600 : lw_tbl[161]? = some (.code (z_my 600) (z_mb 600) (z_ml 600) (z_mr 600)) := by rfl
set_option maxRecDepth 100000 in
theorem z_w601 : lw_tbl[549]? = some (.code (z_my 601) (z_mb 601) (z_ml 601) (z_mr 601)) := by rfl
set_option maxRecDepth 100000 in
theorem z_w602 : lw_tbl[596]? = some (.code (z_my 602) (z_mb 602) (z_ml 602) (z_mr 602)) := by rfl
set_option maxRecDepth 100000 in
theorem z_w603 : lw_tbl[625]? = some (.code (z_my 603) (z_mb 603) (z_ml 603) (z_mr 603)) := by rfl
set_option maxRecDepth 100000 in
theorem z_w604 : lw_tbl[1141]? = some (.code (z_my 604) (z_mb 604) (z_ml 604) (z_mr 604)) := by rfl
set_option maxRecDepth 100000 in
theorem z_w605 : lw_tbl[707]? = some (.code (z_my 605) (z_mb 605) (z_ml 605) (z_mr 605)) := by rfl
set_option maxRecDepth 100000 in
theorem z_w606 : lw_tbl[1148]? = some (.code (z_my 606) (z_mb 606) (z_ml 606) (z_mr 606)) := by rfl
set_option maxRecDepth 100000 in
theorem z_w607 : lw_tbl[723]? = some (.code (z_my 607) (z_mb 607) (z_ml 607) (z_mr 607)) := by rfl
set_option maxRecDepth 100000 in
theorem z_w608 : lw_tbl[864]? = some (.code (z_my 608) (z_mb 608) (z_ml 608) (z_mr 608)) := by rfl
set_option maxRecDepth 100000 in
theorem z_w609 : lw_tbl[715]? = some (.code (z_my 609) (z_mb 609) (z_ml 609) (z_mr 609)) := by rfl
set_option maxRecDepth 100000 in
theorem z_w610 : lw_tbl[719]? = some (.code (z_my 610) (z_mb 610) (z_ml 610) (z_mr 610)) := by rfl
set_option maxRecDepth 100000 in
theorem z_w611 : lw_tbl[703]? = some (.code (z_my 611) (z_mb 611) (z_ml 611) (z_mr 611)) := by rfl
set_option maxRecDepth 100000 in
theorem z_w612 : lw_tbl[699]? = some (.code (z_my 612) (z_mb 612) (z_ml 612) (z_mr 612)) := by rfl
set_option maxRecDepth 100000 in
theorem z_w613 : lw_tbl[860]? = some (.code (z_my 613) (z_mb 613) (z_ml 613) (z_mr 613)) := by rfl
set_option maxRecDepth 100000 in
theorem z_w614 : lw_tbl[1081]? = some (.code (z_my 614) (z_mb 614) (z_ml 614) (z_mr 614)) := by rfl
set_option maxRecDepth 100000 in
theorem z_w615 : lw_tbl[1125]? = some (.code (z_my 615) (z_mb 615) (z_ml 615) (z_mr 615)) := by rfl
set_option maxRecDepth 100000 in
theorem z_w616 : lw_tbl[1312]? = some (.code (z_my 616) (z_mb 616) (z_ml 616) (z_mr 616)) := by rfl
set_option maxRecDepth 100000 in
theorem z_w617 : lw_tbl[799]? = some (.code (z_my 617) (z_mb 617) (z_ml 617) (z_mr 617)) := by rfl
set_option maxRecDepth 100000 in
theorem z_w700 : lw_tbl[140]? = some (.code (z_my 700) (z_mb 700) (z_ml 700) (z_mr 700)) := by rfl
set_option maxRecDepth 100000 in
theorem z_w701 : lw_tbl[820]? = some (.code (z_my 701) (z_mb 701) (z_ml 701) (z_mr 701)) := by rfl
set_option maxRecDepth 100000 in
theorem z_w702 : lw_tbl[824]? = some (.code (z_my 702) (z_mb 702) (z_ml 702) (z_mr 702)) := by rfl
set_option maxRecDepth 100000 in
theorem z_w703 : lw_tbl[1324]? = some (.code (z_my 703) (z_mb 703) (z_ml 703) (z_mr 703)) := by rfl
set_option maxRecDepth 100000 in
theorem z_w800 : lw_tbl[374]? = some (.code (z_my 800) (z_mb 800) (z_ml 800) (z_mr 800)) := by rfl
set_option maxRecDepth 100000 in
theorem z_w801 : lw_tbl[791]? = some (.code (z_my 801) (z_mb 801) (z_ml 801) (z_mr 801)) := by rfl
set_option maxRecDepth 100000 in
theorem z_w802 : lw_tbl[934]? = some (.code (z_my 802) (z_mb 802) (z_ml 802) (z_mr 802)) := by rfl
set_option maxRecDepth 100000 in
theorem z_w803 : lw_tbl[795]? = some (.code (z_my 803) (z_mb 803) (z_ml 803) (z_mr 803)) := by rfl
set_option maxRecDepth 100000 in
theorem z_w804 : lw_tbl[840]? = some (.code (z_my 804) (z_mb 804) (z_ml 804) (z_mr 804)) := by rfl
set_option maxRecDepth 100000 in
theorem z_w805 : lw_tbl[1096]? = some (.code (z_my 805) (z_mb 805) (z_ml 805) (z_mr 805)) := by rfl
set_option maxRecDepth 100000 in
theorem z_w900 : lw_tbl[431]? = some (.code (z_my 900) (z_mb 900) (z_ml 900) (z_mr 900)) := by rfl
set_option maxRecDepth 100000 in
theorem z_w901 : lw_tbl[961]? = some (.code (z_my 901) (z_mb 901) (z_ml 901) (z_mr 901)) := by rfl
set_option maxRecDepth 100000 in
theorem z_w902 : lw_tbl[978]? = some (.code (z_my 902) (z_mb 902) (z_ml 902) (z_mr 902)) := by rfl
set_option maxRecDepth 100000 in
theorem z_w903 : lw_tbl[982]? = some (.code (z_my 903) (z_mb 903) (z_ml 903) (z_mr 903)) := by rfl
set_option maxRecDepth 100000 in
theorem z_w904 : lw_tbl[991]? = some (.code (z_my 904) (z_mb 904) (z_ml 904) (z_mr 904)) := by rfl
set_option maxRecDepth 100000 in
theorem z_w905 : lw_tbl[1000]? = some (.code (z_my 905) (z_mb 905) (z_ml 905) (z_mr 905)) := by rfl
set_option maxRecDepth 100000 in
theorem z_w906 : lw_tbl[1004]? = some (.code (z_my 906) (z_mb 906) (z_ml 906) (z_mr 906)) := by rfl
set_option maxRecDepth 100000 in
theorem z_w907 : lw_tbl[1008]? = some (.code (z_my 907) (z_mb 907) (z_ml 907) (z_mr 907)) := by rfl
set_option maxRecDepth 100000 in
theorem z_w908 : lw_tbl[1012]? = some (.code (z_my 908) (z_mb 908) (z_ml 908) (z_mr 908)) := by rfl
set_option maxRecDepth 100000 in
theorem z_w909 : lw_tbl[1024]? = some (.code (z_my 909) (z_mb 909) (z_ml 909) (z_mr 909)) := by rfl
set_option maxRecDepth 100000 in
theorem z_w910 : lw_tbl[1030]? = some (.code (z_my 910) (z_mb 910) (z_ml 910) (z_mr 910)) := by rfl
set_option maxRecDepth 100000 in
theorem z_w911 : lw_tbl[1119]? = some (.code (z_my 911) (z_mb 911) (z_ml 911) (z_mr 911)) := by rfl
set_option maxRecDepth 100000 in
theorem z_w912 : lw_tbl[1217]? = some (.code (z_my 912) (z_mb 912) (z_ml 912) (z_mr 912)) := by rfl
set_option maxRecDepth 100000 in
theorem z_w913 : lw_tbl[1114]? = some (.code (z_my 913) (z_mb 913) (z_ml 913) (z_mr 913)) := by rfl
set_option maxRecDepth 100000 in
theorem z_w914 : lw_tbl[1133]? = some (.code (z_my 914) (z_mb 914) (z_ml 914) (z_mr 914)) := by rfl
set_option maxRecDepth 100000 in
theorem z_w915 : lw_tbl[1185]? = some (.code (z_my 915) (z_mb 915) (z_ml 915) (z_mr 915)) := by rfl
set_option maxRecDepth 100000 in
theorem z_w916 : lw_tbl[1189]? = some (.code (z_my 916) (z_mb 916) (z_ml 916) (z_mr 916)) := by rfl
set_option maxRecDepth 100000 in
theorem z_w917 : lw_tbl[1207]? = some (.code (z_my 917) (z_mb 917) (z_ml 917) (z_mr 917)) := by rfl
set_option maxRecDepth 100000 in
theorem z_w918 : lw_tbl[1193]? = some (.code (z_my 918) (z_mb 918) (z_ml 918) (z_mr 918)) := by rfl
set_option maxRecDepth 100000 in
theorem z_w919 : lw_tbl[1197]? = some (.code (z_my 919) (z_mb 919) (z_ml 919) (z_mr 919)) := by rfl
set_option maxRecDepth 100000 in
theorem z_w920 : lw_tbl[1225]? = some (.code (z_my 920) (z_mb 920) (z_ml 920) (z_mr 920)) := by rfl
set_option maxRecDepth 100000 in
theorem z_w921 : lw_tbl[1228]? = some (.code (z_my 921) (z_mb 921) (z_ml 921) (z_mr 921)) := by rfl
set_option maxRecDepth 100000 in
theorem z_w922 : lw_tbl[1232]? = some (.code (z_my 922) (z_mb 922) (z_ml 922) (z_mr 922)) := by rfl
set_option maxRecDepth 100000 in
theorem z_w1000 : lw_tbl[280]? = some (.code (z_my 1000) (z_mb 1000) (z_ml 1000) (z_mr 1000)) := by rfl
set_option maxRecDepth 100000 in
theorem z_w1001 : lw_tbl[654]? = some (.code (z_my 1001) (z_mb 1001) (z_ml 1001) (z_mr 1001)) := by rfl
set_option maxRecDepth 100000 in
theorem z_w1002 : lw_tbl[674]? = some (.code (z_my 1002) (z_mb 1002) (z_ml 1002) (z_mr 1002)) := by rfl
set_option maxRecDepth 100000 in
theorem z_w1003 : lw_tbl[691]? = some (.code (z_my 1003) (z_mb 1003) (z_ml 1003) (z_mr 1003)) := by rfl
set_option maxRecDepth 100000 in
theorem z_w1004 : lw_tbl[686]? = some (.code (z_my 1004) (z_mb 1004) (z_ml 1004) (z_mr 1004)) := by rfl
set_option maxRecDepth 100000 in
theorem z_w1005 : lw_tbl[695]? = some (.code (z_my 1005) (z_mb 1005) (z_ml 1005) (z_mr 1005)) := by rfl
set_option maxRecDepth 100000 in
theorem z_w1006 : lw_tbl[711]? = some (.code (z_my 1006) (z_mb 1006) (z_ml 1006) (z_mr 1006)) := by rfl
set_option maxRecDepth 100000 in
theorem z_w1007 : lw_tbl[727]? = some (.code (z_my 1007) (z_mb 1007) (z_ml 1007) (z_mr 1007)) := by rfl
set_option maxRecDepth 100000 in
theorem z_w1100 : lw_tbl[108]? = some (.code (z_my 1100) (z_mb 1100) (z_ml 1100) (z_mr 1100)) := by rfl
set_option maxRecDepth 100000 in
theorem z_w1101 : lw_tbl[525]? = some (.code (z_my 1101) (z_mb 1101) (z_ml 1101) (z_mr 1101)) := by rfl
set_option maxRecDepth 100000 in
theorem z_w1102 : lw_tbl[533]? = some (.code (z_my 1102) (z_mb 1102) (z_ml 1102) (z_mr 1102)) := by rfl
set_option maxRecDepth 100000 in
theorem z_w1103 : lw_tbl[541]? = some (.code (z_my 1103) (z_mb 1103) (z_ml 1103) (z_mr 1103)) := by rfl
set_option maxRecDepth 100000 in
theorem z_w1104 : lw_tbl[753]? = some (.code (z_my 1104) (z_mb 1104) (z_ml 1104) (z_mr 1104)) := by rfl
set_option maxRecDepth 100000 in
theorem z_w1105 : lw_tbl[758]? = some (.code (z_my 1105) (z_mb 1105) (z_ml 1105) (z_mr 1105)) := by rfl
set_option maxRecDepth 100000 in
theorem z_w1106 : lw_tbl[762]? = some (.code (z_my 1106) (z_mb 1106) (z_ml 1106) (z_mr 1106)) := by rfl
set_option maxRecDepth 100000 in
theorem z_w1107 : lw_tbl[828]? = some (.code (z_my 1107) (z_mb 1107) (z_ml 1107) (z_mr 1107)) := by rfl
set_option maxRecDepth 100000 in
theorem z_w1108 : lw_tbl[844]? = some (.code (z_my 1108) (z_mb 1108) (z_ml 1108) (z_mr 1108)) := by rfl
set_option maxRecDepth 100000 in
theorem z_w1109 : lw_tbl[853]? = some (.code (z_my 1109) (z_mb 1109) (z_ml 1109) (z_mr 1109)) := by rfl
set_option maxRecDepth 100000 in
theorem z_w1110 : lw_tbl[877]? = some (.code (z_my 1110) (z_mb 1110) (z_ml 1110) (z_mr 1110)) := by rfl
set_option maxRecDepth 100000 in
theorem z_w1111 : lw_tbl[886]? = some (.code (z_my 1111) (z_mb 1111) (z_ml 1111) (z_mr 1111)) := by rfl
set_option maxRecDepth 100000 in
theorem z_w1112 : lw_tbl[897]? = some (.code (z_my 1112) (z_mb 1112) (z_ml 1112) (z_mr 1112)) := by rfl
set_option maxRecDepth 100000 in
theorem z_w1113 : lw_tbl[905]? = some (.code (z_my 1113) (z_mb 1113) (z_ml 1113) (z_mr 1113)) := by rfl
set_option maxRecDepth 100000 in
theorem z_w1114 : lw_tbl[948]? = some (.code (z_my 1114) (z_mb 1114) (z_ml 1114) (z_mr 1114)) := by rfl
set_option maxRecDepth 100000 in
theorem z_w1115 : lw_tbl[953]? = some (.code (z_my 1115) (z_mb 1115) (z_ml 1115) (z_mr 1115)) := by rfl
set_option maxRecDepth 100000 in
theorem z_w1116 : lw_tbl[957]? = some (.code (z_my 1116) (z_mb 1116) (z_ml 1116) (z_mr 1116)) := by rfl
set_option maxRecDepth 100000 in
theorem z_w1117 : lw_tbl[974]? = some (.code (z_my 1117) (z_mb 1117) (z_ml 1117) (z_mr 1117)) := by rfl
set_option maxRecDepth 100000 in
theorem z_w1118 : lw_tbl[987]? = some (.code (z_my 1118) (z_mb 1118) (z_ml 1118) (z_mr 1118)) := by rfl
set_option maxRecDepth 100000 in
theorem z_w1119 : lw_tbl[996]? = some (.code (z_my 1119) (z_mb 1119) (z_ml 1119) (z_mr 1119)) := by rfl
set_option maxRecDepth 100000 in
theorem z_w1120 : lw_tbl[1016]? = some (.code (z_my 1120) (z_mb 1120) (z_ml 1120) (z_mr 1120)) := by rfl
set_option maxRecDepth 100000 in
theorem z_w1121 : lw_tbl[1020]? = some (.code (z_my 1121) (z_mb 1121) (z_ml 1121) (z_mr 1121)) := by rfl
set_option maxRecDepth 100000 in
theorem z_w1122 : lw_tbl[1036]? = some (.code (z_my 1122) (z_mb 1122) (z_ml 1122) (z_mr 1122)) := by rfl
set_option maxRecDepth 100000 in
theorem z_w1123 : lw_tbl[1040]? = some (.code (z_my 1123) (z_mb 1123) (z_ml 1123) (z_mr 1123)) := by rfl
set_option maxRecDepth 100000 in
theorem z_w1124 : lw_tbl[1056]? = some (.code (z_my 1124) (z_mb 1124) (z_ml 1124) (z_mr 1124)) := by rfl
set_option maxRecDepth 100000 in
theorem z_w1125 : lw_tbl[1085]? = some (.code (z_my 1125) (z_mb 1125) (z_ml 1125) (z_mr 1125)) := by rfl
set_option maxRecDepth 100000 in
theorem z_w1126 : lw_tbl[1110]? = some (.code (z_my 1126) (z_mb 1126) (z_ml 1126) (z_mr 1126)) := by rfl
set_option maxRecDepth 100000 in
theorem z_w1127 : lw_tbl[1129]? = some (.code (z_my 1127) (z_mb 1127) (z_ml 1127) (z_mr 1127)) := by rfl
set_option maxRecDepth 100000 in
theorem z_w1128 : lw_tbl[1137]? = some (.code (z_my 1128) (z_mb 1128) (z_ml 1128) (z_mr 1128)) := by rfl
set_option maxRecDepth 100000 in
theorem z_w1129 : lw_tbl[1145]? = some (.code (z_my 1129) (z_mb 1129) (z_ml 1129) (z_mr 1129)) := by rfl
set_option maxRecDepth 100000 in
theorem z_w1130 : lw_tbl[1153]? = some (.code (z_my 1130) (z_mb 1130) (z_ml 1130) (z_mr 1130)) := by rfl
set_option maxRecDepth 100000 in
theorem z_w1131 : lw_tbl[1157]? = some (.code (z_my 1131) (z_mb 1131) (z_ml 1131) (z_mr 1131)) := by rfl
set_option maxRecDepth 100000 in
theorem z_w1132 : lw_tbl[1177]? = some (.code (z_my 1132) (z_mb 1132) (z_ml 1132) (z_mr 1132)) := by rfl
set_option maxRecDepth 100000 in
theorem z_w1133 : lw_tbl[1203]? = some (.code (z_my 1133) (z_mb 1133) (z_ml 1133) (z_mr 1133)) := by rfl
set_option maxRecDepth 100000 in
theorem z_w1134 : lw_tbl[1212]? = some (.code (z_my 1134) (z_mb 1134) (z_ml 1134) (z_mr 1134)) := by rfl
set_option maxRecDepth 100000 in
theorem z_w1135 : lw_tbl[1221]? = some (.code (z_my 1135) (z_mb 1135) (z_ml 1135) (z_mr 1135)) := by rfl
set_option maxRecDepth 100000 in
theorem z_w1136 : lw_tbl[1239]? = some (.code (z_my 1136) (z_mb 1136) (z_ml 1136) (z_mr 1136)) := by rfl
set_option maxRecDepth 100000 in
theorem z_w1137 : lw_tbl[1247]? = some (.code (z_my 1137) (z_mb 1137) (z_ml 1137) (z_mr 1137)) := by rfl
set_option maxRecDepth 100000 in
theorem z_w1138 : lw_tbl[1320]? = some (.code (z_my 1138) (z_mb 1138) (z_ml 1138) (z_mr 1138)) := by rfl
set_option maxRecDepth 100000 in
theorem z_w1139 : lw_tbl[771]? = some (.code (z_my 1139) (z_mb 1139) (z_ml 1139) (z_mr 1139)) := by rfl
set_option maxRecDepth 100000 in
theorem z_w1140 : lw_tbl[856]? = some (.code (z_my 1140) (z_mb 1140) (z_ml 1140) (z_mr 1140)) := by rfl
set_option maxRecDepth 100000 in
theorem z_w1141 : lw_tbl[909]? = some (.code (z_my 1141) (z_mb 1141) (z_ml 1141) (z_mr 1141)) := by rfl
set_option maxRecDepth 100000 in
theorem z_w1142 : lw_tbl[1181]? = some (.code (z_my 1142) (z_mb 1142) (z_ml 1142) (z_mr 1142)) := by rfl
set_option maxRecDepth 100000 in
theorem z_w1143 : lw_tbl[938]? = some (.code (z_my 1143) (z_mb 1143) (z_ml 1143) (z_mr 1143)) := by rfl
set_option maxRecDepth 100000 in
theorem z_w1144 : lw_tbl[943]? = some (.code (z_my 1144) (z_mb 1144) (z_ml 1144) (z_mr 1144)) := by rfl
set_option maxRecDepth 100000 in
theorem z_w1200 : lw_tbl[1329]? = some (.code (z_my 1200) (z_mb 1200) (z_ml 1200) (z_mr 1200)) := by rfl
set_option maxRecDepth 100000 in
theorem z_w1201 : lw_tbl[1563]? = some (.code (z_my 1201) (z_mb 1201) (z_ml 1201) (z_mr 1201)) := by rfl
set_option maxRecDepth 100000 in
theorem z_w1202 : lw_tbl[1574]? = some (.code (z_my 1202) (z_mb 1202) (z_ml 1202) (z_mr 1202)) := by rfl
set_option maxRecDepth 100000 in
theorem z_w1203 : lw_tbl[1923]? = some (.code (z_my 1203) (z_mb 1203) (z_ml 1203) (z_mr 1203)) := by rfl
set_option maxRecDepth 100000 in
theorem z_w1204 : lw_tbl[1707]? = some (.code (z_my 1204) (z_mb 1204) (z_ml 1204) (z_mr 1204)) := by rfl
set_option maxRecDepth 100000 in
theorem z_w1205 : lw_tbl[1635]? = some (.code (z_my 1205) (z_mb 1205) (z_ml 1205) (z_mr 1205)) := by rfl
set_option maxRecDepth 100000 in
theorem z_w1206 : lw_tbl[1655]? = some (.code (z_my 1206) (z_mb 1206) (z_ml 1206) (z_mr 1206)) := by rfl
set_option maxRecDepth 100000 in
theorem z_w1207 : lw_tbl[1722]? = some (.code (z_my 1207) (z_mb 1207) (z_ml 1207) (z_mr 1207)) := by rfl
set_option maxRecDepth 100000 in
theorem z_w1208 : lw_tbl[1639]? = some (.code (z_my 1208) (z_mb 1208) (z_ml 1208) (z_mr 1208)) := by rfl
set_option maxRecDepth 100000 in
theorem z_w1209 : lw_tbl[1567]? = some (.code (z_my 1209) (z_mb 1209) (z_ml 1209) (z_mr 1209)) := by rfl
set_option maxRecDepth 100000 in
theorem z_w1210 : lw_tbl[1571]? = some (.code (z_my 1210) (z_mb 1210) (z_ml 1210) (z_mr 1210)) := by rfl
set_option maxRecDepth 100000 in
theorem z_w1211 : lw_tbl[1586]? = some (.code (z_my 1211) (z_mb 1211) (z_ml 1211) (z_mr 1211)) := by rfl
set_option maxRecDepth 100000 in
theorem z_w1212 : lw_tbl[1614]? = some (.code (z_my 1212) (z_mb 1212) (z_ml 1212) (z_mr 1212)) := by rfl
set_option maxRecDepth 100000 in
theorem z_w1213 : lw_tbl[1594]? = some (.code (z_my 1213) (z_mb 1213) (z_ml 1213) (z_mr 1213)) := by rfl
set_option maxRecDepth 100000 in
theorem z_w1214 : lw_tbl[1590]? = some (.code (z_my 1214) (z_mb 1214) (z_ml 1214) (z_mr 1214)) := by rfl
set_option maxRecDepth 100000 in
theorem z_w1215 : lw_tbl[1606]? = some (.code (z_my 1215) (z_mb 1215) (z_ml 1215) (z_mr 1215)) := by rfl
set_option maxRecDepth 100000 in
theorem z_w1216 : lw_tbl[1602]? = some (.code (z_my 1216) (z_mb 1216) (z_ml 1216) (z_mr 1216)) := by rfl
set_option maxRecDepth 100000 in
theorem z_w1217 : lw_tbl[1598]? = some (.code (z_my 1217) (z_mb 1217) (z_ml 1217) (z_mr 1217)) := by rfl
set_option maxRecDepth 100000 in
theorem z_w1218 : lw_tbl[1582]? = some (.code (z_my 1218) (z_mb 1218) (z_ml 1218) (z_mr 1218)) := by rfl
set_option maxRecDepth 100000 in
theorem z_w1219 : lw_tbl[1610]? = some (.code (z_my 1219) (z_mb 1219) (z_ml 1219) (z_mr 1219)) := by rfl
set_option maxRecDepth 100000 in
theorem z_w1220 : lw_tbl[1578]? = some (.code (z_my 1220) (z_mb 1220) (z_ml 1220) (z_mr 1220)) := by rfl
set_option maxRecDepth 100000 in
theorem z_w1221 : lw_tbl[1619]? = some (.code (z_my 1221) (z_mb 1221) (z_ml 1221) (z_mr 1221)) := by rfl
set_option maxRecDepth 100000 in
theorem z_w1222 : lw_tbl[1623]? = some (.code (z_my 1222) (z_mb 1222) (z_ml 1222) (z_mr 1222)) := by rfl
set_option maxRecDepth 100000 in
theorem z_w1223 : lw_tbl[1627]? = some (.code (z_my 1223) (z_mb 1223) (z_ml 1223) (z_mr 1223)) := by rfl
set_option maxRecDepth 100000 in
theorem z_w1224 : lw_tbl[1671]? = some (.code (z_my 1224) (z_mb 1224) (z_ml 1224) (z_mr 1224)) := by rfl
set_option maxRecDepth 100000 in
theorem z_w1225 : lw_tbl[1679]? = some (.code (z_my 1225) (z_mb 1225) (z_ml 1225) (z_mr 1225)) := by rfl
set_option maxRecDepth 100000 in
theorem z_w1226 : lw_tbl[1675]? = some (.code (z_my 1226) (z_mb 1226) (z_ml 1226) (z_mr 1226)) := by rfl
set_option maxRecDepth 100000 in
theorem z_w1227 : lw_tbl[1667]? = some (.code (z_my 1227) (z_mb 1227) (z_ml 1227) (z_mr 1227)) := by rfl
set_option maxRecDepth 100000 in
theorem z_w1228 : lw_tbl[1663]? = some (.code (z_my 1228) (z_mb 1228) (z_ml 1228) (z_mr 1228)) := by rfl
set_option maxRecDepth 100000 in
theorem z_w1229 : lw_tbl[1659]? = some (.code (z_my 1229) (z_mb 1229) (z_ml 1229) (z_mr 1229)) := by rfl
set_option maxRecDepth 100000 in
theorem z_w1230 : lw_tbl[1683]? = some (.code (z_my 1230) (z_mb 1230) (z_ml 1230) (z_mr 1230)) := by rfl
set_option maxRecDepth 100000 in
theorem z_w1231 : lw_tbl[1699]? = some (.code (z_my 1231) (z_mb 1231) (z_ml 1231) (z_mr 1231)) := by rfl
set_option maxRecDepth 100000 in
theorem z_w1232 : lw_tbl[1703]? = some (.code (z_my 1232) (z_mb 1232) (z_ml 1232) (z_mr 1232)) := by rfl
set_option maxRecDepth 100000 in
theorem z_w1233 : lw_tbl[1726]? = some (.code (z_my 1233) (z_mb 1233) (z_ml 1233) (z_mr 1233)) := by rfl
set_option maxRecDepth 100000 in
theorem z_w1234 : lw_tbl[1631]? = some (.code (z_my 1234) (z_mb 1234) (z_ml 1234) (z_mr 1234)) := by rfl
set_option maxRecDepth 100000 in
theorem z_w1235 : lw_tbl[1643]? = some (.code (z_my 1235) (z_mb 1235) (z_ml 1235) (z_mr 1235)) := by rfl
set_option maxRecDepth 100000 in
theorem z_w1236 : lw_tbl[1691]? = some (.code (z_my 1236) (z_mb 1236) (z_ml 1236) (z_mr 1236)) := by rfl
set_option maxRecDepth 100000 in
theorem z_w1237 : lw_tbl[1695]? = some (.code (z_my 1237) (z_mb 1237) (z_ml 1237) (z_mr 1237)) := by rfl
set_option maxRecDepth 100000 in
theorem z_w1238 : lw_tbl[1651]? = some (.code (z_my 1238) (z_mb 1238) (z_ml 1238) (z_mr 1238)) := by rfl
set_option maxRecDepth 100000 in
theorem z_w1239 : lw_tbl[1647]? = some (.code (z_my 1239) (z_mb 1239) (z_ml 1239) (z_mr 1239)) := by rfl
set_option maxRecDepth 100000 in
theorem z_w1240 : lw_tbl[1711]? = some (.code (z_my 1240) (z_mb 1240) (z_ml 1240) (z_mr 1240)) := by rfl
set_option maxRecDepth 100000 in
theorem z_w1241 : lw_tbl[1715]? = some (.code (z_my 1241) (z_mb 1241) (z_ml 1241) (z_mr 1241)) := by rfl
set_option maxRecDepth 100000 in
theorem z_w1242 : lw_tbl[1719]? = some (.code (z_my 1242) (z_mb 1242) (z_ml 1242) (z_mr 1242)) := by rfl
set_option maxRecDepth 100000 in
theorem z_w1243 : lw_tbl[1730]? = some (.code (z_my 1243) (z_mb 1243) (z_ml 1243) (z_mr 1243)) := by rfl
set_option maxRecDepth 100000 in
theorem z_w1244 : lw_tbl[1734]? = some (.code (z_my 1244) (z_mb 1244) (z_ml 1244) (z_mr 1244)) := by rfl
set_option maxRecDepth 100000 in
theorem z_w1245 : lw_tbl[1738]? = some (.code (z_my 1245) (z_mb 1245) (z_ml 1245) (z_mr 1245)) := by rfl
set_option maxRecDepth 100000 in
theorem z_w1246 : lw_tbl[1742]? = some (.code (z_my 1246) (z_mb 1246) (z_ml 1246) (z_mr 1246)) := by rfl
set_option maxRecDepth 100000 in
theorem z_w1247 : lw_tbl[1763]? = some (.code (z_my 1247) (z_mb 1247) (z_ml 1247) (z_mr 1247)) := by rfl
set_option maxRecDepth 100000 in
theorem z_w1248 : lw_tbl[1775]? = some (.code (z_my 1248) (z_mb 1248) (z_ml 1248) (z_mr 1248)) := by rfl
set_option maxRecDepth 100000 in
theorem z_w1249 : lw_tbl[1767]? = some (.code (z_my 1249) (z_mb 1249) (z_ml 1249) (z_mr 1249)) := by rfl
set_option maxRecDepth 100000 in
theorem z_w1250 : lw_tbl[1771]? = some (.code (z_my 1250) (z_mb 1250) (z_ml 1250) (z_mr 1250)) := by rfl
set_option maxRecDepth 100000 in
theorem z_w1251 : lw_tbl[1754]? = some (.code (z_my 1251) (z_mb 1251) (z_ml 1251) (z_mr 1251)) := by rfl
set_option maxRecDepth 100000 in
theorem z_w1252 : lw_tbl[1750]? = some (.code (z_my 1252) (z_mb 1252) (z_ml 1252) (z_mr 1252)) := by rfl
set_option maxRecDepth 100000 in
theorem z_w1253 : lw_tbl[1759]? = some (.code (z_my 1253) (z_mb 1253) (z_ml 1253) (z_mr 1253)) := by rfl
set_option maxRecDepth 100000 in
theorem z_w1254 : lw_tbl[1779]? = some (.code (z_my 1254) (z_mb 1254) (z_ml 1254) (z_mr 1254)) := by rfl
set_option maxRecDepth 100000 in
theorem z_w1255 : lw_tbl[1746]? = some (.code (z_my 1255) (z_mb 1255) (z_ml 1255) (z_mr 1255)) := by rfl
set_option maxRecDepth 100000 in
theorem z_w1256 : lw_tbl[1783]? = some (.code (z_my 1256) (z_mb 1256) (z_ml 1256) (z_mr 1256)) := by rfl
set_option maxRecDepth 100000 in
theorem z_w1257 : lw_tbl[1787]? = some (.code (z_my 1257) (z_mb 1257) (z_ml 1257) (z_mr 1257)) := by rfl
set_option maxRecDepth 100000 in
theorem z_w1258 : lw_tbl[1791]? = some (.code (z_my 1258) (z_mb 1258) (z_ml 1258) (z_mr 1258)) := by rfl
set_option maxRecDepth 100000 in
theorem z_w1259 : lw_tbl[1796]? = some (.code (z_my 1259) (z_mb 1259) (z_ml 1259) (z_mr 1259)) := by rfl
set_option maxRecDepth 100000 in
theorem z_w1260 : lw_tbl[1800]? = some (.code (z_my 1260) (z_mb 1260) (z_ml 1260) (z_mr 1260)) := by rfl
set_option maxRecDepth 100000 in
theorem z_w1261 : lw_tbl[1812]? = some (.code (z_my 1261) (z_mb 1261) (z_ml 1261) (z_mr 1261)) := by rfl
set_option maxRecDepth 100000 in
theorem z_w1262 : lw_tbl[1808]? = some (.code (z_my 1262) (z_mb 1262) (z_ml 1262) (z_mr 1262)) := by rfl
set_option maxRecDepth 100000 in
theorem z_w1263 : lw_tbl[1804]? = some (.code (z_my 1263) (z_mb 1263) (z_ml 1263) (z_mr 1263)) := by rfl
set_option maxRecDepth 100000 in
theorem z_w1264 : lw_tbl[1816]? = some (.code (z_my 1264) (z_mb 1264) (z_ml 1264) (z_mr 1264)) := by rfl
set_option maxRecDepth 100000 in
theorem z_w1265 : lw_tbl[1824]? = some (.code (z_my 1265) (z_mb 1265) (z_ml 1265) (z_mr 1265)) := by rfl
set_option maxRecDepth 100000 in
theorem z_w1266 : lw_tbl[1820]? = some (.code (z_my 1266) (z_mb 1266) (z_ml 1266) (z_mr 1266)) := by rfl
set_option maxRecDepth 100000 in
theorem z_w1267 : lw_tbl[1828]? = some (.code (z_my 1267) (z_mb 1267) (z_ml 1267) (z_mr 1267)) := by rfl
set_option maxRecDepth 100000 in
theorem z_w1268 : lw_tbl[1832]? = some (.code (z_my 1268) (z_mb 1268) (z_ml 1268) (z_mr 1268)) := by rfl
set_option maxRecDepth 100000 in
theorem z_w1269 : lw_tbl[1840]? = some (.code (z_my 1269) (z_mb 1269) (z_ml 1269) (z_mr 1269)) := by rfl
set_option maxRecDepth 100000 in
theorem z_w1270 : lw_tbl[1836]? = some (.code (z_my 1270) (z_mb 1270) (z_ml 1270) (z_mr 1270)) := by rfl
set_option maxRecDepth 100000 in
theorem z_w1271 : lw_tbl[1853]? = some (.code (z_my 1271) (z_mb 1271) (z_ml 1271) (z_mr 1271)) := by rfl
set_option maxRecDepth 100000 in
theorem z_w1272 : lw_tbl[1849]? = some (.code (z_my 1272) (z_mb 1272) (z_ml 1272) (z_mr 1272)) := by rfl
set_option maxRecDepth 100000 in
theorem z_w1273 : lw_tbl[1844]? = some (.code (z_my 1273) (z_mb 1273) (z_ml 1273) (z_mr 1273)) := by rfl
set_option maxRecDepth 100000 in
theorem z_w1274 : lw_tbl[1862]? = some (.code (z_my 1274) (z_mb 1274) (z_ml 1274) (z_mr 1274)) := by rfl
set_option maxRecDepth 100000 in
theorem z_w1275 : lw_tbl[1857]? = some (.code (z_my 1275) (z_mb 1275) (z_ml 1275) (z_mr 1275)) := by rfl
set_option maxRecDepth 100000 in
theorem z_w1276 : lw_tbl[1866]? = some (.code (z_my 1276) (z_mb 1276) (z_ml 1276) (z_mr 1276)) := by rfl
set_option maxRecDepth 100000 in
theorem z_w1277 : lw_tbl[1870]? = some (.code (z_my 1277) (z_mb 1277) (z_ml 1277) (z_mr 1277)) := by rfl
set_option maxRecDepth 100000 in
theorem z_w1278 : lw_tbl[1874]? = some (.code (z_my 1278) (z_mb 1278) (z_ml 1278) (z_mr 1278)) := by rfl
set_option maxRecDepth 100000 in
theorem z_w1279 : lw_tbl[1878]? = some (.code (z_my 1279) (z_mb 1279) (z_ml 1279) (z_mr 1279)) := by rfl
set_option maxRecDepth 100000 in
theorem z_w1280 : lw_tbl[1886]? = some (.code (z_my 1280) (z_mb 1280) (z_ml 1280) (z_mr 1280)) := by rfl
set_option maxRecDepth 100000 in
theorem z_w1281 : lw_tbl[1891]? = some (.code (z_my 1281) (z_mb 1281) (z_ml 1281) (z_mr 1281)) := by rfl
set_option maxRecDepth 100000 in
theorem z_w1282 : lw_tbl[1882]? = some (.code (z_my 1282) (z_mb 1282) (z_ml 1282) (z_mr 1282)) := by rfl
set_option maxRecDepth 100000 in
theorem z_w1283 : lw_tbl[1895]? = some (.code (z_my 1283) (z_mb 1283) (z_ml 1283) (z_mr 1283)) := by rfl
set_option maxRecDepth 100000 in
theorem z_w1284 : lw_tbl[1899]? = some (.code (z_my 1284) (z_mb 1284) (z_ml 1284) (z_mr 1284)) := by rfl
set_option maxRecDepth 100000 in
theorem z_w1285 : lw_tbl[1903]? = some (.code (z_my 1285) (z_mb 1285) (z_ml 1285) (z_mr 1285)) := by rfl
set_option maxRecDepth 100000 in
theorem z_w1286 : lw_tbl[1911]? = some (.code (z_my 1286) (z_mb 1286) (z_ml 1286) (z_mr 1286)) := by rfl
set_option maxRecDepth 100000 in
theorem z_w1287 : lw_tbl[1907]? = some (.code (z_my 1287) (z_mb 1287) (z_ml 1287) (z_mr 1287)) := by rfl
set_option maxRecDepth 100000 in
theorem z_w1288 : lw_tbl[1915]? = some (.code (z_my 1288) (z_mb 1288) (z_ml 1288) (z_mr 1288)) := by rfl
set_option maxRecDepth 100000 in
theorem z_w1289 : lw_tbl[1919]? = some (.code (z_my 1289) (z_mb 1289) (z_ml 1289) (z_mr 1289)) := by rfl
set_option maxRecDepth 100000 in
theorem z_w1290 : lw_tbl[1927]? = some (.code (z_my 1290) (z_mb 1290) (z_ml 1290) (z_mr 1290)) := by rfl
set_option maxRecDepth 100000 in
theorem z_w1300 : lw_tbl[742]? = some (.code (z_my 1300) (z_mb 1300) (z_ml 1300) (z_mr 1300)) := by rfl
set_option maxRecDepth 100000 in
theorem z_w1301 : lw_tbl[1686]? = some (.code (z_my 1301) (z_mb 1301) (z_ml 1301) (z_mr 1301)) := by rfl
theorem z_ms_max : lw_tbl[967]? = some (.static Lib.Math.max.name) := by decide +kernel
set_option maxRecDepth 100000 in
theorem z_mc_max : lw_tbl[968]? = some (.code Lib.Math.max.name Lib.Math.max.code 2 (some .int)) := by rfl
theorem z_ms_min : lw_tbl[563]? = some (.static Lib.Math.min.name) := by decide +kernel
set_option maxRecDepth 100000 in
theorem z_mc_min : lw_tbl[564]? = some (.code Lib.Math.min.name Lib.Math.min.code 2 (some .int)) := by rfl
theorem z_ms_abs : lw_tbl[1234]? = some (.static Lib.Math.abs.name) := by decide +kernel
set_option maxRecDepth 100000 in
theorem z_mc_abs : lw_tbl[1235]? = some (.code Lib.Math.abs.name Lib.Math.abs.code 1 (some .int)) := by rfl
end
section
def z_lp : List (List Nat) := [[482, 484, 486, 488], [337, 339, 341, 343, 345, 347, 349, 351, 353, 355, 357, 359, 361], [234, 236, 238, 240, 242, 244, 246, 248, 250, 252], [265, 267], [414, 416, 418, 420, 422, 424], [124, 126, 128, 130, 132], [190, 192, 194, 196, 198, 200, 202, 204, 206, 208, 210, 212], [146, 148], [387, 389, 391, 393, 395, 397, 399], [448, 450, 452, 454, 456, 458, 460, 462, 464, 466, 468], [298, 300, 302, 304, 306, 308, 310, 312, 314, 316, 318], [501, 503, 505, 507, 509, 511, 513, 515, 517, 519], [1406, 1408, 1410, 1412, 1414, 1416, 1418, 1420, 1422, 1424, 1426, 1428, 1430, 1432, 1434, 1436, 1438, 1440, 1442, 1444, 1446, 1448, 1450, 1452, 1454, 1456, 1458, 1460, 1462, 1464, 1466, 1468, 1470, 1472, 1474, 1476, 1478, 1480, 1482, 1484, 1486, 1488, 1490, 1492, 1494, 1496, 1498, 1500, 1502, 1504, 1506, 1508, 1510, 1512, 1514, 1516, 1518, 1520, 1522, 1524, 1526, 1528, 1530, 1532, 1534, 1536, 1538, 1540, 1542, 1544, 1546, 1548, 1550, 1552, 1554]]
theorem z_has_mem {p : Nat} {w : Jvm.Cond} (h : z_has p w = true) : w ∈ z_tw := by
  unfold z_has at h
  rw [Bool.and_eq_true] at h
  exact List.mem_filter.mpr ⟨List.mem_of_getElem? (of_decide_eq_true h.1), h.2⟩
theorem z_uwc : (List.range 13).all (fun a => (List.range (z_nf a)).all (fun k => z_has (z_at (z_at z_lp a []) k 0) (u_lay (z_cl a) (z_T a) k))) = true := by decide +kernel
theorem z_uw (a : Nat) (ha : a < 13) : ∀ w ∈ u_ws (z_cl a) (z_T a) (z_nf a), w ∈ z_tw := by
  intro w hw
  unfold u_ws at hw
  obtain ⟨k, hk, rfl⟩ := List.mem_map.mp hw
  have h1 := List.all_eq_true.mp z_uwc a (List.mem_range.mpr ha)
  exact z_has_mem (List.all_eq_true.mp h1 k hk)
theorem z_vwCl (a : Nat) (ha : a < 13) : vwCl[a]? = some (z_cl a, z_T a, z_nf a) := by
  match a, ha with
  | 0, _ => rfl
  | 1, _ => rfl
  | 2, _ => rfl
  | 3, _ => rfl
  | 4, _ => rfl
  | 5, _ => rfl
  | 6, _ => rfl
  | 7, _ => rfl
  | 8, _ => rfl
  | 9, _ => rfl
  | 10, _ => rfl
  | 11, _ => rfl
  | 12, _ => rfl
  | a + 13, h => exact absurd h (by omega)
theorem z_tyc : (List.range 13).all (fun a => (List.range (z_nf a)).all (fun k => decide (parseFieldDescriptor (z_T a k).2.2.1 = some (z_ty a k)))) = true := by decide +kernel
theorem z_tyok (a : Nat) (ha : a < 13) (k : Nat) (hk : k < z_nf a) : parseFieldDescriptor (z_T a k).2.2.1 = some (z_ty a k) :=
  of_decide_eq_true (List.all_eq_true.mp (List.all_eq_true.mp z_tyc a (List.mem_range.mpr ha)) k (List.mem_range.mpr hk))
theorem z_nmc : (List.range 13).all (fun a => (List.range (z_nf a)).all (fun k => (List.range (z_nf a)).all (fun j => decide (k ≠ j → (z_T a k).2.1 ≠ (z_T a j).2.1)))) = true := by decide +kernel
theorem z_nm (a : Nat) (ha : a < 13) : ∀ k, k < z_nf a → ∀ j, j < z_nf a → k ≠ j → (z_T a k).2.1 ≠ (z_T a j).2.1 := fun k hk j hj =>
  of_decide_eq_true (List.all_eq_true.mp (List.all_eq_true.mp (List.all_eq_true.mp z_nmc a (List.mem_range.mpr ha)) k (List.mem_range.mpr hk)) j (List.mem_range.mpr hj))
def z_isref (t : FieldType) : Bool := match t with
  | .object _ => true
  | .array _ => true
  | _ => false
def z_ftt (n : Nat) (t : FieldType) : Bool := match n with
  | 0 => decide (t = .int)
  | 1 => z_isref t
  | 2 => decide (t = .long)
  | 3 => decide (t = .boolean)
  | _ => false
theorem z_ftc : (List.range 13).all (fun a => (List.range (z_nf a)).all (fun k => z_ftt (z_ft a k) (z_ty a k))) = true := by decide +kernel
theorem z_fto (a : Nat) (ha : a < 13) (k : Nat) (hk : k < z_nf a) : z_ftt (z_ft a k) (z_ty a k) = true :=
  List.all_eq_true.mp (List.all_eq_true.mp z_ftc a (List.mem_range.mpr ha)) k (List.mem_range.mpr hk)
/-- a new object's fields -/
theorem z_dfc (a : Nat) (ha : a < 13) (k : Nat) (hk : k < z_nf a) : defaultValue (z_ty a k) = match z_ft a k with
    | 1 => Value.null
    | 2 => Value.long 0
    | _ => Value.int 0 := by
  have h := z_fto a ha k hk
  generalize z_ft a k = n at h ⊢
  generalize z_ty a k = t at h ⊢
  match n, h with
  | 0, h => have h' : t = .int := of_decide_eq_true h; subst h'; rfl
  | 1, h =>
    have h' : z_isref t = true := h
    cases t <;> first | rfl | cases h'
  | 2, h => have h' : t = .long := of_decide_eq_true h; subst h'; rfl
  | 3, h => have h' : t = .boolean := of_decide_eq_true h; subst h'; rfl
  | n + 4, h => cases h

theorem z_ac1 : z_has 552 (.native arraycopyName) = true := by decide +kernel
theorem z_ac2 : z_has 551 (.static arraycopyName) = true := by decide +kernel
theorem z_iniSystem : z_has 97 (.initialized "java/lang/System") = true := by decide +kernel
theorem z_iniMath : z_has 98 (.initialized "java/lang/Math") = true := by decide +kernel
theorem z_oi1 : z_has 110 (.instanceMethod Lib.objectInit) = true := by decide +kernel
set_option maxRecDepth 100000 in
theorem z_oi2 : lw_tbl[111]? = some (.code Lib.objectInit ⟨#[0xb1]⟩ 1 none) := by rfl
end
section
def z_okq (m : Nat) : Prop := (z_code m).all (z_chk m) = true ∧ ∃ p : Nat, lw_tbl[p]? = some (.code (z_my m) (z_mb m) (z_ml m) (z_mr m))
theorem z_lt_nil {P : Nat → Prop} : ∀ i, i < 0 → P i := fun i h => absurd h (Nat.not_lt_zero i)
theorem z_lt_cons {P : Nat → Prop} {n : Nat} (h0 : P 0) (h : ∀ i, i < n → P (i + 1)) : ∀ i, i < n + 1 → P i
  | 0, _ => h0
  | i + 1, hi => h i (Nat.lt_of_succ_lt_succ hi)
set_option maxRecDepth 100000 in
theorem z_oka0 : ∀ i, i < 8 → z_okq (0 + i) := z_lt_cons ⟨z_e0, _, z_w0⟩ (z_lt_cons ⟨z_e1, _, z_w1⟩ (z_lt_cons ⟨z_e2, _, z_w2⟩ (z_lt_cons ⟨z_e3, _, z_w3⟩ (z_lt_cons ⟨z_e4, _, z_w4⟩ (z_lt_cons ⟨z_e5, _, z_w5⟩ (z_lt_cons ⟨z_e6, _, z_w6⟩ (z_lt_cons ⟨z_e7, _, z_w7⟩ (z_lt_nil))))))))
set_option maxRecDepth 100000 in
theorem z_oka1 : ∀ i, i < 22 → z_okq (100 + i) := z_lt_cons ⟨z_e100, _, z_w100⟩ (z_lt_cons ⟨z_e101, _, z_w101⟩ (z_lt_cons ⟨z_e102, _, z_w102⟩ (z_lt_cons ⟨z_e103, _, z_w103⟩ (z_lt_cons ⟨z_e104, _, z_w104⟩ (z_lt_cons ⟨z_e105, _, z_w105⟩ (z_lt_cons ⟨z_e106, _, z_w106⟩ (z_lt_cons ⟨z_e107, _, z_w107⟩ (z_lt_cons ⟨z_e108, _, z_w108⟩ (z_lt_cons ⟨z_e109, _, z_w109⟩ (z_lt_cons ⟨z_e110, _, z_w110⟩ (z_lt_cons ⟨z_e111, _, z_w111⟩ (z_lt_cons ⟨z_e112, _, z_w112⟩ (z_lt_cons ⟨z_e113, _, z_w113⟩ (z_lt_cons ⟨z_e114, _, z_w114⟩ (z_lt_cons ⟨z_e115, _, z_w115⟩ (z_lt_cons ⟨z_e116, _, z_w116⟩ (z_lt_cons ⟨z_e117, _, z_w117⟩ (z_lt_cons ⟨z_e118, _, z_w118⟩ (z_lt_cons ⟨z_e119, _, z_w119⟩ (z_lt_cons ⟨z_e120, _, z_w120⟩ (z_lt_cons ⟨z_e121, _, z_w121⟩ (z_lt_nil))))))))))))))))))))))
set_option maxRecDepth 100000 in
theorem z_oka2 : ∀ i, i < 15 → z_okq (200 + i) := z_lt_cons ⟨z_e200, _, z_w200⟩ (z_lt_cons ⟨z_e201, _, z_w201⟩ (z_lt_cons ⟨z_e202, _, z_w202⟩ (z_lt_cons ⟨z_e203, _, z_w203⟩ (z_lt_cons ⟨z_e204, _, z_w204⟩ (z_lt_cons ⟨z_e205, _, z_w205⟩ (z_lt_cons ⟨z_e206, _, z_w206⟩ (z_lt_cons ⟨z_e207, _, z_w207⟩ (z_lt_cons ⟨z_e208, _, z_w208⟩ (z_lt_cons ⟨z_e209, _, z_w209⟩ (z_lt_cons ⟨z_e210, _, z_w210⟩ (z_lt_cons ⟨z_e211, _, z_w211⟩ (z_lt_cons ⟨z_e212, _, z_w212⟩ (z_lt_cons ⟨z_e213, _, z_w213⟩ (z_lt_cons ⟨z_e214, _, z_w214⟩ (z_lt_nil)))))))))))))))
set_option maxRecDepth 100000 in
theorem z_oka3 : ∀ i, i < 3 → z_okq (300 + i) := z_lt_cons ⟨z_e300, _, z_w300⟩ (z_lt_cons ⟨z_e301, _, z_w301⟩ (z_lt_cons ⟨z_e302, _, z_w302⟩ (z_lt_nil)))
set_option maxRecDepth 100000 in
theorem z_oka4 : ∀ i, i < 14 → z_okq (400 + i) := z_lt_cons ⟨z_e400, _, z_w400⟩ (z_lt_cons ⟨z_e401, _, z_w401⟩ (z_lt_cons ⟨z_e402, _, z_w402⟩ (z_lt_cons ⟨z_e403, _, z_w403⟩ (z_lt_cons ⟨z_e404, _, z_w404⟩ (z_lt_cons ⟨z_e405, _, z_w405⟩ (z_lt_cons ⟨z_e406, _, z_w406⟩ (z_lt_cons ⟨z_e407, _, z_w407⟩ (z_lt_cons ⟨z_e408, _, z_w408⟩ (z_lt_cons ⟨z_e409, _, z_w409⟩ (z_lt_cons ⟨z_e410, _, z_w410⟩ (z_lt_cons ⟨z_e411, _, z_w411⟩ (z_lt_cons ⟨z_e412, _, z_w412⟩ (z_lt_cons ⟨z_e413, _, z_w413⟩ (z_lt_nil))))))))))))))
set_option maxRecDepth 100000 in
theorem z_oka5 : ∀ i, i < 13 → z_okq (500 + i) := z_lt_cons ⟨z_e500, _, z_w500⟩ (z_lt_cons ⟨z_e501, _, z_w501⟩ (z_lt_cons ⟨z_e502, _, z_w502⟩ (z_lt_cons ⟨z_e503, _, z_w503⟩ (z_lt_cons ⟨z_e504, _, z_w504⟩ (z_lt_cons ⟨z_e505, _, z_w505⟩ (z_lt_cons ⟨z_e506, _, z_w506⟩ (z_lt_cons ⟨z_e507, _, z_w507⟩ (z_lt_cons ⟨z_e508, _, z_w508⟩ (z_lt_cons ⟨z_e509, _, z_w509⟩ (z_lt_cons ⟨z_e510, _, z_w510⟩ (z_lt_cons ⟨z_e511, _, z_w511⟩ (z_lt_cons ⟨z_e512, _, z_w512⟩ (z_lt_nil)))))))))))))
set_option maxRecDepth 100000 in
theorem z_oka6 : ∀ i, i < 18 → z_okq (600 + i) := z_lt_cons ⟨z_e600, _, z_w600⟩ (z_lt_cons ⟨z_e601, _, z_w601⟩ (z_lt_cons ⟨z_e602, _, z_w602⟩ (z_lt_cons ⟨z_e603, _, z_w603⟩ (z_lt_cons ⟨z_e604, _, z_w604⟩ (z_lt_cons ⟨z_e605, _, z_w605⟩ (z_lt_cons ⟨z_e606, _, z_w606⟩ (z_lt_cons ⟨z_e607, _, z_w607⟩ (z_lt_cons ⟨z_e608, _, z_w608⟩ (z_lt_cons ⟨z_e609, _, z_w609⟩ (z_lt_cons ⟨z_e610, _, z_w610⟩ (z_lt_cons ⟨z_e611, _, z_w611⟩ (z_lt_cons ⟨z_e612, _, z_w612⟩ (z_lt_cons ⟨z_e613, _, z_w613⟩ (z_lt_cons ⟨z_e614, _, z_w614⟩ (z_lt_cons ⟨z_e615, _, z_w615⟩ (z_lt_cons ⟨z_e616, _, z_w616⟩ (z_lt_cons ⟨z_e617, _, z_w617⟩ (z_lt_nil))))))))))))))))))
set_option maxRecDepth 100000 in
theorem z_oka7 : ∀ i, i < 4 → z_okq (700 + i) := z_lt_cons ⟨z_e700, _, z_w700⟩ (z_lt_cons ⟨z_e701, _, z_w701⟩ (z_lt_cons ⟨z_e702, _, z_w702⟩ (z_lt_cons ⟨z_e703, _, z_w703⟩ (z_lt_nil))))
set_option maxRecDepth 100000 in
theorem z_oka8 : ∀ i, i < 6 → z_okq (800 + i) := z_lt_cons ⟨z_e800, _, z_w800⟩ (z_lt_cons ⟨z_e801, _, z_w801⟩ (z_lt_cons ⟨z_e802, _, z_w802⟩ (z_lt_cons ⟨z_e803, _, z_w803⟩ (z_lt_cons ⟨z_e804, _, z_w804⟩ (z_lt_cons ⟨z_e805, _, z_w805⟩ (z_lt_nil))))))
set_option maxRecDepth 100000 in
theorem z_oka9 : ∀ i, i < 23 → z_okq (900 + i) := z_lt_cons ⟨z_e900, _, z_w900⟩ (z_lt_cons ⟨z_e901, _, z_w901⟩ (z_lt_cons ⟨z_e902, _, z_w902⟩ (z_lt_cons ⟨z_e903, _, z_w903⟩ (z_lt_cons ⟨z_e904, _, z_w904⟩ (z_lt_cons ⟨z_e905, _, z_w905⟩ (z_lt_cons ⟨z_e906, _, z_w906⟩ (z_lt_cons ⟨z_e907, _, z_w907⟩ (z_lt_cons ⟨z_e908, _, z_w908⟩ (z_lt_cons ⟨z_e909, _, z_w909⟩ (z_lt_cons ⟨z_e910, _, z_w910⟩ (z_lt_cons ⟨z_e911, _, z_w911⟩ (z_lt_cons ⟨z_e912, _, z_w912⟩ (z_lt_cons ⟨z_e913, _, z_w913⟩ (z_lt_cons ⟨z_e914, _, z_w914⟩ (z_lt_cons ⟨z_e915, _, z_w915⟩ (z_lt_cons ⟨z_e916, _, z_w916⟩ (z_lt_cons ⟨z_e917, _, z_w917⟩ (z_lt_cons ⟨z_e918, _, z_w918⟩ (z_lt_cons ⟨z_e919, _, z_w919⟩ (z_lt_cons ⟨z_e920, _, z_w920⟩ (z_lt_cons ⟨z_e921, _, z_w921⟩ (z_lt_cons ⟨z_e922, _, z_w922⟩ (z_lt_nil)))))))))))))))))))))))
set_option maxRecDepth 100000 in
theorem z_oka10 : ∀ i, i < 8 → z_okq (1000 + i) := z_lt_cons ⟨z_e1000, _, z_w1000⟩ (z_lt_cons ⟨z_e1001, _, z_w1001⟩ (z_lt_cons ⟨z_e1002, _, z_w1002⟩ (z_lt_cons ⟨z_e1003, _, z_w1003⟩ (z_lt_cons ⟨z_e1004, _, z_w1004⟩ (z_lt_cons ⟨z_e1005, _, z_w1005⟩ (z_lt_cons ⟨z_e1006, _, z_w1006⟩ (z_lt_cons ⟨z_e1007, _, z_w1007⟩ (z_lt_nil))))))))
set_option maxRecDepth 100000 in
theorem z_oka11 : ∀ i, i < 45 → z_okq (1100 + i) := z_lt_cons ⟨z_e1100, _, z_w1100⟩ (z_lt_cons ⟨z_e1101, _, z_w1101⟩ (z_lt_cons ⟨z_e1102, _, z_w1102⟩ (z_lt_cons ⟨z_e1103, _, z_w1103⟩ (z_lt_cons ⟨z_e1104, _, z_w1104⟩ (z_lt_cons ⟨z_e1105, _, z_w1105⟩ (z_lt_cons ⟨z_e1106, _, z_w1106⟩ (z_lt_cons ⟨z_e1107, _, z_w1107⟩ (z_lt_cons ⟨z_e1108, _, z_w1108⟩ (z_lt_cons ⟨z_e1109, _, z_w1109⟩ (z_lt_cons ⟨z_e1110, _, z_w1110⟩ (z_lt_cons ⟨z_e1111, _, z_w1111⟩ (z_lt_cons ⟨z_e1112, _, z_w1112⟩ (z_lt_cons ⟨z_e1113, _, z_w1113⟩ (z_lt_cons ⟨z_e1114, _, z_w1114⟩ (z_lt_cons ⟨z_e1115, _, z_w1115⟩ (z_lt_cons ⟨z_e1116, _, z_w1116⟩ (z_lt_cons ⟨z_e1117, _, z_w1117⟩ (z_lt_cons ⟨z_e1118, _, z_w1118⟩ (z_lt_cons ⟨z_e1119, _, z_w1119⟩ (z_lt_cons ⟨z_e1120, _, z_w1120⟩ (z_lt_cons ⟨z_e1121, _, z_w1121⟩ (z_lt_cons ⟨z_e1122, _, z_w1122⟩ (z_lt_cons ⟨z_e1123, _, z_w1123⟩ (z_lt_cons ⟨z_e1124, _, z_w1124⟩ (z_lt_cons ⟨z_e1125, _, z_w1125⟩ (z_lt_cons ⟨z_e1126, _, z_w1126⟩ (z_lt_cons ⟨z_e1127, _, z_w1127⟩ (z_lt_cons ⟨z_e1128, _, z_w1128⟩ (z_lt_cons ⟨z_e1129, _, z_w1129⟩ (z_lt_cons ⟨z_e1130, _, z_w1130⟩ (z_lt_cons ⟨z_e1131, _, z_w1131⟩ (z_lt_cons ⟨z_e1132, _, z_w1132⟩ (z_lt_cons ⟨z_e1133, _, z_w1133⟩ (z_lt_cons ⟨z_e1134, _, z_w1134⟩ (z_lt_cons ⟨z_e1135, _, z_w1135⟩ (z_lt_cons ⟨z_e1136, _, z_w1136⟩ (z_lt_cons ⟨z_e1137, _, z_w1137⟩ (z_lt_cons ⟨z_e1138, _, z_w1138⟩ (z_lt_cons ⟨z_e1139, _, z_w1139⟩ (z_lt_cons ⟨z_e1140, _, z_w1140⟩ (z_lt_cons ⟨z_e1141, _, z_w1141⟩ (z_lt_cons ⟨z_e1142, _, z_w1142⟩ (z_lt_cons ⟨z_e1143, _, z_w1143⟩ (z_lt_cons ⟨z_e1144, _, z_w1144⟩ (z_lt_nil)))))))))))))))))))))))))))))))))))))))))))))
set_option maxRecDepth 100000 in
theorem z_oka12 : ∀ i, i < 91 → z_okq (1200 + i) := z_lt_cons ⟨z_e1200, _, z_w1200⟩ (z_lt_cons ⟨z_e1201, _, z_w1201⟩ (z_lt_cons ⟨z_e1202, _, z_w1202⟩ (z_lt_cons ⟨z_e1203, _, z_w1203⟩ (z_lt_cons ⟨z_e1204, _, z_w1204⟩ (z_lt_cons ⟨z_e1205, _, z_w1205⟩ (z_lt_cons ⟨z_e1206, _, z_w1206⟩ (z_lt_cons ⟨z_e1207, _, z_w1207⟩ (z_lt_cons ⟨z_e1208, _, z_w1208⟩ (z_lt_cons ⟨z_e1209, _, z_w1209⟩ (z_lt_cons ⟨z_e1210, _, z_w1210⟩ (z_lt_cons ⟨z_e1211, _, z_w1211⟩ (z_lt_cons ⟨z_e1212, _, z_w1212⟩ (z_lt_cons ⟨z_e1213, _, z_w1213⟩ (z_lt_cons ⟨z_e1214, _, z_w1214⟩ (z_lt_cons ⟨z_e1215, _, z_w1215⟩ (z_lt_cons ⟨z_e1216, _, z_w1216⟩ (z_lt_cons ⟨z_e1217, _, z_w1217⟩ (z_lt_cons ⟨z_e1218, _, z_w1218⟩ (z_lt_cons ⟨z_e1219, _, z_w1219⟩ (z_lt_cons ⟨z_e1220, _, z_w1220⟩ (z_lt_cons ⟨z_e1221, _, z_w1221⟩ (z_lt_cons ⟨z_e1222, _, z_w1222⟩ (z_lt_cons ⟨z_e1223, _, z_w1223⟩ (z_lt_cons ⟨z_e1224, _, z_w1224⟩ (z_lt_cons ⟨z_e1225, _, z_w1225⟩ (z_lt_cons ⟨z_e1226, _, z_w1226⟩ (z_lt_cons ⟨z_e1227, _, z_w1227⟩ (z_lt_cons ⟨z_e1228, _, z_w1228⟩ (z_lt_cons ⟨z_e1229, _, z_w1229⟩ (z_lt_cons ⟨z_e1230, _, z_w1230⟩ (z_lt_cons ⟨z_e1231, _, z_w1231⟩ (z_lt_cons ⟨z_e1232, _, z_w1232⟩ (z_lt_cons ⟨z_e1233, _, z_w1233⟩ (z_lt_cons ⟨z_e1234, _, z_w1234⟩ (z_lt_cons ⟨z_e1235, _, z_w1235⟩ (z_lt_cons ⟨z_e1236, _, z_w1236⟩ (z_lt_cons ⟨z_e1237, _, z_w1237⟩ (z_lt_cons ⟨z_e1238, _, z_w1238⟩ (z_lt_cons ⟨z_e1239, _, z_w1239⟩ (z_lt_cons ⟨z_e1240, _, z_w1240⟩ (z_lt_cons ⟨z_e1241, _, z_w1241⟩ (z_lt_cons ⟨z_e1242, _, z_w1242⟩ (z_lt_cons ⟨z_e1243, _, z_w1243⟩ (z_lt_cons ⟨z_e1244, _, z_w1244⟩ (z_lt_cons ⟨z_e1245, _, z_w1245⟩ (z_lt_cons ⟨z_e1246, _, z_w1246⟩ (z_lt_cons ⟨z_e1247, _, z_w1247⟩ (z_lt_cons ⟨z_e1248, _, z_w1248⟩ (z_lt_cons ⟨z_e1249, _, z_w1249⟩ (z_lt_cons ⟨z_e1250, _, z_w1250⟩ (z_lt_cons ⟨z_e1251, _, z_w1251⟩ (z_lt_cons ⟨z_e1252, _, z_w1252⟩ (z_lt_cons ⟨z_e1253, _, z_w1253⟩ (z_lt_cons ⟨z_e1254, _, z_w1254⟩ (z_lt_cons ⟨z_e1255, _, z_w1255⟩ (z_lt_cons ⟨z_e1256, _, z_w1256⟩ (z_lt_cons ⟨z_e1257, _, z_w1257⟩ (z_lt_cons ⟨z_e1258, _, z_w1258⟩ (z_lt_cons ⟨z_e1259, _, z_w1259⟩ (z_lt_cons ⟨z_e1260, _, z_w1260⟩ (z_lt_cons ⟨z_e1261, _, z_w1261⟩ (z_lt_cons ⟨z_e1262, _, z_w1262⟩ (z_lt_cons ⟨z_e1263, _, z_w1263⟩ (z_lt_cons ⟨z_e1264, _, z_w1264⟩ (z_lt_cons ⟨z_e1265, _, z_w1265⟩ (z_lt_cons ⟨z_e1266, _, z_w1266⟩ (z_lt_cons ⟨z_e1267, _, z_w1267⟩ (z_lt_cons ⟨z_e1268, _, z_w1268⟩ (z_lt_cons ⟨z_e1269, _, z_w1269⟩ (z_lt_cons ⟨z_e1270, _, z_w1270⟩ (z_lt_cons ⟨z_e1271, _, z_w1271⟩ (z_lt_cons ⟨z_e1272, _, z_w1272⟩ (z_lt_cons ⟨z_e1273, _, z_w1273⟩ (z_lt_cons ⟨z_e1274, _, z_w1274⟩ (z_lt_cons ⟨z_e1275, _, z_w1275⟩ (z_lt_cons ⟨z_e1276, _, z_w1276⟩ (z_lt_cons ⟨z_e1277, _, z_w1277⟩ (z_lt_cons ⟨z_e1278, _, z_w1278⟩ (z_lt_cons ⟨z_e1279, _, z_w1279⟩ (z_lt_cons ⟨z_e1280, _, z_w1280⟩ (z_lt_cons ⟨z_e1281, _, z_w1281⟩ (z_lt_cons ⟨z_e1282, _, z_w1282⟩ (z_lt_cons ⟨z_e1283, _, z_w1283⟩ (z_lt_cons ⟨z_e1284, _, z_w1284⟩ (z_lt_cons ⟨z_e1285, _, z_w1285⟩ (z_lt_cons ⟨z_e1286, _, z_w1286⟩ (z_lt_cons ⟨z_e1287, _, z_w1287⟩ (z_lt_cons ⟨z_e1288, _, z_w1288⟩ (z_lt_cons ⟨z_e1289, _, z_w1289⟩ (z_lt_cons ⟨z_e1290, _, z_w1290⟩ (z_lt_nil)))))))))))))))))))))))))))))))))))))))))))))))))))))))))))))))))))))))))))))))))))))))))))
set_option maxRecDepth 100000 in
theorem z_oka13 : ∀ i, i < 2 → z_okq (1300 + i) := z_lt_cons ⟨z_e1300, _, z_w1300⟩ (z_lt_cons ⟨z_e1301, _, z_w1301⟩ (z_lt_nil))
end
section
/-! A small machine of our own: ints and longs are integers, cells have numbers 1, 2 .. (0 is null); z_go says what a run from a place comes to. The simulation (part 04) ties it to the JVM. -/
abbrev z_V : Type := Int ⊕ (Int ⊕ (Int ⊕ Unit))
abbrev z_I (x : Int) : z_V := Sum.inl x
abbrev z_R (a : Int) : z_V := Sum.inr (Sum.inl a)
abbrev z_L (x : Int) : z_V := Sum.inr (Sum.inr (Sum.inl x))
abbrev z_U : z_V := Sum.inr (Sum.inr (Sum.inr ()))
abbrev z_H : Type := List (Nat × Int)
abbrev z_S : Type := Int → Int → Int
abbrev z_C : Type := Int → Int → Option Int
abbrev z_Res : Type := z_V × z_H × z_S
abbrev z_Call : Type := Nat → List z_V → z_H → z_S → Option z_Res
def z_w (x : Int) : Int := (Int32.ofInt x).toInt
def z_wl (x : Int) : Int := (Int64.ofInt x).toInt
def z_and (x y : Int) : Int := (Int32.ofInt x &&& Int32.ofInt y).toInt
def z_or (x y : Int) : Int := (Int32.ofInt x ||| Int32.ofInt y).toInt
def z_xor (x y : Int) : Int := (Int32.ofInt x ^^^ Int32.ofInt y).toInt
def z_shl (x y : Int) : Int := (Int32.ofInt x <<< (Int32.ofInt y &&& 31)).toInt
def z_shr (x y : Int) : Int := (Int32.ofInt x >>> (Int32.ofInt y &&& 31)).toInt
def z_ushr (x y : Int) : Int := ((Int32.ofInt x).toUInt32 >>> ((Int32.ofInt y).toUInt32 &&& 31)).toInt32.toInt
def z_div (x y : Int) : Int := (Int32.ofInt x / Int32.ofInt y).toInt
def z_rem (x y : Int) : Int := (Int32.ofInt x - Int32.ofInt x / Int32.ofInt y * Int32.ofInt y).toInt
def z_ldiv (x y : Int) : Int := (Int64.ofInt x / Int64.ofInt y).toInt
def z_lrem (x y : Int) : Int := (Int64.ofInt x - Int64.ofInt x / Int64.ofInt y * Int64.ofInt y).toInt
def z_b8 (x : Int) : Int := (Int32.ofInt x).toInt8.toInt32.toInt
def z_c16 (x : Int) : Int := ((Int32.ofInt x).toUInt32 % 65536).toInt32.toInt
def z_lcmp (x y : Int) : Int := if y < x then 1 else if x < y then -1 else 0
def z_k (hd : z_H) (a : Int) : Nat := match a.toNat with
  | 0 => 0
  | j + 1 => match hd[j]? with
    | some q => q.1
    | none => 0
def z_n (hd : z_H) (a : Int) : Int := match a.toNat with
  | 0 => 0
  | j + 1 => match hd[j]? with
    | some q => q.2
    | none => 0
def z_upd (σ : z_S) (a i v : Int) : z_S := fun b j => if b = a ∧ j = i then v else σ b j
def z_new (σ : z_S) (a : Int) : z_S := fun b j => if b = a then 0 else σ b j
def z_cpy (σ : z_S) (s sp d dp n : Int) : z_S := fun b j => if b = d ∧ dp ≤ j ∧ j < dp + n then σ s (sp + (j - dp)) else σ b j
/-- a field that holds a cell: fixed, or as the store has it -/
def z_gf (hc : z_C) (σ : z_S) (o f : Int) : Int := match hc o f with
  | some v => v
  | none => σ o f
def z_get : List z_V → Nat → z_V
  | [], _ => z_U
  | a :: _, 0 => a
  | _ :: l, n + 1 => z_get l n
def z_kill (a : z_V) : z_V := match a with
  | .inr (.inr (.inl _)) => z_U
  | b => b
def z_set : List z_V → Nat → z_V → List z_V
  | [], _, _ => []
  | _ :: l, 0, v => v :: l
  | a :: l, n + 1, v => match n with
    | 0 => z_kill a :: z_set l 0 v
    | n + 1 => a :: z_set l (n + 1) v
def z_cat (v : z_V) : Nat := match v with
  | .inr (.inr (.inl _)) => 2
  | _ => 1
def z_cats : List z_V → Nat
  | [] => 0
  | a :: l => z_cat a + z_cats l
def z_find : List z_E → Nat → Option z_E
  | [], _ => none
  | e :: l, pc => match Nat.beq e.1 pc with
    | true => some e
    | false => z_find l pc
section ZS
variable {β : Type}
def z_cI (r : Option z_Res) (k : Int → z_H → z_S → Option β) : Option β := match r with
  | some (.inl x, hd, σ) => k x hd σ
  | _ => none
def z_cV (r : Option z_Res) (k : z_H → z_S → Option β) : Option β := match r with
  | some (.inr (.inr (.inr _)), hd, σ) => k hd σ
  | _ => none
/-- an array is read: its kind is among the two, the index is in it -/
def z_ld (hd : z_H) (σ : z_S) (t t' : Nat) (a i : Int) (k : Int → Option β) : Option β := if (z_k hd a = t ∨ z_k hd a = t') ∧ 0 ≤ i ∧ i < z_n hd a then k (σ a i) else none
def z_st (hd : z_H) (σ : z_S) (t : Nat) (a i v : Int) (k : z_S → Option β) : Option β := if z_k hd a = t ∧ 0 ≤ i ∧ i < z_n hd a then k (z_upd σ a i v) else none
def z_fld (hd : z_H) (a : Int) (cls : Nat) (k : Option β) : Option β := if z_k hd a = 10 + cls then k else none
def z_sw (x : Int) (v : Int) (l : List Nat) (d : Nat) (k : Nat → Option β) : Option β := match l with
  | [] => k d
  | t :: l => if x = v then k t else z_sw x (v + 1) l d k
def z_num (st : List z_V) (k : Int → List z_V → Option β) : Option β := match st with
  | .inl x :: r => k x r
  | _ => none
def z_one (st : List z_V) (k : Int → Option β) : Option β := match st with
  | [.inl x] => k x
  | _ => none
def z_end (st : List z_V) (k : Option β) : Option β := match st with
  | [] => k
  | _ => none
def z_num2 (st : List z_V) (k : Int → Int → List z_V → Option β) : Option β := match st with
  | .inl y :: .inl x :: r => k x y r
  | _ => none
def z_lon (st : List z_V) (k : Int → List z_V → Option β) : Option β := match st with
  | .inr (.inr (.inl x)) :: r => k x r
  | _ => none
def z_lon2 (st : List z_V) (k : Int → Int → List z_V → Option β) : Option β := match st with
  | .inr (.inr (.inl y)) :: .inr (.inr (.inl x)) :: r => k x y r
  | _ => none
def z_ref (st : List z_V) (k : Int → List z_V → Option β) : Option β := match st with
  | .inr (.inl a) :: r => k a r
  | _ => none
def z_any (st : List z_V) (k : z_V → List z_V → Option β) : Option β := match st with
  | a :: r => if z_cat a = 1 then k a r else none
  | _ => none
def z_iload (ls : List z_V) (i : Nat) (k : z_V → Option β) : Option β := match z_get ls i with
  | .inl x => k (z_I x)
  | _ => none
def z_aload (ls : List z_V) (i : Nat) (k : z_V → Option β) : Option β := match z_get ls i with
  | .inr (.inl x) => k (z_R x)
  | _ => none
def z_lload (ls : List z_V) (i : Nat) (k : z_V → Option β) : Option β := match z_get ls i with
  | .inr (.inr (.inl x)) => k (z_L x)
  | _ => none
def z_if (c : Jvm.ClassFile.Cond) (x y : Int) (a b : Option β) : Option β := match c with
  | .eq => if x = y then a else b
  | .ne => if x ≠ y then a else b
  | .lt => if x < y then a else b
  | .ge => if y ≤ x then a else b
  | .gt => if y < x then a else b
  | .le => if x ≤ y then a else b
/-- a field's value by its type: 1 a cell, 2 a long, else an int -/
def z_fv (hc : z_C) (σ : z_S) (o : Int) (f ty : Nat) : z_V := match ty with
  | 1 => z_R (z_gf hc σ o f)
  | 2 => z_L (σ o f)
  | _ => z_I (σ o f)
def z_free (x : Option Int) (k : Option β) : Option β := match x with
  | none => k
  | some _ => none
/-- a field is written -/
def z_pf (hd : z_H) (σ : z_S) (cls : Nat) (o f v : Int) (k : z_S → Option β) : Option β := if z_k hd o = 10 + cls then k (z_upd σ o f v) else none
def z_cp (hd : z_H) (σ : z_S) (s sp d dp n : Int) (k : z_S → Option β) : Option β := if z_k hd s = 1 ∧ z_k hd d = 1 ∧ 0 ≤ sp ∧ 0 ≤ dp ∧ 0 ≤ n ∧ sp + n ≤ z_n hd s ∧ dp + n ≤ z_n hd d then k (z_cpy σ s sp d dp n) else none
def z_put (hc : z_C) (hd : z_H) (σ : z_S) (cls f ty : Nat) (st : List z_V) (k : z_S → List z_V → Option β) : Option β := match ty with
  | 1 => (match st with
    | .inr (.inl v) :: .inr (.inl o) :: r => z_free (hc o f) (z_pf hd σ cls o f v (fun σ => k σ r))
    | _ => none)
  | 2 => (match st with
    | .inr (.inr (.inl v)) :: .inr (.inl o) :: r => z_pf hd σ cls o f v (fun σ => k σ r)
    | _ => none)
  | 3 => (match st with
    | .inl v :: .inr (.inl o) :: r => if v = 0 ∨ v = 1 then z_pf hd σ cls o f v (fun σ => k σ r) else none
    | _ => none)
  | _ => (match st with
    | .inl v :: .inr (.inl o) :: r => z_pf hd σ cls o f v (fun σ => k σ r)
    | _ => none)
def z_pop : Nat → List z_V → List z_V → (List z_V → List z_V → Option β) → Option β
  | 0, as, st, k => if z_cats st ≤ 8 then k as st else none
  | _ + 1, _, [], _ => none
  | n + 1, as, a :: st, k => z_pop n (a :: as) st k
def z_res (d : Nat) (r : Option z_Res) (rest : List z_V) (k : List z_V → z_H → z_S → Option β) : Option β := match d with
  | 0 => z_cV r (fun hd σ => k rest hd σ)
  | _ => z_cI r (fun x hd σ => k (z_I x :: rest) hd σ)
def z_recv (hd : z_H) (as : List z_V) (cls : Nat) (k : Option β) : Option β := match as with
  | .inr (.inl o) :: _ => z_fld hd o cls k
  | _ => none
def z_copy (hd : z_H) (σ : z_S) (st : List z_V) (k : z_S → List z_V → Option β) : Option β := match st with
  | .inl n :: .inl dp :: .inr (.inl d) :: .inl sp :: .inr (.inl s) :: r => if z_cats r ≤ 8 then z_cp hd σ s sp d dp n (fun σ => k σ r) else none
  | _ => none
/-- Math.max, min, abs -/
def z_math (a : Nat) (st : List z_V) (k : Int → List z_V → Option β) : Option β := match Nat.beq a 9997 with
  | true => z_num st (fun x r => if z_cats r ≤ 8 then k (if 0 ≤ x then x else z_w (0 - x)) r else none)
  | false => match Nat.beq a 9996 with
    | true => z_num2 st (fun x y r => if z_cats r ≤ 8 then k (if y < x then y else x) r else none)
    | false => z_num2 st (fun x y r => if z_cats r ≤ 8 then k (if x < y then y else x) r else none)
def z_step (call : z_Call) (hc : z_C) (e : z_E) (ls st : List z_V) (hd : z_H) (σ : z_S) (k : Nat → List z_V → List z_V → z_H → z_S → Option β) (ret : z_Res → Option β) : Option β :=
  match e with
  | (pc, i, len, a, c, d, b, _) =>
  match i with
  | .aload j => z_aload ls j (fun v => k (pc + len) ls (v :: st) hd σ)
  | .aload_n j => z_aload ls j.val (fun v => k (pc + len) ls (v :: st) hd σ)
  | .iload j => z_iload ls j (fun v => k (pc + len) ls (v :: st) hd σ)
  | .iload_n j => z_iload ls j.val (fun v => k (pc + len) ls (v :: st) hd σ)
  | .lload j => z_lload ls j (fun v => k (pc + len) ls (v :: st) hd σ)
  | .lload_n j => z_lload ls j.val (fun v => k (pc + len) ls (v :: st) hd σ)
  | .istore j => z_num st (fun x r => k (pc + len) (z_set ls j (z_I x)) r hd σ)
  | .istore_n j => z_num st (fun x r => k (pc + len) (z_set ls j.val (z_I x)) r hd σ)
  | .astore j => z_ref st (fun x r => k (pc + len) (z_set ls j (z_R x)) r hd σ)
  | .astore_n j => z_ref st (fun x r => k (pc + len) (z_set ls j.val (z_R x)) r hd σ)
  | .lstore j => z_lon st (fun x r => k (pc + len) (z_set (z_set ls (j + 1) z_U) j (z_L x)) r hd σ)
  | .lstore_n j => z_lon st (fun x r => k (pc + len) (z_set (z_set ls (j.val + 1) z_U) j.val (z_L x)) r hd σ)
  | .iinc j n => z_num [z_get ls j] (fun x _ => k (pc + len) (z_set ls j (z_I (z_w (x + n)))) st hd σ)
  | .iconst _ => k (pc + len) ls (z_I b :: st) hd σ
  | .bipush _ => k (pc + len) ls (z_I b :: st) hd σ
  | .sipush _ => k (pc + len) ls (z_I b :: st) hd σ
  | .ldc _ => k (pc + len) ls (z_I b :: st) hd σ
  | .ldc_w _ => k (pc + len) ls (z_I b :: st) hd σ
  | .lconst _ => k (pc + len) ls (z_L b :: st) hd σ
  | .ldc2_w _ => k (pc + len) ls (z_L b :: st) hd σ
  | .iadd => z_num2 st (fun x y r => k (pc + len) ls (z_I (z_w (x + y)) :: r) hd σ)
  | .isub => z_num2 st (fun x y r => k (pc + len) ls (z_I (z_w (x - y)) :: r) hd σ)
  | .imul => z_num2 st (fun x y r => k (pc + len) ls (z_I (z_w (x * y)) :: r) hd σ)
  | .iand => z_num2 st (fun x y r => k (pc + len) ls (z_I (z_and x y) :: r) hd σ)
  | .ior => z_num2 st (fun x y r => k (pc + len) ls (z_I (z_or x y) :: r) hd σ)
  | .ixor => z_num2 st (fun x y r => k (pc + len) ls (z_I (z_xor x y) :: r) hd σ)
  | .ishl => z_num2 st (fun x y r => k (pc + len) ls (z_I (z_shl x y) :: r) hd σ)
  | .ishr => z_num2 st (fun x y r => k (pc + len) ls (z_I (z_shr x y) :: r) hd σ)
  | .iushr => z_num2 st (fun x y r => k (pc + len) ls (z_I (z_ushr x y) :: r) hd σ)
  | .idiv => z_num2 st (fun x y r => if y = 0 then none else k (pc + len) ls (z_I (z_div x y) :: r) hd σ)
  | .irem => z_num2 st (fun x y r => if y = 0 then none else k (pc + len) ls (z_I (z_rem x y) :: r) hd σ)
  | .ineg => z_num st (fun x r => k (pc + len) ls (z_I (z_w (-x)) :: r) hd σ)
  | .ladd => z_lon2 st (fun x y r => k (pc + len) ls (z_L (z_wl (x + y)) :: r) hd σ)
  | .lmul => z_lon2 st (fun x y r => k (pc + len) ls (z_L (z_wl (x * y)) :: r) hd σ)
  | .ldiv => z_lon2 st (fun x y r => if y = 0 then none else k (pc + len) ls (z_L (z_ldiv x y) :: r) hd σ)
  | .lrem => z_lon2 st (fun x y r => if y = 0 then none else k (pc + len) ls (z_L (z_lrem x y) :: r) hd σ)
  | .lcmp => z_lon2 st (fun x y r => k (pc + len) ls (z_I (z_lcmp x y) :: r) hd σ)
  | .i2l => z_num st (fun x r => k (pc + len) ls (z_L x :: r) hd σ)
  | .l2i => z_lon st (fun x r => k (pc + len) ls (z_I (z_w x) :: r) hd σ)
  | .i2b => z_num st (fun x r => k (pc + len) ls (z_I (z_b8 x) :: r) hd σ)
  | .i2c => z_num st (fun x r => k (pc + len) ls (z_I (z_c16 x) :: r) hd σ)
  | .pop => z_any st (fun _ r => k (pc + len) ls r hd σ)
  | .dup => z_any st (fun v r => k (pc + len) ls (v :: v :: r) hd σ)
  | .dup_x1 => z_any st (fun v r => z_any r (fun w r => k (pc + len) ls (v :: w :: v :: r) hd σ))
  | .dup2 => z_any st (fun v r => z_any r (fun w r => k (pc + len) ls (v :: w :: v :: w :: r) hd σ))
  | .ifCond q _ => z_num st (fun x r => z_if q x 0 (k a ls r hd σ) (k (pc + len) ls r hd σ))
  | .if_icmp q _ => z_num2 st (fun x y r => z_if q x y (k a ls r hd σ) (k (pc + len) ls r hd σ))
  | .ifnull _ => z_ref st (fun x r => if x = 0 then k a ls r hd σ else k (pc + len) ls r hd σ)
  | .ifnonnull _ => z_ref st (fun x r => if x = 0 then k (pc + len) ls r hd σ else k a ls r hd σ)
  | .goto _ => k a ls st hd σ
  | .tableswitch dflt lo hi offs => z_num st (fun x r => z_sw x lo (offs.toList.map (fun o => ((pc : Int) + o).toNat)) ((pc : Int) + dflt).toNat (fun t => k t ls r hd σ))
  | .getfield _ => z_ref st (fun o r => z_fld hd o a (k (pc + len) ls (z_fv hc σ o c d :: r) hd σ))
  | .putfield _ => z_put hc hd σ a c d st (fun σ r => k (pc + len) ls r hd σ)
  | .iaload => z_num st (fun i r => z_ref r (fun o r => z_ld hd σ 1 1 o i (fun v => k (pc + len) ls (z_I v :: r) hd σ)))
  | .baload => z_num st (fun i r => z_ref r (fun o r => z_ld hd σ 2 3 o i (fun v => k (pc + len) ls (z_I v :: r) hd σ)))
  | .caload => z_num st (fun i r => z_ref r (fun o r => z_ld hd σ 4 4 o i (fun v => k (pc + len) ls (z_I v :: r) hd σ)))
  | .iastore => z_num2 st (fun i v r => z_ref r (fun o r => z_st hd σ 1 o i v (fun σ => k (pc + len) ls r hd σ)))
  | .castore => z_num2 st (fun i v r => z_ref r (fun o r => z_st hd σ 4 o i (z_c16 v) (fun σ => k (pc + len) ls r hd σ)))
  | .bastore => z_num2 st (fun i v r => z_ref r (fun o r => cond (Nat.beq a 2) (if v = 0 ∨ v = 1 then z_st hd σ 2 o i v (fun σ => k (pc + len) ls r hd σ) else none) (z_st hd σ 3 o i (z_b8 v) (fun σ => k (pc + len) ls r hd σ))))
  | .arraylength => z_ref st (fun o r => if 1 ≤ z_k hd o ∧ z_k hd o < 5 then k (pc + len) ls (z_I (z_n hd o) :: r) hd σ else none)
  | .newarray _ => z_num st (fun n r => if 0 ≤ n ∧ n ≤ 65536 then k (pc + len) ls (z_R (hd.length + 1) :: r) (hd ++ [(a, n)]) (z_new σ (hd.length + 1)) else none)
  | .new _ => z_free (hc 0 0) (k (pc + len) ls (z_R (hd.length + 1) :: st) (hd ++ [(10 + a, b)]) (z_new σ (hd.length + 1)))
  | .ireturn => z_one st (fun x => cond (Nat.beq a 2) (if x = 0 ∨ x = 1 then ret (z_I x, hd, σ) else none) (ret (z_I x, hd, σ)))
  | .return_ => z_end st (ret (z_U, hd, σ))
  | .invokestatic _ => cond (Nat.ble 9990 a) (cond (Nat.beq a 9999) (z_copy hd σ st (fun σ r => k (pc + len) ls r hd σ))
      (z_math a st (fun x r => k (pc + len) ls (z_I x :: r) hd σ)))
    (z_pop c [] st (fun as r => z_res d (call a as hd σ) r (fun st hd σ => k (pc + len) ls st hd σ)))
  | .invokespecial _ => cond (Nat.beq a 9998) (z_ref st (fun o r => if 10 ≤ z_k hd o ∧ z_cats r ≤ 8 then k (pc + len) ls r hd σ else none))
    (z_pop c [] st (fun as r => z_recv hd as b.toNat (z_res d (call a as hd σ) r (fun st hd σ => k (pc + len) ls st hd σ))))
  | .invokevirtual _ => z_pop c [] st (fun as r => z_recv hd as b.toNat (z_res d (call a as hd σ) r (fun st hd σ => k (pc + len) ls st hd σ)))
  | _ => none
end ZS
end
section
def z_mem (pc : Nat) : List Nat → Bool
  | [] => false
  | a :: l => match Nat.beq a pc with
    | true => true
    | false => z_mem pc l
section ZG
variable (call : z_Call) (hc : z_C)
def z_ex : Nat → Nat → Nat → List z_V → List z_V → z_H → z_S → Option z_Res
  | 0, _, _, _, _, _, _ => none
  | n + 1, m, pc, ls, st, hd, σ => match z_find (z_code m) pc with
    | none => none
    | some e => z_step call hc e ls st hd σ (fun pc ls st hd σ => z_ex n m pc ls st hd σ) some
noncomputable def z_go (m pc : Nat) (ls st : List z_V) (hd : z_H) (σ : z_S) : Option z_Res :=
  @dite _ (∃ r, ∃ n, z_ex call hc n m pc ls st hd σ = some r) (Classical.propDecidable _) (fun h => some (Classical.choose h)) (fun _ => none)
/-- n steps, but not past a place of the cut -/
noncomputable def z_run (cut : List Nat) (m : Nat) : Nat → Nat → List z_V → List z_V → z_H → z_S → Option z_Res
  | 0, pc, ls, st, hd, σ => z_go call hc m pc ls st hd σ
  | n + 1, pc, ls, st, hd, σ => match z_mem pc cut with
    | true => z_go call hc m pc ls st hd σ
    | false => match z_find (z_code m) pc with
      | none => none
      | some e => z_step call hc e ls st hd σ (z_run cut m n) some
noncomputable def z_run1 (cut : List Nat) (m : Nat) (n pc : Nat) (ls st : List z_V) (hd : z_H) (σ : z_S) : Option z_Res := match z_find (z_code m) pc with
  | none => none
  | some e => z_step call hc e ls st hd σ (z_run call hc cut m n) some
end ZG
def z_argb (v : z_V) : Bool := match v with
  | .inl _ => true
  | .inr (.inl _) => true
  | _ => false
def z_aok (m : Nat) (as : List z_V) : Bool := Nat.ble as.length (z_ml m) && as.all z_argb
/-- a call of method m, d levels deep at most -/
noncomputable def z_ev (hc : z_C) : Nat → z_Call
  | 0 => fun _ _ _ _ => none
  | d + 1 => fun m as hd σ => cond (z_aok m as) (z_go (z_ev hc d) hc m 0 (as ++ List.replicate (z_ml m - as.length) z_U) [] hd σ) none

section ZN
variable {β γ : Type} (g : β → Option γ)
theorem z_cI_nat (r : Option z_Res) (k : Int → z_H → z_S → Option β) : (z_cI r k).bind g = z_cI r (fun x hd σ => (k x hd σ).bind g) := by
  unfold z_cI; split <;> rfl
theorem z_cV_nat (r : Option z_Res) (k : z_H → z_S → Option β) : (z_cV r k).bind g = z_cV r (fun hd σ => (k hd σ).bind g) := by
  unfold z_cV; split <;> rfl
theorem z_ite_nat (c : Prop) [Decidable c] (a b : Option β) : (if c then a else b).bind g = if c then a.bind g else b.bind g := by
  split <;> rfl
theorem z_ld_nat (hd : z_H) (σ : z_S) (t t' : Nat) (a i : Int) (k : Int → Option β) : (z_ld hd σ t t' a i k).bind g = z_ld hd σ t t' a i (fun v => (k v).bind g) := by
  unfold z_ld; split <;> rfl
theorem z_st_nat (hd : z_H) (σ : z_S) (t : Nat) (a i v : Int) (k : z_S → Option β) : (z_st hd σ t a i v k).bind g = z_st hd σ t a i v (fun σ => (k σ).bind g) := by
  unfold z_st; split <;> rfl
theorem z_fld_nat (hd : z_H) (a : Int) (cls : Nat) (k : Option β) : (z_fld hd a cls k).bind g = z_fld hd a cls (k.bind g) := by
  unfold z_fld; split <;> rfl
theorem z_sw_nat (x : Int) (l : List Nat) (d : Nat) (k : Nat → Option β) : ∀ v : Int, (z_sw x v l d k).bind g = z_sw x v l d (fun t => (k t).bind g) := by
  induction l with
  | nil => intro v; rfl
  | cons t l ih => intro v; unfold z_sw; split
                   · rfl
                   · exact ih _
theorem z_num_nat (st : List z_V) (k : Int → List z_V → Option β) : (z_num st k).bind g = z_num st (fun x r => (k x r).bind g) := by
  unfold z_num; split <;> rfl
theorem z_one_nat (st : List z_V) (k : Int → Option β) : (z_one st k).bind g = z_one st (fun x => (k x).bind g) := by
  unfold z_one; split <;> rfl
theorem z_end_nat (st : List z_V) (k : Option β) : (z_end st k).bind g = z_end st (k.bind g) := by
  unfold z_end; split <;> rfl
theorem z_num2_nat (st : List z_V) (k : Int → Int → List z_V → Option β) : (z_num2 st k).bind g = z_num2 st (fun x y r => (k x y r).bind g) := by
  unfold z_num2; split <;> rfl
theorem z_lon_nat (st : List z_V) (k : Int → List z_V → Option β) : (z_lon st k).bind g = z_lon st (fun x r => (k x r).bind g) := by
  unfold z_lon; split <;> rfl
theorem z_lon2_nat (st : List z_V) (k : Int → Int → List z_V → Option β) : (z_lon2 st k).bind g = z_lon2 st (fun x y r => (k x y r).bind g) := by
  unfold z_lon2; split <;> rfl
theorem z_ref_nat (st : List z_V) (k : Int → List z_V → Option β) : (z_ref st k).bind g = z_ref st (fun x r => (k x r).bind g) := by
  unfold z_ref; split <;> rfl
theorem z_any_nat (st : List z_V) (k : z_V → List z_V → Option β) : (z_any st k).bind g = z_any st (fun x r => (k x r).bind g) := by
  unfold z_any; split
  · split <;> rfl
  · rfl
theorem z_iload_nat (ls : List z_V) (i : Nat) (k : z_V → Option β) : (z_iload ls i k).bind g = z_iload ls i (fun x => (k x).bind g) := by
  unfold z_iload; split <;> rfl
theorem z_aload_nat (ls : List z_V) (i : Nat) (k : z_V → Option β) : (z_aload ls i k).bind g = z_aload ls i (fun x => (k x).bind g) := by
  unfold z_aload; split <;> rfl
theorem z_lload_nat (ls : List z_V) (i : Nat) (k : z_V → Option β) : (z_lload ls i k).bind g = z_lload ls i (fun x => (k x).bind g) := by
  unfold z_lload; split <;> rfl
theorem z_if_nat (c : Jvm.ClassFile.Cond) (x y : Int) (a b : Option β) : (z_if c x y a b).bind g = z_if c x y (a.bind g) (b.bind g) := by
  unfold z_if; split <;> exact z_ite_nat g _ _ _
theorem z_free_nat (x : Option Int) (k : Option β) : (z_free x k).bind g = z_free x (k.bind g) := by
  unfold z_free; split <;> rfl
theorem z_pf_nat (hd : z_H) (σ : z_S) (cls : Nat) (o f v : Int) (k : z_S → Option β) : (z_pf hd σ cls o f v k).bind g = z_pf hd σ cls o f v (fun σ => (k σ).bind g) := by
  unfold z_pf; exact z_ite_nat g _ _ _
theorem z_cp_nat (hd : z_H) (σ : z_S) (s sp d dp n : Int) (k : z_S → Option β) : (z_cp hd σ s sp d dp n k).bind g = z_cp hd σ s sp d dp n (fun σ => (k σ).bind g) := by
  unfold z_cp; exact z_ite_nat g _ _ _
theorem z_put_nat (hc : z_C) (hd : z_H) (σ : z_S) (cls f ty : Nat) (st : List z_V) (k : z_S → List z_V → Option β) : (z_put hc hd σ cls f ty st k).bind g = z_put hc hd σ cls f ty st (fun σ r => (k σ r).bind g) := by
  unfold z_put; split <;> split <;> simp only [z_free_nat, z_pf_nat, z_ite_nat, Option.bind_none]
theorem z_pop_nat (k : List z_V → List z_V → Option β) : ∀ (n : Nat) (as st : List z_V), (z_pop n as st k).bind g = z_pop n as st (fun as r => (k as r).bind g)
  | 0, as, st => by unfold z_pop; exact z_ite_nat g _ _ _
  | n + 1, as, [] => rfl
  | n + 1, as, a :: st => by unfold z_pop; exact z_pop_nat k n (a :: as) st
theorem z_res_nat (d : Nat) (r : Option z_Res) (rest : List z_V) (k : List z_V → z_H → z_S → Option β) : (z_res d r rest k).bind g = z_res d r rest (fun st hd σ => (k st hd σ).bind g) := by
  unfold z_res; split
  · exact z_cV_nat g _ _
  · exact z_cI_nat g _ _
theorem z_recv_nat (hd : z_H) (as : List z_V) (cls : Nat) (k : Option β) : (z_recv hd as cls k).bind g = z_recv hd as cls (k.bind g) := by
  unfold z_recv; split
  · exact z_fld_nat g _ _ _ _
  · rfl
theorem z_copy_nat (hd : z_H) (σ : z_S) (st : List z_V) (k : z_S → List z_V → Option β) : (z_copy hd σ st k).bind g = z_copy hd σ st (fun σ r => (k σ r).bind g) := by
  unfold z_copy; split
  · rw [z_ite_nat, z_cp_nat]; rfl
  · rfl
theorem z_cond_nat (c : Bool) (a b : Option β) : (cond c a b).bind g = cond c (a.bind g) (b.bind g) := by
  cases c <;> rfl
theorem z_math_nat (a : Nat) (st : List z_V) (k : Int → List z_V → Option β) : (z_math a st k).bind g = z_math a st (fun x r => (k x r).bind g) := by
  unfold z_math
  split
  · rw [z_num_nat]; congr 1; funext x r; exact z_ite_nat g _ _ _
  · split <;> (rw [z_num2_nat]; congr 1; funext x y r; exact z_ite_nat g _ _ _)
theorem z_none_nat : (none : Option β).bind g = none := rfl
set_option maxHeartbeats 4000000 in
theorem z_step_nat (call : z_Call) (hc : z_C) (e : z_E) (ls st : List z_V) (hd : z_H) (σ : z_S) (k : Nat → List z_V → List z_V → z_H → z_S → Option β) (ret : z_Res → Option β) :
    (z_step call hc e ls st hd σ k ret).bind g = z_step call hc e ls st hd σ (fun pc ls st hd σ => (k pc ls st hd σ).bind g) (fun r => (ret r).bind g) := by
  obtain ⟨pc, i, len, a, c, d, b, p⟩ := e
  cases i <;> dsimp only [z_step] <;>
    first
    | rfl
    | (split <;> rfl)
    | simp only [z_cI_nat, z_cV_nat, z_ite_nat, z_ld_nat, z_st_nat, z_fld_nat, z_sw_nat, z_num_nat, z_one_nat, z_end_nat, z_num2_nat, z_lon_nat, z_lon2_nat, z_ref_nat, z_any_nat, z_iload_nat, z_aload_nat, z_lload_nat, z_if_nat, z_put_nat, z_pop_nat, z_res_nat, z_recv_nat, z_copy_nat, z_math_nat, z_free_nat, z_cond_nat, z_none_nat]
end ZN
section ZL
variable {call : z_Call} {hc : z_C}
/-- where a step leads: on, or out -/
def z_s1 (call : z_Call) (hc : z_C) (m pc : Nat) (ls st : List z_V) (hd : z_H) (σ : z_S) : Option ((Nat × List z_V × List z_V × z_H × z_S) ⊕ z_Res) := match z_find (z_code m) pc with
  | none => none
  | some e => z_step call hc e ls st hd σ (fun pc ls st hd σ => some (.inl (pc, ls, st, hd, σ))) (fun r => some (.inr r))
def z_to (f : Nat → List z_V → List z_V → z_H → z_S → Option z_Res) (c : (Nat × List z_V × List z_V × z_H × z_S) ⊕ z_Res) : Option z_Res := match c with
  | .inl (pc, ls, st, hd, σ) => f pc ls st hd σ
  | .inr r => some r
theorem z_s1_to (m pc : Nat) (ls st : List z_V) (hd : z_H) (σ : z_S) (f : Nat → List z_V → List z_V → z_H → z_S → Option z_Res) :
    (match z_find (z_code m) pc with
    | none => none
    | some e => z_step call hc e ls st hd σ f some) = (z_s1 call hc m pc ls st hd σ).bind (z_to f) := by
  unfold z_s1
  split
  · rfl
  · rw [z_step_nat]; rfl
theorem z_ex_succ (n m pc : Nat) (ls st : List z_V) (hd : z_H) (σ : z_S) : z_ex call hc (n + 1) m pc ls st hd σ = (z_s1 call hc m pc ls st hd σ).bind (z_to (z_ex call hc n m)) := by
  rw [← z_s1_to]; rfl
theorem z_ex_mono {n m : Nat} : ∀ {pc : Nat} {ls st : List z_V} {hd : z_H} {σ : z_S} {r : z_Res}, z_ex call hc n m pc ls st hd σ = some r → z_ex call hc (n + 1) m pc ls st hd σ = some r := by
  induction n with
  | zero => intro pc ls st hd σ r h; cases h
  | succ n ih =>
    intro pc ls st hd σ r h
    rw [z_ex_succ] at h
    rw [z_ex_succ]
    cases hs : z_s1 call hc m pc ls st hd σ with
    | none => rw [hs] at h; cases h
    | some c =>
      rw [hs] at h
      cases c with
      | inl c => obtain ⟨pc, ls, st, hd, σ⟩ := c; exact ih h
      | inr r => exact h
theorem z_ex_le {m : Nat} {pc : Nat} {ls st : List z_V} {hd : z_H} {σ : z_S} {r : z_Res} {n : Nat} (h : z_ex call hc n m pc ls st hd σ = some r) (k : Nat) : z_ex call hc (n + k) m pc ls st hd σ = some r := by
  induction k with
  | zero => exact h
  | succ k ih => exact z_ex_mono ih
theorem z_ex_det {m : Nat} {pc : Nat} {ls st : List z_V} {hd : z_H} {σ : z_S} {r r' : z_Res} {n n' : Nat} (h : z_ex call hc n m pc ls st hd σ = some r) (h' : z_ex call hc n' m pc ls st hd σ = some r') : r = r' := by
  have h1 := z_ex_le h n'
  have h2 := z_ex_le h' n
  rw [Nat.add_comm] at h2
  rw [h1] at h2
  exact Option.some.inj h2
theorem z_go_iff {m : Nat} {pc : Nat} {ls st : List z_V} {hd : z_H} {σ : z_S} {r : z_Res} : z_go call hc m pc ls st hd σ = some r ↔ ∃ n, z_ex call hc n m pc ls st hd σ = some r := by
  unfold z_go
  constructor
  · intro h
    split at h
    next hx => cases h; exact Classical.choose_spec hx
    next => cases h
  · rintro ⟨n, h⟩
    have hx : ∃ r, ∃ n, z_ex call hc n m pc ls st hd σ = some r := ⟨r, n, h⟩
    rw [dif_pos hx]
    obtain ⟨n', h'⟩ := Classical.choose_spec hx
    exact congrArg some (z_ex_det h' h)
theorem z_go_eq (m pc : Nat) (ls st : List z_V) (hd : z_H) (σ : z_S) : z_go call hc m pc ls st hd σ = (match z_find (z_code m) pc with
    | none => none
    | some e => z_step call hc e ls st hd σ (z_go call hc m) some) := by
  rw [z_s1_to]
  refine Option.ext fun r => ?_
  show z_go call hc m pc ls st hd σ = some r ↔ _ = some r
  rw [z_go_iff]
  cases hs : z_s1 call hc m pc ls st hd σ with
  | none =>
    constructor
    · rintro ⟨n, h⟩
      cases n with
      | zero => cases h
      | succ n => rw [z_ex_succ, hs] at h; cases h
    · intro h; cases h
  | some c =>
    cases c with
    | inl c =>
      obtain ⟨pc', ls', st', hd', σ'⟩ := c
      show _ ↔ z_go call hc m pc' ls' st' hd' σ' = some r
      rw [z_go_iff]
      constructor
      · rintro ⟨n, h⟩
        cases n with
        | zero => cases h
        | succ n => rw [z_ex_succ, hs] at h; exact ⟨n, h⟩
      · rintro ⟨n, h⟩
        exact ⟨n + 1, by rw [z_ex_succ, hs]; exact h⟩
    | inr r' =>
      show _ ↔ some r' = some r
      constructor
      · rintro ⟨n, h⟩
        cases n with
        | zero => cases h
        | succ n => rw [z_ex_succ, hs] at h; exact h
      · intro h
        exact ⟨1, by rw [z_ex_succ, hs]; exact h⟩
theorem z_run_eq (cut : List Nat) (m : Nat) : ∀ n : Nat, z_run call hc cut m n = z_go call hc m := by
  intro n
  induction n with
  | zero => rfl
  | succ n ih =>
    funext pc ls st hd σ
    unfold z_run
    rw [ih]
    split
    · rfl
    · exact (z_go_eq m pc ls st hd σ).symm
theorem z_go_run (cut : List Nat) (n m pc : Nat) (ls st : List z_V) (hd : z_H) (σ : z_S) : z_go call hc m pc ls st hd σ = z_run1 call hc cut m n pc ls st hd σ := by
  rw [z_go_eq]
  unfold z_run1
  rw [z_run_eq]
end ZL
theorem z_ev_run {hc : z_C} (cut : List Nat) (n d m : Nat) (as : List z_V) (hd : z_H) (σ : z_S) (h : z_aok m as = true) : z_ev hc (d + 1) m as hd σ = z_run1 (z_ev hc d) hc cut m n 0 (as ++ List.replicate (z_ml m - as.length) z_U) [] hd σ := by
  show cond (z_aok m as) (z_go (z_ev hc d) hc m 0 (as ++ List.replicate (z_ml m - as.length) z_U) [] hd σ) none = _
  rw [h]
  exact z_go_run cut n m 0 _ _ hd σ
end
section
/-! The simulation: what the small machine does, the JVM does. -/
def z_in (x : Int) : Prop := -2147483648 ≤ x ∧ x ≤ 2147483647
def z_inl (x : Int) : Prop := -9223372036854775808 ≤ x ∧ x ≤ 9223372036854775807
theorem z_in32 (y : Int32) : z_in y.toInt := by
  have h1 := Int32.le_toInt y
  have h2 := Int32.toInt_lt y
  constructor <;> omega
theorem z_in64 (y : Int64) : z_inl y.toInt := by
  have h1 := Int64.le_toInt y
  have h2 := Int64.toInt_lt y
  constructor <;> omega
theorem z_of32 {x : Int} (h : z_in x) : (Int32.ofInt x).toInt = x := Int32.toInt_ofInt_of_le (by have := h.1; omega) (by have := h.2; omega)
theorem z_of64 {x : Int} (h : z_inl x) : (Int64.ofInt x).toInt = x := Int64.toInt_ofInt_of_le (by have := h.1; omega) (by have := h.2; omega)
theorem z_w_of {x : Int} (h : z_in x) : z_w x = x := z_of32 h
theorem z_ofw (x : Int) : Int32.ofInt (z_w x) = Int32.ofInt x := Int32.ofInt_toInt _
theorem z_ofwl (x : Int) : Int64.ofInt (z_wl x) = Int64.ofInt x := Int64.ofInt_toInt _
theorem z_lt32 {x y : Int} (hx : z_in x) (hy : z_in y) : Int32.ofInt x < Int32.ofInt y ↔ x < y := by
  rw [Int32.lt_iff_toInt_lt, z_of32 hx, z_of32 hy]
theorem z_le32 {x y : Int} (hx : z_in x) (hy : z_in y) : Int32.ofInt x ≤ Int32.ofInt y ↔ x ≤ y := by
  rw [Int32.le_iff_toInt_le, z_of32 hx, z_of32 hy]
theorem z_eq32 {x y : Int} (hx : z_in x) (hy : z_in y) : Int32.ofInt x = Int32.ofInt y ↔ x = y := by
  rw [← Int32.toInt_inj, z_of32 hx, z_of32 hy]
theorem z_eq64 {x y : Int} (hx : z_inl x) (hy : z_inl y) : Int64.ofInt x = Int64.ofInt y ↔ x = y := by
  rw [← Int64.toInt_inj, z_of64 hx, z_of64 hy]
theorem z_lt64 {x y : Int} (hx : z_inl x) (hy : z_inl y) : Int64.ofInt x < Int64.ofInt y ↔ x < y := by
  rw [Int64.lt_iff_toInt_lt, z_of64 hx, z_of64 hy]
theorem z_in0 : z_in 0 := by constructor <;> omega
theorem z_0_32 : Int32.ofInt 0 = 0 := rfl
theorem z_clamp {x : Int} (h : z_in x) : (Int32.ofInt x).toNatClampNeg = x.toNat := by
  show (Int32.ofInt x).toInt.toNat = _
  rw [z_of32 h]
theorem z_vpin {x n : Int} (h : z_in x) (h0 : 0 ≤ x) (h1 : x < n) : vp_in (Int32.ofInt x) n.toNat := by
  intro q
  rcases q with q | q
  · rw [show (0 : Int32) = Int32.ofInt 0 from rfl, z_lt32 h z_in0] at q
    omega
  · rw [z_clamp h] at q
    omega
/-- a value as the JVM has it -/
def z_cv (ad : Nat → Nat) (v : z_V) : Value := match v with
  | .inl x => .int (Int32.ofInt x)
  | .inr (.inl a) => if a = 0 then .null else .ref (ad (a.toNat - 1))
  | .inr (.inr (.inl x)) => .long (Int64.ofInt x)
  | .inr (.inr (.inr _)) => .null
/-- an answer as the JVM has it -/
def z_rv (ad : Nat → Nat) (v : z_V) : Option Value := match v with
  | .inr (.inr (.inr _)) => none
  | v => some (z_cv ad v)
def z_vok (n : Nat) (v : z_V) : Prop := match v with
  | .inl x => z_in x
  | .inr (.inl a) => 0 ≤ a ∧ a ≤ (n : Int)
  | .inr (.inr (.inl x)) => z_inl x
  | .inr (.inr (.inr _)) => True
def z_junk (v : z_V) : Bool := match v with
  | .inr (.inr (.inr _)) => true
  | _ => false
theorem z_vok_le {n n' : Nat} (h : n ≤ n') {v : z_V} (hv : z_vok n v) : z_vok n' v := by
  unfold z_vok at *
  split
  · exact hv
  · exact ⟨hv.1, by have := hv.2; omega⟩
  · exact hv
  · trivial
theorem z_cv_ad {n : Nat} {ad ad' : Nat → Nat} (h : ∀ j, j < n → ad' j = ad j) {v : z_V} (hv : z_vok n v) : z_cv ad' v = z_cv ad v := by
  unfold z_cv
  split
  · rfl
  · next a =>
    split
    · rfl
    · have h1 : 0 ≤ a := hv.1
      have h2 : a ≤ (n : Int) := hv.2
      rw [h _ (by omega)]
  · rfl
  · rfl
theorem z_cat_cv (ad : Nat → Nat) (v : z_V) : (z_cv ad v).category = z_cat v := by
  unfold z_cv z_cat
  split
  · rfl
  · split <;> rfl
  · rfl
  · rfl
theorem z_cats_cv (ad : Nat → Nat) : ∀ st : List z_V, ((st.map (z_cv ad)).map fun v => v.category).sum = z_cats st
  | [] => rfl
  | v :: st => by
    show (z_cv ad v).category + _ = z_cat v + z_cats st
    rw [z_cat_cv, ← z_cats_cv ad st]
    rfl
def z_cell (dA : Nat → ClassId) (hc : z_C) (ad : Nat → Nat) (σ : z_S) (j : Nat) (q : Nat × Int) : va_E :=
  if q.1 < 10 then .inl (dA q.1, q.2.toNat, .inl (fun i => Int32.ofInt (σ (j + 1) i)))
  else .inr (q.1 - 10, (List.range q.2.toNat).map (fun f => z_cv ad (z_fv hc σ (j + 1) f (z_ft (q.1 - 10) f))))
def z_wd (dA : Nat → ClassId) (hc : z_C) (ad : Nat → Nat) (hd : z_H) (σ : z_S) : va_W := hd.mapIdx (fun j q => (ad j, z_cell dA hc ad σ j q))
def z_hok (hd : z_H) : Prop := ∀ (j : Nat) (q : Nat × Int), hd[j]? = some q → (q.1 < 10 → 1 ≤ q.1 ∧ q.1 ≤ 4 ∧ 0 ≤ q.2 ∧ q.2 ≤ 65536) ∧ (10 ≤ q.1 → q.1 - 10 < 13 ∧ q.2 = z_nf (q.1 - 10))
def z_sok (hc : z_C) (hd : z_H) (σ : z_S) : Prop := ∀ (j : Nat) (q : Nat × Int), hd[j]? = some q → (q.1 < 10 → ∀ i : Int, z_in (σ (j + 1) i)) ∧ (10 ≤ q.1 → ∀ f : Nat, f < q.2.toNat → z_vok hd.length (z_fv hc σ (j + 1) f (z_ft (q.1 - 10) f)))
theorem z_wd_get {dA : Nat → ClassId} {hc : z_C} {ad : Nat → Nat} {hd : z_H} {σ : z_S} {j : Nat} {q : Nat × Int} (h : hd[j]? = some q) : (z_wd dA hc ad hd σ)[j]? = some (ad j, z_cell dA hc ad σ j q) := by
  unfold z_wd
  rw [List.getElem?_mapIdx, h]
  rfl
theorem z_wd_len {dA : Nat → ClassId} {hc : z_C} {ad : Nat → Nat} {hd : z_H} {σ : z_S} : (z_wd dA hc ad hd σ).length = hd.length := by
  unfold z_wd
  exact List.length_mapIdx
theorem z_k_pos {hd : z_H} {a : Int} {k : Nat} (h : z_k hd a = k) (hk : k ≠ 0) : ∃ (j : Nat) (n : Int), a = (j : Int) + 1 ∧ hd[j]? = some (k, n) ∧ z_n hd a = n ∧ j < hd.length := by
  unfold z_k at h
  unfold z_n
  split at h
  · exact absurd h.symm hk
  · next j hj =>
    split at h
    · next q hq =>
      obtain ⟨q1, q2⟩ := q
      subst h
      exact ⟨j, q2, by omega, hq, by simp, (List.getElem?_eq_some_iff.mp hq).1⟩
    · exact absurd h.symm hk
theorem z_cv_R {ad : Nat → Nat} (j : Nat) : z_cv ad (z_R ((j : Int) + 1)) = .ref (ad j) := by
  have h1 : ¬ ((j : Int) + 1 = 0) := by omega
  have h2 : ((j : Int) + 1).toNat - 1 = j := by omega
  unfold z_cv
  simp only [h1, h2, if_false]
/-- one place of an array becomes v -/
theorem z_wd_setA {dA : Nat → ClassId} {hc : z_C} {ad : Nat → Nat} {hd : z_H} {σ : z_S} {j k : Nat} {n : Int} (h : hd[j]? = some (k, n)) (hk : k < 10) {i v : Int} (hi : 0 ≤ i) (hin : z_in i) :
    (z_wd dA hc ad hd σ).set j (ad j, .inl (dA k, n.toNat, .inl (upd (fun i => Int32.ofInt (σ (j + 1) i)) (Int32.ofInt i).toNatClampNeg (Int32.ofInt v)))) = z_wd dA hc ad hd (z_upd σ (j + 1) i v) := by
  refine List.ext_getElem? fun t => ?_
  rw [List.getElem?_set]
  split
  · next ht =>
    subst ht
    rw [z_wd_get h]
    rw [if_pos (by rw [z_wd_len]; exact (List.getElem?_eq_some_iff.mp h).1)]
    congr 2
    unfold z_cell
    rw [if_pos hk]
    congr 4
    funext x
    rw [z_clamp hin]
    unfold upd z_upd
    by_cases hx : x = i.toNat
    · rw [if_pos hx, if_pos ⟨rfl, by omega⟩]
    · rw [if_neg hx, if_neg (fun z => hx (by omega))]
  · next ht =>
    cases hq : hd[t]? with
    | none =>
      have h1 : (z_wd dA hc ad hd σ)[t]? = none := by
        rw [List.getElem?_eq_none_iff, z_wd_len]; exact List.getElem?_eq_none_iff.mp hq
      have h2 : (z_wd dA hc ad hd (z_upd σ (j + 1) i v))[t]? = none := by
        rw [List.getElem?_eq_none_iff, z_wd_len]; exact List.getElem?_eq_none_iff.mp hq
      rw [h1, h2]
    | some q =>
      rw [z_wd_get hq, z_wd_get hq]
      congr 2
      have hne : ¬ ((t : Int) + 1 = (j : Int) + 1) := by omega
      unfold z_cell z_fv z_gf z_upd
      simp [hne]
/-- one field becomes v -/
theorem z_wd_setF {dA : Nat → ClassId} {hc : z_C} {ad : Nat → Nat} {hd : z_H} {σ : z_S} {j k : Nat} {n : Int} (h : hd[j]? = some (10 + k, n)) {f : Nat} {v : Int} {w : z_V} (hf : f < n.toNat)
    (hw : w = z_fv hc (z_upd σ (j + 1) f v) (j + 1) f (z_ft k f)) :
    (z_wd dA hc ad hd σ).set j (ad j, .inr (k, ((List.range n.toNat).map (fun f => z_cv ad (z_fv hc σ (j + 1) f (z_ft k f)))).set f (z_cv ad w))) = z_wd dA hc ad hd (z_upd σ (j + 1) f v) := by
  refine List.ext_getElem? fun t => ?_
  rw [List.getElem?_set]
  split
  · next ht =>
    subst ht
    rw [z_wd_get h]
    rw [if_pos (by rw [z_wd_len]; exact (List.getElem?_eq_some_iff.mp h).1)]
    congr 2
    unfold z_cell
    rw [if_neg (by show ¬ 10 + k < 10; omega)]
    have h10 : 10 + k - 10 = k := by omega
    show Sum.inr (k, _) = Sum.inr (10 + k - 10, _)
    rw [h10]
    congr 2
    refine List.ext_getElem? fun g => ?_
    rw [List.getElem?_set]
    split
    · next hg =>
      subst hg
      rw [if_pos (by simpa using hf)]
      simp [hf, hw]
    · next hg =>
      by_cases hgn : g < n.toNat
      · simp only [List.getElem?_map, List.getElem?_range hgn, Option.map_some]
        have hne : ¬ ((g : Int) = (f : Int)) := by omega
        unfold z_fv z_gf z_upd
        simp [hne]
      · simp [List.getElem?_eq_none_iff.mpr, Nat.le_of_not_lt hgn]
  · next ht =>
    cases hq : hd[t]? with
    | none =>
      have h1 : (z_wd dA hc ad hd σ)[t]? = none := by
        rw [List.getElem?_eq_none_iff, z_wd_len]; exact List.getElem?_eq_none_iff.mp hq
      have h2 : (z_wd dA hc ad hd (z_upd σ (j + 1) f v))[t]? = none := by
        rw [List.getElem?_eq_none_iff, z_wd_len]; exact List.getElem?_eq_none_iff.mp hq
      rw [h1, h2]
    | some q =>
      rw [z_wd_get hq, z_wd_get hq]
      congr 2
      have hne : ¬ ((t : Int) + 1 = (j : Int) + 1) := by omega
      unfold z_cell z_fv z_gf z_upd
      simp [hne]
def z_ll (ad : Nat → Nat) (ls : List z_V) : List (Nat × Value) := ls.zipIdx.filterMap (fun q => match z_junk q.1 with
  | true => none
  | false => some (q.2, z_cv ad q.1))
theorem z_ll_mem {ad : Nat → Nat} {ls : List z_V} {q : Nat × Value} : q ∈ z_ll ad ls ↔ ∃ v, ls[q.1]? = some v ∧ z_junk v = false ∧ q.2 = z_cv ad v := by
  unfold z_ll
  rw [List.mem_filterMap]
  constructor
  · rintro ⟨⟨v, i⟩, h1, h2⟩
    have h3 : ls[i]? = some v := List.mk_mem_zipIdx_iff_getElem?.mp h1
    dsimp only at h2
    split at h2
    · cases h2
    · next hj => cases h2; exact ⟨v, h3, hj, rfl⟩
  · rintro ⟨v, h1, h2, h3⟩
    refine ⟨(v, q.1), List.mk_mem_zipIdx_iff_getElem?.mpr h1, ?_⟩
    dsimp only
    rw [h2]
    dsimp only
    rw [← h3]
theorem z_lv_weak {arr : Array Slot} {nL : Nat} {l l' : List (Nat × Value)} (h : lv_has arr nL l) (hs : ∀ q ∈ l', q ∈ l) : lv_has arr nL l' := ⟨h.1, h.2.1, fun q hq => h.2.2 q (hs q hq)⟩
def z_loc (ad : Nat → Nat) (ls : List z_V) (arr : Array Slot) (nL : Nat) : Prop := lv_has arr nL (z_ll ad ls) ∧ ls.length = nL
theorem z_get_some {v : z_V} (hv : z_junk v = false) : ∀ {ls : List z_V} {j : Nat}, z_get ls j = v → ls[j]? = some v
  | [], j, h => by unfold z_get at h; subst h; cases hv
  | a :: l, 0, h => by show some a = some v; rw [show a = v from h]
  | a :: l, j + 1, h => z_get_some hv (ls := l) (j := j) h
theorem z_loc_at {ad : Nat → Nat} {ls : List z_V} {arr : Array Slot} {nL j : Nat} {v : z_V} (h : z_loc ad ls arr nL) (hv : z_junk v = false) (hj : z_get ls j = v) : arr[j]? = some (.val (z_cv ad v)) :=
  h.1.2.2 (j, z_cv ad v) (z_ll_mem.mpr ⟨v, z_get_some hv hj, hv, rfl⟩)
theorem z_get_vok {n : Nat} {ls : List z_V} {j : Nat} {v : z_V} (hv : z_junk v = false) (hj : z_get ls j = v) (h : ∀ v ∈ ls, z_vok n v) : z_vok n v := h v (List.mem_of_getElem? (z_get_some hv hj))
theorem z_set_len (v : z_V) : ∀ (ls : List z_V) (j : Nat), (z_set ls j v).length = ls.length
  | [], _ => rfl
  | a :: l, 0 => rfl
  | a :: l, 1 => congrArg (· + 1) (z_set_len v l 0)
  | a :: l, j + 2 => congrArg (· + 1) (z_set_len v l (j + 1))
theorem z_kill_eq {a w : z_V} (h : z_kill a = w) (hw : z_junk w = false) : a = w ∧ z_cat w = 1 := by
  match a, h with
  | .inl x, h => subst h; exact ⟨rfl, rfl⟩
  | .inr (.inl x), h => subst h; exact ⟨rfl, rfl⟩
  | .inr (.inr (.inl x)), h => subst h; cases hw
  | .inr (.inr (.inr x)), h => subst h; cases hw
theorem z_set_get {v w : z_V} (hw : z_junk w = false) : ∀ {ls : List z_V} {j i : Nat}, (z_set ls j v)[i]? = some w → (i = j ∧ w = v) ∨ (i ≠ j ∧ ls[i]? = some w ∧ (i + 1 = j → z_cat w = 1))
  | [], j, i, h => by unfold z_set at h; simp at h
  | a :: l, 0, 0, h => by
    left
    refine ⟨rfl, ?_⟩
    have h' : some v = some w := h
    exact (Option.some.inj h').symm
  | a :: l, 0, i + 1, h => by
    right
    exact ⟨by omega, h, fun z => by omega⟩
  | a :: l, 1, 0, h => by
    right
    have h' : some (z_kill a) = some w := h
    obtain ⟨h1, h2⟩ := z_kill_eq (Option.some.inj h') hw
    exact ⟨by omega, congrArg some h1, fun _ => h2⟩
  | a :: l, 1, i + 1, h => by
    have h' : (z_set l 0 v)[i]? = some w := h
    rcases z_set_get hw h' with ⟨h1, h2⟩ | ⟨h1, h2, h3⟩
    · exact Or.inl ⟨by omega, h2⟩
    · exact Or.inr ⟨by omega, h2, fun z => by omega⟩
  | a :: l, j + 2, 0, h => by
    right
    exact ⟨by omega, h, fun z => by omega⟩
  | a :: l, j + 2, i + 1, h => by
    have h' : (z_set l (j + 1) v)[i]? = some w := h
    rcases z_set_get hw h' with ⟨h1, h2⟩ | ⟨h1, h2, h3⟩
    · exact Or.inl ⟨by omega, h2⟩
    · exact Or.inr ⟨by omega, h2, fun z => h3 (by omega)⟩
theorem z_set_vok {n : Nat} {v : z_V} (hv : z_vok n v) : ∀ {ls : List z_V} {j : Nat}, (∀ w ∈ ls, z_vok n w) → ∀ w ∈ z_set ls j v, z_vok n w
  | [], j, h, w, hw => by unfold z_set at hw; cases hw
  | a :: l, 0, h, w, hw => by
    have hw' : w ∈ v :: l := hw
    rcases List.mem_cons.mp hw' with rfl | hw'
    · exact hv
    · exact h w (List.mem_cons_of_mem _ hw')
  | a :: l, 1, h, w, hw => by
    have hw' : w ∈ z_kill a :: z_set l 0 v := hw
    rcases List.mem_cons.mp hw' with rfl | hw'
    · have ha := h a List.mem_cons_self
      unfold z_kill
      split
      · trivial
      · exact ha
    · exact z_set_vok hv (fun w hw => h w (List.mem_cons_of_mem _ hw)) w hw'
  | a :: l, j + 2, h, w, hw => by
    have hw' : w ∈ a :: z_set l (j + 1) v := hw
    rcases List.mem_cons.mp hw' with rfl | hw'
    · exact h _ List.mem_cons_self
    · exact z_set_vok hv (fun w hw => h w (List.mem_cons_of_mem _ hw)) w hw'
/-- behind a store of one word -/
theorem z_loc_set {ad : Nat → Nat} {ls : List z_V} {arr arr' : Array Slot} {nL j : Nat} {v : z_V} (h : z_loc ad ls arr nL)
    (h' : lv_has arr' nL ((j, z_cv ad v) :: (z_ll ad ls).filter (fun q => !(q.1 == j) && !(q.1 + 1 == j && q.2.category == 2)))) : z_loc ad (z_set ls j v) arr' nL := by
  refine ⟨z_lv_weak h' fun q hq => ?_, by rw [z_set_len]; exact h.2⟩
  obtain ⟨w, h1, h2, h3⟩ := z_ll_mem.mp hq
  rcases z_set_get h2 h1 with ⟨e1, e2⟩ | ⟨e1, e2, e3⟩
  · subst e2
    obtain ⟨q1, q2⟩ := q
    dsimp only at e1 h3
    subst e1 h3
    exact List.mem_cons_self
  · refine List.mem_cons_of_mem _ (List.mem_filter.mpr ⟨z_ll_mem.mpr ⟨w, e2, h2, h3⟩, ?_⟩)
    rw [h3, z_cat_cv]
    simp only [Bool.and_eq_true, Bool.not_eq_true', beq_eq_false_iff_ne, ne_eq, Bool.and_eq_false_iff]
    refine ⟨e1, ?_⟩
    by_cases hz : q.1 + 1 = j
    · right; rw [e3 hz]; decide
    · left; exact hz
/-- behind a store of a long -/
theorem z_loc_setL {ad : Nat → Nat} {ls : List z_V} {arr arr' : Array Slot} {nL j : Nat} {v : z_V} (h : z_loc ad ls arr nL)
    (h' : lv_has arr' nL ((j, z_cv ad v) :: (z_ll ad ls).filter (fun q => !(q.1 == j) && (!(q.1 == j + 1) && !(q.1 + 1 == j && q.2.category == 2))))) : z_loc ad (z_set (z_set ls (j + 1) z_U) j v) arr' nL := by
  refine ⟨z_lv_weak h' fun q hq => ?_, by rw [z_set_len, z_set_len]; exact h.2⟩
  obtain ⟨w, h1, h2, h3⟩ := z_ll_mem.mp hq
  rcases z_set_get h2 h1 with ⟨e1, e2⟩ | ⟨e1, e2, e3⟩
  · subst e2
    obtain ⟨q1, q2⟩ := q
    dsimp only at e1 h3
    subst e1 h3
    exact List.mem_cons_self
  · rcases z_set_get h2 e2 with ⟨f1, f2⟩ | ⟨f1, f2, f3⟩
    · subst f2; cases h2
    · refine List.mem_cons_of_mem _ (List.mem_filter.mpr ⟨z_ll_mem.mpr ⟨w, f2, h2, h3⟩, ?_⟩)
      rw [h3, z_cat_cv]
      simp only [Bool.and_eq_true, Bool.not_eq_true', beq_eq_false_iff_ne, ne_eq, Bool.and_eq_false_iff]
      refine ⟨e1, f1, ?_⟩
      by_cases hz : q.1 + 1 = j
      · right; rw [e3 hz]; decide
      · left; exact hz
-- what a step's parts say when it goes on
section ZI
variable {β : Type} {r : β}
theorem z_num_some {st : List z_V} {k : Int → List z_V → Option β} (h : z_num st k = some r) : ∃ x q, st = z_I x :: q ∧ k x q = some r := by
  unfold z_num at h; split at h
  · exact ⟨_, _, rfl, h⟩
  · cases h
theorem z_num2_some {st : List z_V} {k : Int → Int → List z_V → Option β} (h : z_num2 st k = some r) : ∃ x y q, st = z_I y :: z_I x :: q ∧ k x y q = some r := by
  unfold z_num2 at h; split at h
  · exact ⟨_, _, _, rfl, h⟩
  · cases h
theorem z_lon_some {st : List z_V} {k : Int → List z_V → Option β} (h : z_lon st k = some r) : ∃ x q, st = z_L x :: q ∧ k x q = some r := by
  unfold z_lon at h; split at h
  · exact ⟨_, _, rfl, h⟩
  · cases h
theorem z_lon2_some {st : List z_V} {k : Int → Int → List z_V → Option β} (h : z_lon2 st k = some r) : ∃ x y q, st = z_L y :: z_L x :: q ∧ k x y q = some r := by
  unfold z_lon2 at h; split at h
  · exact ⟨_, _, _, rfl, h⟩
  · cases h
theorem z_ref_some {st : List z_V} {k : Int → List z_V → Option β} (h : z_ref st k = some r) : ∃ x q, st = z_R x :: q ∧ k x q = some r := by
  unfold z_ref at h; split at h
  · exact ⟨_, _, rfl, h⟩
  · cases h
theorem z_any_some {st : List z_V} {k : z_V → List z_V → Option β} (h : z_any st k = some r) : ∃ x q, st = x :: q ∧ z_cat x = 1 ∧ k x q = some r := by
  unfold z_any at h; split at h
  · split at h
    · next hc => exact ⟨_, _, rfl, hc, h⟩
    · cases h
  · cases h
theorem z_iload_some {ls : List z_V} {i : Nat} {k : z_V → Option β} (h : z_iload ls i k = some r) : ∃ x, z_get ls i = z_I x ∧ k (z_I x) = some r := by
  unfold z_iload at h; split at h
  · next x hx => exact ⟨x, hx, h⟩
  · cases h
theorem z_aload_some {ls : List z_V} {i : Nat} {k : z_V → Option β} (h : z_aload ls i k = some r) : ∃ x, z_get ls i = z_R x ∧ k (z_R x) = some r := by
  unfold z_aload at h; split at h
  · next x hx => exact ⟨x, hx, h⟩
  · cases h
theorem z_lload_some {ls : List z_V} {i : Nat} {k : z_V → Option β} (h : z_lload ls i k = some r) : ∃ x, z_get ls i = z_L x ∧ k (z_L x) = some r := by
  unfold z_lload at h; split at h
  · next x hx => exact ⟨x, hx, h⟩
  · cases h
theorem z_ite_some {c : Prop} [Decidable c] {a : Option β} (h : (if c then a else none) = some r) : c ∧ a = some r := by
  split at h
  · next hc => exact ⟨hc, h⟩
  · cases h
theorem z_iten_some {c : Prop} [Decidable c] {a : Option β} (h : (if c then none else a) = some r) : ¬ c ∧ a = some r := by
  split at h
  · cases h
  · next hc => exact ⟨hc, h⟩
theorem z_cI_some {q : Option z_Res} {k : Int → z_H → z_S → Option β} (h : z_cI q k = some r) : ∃ x hd σ, q = some (z_I x, hd, σ) ∧ k x hd σ = some r := by
  unfold z_cI at h; split at h
  · exact ⟨_, _, _, rfl, h⟩
  · cases h
theorem z_cV_some {q : Option z_Res} {k : z_H → z_S → Option β} (h : z_cV q k = some r) : ∃ hd σ, q = some (z_U, hd, σ) ∧ k hd σ = some r := by
  unfold z_cV at h; split at h
  · exact ⟨_, _, rfl, h⟩
  · cases h
theorem z_pop_some {k : List z_V → List z_V → Option β} : ∀ {n : Nat} {as st : List z_V}, z_pop n as st k = some r → ∃ q qs, st = q.reverse ++ qs ∧ q.length = n ∧ z_cats qs ≤ 8 ∧ k (q ++ as) qs = some r
  | 0, as, st, h => by
    unfold z_pop at h
    obtain ⟨h1, h2⟩ := z_ite_some h
    exact ⟨[], st, rfl, rfl, h1, h2⟩
  | n + 1, as, [], h => by cases h
  | n + 1, as, a :: st, h => by
    unfold z_pop at h
    obtain ⟨q, qs, h1, h2, h3, h4⟩ := z_pop_some h
    refine ⟨q ++ [a], qs, by simp [h1], by simp [h2], h3, ?_⟩
    simpa using h4
end ZI
def z_tys (dA : Nat → ClassId) : List (ClassId × FieldType) := [(dA 1, .int), (dA 2, .boolean), (dA 3, .byte), (dA 4, .char)]
def z_sl (hd : z_H) : Nat := (hd.map (fun q => q.2.toNat)).sum
/-- the cells that a method may change: those of its world, and new ones -/
def z_fr (ad : Nat → Nat) (n sz : Nat) : Nat → Prop := fun q => (∃ j, j < n ∧ ad j = q) ∨ sz ≤ q
def z_Q (dC : Nat → ClassId) (dI : Nat → Nat → Nat) (dA : Nat → ClassId) (hc : z_C) (ad0 : Nat → Nat) (n0 : Nat) (r : z_Res) : Array Value → State → Outcome → State → Prop := fun _ st oc t =>
  (∃ ad' : Nat → Nat, (∀ j, j < n0 → ad' j = ad0 j) ∧ oc = .returned (z_rv ad' r.1) ∧ z_vok r.2.1.length r.1 ∧ z_hok r.2.1 ∧ z_sok hc r.2.1 r.2.2 ∧
    va_P (dC, dI) vwCl (z_wd dA hc ad' r.2.1 r.2.2) t.heap ∧ va_D (z_fr ad0 n0 st.heap.size) (z_wd dA hc ad' r.2.1 r.2.2)) ∧ va_F (z_fr ad0 n0 st.heap.size) st t
/-- what a walk of method mm rests on, d + 1 levels deep -/
def z_Fix (p : Program) (s : State) (m : MethodId) (args : Array Value) (meth : Method) (c : Code) (R : Room) (dC : Nat → ClassId) (dI : Nat → Nat → Nat) (dA : Nat → ClassId) (mm d : Nat) : Prop :=
  p.tables.exec = Jvm.exec ∧ c.code = z_mb mm ∧ c.maxLocals = z_ml mm ∧ s.vm.findClass (z_my mm).cls = some m.cls ∧ (∀ w ∈ z_tw, w.before args s = true) ∧ meth.sig.returnType = z_mr mm ∧ meth.locks = false ∧ meth.name = (z_my mm).name ∧
  va_K (dC, dI) vwCl (z_tys dA) s ∧ R.frames = d + 1 ∧ R.locals = 60 * (d + 1)
def z_J (s : State) (dC : Nat → ClassId) (dI : Nat → Nat → Nat) (dA : Nat → ClassId) (hc : z_C) (ad0 : Nat → Nat) (n0 s0 : Nat) (hd : z_H) (σ : z_S) (ad : Nat → Nat) (H : Heap) (locs : List Loc) (cells slots : Nat) : Prop :=
  va_P (dC, dI) vwCl (z_wd dA hc ad hd σ) H ∧ va_D (z_fr ad0 n0 s.heap.size) (z_wd dA hc ad hd σ) ∧ va_S (z_fr ad0 n0 s.heap.size) s.heap H locs ∧ z_hok hd ∧ z_sok hc hd σ ∧ (∀ j, j < n0 → ad j = ad0 j) ∧ cells + n0 = hd.length ∧ slots + s0 = z_sl hd
/-- what a run's end is, whatever the JVM's heap -/
def z_fin (hc : z_C) (hd : z_H) (r : z_Res) : Prop := (∃ x, r.2.1 = hd ++ x) ∧ z_hok r.2.1 ∧ z_sok hc r.2.1 r.2.2 ∧ z_vok r.2.1.length r.1
def z_W (p : Program) (l : Launch) (e : Env) (R : Room) (s : State) (m : MethodId) (args : Array Value) (below : List Frame) (meth : Method) (c : Code) (dC : Nat → ClassId) (dI : Nat → Nat → Nat) (dA : Nat → ClassId) (hc : z_C) (mm : Nat) (ad0 : Nat → Nat) (n0 s0 : Nat) (r : z_Res) (pc : Nat) (ls st : List z_V) (hd : z_H) (σ : z_S) : Prop :=
  z_hok hd → z_sok hc hd σ → (∀ v ∈ ls, z_vok hd.length v) → (∀ v ∈ st, z_vok hd.length v) → z_fin hc hd r ∧ ∀ (ad : Nat → Nat) (H : Heap) (arr : Array Slot) (locs : List Loc) (cells slots : Nat), z_J s dC dI dA hc ad0 n0 s0 hd σ ad H locs cells slots → z_loc ad ls arr (z_ml mm) →
    W p l e R s m args below meth c H locs cells slots (MQ below (z_Q dC dI dA hc ad0 n0 r) args s (r.2.1.length - n0) (z_sl r.2.1 - s0) (z_fr ad0 n0 s.heap.size)) (F0 m pc arr (st.map (z_cv ad)))
section ZW
variable {p : Program} {l : Launch} {e : Env} {R : Room} {s : State} {m : MethodId} {args : Array Value} {below : List Frame} {meth : Method} {c : Code} {dC : Nat → ClassId} {dI : Nat → Nat → Nat} {dA : Nat → ClassId} {hc : z_C} {mm d : Nat} {ad0 : Nat → Nat} {n0 s0 : Nat} {r : z_Res} {pc pc' : Nat} {ls st st' : List z_V} {hd : z_H} {σ : z_S}
/-- a step that moves the stack alone -/
theorem z_W_st (h : z_W p l e R s m args below meth c dC dI dA hc mm ad0 n0 s0 r pc' ls st' hd σ) (ok : (∀ v ∈ ls, z_vok hd.length v) → z_hok hd → z_sok hc hd σ → (∀ v ∈ st, z_vok hd.length v) → ∀ v ∈ st', z_vok hd.length v)
    (row : ∀ (ad : Nat → Nat) (H : Heap) (arr : Array Slot) (locs : List Loc) (cells slots : Nat) (Q : State → Prop), z_J s dC dI dA hc ad0 n0 s0 hd σ ad H locs cells slots → z_loc ad ls arr (z_ml mm) → (∀ v ∈ ls, z_vok hd.length v) → (∀ v ∈ st, z_vok hd.length v) →
      W p l e R s m args below meth c H locs cells slots Q (F0 m pc' arr (st'.map (z_cv ad))) → W p l e R s m args below meth c H locs cells slots Q (F0 m pc arr (st.map (z_cv ad)))) :
    z_W p l e R s m args below meth c dC dI dA hc mm ad0 n0 s0 r pc ls st hd σ :=
  fun hho hso hvl hvs => ⟨(h hho hso hvl (ok hvl hho hso hvs)).1, fun ad H arr locs cells slots J hl => row ad H arr locs cells slots _ J hl hvl hvs ((h hho hso hvl (ok hvl hho hso hvs)).2 ad H arr locs cells slots J hl)⟩
theorem z_ok_tail {n : Nat} {a : z_V} {q : List z_V} (h : ∀ v ∈ a :: q, z_vok n v) : z_vok n a ∧ ∀ v ∈ q, z_vok n v := ⟨h a List.mem_cons_self, fun v hv => h v (List.mem_cons_of_mem _ hv)⟩
theorem z_ok_cons {n : Nat} {a : z_V} {q : List z_V} (ha : z_vok n a) (h : ∀ v ∈ q, z_vok n v) : ∀ v ∈ a :: q, z_vok n v := fun v hv => by
  rcases List.mem_cons.mp hv with rfl | hv
  · exact ha
  · exact h v hv
/-- an int out of two -/
theorem z_W_bin {x y : Int} {q : List z_V} {z : Int} {w : Int32} (hz : z = w.toInt)
    (h : z_W p l e R s m args below meth c dC dI dA hc mm ad0 n0 s0 r pc' ls (z_I z :: q) hd σ)
    (row : z_in x → z_in y → ∀ (H : Heap) (arr : Array Slot) (locs : List Loc) (cells slots : Nat) (Q : State → Prop) (rest : List Value), W p l e R s m args below meth c H locs cells slots Q (F0 m pc' arr (.int w :: rest)) → W p l e R s m args below meth c H locs cells slots Q (F0 m pc arr (.int (Int32.ofInt y) :: .int (Int32.ofInt x) :: rest))) :
    z_W p l e R s m args below meth c dC dI dA hc mm ad0 n0 s0 r pc ls (z_I y :: z_I x :: q) hd σ := by
  refine z_W_st h (fun _ _ _ hv => ?_) (fun ad H arr locs cells slots Q J hl hvl hvs k => ?_)
  · exact z_ok_cons (by subst hz; exact z_in32 _) (z_ok_tail (z_ok_tail hv).2).2
  · refine row (z_ok_tail (z_ok_tail hvs).2).1 (z_ok_tail hvs).1 H arr locs cells slots Q _ ?_
    have k' : W p l e R s m args below meth c H locs cells slots Q (F0 m pc' arr (.int (Int32.ofInt z) :: q.map (z_cv ad))) := k
    rw [hz, Int32.ofInt_toInt] at k'
    exact k'
theorem z_W_un {x : Int} {q : List z_V} {z : Int} {w : Int32} (hz : z = w.toInt)
    (h : z_W p l e R s m args below meth c dC dI dA hc mm ad0 n0 s0 r pc' ls (z_I z :: q) hd σ)
    (row : z_in x → ∀ (H : Heap) (arr : Array Slot) (locs : List Loc) (cells slots : Nat) (Q : State → Prop) (rest : List Value), W p l e R s m args below meth c H locs cells slots Q (F0 m pc' arr (.int w :: rest)) → W p l e R s m args below meth c H locs cells slots Q (F0 m pc arr (.int (Int32.ofInt x) :: rest))) :
    z_W p l e R s m args below meth c dC dI dA hc mm ad0 n0 s0 r pc ls (z_I x :: q) hd σ := by
  refine z_W_st h (fun _ _ _ hv => ?_) (fun ad H arr locs cells slots Q J hl hvl hvs k => ?_)
  · exact z_ok_cons (by subst hz; exact z_in32 _) (z_ok_tail hv).2
  · refine row (z_ok_tail hvs).1 H arr locs cells slots Q _ ?_
    have k' : W p l e R s m args below meth c H locs cells slots Q (F0 m pc' arr (.int (Int32.ofInt z) :: q.map (z_cv ad))) := k
    rw [hz, Int32.ofInt_toInt] at k'
    exact k'
theorem z_W_binL {x y : Int} {q : List z_V} {z : Int} {w : Int64} (hz : z = w.toInt)
    (h : z_W p l e R s m args below meth c dC dI dA hc mm ad0 n0 s0 r pc' ls (z_L z :: q) hd σ)
    (row : z_inl x → z_inl y → ∀ (H : Heap) (arr : Array Slot) (locs : List Loc) (cells slots : Nat) (Q : State → Prop) (rest : List Value), W p l e R s m args below meth c H locs cells slots Q (F0 m pc' arr (.long w :: rest)) → W p l e R s m args below meth c H locs cells slots Q (F0 m pc arr (.long (Int64.ofInt y) :: .long (Int64.ofInt x) :: rest))) :
    z_W p l e R s m args below meth c dC dI dA hc mm ad0 n0 s0 r pc ls (z_L y :: z_L x :: q) hd σ := by
  refine z_W_st h (fun _ _ _ hv => ?_) (fun ad H arr locs cells slots Q J hl hvl hvs k => ?_)
  · exact z_ok_cons (by subst hz; exact z_in64 _) (z_ok_tail (z_ok_tail hv).2).2
  · refine row (z_ok_tail (z_ok_tail hvs).2).1 (z_ok_tail hvs).1 H arr locs cells slots Q _ ?_
    have k' : W p l e R s m args below meth c H locs cells slots Q (F0 m pc' arr (.long (Int64.ofInt z) :: q.map (z_cv ad))) := k
    rw [hz, Int64.ofInt_toInt] at k'
    exact k'
/-- a value is pushed -/
theorem z_W_push {v : z_V} (h : z_W p l e R s m args below meth c dC dI dA hc mm ad0 n0 s0 r pc' ls (v :: st) hd σ) (hv : (∀ v ∈ ls, z_vok hd.length v) → z_vok hd.length v)
    (row : ∀ (ad : Nat → Nat) (H : Heap) (arr : Array Slot) (locs : List Loc) (cells slots : Nat) (Q : State → Prop) (rest : List Value), z_loc ad ls arr (z_ml mm) → W p l e R s m args below meth c H locs cells slots Q (F0 m pc' arr (z_cv ad v :: rest)) → W p l e R s m args below meth c H locs cells slots Q (F0 m pc arr rest)) :
    z_W p l e R s m args below meth c dC dI dA hc mm ad0 n0 s0 r pc ls st hd σ :=
  z_W_st h (fun hl _ _ hvs => z_ok_cons (hv hl) hvs) (fun ad H arr locs cells slots Q _ hl _ _ k => row ad H arr locs cells slots Q _ hl k)
/-- a value is stored in a local -/
theorem z_W_store {v : z_V} {ls' : List z_V} (h : z_W p l e R s m args below meth c dC dI dA hc mm ad0 n0 s0 r pc' ls' st hd σ) (hok : z_vok hd.length v → (∀ w ∈ ls, z_vok hd.length w) → ∀ w ∈ ls', z_vok hd.length w)
    (row : ∀ (ad : Nat → Nat) (H : Heap) (arr : Array Slot) (locs : List Loc) (cells slots : Nat) (Q : State → Prop) (rest : List Value), z_loc ad ls arr (z_ml mm) → (∀ arr', z_loc ad ls' arr' (z_ml mm) → W p l e R s m args below meth c H locs cells slots Q (F0 m pc' arr' rest)) → W p l e R s m args below meth c H locs cells slots Q (F0 m pc arr (z_cv ad v :: rest))) :
    z_W p l e R s m args below meth c dC dI dA hc mm ad0 n0 s0 r pc ls (v :: st) hd σ :=
  fun hho hso hvl hvs => ⟨(h hho hso (hok (z_ok_tail hvs).1 hvl) (z_ok_tail hvs).2).1, fun ad H arr locs cells slots J hl => row ad H arr locs cells slots _ _ hl (fun arr' hl' => (h hho hso (hok (z_ok_tail hvs).1 hvl) (z_ok_tail hvs).2).2 ad H arr' locs cells slots J hl')⟩
end ZW
end
section
section ZX
variable {p : Program} {l : Launch} {e : Env} {R : Room} {s : State} {m : MethodId} {args : Array Value} {below : List Frame} {meth : Method} {c : Code} {dC : Nat → ClassId} {dI : Nat → Nat → Nat} {dA : Nat → ClassId} {hc : z_C} {mm d : Nat} {ad0 : Nat → Nat} {n0 s0 : Nat} {r : z_Res} {pc pc' : Nat} {ls st st' : List z_V} {hd : z_H} {σ : z_S}
theorem z_sok_updF {j a f : Nat} {n v : Int} (h : hd[j]? = some (10 + a, n)) (hs : z_sok hc hd σ) (hv : z_vok hd.length (z_fv hc (z_upd σ (j + 1) f v) (j + 1) f (z_ft a f))) : z_sok hc hd (z_upd σ (j + 1) f v) := by
  intro t q hq
  by_cases ht : t = j
  · subst ht
    rw [h] at hq; cases hq
    refine ⟨fun z => absurd z (by show ¬ 10 + a < 10; omega), fun _ g hg => ?_⟩
    show z_vok hd.length (z_fv hc (z_upd σ (t + 1) f v) (t + 1) g (z_ft (10 + a - 10) g))
    have h10 : 10 + a - 10 = a := by omega
    rw [h10]
    by_cases hgf : g = f
    · subst hgf; exact hv
    · have h0 := (hs t _ h).2 (by show 10 ≤ 10 + a; omega) g hg
      rw [show (10 + a, n).1 - 10 = a from h10] at h0
      have hne : ¬ ((g : Int) = (f : Int)) := by omega
      unfold z_fv z_gf z_upd at *
      simp only [hne, and_false, if_false]
      exact h0
  · have hne : ¬ ((t : Int) + 1 = (j : Int) + 1) := by omega
    have h0 := hs t q hq
    unfold z_fv z_gf z_upd at *
    simp only [hne, false_and, if_false]
    exact h0
theorem z_sok_updA {j k : Nat} {n i v : Int} (h : hd[j]? = some (k, n)) (hk : k < 10) (hs : z_sok hc hd σ) (hv : z_in v) : z_sok hc hd (z_upd σ (j + 1) i v) := by
  intro t q hq
  by_cases ht : t = j
  · subst ht
    rw [h] at hq; cases hq
    refine ⟨fun _ g => ?_, fun z => absurd z (by show ¬ 10 ≤ k; omega)⟩
    show z_in (if _ then _ else _)
    split
    · exact hv
    · exact (hs t _ h).1 hk g
  · have hne : ¬ ((t : Int) + 1 = (j : Int) + 1) := by omega
    have h0 := hs t q hq
    unfold z_fv z_gf z_upd at *
    simp only [hne, false_and, if_false]
    exact h0
theorem z_W_get (F : z_Fix p s m args meth c R dC dI dA mm d) {o : Int} {a f x : Nat} {q : List z_V} (hk : z_k hd o = 10 + a) (ha : a < 13) (hf : f < z_nf a)
    (hw : Jvm.Cond.fieldLink (z_my mm).cls x (z_T a f).1 (z_T a f).2.1 (z_T a f).2.2.1 ∈ z_tw) (hdg : decode (z_mb mm) pc = .ok (.getfield x, 3))
    (h : z_W p l e R s m args below meth c dC dI dA hc mm ad0 n0 s0 r (pc + 3) ls (z_fv hc σ o f (z_ft a f) :: q) hd σ) :
    z_W p l e R s m args below meth c dC dI dA hc mm ad0 n0 s0 r pc ls (z_R o :: q) hd σ := by
  obtain ⟨hx, hb, hml, hown, hts, -, -, -, hK, -, -⟩ := F
  obtain ⟨j, n, rfl, hj, -, hjl⟩ := z_k_pos hk (by omega)
  have h10 : 10 + a - 10 = a := by omega
  refine z_W_st h (fun _ hho hso hv => ?_) (fun ad H arr locs cells slots Q J hl hvl hvs k => ?_)
  · have hn : n = z_nf a := by have := ((hho j _ hj).2 (by show 10 ≤ 10 + a; omega)).2; rw [show (10 + a, n).1 - 10 = a from h10] at this; exact this
    have h0 := (hso j _ hj).2 (by show 10 ≤ 10 + a; omega) f (by show f < n.toNat; rw [hn]; omega)
    rw [show (10 + a, n).1 - 10 = a from h10] at h0
    exact z_ok_cons h0 (z_ok_tail hv).2
  · have hn : n = z_nf a := by have := ((J.2.2.2.1 j _ hj).2 (by show 10 ≤ 10 + a; omega)).2; rw [show (10 + a, n).1 - 10 = a from h10] at this; exact this
    have he : (z_wd dA hc ad hd σ)[j]? = some (ad j, .inr (a, (List.range n.toNat).map (fun f => z_cv ad (z_fv hc σ (j + 1) f (z_ft a f))))) := by
      rw [z_wd_get hj]
      unfold z_cell
      rw [if_neg (by show ¬ 10 + a < 10; omega)]
      show some (ad j, Sum.inr (10 + a - 10, _)) = _
      rw [h10]
    show W p l e R s m args below meth c H locs cells slots Q (F0 m pc arr (z_cv ad (z_R ((j : Int) + 1)) :: q.map (z_cv ad)))
    rw [z_cv_R]
    refine va_get (C := z_cl a) (T := z_T a) (N := z_nf a) (ci := a) (Ts := z_tw) hx hb hts (z_uw a ha) hown hK J.1 j he (z_vwCl a ha) f hf (hts _ hw) (fun x h => h) ?_ hdg k
    simp [hn, hf]
theorem z_W_put (F : z_Fix p s m args meth c R dC dI dA mm d) {o v : Int} {w : z_V} {a f x : Nat} {q : List z_V} (hk : z_k hd o = 10 + a) (ha : a < 13) (hf : f < z_nf a)
    (hw : Jvm.Cond.fieldLink (z_my mm).cls x (z_T a f).1 (z_T a f).2.1 (z_T a f).2.2.1 ∈ z_tw) (hfin : (z_T a f).2.2.2 = false ∨ ((z_my mm).name = "<init>" ∧ (z_T a f).1 = (z_my mm).cls)) (hdg : decode (z_mb mm) pc = .ok (.putfield x, 3))
    (hwv : w = z_fv hc (z_upd σ o f v) o f (z_ft a f)) (hnar : ∀ ad, narrow (z_ty a f) (z_cv ad w) = z_cv ad w) (hfit : ∀ ad, fits (z_ty a f) (z_cv ad w) = true)
    (h : z_W p l e R s m args below meth c dC dI dA hc mm ad0 n0 s0 r (pc + 3) ls q hd (z_upd σ o f v)) :
    z_W p l e R s m args below meth c dC dI dA hc mm ad0 n0 s0 r pc ls (w :: z_R o :: q) hd σ := by
  obtain ⟨hx, hb, hml, hown, hts, -, -, hnm, hK, -, -⟩ := F
  obtain ⟨j, n, rfl, hj, -, hjl⟩ := z_k_pos hk (by omega)
  have h10 : 10 + a - 10 = a := by omega
  intro hho hso hvl hvs
  have hn : n = z_nf a := by have := ((hho j _ hj).2 (by show 10 ≤ 10 + a; omega)).2; rw [show (10 + a, n).1 - 10 = a from h10] at this; exact this
  have hfn : f < n.toNat := by rw [hn]; omega
  have hvk : z_vok hd.length w := (z_ok_tail hvs).1
  have hso' : z_sok hc hd (z_upd σ (j + 1) f v) := z_sok_updF hj hso (by rw [← hwv]; exact hvk)
  have hh := h hho hso' hvl (z_ok_tail (z_ok_tail hvs).2).2
  refine ⟨hh.1, fun ad H arr locs cells slots J hl => ?_⟩
  obtain ⟨hP, hD, hS, -, -, had, hce, hsl⟩ := J
  have he : (z_wd dA hc ad hd σ)[j]? = some (ad j, .inr (a, (List.range n.toNat).map (fun f => z_cv ad (z_fv hc σ (j + 1) f (z_ft a f))))) := by
    rw [z_wd_get hj]
    unfold z_cell
    rw [if_neg (by show ¬ 10 + a < 10; omega)]
    show some (ad j, Sum.inr (10 + a - 10, _)) = _
    rw [h10]
  have hset := z_wd_setF (dA := dA) (hc := hc) (ad := ad) (σ := σ) hj hfn hwv
  show W p l e R s m args below meth c H locs cells slots _ (F0 m pc arr (z_cv ad w :: z_cv ad (z_R ((j : Int) + 1)) :: q.map (z_cv ad)))
  rw [z_cv_R]
  have kk : ∀ (H1 : Heap) (locs1 : List Loc), va_P (dC, dI) vwCl ((z_wd dA hc ad hd σ).set j (ad j, .inr (a, ((List.range n.toNat).map (fun f => z_cv ad (z_fv hc σ (j + 1) f (z_ft a f)))).set f (z_cv ad w)))) H1 →
      va_D (z_fr ad0 n0 s.heap.size) ((z_wd dA hc ad hd σ).set j (ad j, .inr (a, ((List.range n.toNat).map (fun f => z_cv ad (z_fv hc σ (j + 1) f (z_ft a f)))).set f (z_cv ad w)))) → va_S (z_fr ad0 n0 s.heap.size) s.heap H1 locs1 →
      W p l e R s m args below meth c H1 locs1 cells slots (MQ below (z_Q dC dI dA hc ad0 n0 r) args s (r.2.1.length - n0) (z_sl r.2.1 - s0) (z_fr ad0 n0 s.heap.size)) (F0 m (pc + 3) arr (q.map (z_cv ad))) := by
    intro H1 locs1 hP1 hD1 hS1
    rw [hset] at hP1 hD1
    exact hh.2 ad H1 arr locs1 cells slots ⟨hP1, hD1, hS1, hho, hso', had, hce, hsl⟩ hl
  have hty := z_tyok a ha f hf
  rcases Bool.eq_false_or_eq_true (z_T a f).2.2.2 with hfi | hfi
  · rcases hfin with hfin | ⟨hi, hde⟩
    · rw [hfin] at hfi; cases hfi
    · exact va_putF (C := z_cl a) (T := z_T a) (N := z_nf a) (ci := a) (Ts := z_tw) hx hb hts (z_uw a ha) (z_ty a) (fun k hk => z_tyok a ha k hk) (z_nm a ha) hown hK hP hD hS j he (z_vwCl a ha) f hf (hts _ hw) (fun x h => h) hfi (hnm.trans hi) hde hty (hnar ad) (hfit ad) (by simpa using hfn) hdg kk
  · exact va_put (C := z_cl a) (T := z_T a) (N := z_nf a) (ci := a) (Ts := z_tw) hx hb hts (z_uw a ha) (z_ty a) (fun k hk => z_tyok a ha k hk) (z_nm a ha) hown hK hP hD hS j he (z_vwCl a ha) f hf (hts _ hw) (fun x h => h) hfi hty (hnar ad) (hfit ad) (by simpa using hfn) hdg kk
/-- an array's place is read -/
theorem z_W_ald (F : z_Fix p s m args meth c R dC dI dA mm d) {o i : Int} {t : Nat} {q : List z_V} {ins : Instr} (hk : z_k hd o = t) (h1 : 1 ≤ t) (h4 : t ≤ 4) (hi0 : 0 ≤ i) (hin : i < z_n hd o)
    (hrow : ∀ {H : Heap} {locs : List Loc} {cells slots : Nat} {Q : State → Prop} {arr : Array Slot} {rest : List Value} {ws : va_W} {q0 : Nat} {a n : Nat} {f : Nat → Int32} {i : Int32}, va_P (dC, dI) vwCl ws H → ws[q0]? = some (a, .inl (dA t, n, .inl f)) → vp_in i n →
      W p l e R s m args below meth c H locs cells slots Q (F0 m (pc + 1) arr (.int (f i.toNatClampNeg) :: rest)) → W p l e R s m args below meth c H locs cells slots Q (F0 m pc arr (.int i :: .ref a :: rest)))
    (h : z_W p l e R s m args below meth c dC dI dA hc mm ad0 n0 s0 r (pc + 1) ls (z_I (σ o i) :: q) hd σ) :
    z_W p l e R s m args below meth c dC dI dA hc mm ad0 n0 s0 r pc ls (z_I i :: z_R o :: q) hd σ := by
  obtain ⟨j, n, rfl, hj, hn, hjl⟩ := z_k_pos hk (by omega)
  rw [hn] at hin
  refine z_W_st h (fun _ hho hso hv => ?_) (fun ad H arr locs cells slots Q J hl hvl hvs k => ?_)
  · exact z_ok_cons ((hso j _ hj).1 (by show t < 10; omega) i) (z_ok_tail (z_ok_tail hv).2).2
  · have he : (z_wd dA hc ad hd σ)[j]? = some (ad j, .inl (dA t, n.toNat, .inl (fun i => Int32.ofInt (σ (j + 1) i)))) := by
      rw [z_wd_get hj]
      unfold z_cell
      rw [if_pos (by show t < 10; omega)]
    have hii : z_in i := (z_ok_tail hvs).1
    show W p l e R s m args below meth c H locs cells slots Q (F0 m pc arr (.int (Int32.ofInt i) :: z_cv ad (z_R ((j : Int) + 1)) :: q.map (z_cv ad)))
    rw [z_cv_R]
    refine hrow J.1 he (z_vpin hii hi0 hin) ?_
    rw [z_clamp hii]
    have hti : ((i.toNat : Nat) : Int) = i := Int.toNat_of_nonneg hi0
    rw [hti]
    exact k
/-- an array's place is written -/
theorem z_W_ast (F : z_Fix p s m args meth c R dC dI dA mm d) {o i v v' : Int} {t : Nat} {q : List z_V} (hk : z_k hd o = t) (h1 : 1 ≤ t) (h4 : t ≤ 4) (hi0 : 0 ≤ i) (hin : i < z_n hd o) {g : Int32} (hg : Int32.ofInt v' = g) (hv' : z_in v')
    (hrow : ∀ {H : Heap} {locs : List Loc} {cells slots : Nat} {Q : State → Prop} {arr : Array Slot} {rest : List Value} {ws : va_W} {q0 : Nat} {a n : Nat} {f : Nat → Int32} {i : Int32}, va_P (dC, dI) vwCl ws H → va_D (z_fr ad0 n0 s.heap.size) ws → va_S (z_fr ad0 n0 s.heap.size) s.heap H locs → ws[q0]? = some (a, .inl (dA t, n, .inl f)) → vp_in i n →
      (∀ (H1 : Heap) (locs1 : List Loc), va_P (dC, dI) vwCl (ws.set q0 (a, .inl (dA t, n, .inl (upd f i.toNatClampNeg g)))) H1 → va_D (z_fr ad0 n0 s.heap.size) (ws.set q0 (a, .inl (dA t, n, .inl (upd f i.toNatClampNeg g)))) → va_S (z_fr ad0 n0 s.heap.size) s.heap H1 locs1 →
        W p l e R s m args below meth c H1 locs1 cells slots Q (F0 m (pc + 1) arr rest)) → W p l e R s m args below meth c H locs cells slots Q (F0 m pc arr (.int (Int32.ofInt v) :: .int i :: .ref a :: rest)))
    (h : z_W p l e R s m args below meth c dC dI dA hc mm ad0 n0 s0 r (pc + 1) ls q hd (z_upd σ o i v')) :
    z_W p l e R s m args below meth c dC dI dA hc mm ad0 n0 s0 r pc ls (z_I v :: z_I i :: z_R o :: q) hd σ := by
  obtain ⟨j, n, rfl, hj, hn, hjl⟩ := z_k_pos hk (by omega)
  rw [hn] at hin
  intro hho hso hvl hvs
  have hso' : z_sok hc hd (z_upd σ (j + 1) i v') := z_sok_updA hj (by omega) hso hv'
  have hh := h hho hso' hvl (z_ok_tail (z_ok_tail (z_ok_tail hvs).2).2).2
  refine ⟨hh.1, fun ad H arr locs cells slots J hl => ?_⟩
  obtain ⟨hP, hD, hS, -, -, had, hce, hsl⟩ := J
  have he : (z_wd dA hc ad hd σ)[j]? = some (ad j, .inl (dA t, n.toNat, .inl (fun i => Int32.ofInt (σ (j + 1) i)))) := by
    rw [z_wd_get hj]
    unfold z_cell
    rw [if_pos (by show t < 10; omega)]
  have hii : z_in i := (z_ok_tail (z_ok_tail hvs).2).1
  have hset := z_wd_setA (dA := dA) (hc := hc) (ad := ad) (σ := σ) hj (by omega) (v := v') hi0 hii
  rw [hg] at hset
  show W p l e R s m args below meth c H locs cells slots _ (F0 m pc arr (.int (Int32.ofInt v) :: .int (Int32.ofInt i) :: z_cv ad (z_R ((j : Int) + 1)) :: q.map (z_cv ad)))
  rw [z_cv_R]
  refine hrow hP hD hS he (z_vpin hii hi0 hin) (fun H1 locs1 hP1 hD1 hS1 => ?_)
  rw [hset] at hP1 hD1
  exact hh.2 ad H1 arr locs1 cells slots ⟨hP1, hD1, hS1, hho, hso', had, hce, hsl⟩ hl
theorem z_ll_ad {n : Nat} {ad ad' : Nat → Nat} (h : ∀ j, j < n → ad' j = ad j) {ls : List z_V} (hv : ∀ v ∈ ls, z_vok n v) : ∀ q, q ∈ z_ll ad' ls → q ∈ z_ll ad ls := by
  intro q hq
  obtain ⟨v, h1, h2, h3⟩ := z_ll_mem.mp hq
  exact z_ll_mem.mpr ⟨v, h1, h2, by rw [h3, z_cv_ad h (hv v (List.mem_of_getElem? h1))]⟩
theorem z_loc_ad {n nL : Nat} {ad ad' : Nat → Nat} {arr : Array Slot} (h : ∀ j, j < n → ad' j = ad j) {ls : List z_V} (hv : ∀ v ∈ ls, z_vok n v) (hl : z_loc ad ls arr nL) : z_loc ad' ls arr nL := ⟨z_lv_weak hl.1 (z_ll_ad h hv), hl.2⟩
theorem z_map_ad {n : Nat} {ad ad' : Nat → Nat} (h : ∀ j, j < n → ad' j = ad j) {ls : List z_V} (hv : ∀ v ∈ ls, z_vok n v) : ls.map (z_cv ad') = ls.map (z_cv ad) := List.map_congr_left fun v hm => z_cv_ad h (hv v hm)
theorem z_cell_ad {ad ad' : Nat → Nat} (h : ∀ j, j < hd.length → ad' j = ad j) (hs : z_sok hc hd σ) {j : Nat} {q : Nat × Int} (hj : hd[j]? = some q) : z_cell dA hc ad' σ j q = z_cell dA hc ad σ j q := by
  unfold z_cell
  split
  · rfl
  · next hq =>
    congr 2
    refine List.map_congr_left fun f hf => ?_
    exact z_cv_ad h ((hs j q hj).2 (by omega) f (List.mem_range.mp hf))
theorem z_wd_push {ad : Nat → Nat} {x : Nat} {q : Nat × Int} (hs : z_sok hc hd σ) :
    z_wd dA hc (fun j => if j = hd.length then x else ad j) (hd ++ [q]) (z_new σ (hd.length + 1)) = z_wd dA hc ad hd σ ++ [(x, z_cell dA hc (fun j => if j = hd.length then x else ad j) (fun _ _ => 0) hd.length q)] := by
  unfold z_wd
  rw [List.mapIdx_append]
  congr 1
  · refine List.ext_getElem? fun t => ?_
    rw [List.getElem?_mapIdx, List.getElem?_mapIdx]
    cases hq : hd[t]? with
    | none => rfl
    | some q =>
      have hlt : t < hd.length := (List.getElem?_eq_some_iff.mp hq).1
      have hne0 : ¬ (t = hd.length) := by omega
      show some ((if t = hd.length then x else ad t), z_cell dA hc (fun j => if j = hd.length then x else ad j) (z_new σ (hd.length + 1)) t q) = some (ad t, z_cell dA hc ad σ t q)
      rw [if_neg hne0]
      congr 2
      rw [← z_cell_ad (dA := dA) (ad := ad) (ad' := fun j => if j = hd.length then x else ad j) (fun j hj => if_neg (by omega)) hs hq]
      have hne : ¬ ((t : Int) + 1 = (hd.length : Int) + 1) := by omega
      unfold z_cell z_fv z_gf z_new
      simp only [hne, if_false]
  · simp only [List.mapIdx_cons, List.mapIdx_nil, Nat.zero_add, if_true]
    congr 2
    unfold z_cell z_fv z_gf z_new
    simp
end ZX
section ZY
variable {p : Program} {l : Launch} {e : Env} {R : Room} {s : State} {m : MethodId} {args : Array Value} {below : List Frame} {meth : Method} {c : Code} {dC : Nat → ClassId} {dI : Nat → Nat → Nat} {dA : Nat → ClassId} {hc : z_C} {mm d : Nat} {ad0 : Nat → Nat} {n0 s0 : Nat} {r : z_Res} {pc pc' : Nat} {ls st st' : List z_V} {hd : z_H} {σ : z_S}
theorem z_sl_app (hd x : z_H) : z_sl (hd ++ x) = z_sl hd + z_sl x := by
  unfold z_sl
  rw [List.map_append, List.sum_append]
theorem z_hok_push {q : Nat × Int} (h : z_hok hd) (hq : (q.1 < 10 → 1 ≤ q.1 ∧ q.1 ≤ 4 ∧ 0 ≤ q.2 ∧ q.2 ≤ 65536) ∧ (10 ≤ q.1 → q.1 - 10 < 13 ∧ q.2 = z_nf (q.1 - 10))) : z_hok (hd ++ [q]) := by
  intro j q' hj
  by_cases hl : j < hd.length
  · rw [List.getElem?_append_left hl] at hj
    exact h j q' hj
  · rw [List.getElem?_append_right (by omega)] at hj
    have hz : j - hd.length < 1 := (List.getElem?_eq_some_iff.mp hj).1
    rw [show j - hd.length = 0 by omega] at hj
    cases hj
    exact hq
theorem z_fv0 (hn : ∀ o f, hc o f = none) {n : Nat} {o : Int} (f ty : Nat) : z_vok n (z_fv hc (z_new σ o) o f ty) := by
  unfold z_fv z_gf z_new
  rw [hn]
  split <;> simp [z_vok, z_in, z_inl]
theorem z_sok_push {q : Nat × Int} (hs : z_sok hc hd σ) (hq : q.1 < 10 ∨ ∀ o f, hc o f = none) : z_sok hc (hd ++ [q]) (z_new σ (hd.length + 1)) := by
  intro j q' hj
  by_cases hl : j < hd.length
  · rw [List.getElem?_append_left hl] at hj
    have hne : ¬ ((j : Int) + 1 = (hd.length : Int) + 1) := by omega
    have h0 := hs j q' hj
    refine ⟨fun h1 i => ?_, fun h1 f hf => ?_⟩
    · show z_in (if _ then _ else _)
      rw [if_neg hne]
      exact h0.1 h1 i
    · have h2 := h0.2 h1 f hf
      have h3 : z_fv hc (z_new σ (hd.length + 1)) (j + 1) f (z_ft (q'.1 - 10) f) = z_fv hc σ (j + 1) f (z_ft (q'.1 - 10) f) := by
        unfold z_fv z_gf z_new
        simp only [hne, if_false]
      rw [h3]
      exact z_vok_le (by rw [List.length_append]; omega) h2
  · rw [List.getElem?_append_right (by omega)] at hj
    have hz : j - hd.length < 1 := (List.getElem?_eq_some_iff.mp hj).1
    have hjl : j = hd.length := by omega
    rw [show j - hd.length = 0 by omega] at hj
    cases hj
    subst hjl
    refine ⟨fun h1 i => ?_, fun h1 f hf => ?_⟩
    · show z_in (if _ then _ else _)
      rw [if_pos rfl]
      exact z_in0
    · rcases hq with hq | hq
      · exact absurd hq (by show ¬ q.1 < 10; omega)
      · exact z_fv0 hq f _
theorem z_W_newa (F : z_Fix p s m args meth c R dC dI dA mm d) (hRc : R.cells = r.2.1.length - n0) (hRs : R.slots = z_sl r.2.1 - s0) {n : Int} {t : ArrayType} {q : List z_V}
    (hn0 : 0 ≤ n) (hn1 : n ≤ 65536) (ht : 0 < z_akind t) (hw : Jvm.Cond.arrayClass (newarray.typeOf t) ∈ z_tw) (hdg : decode (z_mb mm) pc = .ok (.newarray t, 2))
    (h : z_W p l e R s m args below meth c dC dI dA hc mm ad0 n0 s0 r (pc + 2) ls (z_R (hd.length + 1) :: q) (hd ++ [(z_akind t, n)]) (z_new σ (hd.length + 1))) :
    z_W p l e R s m args below meth c dC dI dA hc mm ad0 n0 s0 r pc ls (z_I n :: q) hd σ := by
  obtain ⟨hx, hb, hml, hown, hts, -, -, hnm, hK, -, -⟩ := F
  intro hho hso hvl hvs
  have hk4 : z_akind t < 10 ∧ z_akind t ≤ 4 := by cases t <;> decide
  have hni : z_in n := ⟨by omega, by omega⟩
  have hho' : z_hok (hd ++ [(z_akind t, n)]) := z_hok_push hho ⟨fun _ => ⟨ht, hk4.2, hn0, hn1⟩, fun z => absurd z (by show ¬ 10 ≤ z_akind t; omega)⟩
  have hso' : z_sok hc (hd ++ [(z_akind t, n)]) (z_new σ (hd.length + 1)) := z_sok_push hso (Or.inl hk4.1)
  have hh := h hho' hso' (fun v hv => z_vok_le (by rw [List.length_append]; omega) (hvl v hv)) (z_ok_cons ⟨by omega, by rw [List.length_append]; simp⟩ (fun v hv => z_vok_le (by rw [List.length_append]; omega) ((z_ok_tail hvs).2 v hv)))
  obtain ⟨⟨x, hpre⟩, hfin⟩ := hh.1
  refine ⟨⟨⟨(z_akind t, n) :: x, by rw [hpre]; simp⟩, hfin⟩, fun ad H arr locs cells slots J hl => ?_⟩
  obtain ⟨hP, hD, hS, -, -, had, hce, hsl⟩ := J
  have hlen : r.2.1.length = hd.length + 1 + x.length := by rw [hpre]; simp; omega
  have hslot : z_sl r.2.1 = z_sl hd + n.toNat + z_sl x := by rw [hpre, z_sl_app, z_sl_app]; unfold z_sl; simp
  have hsz : ∀ q, s.heap.size ≤ q → z_fr ad0 n0 s.heap.size q := fun q h => Or.inr h
  refine va_newa (atype := t) (ty := newarray.typeOf t) (a0 := (n.toNat, .inl (fun _ => 0))) (N' := n.toNat) hx hb (hts _ hw) rfl hK hP hD hS hsz (fun cA => ?_) (fun z => ?_) (z_clamp hni) ?_ (by rw [hRc]; omega) (by rw [hRs]; omega) hdg (fun q0 cA H1 hK1 hP1 hD1 hS1 => ?_)
  · cases t <;> first | rfl | (exact absurd ht (by decide))
  · rw [show (0 : Int32) = Int32.ofInt 0 from rfl, z_lt32 hni z_in0] at z; omega
  · have : componentBytes (newarray.typeOf t) ≤ 8 := by cases t <;> decide
    calc n.toNat * componentBytes (newarray.typeOf t) ≤ 65536 * 8 := Nat.mul_le_mul (by omega) this
      _ ≤ _ := by decide
  · have hcA : cA = dA (z_akind t) := by
      have h1 := (hK1.2 4 (cA, newarray.typeOf t) rfl).2
      have h2 : va_RA s (dA (z_akind t)) (newarray.typeOf t) := by
        cases t with
        | int => exact (hK.2 0 _ rfl).2
        | boolean => exact (hK.2 1 _ rfl).2
        | byte => exact (hK.2 2 _ rfl).2
        | char => exact (hK.2 3 _ rfl).2
        | float => exact absurd ht (by decide)
        | double => exact absurd ht (by decide)
        | short => exact absurd ht (by decide)
        | long => exact absurd ht (by decide)
      cases t <;> first | exact Option.some.inj (h1.symm.trans h2) | exact absurd ht (by decide)
    subst hcA
    have hpush := z_wd_push (dA := dA) (ad := ad) (x := q0) (q := (z_akind t, n)) hso
    have hcell : z_cell dA hc (fun j => if j = hd.length then q0 else ad j) (fun _ _ => 0) hd.length (z_akind t, n) = .inl (dA (z_akind t), n.toNat, .inl (fun _ => 0)) := by
      unfold z_cell
      rw [if_pos hk4.1]
      rfl
    rw [hcell] at hpush
    rw [← hpush] at hP1 hD1
    have hadn : ∀ j, j < hd.length → (fun j => if j = hd.length then q0 else ad j) j = ad j := fun j hj => if_neg (by omega)
    have k := hh.2 (fun j => if j = hd.length then q0 else ad j) H1 arr locs (cells + 1) (slots + n.toNat)
      ⟨hP1, hD1, hS1, hho', hso', fun j hj => by rw [hadn j (by omega)]; exact had j hj, by rw [List.length_append]; show cells + 1 + n0 = hd.length + 1; omega, by rw [z_sl_app]; unfold z_sl at *; simp; omega⟩
      (z_loc_ad hadn hvl hl)
    rw [List.map_cons, z_map_ad hadn (z_ok_tail hvs).2] at k
    have hr : z_cv (fun j => if j = hd.length then q0 else ad j) (z_R (hd.length + 1)) = .ref q0 := by
      rw [z_cv_R]; show Value.ref (if hd.length = hd.length then q0 else ad hd.length) = _; rw [if_pos rfl]
    rw [hr] at k
    exact k
theorem z_W_new (F : z_Fix p s m args meth c R dC dI dA mm d) (hRc : R.cells = r.2.1.length - n0) (hRs : R.slots = z_sl r.2.1 - s0) (hn : ∀ o f, hc o f = none) {a x : Nat} (ha : a < 13)
    (hw : Jvm.Cond.classLink (z_my mm).cls x (z_cl a) ∈ z_tw) (hw1 : Jvm.Cond.instantiable (z_cl a) (z_nf a) ∈ z_tw) (hw2 : Jvm.Cond.initialized (z_cl a) ∈ z_tw) (hdg : decode (z_mb mm) pc = .ok (.new x, 3))
    (h : z_W p l e R s m args below meth c dC dI dA hc mm ad0 n0 s0 r (pc + 3) ls (z_R (hd.length + 1) :: st) (hd ++ [(10 + a, (z_nf a : Int))]) (z_new σ (hd.length + 1))) :
    z_W p l e R s m args below meth c dC dI dA hc mm ad0 n0 s0 r pc ls st hd σ := by
  obtain ⟨hx, hb, hml, hown, hts, -, -, hnm, hK, -, -⟩ := F
  intro hho hso hvl hvs
  have h10 : 10 + a - 10 = a := by omega
  have hho' : z_hok (hd ++ [(10 + a, (z_nf a : Int))]) := z_hok_push hho ⟨fun z => absurd z (by show ¬ 10 + a < 10; omega), fun _ => by rw [show (10 + a, (z_nf a : Int)).1 - 10 = a from h10]; exact ⟨ha, rfl⟩⟩
  have hso' : z_sok hc (hd ++ [(10 + a, (z_nf a : Int))]) (z_new σ (hd.length + 1)) := z_sok_push hso (Or.inr hn)
  have hh := h hho' hso' (fun v hv => z_vok_le (by rw [List.length_append]; omega) (hvl v hv)) (z_ok_cons ⟨by omega, by rw [List.length_append]; simp⟩ (fun v hv => z_vok_le (by rw [List.length_append]; omega) (hvs v hv)))
  obtain ⟨⟨y, hpre⟩, hfin⟩ := hh.1
  refine ⟨⟨⟨(10 + a, (z_nf a : Int)) :: y, by rw [hpre]; simp⟩, hfin⟩, fun ad H arr locs cells slots J hl => ?_⟩
  obtain ⟨hP, hD, hS, -, -, had, hce, hsl⟩ := J
  have hlen : r.2.1.length = hd.length + 1 + y.length := by rw [hpre]; simp; omega
  have hslot : z_sl r.2.1 = z_sl hd + z_nf a + z_sl y := by rw [hpre, z_sl_app, z_sl_app]; unfold z_sl; simp
  have hsz : ∀ q, s.heap.size ≤ q → z_fr ad0 n0 s.heap.size q := fun q h => Or.inr h
  refine va_new (C := z_cl a) (T := z_T a) (N := z_nf a) (ci := a) (Ts := z_tw) (fs := (List.range (z_nf a)).map (fun f => z_cv ad (z_fv hc (fun _ _ => 0) (hd.length + 1) f (z_ft a f)))) hx hb hts (z_uw a ha) (z_ty a) (fun k hk => z_tyok a ha k hk) hown (hts _ hw) (hts _ hw1) (hts _ hw2) hK hP hD hS hsz (z_vwCl a ha) (fun j hj => ?_) (by rw [hRc]; omega) (by rw [hRs]; omega) hdg (fun q0 H1 hP1 hD1 hS1 => ?_)
  · rw [z_dfc a ha j hj]
    unfold vp_V
    rw [List.getD_eq_getElem?_getD, List.getElem?_map, List.getElem?_range hj]
    show _ = z_cv ad (z_fv hc (fun _ _ => 0) (hd.length + 1) j (z_ft a j))
    generalize z_ft a j = w
    unfold z_fv z_gf
    rw [hn]
    match w with
    | 0 => rfl
    | 1 => rfl
    | 2 => rfl
    | w + 3 => rfl
  · have hpush := z_wd_push (dA := dA) (ad := ad) (x := q0) (q := (10 + a, (z_nf a : Int))) hso
    have hcell : z_cell dA hc (fun j => if j = hd.length then q0 else ad j) (fun _ _ => 0) hd.length (10 + a, (z_nf a : Int)) = .inr (a, (List.range (z_nf a)).map (fun f => z_cv ad (z_fv hc (fun _ _ => 0) (hd.length + 1) f (z_ft a f)))) := by
      unfold z_cell
      rw [if_neg (by show ¬ 10 + a < 10; omega)]
      show Sum.inr (10 + a - 10, _) = _
      rw [h10]
      congr 2
      refine List.map_congr_left fun f hf => ?_
      unfold z_fv z_gf
      rw [hn]
      split <;> rfl
    rw [hcell] at hpush
    rw [← hpush] at hP1 hD1
    have hadn : ∀ j, j < hd.length → (fun j => if j = hd.length then q0 else ad j) j = ad j := fun j hj => if_neg (by omega)
    have k := hh.2 (fun j => if j = hd.length then q0 else ad j) H1 arr locs (cells + 1) (slots + z_nf a)
      ⟨hP1, hD1, hS1, hho', hso', fun j hj => by rw [hadn j (by omega)]; exact had j hj, by rw [List.length_append]; show cells + 1 + n0 = hd.length + 1; omega, by rw [z_sl_app]; unfold z_sl at *; simp; omega⟩
      (z_loc_ad hadn hvl hl)
    rw [List.map_cons, z_map_ad hadn hvs] at k
    have hr : z_cv (fun j => if j = hd.length then q0 else ad j) (z_R (hd.length + 1)) = .ref q0 := by
      rw [z_cv_R]; show Value.ref (if hd.length = hd.length then q0 else ad hd.length) = _; rw [if_pos rfl]
    rw [hr] at k
    exact k
end ZY
section ZZ
variable {p : Program} {l : Launch} {e : Env} {R : Room} {s : State} {m : MethodId} {args : Array Value} {below : List Frame} {meth : Method} {c : Code} {dC : Nat → ClassId} {dI : Nat → Nat → Nat} {dA : Nat → ClassId} {hc : z_C} {mm d : Nat} {ad0 : Nat → Nat} {n0 s0 : Nat} {r : z_Res} {pc pc' : Nat} {ls st st' : List z_V} {hd : z_H} {σ : z_S}
def z_rl (v : z_V) : List z_V := match v with
  | .inr (.inr (.inr _)) => []
  | v => [v]
theorem z_rl_cv (ad : Nat → Nat) (v : z_V) : (z_rv ad v).toList = (z_rl v).map (z_cv ad) := by
  unfold z_rv z_rl
  split <;> simp_all
theorem z_rl_ok {n : Nat} {v : z_V} {qs : List z_V} (h : z_vok n v) (hq : ∀ v ∈ qs, z_vok n v) : ∀ w ∈ z_rl v ++ qs, z_vok n w := fun w hw => by
  rcases List.mem_append.mp hw with h1 | h1
  · have : w = v := by
      revert h1; unfold z_rl; split <;> simp
    rw [this]; exact h
  · exact hq w h1
theorem z_fr_in {ad : Nat → Nat} {H : Heap} {locs : List Loc} {cells slots : Nat} (J : z_J s dC dI dA hc ad0 n0 s0 hd σ ad H locs cells slots) : ∀ q, z_fr ad hd.length H.size q → z_fr ad0 n0 s.heap.size q := by
  obtain ⟨hP, hD, hS, -⟩ := J
  intro q hq
  rcases hq with ⟨j, hj, rfl⟩ | hq
  · have hq0 : hd[j]? = some hd[j] := List.getElem?_eq_getElem hj
    exact hD.2 j _ (z_wd_get hq0)
  · exact Or.inr (Nat.le_trans hS.1 hq)
/-- behind a call -/
theorem z_W_ran {H : Heap} {arr : Array Slot} {locs : List Loc} {cells slots mc' ms' : Nat} {ad : Nat → Nat} {st0 : List Value} {qs : List z_V} {a : Array Value} {r' : z_Res}
    (hr : va_Run p l e R s m args below meth c H locs cells slots mc' ms' (F0 m pc arr st0) (qs.map (z_cv ad)) (z_Q dC dI dA hc ad hd.length r' a) (z_fr ad hd.length H.size))
    (hmc : mc' = r'.2.1.length - hd.length) (hms : ms' = z_sl r'.2.1 - z_sl hd) (hx : ∃ x, r'.2.1 = hd ++ x)
    (J : z_J s dC dI dA hc ad0 n0 s0 hd σ ad H locs cells slots) (hl : z_loc ad ls arr (z_ml mm)) (hvl : ∀ v ∈ ls, z_vok hd.length v) (hvq : ∀ v ∈ qs, z_vok hd.length v)
    (h : z_W p l e R s m args below meth c dC dI dA hc mm ad0 n0 s0 r (pc + 3) ls (z_rl r'.1 ++ qs) r'.2.1 r'.2.2) :
    W p l e R s m args below meth c H locs cells slots (MQ below (z_Q dC dI dA hc ad0 n0 r) args s (r.2.1.length - n0) (z_sl r.2.1 - s0) (z_fr ad0 n0 s.heap.size)) (F0 m pc arr st0) := by
  intro T hT X
  have hfr := z_fr_in J
  obtain ⟨hP, hD, hS, hho, hso, had, hce, hsl⟩ := J
  obtain ⟨v, st₀, t, T', L, h0, X', hL, e1, e2, ⟨⟨ad', had', hv, hvok, hhok, hsok, hP', hD'⟩, hz, hk⟩, stp⟩ := hr T hT X
  cases hv
  rw [h0] at hz hk hD'
  obtain ⟨x, hx⟩ := hx
  have hle : hd.length ≤ r'.2.1.length := by rw [hx, List.length_append]; omega
  have hsle : z_sl hd ≤ z_sl r'.2.1 := by rw [hx, z_sl_app]; omega
  have hS' : va_S (z_fr ad0 n0 s.heap.size) s.heap T'.heap (locs ++ L) :=
    ⟨Nat.le_trans hS.1 (by rw [e1]; exact hz), fun q h1 h2 => by rw [e1, hk q (Nat.lt_of_lt_of_le h1 hS.1) (fun z => h2 (hfr q z))]; exact hS.2.1 q h1 h2, fun q hq => by
      rcases List.mem_append.mp hq with h | h
      · exact hS.2.2 q h
      · exact hfr _ (hL q h)⟩
  have hn0 : n0 ≤ hd.length := by omega
  have hvo : ∀ v ∈ z_rl r'.1 ++ qs, z_vok r'.2.1.length v := z_rl_ok hvok (fun v hv => z_vok_le hle (hvq v hv))
  obtain ⟨t2, a1, b1⟩ := (h hhok hsok (fun v hv => z_vok_le hle (hvl v hv)) hvo).2 ad' T'.heap arr (locs ++ L) (cells + mc') (slots + ms')
    ⟨by rw [e1]; exact hP', hD'.weaken (fun _ q _ z => hfr _ z), hS', hhok, hsok, fun j hj => by rw [had' j (by omega)]; exact had j hj, by omega, by omega⟩
    (z_loc_ad had' hvl hl) T' rfl X'
  have hst : (z_rl r'.1 ++ qs).map (z_cv ad') = (z_rv ad' r'.1).toList ++ qs.map (z_cv ad) := by
    rw [List.map_append, z_map_ad had' hvq, z_rl_cv]
  rw [hst] at a1
  exact ⟨t2, stp t2 a1, b1⟩
def z_Pc (dC : Nat → ClassId) (dI : Nat → Nat → Nat) (dA : Nat → ClassId) (hc : z_C) (as : List z_V) (hd : z_H) (σ : z_S) (ad : Nat → Nat) (sz : Nat) : Array Value → State → Prop :=
  va_Pc (as.map (z_cv ad)) (fun U => U.heap.size = sz ∧ va_P (dC, dI) vwCl (z_wd dA hc ad hd σ) U.heap ∧ va_K (dC, dI) vwCl (z_tys dA) U ∧ va_D (fun _ => True) (z_wd dA hc ad hd σ))
def z_ws (mm : Nat) : List Jvm.Cond := .code (z_my mm) (z_mb mm) (z_ml mm) (z_mr mm) :: z_tw
def z_Met (l : Launch) (dC : Nat → ClassId) (dI : Nat → Nat → Nat) (dA : Nat → ClassId) (hc : z_C) (d mm : Nat) (as : List z_V) (hd : z_H) (σ : z_S) (r : z_Res) (ad : Nat → Nat) (sz : Nat) : Prop :=
  Met l (z_my mm) (z_ws mm) ({ frames := d, cells := r.2.1.length - hd.length, slots := z_sl r.2.1 - z_sl hd, locals := 60 * d } : Room) (z_Pc dC dI dA hc as hd σ ad sz) (z_Q dC dI dA hc ad hd.length r) (r.2.1.length - hd.length) (z_sl r.2.1 - z_sl hd) (z_fr ad hd.length sz)
theorem z_Pc_blind {as : List z_V} {ad : Nat → Nat} {sz : Nat} : FrameBlind (z_Pc dC dI dA hc as hd σ ad sz) := by
  intro a U g mk q
  obtain ⟨h1, h2, h3, h4, h5⟩ := q
  exact ⟨h1, h2, h3, va_K.moved (u := U) (U := U.calling g mk a) (Vm.Alike.refl U.vm) h4, h5⟩
/-- what is known of a method of the tables -/
def z_okm (mm : Nat) : Prop := (z_code mm).all (z_chk mm) = true ∧ Jvm.Cond.code (z_my mm) (z_mb mm) (z_ml mm) (z_mr mm) ∈ z_tw ∧ z_mchk (z_mp mm) = true ∧ (z_mp mm).1 = mm
/-- the calls, one level less deep -/
def z_IH (l : Launch) (dC : Nat → ClassId) (dI : Nat → Nat → Nat) (dA : Nat → ClassId) (hc : z_C) (d : Nat) : Prop :=
  ∀ (a : Nat) (as : List z_V) (hd : z_H) (σ : z_S) (r : z_Res), z_ev hc d a as hd σ = some r → (z_mp a).1 = a → z_hok hd → z_sok hc hd σ → (∀ v ∈ as, z_vok hd.length v) → z_fin hc hd r ∧ ∀ (ad : Nat → Nat) (sz : Nat), z_Met l dC dI dA hc d a as hd σ r ad sz
theorem z_tw_good : ∀ {w : Jvm.Cond}, w ∈ z_tw → (w.onTables && w.keeps) = true ∨ ∃ ty, w = .arrayClass ty := fun h => good_of_word (List.mem_filter.mp h).2
theorem z_goodIn (ws : List Jvm.Cond) (h : ∀ w ∈ ws, w ∈ z_tw) : GoodIn z_tw ws := fun w hw => ⟨h w hw, z_tw_good (h w hw)⟩
theorem z_ws_good {a : Nat} (ok : z_okm a) : GoodIn z_tw (z_ws a) := z_goodIn _ (fun w hw => by
  rcases List.mem_cons.mp hw with rfl | hw
  · exact ok.2.1
  · exact hw)
/-- the answer of a call goes onto the stack -/
theorem z_res_some {β : Type} {x : β} {d : Nat} {q : Option z_Res} {rest : List z_V} {k : List z_V → z_H → z_S → Option β} (h : z_res d q rest k = some x) : ∃ r', q = some r' ∧ k (z_rl r'.1 ++ rest) r'.2.1 r'.2.2 = some x := by
  unfold z_res at h
  split at h
  · obtain ⟨hd, σ, h1, h2⟩ := z_cV_some h
    exact ⟨_, h1, h2⟩
  · obtain ⟨v, hd, σ, h1, h2⟩ := z_cI_some h
    exact ⟨_, h1, h2⟩
theorem z_recv_some {β : Type} {x : β} {hd : z_H} {as : List z_V} {cls : Nat} {k : Option β} (h : z_recv hd as cls k = some x) : ∃ o t, as = z_R o :: t ∧ z_k hd o = 10 + cls ∧ k = some x := by
  unfold z_recv at h
  split at h
  · obtain ⟨h1, h2⟩ := z_ite_some h
    exact ⟨_, _, rfl, h1, h2⟩
  · cases h
theorem z_mchk_of {a : Nat} (ok : z_okm a) : (parseMethodDescriptor (z_my a).desc).map (fun d => d.parameters.length) = some (z_np a) ∧ plainName (z_my a).cls = true ∧ ((z_my a).cls ≠ "java/lang/invoke/MethodHandle" ∧ (z_my a).cls ≠ "java/lang/invoke/VarHandle") ∧ Jvm.Cond.initialized (z_my a).cls ∈ z_tw ∧ z_ml a ≤ 40 ∧ z_np a + (if z_kd a = 1 then 0 else 1) ≤ z_ml a ∧
    (z_kd a = 1 → Jvm.Cond.static (z_my a) ∈ z_tw) ∧ (z_kd a ≠ 1 → Jvm.Cond.instanceMethod (z_my a) ∈ z_tw) ∧ (z_kd a = 0 → Jvm.Cond.selects (z_my a).cls (z_my a) (z_my a) ∈ z_tw) ∧ (z_kd a = 2 → (z_my a).name = "<init>") := by
  have h := ok.2.2.1
  have h1 := ok.2.2.2
  unfold z_kd z_np
  generalize z_mp a = q at h h1 ⊢
  obtain ⟨m, kd, np, w, p1, p2, p3⟩ := q
  dsimp only at h1
  subst h1
  simp only [z_mchk, z_plain, Bool.and_eq_true, decide_eq_true_eq] at h
  obtain ⟨⟨⟨⟨⟨⟨⟨⟨⟨h1, h2⟩, h3⟩, ⟨h4, h5⟩, h6⟩, h7⟩, h8⟩, h9⟩, h10⟩, h11⟩, h12⟩ := h
  refine ⟨by rw [h3], h4, ⟨h5, h6⟩, z_has_mem h7, h8, h9, fun z => ?_, fun z => ?_, fun z => ?_, fun z => ?_⟩
  · rw [if_pos z] at h10; exact z_has_mem h10
  · rw [if_neg z] at h10; exact z_has_mem h10
  · rw [if_pos z] at h11; exact z_has_mem h11
  · rw [if_pos z] at h12; exact of_decide_eq_true h12
theorem z_callB (F : z_Fix p s m args meth c R dC dI dA mm d) {a x : Nat} {r' : z_Res} (ok : z_okm a) (hd1 : d = d) (hlink : Jvm.Cond.methodLink (z_my mm).cls x (z_my a) ∈ z_tw) :
    CallB R s args (z_my mm).cls x (z_my a) (z_mb a) (z_ml a) (z_mr a) (z_ws a) ({ frames := d, cells := r'.2.1.length - hd.length, slots := z_sl r'.2.1 - z_sl hd, locals := 60 * d } : Room) (r'.2.1.length - hd.length) (z_sl r'.2.1 - z_sl hd) (z_np a) := by
  obtain ⟨hx, hb, hml, hown, hts, -, -, hnm, hK, hRf, hRl⟩ := F
  obtain ⟨m1, m2, m3, m4, m5, m6, m7, m8, m9, m10⟩ := z_mchk_of ok
  exact callB_of (z_np a) hts (z_ws_good ok) rfl rfl rfl (hts _ m4) (hts _ hlink) ⟨m3.1, m3.2, m1⟩ ⟨by rw [hRf]; exact Nat.le_refl _, by rw [hRl]; show 8 + (z_ml a + 11) + 60 * d ≤ 60 * (d + 1); omega⟩
end ZZ
theorem z_mem_of {p : Nat} {w : Jvm.Cond} (h : lw_tbl[p]? = some w) (hg : goodWord w = true) : w ∈ z_tw := List.mem_filter.mpr ⟨List.mem_of_getElem? h, hg⟩
theorem z_oi2m : Jvm.Cond.code Lib.objectInit ⟨#[0xb1]⟩ 1 none ∈ z_tw := z_mem_of z_oi2 rfl
theorem z_free_some {β : Type} {r : β} {x : Option Int} {k : Option β} (h : z_free x k = some r) : x = none ∧ k = some r := by
  unfold z_free at h; split at h
  · exact ⟨rfl, h⟩
  · cases h
def z_cpok (hd : z_H) (s sp d dp n : Int) : Prop := z_k hd s = 1 ∧ z_k hd d = 1 ∧ 0 ≤ sp ∧ 0 ≤ dp ∧ 0 ≤ n ∧ sp + n ≤ z_n hd s ∧ dp + n ≤ z_n hd d
theorem z_copy_some {β : Type} {r : β} {hd : z_H} {σ : z_S} {st : List z_V} {k : z_S → List z_V → Option β} (h : z_copy hd σ st k = some r) :
    ∃ n dp d sp s q, st = z_I n :: z_I dp :: z_R d :: z_I sp :: z_R s :: q ∧ z_cats q ≤ 8 ∧ z_cpok hd s sp d dp n ∧ k (z_cpy σ s sp d dp n) q = some r := by
  unfold z_copy at h; split at h
  · obtain ⟨h1, h⟩ := z_ite_some h
    obtain ⟨h2, h⟩ := z_ite_some h
    exact ⟨_, _, _, _, _, _, rfl, h1, h2, h⟩
  · cases h
theorem z_sw_some {β : Type} {v0 : β} {x : Int} {l : List Nat} {dd : Nat} {k : Nat → Option β} : ∀ {v : Int}, z_sw x v l dd k = some v0 → (∃ (i : Nat) (t : Nat), l[i]? = some t ∧ x = v + i ∧ k t = some v0) ∨ ((x < v ∨ v + (l.length : Int) ≤ x) ∧ k dd = some v0) := by
  induction l with
  | nil => intro v h; right; exact ⟨by simp only [List.length_nil]; omega, h⟩
  | cons t l ih =>
    intro v h
    unfold z_sw at h
    split at h
    · next hx => left; exact ⟨0, t, rfl, by simp [hx], h⟩
    · next hx =>
      rcases ih h with ⟨i, t', h1, h2, h3⟩ | ⟨h1, h2⟩
      · left; exact ⟨i + 1, t', h1, by rw [h2]; push_cast; omega, h3⟩
      · right; refine ⟨?_, h2⟩; simp only [List.length_cons]; push_cast; omega
theorem z_find_some {l : List z_E} {pc : Nat} {e : z_E} (h : z_find l pc = some e) : e ∈ l ∧ e.1 = pc := by
  induction l with
  | nil => cases h
  | cons a l ih =>
    unfold z_find at h
    split at h
    · next hb => cases h; exact ⟨List.mem_cons_self, Nat.eq_of_beq_eq_true hb⟩
    · obtain ⟨h1, h2⟩ := ih h; exact ⟨List.mem_cons_of_mem _ h1, h2⟩
theorem z_bool01 {v : Int} (h : v = 0 ∨ v = 1) : narrow .boolean (.int (Int32.ofInt v)) = .int (Int32.ofInt v) := by
  rcases h with rfl | rfl <;> rfl
theorem z_u16 (x : UInt32) : x.toUInt16.toUInt32 = x % 65536 := by
  rw [← UInt32.toNat_inj]
  simp
section ZCP
variable {p : Program} {l : Launch} {e : Env} {R : Room} {s : State} {m : MethodId} {args : Array Value} {below : List Frame} {meth : Method} {c : Code} {dC : Nat → ClassId} {dI : Nat → Nat → Nat} {dA : Nat → ClassId} {hc : z_C} {mm d : Nat} {ad0 : Nat → Nat} {n0 s0 : Nat} {r : z_Res} {pc pc' : Nat} {ls st st' : List z_V} {hd : z_H} {σ : z_S}
theorem z_sok_cpy {j j' : Nat} {n n' sp dp k : Int} (h : hd[j]? = some (1, n)) (h' : hd[j']? = some (1, n')) (hs : z_sok hc hd σ) : z_sok hc hd (z_cpy σ (j + 1) sp (j' + 1) dp k) := by
  intro t q hq
  by_cases ht : t = j'
  · subst ht
    rw [h'] at hq; cases hq
    refine ⟨fun _ g => ?_, fun z => absurd z (by show ¬ 10 ≤ 1; omega)⟩
    show z_in (if _ then _ else _)
    split
    · exact (hs j _ h).1 (by show 1 < 10; omega) _
    · exact (hs t _ h').1 (by show 1 < 10; omega) g
  · have hne : ¬ ((t : Int) + 1 = (j' : Int) + 1) := by omega
    have h0 := hs t q hq
    unfold z_fv z_gf z_cpy at *
    simp only [hne, false_and, if_false]
    exact h0
theorem z_wd_setC {ad : Nat → Nat} {j j' : Nat} {n' sp dp k : Int} (h' : hd[j']? = some (1, n')) (hsp : 0 ≤ sp) (hdp : 0 ≤ dp) (hk : 0 ≤ k) :
    (z_wd dA hc ad hd σ).set j' (ad j', .inl (dA 1, n'.toNat, .inl (va_cpy (fun i => Int32.ofInt (σ (j + 1) i)) (fun i => Int32.ofInt (σ (j' + 1) i)) sp.toNat dp.toNat k.toNat))) = z_wd dA hc ad hd (z_cpy σ (j + 1) sp (j' + 1) dp k) := by
  refine List.ext_getElem? fun t => ?_
  rw [List.getElem?_set]
  split
  · next ht =>
    subst ht
    rw [z_wd_get h']
    rw [if_pos (by rw [z_wd_len]; exact (List.getElem?_eq_some_iff.mp h').1)]
    congr 2
    unfold z_cell
    rw [if_pos (by show 1 < 10; omega)]
    congr 4
    funext x
    unfold va_cpy z_cpy
    by_cases hx : dp.toNat ≤ x ∧ x < dp.toNat + k.toNat
    · have hx2 : ((j' : Int) + 1 = (j' : Int) + 1 ∧ dp ≤ (x : Int) ∧ (x : Int) < dp + k) := ⟨rfl, by omega, by omega⟩
      rw [if_pos hx, if_pos hx2]
      have hix : ((sp.toNat + (x - dp.toNat) : Nat) : Int) = sp + ((x : Int) - dp) := by have h1 := hx.1; omega
      show Int32.ofInt (σ (j + 1) ((sp.toNat + (x - dp.toNat) : Nat) : Int)) = _
      rw [hix]
    · rw [if_neg hx, if_neg (fun z => hx ⟨by omega, by omega⟩)]
  · next ht =>
    cases hq : hd[t]? with
    | none =>
      have h1 : (z_wd dA hc ad hd σ)[t]? = none := by
        rw [List.getElem?_eq_none_iff, z_wd_len]; exact List.getElem?_eq_none_iff.mp hq
      have h2 : (z_wd dA hc ad hd (z_cpy σ (j + 1) sp (j' + 1) dp k))[t]? = none := by
        rw [List.getElem?_eq_none_iff, z_wd_len]; exact List.getElem?_eq_none_iff.mp hq
      rw [h1, h2]
    | some q =>
      rw [z_wd_get hq, z_wd_get hq]
      congr 2
      have hne : ¬ ((t : Int) + 1 = (j' : Int) + 1) := by omega
      unfold z_cell z_fv z_gf z_cpy
      simp [hne]
theorem z_W_copy (F : z_Fix p s m args meth c R dC dI dA mm d) {n dp dd sp ss : Int} {x : Nat} {q : List z_V} (hcc : z_cpok hd ss sp dd dp n) (hcq : z_cats q ≤ 8) (hw : Jvm.Cond.methodLink (z_my mm).cls x arraycopyName ∈ z_tw) (hdg : decode (z_mb mm) pc = .ok (.invokestatic x, 3))
    (h : z_W p l e R s m args below meth c dC dI dA hc mm ad0 n0 s0 r (pc + 3) ls q hd (z_cpy σ ss sp dd dp n)) :
    z_W p l e R s m args below meth c dC dI dA hc mm ad0 n0 s0 r pc ls (z_I n :: z_I dp :: z_R dd :: z_I sp :: z_R ss :: q) hd σ := by
  obtain ⟨hx, hb, hml, hown, hts, -, -, hnm, hK, hRf, hRl⟩ := F
  obtain ⟨hk1, hk2, c1, c2, c3, c4, c5⟩ := hcc
  obtain ⟨j, w, rfl, hj, hn, hjl⟩ := z_k_pos hk1 (by omega)
  obtain ⟨j', w', rfl, hj', hn', hjl'⟩ := z_k_pos hk2 (by omega)
  rw [hn] at c4
  rw [hn'] at c5
  intro hho hso hvl hvs
  have hso' := z_sok_cpy (sp := sp) (dp := dp) (k := n) hj hj' hso
  have hh := h hho hso' hvl (z_ok_tail (z_ok_tail (z_ok_tail (z_ok_tail (z_ok_tail hvs).2).2).2).2).2
  refine ⟨hh.1, fun ad H arr locs cells slots J hl => ?_⟩
  obtain ⟨hP, hD, hS, -, -, had, hce, hsl⟩ := J
  have he : ∀ {j : Nat} {n : Int}, hd[j]? = some (1, n) → (z_wd dA hc ad hd σ)[j]? = some (ad j, .inl (dA 1, n.toNat, .inl (fun i => Int32.ofInt (σ (j + 1) i)))) := fun hj => by
    rw [z_wd_get hj]
    unfold z_cell
    rw [if_pos (by show 1 < 10; omega)]
  have hni : z_in n := (z_ok_tail hvs).1
  have hdi : z_in dp := (z_ok_tail (z_ok_tail hvs).2).1
  have hsi : z_in sp := (z_ok_tail (z_ok_tail (z_ok_tail (z_ok_tail hvs).2).2).2).1
  have hneg : ∀ {z : Int}, z_in z → 0 ≤ z → ¬ Int32.ofInt z < 0 := fun hz h0 hlt => by
    rw [show (0 : Int32) = Int32.ofInt 0 from rfl, z_lt32 hz z_in0] at hlt; omega
  have hset := z_wd_setC (dA := dA) (hc := hc) (ad := ad) (σ := σ) (j := j) hj' c1 c2 c3
  have hw9 : nativeFrameWords "java/lang/System" "arraycopy" 5 ≤ 20 := by decide
  show W p l e R s m args below meth c H locs cells slots _ (F0 m pc arr (.int (Int32.ofInt n) :: .int (Int32.ofInt dp) :: z_cv ad (z_R ((j' : Int) + 1)) :: .int (Int32.ofInt sp) :: z_cv ad (z_R ((j : Int) + 1)) :: q.map (z_cv ad)))
  rw [z_cv_R, z_cv_R]
  refine va_copyi (ty := .int) hx hb (hml.trans hl.1.1.symm) hown (hts _ hw) (hts _ (z_has_mem z_ac1)) (hts _ (z_has_mem z_ac2)) (hts _ (z_has_mem z_iniSystem)) hK hP hD hS j j' 0 0 (he hj) (he hj') rfl rfl rfl (hneg hsi c1) (hneg hdi c2) (hneg hni c3) (by rw [z_clamp hsi, z_clamp hni]; omega) (by rw [z_clamp hdi, z_clamp hni]; omega) (fun i _ => rfl) (by rw [hRf]; omega) (by rw [z_cats_cv, hRl]; omega) hdg (fun H1 locs1 hP1 hD1 hS1 => ?_)
  rw [z_clamp hsi, z_clamp hdi, z_clamp hni] at hP1 hD1
  rw [hset] at hP1 hD1
  exact hh.2 ad H1 arr locs1 cells slots ⟨hP1, hD1, hS1, hho, hso', had, hce, hsl⟩ hl
theorem z_W_math {v : Int} {q : List z_V} (h : z_W p l e R s m args below meth c dC dI dA hc mm ad0 n0 s0 r pc' ls (z_I v :: q) hd σ) (hv : (∀ v ∈ st, z_vok hd.length v) → z_in v) (hq : (∀ v ∈ st, z_vok hd.length v) → ∀ v ∈ q, z_vok hd.length v)
    (hRc : R.cells = r.2.1.length - n0) (hRs : R.slots = z_sl r.2.1 - s0)
    (row : ∀ (ad : Nat → Nat) (H : Heap) (arr : Array Slot) (locs : List Loc) (cells slots : Nat) (Q : State → Prop), z_loc ad ls arr (z_ml mm) → (∀ v ∈ st, z_vok hd.length v) → cells ≤ R.cells → slots ≤ R.slots →
      W p l e R s m args below meth c H locs cells slots Q (F0 m pc' arr (.int (Int32.ofInt v) :: q.map (z_cv ad))) → W p l e R s m args below meth c H locs cells slots Q (F0 m pc arr (st.map (z_cv ad)))) :
    z_W p l e R s m args below meth c dC dI dA hc mm ad0 n0 s0 r pc ls st hd σ := by
  intro hho hso hvl hvs
  have hh := h hho hso hvl (z_ok_cons (hv hvs) (hq hvs))
  refine ⟨hh.1, fun ad H arr locs cells slots J hl => ?_⟩
  obtain ⟨⟨x, hx⟩, -⟩ := hh.1
  have h1 := J.2.2.2.2.2.2.1
  have h2 := J.2.2.2.2.2.2.2
  have h3 : r.2.1.length = hd.length + x.length := by rw [hx, List.length_append]
  have h4 : z_sl r.2.1 = z_sl hd + z_sl x := by rw [hx, z_sl_app]
  exact row ad H arr locs cells slots _ hl hvs (by rw [hRc]; omega) (by rw [hRs]; omega) (hh.2 ad H arr locs cells slots J hl)
end ZCP
end
section
section ZFN
variable {dC : Nat → ClassId} {hc : z_C} {mm d : Nat} {r : z_Res} {ls st : List z_V} {hd : z_H} {σ : z_S}
/-- the calls, one level less deep: what they leave -/
def z_FH (hc : z_C) (d : Nat) : Prop := ∀ (a : Nat) (as : List z_V) (hd : z_H) (σ : z_S) (r : z_Res), z_ev hc d a as hd σ = some r → (z_mp a).1 = a → z_hok hd → z_sok hc hd σ → (∀ v ∈ as, z_vok hd.length v) → z_fin hc hd r
theorem z_fin_le {hd' : z_H} {y : z_H} (hy : hd' = hd ++ y) (h : z_fin hc hd' r) : z_fin hc hd r := by
  obtain ⟨⟨x, hx⟩, h⟩ := h
  exact ⟨⟨y ++ x, by rw [hx, hy, List.append_assoc]⟩, h⟩
theorem z_vok_app {n k : Nat} {l : List z_V} (h : ∀ v ∈ l, z_vok n v) : ∀ v ∈ l, z_vok (n + k) v := fun v hv => z_vok_le (by omega) (h v hv)
set_option maxHeartbeats 8000000 in
theorem z_step_fin (hdyn : hc 0 0 = none → ∀ o f, hc o f = none) (allok : ∀ a, (z_mp a).1 = a → z_okm a) (IH : z_FH hc d)
    {k : Nat → List z_V → List z_V → z_H → z_S → Option z_Res} (hk : ∀ pc ls st hd σ, k pc ls st hd σ = some r → z_hok hd → z_sok hc hd σ → (∀ v ∈ ls, z_vok hd.length v) → (∀ v ∈ st, z_vok hd.length v) → z_fin hc hd r)
    {e' : z_E} (hch : z_chk mm e' = true) (h : z_step (z_ev hc d) hc e' ls st hd σ k some = some r) (hho : z_hok hd) (hso : z_sok hc hd σ) (hvl : ∀ v ∈ ls, z_vok hd.length v) (hvs : ∀ v ∈ st, z_vok hd.length v) : z_fin hc hd r := by
  obtain ⟨pc, i, len, a, f, ty, b, pl⟩ := e'
  cases i <;> dsimp only [z_step] at h <;> first | (exact absurd h (by simp)) | skip

  case aload j =>
    obtain ⟨x, hg, h⟩ := z_aload_some h
    exact hk _ _ _ _ _ h hho hso hvl (z_ok_cons (z_get_vok rfl hg hvl) hvs)
  case aload_n j =>
    obtain ⟨x, hg, h⟩ := z_aload_some h
    exact hk _ _ _ _ _ h hho hso hvl (z_ok_cons (z_get_vok rfl hg hvl) hvs)
  case iload j =>
    obtain ⟨x, hg, h⟩ := z_iload_some h
    exact hk _ _ _ _ _ h hho hso hvl (z_ok_cons (z_get_vok rfl hg hvl) hvs)
  case iload_n j =>
    obtain ⟨x, hg, h⟩ := z_iload_some h
    exact hk _ _ _ _ _ h hho hso hvl (z_ok_cons (z_get_vok rfl hg hvl) hvs)
  case lload j =>
    obtain ⟨x, hg, h⟩ := z_lload_some h
    exact hk _ _ _ _ _ h hho hso hvl (z_ok_cons (z_get_vok rfl hg hvl) hvs)
  case lload_n j =>
    obtain ⟨x, hg, h⟩ := z_lload_some h
    exact hk _ _ _ _ _ h hho hso hvl (z_ok_cons (z_get_vok rfl hg hvl) hvs)
  case istore j =>
    obtain ⟨x, q, rfl, h⟩ := z_num_some h
    exact hk _ _ _ _ _ h hho hso (z_set_vok (z_ok_tail hvs).1 hvl) (z_ok_tail hvs).2
  case istore_n j =>
    obtain ⟨x, q, rfl, h⟩ := z_num_some h
    exact hk _ _ _ _ _ h hho hso (z_set_vok (z_ok_tail hvs).1 hvl) (z_ok_tail hvs).2
  case astore j =>
    obtain ⟨x, q, rfl, h⟩ := z_ref_some h
    exact hk _ _ _ _ _ h hho hso (z_set_vok (z_ok_tail hvs).1 hvl) (z_ok_tail hvs).2
  case astore_n j =>
    obtain ⟨x, q, rfl, h⟩ := z_ref_some h
    exact hk _ _ _ _ _ h hho hso (z_set_vok (z_ok_tail hvs).1 hvl) (z_ok_tail hvs).2
  case lstore j =>
    obtain ⟨x, q, rfl, h⟩ := z_lon_some h
    exact hk _ _ _ _ _ h hho hso (z_set_vok (z_ok_tail hvs).1 (z_set_vok (v := z_U) trivial hvl)) (z_ok_tail hvs).2
  case lstore_n j =>
    obtain ⟨x, q, rfl, h⟩ := z_lon_some h
    exact hk _ _ _ _ _ h hho hso (z_set_vok (z_ok_tail hvs).1 (z_set_vok (v := z_U) trivial hvl)) (z_ok_tail hvs).2
  case iinc j n =>
    obtain ⟨x, q, hg, h⟩ := z_num_some h
    exact hk _ _ _ _ _ h hho hso (z_set_vok (v := z_I (z_w (x + n))) (z_in32 _) hvl) hvs
  case iconst n =>
    simp only [z_chk, Bool.and_eq_true, decide_eq_true_eq] at hch
    have hb32 : z_in b := by have h1 := hch.2.2; simp only [z_i32, Bool.and_eq_true, decide_eq_true_eq] at h1; exact h1
    exact hk _ _ _ _ _ h hho hso hvl (z_ok_cons hb32 hvs)
  case bipush n =>
    simp only [z_chk, Bool.and_eq_true, decide_eq_true_eq] at hch
    have hb32 : z_in b := by have h1 := hch.2.2; simp only [z_i32, Bool.and_eq_true, decide_eq_true_eq] at h1; exact h1
    exact hk _ _ _ _ _ h hho hso hvl (z_ok_cons hb32 hvs)
  case sipush n =>
    simp only [z_chk, Bool.and_eq_true, decide_eq_true_eq] at hch
    have hb32 : z_in b := by have h1 := hch.2.2; simp only [z_i32, Bool.and_eq_true, decide_eq_true_eq] at h1; exact h1
    exact hk _ _ _ _ _ h hho hso hvl (z_ok_cons hb32 hvs)
  case ldc x =>
    simp only [z_chk, Bool.and_eq_true, decide_eq_true_eq] at hch
    have hb32 : z_in b := by have h1 := hch.2.1.2; simp only [z_i32, Bool.and_eq_true, decide_eq_true_eq] at h1; exact h1
    exact hk _ _ _ _ _ h hho hso hvl (z_ok_cons hb32 hvs)
  case ldc_w x =>
    simp only [z_chk, Bool.and_eq_true, decide_eq_true_eq] at hch
    have hb32 : z_in b := by have h1 := hch.2.1.2; simp only [z_i32, Bool.and_eq_true, decide_eq_true_eq] at h1; exact h1
    exact hk _ _ _ _ _ h hho hso hvl (z_ok_cons hb32 hvs)
  case ldc2_w x =>
    simp only [z_chk, Bool.and_eq_true, decide_eq_true_eq] at hch
    have hb32 : z_inl b := by have h1 := hch.2.1.2; simp only [z_i64, Bool.and_eq_true, decide_eq_true_eq] at h1; exact h1
    exact hk _ _ _ _ _ h hho hso hvl (z_ok_cons hb32 hvs)
  case lconst n =>
    simp only [z_chk, Bool.and_eq_true, decide_eq_true_eq] at hch
    have hb32 : z_inl b := by have h1 := hch.2.2; simp only [z_i64, Bool.and_eq_true, decide_eq_true_eq] at h1; exact h1
    exact hk _ _ _ _ _ h hho hso hvl (z_ok_cons hb32 hvs)
  case iadd =>
    obtain ⟨x, y, q, rfl, h⟩ := z_num2_some h
    exact hk _ _ _ _ _ h hho hso hvl (z_ok_cons (z_in32 _) (z_ok_tail (z_ok_tail hvs).2).2)
  case isub =>
    obtain ⟨x, y, q, rfl, h⟩ := z_num2_some h
    exact hk _ _ _ _ _ h hho hso hvl (z_ok_cons (z_in32 _) (z_ok_tail (z_ok_tail hvs).2).2)
  case imul =>
    obtain ⟨x, y, q, rfl, h⟩ := z_num2_some h
    exact hk _ _ _ _ _ h hho hso hvl (z_ok_cons (z_in32 _) (z_ok_tail (z_ok_tail hvs).2).2)
  case iand =>
    obtain ⟨x, y, q, rfl, h⟩ := z_num2_some h
    exact hk _ _ _ _ _ h hho hso hvl (z_ok_cons (z_in32 _) (z_ok_tail (z_ok_tail hvs).2).2)
  case ior =>
    obtain ⟨x, y, q, rfl, h⟩ := z_num2_some h
    exact hk _ _ _ _ _ h hho hso hvl (z_ok_cons (z_in32 _) (z_ok_tail (z_ok_tail hvs).2).2)
  case ixor =>
    obtain ⟨x, y, q, rfl, h⟩ := z_num2_some h
    exact hk _ _ _ _ _ h hho hso hvl (z_ok_cons (z_in32 _) (z_ok_tail (z_ok_tail hvs).2).2)
  case ishl =>
    obtain ⟨x, y, q, rfl, h⟩ := z_num2_some h
    exact hk _ _ _ _ _ h hho hso hvl (z_ok_cons (z_in32 _) (z_ok_tail (z_ok_tail hvs).2).2)
  case ishr =>
    obtain ⟨x, y, q, rfl, h⟩ := z_num2_some h
    exact hk _ _ _ _ _ h hho hso hvl (z_ok_cons (z_in32 _) (z_ok_tail (z_ok_tail hvs).2).2)
  case iushr =>
    obtain ⟨x, y, q, rfl, h⟩ := z_num2_some h
    exact hk _ _ _ _ _ h hho hso hvl (z_ok_cons (z_in32 _) (z_ok_tail (z_ok_tail hvs).2).2)
  case idiv =>
    obtain ⟨x, y, q, rfl, h⟩ := z_num2_some h
    obtain ⟨hne, h⟩ := z_iten_some h
    exact hk _ _ _ _ _ h hho hso hvl (z_ok_cons (z_in32 _) (z_ok_tail (z_ok_tail hvs).2).2)
  case irem =>
    obtain ⟨x, y, q, rfl, h⟩ := z_num2_some h
    obtain ⟨hne, h⟩ := z_iten_some h
    exact hk _ _ _ _ _ h hho hso hvl (z_ok_cons (z_in32 _) (z_ok_tail (z_ok_tail hvs).2).2)
  case ineg =>
    obtain ⟨x, q, rfl, h⟩ := z_num_some h
    exact hk _ _ _ _ _ h hho hso hvl (z_ok_cons (z_in32 _) (z_ok_tail hvs).2)
  case ladd =>
    obtain ⟨x, y, q, rfl, h⟩ := z_lon2_some h
    exact hk _ _ _ _ _ h hho hso hvl (z_ok_cons (z_in64 _) (z_ok_tail (z_ok_tail hvs).2).2)
  case lmul =>
    obtain ⟨x, y, q, rfl, h⟩ := z_lon2_some h
    exact hk _ _ _ _ _ h hho hso hvl (z_ok_cons (z_in64 _) (z_ok_tail (z_ok_tail hvs).2).2)
  case ldiv =>
    obtain ⟨x, y, q, rfl, h⟩ := z_lon2_some h
    obtain ⟨hne, h⟩ := z_iten_some h
    exact hk _ _ _ _ _ h hho hso hvl (z_ok_cons (z_in64 _) (z_ok_tail (z_ok_tail hvs).2).2)
  case lrem =>
    obtain ⟨x, y, q, rfl, h⟩ := z_lon2_some h
    obtain ⟨hne, h⟩ := z_iten_some h
    exact hk _ _ _ _ _ h hho hso hvl (z_ok_cons (z_in64 _) (z_ok_tail (z_ok_tail hvs).2).2)
  case lcmp =>
    obtain ⟨x, y, q, rfl, h⟩ := z_lon2_some h
    exact hk _ _ _ _ _ h hho hso hvl (z_ok_cons (by unfold z_lcmp; repeat' split <;> (constructor <;> omega)) (z_ok_tail (z_ok_tail hvs).2).2)
  case i2l =>
    obtain ⟨x, q, rfl, h⟩ := z_num_some h
    exact hk _ _ _ _ _ h hho hso hvl (z_ok_cons (by have h0 : z_in x := (z_ok_tail hvs).1; have h1 := h0.1; have h2 := h0.2; constructor <;> omega) (z_ok_tail hvs).2)
  case l2i =>
    obtain ⟨x, q, rfl, h⟩ := z_lon_some h
    exact hk _ _ _ _ _ h hho hso hvl (z_ok_cons (z_in32 _) (z_ok_tail hvs).2)
  case i2b =>
    obtain ⟨x, q, rfl, h⟩ := z_num_some h
    exact hk _ _ _ _ _ h hho hso hvl (z_ok_cons (z_in32 _) (z_ok_tail hvs).2)
  case i2c =>
    obtain ⟨x, q, rfl, h⟩ := z_num_some h
    exact hk _ _ _ _ _ h hho hso hvl (z_ok_cons (z_in32 _) (z_ok_tail hvs).2)
  case pop =>
    obtain ⟨v, q, rfl, hv, h⟩ := z_any_some h
    exact hk _ _ _ _ _ h hho hso hvl (z_ok_tail hvs).2
  case dup =>
    obtain ⟨v, q, rfl, hv, h⟩ := z_any_some h
    exact hk _ _ _ _ _ h hho hso hvl (z_ok_cons (z_ok_tail hvs).1 hvs)
  case dup_x1 =>
    obtain ⟨v, q, rfl, hv, h⟩ := z_any_some h
    obtain ⟨w, q, rfl, hw, h⟩ := z_any_some h
    exact hk _ _ _ _ _ h hho hso hvl (z_ok_cons (z_ok_tail hvs).1 (z_ok_cons (z_ok_tail (z_ok_tail hvs).2).1 (z_ok_cons (z_ok_tail hvs).1 (z_ok_tail (z_ok_tail hvs).2).2)))
  case dup2 =>
    obtain ⟨v, q, rfl, hv, h⟩ := z_any_some h
    obtain ⟨w, q, rfl, hw, h⟩ := z_any_some h
    exact hk _ _ _ _ _ h hho hso hvl (z_ok_cons (z_ok_tail hvs).1 (z_ok_cons (z_ok_tail (z_ok_tail hvs).2).1 hvs))
  case ifCond cnd off =>
    obtain ⟨x, q, rfl, h2⟩ := z_num_some h
    clear h
    unfold z_if at h2
    cases cnd <;> dsimp only at h2 <;> split at h2 <;> exact hk _ _ _ _ _ h2 hho hso hvl (z_ok_tail hvs).2
  case if_icmp cnd off =>
    obtain ⟨x, y, q, rfl, h2⟩ := z_num2_some h
    clear h
    unfold z_if at h2
    cases cnd <;> dsimp only at h2 <;> split at h2 <;> exact hk _ _ _ _ _ h2 hho hso hvl (z_ok_tail (z_ok_tail hvs).2).2
  case ifnull off =>
    obtain ⟨x, q, rfl, h2⟩ := z_ref_some h
    clear h
    split at h2 <;> exact hk _ _ _ _ _ h2 hho hso hvl (z_ok_tail hvs).2
  case ifnonnull off =>
    obtain ⟨x, q, rfl, h2⟩ := z_ref_some h
    clear h
    split at h2 <;> exact hk _ _ _ _ _ h2 hho hso hvl (z_ok_tail hvs).2
  case goto off =>
    exact hk _ _ _ _ _ h hho hso hvl hvs
  case tableswitch dflt lo hi offs =>
    obtain ⟨x, q, rfl, h⟩ := z_num_some h
    rcases z_sw_some h with ⟨i, t, h1, h2, h3⟩ | ⟨h1, h2⟩
    · exact hk _ _ _ _ _ h3 hho hso hvl (z_ok_tail hvs).2
    · exact hk _ _ _ _ _ h2 hho hso hvl (z_ok_tail hvs).2
  case getfield x =>
    simp only [z_chk, Bool.and_eq_true, decide_eq_true_eq] at hch
    obtain ⟨hdg, ⟨⟨⟨rfl, ha⟩, hf⟩, hty⟩, hw⟩ := hch
    obtain ⟨o, q, rfl, h⟩ := z_ref_some h
    obtain ⟨hkk, h⟩ := z_ite_some h
    subst hty
    obtain ⟨j, n, rfl, hj, -, hjl⟩ := z_k_pos hkk (by omega)
    have h10 : 10 + a - 10 = a := by omega
    have hn : n = z_nf a := by have := ((hho j _ hj).2 (by show 10 ≤ 10 + a; omega)).2; rw [show (10 + a, n).1 - 10 = a from h10] at this; exact this
    have h0 := (hso j _ hj).2 (by show 10 ≤ 10 + a; omega) f (by show f < n.toNat; rw [hn]; omega)
    rw [show (10 + a, n).1 - 10 = a from h10] at h0
    exact hk _ _ _ _ _ h hho hso hvl (z_ok_cons h0 (z_ok_tail hvs).2)
  case putfield x =>
    simp only [z_chk, Bool.and_eq_true, decide_eq_true_eq] at hch
    obtain ⟨hdg, ⟨⟨⟨⟨rfl, ha⟩, hf⟩, hty⟩, hw⟩, hfin⟩ := hch
    have hfo := z_fto a ha f hf
    unfold z_put at h
    subst hty
    split at h
    · next h1 =>
      split at h
      · next v o q =>
        obtain ⟨hcn, h⟩ := z_free_some h
        obtain ⟨hkk, h⟩ := z_ite_some h
        obtain ⟨j, n, rfl, hj, -, hjl⟩ := z_k_pos hkk (by omega)
        exact hk _ _ _ _ _ h hho (z_sok_updF hj hso (by rw [h1]; unfold z_fv z_gf z_upd; rw [hcn]; simpa using (z_ok_tail hvs).1)) hvl (z_ok_tail (z_ok_tail hvs).2).2
      · cases h
    · next h1 =>
      split at h
      · obtain ⟨hkk, h⟩ := z_ite_some h
        obtain ⟨j, n, rfl, hj, -, hjl⟩ := z_k_pos hkk (by omega)
        exact hk _ _ _ _ _ h hho (z_sok_updF hj hso (by rw [h1]; unfold z_fv z_upd; simpa using (z_ok_tail hvs).1)) hvl (z_ok_tail (z_ok_tail hvs).2).2
      · cases h
    · next h1 =>
      split at h
      · obtain ⟨h01, h⟩ := z_ite_some h
        obtain ⟨hkk, h⟩ := z_ite_some h
        obtain ⟨j, n, rfl, hj, -, hjl⟩ := z_k_pos hkk (by omega)
        exact hk _ _ _ _ _ h hho (z_sok_updF hj hso (by rw [h1]; unfold z_fv z_upd; simpa using (z_ok_tail hvs).1)) hvl (z_ok_tail (z_ok_tail hvs).2).2
      · cases h
    · next h1 h2 h3 =>
      have h0 : z_ft a f = 0 := by
        revert hfo h1 h2 h3; generalize z_ft a f = n; intro hfo h1 h2 h3
        match n, hfo with
        | 0, _ => rfl
        | 1, _ => exact absurd rfl h1
        | 2, _ => exact absurd rfl h2
        | 3, _ => exact absurd rfl h3
        | n + 4, hfo => cases hfo
      split at h
      · obtain ⟨hkk, h⟩ := z_ite_some h
        obtain ⟨j, n, rfl, hj, -, hjl⟩ := z_k_pos hkk (by omega)
        exact hk _ _ _ _ _ h hho (z_sok_updF hj hso (by rw [h0]; unfold z_fv z_upd; simpa using (z_ok_tail hvs).1)) hvl (z_ok_tail (z_ok_tail hvs).2).2
      · cases h
  case iaload =>
    obtain ⟨i, q, rfl, h⟩ := z_num_some h
    obtain ⟨o, q, rfl, h⟩ := z_ref_some h
    obtain ⟨⟨hkk, h0, h1⟩, h⟩ := z_ite_some h
    obtain ⟨j, n, rfl, hj, -, hjl⟩ := z_k_pos (k := z_k hd o) rfl (by omega)
    exact hk _ _ _ _ _ h hho hso hvl (z_ok_cons ((hso j _ hj).1 (by dsimp only; omega) i) (z_ok_tail (z_ok_tail hvs).2).2)
  case caload =>
    obtain ⟨i, q, rfl, h⟩ := z_num_some h
    obtain ⟨o, q, rfl, h⟩ := z_ref_some h
    obtain ⟨⟨hkk, h0, h1⟩, h⟩ := z_ite_some h
    obtain ⟨j, n, rfl, hj, -, hjl⟩ := z_k_pos (k := z_k hd o) rfl (by omega)
    exact hk _ _ _ _ _ h hho hso hvl (z_ok_cons ((hso j _ hj).1 (by dsimp only; omega) i) (z_ok_tail (z_ok_tail hvs).2).2)
  case baload =>
    obtain ⟨i, q, rfl, h⟩ := z_num_some h
    obtain ⟨o, q, rfl, h⟩ := z_ref_some h
    obtain ⟨⟨hkk, h0, h1⟩, h⟩ := z_ite_some h
    obtain ⟨j, n, rfl, hj, -, hjl⟩ := z_k_pos (k := z_k hd o) rfl (by omega)
    exact hk _ _ _ _ _ h hho hso hvl (z_ok_cons ((hso j _ hj).1 (by dsimp only; omega) i) (z_ok_tail (z_ok_tail hvs).2).2)
  case iastore =>
    obtain ⟨i, v, q, rfl, h⟩ := z_num2_some h
    obtain ⟨o, q, rfl, h⟩ := z_ref_some h
    obtain ⟨⟨hkk, h0, h1⟩, h⟩ := z_ite_some h
    obtain ⟨j, n, rfl, hj, -, hjl⟩ := z_k_pos hkk (by omega)
    exact hk _ _ _ _ _ h hho (z_sok_updA hj (by omega) hso (z_ok_tail hvs).1) hvl (z_ok_tail (z_ok_tail (z_ok_tail hvs).2).2).2
  case castore =>
    obtain ⟨i, v, q, rfl, h⟩ := z_num2_some h
    obtain ⟨o, q, rfl, h⟩ := z_ref_some h
    obtain ⟨⟨hkk, h0, h1⟩, h⟩ := z_ite_some h
    obtain ⟨j, n, rfl, hj, -, hjl⟩ := z_k_pos hkk (by omega)
    exact hk _ _ _ _ _ h hho (z_sok_updA hj (by omega) hso (z_in32 _)) hvl (z_ok_tail (z_ok_tail (z_ok_tail hvs).2).2).2
  case bastore =>
    obtain ⟨i, v, q, rfl, h⟩ := z_num2_some h
    obtain ⟨o, q, rfl, h⟩ := z_ref_some h
    cases hab : Nat.beq a 2 with
    | true =>
      rw [hab] at h
      dsimp only [cond_true] at h
      obtain ⟨h01, h⟩ := z_ite_some h
      obtain ⟨⟨hkk, h0, h1⟩, h⟩ := z_ite_some h
      obtain ⟨j, n, rfl, hj, -, hjl⟩ := z_k_pos hkk (by omega)
      exact hk _ _ _ _ _ h hho (z_sok_updA hj (by omega) hso (z_ok_tail hvs).1) hvl (z_ok_tail (z_ok_tail (z_ok_tail hvs).2).2).2
    | false =>
      rw [hab] at h
      dsimp only [cond_false] at h
      obtain ⟨⟨hkk, h0, h1⟩, h⟩ := z_ite_some h
      obtain ⟨j, n, rfl, hj, -, hjl⟩ := z_k_pos hkk (by omega)
      exact hk _ _ _ _ _ h hho (z_sok_updA hj (by omega) hso (z_in32 _)) hvl (z_ok_tail (z_ok_tail (z_ok_tail hvs).2).2).2
  case arraylength =>
    obtain ⟨o, q, rfl, h⟩ := z_ref_some h
    obtain ⟨⟨h1, h4⟩, h⟩ := z_ite_some h
    obtain ⟨j, n, rfl, hj, hn, hjl⟩ := z_k_pos (k := z_k hd o) rfl (by omega)
    have h9 := (hho j _ hj).1 (by dsimp only; omega)
    have h91 := h9.2.2.1
    have h92 := h9.2.2.2
    exact hk _ _ _ _ _ h hho hso hvl (z_ok_cons (by rw [hn]; constructor <;> (dsimp only at h91 h92; omega)) (z_ok_tail hvs).2)
  case newarray t =>
    simp only [z_chk, Bool.and_eq_true, decide_eq_true_eq] at hch
    obtain ⟨hdg, ⟨⟨rfl, hat⟩, hpos⟩, hw⟩ := hch
    obtain ⟨n, q, rfl, h⟩ := z_num_some h
    obtain ⟨⟨h0, h1⟩, h⟩ := z_ite_some h
    subst hat
    have hk4 : z_akind t < 10 ∧ z_akind t ≤ 4 := by cases t <;> decide
    exact z_fin_le rfl (hk _ _ _ _ _ h (z_hok_push hho ⟨fun _ => ⟨hpos, hk4.2, h0, h1⟩, fun z => absurd z (by show ¬ 10 ≤ z_akind t; omega)⟩) (z_sok_push hso (Or.inl hk4.1)) (fun v hv => z_vok_le (by rw [List.length_append]; omega) (hvl v hv)) (z_ok_cons ⟨by omega, by rw [List.length_append]; simp⟩ (fun v hv => z_vok_le (by rw [List.length_append]; omega) ((z_ok_tail hvs).2 v hv))))
  case new x =>
    simp only [z_chk, Bool.and_eq_true, decide_eq_true_eq] at hch
    obtain ⟨hdg, ⟨⟨⟨⟨rfl, ha⟩, hbn⟩, hw⟩, hw1⟩, hw2⟩ := hch
    obtain ⟨hn, h⟩ := z_free_some h
    subst hbn
    have h10 : 10 + a - 10 = a := by omega
    exact z_fin_le rfl (hk _ _ _ _ _ h (z_hok_push hho ⟨fun z => absurd z (by show ¬ 10 + a < 10; omega), fun _ => by rw [show (10 + a, (z_nf a : Int)).1 - 10 = a from h10]; exact ⟨ha, rfl⟩⟩) (z_sok_push hso (Or.inr (hdyn hn))) (fun v hv => z_vok_le (by rw [List.length_append]; omega) (hvl v hv)) (z_ok_cons ⟨by omega, by rw [List.length_append]; simp⟩ (fun v hv => z_vok_le (by rw [List.length_append]; omega) (hvs v hv))))
  case ireturn =>
    unfold z_one at h
    split at h
    · next x =>
      have fin : r = (z_I x, hd, σ) → z_fin hc hd r := fun hr => by
        subst hr
        exact ⟨⟨[], by simp⟩, hho, hso, (z_ok_tail hvs).1⟩
      cases hab : Nat.beq a 2 with
      | true =>
        rw [hab] at h
        dsimp only [cond_true] at h
        obtain ⟨h01, h⟩ := z_ite_some h
        exact fin (Option.some.inj h).symm
      | false =>
        rw [hab] at h
        exact fin (Option.some.inj h).symm
    · cases h
  case return_ =>
    unfold z_end at h
    split at h
    · cases h
      exact ⟨⟨[], by simp⟩, hho, hso, trivial⟩
    · cases h
  case invokevirtual x =>
    simp only [z_chk, z_chkI, Bool.and_eq_true, Bool.or_eq_true, decide_eq_true_eq] at hch
    obtain ⟨hdg, ⟨rfl, hlink⟩, ⟨⟨⟨hkd, hnp⟩, hmr⟩, hcb⟩, hself⟩ := hch
    obtain ⟨as, qs, rfl, hal, hcq, h⟩ := z_pop_some h
    rw [List.append_nil] at h
    obtain ⟨o, t, has, hko, h⟩ := z_recv_some h
    obtain ⟨r', hcall, h⟩ := z_res_some h
    have hvas : ∀ v ∈ as, z_vok hd.length v := fun v hv => hvs v (List.mem_append_left _ (List.mem_reverse.mpr hv))
    have hvq : ∀ v ∈ qs, z_vok hd.length v := fun v hv => hvs v (List.mem_append_right _ hv)
    obtain ⟨⟨x', hx'⟩, hfh, hfs, hfv⟩ := IH a as hd σ r' hcall hself hho hso hvas
    have hle : hd.length ≤ r'.2.1.length := by rw [hx', List.length_append]; omega
    exact z_fin_le hx' (hk _ _ _ _ _ h hfh hfs (fun v hv => z_vok_le hle (hvl v hv)) (z_rl_ok hfv (fun v hv => z_vok_le hle (hvq v hv))))
  case invokespecial x =>
    simp only [z_chk, Bool.and_eq_true, decide_eq_true_eq] at hch
    obtain ⟨hdg, rfl, hch⟩ := hch
    by_cases ha : a = 9998
    · subst ha
      have h' : (z_ref st fun o r => if 10 ≤ z_k hd o ∧ z_cats r ≤ 8 then k (pc + 3) ls r hd σ else none) = some r := h
      obtain ⟨o, q, rfl, h'⟩ := z_ref_some h'
      obtain ⟨hcq, h'⟩ := z_ite_some h'
      exact hk _ _ _ _ _ h' hho hso hvl (z_ok_tail hvs).2
    · rw [if_neg ha] at hch
      simp only [z_chkI, Bool.and_eq_true, Bool.or_eq_true, decide_eq_true_eq] at hch
      obtain ⟨⟨hlink, ⟨⟨⟨hkd, hnp⟩, hmr⟩, hcb⟩, hself⟩, hmrn⟩ := hch
      have hab : Nat.beq a 9998 = false := by
        rw [← Bool.not_eq_true]; exact fun z => ha (Nat.eq_of_beq_eq_true z)
      rw [hab] at h
      dsimp only [cond_false] at h
      obtain ⟨as, qs, rfl, hal, hcq, h⟩ := z_pop_some h
      rw [List.append_nil] at h
      obtain ⟨o, t, has, hko, h⟩ := z_recv_some h
      obtain ⟨r', hcall, h⟩ := z_res_some h
      have hvas : ∀ v ∈ as, z_vok hd.length v := fun v hv => hvs v (List.mem_append_left _ (List.mem_reverse.mpr hv))
      have hvq : ∀ v ∈ qs, z_vok hd.length v := fun v hv => hvs v (List.mem_append_right _ hv)
      obtain ⟨⟨x', hx'⟩, hfh, hfs, hfv⟩ := IH a as hd σ r' hcall hself hho hso hvas
      have hle : hd.length ≤ r'.2.1.length := by rw [hx', List.length_append]; omega
      exact z_fin_le hx' (hk _ _ _ _ _ h hfh hfs (fun v hv => z_vok_le hle (hvl v hv)) (z_rl_ok hfv (fun v hv => z_vok_le hle (hvq v hv))))
  case invokestatic x =>
    simp only [z_chk, Bool.and_eq_true, decide_eq_true_eq] at hch
    obtain ⟨hdg, rfl, hch⟩ := hch
    by_cases ha : 9990 ≤ a
    · have hab : Nat.ble 9990 a = true := Nat.ble_eq_true_of_le ha
      rw [hab] at h
      dsimp only [cond_true] at h
      cases hab9 : Nat.beq a 9999 with
      | true =>
        rw [hab9] at h
        dsimp only [cond_true] at h
        obtain ⟨n, dp, dd, sp, ss, q, rfl, hcq, hcc, h⟩ := z_copy_some h
        obtain ⟨hk1, hk2, c1, c2, c3, c4, c5⟩ := hcc
        obtain ⟨j, w, rfl, hj, hn, hjl⟩ := z_k_pos hk1 (by omega)
        obtain ⟨j', w', rfl, hj', hn', hjl'⟩ := z_k_pos hk2 (by omega)
        exact hk _ _ _ _ _ h hho (z_sok_cpy hj hj' hso) hvl (z_ok_tail (z_ok_tail (z_ok_tail (z_ok_tail (z_ok_tail hvs).2).2).2).2).2
      | false =>
        rw [hab9] at h
        dsimp only [cond_false] at h
        unfold z_math at h
        split at h
        · obtain ⟨x, q, rfl, h⟩ := z_num_some h
          obtain ⟨hcq, h⟩ := z_ite_some h
          exact hk _ _ _ _ _ h hho hso hvl (z_ok_cons (by split <;> first | exact (z_ok_tail hvs).1 | exact z_in32 _) (z_ok_tail hvs).2)
        · split at h
          · obtain ⟨x, y, q, rfl, h⟩ := z_num2_some h
            obtain ⟨hcq, h⟩ := z_ite_some h
            exact hk _ _ _ _ _ h hho hso hvl (z_ok_cons (by split <;> first | exact (z_ok_tail hvs).1 | exact (z_ok_tail (z_ok_tail hvs).2).1) (z_ok_tail (z_ok_tail hvs).2).2)
          · obtain ⟨x, y, q, rfl, h⟩ := z_num2_some h
            obtain ⟨hcq, h⟩ := z_ite_some h
            exact hk _ _ _ _ _ h hho hso hvl (z_ok_cons (by split <;> first | exact (z_ok_tail hvs).1 | exact (z_ok_tail (z_ok_tail hvs).2).1) (z_ok_tail (z_ok_tail hvs).2).2)
    · have hab : Nat.ble 9990 a = false := by
        rw [← Bool.not_eq_true]; exact fun z => ha (Nat.le_of_ble_eq_true z)
      rw [hab] at h
      dsimp only [cond_false] at h
      rw [if_neg (by omega), if_neg (by omega), if_neg (by omega), if_neg (by omega)] at hch
      simp only [z_chkI, Bool.and_eq_true, Bool.or_eq_true, decide_eq_true_eq] at hch
      obtain ⟨⟨h9990, hlink⟩, ⟨⟨⟨hkd, hnp⟩, hmr⟩, hcb⟩, hself⟩ := hch
      obtain ⟨as, qs, rfl, hal, hcq, h⟩ := z_pop_some h
      rw [List.append_nil] at h
      obtain ⟨r', hcall, h⟩ := z_res_some h
      have hvas : ∀ v ∈ as, z_vok hd.length v := fun v hv => hvs v (List.mem_append_left _ (List.mem_reverse.mpr hv))
      have hvq : ∀ v ∈ qs, z_vok hd.length v := fun v hv => hvs v (List.mem_append_right _ hv)
      obtain ⟨⟨x', hx'⟩, hfh, hfs, hfv⟩ := IH a as hd σ r' hcall hself hho hso hvas
      have hle : hd.length ≤ r'.2.1.length := by rw [hx', List.length_append]; omega
      exact z_fin_le hx' (hk _ _ _ _ _ h hfh hfs (fun v hv => z_vok_le hle (hvl v hv)) (z_rl_ok hfv (fun v hv => z_vok_le hle (hvq v hv))))
theorem z_ex_fin (hdyn : hc 0 0 = none → ∀ o f, hc o f = none) (okm : z_okm mm) (allok : ∀ a, (z_mp a).1 = a → z_okm a) (IH : z_FH hc d) : ∀ (n pc : Nat) (ls st : List z_V) (hd : z_H) (σ : z_S), z_ex (z_ev hc d) hc n mm pc ls st hd σ = some r →
    z_hok hd → z_sok hc hd σ → (∀ v ∈ ls, z_vok hd.length v) → (∀ v ∈ st, z_vok hd.length v) → z_fin hc hd r := by
  intro n
  induction n with
  | zero => intro pc ls st hd σ h; cases h
  | succ n ih =>
    intro pc ls st hd σ h
    unfold z_ex at h
    split at h
    · cases h
    · next e he =>
      exact z_step_fin hdyn allok IH (fun pc ls st hd σ h => ih pc ls st hd σ h) (List.all_eq_true.mp okm.1 e (z_find_some he).1) h
theorem z_ev_some {d m : Nat} {as : List z_V} (h : z_ev hc (d + 1) m as hd σ = some r) : as.length ≤ z_ml m ∧ (∀ v ∈ as, z_argb v = true) ∧ ∃ n, z_ex (z_ev hc d) hc n m 0 (as ++ List.replicate (z_ml m - as.length) z_U) [] hd σ = some r := by
  have h' : cond (z_aok m as) (z_go (z_ev hc d) hc m 0 (as ++ List.replicate (z_ml m - as.length) z_U) [] hd σ) none = some r := h
  cases ha : z_aok m as with
  | false => rw [ha] at h'; cases h'
  | true =>
    rw [ha] at h'
    unfold z_aok at ha
    rw [Bool.and_eq_true] at ha
    exact ⟨Nat.le_of_ble_eq_true ha.1, List.all_eq_true.mp ha.2, z_go_iff.mp h'⟩
theorem z_fin_all (hdyn : hc 0 0 = none → ∀ o f, hc o f = none) (allok : ∀ a, (z_mp a).1 = a → z_okm a) : ∀ d, z_FH hc d := by
  intro d
  induction d with
  | zero => intro a as hd σ r h; cases h
  | succ d ih =>
    intro a as hd σ r h hself hho hso hvas
    obtain ⟨h1, h2, n, h3⟩ := z_ev_some h
    refine z_ex_fin hdyn (allok a hself) allok ih n 0 _ _ hd σ h3 hho hso (fun v hv => ?_) (fun v hv => by cases hv)
    rcases List.mem_append.mp hv with hv | hv
    · exact hvas v hv
    · rw [List.eq_of_mem_replicate hv]; trivial
end ZFN
end
section
section ZT
variable {p : Program} {l : Launch} {e : Env} {R : Room} {s : State} {m : MethodId} {args : Array Value} {below : List Frame} {meth : Method} {c : Code} {dC : Nat → ClassId} {dI : Nat → Nat → Nat} {dA : Nat → ClassId} {hc : z_C} {mm d : Nat} {ad0 : Nat → Nat} {n0 s0 : Nat} {r : z_Res} {pc pc' : Nat} {ls st st' : List z_V} {hd : z_H} {σ : z_S}
theorem z_W_br {P : Prop} {pA pB : Nat} {q : List z_V} (hA : P → z_W p l e R s m args below meth c dC dI dA hc mm ad0 n0 s0 r pA ls q hd σ) (hB : ¬ P → z_W p l e R s m args below meth c dC dI dA hc mm ad0 n0 s0 r pB ls q hd σ) (ok : (∀ v ∈ st, z_vok hd.length v) → ∀ v ∈ q, z_vok hd.length v)
    (row : ∀ (ad : Nat → Nat) (H : Heap) (arr : Array Slot) (locs : List Loc) (cells slots : Nat) (Q : State → Prop), (∀ v ∈ st, z_vok hd.length v) → (P → W p l e R s m args below meth c H locs cells slots Q (F0 m pA arr (q.map (z_cv ad)))) → (¬ P → W p l e R s m args below meth c H locs cells slots Q (F0 m pB arr (q.map (z_cv ad)))) →
      W p l e R s m args below meth c H locs cells slots Q (F0 m pc arr (st.map (z_cv ad)))) : z_W p l e R s m args below meth c dC dI dA hc mm ad0 n0 s0 r pc ls st hd σ := by
  rcases Classical.em P with hP | hP
  · exact z_W_st (hA hP) (fun _ _ _ h => ok h) (fun ad H arr locs cells slots Q _ _ _ hvs k => row ad H arr locs cells slots Q hvs (fun _ => k) (fun z => absurd hP z))
  · exact z_W_st (hB hP) (fun _ _ _ h => ok h) (fun ad H arr locs cells slots Q _ _ _ hvs k => row ad H arr locs cells slots Q hvs (fun z => absurd z hP) (fun _ => k))
set_option maxHeartbeats 8000000 in
theorem z_step_sim (F : z_Fix p s m args meth c R dC dI dA mm d) (hRc : R.cells = r.2.1.length - n0) (hRs : R.slots = z_sl r.2.1 - s0) (hdyn : hc 0 0 = none → ∀ o f, hc o f = none) (okm : z_okm mm) (allok : ∀ a, (z_mp a).1 = a → z_okm a) (IH : z_IH l dC dI dA hc d)
    {k : Nat → List z_V → List z_V → z_H → z_S → Option z_Res} (hk : ∀ pc ls st hd σ, k pc ls st hd σ = some r → z_W p l e R s m args below meth c dC dI dA hc mm ad0 n0 s0 r pc ls st hd σ)
    {e' : z_E} (hch : z_chk mm e' = true) (h : z_step (z_ev hc d) hc e' ls st hd σ k some = some r) : z_W p l e R s m args below meth c dC dI dA hc mm ad0 n0 s0 r e'.1 ls st hd σ := by
  obtain ⟨pc, i, len, a, f, ty, b, pl⟩ := e'
  have F' := F
  obtain ⟨hx, hb, hml, hown, hts, hret, hlk, hnm, hK, hRf, hRl⟩ := F'
  have z32 : ∀ {y : Int}, z_in y → (Int32.ofInt y = 0 ↔ y = 0) := fun hy => z_eq32 hy z_in0
  have hK0 : (z_tys dA)[0]? = some (dA 1, FieldType.int) := rfl
  have hK1 : (z_tys dA)[1]? = some (dA 2, FieldType.boolean) := rfl
  have hK2 : (z_tys dA)[2]? = some (dA 3, FieldType.byte) := rfl
  have hK3 : (z_tys dA)[3]? = some (dA 4, FieldType.char) := rfl
  dsimp only at ⊢
  cases i <;> dsimp only [z_step] at h <;> first | (exact absurd h (by simp)) | skip

  case aload j =>
    simp only [z_chk, Bool.and_eq_true, decide_eq_true_eq] at hch
    obtain ⟨hdg, rfl⟩ := hch
    obtain ⟨x, hg, h⟩ := z_aload_some h
    refine z_W_push (hk _ _ _ _ _ h) (fun hl => z_get_vok rfl hg hl) (fun ad H arr locs cells slots Q rest hl k => ?_)
    have hat := z_loc_at hl rfl hg
    by_cases hx0 : x = 0
    · subst hx0
      exact lv_aloadN hx hb hdg hat k
    · have hcv : z_cv ad (z_R x) = .ref (ad (x.toNat - 1)) := if_neg hx0
      rw [hcv] at hat k
      exact lv_aload hx hb hdg hat k
  case aload_n j =>
    simp only [z_chk, Bool.and_eq_true, decide_eq_true_eq] at hch
    obtain ⟨hdg, rfl⟩ := hch
    obtain ⟨x, hg, h⟩ := z_aload_some h
    refine z_W_push (hk _ _ _ _ _ h) (fun hl => z_get_vok rfl hg hl) (fun ad H arr locs cells slots Q rest hl k => ?_)
    have hat := z_loc_at hl rfl hg
    by_cases hx0 : x = 0
    · subst hx0
      exact lv_aload_nN hx hb hdg rfl hat k
    · have hcv : z_cv ad (z_R x) = .ref (ad (x.toNat - 1)) := if_neg hx0
      rw [hcv] at hat k
      exact lv_aload_n hx hb hdg rfl hat k
  case iload j =>
    simp only [z_chk, Bool.and_eq_true, decide_eq_true_eq] at hch
    obtain ⟨hdg, rfl⟩ := hch
    obtain ⟨x, hg, h⟩ := z_iload_some h
    exact z_W_push (hk _ _ _ _ _ h) (fun hl => z_get_vok rfl hg hl) (fun ad H arr locs cells slots Q rest hl k => lv_iload hx hb hdg (z_loc_at hl rfl hg) k)
  case iload_n j =>
    simp only [z_chk, Bool.and_eq_true, decide_eq_true_eq] at hch
    obtain ⟨hdg, rfl⟩ := hch
    obtain ⟨x, hg, h⟩ := z_iload_some h
    exact z_W_push (hk _ _ _ _ _ h) (fun hl => z_get_vok rfl hg hl) (fun ad H arr locs cells slots Q rest hl k => lv_iload_n hx hb hdg rfl (z_loc_at hl rfl hg) k)
  case lload j =>
    simp only [z_chk, Bool.and_eq_true, decide_eq_true_eq] at hch
    obtain ⟨hdg, rfl⟩ := hch
    obtain ⟨x, hg, h⟩ := z_lload_some h
    exact z_W_push (hk _ _ _ _ _ h) (fun hl => z_get_vok rfl hg hl) (fun ad H arr locs cells slots Q rest hl k => lv_lload hx hb hdg (z_loc_at hl rfl hg) k)
  case lload_n j =>
    simp only [z_chk, Bool.and_eq_true, decide_eq_true_eq] at hch
    obtain ⟨hdg, rfl⟩ := hch
    obtain ⟨x, hg, h⟩ := z_lload_some h
    exact z_W_push (hk _ _ _ _ _ h) (fun hl => z_get_vok rfl hg hl) (fun ad H arr locs cells slots Q rest hl k => lv_lload_n hx hb hdg rfl (z_loc_at hl rfl hg) k)
  case istore j =>
    simp only [z_chk, Bool.and_eq_true, decide_eq_true_eq] at hch
    obtain ⟨hdg, rfl, hj⟩ := hch
    obtain ⟨x, q, rfl, h⟩ := z_num_some h
    refine z_W_store (hk _ _ _ _ _ h) (fun hv hl => z_set_vok hv hl) (fun ad H arr locs cells slots Q rest hl kk => ?_)
    exact lv_istore hx hb hdg hl.1 hj rfl (fun arr' ha => kk arr' (z_loc_set hl ha))
  case istore_n j =>
    simp only [z_chk, Bool.and_eq_true, decide_eq_true_eq] at hch
    obtain ⟨hdg, rfl, hj⟩ := hch
    obtain ⟨x, q, rfl, h⟩ := z_num_some h
    refine z_W_store (hk _ _ _ _ _ h) (fun hv hl => z_set_vok hv hl) (fun ad H arr locs cells slots Q rest hl kk => ?_)
    exact lv_istore_n hx hb hdg rfl hl.1 hj rfl (fun arr' ha => kk arr' (z_loc_set hl ha))
  case astore j =>
    simp only [z_chk, Bool.and_eq_true, decide_eq_true_eq] at hch
    obtain ⟨hdg, rfl, hj⟩ := hch
    obtain ⟨x, q, rfl, h⟩ := z_ref_some h
    refine z_W_store (hk _ _ _ _ _ h) (fun hv hl => z_set_vok hv hl) (fun ad H arr locs cells slots Q rest hl kk => ?_)
    by_cases hx0 : x = 0
    · subst hx0
      exact lv_astoreN hx hb hdg hl.1 hj rfl (fun arr' ha => kk arr' (z_loc_set hl ha))
    · have hcv : z_cv ad (z_R x) = .ref (ad (x.toNat - 1)) := if_neg hx0
      rw [hcv]
      exact lv_astore hx hb hdg hl.1 hj rfl (fun arr' ha => kk arr' (z_loc_set hl (by rw [hcv]; exact ha)))
  case astore_n j =>
    simp only [z_chk, Bool.and_eq_true, decide_eq_true_eq] at hch
    obtain ⟨hdg, rfl, hj⟩ := hch
    obtain ⟨x, q, rfl, h⟩ := z_ref_some h
    refine z_W_store (hk _ _ _ _ _ h) (fun hv hl => z_set_vok hv hl) (fun ad H arr locs cells slots Q rest hl kk => ?_)
    by_cases hx0 : x = 0
    · subst hx0
      exact lv_astore_nN hx hb hdg rfl hl.1 hj rfl (fun arr' ha => kk arr' (z_loc_set hl ha))
    · have hcv : z_cv ad (z_R x) = .ref (ad (x.toNat - 1)) := if_neg hx0
      rw [hcv]
      exact lv_astore_n hx hb hdg rfl hl.1 hj rfl (fun arr' ha => kk arr' (z_loc_set hl (by rw [hcv]; exact ha)))
  case lstore j =>
    simp only [z_chk, Bool.and_eq_true, decide_eq_true_eq] at hch
    obtain ⟨hdg, rfl, hj⟩ := hch
    obtain ⟨x, q, rfl, h⟩ := z_lon_some h
    refine z_W_store (hk _ _ _ _ _ h) (fun hv hl => z_set_vok hv (z_set_vok (v := z_U) trivial hl)) (fun ad H arr locs cells slots Q rest hl kk => ?_)
    exact lv_lstore hx hb hdg hl.1 hj rfl (fun arr' ha => kk arr' (z_loc_setL hl ha))
  case lstore_n j =>
    simp only [z_chk, Bool.and_eq_true, decide_eq_true_eq] at hch
    obtain ⟨hdg, rfl, hj⟩ := hch
    obtain ⟨x, q, rfl, h⟩ := z_lon_some h
    refine z_W_store (hk _ _ _ _ _ h) (fun hv hl => z_set_vok hv (z_set_vok (v := z_U) trivial hl)) (fun ad H arr locs cells slots Q rest hl kk => ?_)
    exact lv_lstore_n hx hb hdg rfl hl.1 hj rfl (fun arr' ha => kk arr' (z_loc_setL hl ha))
  case iinc j n =>
    simp only [z_chk, Bool.and_eq_true, decide_eq_true_eq] at hch
    obtain ⟨hdg, rfl, hj⟩ := hch
    obtain ⟨x, q, hg, h⟩ := z_num_some h
    have hg' : z_get ls j = z_I x := (List.cons.inj hg).1
    refine fun hho hso hvl hvs => ⟨(hk _ _ _ _ _ h hho hso (z_set_vok (v := z_I (z_w (x + n))) (z_in32 _) hvl) hvs).1, fun ad H arr locs cells slots J hl => ?_⟩
    have hmem : (j, Value.int (Int32.ofInt x)) ∈ z_ll ad ls := z_ll_mem.mpr ⟨z_I x, z_get_some rfl hg', rfl, rfl⟩
    obtain ⟨k0, hk0⟩ := List.getElem?_of_mem hmem
    refine lv_iinc (v := Int32.ofInt (z_w (x + n))) hx hb hdg hl.1 hk0 (by rw [z_ofw, Int32.ofInt_add]) hj rfl (fun arr' ha => ?_)
    exact (hk _ _ _ _ _ h hho hso (z_set_vok (v := z_I (z_w (x + n))) (z_in32 _) hvl) hvs).2 ad H arr' locs cells slots J (z_loc_set hl ha)
  case iconst n =>
    simp only [z_chk, Bool.and_eq_true, decide_eq_true_eq] at hch
    obtain ⟨hdg, ⟨rfl, hbn⟩, hb32⟩ := hch
    exact z_W_push (hk _ _ _ _ _ h) (fun _ => (by simp only [z_i32, Bool.and_eq_true, decide_eq_true_eq] at hb32; exact hb32)) (fun ad H arr locs cells slots Q rest hl k => lv_iconst hx hb hdg (by rw [hbn]) k)
  case bipush n =>
    simp only [z_chk, Bool.and_eq_true, decide_eq_true_eq] at hch
    obtain ⟨hdg, ⟨rfl, hbn⟩, hb32⟩ := hch
    exact z_W_push (hk _ _ _ _ _ h) (fun _ => (by simp only [z_i32, Bool.and_eq_true, decide_eq_true_eq] at hb32; exact hb32)) (fun ad H arr locs cells slots Q rest hl k => lv_bipush hx hb hdg hbn k)
  case sipush n =>
    simp only [z_chk, Bool.and_eq_true, decide_eq_true_eq] at hch
    obtain ⟨hdg, ⟨rfl, hbn⟩, hb32⟩ := hch
    exact z_W_push (hk _ _ _ _ _ h) (fun _ => (by simp only [z_i32, Bool.and_eq_true, decide_eq_true_eq] at hb32; exact hb32)) (fun ad H arr locs cells slots Q rest hl k => lv_sipush hx hb hdg hbn k)
  case ldc x =>
    simp only [z_chk, Bool.and_eq_true, decide_eq_true_eq] at hch
    obtain ⟨hdg, ⟨rfl, hb32⟩, hw⟩ := hch
    exact z_W_push (hk _ _ _ _ _ h) (fun _ => (by simp only [z_i32, Bool.and_eq_true, decide_eq_true_eq] at hb32; exact hb32)) (fun ad H arr locs cells slots Q rest hl k => lv_ldc hx hb hown (hts _ (z_has_mem hw)) hdg k)
  case ldc_w x =>
    simp only [z_chk, Bool.and_eq_true, decide_eq_true_eq] at hch
    obtain ⟨hdg, ⟨rfl, hb32⟩, hw⟩ := hch
    exact z_W_push (hk _ _ _ _ _ h) (fun _ => (by simp only [z_i32, Bool.and_eq_true, decide_eq_true_eq] at hb32; exact hb32)) (fun ad H arr locs cells slots Q rest hl k => lv_ldcw hx hb hown (hts _ (z_has_mem hw)) hdg k)
  case ldc2_w x =>
    simp only [z_chk, Bool.and_eq_true, decide_eq_true_eq] at hch
    obtain ⟨hdg, ⟨rfl, hb64⟩, hw⟩ := hch
    exact z_W_push (hk _ _ _ _ _ h) (fun _ => (by simp only [z_i64, Bool.and_eq_true, decide_eq_true_eq] at hb64; exact hb64)) (fun ad H arr locs cells slots Q rest hl k => lv_ldc2 hx hb hown (hts _ (z_has_mem hw)) hdg k)
  case lconst n =>
    simp only [z_chk, Bool.and_eq_true, decide_eq_true_eq] at hch
    obtain ⟨hdg, ⟨rfl, hbn⟩, hb64⟩ := hch
    exact z_W_push (hk _ _ _ _ _ h) (fun _ => (by simp only [z_i64, Bool.and_eq_true, decide_eq_true_eq] at hb64; exact hb64)) (fun ad H arr locs cells slots Q rest hl k => lv_lconst hx hb hdg hbn k)
  case iadd =>
    simp only [z_chk, Bool.and_eq_true, decide_eq_true_eq] at hch
    obtain ⟨hdg, rfl⟩ := hch
    obtain ⟨x, y, q, rfl, h⟩ := z_num2_some h
    exact z_W_bin (w := Int32.ofInt x + Int32.ofInt y) (by rw [← Int32.ofInt_add]; rfl) (hk _ _ _ _ _ h) (fun _ _ H arr locs cells slots Q rest k => lv_iadd hx hb hdg k)
  case isub =>
    simp only [z_chk, Bool.and_eq_true, decide_eq_true_eq] at hch
    obtain ⟨hdg, rfl⟩ := hch
    obtain ⟨x, y, q, rfl, h⟩ := z_num2_some h
    exact z_W_bin (w := Int32.ofInt x - Int32.ofInt y) (by rw [← Int32.ofInt_sub]; rfl) (hk _ _ _ _ _ h) (fun _ _ H arr locs cells slots Q rest k => lv_isub hx hb hdg k)
  case imul =>
    simp only [z_chk, Bool.and_eq_true, decide_eq_true_eq] at hch
    obtain ⟨hdg, rfl⟩ := hch
    obtain ⟨x, y, q, rfl, h⟩ := z_num2_some h
    exact z_W_bin (w := Int32.ofInt x * Int32.ofInt y) (by rw [← Int32.ofInt_mul]; rfl) (hk _ _ _ _ _ h) (fun _ _ H arr locs cells slots Q rest k => lv_imul hx hb hdg k)
  case iand =>
    simp only [z_chk, Bool.and_eq_true, decide_eq_true_eq] at hch
    obtain ⟨hdg, rfl⟩ := hch
    obtain ⟨x, y, q, rfl, h⟩ := z_num2_some h
    exact z_W_bin rfl (hk _ _ _ _ _ h) (fun _ _ H arr locs cells slots Q rest k => lv_iand hx hb hdg k)
  case ior =>
    simp only [z_chk, Bool.and_eq_true, decide_eq_true_eq] at hch
    obtain ⟨hdg, rfl⟩ := hch
    obtain ⟨x, y, q, rfl, h⟩ := z_num2_some h
    exact z_W_bin rfl (hk _ _ _ _ _ h) (fun _ _ H arr locs cells slots Q rest k => lv_ior hx hb hdg k)
  case ixor =>
    simp only [z_chk, Bool.and_eq_true, decide_eq_true_eq] at hch
    obtain ⟨hdg, rfl⟩ := hch
    obtain ⟨x, y, q, rfl, h⟩ := z_num2_some h
    exact z_W_bin rfl (hk _ _ _ _ _ h) (fun _ _ H arr locs cells slots Q rest k => lv_ixor hx hb hdg k)
  case ishl =>
    simp only [z_chk, Bool.and_eq_true, decide_eq_true_eq] at hch
    obtain ⟨hdg, rfl⟩ := hch
    obtain ⟨x, y, q, rfl, h⟩ := z_num2_some h
    exact z_W_bin rfl (hk _ _ _ _ _ h) (fun _ _ H arr locs cells slots Q rest k => lv_ishl hx hb hdg k)
  case ishr =>
    simp only [z_chk, Bool.and_eq_true, decide_eq_true_eq] at hch
    obtain ⟨hdg, rfl⟩ := hch
    obtain ⟨x, y, q, rfl, h⟩ := z_num2_some h
    exact z_W_bin rfl (hk _ _ _ _ _ h) (fun _ _ H arr locs cells slots Q rest k => lv_ishr hx hb hdg k)
  case iushr =>
    simp only [z_chk, Bool.and_eq_true, decide_eq_true_eq] at hch
    obtain ⟨hdg, rfl⟩ := hch
    obtain ⟨x, y, q, rfl, h⟩ := z_num2_some h
    exact z_W_bin rfl (hk _ _ _ _ _ h) (fun _ _ H arr locs cells slots Q rest k => lv_iushr hx hb hdg rfl k)
  case idiv =>
    simp only [z_chk, Bool.and_eq_true, decide_eq_true_eq] at hch
    obtain ⟨hdg, rfl⟩ := hch
    obtain ⟨x, y, q, rfl, h⟩ := z_num2_some h
    obtain ⟨hne, h⟩ := z_iten_some h
    exact z_W_bin rfl (hk _ _ _ _ _ h) (fun _ hy H arr locs cells slots Q rest k => lv_idiv hx hb hdg (fun z => hne ((z32 hy).mp z)) k)
  case irem =>
    simp only [z_chk, Bool.and_eq_true, decide_eq_true_eq] at hch
    obtain ⟨hdg, rfl⟩ := hch
    obtain ⟨x, y, q, rfl, h⟩ := z_num2_some h
    obtain ⟨hne, h⟩ := z_iten_some h
    exact z_W_bin rfl (hk _ _ _ _ _ h) (fun _ hy H arr locs cells slots Q rest k => lv_irem hx hb hdg (fun z => hne ((z32 hy).mp z)) k)
  case ineg =>
    simp only [z_chk, Bool.and_eq_true, decide_eq_true_eq] at hch
    obtain ⟨hdg, rfl⟩ := hch
    obtain ⟨x, q, rfl, h⟩ := z_num_some h
    exact z_W_un (w := -Int32.ofInt x) (by rw [← Int32.ofInt_neg]; rfl) (hk _ _ _ _ _ h) (fun _ H arr locs cells slots Q rest k => lv_ineg hx hb hdg k)
  case ladd =>
    simp only [z_chk, Bool.and_eq_true, decide_eq_true_eq] at hch
    obtain ⟨hdg, rfl⟩ := hch
    obtain ⟨x, y, q, rfl, h⟩ := z_lon2_some h
    exact z_W_binL (w := Int64.ofInt x + Int64.ofInt y) (by rw [← Int64.ofInt_add]; rfl) (hk _ _ _ _ _ h) (fun _ _ H arr locs cells slots Q rest k => lv_ladd hx hb hdg k)
  case lmul =>
    simp only [z_chk, Bool.and_eq_true, decide_eq_true_eq] at hch
    obtain ⟨hdg, rfl⟩ := hch
    obtain ⟨x, y, q, rfl, h⟩ := z_lon2_some h
    exact z_W_binL (w := Int64.ofInt x * Int64.ofInt y) (by rw [← Int64.ofInt_mul]; rfl) (hk _ _ _ _ _ h) (fun _ _ H arr locs cells slots Q rest k => lv_lmul hx hb hdg k)
  case ldiv =>
    simp only [z_chk, Bool.and_eq_true, decide_eq_true_eq] at hch
    obtain ⟨hdg, rfl⟩ := hch
    obtain ⟨x, y, q, rfl, h⟩ := z_lon2_some h
    obtain ⟨hne, h⟩ := z_iten_some h
    exact z_W_binL rfl (hk _ _ _ _ _ h) (fun _ hy H arr locs cells slots Q rest k => lv_ldiv hx hb hdg (fun z => hne ((z_eq64 hy (by constructor <;> omega)).mp z)) k)
  case lrem =>
    simp only [z_chk, Bool.and_eq_true, decide_eq_true_eq] at hch
    obtain ⟨hdg, rfl⟩ := hch
    obtain ⟨x, y, q, rfl, h⟩ := z_lon2_some h
    obtain ⟨hne, h⟩ := z_iten_some h
    exact z_W_binL rfl (hk _ _ _ _ _ h) (fun _ hy H arr locs cells slots Q rest k => lv_lrem hx hb hdg (fun z => hne ((z_eq64 hy (by constructor <;> omega)).mp z)) k)
  case lcmp =>
    simp only [z_chk, Bool.and_eq_true, decide_eq_true_eq] at hch
    obtain ⟨hdg, rfl⟩ := hch
    obtain ⟨x, y, q, rfl, h⟩ := z_lon2_some h
    refine z_W_st (hk _ _ _ _ _ h) (fun _ _ _ hv => z_ok_cons (by unfold z_lcmp; repeat' split <;> (constructor <;> omega)) (z_ok_tail (z_ok_tail hv).2).2) (fun ad H arr locs cells slots Q J hl hvl hvs k => ?_)
    have hx1 : z_inl x := (z_ok_tail (z_ok_tail hvs).2).1
    have hy1 : z_inl y := (z_ok_tail hvs).1
    refine W.lcmp hx hb hdg ?_
    have hcm : lg_cmp (Int64.ofInt x) (Int64.ofInt y) = Int32.ofInt (z_lcmp x y) := by
      unfold lg_cmp z_lcmp
      simp only [gt_iff_lt, z_lt64 hy1 hx1, z_eq64 hx1 hy1]
      by_cases h1 : y < x
      · simp [h1] <;> rfl
      · by_cases h2 : x = y
        · have h3 : ¬ x < y := by omega
          simp [h2] <;> rfl
        · have h3 : x < y := by omega
          simp [h1, h2, h3] <;> rfl
    rw [hcm]
    exact k
  case i2l =>
    simp only [z_chk, Bool.and_eq_true, decide_eq_true_eq] at hch
    obtain ⟨hdg, rfl⟩ := hch
    obtain ⟨x, q, rfl, h⟩ := z_num_some h
    refine z_W_st (hk _ _ _ _ _ h) (fun _ _ _ hv => z_ok_cons (by have h0 : z_in x := (z_ok_tail hv).1; have h1 := h0.1; have h2 := h0.2; constructor <;> omega) (z_ok_tail hv).2) (fun ad H arr locs cells slots Q J hl hvl hvs k => ?_)
    have h0 : z_in x := (z_ok_tail hvs).1
    refine lv_i2l (v := Int64.ofInt x) hx hb hdg ?_ k
    rw [← Int64.toInt_inj, Int32.toInt_toInt64, z_of32 h0, z_of64 (by have h1 := h0.1; have h2 := h0.2; constructor <;> omega)]
  case l2i =>
    simp only [z_chk, Bool.and_eq_true, decide_eq_true_eq] at hch
    obtain ⟨hdg, rfl⟩ := hch
    obtain ⟨x, q, rfl, h⟩ := z_lon_some h
    refine z_W_st (hk _ _ _ _ _ h) (fun _ _ _ hv => z_ok_cons (z_in32 _) (z_ok_tail hv).2) (fun ad H arr locs cells slots Q J hl hvl hvs k => ?_)
    refine lv_l2i (v := Int32.ofInt (z_w x)) hx hb hdg ?_ k
    rw [z_ofw]; exact Int64.toInt32_ofInt
  case i2b =>
    simp only [z_chk, Bool.and_eq_true, decide_eq_true_eq] at hch
    obtain ⟨hdg, rfl⟩ := hch
    obtain ⟨x, q, rfl, h⟩ := z_num_some h
    exact z_W_un rfl (hk _ _ _ _ _ h) (fun _ H arr locs cells slots Q rest k => lv_i2b hx hb hdg rfl k)
  case i2c =>
    simp only [z_chk, Bool.and_eq_true, decide_eq_true_eq] at hch
    obtain ⟨hdg, rfl⟩ := hch
    obtain ⟨x, q, rfl, h⟩ := z_num_some h
    exact z_W_un rfl (hk _ _ _ _ _ h) (fun _ H arr locs cells slots Q rest k => lv_i2c hx hb hdg rfl k)
  case pop =>
    simp only [z_chk, Bool.and_eq_true, decide_eq_true_eq] at hch
    obtain ⟨hdg, rfl⟩ := hch
    obtain ⟨v, q, rfl, hv, h⟩ := z_any_some h
    exact z_W_st (hk _ _ _ _ _ h) (fun _ _ _ hvs => (z_ok_tail hvs).2) (fun ad H arr locs cells slots Q J hl hvl hvs k => lv_pop hx hb hdg ((z_cat_cv ad v).trans hv) k)
  case dup =>
    simp only [z_chk, Bool.and_eq_true, decide_eq_true_eq] at hch
    obtain ⟨hdg, rfl⟩ := hch
    obtain ⟨v, q, rfl, hv, h⟩ := z_any_some h
    exact z_W_st (hk _ _ _ _ _ h) (fun _ _ _ hvs => z_ok_cons (z_ok_tail hvs).1 hvs) (fun ad H arr locs cells slots Q J hl hvl hvs k => lv_dup hx hb hdg ((z_cat_cv ad v).trans hv) k)
  case dup_x1 =>
    simp only [z_chk, Bool.and_eq_true, decide_eq_true_eq] at hch
    obtain ⟨hdg, rfl⟩ := hch
    obtain ⟨v, q, rfl, hv, h⟩ := z_any_some h
    obtain ⟨w, q, rfl, hw, h⟩ := z_any_some h
    exact z_W_st (hk _ _ _ _ _ h) (fun _ _ _ hvs => z_ok_cons (z_ok_tail hvs).1 (z_ok_cons (z_ok_tail (z_ok_tail hvs).2).1 (z_ok_cons (z_ok_tail hvs).1 (z_ok_tail (z_ok_tail hvs).2).2))) (fun ad H arr locs cells slots Q J hl hvl hvs k => lv_dup_x1 hx hb hdg ((z_cat_cv ad v).trans hv) ((z_cat_cv ad w).trans hw) k)
  case dup2 =>
    simp only [z_chk, Bool.and_eq_true, decide_eq_true_eq] at hch
    obtain ⟨hdg, rfl⟩ := hch
    obtain ⟨v, q, rfl, hv, h⟩ := z_any_some h
    obtain ⟨w, q, rfl, hw, h⟩ := z_any_some h
    exact z_W_st (hk _ _ _ _ _ h) (fun _ _ _ hvs => z_ok_cons (z_ok_tail hvs).1 (z_ok_cons (z_ok_tail (z_ok_tail hvs).2).1 hvs)) (fun ad H arr locs cells slots Q J hl hvl hvs k => lv_dup2_11 hx hb hdg ((z_cat_cv ad v).trans hv) ((z_cat_cv ad w).trans hw) k)
  case ifCond cnd off =>
    simp only [z_chk, Bool.and_eq_true, decide_eq_true_eq] at hch
    obtain ⟨hdg, rfl, hoff⟩ := hch
    obtain ⟨x, q, rfl, h2⟩ := z_num_some h
    clear h
    unfold z_if at h2
    cases cnd <;> dsimp only at h2
    case eq =>
      refine z_W_br (P := x = 0) (fun hP => hk _ _ _ _ _ (by rw [if_pos hP] at h2; exact h2)) (fun hP => hk _ _ _ _ _ (by rw [if_neg hP] at h2; exact h2)) (fun hv => (z_ok_tail hv).2) (fun ad H arr locs cells slots Q hvs kt kf => ?_)
      have hx1 : z_in x := (z_ok_tail hvs).1
      exact lv_if_eq hx hb hdg hoff (fun z => kt ((z_eq32 hx1 z_in0).mp z)) (fun z => kf (fun z2 => z ((z_eq32 hx1 z_in0).mpr z2)))
    case ne =>
      refine z_W_br (P := x ≠ 0) (fun hP => hk _ _ _ _ _ (by rw [if_pos hP] at h2; exact h2)) (fun hP => hk _ _ _ _ _ (by rw [if_neg hP] at h2; exact h2)) (fun hv => (z_ok_tail hv).2) (fun ad H arr locs cells slots Q hvs kt kf => ?_)
      have hx1 : z_in x := (z_ok_tail hvs).1
      exact lv_if_ne hx hb hdg hoff (fun z => kt ((not_congr (z_eq32 hx1 z_in0)).mp z)) (fun z => kf (fun z2 => z2 ((z_eq32 hx1 z_in0).mp z)))
    case lt =>
      refine z_W_br (P := x < 0) (fun hP => hk _ _ _ _ _ (by rw [if_pos hP] at h2; exact h2)) (fun hP => hk _ _ _ _ _ (by rw [if_neg hP] at h2; exact h2)) (fun hv => (z_ok_tail hv).2) (fun ad H arr locs cells slots Q hvs kt kf => ?_)
      have hx1 : z_in x := (z_ok_tail hvs).1
      exact lv_if_lt hx hb hdg hoff (fun z => kt ((z_lt32 hx1 z_in0).mp z)) (fun z => kf (fun z2 => z ((z_lt32 hx1 z_in0).mpr z2)))
    case ge =>
      refine z_W_br (P := 0 ≤ x) (fun hP => hk _ _ _ _ _ (by rw [if_pos hP] at h2; exact h2)) (fun hP => hk _ _ _ _ _ (by rw [if_neg hP] at h2; exact h2)) (fun hv => (z_ok_tail hv).2) (fun ad H arr locs cells slots Q hvs kt kf => ?_)
      have hx1 : z_in x := (z_ok_tail hvs).1
      exact lv_if_ge hx hb hdg hoff (fun z => kt ((z_le32 z_in0 hx1).mp z)) (fun z => kf (fun z2 => z ((z_le32 z_in0 hx1).mpr z2)))
    case gt =>
      refine z_W_br (P := 0 < x) (fun hP => hk _ _ _ _ _ (by rw [if_pos hP] at h2; exact h2)) (fun hP => hk _ _ _ _ _ (by rw [if_neg hP] at h2; exact h2)) (fun hv => (z_ok_tail hv).2) (fun ad H arr locs cells slots Q hvs kt kf => ?_)
      have hx1 : z_in x := (z_ok_tail hvs).1
      exact lv_if_gt hx hb hdg hoff (fun z => kt ((z_lt32 z_in0 hx1).mp z)) (fun z => kf (fun z2 => z ((z_lt32 z_in0 hx1).mpr z2)))
    case le =>
      refine z_W_br (P := x ≤ 0) (fun hP => hk _ _ _ _ _ (by rw [if_pos hP] at h2; exact h2)) (fun hP => hk _ _ _ _ _ (by rw [if_neg hP] at h2; exact h2)) (fun hv => (z_ok_tail hv).2) (fun ad H arr locs cells slots Q hvs kt kf => ?_)
      have hx1 : z_in x := (z_ok_tail hvs).1
      exact lv_if_le hx hb hdg hoff (fun z => kt ((z_le32 hx1 z_in0).mp z)) (fun z => kf (fun z2 => z ((z_le32 hx1 z_in0).mpr z2)))
  case if_icmp cnd off =>
    simp only [z_chk, Bool.and_eq_true, decide_eq_true_eq] at hch
    obtain ⟨hdg, rfl, hoff⟩ := hch
    obtain ⟨x, y, q, rfl, h2⟩ := z_num2_some h
    clear h
    unfold z_if at h2
    cases cnd <;> dsimp only at h2
    case eq =>
      refine z_W_br (P := x = y) (fun hP => hk _ _ _ _ _ (by rw [if_pos hP] at h2; exact h2)) (fun hP => hk _ _ _ _ _ (by rw [if_neg hP] at h2; exact h2)) (fun hv => (z_ok_tail (z_ok_tail hv).2).2) (fun ad H arr locs cells slots Q hvs kt kf => ?_)
      have hx1 : z_in x := (z_ok_tail (z_ok_tail hvs).2).1
      have hy : z_in y := (z_ok_tail hvs).1
      exact lv_icmp_eq hx hb hdg hoff (fun z => kt ((z_eq32 hx1 hy).mp z)) (fun z => kf (fun z2 => z ((z_eq32 hx1 hy).mpr z2)))
    case ne =>
      refine z_W_br (P := x ≠ y) (fun hP => hk _ _ _ _ _ (by rw [if_pos hP] at h2; exact h2)) (fun hP => hk _ _ _ _ _ (by rw [if_neg hP] at h2; exact h2)) (fun hv => (z_ok_tail (z_ok_tail hv).2).2) (fun ad H arr locs cells slots Q hvs kt kf => ?_)
      have hx1 : z_in x := (z_ok_tail (z_ok_tail hvs).2).1
      have hy : z_in y := (z_ok_tail hvs).1
      exact lv_icmp_ne hx hb hdg hoff (fun z => kt ((not_congr (z_eq32 hx1 hy)).mp z)) (fun z => kf (fun z2 => z2 ((z_eq32 hx1 hy).mp z)))
    case lt =>
      refine z_W_br (P := x < y) (fun hP => hk _ _ _ _ _ (by rw [if_pos hP] at h2; exact h2)) (fun hP => hk _ _ _ _ _ (by rw [if_neg hP] at h2; exact h2)) (fun hv => (z_ok_tail (z_ok_tail hv).2).2) (fun ad H arr locs cells slots Q hvs kt kf => ?_)
      have hx1 : z_in x := (z_ok_tail (z_ok_tail hvs).2).1
      have hy : z_in y := (z_ok_tail hvs).1
      exact lv_icmp_lt hx hb hdg hoff (fun z => kt ((z_lt32 hx1 hy).mp z)) (fun z => kf (fun z2 => z ((z_lt32 hx1 hy).mpr z2)))
    case ge =>
      refine z_W_br (P := y ≤ x) (fun hP => hk _ _ _ _ _ (by rw [if_pos hP] at h2; exact h2)) (fun hP => hk _ _ _ _ _ (by rw [if_neg hP] at h2; exact h2)) (fun hv => (z_ok_tail (z_ok_tail hv).2).2) (fun ad H arr locs cells slots Q hvs kt kf => ?_)
      have hx1 : z_in x := (z_ok_tail (z_ok_tail hvs).2).1
      have hy : z_in y := (z_ok_tail hvs).1
      exact lv_icmp_ge hx hb hdg hoff (fun z => kt ((z_le32 hy hx1).mp z)) (fun z => kf (fun z2 => z ((z_le32 hy hx1).mpr z2)))
    case gt =>
      refine z_W_br (P := y < x) (fun hP => hk _ _ _ _ _ (by rw [if_pos hP] at h2; exact h2)) (fun hP => hk _ _ _ _ _ (by rw [if_neg hP] at h2; exact h2)) (fun hv => (z_ok_tail (z_ok_tail hv).2).2) (fun ad H arr locs cells slots Q hvs kt kf => ?_)
      have hx1 : z_in x := (z_ok_tail (z_ok_tail hvs).2).1
      have hy : z_in y := (z_ok_tail hvs).1
      exact lv_icmp_gt hx hb hdg hoff (fun z => kt ((z_lt32 hy hx1).mp z)) (fun z => kf (fun z2 => z ((z_lt32 hy hx1).mpr z2)))
    case le =>
      refine z_W_br (P := x ≤ y) (fun hP => hk _ _ _ _ _ (by rw [if_pos hP] at h2; exact h2)) (fun hP => hk _ _ _ _ _ (by rw [if_neg hP] at h2; exact h2)) (fun hv => (z_ok_tail (z_ok_tail hv).2).2) (fun ad H arr locs cells slots Q hvs kt kf => ?_)
      have hx1 : z_in x := (z_ok_tail (z_ok_tail hvs).2).1
      have hy : z_in y := (z_ok_tail hvs).1
      exact lv_icmp_le hx hb hdg hoff (fun z => kt ((z_le32 hx1 hy).mp z)) (fun z => kf (fun z2 => z ((z_le32 hx1 hy).mpr z2)))
  case ifnull off =>
    simp only [z_chk, Bool.and_eq_true, decide_eq_true_eq] at hch
    obtain ⟨hdg, rfl, hoff⟩ := hch
    obtain ⟨x, q, rfl, h2⟩ := z_ref_some h
    clear h
    refine z_W_br (P := x = 0) (fun hP => hk _ _ _ _ _ (by rw [if_pos hP] at h2; exact h2)) (fun hP => hk _ _ _ _ _ (by rw [if_neg hP] at h2; exact h2)) (fun hv => (z_ok_tail hv).2) (fun ad H arr locs cells slots Q hvs kt kf => ?_)
    by_cases hx0 : x = 0
    · subst hx0
      exact lv_ifnullN hx hb hdg hoff (kt rfl)
    · have hcv : z_cv ad (z_R x) = .ref (ad (x.toNat - 1)) := if_neg hx0
      show W p l e R s m args below meth c H locs cells slots Q (F0 m pc arr (z_cv ad (z_R x) :: q.map (z_cv ad)))
      rw [hcv]
      exact lv_ifnull hx hb hdg (kf hx0)
  case ifnonnull off =>
    simp only [z_chk, Bool.and_eq_true, decide_eq_true_eq] at hch
    obtain ⟨hdg, rfl, hoff⟩ := hch
    obtain ⟨x, q, rfl, h2⟩ := z_ref_some h
    clear h
    refine z_W_br (P := x = 0) (fun hP => hk _ _ _ _ _ (by rw [if_pos hP] at h2; exact h2)) (fun hP => hk _ _ _ _ _ (by rw [if_neg hP] at h2; exact h2)) (fun hv => (z_ok_tail hv).2) (fun ad H arr locs cells slots Q hvs kt kf => ?_)
    by_cases hx0 : x = 0
    · subst hx0
      exact lv_ifnonnullN hx hb hdg (kt rfl)
    · have hcv : z_cv ad (z_R x) = .ref (ad (x.toNat - 1)) := if_neg hx0
      show W p l e R s m args below meth c H locs cells slots Q (F0 m pc arr (z_cv ad (z_R x) :: q.map (z_cv ad)))
      rw [hcv]
      exact lv_ifnonnull hx hb hdg hoff (kf hx0)
  case goto off =>
    simp only [z_chk, Bool.and_eq_true, decide_eq_true_eq] at hch
    obtain ⟨hdg, rfl, hoff⟩ := hch
    exact z_W_st (hk _ _ _ _ _ h) (fun _ _ _ hv => hv) (fun ad H arr locs cells slots Q J hl hvl hvs k => lv_goto hx hb hdg hoff k)
  case tableswitch dflt lo hi offs =>
    simp only [z_chk, Bool.and_eq_true, decide_eq_true_eq] at hch
    obtain ⟨hdg, ⟨hall, hdf⟩, hhi⟩ := hch
    obtain ⟨x, q, rfl, h⟩ := z_num_some h
    rcases z_sw_some h with ⟨i, t, h1, h2, h3⟩ | ⟨h1, h2⟩
    · rw [List.getElem?_map] at h1
      cases ho : offs.toList[i]? with
      | none => rw [ho] at h1; cases h1
      | some o =>
        rw [ho] at h1
        have h1' : ((pc : Int) + o).toNat = t := Option.some.inj h1
        have hpos : 0 ≤ (pc : Int) + o := of_decide_eq_true (List.all_eq_true.mp hall o (List.mem_of_getElem? ho))
        have hil : i < offs.toList.length := (List.getElem?_eq_some_iff.mp ho).1
        refine z_W_st (hk _ _ _ _ _ h3) (fun _ _ _ hv => (z_ok_tail hv).2) (fun ad H arr locs cells slots Q J hl hvl hvs k => ?_)
        have hx1 : z_in x := (z_ok_tail hvs).1
        exact lv_tableIn (x := Int32.ofInt x) (off := o) (tgt := t) hx hb hdg (by rw [z_of32 hx1]; omega) (by rw [z_of32 hx1]; omega) (by rw [z_of32 hx1, show (x - lo).toNat = i by omega, ← Array.getElem?_toList]; exact ho) (by omega) k
    · refine z_W_st (hk _ _ _ _ _ h2) (fun _ _ _ hv => (z_ok_tail hv).2) (fun ad H arr locs cells slots Q J hl hvl hvs k => ?_)
      have hx1 : z_in x := (z_ok_tail hvs).1
      rw [List.length_map] at h1
      exact lv_tableOut (x := Int32.ofInt x) hx hb hdg (by rw [z_of32 hx1]; omega) (by omega) k
  case getfield x =>
    simp only [z_chk, Bool.and_eq_true, decide_eq_true_eq] at hch
    obtain ⟨hdg, ⟨⟨⟨rfl, ha⟩, hf⟩, hty⟩, hw⟩ := hch
    obtain ⟨o, q, rfl, h⟩ := z_ref_some h
    obtain ⟨hkk, h⟩ := z_ite_some h
    subst hty
    exact z_W_get F hkk ha hf (z_has_mem hw) hdg (hk _ _ _ _ _ h)
  case putfield x =>
    simp only [z_chk, Bool.and_eq_true, decide_eq_true_eq] at hch
    obtain ⟨hdg, ⟨⟨⟨⟨rfl, ha⟩, hf⟩, hty⟩, hw⟩, hfin⟩ := hch
    have hfo := z_fto a ha f hf
    have hfin' : (z_T a f).2.2.2 = false ∨ ((z_my mm).name = "<init>" ∧ (z_T a f).1 = (z_my mm).cls) := by
      simpa only [Bool.or_eq_true, Bool.and_eq_true, decide_eq_true_eq] using hfin
    unfold z_put at h
    subst hty
    split at h
    · next h1 =>
      rw [h1] at hfo
      split at h
      · next v o q =>
        obtain ⟨hcn, h⟩ := z_free_some h
        obtain ⟨hkk, h⟩ := z_ite_some h
        refine z_W_put F hkk ha hf (z_has_mem hw) hfin' hdg ?_ (fun ad => ?_) (fun ad => ?_) (hk _ _ _ _ _ h)
        · rw [h1]; unfold z_fv z_gf z_upd; rw [hcn]; simp
        · have h' : z_isref (z_ty a f) = true := hfo
          have hcv : z_cv ad (.inr (.inl v)) = .null ∨ ∃ y, z_cv ad (.inr (.inl v)) = .ref y := by
            by_cases hv0 : v = 0
            · left; exact if_pos hv0
            · right; exact ⟨_, if_neg hv0⟩
          revert h'; cases z_ty a f <;> intro h' <;> first | (rcases hcv with hcv | ⟨y, hcv⟩ <;> rw [hcv] <;> rfl) | cases h'
        · have h' : z_isref (z_ty a f) = true := hfo
          have hcv : z_cv ad (.inr (.inl v)) = .null ∨ ∃ y, z_cv ad (.inr (.inl v)) = .ref y := by
            by_cases hv0 : v = 0
            · left; exact if_pos hv0
            · right; exact ⟨_, if_neg hv0⟩
          revert h'; cases z_ty a f <;> intro h' <;> first | (rcases hcv with hcv | ⟨y, hcv⟩ <;> rw [hcv] <;> rfl) | cases h'
      · cases h
    · next h1 =>
      rw [h1] at hfo
      have hte : z_ty a f = .long := of_decide_eq_true hfo
      split at h
      · obtain ⟨hkk, h⟩ := z_ite_some h
        refine z_W_put F hkk ha hf (z_has_mem hw) hfin' hdg ?_ (fun ad => by rw [hte]; rfl) (fun ad => by rw [hte]; rfl) (hk _ _ _ _ _ h)
        rw [h1]; unfold z_fv z_upd; simp
      · cases h
    · next h1 =>
      rw [h1] at hfo
      have hte : z_ty a f = .boolean := of_decide_eq_true hfo
      split at h
      · obtain ⟨h01, h⟩ := z_ite_some h
        obtain ⟨hkk, h⟩ := z_ite_some h
        refine z_W_put F hkk ha hf (z_has_mem hw) hfin' hdg ?_ (fun ad => by rw [hte]; exact z_bool01 h01) (fun ad => by rw [hte]; rcases h01 with rfl | rfl <;> rfl) (hk _ _ _ _ _ h)
        rw [h1]; unfold z_fv z_upd; simp
      · cases h
    · next h1 h2 h3 =>
      have h0 : z_ft a f = 0 := by
        revert hfo h1 h2 h3; generalize z_ft a f = n; intro hfo h1 h2 h3
        match n, hfo with
        | 0, _ => rfl
        | 1, _ => exact absurd rfl h1
        | 2, _ => exact absurd rfl h2
        | 3, _ => exact absurd rfl h3
        | n + 4, hfo => cases hfo
      rw [h0] at hfo
      have hte : z_ty a f = .int := of_decide_eq_true hfo
      split at h
      · obtain ⟨hkk, h⟩ := z_ite_some h
        refine z_W_put F hkk ha hf (z_has_mem hw) hfin' hdg ?_ (fun ad => by rw [hte]; rfl) (fun ad => by rw [hte]; rfl) (hk _ _ _ _ _ h)
        rw [h0]; unfold z_fv z_upd; simp
      · cases h
  case iaload =>
    simp only [z_chk, Bool.and_eq_true, decide_eq_true_eq] at hch
    obtain ⟨hdg, rfl⟩ := hch
    obtain ⟨i, q, rfl, h⟩ := z_num_some h
    obtain ⟨o, q, rfl, h⟩ := z_ref_some h
    obtain ⟨⟨hkk, h0, h1⟩, h⟩ := z_ite_some h
    exact z_W_ald (ins := .iaload) F (t := 1) (by omega) (by omega) (by omega) h0 h1 (fun hP ha hin k => va_iald hx hb hK hP _ 0 ha hK0 hin hdg k) (hk _ _ _ _ _ h)
  case caload =>
    simp only [z_chk, Bool.and_eq_true, decide_eq_true_eq] at hch
    obtain ⟨hdg, rfl⟩ := hch
    obtain ⟨i, q, rfl, h⟩ := z_num_some h
    obtain ⟨o, q, rfl, h⟩ := z_ref_some h
    obtain ⟨⟨hkk, h0, h1⟩, h⟩ := z_ite_some h
    exact z_W_ald (ins := .caload) F (t := 4) (by omega) (by omega) (by omega) h0 h1 (fun hP ha hin k => va_cald hx hb hK hP _ 3 ha hK3 hin hdg k) (hk _ _ _ _ _ h)
  case baload =>
    simp only [z_chk, Bool.and_eq_true, decide_eq_true_eq] at hch
    obtain ⟨hdg, rfl⟩ := hch
    obtain ⟨i, q, rfl, h⟩ := z_num_some h
    obtain ⟨o, q, rfl, h⟩ := z_ref_some h
    obtain ⟨⟨hkk, h0, h1⟩, h⟩ := z_ite_some h
    rcases hkk with hkk | hkk
    · exact z_W_ald (ins := .baload) F (t := 2) hkk (by omega) (by omega) h0 h1 (fun hP ha hin k => va_zald hx hb hK hP _ 1 ha hK1 hin hdg k) (hk _ _ _ _ _ h)
    · exact z_W_ald (ins := .baload) F (t := 3) hkk (by omega) (by omega) h0 h1 (fun hP ha hin k => va_bald hx hb hK hP _ 2 ha hK2 hin hdg k) (hk _ _ _ _ _ h)
  case iastore =>
    simp only [z_chk, Bool.and_eq_true, decide_eq_true_eq] at hch
    obtain ⟨hdg, rfl⟩ := hch
    obtain ⟨i, v, q, rfl, h⟩ := z_num2_some h
    obtain ⟨o, q, rfl, h⟩ := z_ref_some h
    obtain ⟨⟨hkk, h0, h1⟩, h⟩ := z_ite_some h
    intro hho hso hvl hvs
    exact z_W_ast F (t := 1) hkk (by omega) (by omega) h0 h1 rfl (z_ok_tail hvs).1 (fun hP hD hS ha hin kk => va_iast hx hb hK hP hD hS _ 0 ha hK0 hin hdg kk) (hk _ _ _ _ _ h) hho hso hvl hvs
  case castore =>
    simp only [z_chk, Bool.and_eq_true, decide_eq_true_eq] at hch
    obtain ⟨hdg, rfl⟩ := hch
    obtain ⟨i, v, q, rfl, h⟩ := z_num2_some h
    obtain ⟨o, q, rfl, h⟩ := z_ref_some h
    obtain ⟨⟨hkk, h0, h1⟩, h⟩ := z_ite_some h
    refine z_W_ast F (t := 4) hkk (by omega) (by omega) h0 h1 (g := vp_nar .char (Int32.ofInt v)) ?_ (z_in32 _) (fun hP hD hS ha hin kk => va_cast hx hb hK hP hD hS _ 3 ha hK3 hin hdg kk) (hk _ _ _ _ _ h)
    rw [vp_nar_char, z_u16]
    exact Int32.ofInt_toInt _
  case bastore =>
    simp only [z_chk, Bool.and_eq_true, decide_eq_true_eq] at hch
    obtain ⟨hdg, rfl⟩ := hch
    obtain ⟨i, v, q, rfl, h⟩ := z_num2_some h
    obtain ⟨o, q, rfl, h⟩ := z_ref_some h
    cases hab : Nat.beq a 2 with
    | true =>
      rw [hab] at h
      dsimp only [cond_true] at h
      obtain ⟨h01, h⟩ := z_ite_some h
      obtain ⟨⟨hkk, h0, h1⟩, h⟩ := z_ite_some h
      refine z_W_ast F (t := 2) hkk (by omega) (by omega) h0 h1 (g := vp_nar .boolean (Int32.ofInt v)) ?_ (by rcases h01 with rfl | rfl <;> (constructor <;> omega)) (fun hP hD hS ha hin kk => va_zast hx hb hK hP hD hS _ 1 ha hK1 hin hdg kk) (hk _ _ _ _ _ h)
      rcases h01 with rfl | rfl <;> rfl
    | false =>
      rw [hab] at h
      dsimp only [cond_false] at h
      obtain ⟨⟨hkk, h0, h1⟩, h⟩ := z_ite_some h
      refine z_W_ast F (t := 3) hkk (by omega) (by omega) h0 h1 (g := vp_nar .byte (Int32.ofInt v)) ?_ (z_in32 _) (fun hP hD hS ha hin kk => va_bast hx hb hK hP hD hS _ 2 ha hK2 hin hdg kk) (hk _ _ _ _ _ h)
      rw [vp_nar_byte]
      exact Int32.ofInt_toInt _
  case arraylength =>
    simp only [z_chk, Bool.and_eq_true, decide_eq_true_eq] at hch
    obtain ⟨hdg, rfl⟩ := hch
    obtain ⟨o, q, rfl, h⟩ := z_ref_some h
    obtain ⟨⟨h1, h4⟩, h⟩ := z_ite_some h
    obtain ⟨j, n, rfl, hj, hn, hjl⟩ := z_k_pos (k := z_k hd o) rfl (by omega)
    refine z_W_st (hk _ _ _ _ _ h) (fun _ hho _ hv => z_ok_cons ?_ (z_ok_tail hv).2) (fun ad H arr locs cells slots Q J hl hvl hvs k => ?_)
    · have h9 := (hho j _ hj).1 (by dsimp only; omega)
      rw [hn]
      have h91 := h9.2.2.1
      have h92 := h9.2.2.2
      constructor <;> (dsimp only at h91 h92; omega)
    · have h9 := (J.2.2.2.1 j _ hj).1 (by dsimp only; omega)
      have he : (z_wd dA hc ad hd σ)[j]? = some (ad j, .inl (dA (z_k hd ((j : Int) + 1)), n.toNat, .inl (fun i => Int32.ofInt (σ (j + 1) i)))) := by
        rw [z_wd_get hj]
        unfold z_cell
        rw [if_pos (by dsimp only; omega)]
      have hnn : Int32.ofNat n.toNat = Int32.ofInt (z_n hd ((j : Int) + 1)) := by
        rw [hn, ← Int32.ofInt_eq_ofNat]; congr 1; have := h9.2.2.1; dsimp only at this; omega
      show W p l e R s m args below meth c H locs cells slots Q (F0 m pc arr (z_cv ad (z_R ((j : Int) + 1)) :: q.map (z_cv ad)))
      rw [z_cv_R]
      have h5 : z_k hd ((j : Int) + 1) = 1 ∨ z_k hd ((j : Int) + 1) = 2 ∨ z_k hd ((j : Int) + 1) = 3 ∨ z_k hd ((j : Int) + 1) = 4 := by omega
      rcases h5 with h5 | h5 | h5 | h5 <;> rw [h5] at he
      · exact va_alen hx hb hK J.1 j 0 he hK0 hnn hdg k
      · exact va_alen hx hb hK J.1 j 1 he hK1 hnn hdg k
      · exact va_alen hx hb hK J.1 j 2 he hK2 hnn hdg k
      · exact va_alen hx hb hK J.1 j 3 he hK3 hnn hdg k
  case newarray t =>
    simp only [z_chk, Bool.and_eq_true, decide_eq_true_eq] at hch
    obtain ⟨hdg, ⟨⟨rfl, hat⟩, hpos⟩, hw⟩ := hch
    obtain ⟨n, q, rfl, h⟩ := z_num_some h
    obtain ⟨⟨h0, h1⟩, h⟩ := z_ite_some h
    subst hat
    exact z_W_newa F hRc hRs h0 h1 hpos (z_has_mem hw) hdg (hk _ _ _ _ _ h)
  case new x =>
    simp only [z_chk, Bool.and_eq_true, decide_eq_true_eq] at hch
    obtain ⟨hdg, ⟨⟨⟨⟨rfl, ha⟩, hbn⟩, hw⟩, hw1⟩, hw2⟩ := hch
    obtain ⟨hn, h⟩ := z_free_some h
    subst hbn
    exact z_W_new F hRc hRs (hdyn hn) ha (z_has_mem hw) (List.mem_filter.mpr ⟨hw1, rfl⟩) (List.mem_filter.mpr ⟨hw2, rfl⟩) hdg (hk _ _ _ _ _ h)
  case ireturn =>
    simp only [z_chk, Bool.and_eq_true, decide_eq_true_eq] at hch
    simp only [Bool.or_eq_true, Bool.and_eq_true, decide_eq_true_eq] at hch
    obtain ⟨hdg, rfl, hch⟩ := hch
    unfold z_one at h
    split at h
    · next x =>
      have fin : ∀ ty, z_mr mm = some ty → narrow ty (.int (Int32.ofInt x)) = .int (Int32.ofInt x) → r = (z_I x, hd, σ) → z_W p l e R s m args below meth c dC dI dA hc mm ad0 n0 s0 r pc ls [.inl x] hd σ := by
        intro ty hty hnar hr hho hso hvl hvs
        subst hr
        refine ⟨⟨⟨[], by simp⟩, hho, hso, (z_ok_tail hvs).1⟩, fun ad H arr locs cells slots J hl => ?_⟩
        obtain ⟨hP, hD, hS, -, -, had, hce, hsl⟩ := J
        have e1 : hd.length - n0 = cells := by omega
        have e2 : z_sl hd - s0 = slots := by omega
        show W p l e R s m args below meth c H locs cells slots (MQ below _ args s (hd.length - n0) (z_sl hd - s0) _) _
        rw [e1, e2]
        exact W.zret (ty := ty) hx hb (hret.trans hty) hnar (fun t ht hW => ⟨⟨ad, had, rfl, (z_ok_tail hvs).1, hho, hso, by rw [ht]; exact hP, hD⟩, hS.F ht⟩) hS.2.2 hdg hlk
      rcases hch with ⟨ha, hr⟩ | ⟨ha, hr⟩
      · subst ha
        have h' : (if x = 0 ∨ x = 1 then some (z_I x, hd, σ) else none) = some r := h
        obtain ⟨h01, h'⟩ := z_ite_some h'
        cases h'
        exact fin _ hr (z_bool01 h01) rfl
      · subst ha
        have h' : some (z_I x, hd, σ) = some r := h
        cases h'
        exact fin _ hr rfl rfl
    · cases h
  case return_ =>
    simp only [z_chk, Bool.and_eq_true, decide_eq_true_eq] at hch
    obtain ⟨hdg, rfl, hmr⟩ := hch
    unfold z_end at h
    split at h
    · cases h
      intro hho hso hvl hvs
      refine ⟨⟨⟨[], by simp⟩, hho, hso, trivial⟩, fun ad H arr locs cells slots J hl => ?_⟩
      obtain ⟨hP, hD, hS, -, -, had, hce, hsl⟩ := J
      have e1 : hd.length - n0 = cells := by omega
      have e2 : z_sl hd - s0 = slots := by omega
      show W p l e R s m args below meth c H locs cells slots (MQ below _ args s (hd.length - n0) (z_sl hd - s0) _) _
      rw [e1, e2]
      exact W.vret hx hb (hret.trans hmr) (fun t ht hW => ⟨⟨ad, had, rfl, trivial, hho, hso, by rw [ht]; exact hP, hD⟩, hS.F ht⟩) hS.2.2 hdg hlk
    · cases h
  case invokevirtual x =>
    simp only [z_chk, Bool.and_eq_true, decide_eq_true_eq] at hch
    simp only [z_chkI, Bool.and_eq_true, Bool.or_eq_true, decide_eq_true_eq] at hch
    obtain ⟨hdg, ⟨rfl, hlink⟩, ⟨⟨⟨hkd, hnp⟩, hmr⟩, hcb⟩, hself⟩ := hch
    have hnp : f = z_np a + 1 := hnp
    obtain ⟨hcl, hb13⟩ : z_cl b.toNat = (z_my a).cls ∧ b.toNat < 13 := by rcases hcb with h0 | h0; exact absurd h0 (by decide); exact h0
    obtain ⟨as, qs, rfl, hal, hcq, h⟩ := z_pop_some h
    rw [List.append_nil] at h
    have ok := allok a hself
    obtain ⟨o, t, rfl, hko, h⟩ := z_recv_some h
    obtain ⟨j, n, rfl, hj, -, hjl⟩ := z_k_pos hko (by omega)
    obtain ⟨r', hcall, h⟩ := z_res_some h
    intro hho hso hvl hvs
    have hvas : ∀ v ∈ (z_R ((j : Int) + 1) :: t), z_vok hd.length v := fun v hv => hvs v (List.mem_append_left _ (List.mem_reverse.mpr hv))
    have hvq : ∀ v ∈ qs, z_vok hd.length v := fun v hv => hvs v (List.mem_append_right _ hv)
    obtain ⟨⟨⟨x', hx'⟩, hfh, hfs, hfv⟩, hMet⟩ := IH a (z_R ((j : Int) + 1) :: t) hd σ r' hcall hself hho hso hvas
    have hz := hk _ _ _ _ _ h
    have hB := z_callB (hd := hd) (r' := r') F ok rfl (z_has_mem hlink)
    obtain ⟨m1, m2, m3, m4, m5, m6, m7, m8, m9, m10⟩ := z_mchk_of ok
    have hle : hd.length ≤ r'.2.1.length := by rw [hx', List.length_append]; omega
    obtain ⟨⟨⟨y, hy⟩, hfin⟩, -⟩ := hz hfh hfs (fun v hv => z_vok_le hle (hvl v hv)) (z_rl_ok hfv (fun v hv => z_vok_le hle (hvq v hv)))
    refine ⟨⟨⟨x' ++ y, by rw [hy, hx', List.append_assoc]⟩, hfin⟩, fun ad H arr locs cells slots J hl => ?_⟩
    have hcel := J.2.2.2.2.2.2.1
    have hslo := J.2.2.2.2.2.2.2
    have hl1 : r.2.1.length = r'.2.1.length + y.length := by rw [hy, List.length_append]
    have hl2 : z_sl r.2.1 = z_sl r'.2.1 + z_sl y := by rw [hy, z_sl_app]
    have hl3 : z_sl r'.2.1 = z_sl hd + z_sl x' := by rw [hx', z_sl_app]
    have hroom : cells + (r'.2.1.length - hd.length) ≤ R.cells ∧ slots + (z_sl r'.2.1 - z_sl hd) ≤ R.slots := by rw [hRc, hRs]; constructor <;> omega
    have hcats : ((qs.map (z_cv ad)).map fun v => v.category).sum ≤ 8 := by rw [z_cats_cv]; exact hcq
    have hPre : ∀ U : State, U.heap = H → s.WarmedH U.vm → z_Pc dC dI dA hc (z_R ((j : Int) + 1) :: t) hd σ ad H.size (((z_R ((j : Int) + 1) :: t).map (z_cv ad)).toArray) U := fun U hU hW => ⟨rfl, by rw [hU], by rw [hU]; exact J.1, va_K.moved hW.alike hK, J.2.1.weaken (fun _ _ _ _ => trivial)⟩
    have hstk : ((z_R ((j : Int) + 1) :: t).reverse ++ qs).map (z_cv ad) = (t.map (z_cv ad)).reverse ++ .ref (ad j) :: qs.map (z_cv ad) := by
      rw [List.map_append, List.map_reverse, List.map_cons, z_cv_R, List.reverse_cons, List.append_assoc]; rfl
    rw [hstk]
    rw [List.map_cons, z_cv_R] at hPre
    rw [List.length_cons] at hal
    have h10 : 10 + b.toNat - 10 = b.toNat := by omega
    have hrecv : ∃ cellB : Cell, H[ad j]? = some cellB ∧ cellB.vm.isStatics = false ∧ s.vm.findClass (z_my a).cls = some cellB.cls := by
      have he : (z_wd dA hc ad hd σ)[j]? = some (ad j, .inr (b.toNat, (List.range n.toNat).map (fun f => z_cv ad (z_fv hc σ (j + 1) f (z_ft b.toNat f))))) := by
        rw [z_wd_get hj]
        unfold z_cell
        rw [if_neg (by show ¬ 10 + b.toNat < 10; omega)]
        show some (ad j, Sum.inr (10 + b.toNat - 10, _)) = _
        rw [h10]
      have h0 := va_recv hK J.1 (z_vwCl b.toNat hb13) he
      rw [show (z_cl b.toNat, z_T b.toNat, z_nf b.toNat).1 = (z_my a).cls from hcl] at h0
      exact h0
    exact z_W_ran (va_runV (C := (z_my a).cls) (b := ad j) (As := t.map (z_cv ad)) (rest := qs.map (z_cv ad)) ⟨hx, hb, hml, hown, hts⟩ (hMet ad H.size) ⟨hB, hts _ (m8 (by omega)), hts _ (m9 hkd)⟩ ⟨z_Pc_blind, hrecv, hPre⟩ rfl (by rw [List.length_map]; omega) hl.1.1 rfl (lv_room hcats) hdg hroom) rfl rfl ⟨x', hx'⟩ J hl hvl hvq hz
  case invokespecial x =>
    simp only [z_chk, Bool.and_eq_true, decide_eq_true_eq] at hch
    obtain ⟨hdg, rfl, hch⟩ := hch
    by_cases ha : a = 9998
    · subst ha
      rw [if_pos rfl] at hch
      have h' : (z_ref st fun o r => if 10 ≤ z_k hd o ∧ z_cats r ≤ 8 then k (pc + 3) ls r hd σ else none) = some r := h
      obtain ⟨o, q, rfl, h2⟩ := z_ref_some h'
      obtain ⟨⟨hko, hcq⟩, h3⟩ := z_ite_some h2
      clear h h' h2
      obtain ⟨j, n, rfl, hj, -, hjl⟩ := z_k_pos (k := z_k hd o) rfl (by omega)
      refine z_W_st (hk _ _ _ _ _ h3) (fun _ _ _ hv => (z_ok_tail hv).2) (fun ad H arr locs cells slots Q J hl hvl hvs k => ?_)
      show W p l e R s m args below meth c H locs cells slots Q (F0 m pc arr (z_cv ad (z_R ((j : Int) + 1)) :: q.map (z_cv ad)))
      rw [z_cv_R]
      have hcats : ((q.map (z_cv ad)).map fun v => v.category).sum ≤ 8 := by rw [z_cats_cv]; exact hcq
      exact W.objInit hx hb hown (hts _ (z_has_mem hch)) (hts _ (z_has_mem z_oi1)) (hts _ z_oi2m) rfl (hl.1.1.trans hml.symm) rfl hdg (by rw [hRf]; omega) (by show 2 * 0 + _ + 12 ≤ R.locals; rw [hRl]; omega) k
    · rw [if_neg ha] at hch
      simp only [z_chkI, Bool.and_eq_true, Bool.or_eq_true, decide_eq_true_eq] at hch
      obtain ⟨⟨hlink, ⟨⟨⟨hkd, hnp⟩, hmr⟩, hcb⟩, hself⟩, hmrn⟩ := hch
      have hnp : f = z_np a + 1 := hnp
      have hab : Nat.beq a 9998 = false := by
        rw [← Bool.not_eq_true]; exact fun z => ha (Nat.eq_of_beq_eq_true z)
      rw [hab] at h
      dsimp only [cond_false] at h
      obtain ⟨as, qs, rfl, hal, hcq, h⟩ := z_pop_some h
      rw [List.append_nil] at h
      have ok := allok a hself
      obtain ⟨o, t, rfl, hko, h⟩ := z_recv_some h
      obtain ⟨j, n, rfl, hj, -, hjl⟩ := z_k_pos hko (by omega)
      obtain ⟨r', hcall, h⟩ := z_res_some h
      intro hho hso hvl hvs
      have hvas : ∀ v ∈ (z_R ((j : Int) + 1) :: t), z_vok hd.length v := fun v hv => hvs v (List.mem_append_left _ (List.mem_reverse.mpr hv))
      have hvq : ∀ v ∈ qs, z_vok hd.length v := fun v hv => hvs v (List.mem_append_right _ hv)
      obtain ⟨⟨⟨x', hx'⟩, hfh, hfs, hfv⟩, hMet⟩ := IH a (z_R ((j : Int) + 1) :: t) hd σ r' hcall hself hho hso hvas
      have hz := hk _ _ _ _ _ h
      have hB := z_callB (hd := hd) (r' := r') F ok rfl (z_has_mem hlink)
      obtain ⟨m1, m2, m3, m4, m5, m6, m7, m8, m9, m10⟩ := z_mchk_of ok
      have hle : hd.length ≤ r'.2.1.length := by rw [hx', List.length_append]; omega
      obtain ⟨⟨⟨y, hy⟩, hfin⟩, -⟩ := hz hfh hfs (fun v hv => z_vok_le hle (hvl v hv)) (z_rl_ok hfv (fun v hv => z_vok_le hle (hvq v hv)))
      refine ⟨⟨⟨x' ++ y, by rw [hy, hx', List.append_assoc]⟩, hfin⟩, fun ad H arr locs cells slots J hl => ?_⟩
      have hcel := J.2.2.2.2.2.2.1
      have hslo := J.2.2.2.2.2.2.2
      have hl1 : r.2.1.length = r'.2.1.length + y.length := by rw [hy, List.length_append]
      have hl2 : z_sl r.2.1 = z_sl r'.2.1 + z_sl y := by rw [hy, z_sl_app]
      have hl3 : z_sl r'.2.1 = z_sl hd + z_sl x' := by rw [hx', z_sl_app]
      have hroom : cells + (r'.2.1.length - hd.length) ≤ R.cells ∧ slots + (z_sl r'.2.1 - z_sl hd) ≤ R.slots := by rw [hRc, hRs]; constructor <;> omega
      have hcats : ((qs.map (z_cv ad)).map fun v => v.category).sum ≤ 8 := by rw [z_cats_cv]; exact hcq
      have hPre : ∀ U : State, U.heap = H → s.WarmedH U.vm → z_Pc dC dI dA hc (z_R ((j : Int) + 1) :: t) hd σ ad H.size (((z_R ((j : Int) + 1) :: t).map (z_cv ad)).toArray) U := fun U hU hW => ⟨rfl, by rw [hU], by rw [hU]; exact J.1, va_K.moved hW.alike hK, J.2.1.weaken (fun _ _ _ _ => trivial)⟩
      have hstk : ((z_R ((j : Int) + 1) :: t).reverse ++ qs).map (z_cv ad) = (t.map (z_cv ad)).reverse ++ .ref (ad j) :: qs.map (z_cv ad) := by
        rw [List.map_append, List.map_reverse, List.map_cons, z_cv_R, List.reverse_cons, List.append_assoc]; rfl
      rw [hstk]
      rw [List.map_cons, z_cv_R] at hPre
      rw [List.length_cons] at hal
      rw [hmrn] at hB
      exact z_W_ran (va_runI (b := ad j) (As := t.map (z_cv ad)) (rest := qs.map (z_cv ad)) ⟨hx, hb, hml, hown, hts⟩ (hMet ad H.size) ⟨hB, m10 hkd, hts _ (m8 (by omega))⟩ ⟨z_Pc_blind, hPre⟩ rfl (by rw [List.length_map]; omega) hl.1.1 rfl (lv_room hcats) hdg hroom) rfl rfl ⟨x', hx'⟩ J hl hvl hvq hz
  case invokestatic x =>
    simp only [z_chk, Bool.and_eq_true, decide_eq_true_eq] at hch
    obtain ⟨hdg, rfl, hch⟩ := hch
    by_cases ha : 9990 ≤ a
    · have hab : Nat.ble 9990 a = true := Nat.ble_eq_true_of_le ha
      rw [hab] at h
      dsimp only [cond_true] at h
      by_cases h9 : a = 9999
      · subst h9
        rw [if_pos rfl] at hch
        have h' : z_copy hd σ st (fun σ r => k (pc + 3) ls r hd σ) = some r := h
        obtain ⟨n, dp, dd, sp, ss, q, rfl, hcq, hcc, h'⟩ := z_copy_some h'
        exact z_W_copy F hcc hcq (z_has_mem hch) hdg (hk _ _ _ _ _ h')
      · have hab9 : Nat.beq a 9999 = false := by
          rw [← Bool.not_eq_true]; exact fun z => h9 (Nat.eq_of_beq_eq_true z)
        rw [hab9] at h
        dsimp only [cond_false] at h
        rw [if_neg h9] at hch
        unfold z_math at h
        by_cases h5 : a = 9995
        · subst h5
          rw [if_pos rfl] at hch
          have h' : (z_num2 st fun x y q => if z_cats q ≤ 8 then k (pc + 3) ls (z_I (if x < y then y else x) :: q) hd σ else none) = some r := h
          obtain ⟨x, y, q, rfl, h'⟩ := z_num2_some h'
          obtain ⟨hcq, h'⟩ := z_ite_some h'
          refine z_W_math (hk _ _ _ _ _ h') (fun hv => by split <;> first | exact (z_ok_tail hv).1 | exact (z_ok_tail (z_ok_tail hv).2).1) (fun hv => (z_ok_tail (z_ok_tail hv).2).2) hRc hRs (fun ad H arr locs cells slots Q hl hvs hcc hcs k => ?_)
          have hx1 : z_in x := (z_ok_tail (z_ok_tail hvs).2).1
          have hy1 : z_in y := (z_ok_tail hvs).1
          refine va_mmax hx hb (hml.trans hl.1.1.symm) hown (hts _ (z_has_mem hch)) (hts _ (z_mem_of z_ms_max rfl)) (hts _ (z_has_mem z_iniMath)) (hts _ (z_mem_of z_mc_max rfl)) (by rw [hRf]; omega) (by rw [z_cats_cv, hRl]; omega) hcc hcs hdg ?_
          rw [show (if Int32.ofInt x < Int32.ofInt y then Int32.ofInt y else Int32.ofInt x) = Int32.ofInt (if x < y then y else x) by simp only [z_lt32 hx1 hy1]; split <;> rfl]
          exact k
        · rw [if_neg h5] at hch
          by_cases h6 : a = 9996
          · subst h6
            rw [if_pos rfl] at hch
            have h' : (z_num2 st fun x y q => if z_cats q ≤ 8 then k (pc + 3) ls (z_I (if y < x then y else x) :: q) hd σ else none) = some r := h
            obtain ⟨x, y, q, rfl, h'⟩ := z_num2_some h'
            obtain ⟨hcq, h'⟩ := z_ite_some h'
            refine z_W_math (hk _ _ _ _ _ h') (fun hv => by split <;> first | exact (z_ok_tail hv).1 | exact (z_ok_tail (z_ok_tail hv).2).1) (fun hv => (z_ok_tail (z_ok_tail hv).2).2) hRc hRs (fun ad H arr locs cells slots Q hl hvs hcc hcs k => ?_)
            have hx1 : z_in x := (z_ok_tail (z_ok_tail hvs).2).1
            have hy1 : z_in y := (z_ok_tail hvs).1
            refine va_mmin hx hb (hml.trans hl.1.1.symm) hown (hts _ (z_has_mem hch)) (hts _ (z_mem_of z_ms_min rfl)) (hts _ (z_has_mem z_iniMath)) (hts _ (z_mem_of z_mc_min rfl)) (by rw [hRf]; omega) (by rw [z_cats_cv, hRl]; omega) hcc hcs hdg ?_
            rw [show (if Int32.ofInt y < Int32.ofInt x then Int32.ofInt y else Int32.ofInt x) = Int32.ofInt (if y < x then y else x) by simp only [z_lt32 hy1 hx1]; split <;> rfl]
            exact k
          · rw [if_neg h6] at hch
            by_cases h7 : a = 9997
            · subst h7
              rw [if_pos rfl] at hch
              have h' : (z_num st fun x q => if z_cats q ≤ 8 then k (pc + 3) ls (z_I (if 0 ≤ x then x else z_w (0 - x)) :: q) hd σ else none) = some r := h
              obtain ⟨x, q, rfl, h'⟩ := z_num_some h'
              obtain ⟨hcq, h'⟩ := z_ite_some h'
              refine z_W_math (hk _ _ _ _ _ h') (fun hv => by split <;> first | exact (z_ok_tail hv).1 | exact z_in32 _) (fun hv => (z_ok_tail hv).2) hRc hRs (fun ad H arr locs cells slots Q hl hvs hcc hcs k => ?_)
              have hx1 : z_in x := (z_ok_tail hvs).1
              refine va_mabs hx hb (hml.trans hl.1.1.symm) hown (hts _ (z_has_mem hch)) (hts _ (z_mem_of z_ms_abs rfl)) (hts _ (z_has_mem z_iniMath)) (hts _ (z_mem_of z_mc_abs rfl)) (by rw [hRf]; omega) (by rw [z_cats_cv, hRl]; omega) hcc hcs hdg ?_
              rw [show (if 0 ≤ Int32.ofInt x then Int32.ofInt x else 0 - Int32.ofInt x) = Int32.ofInt (if 0 ≤ x then x else z_w (0 - x)) by
                have h0 : (0 ≤ Int32.ofInt x) ↔ 0 ≤ x := z_le32 z_in0 hx1
                simp only [h0]; split
                · rfl
                · rw [z_ofw, Int32.ofInt_sub]; rfl]
              exact k
            · rw [if_neg h7] at hch
              simp only [Bool.and_eq_true, decide_eq_true_eq] at hch
              omega
    · have hab : Nat.ble 9990 a = false := by
        rw [← Bool.not_eq_true]; exact fun z => ha (Nat.le_of_ble_eq_true z)
      rw [hab] at h
      dsimp only [cond_false] at h
      rw [if_neg (by omega), if_neg (by omega), if_neg (by omega), if_neg (by omega)] at hch
      simp only [z_chkI, Bool.and_eq_true, Bool.or_eq_true, decide_eq_true_eq] at hch
      obtain ⟨⟨h9990, hlink⟩, ⟨⟨⟨hkd, hnp⟩, hmr⟩, hcb⟩, hself⟩ := hch
      obtain ⟨as, qs, rfl, hal, hcq, h⟩ := z_pop_some h
      rw [List.append_nil] at h
      have ok := allok a hself
      obtain ⟨r', hcall, h⟩ := z_res_some h
      intro hho hso hvl hvs
      have hvas : ∀ v ∈ as, z_vok hd.length v := fun v hv => hvs v (List.mem_append_left _ (List.mem_reverse.mpr hv))
      have hvq : ∀ v ∈ qs, z_vok hd.length v := fun v hv => hvs v (List.mem_append_right _ hv)
      obtain ⟨⟨⟨x', hx'⟩, hfh, hfs, hfv⟩, hMet⟩ := IH a as hd σ r' hcall hself hho hso hvas
      have hz := hk _ _ _ _ _ h
      have hB := z_callB (hd := hd) (r' := r') F ok rfl (z_has_mem hlink)
      obtain ⟨m1, m2, m3, m4, m5, m6, m7, m8, m9, m10⟩ := z_mchk_of ok
      have hle : hd.length ≤ r'.2.1.length := by rw [hx', List.length_append]; omega
      obtain ⟨⟨⟨y, hy⟩, hfin⟩, -⟩ := hz hfh hfs (fun v hv => z_vok_le hle (hvl v hv)) (z_rl_ok hfv (fun v hv => z_vok_le hle (hvq v hv)))
      refine ⟨⟨⟨x' ++ y, by rw [hy, hx', List.append_assoc]⟩, hfin⟩, fun ad H arr locs cells slots J hl => ?_⟩
      have hcel := J.2.2.2.2.2.2.1
      have hslo := J.2.2.2.2.2.2.2
      have hl1 : r.2.1.length = r'.2.1.length + y.length := by rw [hy, List.length_append]
      have hl2 : z_sl r.2.1 = z_sl r'.2.1 + z_sl y := by rw [hy, z_sl_app]
      have hl3 : z_sl r'.2.1 = z_sl hd + z_sl x' := by rw [hx', z_sl_app]
      have hroom : cells + (r'.2.1.length - hd.length) ≤ R.cells ∧ slots + (z_sl r'.2.1 - z_sl hd) ≤ R.slots := by rw [hRc, hRs]; constructor <;> omega
      have hcats : ((qs.map (z_cv ad)).map fun v => v.category).sum ≤ 8 := by rw [z_cats_cv]; exact hcq
      have hPre : ∀ U : State, U.heap = H → s.WarmedH U.vm → z_Pc dC dI dA hc as hd σ ad H.size ((as.map (z_cv ad)).toArray) U := fun U hU hW => ⟨rfl, by rw [hU], by rw [hU]; exact J.1, va_K.moved hW.alike hK, J.2.1.weaken (fun _ _ _ _ => trivial)⟩
      have hstk : (as.reverse ++ qs).map (z_cv ad) = (as.map (z_cv ad)).reverse ++ qs.map (z_cv ad) := by rw [List.map_append, List.map_reverse]
      rw [hstk]
      exact z_W_ran (va_runS (As := as.map (z_cv ad)) (rest := qs.map (z_cv ad)) ⟨hx, hb, hml, hown, hts⟩ (hMet ad H.size) ⟨hB, hts _ (m7 hkd)⟩ ⟨z_Pc_blind, hPre⟩ rfl (by rw [List.length_map, hal, hnp]; simp) hl.1.1 rfl (lv_room hcats) hdg hroom) rfl rfl ⟨x', hx'⟩ J hl hvl hvq hz
end ZT
end
section
section ZFI
variable {p : Program} {l : Launch} {e : Env} {R : Room} {s : State} {m : MethodId} {args : Array Value} {below : List Frame} {meth : Method} {c : Code} {dC : Nat → ClassId} {dI : Nat → Nat → Nat} {dA : Nat → ClassId} {hc : z_C} {mm d : Nat} {ad0 : Nat → Nat} {n0 s0 : Nat} {r : z_Res}
theorem z_sim (F : z_Fix p s m args meth c R dC dI dA mm d) (hRc : R.cells = r.2.1.length - n0) (hRs : R.slots = z_sl r.2.1 - s0) (hdyn : hc 0 0 = none → ∀ o f, hc o f = none) (okm : z_okm mm) (allok : ∀ a, (z_mp a).1 = a → z_okm a) (IH : z_IH l dC dI dA hc d) :
    ∀ (n pc : Nat) (ls st : List z_V) (hd : z_H) (σ : z_S), z_ex (z_ev hc d) hc n mm pc ls st hd σ = some r → z_W p l e R s m args below meth c dC dI dA hc mm ad0 n0 s0 r pc ls st hd σ := by
  intro n
  induction n with
  | zero => intro pc ls st hd σ h; cases h
  | succ n ih =>
    intro pc ls st hd σ h
    unfold z_ex at h
    split at h
    · cases h
    · next e' he =>
      obtain ⟨h1, h2⟩ := z_find_some he
      have := z_step_sim (ls := ls) (st := st) (hd := hd) (σ := σ) F hRc hRs hdyn okm allok IH (fun pc ls st hd σ h => ih pc ls st hd σ h) (List.all_eq_true.mp okm.1 e' h1) h
      rw [h2] at this
      exact this
theorem z_lg_len : ∀ {vs : List Value}, (∀ v ∈ vs, v.category = 1) → (lg_sl vs).length = vs.length
  | [], _ => rfl
  | v :: vs, h => by
    have h1 : v.category = 1 := h v List.mem_cons_self
    have h2 := z_lg_len (fun w hw => h w (List.mem_cons_of_mem _ hw))
    unfold lg_sl at *
    rw [List.flatMap_cons, List.length_append, h2, h1]
    simp; omega
theorem z_lv_args : ∀ {vs : List Value} {i j : Nat} {v : Value}, (∀ v ∈ vs, v.category = 1) → vs[j]? = some v → (i + j, v) ∈ lv_args i vs
  | [], _, _, _, _, h => by simp at h
  | w :: vs, i, 0, v, hc, h => by
    have h' : some w = some v := h
    cases h'
    exact List.mem_cons_self
  | w :: vs, i, j + 1, v, hc, h => by
    have h' : vs[j]? = some v := h
    have h1 : w.category = 1 := hc w List.mem_cons_self
    have h2 := z_lv_args (i := i + 1) (fun w hw => hc w (List.mem_cons_of_mem _ hw)) h'
    unfold lv_args
    rw [h1, if_neg (by decide)]
    refine List.mem_cons_of_mem _ ?_
    rw [show i + (j + 1) = i + 1 + j by omega]
    exact h2
theorem z_arg_cat {ad : Nat → Nat} {v : z_V} (h : z_argb v = true) : (z_cv ad v).category = 1 := by
  rw [z_cat_cv]
  unfold z_argb at h
  unfold z_cat
  split at h
  · rfl
  · rfl
  · cases h
theorem z_met (hdyn : hc 0 0 = none → ∀ o f, hc o f = none) (allok : ∀ a, (z_mp a).1 = a → z_okm a) : ∀ d, z_IH l dC dI dA hc d := by
  intro d
  induction d with
  | zero => intro a as hd σ r h; cases h
  | succ d ih =>
    intro a as hd σ r h hself hho hso hvas
    have ok := allok a hself
    have hfin := z_fin_all hdyn allok (d + 1) a as hd σ r h hself hho hso hvas
    refine ⟨hfin, fun ad sz => ?_⟩
    obtain ⟨h1, h2, n, h3⟩ := z_ev_some h
    obtain ⟨m1, m2, m3, m4, m5, m6, m7, m8, m9, m10⟩ := z_mchk_of ok
    refine Met.ofW (cc := z_mb a) (maxL := z_ml a) (ret := z_mr a) m2 rfl ?_
    intro p e s m args below meth c s₁ B hml hv
    obtain ⟨hargs, hsz, hP, hK, hD0⟩ := hv
    have hts := atoms_spec (ws := z_ws a) B.pre
    have hF : z_Fix p s m args meth c (headSpec (z_ws a) ({ frames := d + 1, cells := r.2.1.length - hd.length, slots := z_sl r.2.1 - z_sl hd, locals := 60 * (d + 1) } : Room)).room dC dI dA a d :=
      ⟨B.exec, B.bytes, hml, findClass_of_methodNamed B.named, fun w hw => hts w (List.mem_cons_of_mem _ hw), B.returns, B.notSynchronized, (name_of_methodNamed B.named B.method).1, hK, rfl, rfl⟩
    have hcat : ∀ v ∈ as.map (z_cv ad), v.category = 1 := fun v hv => by
      obtain ⟨w, hw, rfl⟩ := List.mem_map.mp hv
      exact z_arg_cat (h2 w hw)
    have hw := z_sim (l := l) (e := e) (below := below) (ad0 := ad) (n0 := hd.length) (s0 := z_sl hd) (r := r) hF rfl rfl hdyn ok allok ih n 0 _ _ hd σ h3 hho hso (fun v hv => by
      rcases List.mem_append.mp hv with hv | hv
      · exact hvas v hv
      · rw [List.eq_of_mem_replicate hv]; trivial) (fun v hv => by cases hv)
    subst hargs
    rw [lg_entry_eq]
    have hlen : (lg_sl (as.map (z_cv ad))).length ≤ z_ml a := by rw [z_lg_len hcat, List.length_map]; exact h1
    have hl := lv_entry (as.map (z_cv ad)) (n := z_ml a) hlen
    generalize (lg_sl (as.map (z_cv ad)) ++ List.replicate (z_ml a - (lg_sl (as.map (z_cv ad))).length) Slot.unset).toArray = arr at hl ⊢
    have hfr : ∀ q, z_fr ad hd.length s.heap.size q ↔ z_fr ad hd.length sz q := fun q => by rw [hsz]
    have hD : va_D (z_fr ad hd.length s.heap.size) (z_wd dA hc ad hd σ) := ⟨hD0.1, fun k q hk => by
      have hkl : k < hd.length := by rw [← z_wd_len (dA := dA) (hc := hc) (ad := ad) (σ := σ)]; exact (List.getElem?_eq_some_iff.mp hk).1
      rw [z_wd_get (List.getElem?_eq_getElem hkl)] at hk
      cases hk
      exact Or.inl ⟨k, hkl, rfl⟩⟩
    have k := hw.2 ad s.heap arr [] 0 0 ⟨hP, hD, va_S.rf, hho, hso, fun _ _ => rfl, by omega, by omega⟩ ⟨z_lv_weak hl fun q hq => by
      obtain ⟨v, g1, g2, g3⟩ := z_ll_mem.mp hq
      have hq1 : q.1 < as.length := by
        rcases Nat.lt_or_ge q.1 as.length with g | g
        · exact g
        · rw [List.getElem?_append_right g] at g1
          have := List.eq_of_mem_replicate (List.mem_of_getElem? g1)
          subst this
          cases g2
      rw [List.getElem?_append_left hq1] at g1
      have g4 := z_lv_args (i := 0) hcat (j := q.1) (v := z_cv ad v) (by rw [List.getElem?_map, g1]; rfl)
      rw [Nat.zero_add, ← g3] at g4
      exact g4, by rw [List.length_append, List.length_replicate]; omega⟩
    rw [hsz] at k
    exact k
end ZFI
end
