-- ===== PART A: goes FIRST, ahead of the names: the tables' words, and 'selects' of the private methods out of them =====
/-- a private method of a class that the tables say can be made, by its rows of tables_1 -/
def lw_okq (q : MethodName × Nat) : Prop := (q.1.cls ≠ "java/lang/invoke/MethodHandle" ∧ q.1.cls ≠ "java/lang/invoke/VarHandle") ∧ Cond.instantiable q.1.cls q.2 ∈ tables_1 ∧ Cond.privateMethod q.1 ∈ tables_1 ∧ Cond.instanceMethod q.1 ∈ tables_1
theorem lw_p0 : lw_okq (⟨"FrameRents$Tape", "putByte", "(I)V"⟩, 2) := ⟨⟨by decide +kernel, by decide +kernel⟩, List.mem_of_getElem? (i := 30) (by decide +kernel), List.mem_of_getElem? (i := 483) (by decide +kernel), List.mem_of_getElem? (i := 484) (by decide +kernel)⟩
theorem lw_p1 : lw_okq (⟨"FrameRents$Reader", "start", "(LFrameRents$Sheet;I)V"⟩, 6) := ⟨⟨by decide +kernel, by decide +kernel⟩, List.mem_of_getElem? (i := 45) (by decide +kernel), List.mem_of_getElem? (i := 499) (by decide +kernel), List.mem_of_getElem? (i := 500) (by decide +kernel)⟩
theorem lw_p2 : lw_okq (⟨"FrameRents$Reader", "formula", "()V"⟩, 6) := ⟨⟨by decide +kernel, by decide +kernel⟩, List.mem_of_getElem? (i := 45) (by decide +kernel), List.mem_of_getElem? (i := 507) (by decide +kernel), List.mem_of_getElem? (i := 508) (by decide +kernel)⟩
theorem lw_p3 : lw_okq (⟨"FrameRents$Reader", "next", "()I"⟩, 6) := ⟨⟨by decide +kernel, by decide +kernel⟩, List.mem_of_getElem? (i := 45) (by decide +kernel), List.mem_of_getElem? (i := 511) (by decide +kernel), List.mem_of_getElem? (i := 512) (by decide +kernel)⟩
theorem lw_p4 : lw_okq (⟨"FrameRents$Reader", "fail", "(I)V"⟩, 6) := ⟨⟨by decide +kernel, by decide +kernel⟩, List.mem_of_getElem? (i := 45) (by decide +kernel), List.mem_of_getElem? (i := 519) (by decide +kernel), List.mem_of_getElem? (i := 520) (by decide +kernel)⟩
theorem lw_p5 : lw_okq (⟨"FrameRents$Sheet", "has", "(I)Z"⟩, 12) := ⟨⟨by decide +kernel, by decide +kernel⟩, List.mem_of_getElem? (i := 51) (by decide +kernel), List.mem_of_getElem? (i := 531) (by decide +kernel), List.mem_of_getElem? (i := 532) (by decide +kernel)⟩
theorem lw_p6 : lw_okq (⟨"FrameRents$Reader", "expect", "(C)V"⟩, 6) := ⟨⟨by decide +kernel, by decide +kernel⟩, List.mem_of_getElem? (i := 45) (by decide +kernel), List.mem_of_getElem? (i := 544) (by decide +kernel), List.mem_of_getElem? (i := 545) (by decide +kernel)⟩
theorem lw_p7 : lw_okq (⟨"FrameRents$Reader", "choice", "(I)V"⟩, 6) := ⟨⟨by decide +kernel, by decide +kernel⟩, List.mem_of_getElem? (i := 45) (by decide +kernel), List.mem_of_getElem? (i := 548) (by decide +kernel), List.mem_of_getElem? (i := 549) (by decide +kernel)⟩
theorem lw_p8 : lw_okq (⟨"FrameRents$Reader", "sum", "(I)V"⟩, 6) := ⟨⟨by decide +kernel, by decide +kernel⟩, List.mem_of_getElem? (i := 45) (by decide +kernel), List.mem_of_getElem? (i := 552) (by decide +kernel), List.mem_of_getElem? (i := 553) (by decide +kernel)⟩
theorem lw_p9 : lw_okq (⟨"FrameRents$Reader", "term", "(I)V"⟩, 6) := ⟨⟨by decide +kernel, by decide +kernel⟩, List.mem_of_getElem? (i := 45) (by decide +kernel), List.mem_of_getElem? (i := 556) (by decide +kernel), List.mem_of_getElem? (i := 557) (by decide +kernel)⟩
theorem lw_p10 : lw_okq (⟨"FrameRents$Reader", "bound", "(I)V"⟩, 6) := ⟨⟨by decide +kernel, by decide +kernel⟩, List.mem_of_getElem? (i := 45) (by decide +kernel), List.mem_of_getElem? (i := 560) (by decide +kernel), List.mem_of_getElem? (i := 561) (by decide +kernel)⟩
theorem lw_p11 : lw_okq (⟨"FrameRents$Reader", "factor", "(I)V"⟩, 6) := ⟨⟨by decide +kernel, by decide +kernel⟩, List.mem_of_getElem? (i := 45) (by decide +kernel), List.mem_of_getElem? (i := 564) (by decide +kernel), List.mem_of_getElem? (i := 565) (by decide +kernel)⟩
theorem lw_p12 : lw_okq (⟨"FrameRents$Reader", "inBrackets", "(I)V"⟩, 6) := ⟨⟨by decide +kernel, by decide +kernel⟩, List.mem_of_getElem? (i := 45) (by decide +kernel), List.mem_of_getElem? (i := 568) (by decide +kernel), List.mem_of_getElem? (i := 569) (by decide +kernel)⟩
theorem lw_p13 : lw_okq (⟨"FrameRents$Reader", "digits", "()V"⟩, 6) := ⟨⟨by decide +kernel, by decide +kernel⟩, List.mem_of_getElem? (i := 45) (by decide +kernel), List.mem_of_getElem? (i := 575) (by decide +kernel), List.mem_of_getElem? (i := 576) (by decide +kernel)⟩
theorem lw_p14 : lw_okq (⟨"FrameRents$Reader", "fact", "(I)V"⟩, 6) := ⟨⟨by decide +kernel, by decide +kernel⟩, List.mem_of_getElem? (i := 45) (by decide +kernel), List.mem_of_getElem? (i := 587) (by decide +kernel), List.mem_of_getElem? (i := 588) (by decide +kernel)⟩
theorem lw_p15 : lw_okq (⟨"FrameRents$Reader", "expectEnd", "()V"⟩, 6) := ⟨⟨by decide +kernel, by decide +kernel⟩, List.mem_of_getElem? (i := 45) (by decide +kernel), List.mem_of_getElem? (i := 680) (by decide +kernel), List.mem_of_getElem? (i := 681) (by decide +kernel)⟩
def lw_privs_1 : List (MethodName × Nat) := [(⟨"FrameRents$Tape", "putByte", "(I)V"⟩, 2), (⟨"FrameRents$Reader", "start", "(LFrameRents$Sheet;I)V"⟩, 6), (⟨"FrameRents$Reader", "formula", "()V"⟩, 6), (⟨"FrameRents$Reader", "next", "()I"⟩, 6), (⟨"FrameRents$Reader", "fail", "(I)V"⟩, 6), (⟨"FrameRents$Sheet", "has", "(I)Z"⟩, 12), (⟨"FrameRents$Reader", "expect", "(C)V"⟩, 6), (⟨"FrameRents$Reader", "choice", "(I)V"⟩, 6), (⟨"FrameRents$Reader", "sum", "(I)V"⟩, 6), (⟨"FrameRents$Reader", "term", "(I)V"⟩, 6), (⟨"FrameRents$Reader", "bound", "(I)V"⟩, 6), (⟨"FrameRents$Reader", "factor", "(I)V"⟩, 6), (⟨"FrameRents$Reader", "inBrackets", "(I)V"⟩, 6), (⟨"FrameRents$Reader", "digits", "()V"⟩, 6), (⟨"FrameRents$Reader", "fact", "(I)V"⟩, 6), (⟨"FrameRents$Reader", "expectEnd", "()V"⟩, 6)]
theorem lw_r1 : ∀ q ∈ lw_privs_1, lw_okq q := List.forall_mem_cons.mpr ⟨lw_p0, List.forall_mem_cons.mpr ⟨lw_p1, List.forall_mem_cons.mpr ⟨lw_p2, List.forall_mem_cons.mpr ⟨lw_p3, List.forall_mem_cons.mpr ⟨lw_p4, List.forall_mem_cons.mpr ⟨lw_p5, List.forall_mem_cons.mpr ⟨lw_p6, List.forall_mem_cons.mpr ⟨lw_p7, List.forall_mem_cons.mpr ⟨lw_p8, List.forall_mem_cons.mpr ⟨lw_p9, List.forall_mem_cons.mpr ⟨lw_p10, List.forall_mem_cons.mpr ⟨lw_p11, List.forall_mem_cons.mpr ⟨lw_p12, List.forall_mem_cons.mpr ⟨lw_p13, List.forall_mem_cons.mpr ⟨lw_p14, List.forall_mem_cons.mpr ⟨lw_p15, fun _ h => absurd h List.not_mem_nil⟩⟩⟩⟩⟩⟩⟩⟩⟩⟩⟩⟩⟩⟩⟩⟩
theorem lw_p16 : lw_okq (⟨"FrameRents$Reader", "findRing", "()V"⟩, 6) := ⟨⟨by decide +kernel, by decide +kernel⟩, List.mem_of_getElem? (i := 45) (by decide +kernel), List.mem_of_getElem? (i := 684) (by decide +kernel), List.mem_of_getElem? (i := 685) (by decide +kernel)⟩
theorem lw_p17 : lw_okq (⟨"FrameRents$Sheet", "doesNeed", "(II)Z"⟩, 12) := ⟨⟨by decide +kernel, by decide +kernel⟩, List.mem_of_getElem? (i := 51) (by decide +kernel), List.mem_of_getElem? (i := 692) (by decide +kernel), List.mem_of_getElem? (i := 693) (by decide +kernel)⟩
theorem lw_p18 : lw_okq (⟨"FrameRents$Reader", "answer", "()I"⟩, 6) := ⟨⟨by decide +kernel, by decide +kernel⟩, List.mem_of_getElem? (i := 45) (by decide +kernel), List.mem_of_getElem? (i := 710) (by decide +kernel), List.mem_of_getElem? (i := 711) (by decide +kernel)⟩
theorem lw_p19 : lw_okq (⟨"FrameRents$Prices", "reckon", "(LFrameRents$Sheet;I)J"⟩, 9) := ⟨⟨by decide +kernel, by decide +kernel⟩, List.mem_of_getElem? (i := 123) (by decide +kernel), List.mem_of_getElem? (i := 781) (by decide +kernel), List.mem_of_getElem? (i := 782) (by decide +kernel)⟩
theorem lw_p20 : lw_okq (⟨"FrameRents$Prices", "doStep", "(CI)V"⟩, 9) := ⟨⟨by decide +kernel, by decide +kernel⟩, List.mem_of_getElem? (i := 123) (by decide +kernel), List.mem_of_getElem? (i := 801) (by decide +kernel), List.mem_of_getElem? (i := 802) (by decide +kernel)⟩
theorem lw_p21 : lw_okq (⟨"FrameRents$Prices", "push", "(J)V"⟩, 9) := ⟨⟨by decide +kernel, by decide +kernel⟩, List.mem_of_getElem? (i := 123) (by decide +kernel), List.mem_of_getElem? (i := 805) (by decide +kernel), List.mem_of_getElem? (i := 806) (by decide +kernel)⟩
theorem lw_p22 : lw_okq (⟨"FrameRents$Prices", "factAt", "(I)J"⟩, 9) := ⟨⟨by decide +kernel, by decide +kernel⟩, List.mem_of_getElem? (i := 123) (by decide +kernel), List.mem_of_getElem? (i := 813) (by decide +kernel), List.mem_of_getElem? (i := 814) (by decide +kernel)⟩
theorem lw_p23 : lw_okq (⟨"FrameRents$Prices", "pop", "()J"⟩, 9) := ⟨⟨by decide +kernel, by decide +kernel⟩, List.mem_of_getElem? (i := 123) (by decide +kernel), List.mem_of_getElem? (i := 817) (by decide +kernel), List.mem_of_getElem? (i := 818) (by decide +kernel)⟩
theorem lw_p24 : lw_okq (⟨"FrameRents", "idleWeeks", "(III)I"⟩, 12) := ⟨⟨by decide +kernel, by decide +kernel⟩, List.mem_of_getElem? (i := 22) (by decide +kernel), List.mem_of_getElem? (i := 861) (by decide +kernel), List.mem_of_getElem? (i := 862) (by decide +kernel)⟩
theorem lw_p25 : lw_okq (⟨"FrameRents", "reckonWeek", "(IIII)Z"⟩, 12) := ⟨⟨by decide +kernel, by decide +kernel⟩, List.mem_of_getElem? (i := 22) (by decide +kernel), List.mem_of_getElem? (i := 877) (by decide +kernel), List.mem_of_getElem? (i := 878) (by decide +kernel)⟩
theorem lw_p26 : lw_okq (⟨"FrameRents", "setFactsOfFrame", "(II)V"⟩, 12) := ⟨⟨by decide +kernel, by decide +kernel⟩, List.mem_of_getElem? (i := 22) (by decide +kernel), List.mem_of_getElem? (i := 881) (by decide +kernel), List.mem_of_getElem? (i := 882) (by decide +kernel)⟩
theorem lw_p27 : lw_okq (⟨"FrameRents$Prices", "actAt", "(I)LFrameRents$Sheet;"⟩, 9) := ⟨⟨by decide +kernel, by decide +kernel⟩, List.mem_of_getElem? (i := 123) (by decide +kernel), List.mem_of_getElem? (i := 917) (by decide +kernel), List.mem_of_getElem? (i := 918) (by decide +kernel)⟩
theorem lw_p28 : lw_okq (⟨"FrameRents$Prices", "boundBy", "(LFrameRents$Sheet;)V"⟩, 9) := ⟨⟨by decide +kernel, by decide +kernel⟩, List.mem_of_getElem? (i := 123) (by decide +kernel), List.mem_of_getElem? (i := 921) (by decide +kernel), List.mem_of_getElem? (i := 922) (by decide +kernel)⟩
theorem lw_p29 : lw_okq (⟨"FrameRents$Prices", "worthOf", "(I)J"⟩, 9) := ⟨⟨by decide +kernel, by decide +kernel⟩, List.mem_of_getElem? (i := 123) (by decide +kernel), List.mem_of_getElem? (i := 929) (by decide +kernel), List.mem_of_getElem? (i := 930) (by decide +kernel)⟩
theorem lw_p30 : lw_okq (⟨"FrameRents$BagmanBook", "has", "(I)Z"⟩, 6) := ⟨⟨by decide +kernel, by decide +kernel⟩, List.mem_of_getElem? (i := 236) (by decide +kernel), List.mem_of_getElem? (i := 996) (by decide +kernel), List.mem_of_getElem? (i := 997) (by decide +kernel)⟩
theorem lw_p31 : lw_okq (⟨"FrameRents", "dozensMade", "(III)I"⟩, 12) := ⟨⟨by decide +kernel, by decide +kernel⟩, List.mem_of_getElem? (i := 22) (by decide +kernel), List.mem_of_getElem? (i := 1000) (by decide +kernel), List.mem_of_getElem? (i := 1001) (by decide +kernel)⟩
def lw_privs_2 : List (MethodName × Nat) := [(⟨"FrameRents$Reader", "findRing", "()V"⟩, 6), (⟨"FrameRents$Sheet", "doesNeed", "(II)Z"⟩, 12), (⟨"FrameRents$Reader", "answer", "()I"⟩, 6), (⟨"FrameRents$Prices", "reckon", "(LFrameRents$Sheet;I)J"⟩, 9), (⟨"FrameRents$Prices", "doStep", "(CI)V"⟩, 9), (⟨"FrameRents$Prices", "push", "(J)V"⟩, 9), (⟨"FrameRents$Prices", "factAt", "(I)J"⟩, 9), (⟨"FrameRents$Prices", "pop", "()J"⟩, 9), (⟨"FrameRents", "idleWeeks", "(III)I"⟩, 12), (⟨"FrameRents", "reckonWeek", "(IIII)Z"⟩, 12), (⟨"FrameRents", "setFactsOfFrame", "(II)V"⟩, 12), (⟨"FrameRents$Prices", "actAt", "(I)LFrameRents$Sheet;"⟩, 9), (⟨"FrameRents$Prices", "boundBy", "(LFrameRents$Sheet;)V"⟩, 9), (⟨"FrameRents$Prices", "worthOf", "(I)J"⟩, 9), (⟨"FrameRents$BagmanBook", "has", "(I)Z"⟩, 6), (⟨"FrameRents", "dozensMade", "(III)I"⟩, 12)]
theorem lw_r2 : ∀ q ∈ lw_privs_2, lw_okq q := List.forall_mem_cons.mpr ⟨lw_p16, List.forall_mem_cons.mpr ⟨lw_p17, List.forall_mem_cons.mpr ⟨lw_p18, List.forall_mem_cons.mpr ⟨lw_p19, List.forall_mem_cons.mpr ⟨lw_p20, List.forall_mem_cons.mpr ⟨lw_p21, List.forall_mem_cons.mpr ⟨lw_p22, List.forall_mem_cons.mpr ⟨lw_p23, List.forall_mem_cons.mpr ⟨lw_p24, List.forall_mem_cons.mpr ⟨lw_p25, List.forall_mem_cons.mpr ⟨lw_p26, List.forall_mem_cons.mpr ⟨lw_p27, List.forall_mem_cons.mpr ⟨lw_p28, List.forall_mem_cons.mpr ⟨lw_p29, List.forall_mem_cons.mpr ⟨lw_p30, List.forall_mem_cons.mpr ⟨lw_p31, fun _ h => absurd h List.not_mem_nil⟩⟩⟩⟩⟩⟩⟩⟩⟩⟩⟩⟩⟩⟩⟩⟩
theorem lw_p32 : lw_okq (⟨"FrameRents", "fillGains", "()V"⟩, 12) := ⟨⟨by decide +kernel, by decide +kernel⟩, List.mem_of_getElem? (i := 22) (by decide +kernel), List.mem_of_getElem? (i := 1013) (by decide +kernel), List.mem_of_getElem? (i := 1014) (by decide +kernel)⟩
theorem lw_p33 : lw_okq (⟨"FrameRents", "idleIfNothingNow", "(I)I"⟩, 12) := ⟨⟨by decide +kernel, by decide +kernel⟩, List.mem_of_getElem? (i := 22) (by decide +kernel), List.mem_of_getElem? (i := 1017) (by decide +kernel), List.mem_of_getElem? (i := 1018) (by decide +kernel)⟩
theorem lw_p34 : lw_okq (⟨"FrameRents$Order", "hasRoom", "()Z"⟩, 12) := ⟨⟨by decide +kernel, by decide +kernel⟩, List.mem_of_getElem? (i := 262) (by decide +kernel), List.mem_of_getElem? (i := 1025) (by decide +kernel), List.mem_of_getElem? (i := 1026) (by decide +kernel)⟩
theorem lw_p35 : lw_okq (⟨"FrameRents$Order", "fillBest", "()V"⟩, 12) := ⟨⟨by decide +kernel, by decide +kernel⟩, List.mem_of_getElem? (i := 262) (by decide +kernel), List.mem_of_getElem? (i := 1037) (by decide +kernel), List.mem_of_getElem? (i := 1038) (by decide +kernel)⟩
theorem lw_p36 : lw_okq (⟨"FrameRents$Order", "gainWith", "(III)J"⟩, 12) := ⟨⟨by decide +kernel, by decide +kernel⟩, List.mem_of_getElem? (i := 262) (by decide +kernel), List.mem_of_getElem? (i := 1044) (by decide +kernel), List.mem_of_getElem? (i := 1045) (by decide +kernel)⟩
theorem lw_p37 : lw_okq (⟨"FrameRents$Order", "bestAt", "(II)J"⟩, 12) := ⟨⟨by decide +kernel, by decide +kernel⟩, List.mem_of_getElem? (i := 262) (by decide +kernel), List.mem_of_getElem? (i := 1048) (by decide +kernel), List.mem_of_getElem? (i := 1049) (by decide +kernel)⟩
theorem lw_p38 : lw_okq (⟨"FrameRents$Order", "gainAt", "(II)J"⟩, 12) := ⟨⟨by decide +kernel, by decide +kernel⟩, List.mem_of_getElem? (i := 262) (by decide +kernel), List.mem_of_getElem? (i := 1052) (by decide +kernel), List.mem_of_getElem? (i := 1053) (by decide +kernel)⟩
theorem lw_p39 : lw_okq (⟨"FrameRents$Order", "shareOut", "()V"⟩, 12) := ⟨⟨by decide +kernel, by decide +kernel⟩, List.mem_of_getElem? (i := 262) (by decide +kernel), List.mem_of_getElem? (i := 1057) (by decide +kernel), List.mem_of_getElem? (i := 1058) (by decide +kernel)⟩
theorem lw_p40 : lw_okq (⟨"FrameRents$Order", "fewest", "(II)I"⟩, 12) := ⟨⟨by decide +kernel, by decide +kernel⟩, List.mem_of_getElem? (i := 262) (by decide +kernel), List.mem_of_getElem? (i := 1061) (by decide +kernel), List.mem_of_getElem? (i := 1062) (by decide +kernel)⟩
theorem lw_p41 : lw_okq (⟨"FrameRents", "isSomeone", "(I)Z"⟩, 12) := ⟨⟨by decide +kernel, by decide +kernel⟩, List.mem_of_getElem? (i := 22) (by decide +kernel), List.mem_of_getElem? (i := 1121) (by decide +kernel), List.mem_of_getElem? (i := 1122) (by decide +kernel)⟩
theorem lw_p42 : lw_okq (⟨"FrameRents$Debts", "mostGroups", "(I)I"⟩, 5) := ⟨⟨by decide +kernel, by decide +kernel⟩, List.mem_of_getElem? (i := 326) (by decide +kernel), List.mem_of_getElem? (i := 1149) (by decide +kernel), List.mem_of_getElem? (i := 1150) (by decide +kernel)⟩
theorem lw_p43 : lw_okq (⟨"FrameRents$Debts", "takeSet", "(II)V"⟩, 5) := ⟨⟨by decide +kernel, by decide +kernel⟩, List.mem_of_getElem? (i := 326) (by decide +kernel), List.mem_of_getElem? (i := 1153) (by decide +kernel), List.mem_of_getElem? (i := 1154) (by decide +kernel)⟩
theorem lw_p44 : lw_okq (⟨"FrameRents$Fund", "dueTo", "(ILFrameRents$Town;)I"⟩, 3) := ⟨⟨by decide +kernel, by decide +kernel⟩, List.mem_of_getElem? (i := 348) (by decide +kernel), List.mem_of_getElem? (i := 1195) (by decide +kernel), List.mem_of_getElem? (i := 1196) (by decide +kernel)⟩
theorem lw_p45 : lw_okq (⟨"FrameRents", "countOf", "(I)I"⟩, 12) := ⟨⟨by decide +kernel, by decide +kernel⟩, List.mem_of_getElem? (i := 22) (by decide +kernel), List.mem_of_getElem? (i := 1221) (by decide +kernel), List.mem_of_getElem? (i := 1222) (by decide +kernel)⟩
theorem lw_p46 : lw_okq (⟨"FrameRentsModel", "isMaster", "(I)Z"⟩, 89) := ⟨⟨by decide +kernel, by decide +kernel⟩, List.mem_of_getElem? (i := 1225) (by decide +kernel), List.mem_of_getElem? (i := 1503) (by decide +kernel), List.mem_of_getElem? (i := 1504) (by decide +kernel)⟩
theorem lw_p47 : lw_okq (⟨"FrameRentsModel", "isKnitter", "(I)Z"⟩, 89) := ⟨⟨by decide +kernel, by decide +kernel⟩, List.mem_of_getElem? (i := 1225) (by decide +kernel), List.mem_of_getElem? (i := 1518) (by decide +kernel), List.mem_of_getElem? (i := 1519) (by decide +kernel)⟩
def lw_privs_3 : List (MethodName × Nat) := [(⟨"FrameRents", "fillGains", "()V"⟩, 12), (⟨"FrameRents", "idleIfNothingNow", "(I)I"⟩, 12), (⟨"FrameRents$Order", "hasRoom", "()Z"⟩, 12), (⟨"FrameRents$Order", "fillBest", "()V"⟩, 12), (⟨"FrameRents$Order", "gainWith", "(III)J"⟩, 12), (⟨"FrameRents$Order", "bestAt", "(II)J"⟩, 12), (⟨"FrameRents$Order", "gainAt", "(II)J"⟩, 12), (⟨"FrameRents$Order", "shareOut", "()V"⟩, 12), (⟨"FrameRents$Order", "fewest", "(II)I"⟩, 12), (⟨"FrameRents", "isSomeone", "(I)Z"⟩, 12), (⟨"FrameRents$Debts", "mostGroups", "(I)I"⟩, 5), (⟨"FrameRents$Debts", "takeSet", "(II)V"⟩, 5), (⟨"FrameRents$Fund", "dueTo", "(ILFrameRents$Town;)I"⟩, 3), (⟨"FrameRents", "countOf", "(I)I"⟩, 12), (⟨"FrameRentsModel", "isMaster", "(I)Z"⟩, 89), (⟨"FrameRentsModel", "isKnitter", "(I)Z"⟩, 89)]
theorem lw_r3 : ∀ q ∈ lw_privs_3, lw_okq q := List.forall_mem_cons.mpr ⟨lw_p32, List.forall_mem_cons.mpr ⟨lw_p33, List.forall_mem_cons.mpr ⟨lw_p34, List.forall_mem_cons.mpr ⟨lw_p35, List.forall_mem_cons.mpr ⟨lw_p36, List.forall_mem_cons.mpr ⟨lw_p37, List.forall_mem_cons.mpr ⟨lw_p38, List.forall_mem_cons.mpr ⟨lw_p39, List.forall_mem_cons.mpr ⟨lw_p40, List.forall_mem_cons.mpr ⟨lw_p41, List.forall_mem_cons.mpr ⟨lw_p42, List.forall_mem_cons.mpr ⟨lw_p43, List.forall_mem_cons.mpr ⟨lw_p44, List.forall_mem_cons.mpr ⟨lw_p45, List.forall_mem_cons.mpr ⟨lw_p46, List.forall_mem_cons.mpr ⟨lw_p47, fun _ h => absurd h List.not_mem_nil⟩⟩⟩⟩⟩⟩⟩⟩⟩⟩⟩⟩⟩⟩⟩⟩
theorem lw_p48 : lw_okq (⟨"FrameRentsModel", "isFrame", "(I)Z"⟩, 89) := ⟨⟨by decide +kernel, by decide +kernel⟩, List.mem_of_getElem? (i := 1225) (by decide +kernel), List.mem_of_getElem? (i := 1526) (by decide +kernel), List.mem_of_getElem? (i := 1527) (by decide +kernel)⟩
theorem lw_p49 : lw_okq (⟨"FrameRentsModel", "hirerOf", "(II)I"⟩, 89) := ⟨⟨by decide +kernel, by decide +kernel⟩, List.mem_of_getElem? (i := 1225) (by decide +kernel), List.mem_of_getElem? (i := 1530) (by decide +kernel), List.mem_of_getElem? (i := 1531) (by decide +kernel)⟩
theorem lw_p50 : lw_okq (⟨"FrameRentsModel", "hires", "(II)V"⟩, 89) := ⟨⟨by decide +kernel, by decide +kernel⟩, List.mem_of_getElem? (i := 1225) (by decide +kernel), List.mem_of_getElem? (i := 1534) (by decide +kernel), List.mem_of_getElem? (i := 1535) (by decide +kernel)⟩
theorem lw_p51 : lw_okq (⟨"FrameRentsModel", "types", "(I)V"⟩, 89) := ⟨⟨by decide +kernel, by decide +kernel⟩, List.mem_of_getElem? (i := 1225) (by decide +kernel), List.mem_of_getElem? (i := 1546) (by decide +kernel), List.mem_of_getElem? (i := 1547) (by decide +kernel)⟩
theorem lw_p52 : lw_okq (⟨"FrameRentsModel", "readsNamed", "()Z"⟩, 89) := ⟨⟨by decide +kernel, by decide +kernel⟩, List.mem_of_getElem? (i := 1225) (by decide +kernel), List.mem_of_getElem? (i := 1554) (by decide +kernel), List.mem_of_getElem? (i := 1555) (by decide +kernel)⟩
theorem lw_p53 : lw_okq (⟨"FrameRentsModel", "sign", "()I"⟩, 89) := ⟨⟨by decide +kernel, by decide +kernel⟩, List.mem_of_getElem? (i := 1225) (by decide +kernel), List.mem_of_getElem? (i := 1558) (by decide +kernel), List.mem_of_getElem? (i := 1559) (by decide +kernel)⟩
theorem lw_p54 : lw_okq (⟨"FrameRentsModel", "wrong", "(II)Z"⟩, 89) := ⟨⟨by decide +kernel, by decide +kernel⟩, List.mem_of_getElem? (i := 1225) (by decide +kernel), List.mem_of_getElem? (i := 1565) (by decide +kernel), List.mem_of_getElem? (i := 1566) (by decide +kernel)⟩
theorem lw_p55 : lw_okq (⟨"FrameRentsModel", "hasSaid", "(I)Z"⟩, 89) := ⟨⟨by decide +kernel, by decide +kernel⟩, List.mem_of_getElem? (i := 1225) (by decide +kernel), List.mem_of_getElem? (i := 1569) (by decide +kernel), List.mem_of_getElem? (i := 1570) (by decide +kernel)⟩
theorem lw_p56 : lw_okq (⟨"FrameRentsModel", "readsFormula", "()Z"⟩, 89) := ⟨⟨by decide +kernel, by decide +kernel⟩, List.mem_of_getElem? (i := 1225) (by decide +kernel), List.mem_of_getElem? (i := 1573) (by decide +kernel), List.mem_of_getElem? (i := 1574) (by decide +kernel)⟩
theorem lw_p57 : lw_okq (⟨"FrameRentsModel", "readsFactor", "()Z"⟩, 89) := ⟨⟨by decide +kernel, by decide +kernel⟩, List.mem_of_getElem? (i := 1225) (by decide +kernel), List.mem_of_getElem? (i := 1577) (by decide +kernel), List.mem_of_getElem? (i := 1578) (by decide +kernel)⟩
theorem lw_p58 : lw_okq (⟨"FrameRentsModel", "holds", "(II)V"⟩, 89) := ⟨⟨by decide +kernel, by decide +kernel⟩, List.mem_of_getElem? (i := 1225) (by decide +kernel), List.mem_of_getElem? (i := 1581) (by decide +kernel), List.mem_of_getElem? (i := 1582) (by decide +kernel)⟩
theorem lw_p59 : lw_okq (⟨"FrameRentsModel", "says", "(II)V"⟩, 89) := ⟨⟨by decide +kernel, by decide +kernel⟩, List.mem_of_getElem? (i := 1225) (by decide +kernel), List.mem_of_getElem? (i := 1589) (by decide +kernel), List.mem_of_getElem? (i := 1590) (by decide +kernel)⟩
theorem lw_p60 : lw_okq (⟨"FrameRentsModel", "shuts", "()Z"⟩, 89) := ⟨⟨by decide +kernel, by decide +kernel⟩, List.mem_of_getElem? (i := 1225) (by decide +kernel), List.mem_of_getElem? (i := 1596) (by decide +kernel), List.mem_of_getElem? (i := 1597) (by decide +kernel)⟩
theorem lw_p61 : lw_okq (⟨"FrameRentsModel", "closes", "(I)V"⟩, 89) := ⟨⟨by decide +kernel, by decide +kernel⟩, List.mem_of_getElem? (i := 1225) (by decide +kernel), List.mem_of_getElem? (i := 1600) (by decide +kernel), List.mem_of_getElem? (i := 1601) (by decide +kernel)⟩
theorem lw_p62 : lw_okq (⟨"FrameRentsModel", "top", "()I"⟩, 89) := ⟨⟨by decide +kernel, by decide +kernel⟩, List.mem_of_getElem? (i := 1225) (by decide +kernel), List.mem_of_getElem? (i := 1604) (by decide +kernel), List.mem_of_getElem? (i := 1605) (by decide +kernel)⟩
theorem lw_p63 : lw_okq (⟨"FrameRentsModel", "lands", "()V"⟩, 89) := ⟨⟨by decide +kernel, by decide +kernel⟩, List.mem_of_getElem? (i := 1225) (by decide +kernel), List.mem_of_getElem? (i := 1617) (by decide +kernel), List.mem_of_getElem? (i := 1618) (by decide +kernel)⟩
def lw_privs_4 : List (MethodName × Nat) := [(⟨"FrameRentsModel", "isFrame", "(I)Z"⟩, 89), (⟨"FrameRentsModel", "hirerOf", "(II)I"⟩, 89), (⟨"FrameRentsModel", "hires", "(II)V"⟩, 89), (⟨"FrameRentsModel", "types", "(I)V"⟩, 89), (⟨"FrameRentsModel", "readsNamed", "()Z"⟩, 89), (⟨"FrameRentsModel", "sign", "()I"⟩, 89), (⟨"FrameRentsModel", "wrong", "(II)Z"⟩, 89), (⟨"FrameRentsModel", "hasSaid", "(I)Z"⟩, 89), (⟨"FrameRentsModel", "readsFormula", "()Z"⟩, 89), (⟨"FrameRentsModel", "readsFactor", "()Z"⟩, 89), (⟨"FrameRentsModel", "holds", "(II)V"⟩, 89), (⟨"FrameRentsModel", "says", "(II)V"⟩, 89), (⟨"FrameRentsModel", "shuts", "()Z"⟩, 89), (⟨"FrameRentsModel", "closes", "(I)V"⟩, 89), (⟨"FrameRentsModel", "top", "()I"⟩, 89), (⟨"FrameRentsModel", "lands", "()V"⟩, 89)]
theorem lw_r4 : ∀ q ∈ lw_privs_4, lw_okq q := List.forall_mem_cons.mpr ⟨lw_p48, List.forall_mem_cons.mpr ⟨lw_p49, List.forall_mem_cons.mpr ⟨lw_p50, List.forall_mem_cons.mpr ⟨lw_p51, List.forall_mem_cons.mpr ⟨lw_p52, List.forall_mem_cons.mpr ⟨lw_p53, List.forall_mem_cons.mpr ⟨lw_p54, List.forall_mem_cons.mpr ⟨lw_p55, List.forall_mem_cons.mpr ⟨lw_p56, List.forall_mem_cons.mpr ⟨lw_p57, List.forall_mem_cons.mpr ⟨lw_p58, List.forall_mem_cons.mpr ⟨lw_p59, List.forall_mem_cons.mpr ⟨lw_p60, List.forall_mem_cons.mpr ⟨lw_p61, List.forall_mem_cons.mpr ⟨lw_p62, List.forall_mem_cons.mpr ⟨lw_p63, fun _ h => absurd h List.not_mem_nil⟩⟩⟩⟩⟩⟩⟩⟩⟩⟩⟩⟩⟩⟩⟩⟩
theorem lw_p64 : lw_okq (⟨"FrameRentsModel", "asks", "()Z"⟩, 89) := ⟨⟨by decide +kernel, by decide +kernel⟩, List.mem_of_getElem? (i := 1225) (by decide +kernel), List.mem_of_getElem? (i := 1625) (by decide +kernel), List.mem_of_getElem? (i := 1626) (by decide +kernel)⟩
theorem lw_p65 : lw_okq (⟨"FrameRentsModel", "turns", "()Z"⟩, 89) := ⟨⟨by decide +kernel, by decide +kernel⟩, List.mem_of_getElem? (i := 1225) (by decide +kernel), List.mem_of_getElem? (i := 1629) (by decide +kernel), List.mem_of_getElem? (i := 1630) (by decide +kernel)⟩
theorem lw_p66 : lw_okq (⟨"FrameRentsModel", "isFree", "()Z"⟩, 89) := ⟨⟨by decide +kernel, by decide +kernel⟩, List.mem_of_getElem? (i := 1225) (by decide +kernel), List.mem_of_getElem? (i := 1634) (by decide +kernel), List.mem_of_getElem? (i := 1635) (by decide +kernel)⟩
theorem lw_p67 : lw_okq (⟨"FrameRentsModel", "needsOf", "(I)I"⟩, 89) := ⟨⟨by decide +kernel, by decide +kernel⟩, List.mem_of_getElem? (i := 1225) (by decide +kernel), List.mem_of_getElem? (i := 1638) (by decide +kernel), List.mem_of_getElem? (i := 1639) (by decide +kernel)⟩
theorem lw_p68 : lw_okq (⟨"FrameRentsModel", "readsAct", "()Z"⟩, 89) := ⟨⟨by decide +kernel, by decide +kernel⟩, List.mem_of_getElem? (i := 1225) (by decide +kernel), List.mem_of_getElem? (i := 1649) (by decide +kernel), List.mem_of_getElem? (i := 1650) (by decide +kernel)⟩
theorem lw_p69 : lw_okq (⟨"FrameRentsModel", "numberAt", "(I)I"⟩, 89) := ⟨⟨by decide +kernel, by decide +kernel⟩, List.mem_of_getElem? (i := 1225) (by decide +kernel), List.mem_of_getElem? (i := 1657) (by decide +kernel), List.mem_of_getElem? (i := 1658) (by decide +kernel)⟩
theorem lw_p70 : lw_okq (⟨"FrameRentsModel", "worths", "(I)V"⟩, 89) := ⟨⟨by decide +kernel, by decide +kernel⟩, List.mem_of_getElem? (i := 1225) (by decide +kernel), List.mem_of_getElem? (i := 1661) (by decide +kernel), List.mem_of_getElem? (i := 1662) (by decide +kernel)⟩
theorem lw_p71 : lw_okq (⟨"FrameRentsModel", "worthOf", "([IIII)J"⟩, 89) := ⟨⟨by decide +kernel, by decide +kernel⟩, List.mem_of_getElem? (i := 1225) (by decide +kernel), List.mem_of_getElem? (i := 1665) (by decide +kernel), List.mem_of_getElem? (i := 1666) (by decide +kernel)⟩
theorem lw_p72 : lw_okq (⟨"FrameRentsModel", "goesThrough", "(II)V"⟩, 89) := ⟨⟨by decide +kernel, by decide +kernel⟩, List.mem_of_getElem? (i := 1225) (by decide +kernel), List.mem_of_getElem? (i := 1689) (by decide +kernel), List.mem_of_getElem? (i := 1690) (by decide +kernel)⟩
theorem lw_p73 : lw_okq (⟨"FrameRentsModel", "idleAnew", "(II)I"⟩, 89) := ⟨⟨by decide +kernel, by decide +kernel⟩, List.mem_of_getElem? (i := 1225) (by decide +kernel), List.mem_of_getElem? (i := 1693) (by decide +kernel), List.mem_of_getElem? (i := 1694) (by decide +kernel)⟩
theorem lw_p74 : lw_okq (⟨"FrameRentsModel", "weekOf", "(III)Z"⟩, 89) := ⟨⟨by decide +kernel, by decide +kernel⟩, List.mem_of_getElem? (i := 1225) (by decide +kernel), List.mem_of_getElem? (i := 1697) (by decide +kernel), List.mem_of_getElem? (i := 1698) (by decide +kernel)⟩
theorem lw_p75 : lw_okq (⟨"FrameRentsModel", "setsFacts", "(II)V"⟩, 89) := ⟨⟨by decide +kernel, by decide +kernel⟩, List.mem_of_getElem? (i := 1225) (by decide +kernel), List.mem_of_getElem? (i := 1701) (by decide +kernel), List.mem_of_getElem? (i := 1702) (by decide +kernel)⟩
theorem lw_p76 : lw_okq (⟨"FrameRentsModel", "framesOf", "(II)I"⟩, 89) := ⟨⟨by decide +kernel, by decide +kernel⟩, List.mem_of_getElem? (i := 1225) (by decide +kernel), List.mem_of_getElem? (i := 1705) (by decide +kernel), List.mem_of_getElem? (i := 1706) (by decide +kernel)⟩
theorem lw_p77 : lw_okq (⟨"FrameRentsModel", "comesTo", "(III)V"⟩, 89) := ⟨⟨by decide +kernel, by decide +kernel⟩, List.mem_of_getElem? (i := 1225) (by decide +kernel), List.mem_of_getElem? (i := 1710) (by decide +kernel), List.mem_of_getElem? (i := 1711) (by decide +kernel)⟩
theorem lw_p78 : lw_okq (⟨"FrameRentsModel", "bounded", "(CI)J"⟩, 89) := ⟨⟨by decide +kernel, by decide +kernel⟩, List.mem_of_getElem? (i := 1225) (by decide +kernel), List.mem_of_getElem? (i := 1714) (by decide +kernel), List.mem_of_getElem? (i := 1715) (by decide +kernel)⟩
theorem lw_p79 : lw_okq (⟨"FrameRentsModel", "paidInTruck", "()J"⟩, 89) := ⟨⟨by decide +kernel, by decide +kernel⟩, List.mem_of_getElem? (i := 1225) (by decide +kernel), List.mem_of_getElem? (i := 1719) (by decide +kernel), List.mem_of_getElem? (i := 1720) (by decide +kernel)⟩
def lw_privs_5 : List (MethodName × Nat) := [(⟨"FrameRentsModel", "asks", "()Z"⟩, 89), (⟨"FrameRentsModel", "turns", "()Z"⟩, 89), (⟨"FrameRentsModel", "isFree", "()Z"⟩, 89), (⟨"FrameRentsModel", "needsOf", "(I)I"⟩, 89), (⟨"FrameRentsModel", "readsAct", "()Z"⟩, 89), (⟨"FrameRentsModel", "numberAt", "(I)I"⟩, 89), (⟨"FrameRentsModel", "worths", "(I)V"⟩, 89), (⟨"FrameRentsModel", "worthOf", "([IIII)J"⟩, 89), (⟨"FrameRentsModel", "goesThrough", "(II)V"⟩, 89), (⟨"FrameRentsModel", "idleAnew", "(II)I"⟩, 89), (⟨"FrameRentsModel", "weekOf", "(III)Z"⟩, 89), (⟨"FrameRentsModel", "setsFacts", "(II)V"⟩, 89), (⟨"FrameRentsModel", "framesOf", "(II)I"⟩, 89), (⟨"FrameRentsModel", "comesTo", "(III)V"⟩, 89), (⟨"FrameRentsModel", "bounded", "(CI)J"⟩, 89), (⟨"FrameRentsModel", "paidInTruck", "()J"⟩, 89)]
theorem lw_r5 : ∀ q ∈ lw_privs_5, lw_okq q := List.forall_mem_cons.mpr ⟨lw_p64, List.forall_mem_cons.mpr ⟨lw_p65, List.forall_mem_cons.mpr ⟨lw_p66, List.forall_mem_cons.mpr ⟨lw_p67, List.forall_mem_cons.mpr ⟨lw_p68, List.forall_mem_cons.mpr ⟨lw_p69, List.forall_mem_cons.mpr ⟨lw_p70, List.forall_mem_cons.mpr ⟨lw_p71, List.forall_mem_cons.mpr ⟨lw_p72, List.forall_mem_cons.mpr ⟨lw_p73, List.forall_mem_cons.mpr ⟨lw_p74, List.forall_mem_cons.mpr ⟨lw_p75, List.forall_mem_cons.mpr ⟨lw_p76, List.forall_mem_cons.mpr ⟨lw_p77, List.forall_mem_cons.mpr ⟨lw_p78, List.forall_mem_cons.mpr ⟨lw_p79, fun _ h => absurd h List.not_mem_nil⟩⟩⟩⟩⟩⟩⟩⟩⟩⟩⟩⟩⟩⟩⟩⟩
theorem lw_p80 : lw_okq (⟨"FrameRentsModel", "left", "()J"⟩, 89) := ⟨⟨by decide +kernel, by decide +kernel⟩, List.mem_of_getElem? (i := 1225) (by decide +kernel), List.mem_of_getElem? (i := 1723) (by decide +kernel), List.mem_of_getElem? (i := 1724) (by decide +kernel)⟩
theorem lw_p81 : lw_okq (⟨"FrameRentsModel", "earnedBy", "(III)J"⟩, 89) := ⟨⟨by decide +kernel, by decide +kernel⟩, List.mem_of_getElem? (i := 1225) (by decide +kernel), List.mem_of_getElem? (i := 1731) (by decide +kernel), List.mem_of_getElem? (i := 1732) (by decide +kernel)⟩
theorem lw_p82 : lw_okq (⟨"FrameRentsModel", "booksOf", "(I)V"⟩, 89) := ⟨⟨by decide +kernel, by decide +kernel⟩, List.mem_of_getElem? (i := 1225) (by decide +kernel), List.mem_of_getElem? (i := 1752) (by decide +kernel), List.mem_of_getElem? (i := 1753) (by decide +kernel)⟩
theorem lw_p83 : lw_okq (⟨"FrameRentsModel", "weighs", "()V"⟩, 89) := ⟨⟨by decide +kernel, by decide +kernel⟩, List.mem_of_getElem? (i := 1225) (by decide +kernel), List.mem_of_getElem? (i := 1762) (by decide +kernel), List.mem_of_getElem? (i := 1763) (by decide +kernel)⟩
theorem lw_p84 : lw_okq (⟨"FrameRentsModel", "bestOf", "(II)J"⟩, 89) := ⟨⟨by decide +kernel, by decide +kernel⟩, List.mem_of_getElem? (i := 1225) (by decide +kernel), List.mem_of_getElem? (i := 1767) (by decide +kernel), List.mem_of_getElem? (i := 1768) (by decide +kernel)⟩
theorem lw_p85 : lw_okq (⟨"FrameRentsModel", "isLot", "(I)Z"⟩, 89) := ⟨⟨by decide +kernel, by decide +kernel⟩, List.mem_of_getElem? (i := 1225) (by decide +kernel), List.mem_of_getElem? (i := 1791) (by decide +kernel), List.mem_of_getElem? (i := 1792) (by decide +kernel)⟩
theorem lw_p86 : lw_okq (⟨"FrameRentsModel", "far", "(II)I"⟩, 89) := ⟨⟨by decide +kernel, by decide +kernel⟩, List.mem_of_getElem? (i := 1225) (by decide +kernel), List.mem_of_getElem? (i := 1799) (by decide +kernel), List.mem_of_getElem? (i := 1800) (by decide +kernel)⟩
theorem lw_p87 : lw_okq (⟨"FrameRentsModel", "isOne", "(I)Z"⟩, 89) := ⟨⟨by decide +kernel, by decide +kernel⟩, List.mem_of_getElem? (i := 1225) (by decide +kernel), List.mem_of_getElem? (i := 1807) (by decide +kernel), List.mem_of_getElem? (i := 1808) (by decide +kernel)⟩
theorem lw_p88 : lw_okq (⟨"FrameRentsModel", "strikers", "()I"⟩, 89) := ⟨⟨by decide +kernel, by decide +kernel⟩, List.mem_of_getElem? (i := 1225) (by decide +kernel), List.mem_of_getElem? (i := 1849) (by decide +kernel), List.mem_of_getElem? (i := 1850) (by decide +kernel)⟩
def lw_privs_6 : List (MethodName × Nat) := [(⟨"FrameRentsModel", "left", "()J"⟩, 89), (⟨"FrameRentsModel", "earnedBy", "(III)J"⟩, 89), (⟨"FrameRentsModel", "booksOf", "(I)V"⟩, 89), (⟨"FrameRentsModel", "weighs", "()V"⟩, 89), (⟨"FrameRentsModel", "bestOf", "(II)J"⟩, 89), (⟨"FrameRentsModel", "isLot", "(I)Z"⟩, 89), (⟨"FrameRentsModel", "far", "(II)I"⟩, 89), (⟨"FrameRentsModel", "isOne", "(I)Z"⟩, 89), (⟨"FrameRentsModel", "strikers", "()I"⟩, 89)]
theorem lw_r6 : ∀ q ∈ lw_privs_6, lw_okq q := List.forall_mem_cons.mpr ⟨lw_p80, List.forall_mem_cons.mpr ⟨lw_p81, List.forall_mem_cons.mpr ⟨lw_p82, List.forall_mem_cons.mpr ⟨lw_p83, List.forall_mem_cons.mpr ⟨lw_p84, List.forall_mem_cons.mpr ⟨lw_p85, List.forall_mem_cons.mpr ⟨lw_p86, List.forall_mem_cons.mpr ⟨lw_p87, List.forall_mem_cons.mpr ⟨lw_p88, fun _ h => absurd h List.not_mem_nil⟩⟩⟩⟩⟩⟩⟩⟩⟩
def lw_privs : List (MethodName × Nat) := lw_privs_1 ++ (lw_privs_2 ++ (lw_privs_3 ++ (lw_privs_4 ++ (lw_privs_5 ++ (lw_privs_6)))))
def lw_tbl : List Cond := k2_sels lw_privs ++ tables_1
theorem lw_privs_ok : ∀ q ∈ lw_privs, lw_okq q := by
  show ∀ q ∈ lw_privs_1 ++ (lw_privs_2 ++ (lw_privs_3 ++ (lw_privs_4 ++ (lw_privs_5 ++ (lw_privs_6))))), lw_okq q
  exact List.forall_mem_append.mpr ⟨lw_r1, List.forall_mem_append.mpr ⟨lw_r2, List.forall_mem_append.mpr ⟨lw_r3, List.forall_mem_append.mpr ⟨lw_r4, List.forall_mem_append.mpr ⟨lw_r5, lw_r6⟩⟩⟩⟩⟩
def RX0 : String := "FrameRents$BagmanBook"
def TX0 : u_T := fun k => match k with
  | 0 => ("FrameRents$BagmanBook", "size", "I", false)
  | 1 => ("FrameRents$BagmanBook", "masters", "[I", true)
  | 2 => ("FrameRents$BagmanBook", "shapes", "[I", true)
  | 3 => ("FrameRents$BagmanBook", "dozens", "[I", true)
  | 4 => ("FrameRents$BagmanBook", "before", "[I", true)
  | _ => ("FrameRents$BagmanBook", "latest", "[I", true)
def tyX0 : Nat → FieldType := fun k => match k with
  | 0 => .int
  | 1 => .array .int
  | 2 => .array .int
  | 3 => .array .int
  | 4 => .array .int
  | _ => .array .int
theorem nmX0 : ∀ a, a < 6 → ∀ b, b < 6 → a ≠ b → (TX0 a).2.1 ≠ (TX0 b).2.1 := by decide +kernel
theorem tyX0_ok : ∀ k, k < 6 → parseFieldDescriptor (TX0 k).2.2.1 = some (tyX0 k) := by decide +kernel
abbrev cX0_init : ByteArray := prog_2_method_1_code
def yX0_init : MethodName := ⟨RX0, "<init>", "()V"⟩
abbrev cX0_has : ByteArray := prog_2_method_2_code
def yX0_has : MethodName := ⟨RX0, "has", "(I)Z"⟩
abbrev cX0_add : ByteArray := prog_2_method_3_code
def yX0_add : MethodName := ⟨RX0, "add", "(IIII)Z"⟩
abbrev cX0_dozens : ByteArray := prog_2_method_4_code
def yX0_dozens : MethodName := ⟨RX0, "dozens", "(III)I"⟩
def RX1 : String := "FrameRents$Debts"
def TX1 : u_T := fun k => match k with
  | 0 => ("FrameRents$Debts", "areSome", "Z", false)
  | 1 => ("FrameRents$Debts", "balances", "[J", true)
  | 2 => ("FrameRents$Debts", "uneven", "[J", true)
  | 3 => ("FrameRents$Debts", "sums", "[J", true)
  | _ => ("FrameRents$Debts", "groups", "[I", true)
def tyX1 : Nat → FieldType := fun k => match k with
  | 0 => .boolean
  | 1 => .array .long
  | 2 => .array .long
  | 3 => .array .long
  | _ => .array .int
theorem nmX1 : ∀ a, a < 5 → ∀ b, b < 5 → a ≠ b → (TX1 a).2.1 ≠ (TX1 b).2.1 := by decide +kernel
theorem tyX1_ok : ∀ k, k < 5 → parseFieldDescriptor (TX1 k).2.2.1 = some (tyX1 k) := by decide +kernel
abbrev cX1_init : ByteArray := prog_3_method_1_code
def yX1_init : MethodName := ⟨RX1, "<init>", "()V"⟩
abbrev cX1_isOne : ByteArray := prog_3_method_2_code
def yX1_isOne : MethodName := ⟨RX1, "isOne", "(I)Z"⟩
abbrev cX1_add : ByteArray := prog_3_method_3_code
def yX1_add : MethodName := ⟨RX1, "add", "(III)V"⟩
abbrev cX1_balanceOf : ByteArray := prog_3_method_4_code
def yX1_balanceOf : MethodName := ⟨RX1, "balanceOf", "(I)J"⟩
abbrev cX1_payAll : ByteArray := prog_3_method_5_code
def yX1_payAll : MethodName := ⟨RX1, "payAll", "()Z"⟩
abbrev cX1_fewestPayments : ByteArray := prog_3_method_6_code
def yX1_fewestPayments : MethodName := ⟨RX1, "fewestPayments", "()I"⟩
abbrev cX1_mostGroups : ByteArray := prog_3_method_7_code
def yX1_mostGroups : MethodName := ⟨RX1, "mostGroups", "(I)I"⟩
abbrev cX1_takeSet : ByteArray := prog_3_method_8_code
def yX1_takeSet : MethodName := ⟨RX1, "takeSet", "(II)V"⟩
def RX2 : String := "FrameRents$Entries"
def TX2 : u_T := fun k => match k with
  | 0 => ("FrameRents$Entries", "size", "I", false)
  | 1 => ("FrameRents$Entries", "columns", "[[I", true)
  | 2 => ("FrameRents$Entries", "before", "[I", true)
  | _ => ("FrameRents$Entries", "latest", "[[I", true)
def tyX2 : Nat → FieldType := fun k => match k with
  | 0 => .int
  | 1 => .array (.array .int)
  | 2 => .array .int
  | _ => .array (.array .int)
theorem nmX2 : ∀ a, a < 4 → ∀ b, b < 4 → a ≠ b → (TX2 a).2.1 ≠ (TX2 b).2.1 := by decide +kernel
theorem tyX2_ok : ∀ k, k < 4 → parseFieldDescriptor (TX2 k).2.2.1 = some (tyX2 k) := by decide +kernel
abbrev cX2_init : ByteArray := prog_4_method_1_code
def yX2_init : MethodName := ⟨RX2, "<init>", "()V"⟩
abbrev cX2_has : ByteArray := prog_4_method_2_code
def yX2_has : MethodName := ⟨RX2, "has", "(I)Z"⟩
abbrev cX2_isFramesWeek : ByteArray := prog_4_method_3_code
def yX2_isFramesWeek : MethodName := ⟨RX2, "isFramesWeek", "(II)Z"⟩
abbrev cX2_open : ByteArray := prog_4_method_4_code
def yX2_open : MethodName := ⟨RX2, "open", "(III)I"⟩
abbrev cX2_put : ByteArray := prog_4_method_5_code
def yX2_put : MethodName := ⟨RX2, "put", "(III)V"⟩
abbrev cX2_at : ByteArray := prog_4_method_6_code
def yX2_at : MethodName := ⟨RX2, "at", "(II)I"⟩
abbrev cX2_knownAt : ByteArray := prog_4_method_7_code
def yX2_knownAt : MethodName := ⟨RX2, "knownAt", "(III)I"⟩
def RX3 : String := "FrameRents$Fund"
def TX3 : u_T := fun k => match k with
  | 0 => ("FrameRents$Fund", "pence", "I", false)
  | 1 => ("FrameRents$Fund", "scale", "I", false)
  | _ => ("FrameRents$Fund", "striking", "[Z", true)
def tyX3 : Nat → FieldType := fun k => match k with
  | 0 => .int
  | 1 => .int
  | _ => .array .boolean
theorem nmX3 : ∀ a, a < 3 → ∀ b, b < 3 → a ≠ b → (TX3 a).2.1 ≠ (TX3 b).2.1 := by decide +kernel
theorem tyX3_ok : ∀ k, k < 3 → parseFieldDescriptor (TX3 k).2.2.1 = some (tyX3 k) := by decide +kernel
abbrev cX3_init : ByteArray := prog_5_method_1_code
def yX3_init : MethodName := ⟨RX3, "<init>", "()V"⟩
abbrev cX3_add : ByteArray := prog_5_method_2_code
def yX3_add : MethodName := ⟨RX3, "add", "(I)I"⟩
abbrev cX3_isStriker : ByteArray := prog_5_method_3_code
def yX3_isStriker : MethodName := ⟨RX3, "isStriker", "(I)Z"⟩
abbrev cX3_setStriker : ByteArray := prog_5_method_4_code
def yX3_setStriker : MethodName := ⟨RX3, "setStriker", "(IZ)V"⟩
abbrev cX3_strikers : ByteArray := prog_5_method_5_code
def yX3_strikers : MethodName := ⟨RX3, "strikers", "()I"⟩
abbrev cX3_dueTo : ByteArray := prog_5_method_6_code
def yX3_dueTo : MethodName := ⟨RX3, "dueTo", "(ILFrameRents$Town;)I"⟩
abbrev cX3_wholeWeeks : ByteArray := prog_5_method_7_code
def yX3_wholeWeeks : MethodName := ⟨RX3, "wholeWeeks", "(LFrameRents$Town;)I"⟩
abbrev cX3_payWeek : ByteArray := prog_5_method_8_code
def yX3_payWeek : MethodName := ⟨RX3, "payWeek", "(LFrameRents$Town;)I"⟩
def RX4 : String := "FrameRents$Lots"
def TX4 : u_T := fun k => match k with
  | 0 => ("FrameRents$Lots", "size", "I", false)
  | 1 => ("FrameRents$Lots", "marks", "[I", true)
  | _ => ("FrameRents$Lots", "kinds", "[I", true)
def tyX4 : Nat → FieldType := fun k => match k with
  | 0 => .int
  | 1 => .array .int
  | _ => .array .int
theorem nmX4 : ∀ a, a < 3 → ∀ b, b < 3 → a ≠ b → (TX4 a).2.1 ≠ (TX4 b).2.1 := by decide +kernel
theorem tyX4_ok : ∀ k, k < 3 → parseFieldDescriptor (TX4 k).2.2.1 = some (tyX4 k) := by decide +kernel
abbrev cX4_init : ByteArray := prog_6_method_1_code
def yX4_init : MethodName := ⟨RX4, "<init>", "()V"⟩
abbrev cX4_has : ByteArray := prog_6_method_2_code
def yX4_has : MethodName := ⟨RX4, "has", "(I)Z"⟩
abbrev cX4_add : ByteArray := prog_6_method_3_code
def yX4_add : MethodName := ⟨RX4, "add", "(I)I"⟩
abbrev cX4_setKind : ByteArray := prog_6_method_4_code
def yX4_setKind : MethodName := ⟨RX4, "setKind", "(II)V"⟩
abbrev cX4_kindOf : ByteArray := prog_6_method_5_code
def yX4_kindOf : MethodName := ⟨RX4, "kindOf", "(I)I"⟩
def RX5 : String := "FrameRents$Order"
def TX5 : u_T := fun k => match k with
  | 0 => ("FrameRents$Order", "isTold", "Z", false)
  | 1 => ("FrameRents$Order", "master", "I", false)
  | 2 => ("FrameRents$Order", "shape", "I", false)
  | 3 => ("FrameRents$Order", "dozens", "I", false)
  | 4 => ("FrameRents$Order", "narrowings", "I", false)
  | 5 => ("FrameRents$Order", "yarn", "I", false)
  | 6 => ("FrameRents$Order", "price", "I", false)
  | 7 => ("FrameRents$Order", "frames", "I", false)
  | 8 => ("FrameRents$Order", "numbers", "[I", true)
  | 9 => ("FrameRents$Order", "gains", "[[J", true)
  | 10 => ("FrameRents$Order", "best", "[[J", true)
  | _ => ("FrameRents$Order", "shares", "[I", true)
def tyX5 : Nat → FieldType := fun k => match k with
  | 0 => .boolean
  | 1 => .int
  | 2 => .int
  | 3 => .int
  | 4 => .int
  | 5 => .int
  | 6 => .int
  | 7 => .int
  | 8 => .array .int
  | 9 => .array (.array .long)
  | 10 => .array (.array .long)
  | _ => .array .int
theorem nmX5 : ∀ a, a < 12 → ∀ b, b < 12 → a ≠ b → (TX5 a).2.1 ≠ (TX5 b).2.1 := by decide +kernel
theorem tyX5_ok : ∀ k, k < 12 → parseFieldDescriptor (TX5 k).2.2.1 = some (tyX5 k) := by decide +kernel
abbrev cX5_init : ByteArray := prog_7_method_1_code
def yX5_init : MethodName := ⟨RX5, "<init>", "()V"⟩
abbrev cX5_hasRoom : ByteArray := prog_7_method_2_code
def yX5_hasRoom : MethodName := ⟨RX5, "hasRoom", "()Z"⟩
abbrev cX5_setGain : ByteArray := prog_7_method_3_code
def yX5_setGain : MethodName := ⟨RX5, "setGain", "(IJ)V"⟩
abbrev cX5_addFrame : ByteArray := prog_7_method_4_code
def yX5_addFrame : MethodName := ⟨RX5, "addFrame", "(I)V"⟩
abbrev cX5_gainAt : ByteArray := prog_7_method_5_code
def yX5_gainAt : MethodName := ⟨RX5, "gainAt", "(II)J"⟩
abbrev cX5_bestAt : ByteArray := prog_7_method_6_code
def yX5_bestAt : MethodName := ⟨RX5, "bestAt", "(II)J"⟩
abbrev cX5_gainWith : ByteArray := prog_7_method_7_code
def yX5_gainWith : MethodName := ⟨RX5, "gainWith", "(III)J"⟩
abbrev cX5_fillBest : ByteArray := prog_7_method_8_code
def yX5_fillBest : MethodName := ⟨RX5, "fillBest", "()V"⟩
abbrev cX5_findBest : ByteArray := prog_7_method_9_code
def yX5_findBest : MethodName := ⟨RX5, "findBest", "()J"⟩
abbrev cX5_shareOut : ByteArray := prog_7_method_10_code
def yX5_shareOut : MethodName := ⟨RX5, "shareOut", "()V"⟩
abbrev cX5_fewest : ByteArray := prog_7_method_11_code
def yX5_fewest : MethodName := ⟨RX5, "fewest", "(II)I"⟩
abbrev cX5_shareOf : ByteArray := prog_7_method_12_code
def yX5_shareOf : MethodName := ⟨RX5, "shareOf", "(I)I"⟩
abbrev cX5_gainOfRow : ByteArray := prog_7_method_13_code
def yX5_gainOfRow : MethodName := ⟨RX5, "gainOfRow", "(LFrameRents$Tape;I)J"⟩
def RX6 : String := "FrameRents$Prices"
def TX6 : u_T := fun k => match k with
  | 0 => ("FrameRents$Prices", "listSheets", "[LFrameRents$Sheet;", true)
  | 1 => ("FrameRents$Prices", "actSheets", "[LFrameRents$Sheet;", true)
  | 2 => ("FrameRents$Prices", "lists", "I", false)
  | 3 => ("FrameRents$Prices", "acts", "I", false)
  | 4 => ("FrameRents$Prices", "facts", "[J", true)
  | 5 => ("FrameRents$Prices", "letters", "[J", true)
  | 6 => ("FrameRents$Prices", "worths", "[J", true)
  | 7 => ("FrameRents$Prices", "stack", "[J", true)
  | _ => ("FrameRents$Prices", "top", "I", false)
def tyX6 : Nat → FieldType := fun k => match k with
  | 0 => .array (.object "FrameRents$Sheet")
  | 1 => .array (.object "FrameRents$Sheet")
  | 2 => .int
  | 3 => .int
  | 4 => .array .long
  | 5 => .array .long
  | 6 => .array .long
  | 7 => .array .long
  | _ => .int
theorem nmX6 : ∀ a, a < 9 → ∀ b, b < 9 → a ≠ b → (TX6 a).2.1 ≠ (TX6 b).2.1 := by decide +kernel
theorem tyX6_ok : ∀ k, k < 9 → parseFieldDescriptor (TX6 k).2.2.1 = some (tyX6 k) := by decide +kernel
abbrev cX6_init : ByteArray := prog_8_method_1_code
def yX6_init : MethodName := ⟨RX6, "<init>", "()V"⟩
abbrev cX6_nextList : ByteArray := prog_8_method_2_code
def yX6_nextList : MethodName := ⟨RX6, "nextList", "()LFrameRents$Sheet;"⟩
abbrev cX6_nextAct : ByteArray := prog_8_method_3_code
def yX6_nextAct : MethodName := ⟨RX6, "nextAct", "()LFrameRents$Sheet;"⟩
abbrev cX6_keepList : ByteArray := prog_8_method_4_code
def yX6_keepList : MethodName := ⟨RX6, "keepList", "()I"⟩
abbrev cX6_keepAct : ByteArray := prog_8_method_5_code
def yX6_keepAct : MethodName := ⟨RX6, "keepAct", "()I"⟩
abbrev cX6_listAt : ByteArray := prog_8_method_6_code
def yX6_listAt : MethodName := ⟨RX6, "listAt", "(I)LFrameRents$Sheet;"⟩
abbrev cX6_actAt : ByteArray := prog_8_method_7_code
def yX6_actAt : MethodName := ⟨RX6, "actAt", "(I)LFrameRents$Sheet;"⟩
abbrev cX6_setFact : ByteArray := prog_8_method_8_code
def yX6_setFact : MethodName := ⟨RX6, "setFact", "(II)V"⟩
abbrev cX6_factAt : ByteArray := prog_8_method_9_code
def yX6_factAt : MethodName := ⟨RX6, "factAt", "(I)J"⟩
abbrev cX6_letterAt : ByteArray := prog_8_method_10_code
def yX6_letterAt : MethodName := ⟨RX6, "letterAt", "(I)J"⟩
abbrev cX6_reckonLetters : ByteArray := prog_8_method_11_code
def yX6_reckonLetters : MethodName := ⟨RX6, "reckonLetters", "(LFrameRents$Sheet;)V"⟩
abbrev cX6_boundWorths : ByteArray := prog_8_method_12_code
def yX6_boundWorths : MethodName := ⟨RX6, "boundWorths", "(IZ)V"⟩
abbrev cX6_boundBy : ByteArray := prog_8_method_13_code
def yX6_boundBy : MethodName := ⟨RX6, "boundBy", "(LFrameRents$Sheet;)V"⟩
abbrev cX6_worthOf : ByteArray := prog_8_method_14_code
def yX6_worthOf : MethodName := ⟨RX6, "worthOf", "(I)J"⟩
abbrev cX6_wages : ByteArray := prog_8_method_15_code
def yX6_wages : MethodName := ⟨RX6, "wages", "()J"⟩
abbrev cX6_rent : ByteArray := prog_8_method_16_code
def yX6_rent : MethodName := ⟨RX6, "rent", "()J"⟩
abbrev cX6_charges : ByteArray := prog_8_method_17_code
def yX6_charges : MethodName := ⟨RX6, "charges", "()J"⟩
abbrev cX6_netWages : ByteArray := prog_8_method_18_code
def yX6_netWages : MethodName := ⟨RX6, "netWages", "()J"⟩
abbrev cX6_truck : ByteArray := prog_8_method_19_code
def yX6_truck : MethodName := ⟨RX6, "truck", "()J"⟩
abbrev cX6_reckon : ByteArray := prog_8_method_20_code
def yX6_reckon : MethodName := ⟨RX6, "reckon", "(LFrameRents$Sheet;I)J"⟩
abbrev cX6_push : ByteArray := prog_8_method_21_code
def yX6_push : MethodName := ⟨RX6, "push", "(J)V"⟩
abbrev cX6_pop : ByteArray := prog_8_method_22_code
def yX6_pop : MethodName := ⟨RX6, "pop", "()J"⟩
abbrev cX6_doStep : ByteArray := prog_8_method_23_code
def yX6_doStep : MethodName := ⟨RX6, "doStep", "(CI)V"⟩
abbrev cX6_isSo : ByteArray := prog_8_method_24_code
def yX6_isSo : MethodName := ⟨RX6, "isSo", "(CJJ)Z"⟩
abbrev cX6_joined : ByteArray := prog_8_method_25_code
def yX6_joined : MethodName := ⟨RX6, "joined", "(CJJ)J"⟩
def RX7 : String := "FrameRents$Reader"
def TX7 : u_T := fun k => match k with
  | 0 => ("FrameRents$Reader", "tape", "LFrameRents$Tape;", true)
  | 1 => ("FrameRents$Reader", "sheet", "LFrameRents$Sheet;", false)
  | 2 => ("FrameRents$Reader", "size", "I", false)
  | 3 => ("FrameRents$Reader", "at", "I", false)
  | 4 => ("FrameRents$Reader", "fault", "I", false)
  | _ => ("FrameRents$Reader", "place", "I", false)
def tyX7 : Nat → FieldType := fun k => match k with
  | 0 => .object "FrameRents$Tape"
  | 1 => .object "FrameRents$Sheet"
  | 2 => .int
  | 3 => .int
  | 4 => .int
  | _ => .int
theorem nmX7 : ∀ a, a < 6 → ∀ b, b < 6 → a ≠ b → (TX7 a).2.1 ≠ (TX7 b).2.1 := by decide +kernel
theorem tyX7_ok : ∀ k, k < 6 → parseFieldDescriptor (TX7 k).2.2.1 = some (tyX7 k) := by decide +kernel
abbrev cX7_init : ByteArray := prog_9_method_1_code
def yX7_init : MethodName := ⟨RX7, "<init>", "(LFrameRents$Tape;)V"⟩
abbrev cX7_readList : ByteArray := prog_9_method_2_code
def yX7_readList : MethodName := ⟨RX7, "readList", "(LFrameRents$Sheet;I)I"⟩
abbrev cX7_readAct : ByteArray := prog_9_method_3_code
def yX7_readAct : MethodName := ⟨RX7, "readAct", "(LFrameRents$Sheet;I)I"⟩
abbrev cX7_start : ByteArray := prog_9_method_4_code
def yX7_start : MethodName := ⟨RX7, "start", "(LFrameRents$Sheet;I)V"⟩
abbrev cX7_answer : ByteArray := prog_9_method_5_code
def yX7_answer : MethodName := ⟨RX7, "answer", "()I"⟩
abbrev cX7_next : ByteArray := prog_9_method_6_code
def yX7_next : MethodName := ⟨RX7, "next", "()I"⟩
abbrev cX7_fail : ByteArray := prog_9_method_7_code
def yX7_fail : MethodName := ⟨RX7, "fail", "(I)V"⟩
abbrev cX7_expect : ByteArray := prog_9_method_8_code
def yX7_expect : MethodName := ⟨RX7, "expect", "(C)V"⟩
abbrev cX7_expectEnd : ByteArray := prog_9_method_9_code
def yX7_expectEnd : MethodName := ⟨RX7, "expectEnd", "()V"⟩
abbrev cX7_findRing : ByteArray := prog_9_method_10_code
def yX7_findRing : MethodName := ⟨RX7, "findRing", "()V"⟩
abbrev cX7_formula : ByteArray := prog_9_method_11_code
def yX7_formula : MethodName := ⟨RX7, "formula", "()V"⟩
abbrev cX7_choice : ByteArray := prog_9_method_12_code
def yX7_choice : MethodName := ⟨RX7, "choice", "(I)V"⟩
abbrev cX7_sum : ByteArray := prog_9_method_13_code
def yX7_sum : MethodName := ⟨RX7, "sum", "(I)V"⟩
abbrev cX7_term : ByteArray := prog_9_method_14_code
def yX7_term : MethodName := ⟨RX7, "term", "(I)V"⟩
abbrev cX7_bound : ByteArray := prog_9_method_15_code
def yX7_bound : MethodName := ⟨RX7, "bound", "(I)V"⟩
abbrev cX7_factor : ByteArray := prog_9_method_16_code
def yX7_factor : MethodName := ⟨RX7, "factor", "(I)V"⟩
abbrev cX7_inBrackets : ByteArray := prog_9_method_17_code
def yX7_inBrackets : MethodName := ⟨RX7, "inBrackets", "(I)V"⟩
abbrev cX7_fact : ByteArray := prog_9_method_18_code
def yX7_fact : MethodName := ⟨RX7, "fact", "(I)V"⟩
abbrev cX7_digits : ByteArray := prog_9_method_19_code
def yX7_digits : MethodName := ⟨RX7, "digits", "()V"⟩
abbrev cX7_isDigit : ByteArray := prog_9_method_20_code
def yX7_isDigit : MethodName := ⟨RX7, "isDigit", "(I)Z"⟩
def RX8 : String := "FrameRents$Sheet"
def TX8 : u_T := fun k => match k with
  | 0 => ("FrameRents$Sheet", "steps", "[C", true)
  | 1 => ("FrameRents$Sheet", "args", "[I", true)
  | 2 => ("FrameRents$Sheet", "size", "I", false)
  | 3 => ("FrameRents$Sheet", "formulas", "I", false)
  | 4 => ("FrameRents$Sheet", "letters", "[I", true)
  | 5 => ("FrameRents$Sheet", "places", "[I", true)
  | 6 => ("FrameRents$Sheet", "ends", "[I", true)
  | 7 => ("FrameRents$Sheet", "needs", "[I", true)
  | 8 => ("FrameRents$Sheet", "order", "[I", true)
  | 9 => ("FrameRents$Sheet", "from", "I", false)
  | 10 => ("FrameRents$Sheet", "to", "I", false)
  | _ => ("FrameRents$Sheet", "noLess", "Z", false)
def tyX8 : Nat → FieldType := fun k => match k with
  | 0 => .array .char
  | 1 => .array .int
  | 2 => .int
  | 3 => .int
  | 4 => .array .int
  | 5 => .array .int
  | 6 => .array .int
  | 7 => .array .int
  | 8 => .array .int
  | 9 => .int
  | 10 => .int
  | _ => .boolean
theorem nmX8 : ∀ a, a < 12 → ∀ b, b < 12 → a ≠ b → (TX8 a).2.1 ≠ (TX8 b).2.1 := by decide +kernel
theorem tyX8_ok : ∀ k, k < 12 → parseFieldDescriptor (TX8 k).2.2.1 = some (tyX8 k) := by decide +kernel
abbrev cX8_init : ByteArray := prog_10_method_1_code
def yX8_init : MethodName := ⟨RX8, "<init>", "(I)V"⟩
abbrev cX8_empty : ByteArray := prog_10_method_2_code
def yX8_empty : MethodName := ⟨RX8, "empty", "()V"⟩
abbrev cX8_put : ByteArray := prog_10_method_3_code
def yX8_put : MethodName := ⟨RX8, "put", "(CI)V"⟩
abbrev cX8_begin : ByteArray := prog_10_method_4_code
def yX8_begin : MethodName := ⟨RX8, "begin", "(II)V"⟩
abbrev cX8_need : ByteArray := prog_10_method_5_code
def yX8_need : MethodName := ⟨RX8, "need", "(I)V"⟩
abbrev cX8_end : ByteArray := prog_10_method_6_code
def yX8_end : MethodName := ⟨RX8, "end", "()V"⟩
abbrev cX8_hasRoom : ByteArray := prog_10_method_7_code
def yX8_hasRoom : MethodName := ⟨RX8, "hasRoom", "()Z"⟩
abbrev cX8_has : ByteArray := prog_10_method_8_code
def yX8_has : MethodName := ⟨RX8, "has", "(I)Z"⟩
abbrev cX8_hasFormula : ByteArray := prog_10_method_9_code
def yX8_hasFormula : MethodName := ⟨RX8, "hasFormula", "(I)Z"⟩
abbrev cX8_letterOf : ByteArray := prog_10_method_10_code
def yX8_letterOf : MethodName := ⟨RX8, "letterOf", "(I)I"⟩
abbrev cX8_startOf : ByteArray := prog_10_method_11_code
def yX8_startOf : MethodName := ⟨RX8, "startOf", "(I)I"⟩
abbrev cX8_endOf : ByteArray := prog_10_method_12_code
def yX8_endOf : MethodName := ⟨RX8, "endOf", "(I)I"⟩
abbrev cX8_stepAt : ByteArray := prog_10_method_13_code
def yX8_stepAt : MethodName := ⟨RX8, "stepAt", "(I)C"⟩
abbrev cX8_argAt : ByteArray := prog_10_method_14_code
def yX8_argAt : MethodName := ⟨RX8, "argAt", "(I)I"⟩
abbrev cX8_inOrder : ByteArray := prog_10_method_15_code
def yX8_inOrder : MethodName := ⟨RX8, "inOrder", "(I)I"⟩
abbrev cX8_doesNeed : ByteArray := prog_10_method_16_code
def yX8_doesNeed : MethodName := ⟨RX8, "doesNeed", "(II)Z"⟩
abbrev cX8_followNeeds : ByteArray := prog_10_method_17_code
def yX8_followNeeds : MethodName := ⟨RX8, "followNeeds", "()V"⟩
abbrev cX8_placeOfRing : ByteArray := prog_10_method_18_code
def yX8_placeOfRing : MethodName := ⟨RX8, "placeOfRing", "()I"⟩
abbrev cX8_putInOrder : ByteArray := prog_10_method_19_code
def yX8_putInOrder : MethodName := ⟨RX8, "putInOrder", "()V"⟩
def RX9 : String := "FrameRents$Tape"
def TX9 : u_T := fun k => match k with
  | 0 => ("FrameRents$Tape", "bytes", "[B", true)
  | _ => ("FrameRents$Tape", "size", "I", false)
def tyX9 : Nat → FieldType := fun k => match k with
  | 0 => .array .byte
  | _ => .int
theorem nmX9 : ∀ a, a < 2 → ∀ b, b < 2 → a ≠ b → (TX9 a).2.1 ≠ (TX9 b).2.1 := by decide +kernel
theorem tyX9_ok : ∀ k, k < 2 → parseFieldDescriptor (TX9 k).2.2.1 = some (tyX9 k) := by decide +kernel
abbrev cX9_init : ByteArray := prog_11_method_1_code
def yX9_init : MethodName := ⟨RX9, "<init>", "()V"⟩
abbrev cX9_hasRoomFor : ByteArray := prog_11_method_2_code
def yX9_hasRoomFor : MethodName := ⟨RX9, "hasRoomFor", "(I)Z"⟩
abbrev cX9_putInt : ByteArray := prog_11_method_3_code
def yX9_putInt : MethodName := ⟨RX9, "putInt", "(I)V"⟩
abbrev cX9_putByte : ByteArray := prog_11_method_4_code
def yX9_putByte : MethodName := ⟨RX9, "putByte", "(I)V"⟩
abbrev cX9_byteAt : ByteArray := prog_11_method_5_code
def yX9_byteAt : MethodName := ⟨RX9, "byteAt", "(I)I"⟩
abbrev cX9_intAt : ByteArray := prog_11_method_6_code
def yX9_intAt : MethodName := ⟨RX9, "intAt", "(I)I"⟩
abbrev cX9_wipe : ByteArray := prog_11_method_7_code
def yX9_wipe : MethodName := ⟨RX9, "wipe", "()V"⟩
def RX10 : String := "FrameRents$Town"
def TX10 : u_T := fun k => match k with
  | 0 => ("FrameRents$Town", "now", "I", false)
  | 1 => ("FrameRents$Town", "masters", "I", false)
  | 2 => ("FrameRents$Town", "knitters", "I", false)
  | 3 => ("FrameRents$Town", "frames", "I", false)
  | 4 => ("FrameRents$Town", "houses", "[I", true)
  | 5 => ("FrameRents$Town", "overs", "[I", true)
  | 6 => ("FrameRents$Town", "heads", "[I", true)
  | 7 => ("FrameRents$Town", "gauges", "[I", true)
  | 8 => ("FrameRents$Town", "frameMasters", "[I", true)
  | 9 => ("FrameRents$Town", "owners", "[I", true)
  | 10 => ("FrameRents$Town", "holders", "[[I", true)
  | _ => ("FrameRents$Town", "listsInUse", "[[I", true)
def tyX10 : Nat → FieldType := fun k => match k with
  | 0 => .int
  | 1 => .int
  | 2 => .int
  | 3 => .int
  | 4 => .array .int
  | 5 => .array .int
  | 6 => .array .int
  | 7 => .array .int
  | 8 => .array .int
  | 9 => .array .int
  | 10 => .array (.array .int)
  | _ => .array (.array .int)
theorem nmX10 : ∀ a, a < 12 → ∀ b, b < 12 → a ≠ b → (TX10 a).2.1 ≠ (TX10 b).2.1 := by decide +kernel
theorem tyX10_ok : ∀ k, k < 12 → parseFieldDescriptor (TX10 k).2.2.1 = some (tyX10 k) := by decide +kernel
abbrev cX10_init : ByteArray := prog_12_method_1_code
def yX10_init : MethodName := ⟨RX10, "<init>", "()V"⟩
abbrev cX10_fill : ByteArray := prog_12_method_2_code
def yX10_fill : MethodName := ⟨RX10, "fill", "([III)V"⟩
abbrev cX10_hasMaster : ByteArray := prog_12_method_3_code
def yX10_hasMaster : MethodName := ⟨RX10, "hasMaster", "(I)Z"⟩
abbrev cX10_hasKnitter : ByteArray := prog_12_method_4_code
def yX10_hasKnitter : MethodName := ⟨RX10, "hasKnitter", "(I)Z"⟩
abbrev cX10_hasFrame : ByteArray := prog_12_method_5_code
def yX10_hasFrame : MethodName := ⟨RX10, "hasFrame", "(I)Z"⟩
abbrev cX10_isHouse : ByteArray := prog_12_method_6_code
def yX10_isHouse : MethodName := ⟨RX10, "isHouse", "(I)Z"⟩
abbrev cX10_isBagman : ByteArray := prog_12_method_7_code
def yX10_isBagman : MethodName := ⟨RX10, "isBagman", "(I)Z"⟩
abbrev cX10_isOwn : ByteArray := prog_12_method_8_code
def yX10_isOwn : MethodName := ⟨RX10, "isOwn", "(I)Z"⟩
abbrev cX10_isForHire : ByteArray := prog_12_method_9_code
def yX10_isForHire : MethodName := ⟨RX10, "isForHire", "(I)Z"⟩
abbrev cX10_addMaster : ByteArray := prog_12_method_10_code
def yX10_addMaster : MethodName := ⟨RX10, "addMaster", "(I)I"⟩
abbrev cX10_addKnitter : ByteArray := prog_12_method_11_code
def yX10_addKnitter : MethodName := ⟨RX10, "addKnitter", "(I)I"⟩
abbrev cX10_addFrame : ByteArray := prog_12_method_12_code
def yX10_addFrame : MethodName := ⟨RX10, "addFrame", "(III)I"⟩
abbrev cX10_holdFromNow : ByteArray := prog_12_method_13_code
def yX10_holdFromNow : MethodName := ⟨RX10, "holdFromNow", "(II)V"⟩
abbrev cX10_listFromNow : ByteArray := prog_12_method_14_code
def yX10_listFromNow : MethodName := ⟨RX10, "listFromNow", "(II)V"⟩
abbrev cX10_holderAt : ByteArray := prog_12_method_15_code
def yX10_holderAt : MethodName := ⟨RX10, "holderAt", "(II)I"⟩
abbrev cX10_listIn : ByteArray := prog_12_method_16_code
def yX10_listIn : MethodName := ⟨RX10, "listIn", "(II)I"⟩
abbrev cX10_framesHeld : ByteArray := prog_12_method_17_code
def yX10_framesHeld : MethodName := ⟨RX10, "framesHeld", "(II)I"⟩
abbrev cX10_gaugeOf : ByteArray := prog_12_method_18_code
def yX10_gaugeOf : MethodName := ⟨RX10, "gaugeOf", "(I)I"⟩
abbrev cX10_masterOf : ByteArray := prog_12_method_19_code
def yX10_masterOf : MethodName := ⟨RX10, "masterOf", "(I)I"⟩
abbrev cX10_headsOf : ByteArray := prog_12_method_20_code
def yX10_headsOf : MethodName := ⟨RX10, "headsOf", "(I)I"⟩
abbrev cX10_overOf : ByteArray := prog_12_method_21_code
def yX10_overOf : MethodName := ⟨RX10, "overOf", "(I)I"⟩
abbrev cX10_setOver : ByteArray := prog_12_method_22_code
def yX10_setOver : MethodName := ⟨RX10, "setOver", "(II)V"⟩
abbrev cX10_kindOfOwner : ByteArray := prog_12_method_23_code
def yX10_kindOfOwner : MethodName := ⟨RX10, "kindOfOwner", "(I)I"⟩
def RX11 : String := "FrameRents"
def TX11 : u_T := fun k => match k with
  | 0 => ("FrameRents", "tape", "LFrameRents$Tape;", true)
  | 1 => ("FrameRents", "reader", "LFrameRents$Reader;", true)
  | 2 => ("FrameRents", "prices", "LFrameRents$Prices;", true)
  | 3 => ("FrameRents", "town", "LFrameRents$Town;", true)
  | 4 => ("FrameRents", "entries", "LFrameRents$Entries;", true)
  | 5 => ("FrameRents", "book", "LFrameRents$BagmanBook;", true)
  | 6 => ("FrameRents", "order", "LFrameRents$Order;", true)
  | 7 => ("FrameRents", "lots", "LFrameRents$Lots;", true)
  | 8 => ("FrameRents", "debts", "LFrameRents$Debts;", true)
  | 9 => ("FrameRents", "fund", "LFrameRents$Fund;", true)
  | 10 => ("FrameRents", "parishScale", "I", false)
  | _ => ("FrameRents", "waste", "I", false)
def tyX11 : Nat → FieldType := fun k => match k with
  | 0 => .object "FrameRents$Tape"
  | 1 => .object "FrameRents$Reader"
  | 2 => .object "FrameRents$Prices"
  | 3 => .object "FrameRents$Town"
  | 4 => .object "FrameRents$Entries"
  | 5 => .object "FrameRents$BagmanBook"
  | 6 => .object "FrameRents$Order"
  | 7 => .object "FrameRents$Lots"
  | 8 => .object "FrameRents$Debts"
  | 9 => .object "FrameRents$Fund"
  | 10 => .int
  | _ => .int
theorem nmX11 : ∀ a, a < 12 → ∀ b, b < 12 → a ≠ b → (TX11 a).2.1 ≠ (TX11 b).2.1 := by decide +kernel
theorem tyX11_ok : ∀ k, k < 12 → parseFieldDescriptor (TX11 k).2.2.1 = some (tyX11 k) := by decide +kernel
abbrev cX11_init : ByteArray := prog_1_method_1_code
def yX11_init : MethodName := ⟨RX11, "<init>", "()V"⟩
abbrev cX11_master : ByteArray := prog_1_method_2_code
def yX11_master : MethodName := ⟨RX11, "master", "(I)I"⟩
abbrev cX11_knitter : ByteArray := prog_1_method_3_code
def yX11_knitter : MethodName := ⟨RX11, "knitter", "(I)I"⟩
abbrev cX11_frame : ByteArray := prog_1_method_4_code
def yX11_frame : MethodName := ⟨RX11, "frame", "(III)I"⟩
abbrev cX11_hire : ByteArray := prog_1_method_5_code
def yX11_hire : MethodName := ⟨RX11, "hire", "(II)Z"⟩
abbrev cX11_back : ByteArray := prog_1_method_6_code
def yX11_back : MethodName := ⟨RX11, "back", "(I)Z"⟩
abbrev cX11_feed : ByteArray := prog_1_method_7_code
def yX11_feed : MethodName := ⟨RX11, "feed", "(IIIII)I"⟩
abbrev cX11_list : ByteArray := prog_1_method_8_code
def yX11_list : MethodName := ⟨RX11, "list", "(I)I"⟩
abbrev cX11_act : ByteArray := prog_1_method_9_code
def yX11_act : MethodName := ⟨RX11, "act", "(III)I"⟩
abbrev cX11_uses : ByteArray := prog_1_method_10_code
def yX11_uses : MethodName := ⟨RX11, "uses", "(II)Z"⟩
abbrev cX11_listOf : ByteArray := prog_1_method_11_code
def yX11_listOf : MethodName := ⟨RX11, "listOf", "(II)I"⟩
abbrev cX11_worth : ByteArray := prog_1_method_12_code
def yX11_worth : MethodName := ⟨RX11, "worth", "(II)J"⟩
abbrev cX11_entry : ByteArray := prog_1_method_13_code
def yX11_entry : MethodName := ⟨RX11, "entry", "(IIIIIII)I"⟩
abbrev cX11_week : ByteArray := prog_1_method_14_code
def yX11_week : MethodName := ⟨RX11, "week", "(IIII)J"⟩
abbrev cX11_earned : ByteArray := prog_1_method_15_code
def yX11_earned : MethodName := ⟨RX11, "earned", "(IIIZ)J"⟩
abbrev cX11_number : ByteArray := prog_1_method_16_code
def yX11_number : MethodName := ⟨RX11, "number", "(II)Z"⟩
abbrev cX11_amiss : ByteArray := prog_1_method_17_code
def yX11_amiss : MethodName := ⟨RX11, "amiss", "(I)I"⟩
abbrev cX11_tells : ByteArray := prog_1_method_18_code
def yX11_tells : MethodName := ⟨RX11, "tells", "(IIII)Z"⟩
abbrev cX11_differs : ByteArray := prog_1_method_19_code
def yX11_differs : MethodName := ⟨RX11, "differs", "(III)I"⟩
abbrev cX11_spread : ByteArray := prog_1_method_20_code
def yX11_spread : MethodName := ⟨RX11, "spread", "(IIIIII)J"⟩
abbrev cX11_share : ByteArray := prog_1_method_21_code
def yX11_share : MethodName := ⟨RX11, "share", "(I)I"⟩
abbrev cX11_judge : ByteArray := prog_1_method_22_code
def yX11_judge : MethodName := ⟨RX11, "judge", "(I)J"⟩
abbrev cX11_beside : ByteArray := prog_1_method_23_code
def yX11_beside : MethodName := ⟨RX11, "beside", "(IIII)J"⟩
abbrev cX11_lot : ByteArray := prog_1_method_24_code
def yX11_lot : MethodName := ⟨RX11, "lot", "(I)I"⟩
abbrev cX11_told : ByteArray := prog_1_method_25_code
def yX11_told : MethodName := ⟨RX11, "told", "(II)Z"⟩
abbrev cX11_is : ByteArray := prog_1_method_26_code
def yX11_is : MethodName := ⟨RX11, "is", "(I)I"⟩
abbrev cX11_owes : ByteArray := prog_1_method_27_code
def yX11_owes : MethodName := ⟨RX11, "owes", "(III)Z"⟩
abbrev cX11_net : ByteArray := prog_1_method_28_code
def yX11_net : MethodName := ⟨RX11, "net", "(I)J"⟩
abbrev cX11_payments : ByteArray := prog_1_method_29_code
def yX11_payments : MethodName := ⟨RX11, "payments", "()I"⟩
abbrev cX11_clear : ByteArray := prog_1_method_30_code
def yX11_clear : MethodName := ⟨RX11, "clear", "()Z"⟩
abbrev cX11_fund : ByteArray := prog_1_method_31_code
def yX11_fund : MethodName := ⟨RX11, "fund", "(I)I"⟩
abbrev cX11_strike : ByteArray := prog_1_method_32_code
def yX11_strike : MethodName := ⟨RX11, "strike", "(IZ)Z"⟩
abbrev cX11_lasts : ByteArray := prog_1_method_33_code
def yX11_lasts : MethodName := ⟨RX11, "lasts", "()I"⟩
abbrev cX11_goes : ByteArray := prog_1_method_34_code
def yX11_goes : MethodName := ⟨RX11, "goes", "()I"⟩
abbrev cX11_look : ByteArray := prog_1_method_35_code
def yX11_look : MethodName := ⟨RX11, "look", "(II)I"⟩
abbrev cX11_count : ByteArray := prog_1_method_36_code
def yX11_count : MethodName := ⟨RX11, "count", "(I)I"⟩
abbrev cX11_countOf : ByteArray := prog_1_method_37_code
def yX11_countOf : MethodName := ⟨RX11, "countOf", "(I)I"⟩
abbrev cX11_within : ByteArray := prog_1_method_38_code
def yX11_within : MethodName := ⟨RX11, "within", "(III)Z"⟩
abbrev cX11_isWeek : ByteArray := prog_1_method_39_code
def yX11_isWeek : MethodName := ⟨RX11, "isWeek", "(I)Z"⟩
abbrev cX11_chosen : ByteArray := prog_1_method_40_code
def yX11_chosen : MethodName := ⟨RX11, "chosen", "(IIIII)I"⟩
abbrev cX11_isSomeone : ByteArray := prog_1_method_41_code
def yX11_isSomeone : MethodName := ⟨RX11, "isSomeone", "(I)Z"⟩
abbrev cX11_dozensMade : ByteArray := prog_1_method_42_code
def yX11_dozensMade : MethodName := ⟨RX11, "dozensMade", "(III)I"⟩
abbrev cX11_idleWeeks : ByteArray := prog_1_method_43_code
def yX11_idleWeeks : MethodName := ⟨RX11, "idleWeeks", "(III)I"⟩
abbrev cX11_idleIfNothingNow : ByteArray := prog_1_method_44_code
def yX11_idleIfNothingNow : MethodName := ⟨RX11, "idleIfNothingNow", "(I)I"⟩
abbrev cX11_setFactsOfFrame : ByteArray := prog_1_method_45_code
def yX11_setFactsOfFrame : MethodName := ⟨RX11, "setFactsOfFrame", "(II)V"⟩
abbrev cX11_reckonWeek : ByteArray := prog_1_method_46_code
def yX11_reckonWeek : MethodName := ⟨RX11, "reckonWeek", "(IIII)Z"⟩
abbrev cX11_fillGains : ByteArray := prog_1_method_47_code
def yX11_fillGains : MethodName := ⟨RX11, "fillGains", "()V"⟩
def RX12 : String := "FrameRentsModel"
def TX12 : u_T := fun k => match k with
  | 0 => ("FrameRentsModel", "now", "I", false)
  | 1 => ("FrameRentsModel", "masters", "I", false)
  | 2 => ("FrameRentsModel", "knitters", "I", false)
  | 3 => ("FrameRentsModel", "frames", "I", false)
  | 4 => ("FrameRentsModel", "houseOf", "[I", true)
  | 5 => ("FrameRentsModel", "headsOf", "[I", true)
  | 6 => ("FrameRentsModel", "gaugeOf", "[I", true)
  | 7 => ("FrameRentsModel", "masterOf", "[I", true)
  | 8 => ("FrameRentsModel", "ownOf", "[I", true)
  | 9 => ("FrameRentsModel", "overOf", "[I", true)
  | 10 => ("FrameRentsModel", "listAt", "[I", true)
  | 11 => ("FrameRentsModel", "hiredAt", "[I", true)
  | 12 => ("FrameRentsModel", "tape", "[B", true)
  | 13 => ("FrameRentsModel", "taped", "I", false)
  | 14 => ("FrameRentsModel", "place0", "I", false)
  | 15 => ("FrameRentsModel", "length0", "I", false)
  | 16 => ("FrameRentsModel", "fault", "I", false)
  | 17 => ("FrameRentsModel", "open", "I", false)
  | 18 => ("FrameRentsModel", "codeMany", "I", false)
  | 19 => ("FrameRentsModel", "waiting", "I", false)
  | 20 => ("FrameRentsModel", "saidFormulas", "I", false)
  | 21 => ("FrameRentsModel", "said", "[I", true)
  | 22 => ("FrameRentsModel", "waits", "[I", true)
  | 23 => ("FrameRentsModel", "saidLetter", "[I", true)
  | 24 => ("FrameRentsModel", "saidPlace", "[I", true)
  | 25 => ("FrameRentsModel", "saidFrom", "[I", true)
  | 26 => ("FrameRentsModel", "reach", "[I", true)
  | 27 => ("FrameRentsModel", "lists", "I", false)
  | 28 => ("FrameRentsModel", "acts", "I", false)
  | 29 => ("FrameRentsModel", "codes", "[I", true)
  | 30 => ("FrameRentsModel", "formulaMany", "[I", true)
  | 31 => ("FrameRentsModel", "letterOf", "[I", true)
  | 32 => ("FrameRentsModel", "fromOf", "[I", true)
  | 33 => ("FrameRentsModel", "toOf", "[I", true)
  | 34 => ("FrameRentsModel", "actCodes", "[I", true)
  | 35 => ("FrameRentsModel", "actMany", "[I", true)
  | 36 => ("FrameRentsModel", "actFrom", "[I", true)
  | 37 => ("FrameRentsModel", "actTo", "[I", true)
  | 38 => ("FrameRentsModel", "actLetter", "[I", true)
  | 39 => ("FrameRentsModel", "isAtMost", "[Z", true)
  | 40 => ("FrameRentsModel", "facts", "[J", true)
  | 41 => ("FrameRentsModel", "values", "[J", true)
  | 42 => ("FrameRentsModel", "stack", "[J", true)
  | 43 => ("FrameRentsModel", "entries", "I", false)
  | 44 => ("FrameRentsModel", "entryFrame", "[I", true)
  | 45 => ("FrameRentsModel", "entryWeek", "[I", true)
  | 46 => ("FrameRentsModel", "entryShape", "[I", true)
  | 47 => ("FrameRentsModel", "entryDozens", "[I", true)
  | 48 => ("FrameRentsModel", "entryNarrowings", "[I", true)
  | 49 => ("FrameRentsModel", "entryYarn", "[I", true)
  | 50 => ("FrameRentsModel", "entryHose", "[I", true)
  | 51 => ("FrameRentsModel", "entryTold", "[I", true)
  | 52 => ("FrameRentsModel", "entryAt", "[I", true)
  | 53 => ("FrameRentsModel", "idleAt", "[I", true)
  | 54 => ("FrameRentsModel", "wages", "J", false)
  | 55 => ("FrameRentsModel", "rent", "J", false)
  | 56 => ("FrameRentsModel", "charges", "J", false)
  | 57 => ("FrameRentsModel", "truck", "J", false)
  | 58 => ("FrameRentsModel", "scale", "I", false)
  | 59 => ("FrameRentsModel", "waste", "I", false)
  | 60 => ("FrameRentsModel", "strikeScale", "I", false)
  | 61 => ("FrameRentsModel", "tellMany", "I", false)
  | 62 => ("FrameRentsModel", "tellMaster", "[I", true)
  | 63 => ("FrameRentsModel", "tellWeek", "[I", true)
  | 64 => ("FrameRentsModel", "tellShape", "[I", true)
  | 65 => ("FrameRentsModel", "tellDozens", "[I", true)
  | 66 => ("FrameRentsModel", "toldDozens", "[I", true)
  | 67 => ("FrameRentsModel", "madeDozens", "[I", true)
  | 68 => ("FrameRentsModel", "hasOrder", "Z", false)
  | 69 => ("FrameRentsModel", "orderMaster", "I", false)
  | 70 => ("FrameRentsModel", "orderShape", "I", false)
  | 71 => ("FrameRentsModel", "orderDozens", "I", false)
  | 72 => ("FrameRentsModel", "orderNarrowings", "I", false)
  | 73 => ("FrameRentsModel", "orderYarn", "I", false)
  | 74 => ("FrameRentsModel", "orderPrice", "I", false)
  | 75 => ("FrameRentsModel", "rowMany", "I", false)
  | 76 => ("FrameRentsModel", "rowFrame", "[I", true)
  | 77 => ("FrameRentsModel", "shareOf", "[I", true)
  | 78 => ("FrameRentsModel", "gains", "[J", true)
  | 79 => ("FrameRentsModel", "bests", "[J", true)
  | 80 => ("FrameRentsModel", "lots", "I", false)
  | 81 => ("FrameRentsModel", "marksOf", "[I", true)
  | 82 => ("FrameRentsModel", "toldOf", "[I", true)
  | 83 => ("FrameRentsModel", "isOwed", "Z", false)
  | 84 => ("FrameRentsModel", "nets", "[J", true)
  | 85 => ("FrameRentsModel", "sums", "[J", true)
  | 86 => ("FrameRentsModel", "groups", "[I", true)
  | 87 => ("FrameRentsModel", "money", "I", false)
  | _ => ("FrameRentsModel", "strikes", "[Z", true)
def tyX12 : Nat → FieldType := fun k => match k with
  | 0 => .int
  | 1 => .int
  | 2 => .int
  | 3 => .int
  | 4 => .array .int
  | 5 => .array .int
  | 6 => .array .int
  | 7 => .array .int
  | 8 => .array .int
  | 9 => .array .int
  | 10 => .array .int
  | 11 => .array .int
  | 12 => .array .byte
  | 13 => .int
  | 14 => .int
  | 15 => .int
  | 16 => .int
  | 17 => .int
  | 18 => .int
  | 19 => .int
  | 20 => .int
  | 21 => .array .int
  | 22 => .array .int
  | 23 => .array .int
  | 24 => .array .int
  | 25 => .array .int
  | 26 => .array .int
  | 27 => .int
  | 28 => .int
  | 29 => .array .int
  | 30 => .array .int
  | 31 => .array .int
  | 32 => .array .int
  | 33 => .array .int
  | 34 => .array .int
  | 35 => .array .int
  | 36 => .array .int
  | 37 => .array .int
  | 38 => .array .int
  | 39 => .array .boolean
  | 40 => .array .long
  | 41 => .array .long
  | 42 => .array .long
  | 43 => .int
  | 44 => .array .int
  | 45 => .array .int
  | 46 => .array .int
  | 47 => .array .int
  | 48 => .array .int
  | 49 => .array .int
  | 50 => .array .int
  | 51 => .array .int
  | 52 => .array .int
  | 53 => .array .int
  | 54 => .long
  | 55 => .long
  | 56 => .long
  | 57 => .long
  | 58 => .int
  | 59 => .int
  | 60 => .int
  | 61 => .int
  | 62 => .array .int
  | 63 => .array .int
  | 64 => .array .int
  | 65 => .array .int
  | 66 => .array .int
  | 67 => .array .int
  | 68 => .boolean
  | 69 => .int
  | 70 => .int
  | 71 => .int
  | 72 => .int
  | 73 => .int
  | 74 => .int
  | 75 => .int
  | 76 => .array .int
  | 77 => .array .int
  | 78 => .array .long
  | 79 => .array .long
  | 80 => .int
  | 81 => .array .int
  | 82 => .array .int
  | 83 => .boolean
  | 84 => .array .long
  | 85 => .array .long
  | 86 => .array .int
  | 87 => .int
  | _ => .array .boolean
theorem nmX12 : ∀ a, a < 89 → ∀ b, b < 89 → a ≠ b → (TX12 a).2.1 ≠ (TX12 b).2.1 := by decide +kernel
theorem tyX12_ok : ∀ k, k < 89 → parseFieldDescriptor (TX12 k).2.2.1 = some (tyX12 k) := by decide +kernel
abbrev cX12_init : ByteArray := prog_14_method_1_code
def yX12_init : MethodName := ⟨RX12, "<init>", "()V"⟩
abbrev cX12_in : ByteArray := prog_14_method_2_code
def yX12_in : MethodName := ⟨RX12, "in", "(III)Z"⟩
abbrev cX12_isMaster : ByteArray := prog_14_method_3_code
def yX12_isMaster : MethodName := ⟨RX12, "isMaster", "(I)Z"⟩
abbrev cX12_isKnitter : ByteArray := prog_14_method_4_code
def yX12_isKnitter : MethodName := ⟨RX12, "isKnitter", "(I)Z"⟩
abbrev cX12_isFrame : ByteArray := prog_14_method_5_code
def yX12_isFrame : MethodName := ⟨RX12, "isFrame", "(I)Z"⟩
abbrev cX12_isWeek : ByteArray := prog_14_method_6_code
def yX12_isWeek : MethodName := ⟨RX12, "isWeek", "(I)Z"⟩
abbrev cX12_master : ByteArray := prog_14_method_7_code
def yX12_master : MethodName := ⟨RX12, "master", "(I)I"⟩
abbrev cX12_knitter : ByteArray := prog_14_method_8_code
def yX12_knitter : MethodName := ⟨RX12, "knitter", "(I)I"⟩
abbrev cX12_hires : ByteArray := prog_14_method_9_code
def yX12_hires : MethodName := ⟨RX12, "hires", "(II)V"⟩
abbrev cX12_frame : ByteArray := prog_14_method_10_code
def yX12_frame : MethodName := ⟨RX12, "frame", "(III)I"⟩
abbrev cX12_hirerOf : ByteArray := prog_14_method_11_code
def yX12_hirerOf : MethodName := ⟨RX12, "hirerOf", "(II)I"⟩
abbrev cX12_hire : ByteArray := prog_14_method_12_code
def yX12_hire : MethodName := ⟨RX12, "hire", "(II)Z"⟩
abbrev cX12_back : ByteArray := prog_14_method_13_code
def yX12_back : MethodName := ⟨RX12, "back", "(I)Z"⟩
abbrev cX12_types : ByteArray := prog_14_method_14_code
def yX12_types : MethodName := ⟨RX12, "types", "(I)V"⟩
abbrev cX12_feed : ByteArray := prog_14_method_15_code
def yX12_feed : MethodName := ⟨RX12, "feed", "(IIIII)I"⟩
abbrev cX12_sign : ByteArray := prog_14_method_16_code
def yX12_sign : MethodName := ⟨RX12, "sign", "()I"⟩
abbrev cX12_wrong : ByteArray := prog_14_method_17_code
def yX12_wrong : MethodName := ⟨RX12, "wrong", "(II)Z"⟩
abbrev cX12_says : ByteArray := prog_14_method_18_code
def yX12_says : MethodName := ⟨RX12, "says", "(II)V"⟩
abbrev cX12_holds : ByteArray := prog_14_method_19_code
def yX12_holds : MethodName := ⟨RX12, "holds", "(II)V"⟩
abbrev cX12_top : ByteArray := prog_14_method_20_code
def yX12_top : MethodName := ⟨RX12, "top", "()I"⟩
abbrev cX12_opOf : ByteArray := prog_14_method_21_code
def yX12_opOf : MethodName := ⟨RX12, "opOf", "(I)I"⟩
abbrev cX12_binds : ByteArray := prog_14_method_22_code
def yX12_binds : MethodName := ⟨RX12, "binds", "(I)I"⟩
abbrev cX12_isSum : ByteArray := prog_14_method_23_code
def yX12_isSum : MethodName := ⟨RX12, "isSum", "(I)Z"⟩
abbrev cX12_isCompared : ByteArray := prog_14_method_24_code
def yX12_isCompared : MethodName := ⟨RX12, "isCompared", "(I)Z"⟩
abbrev cX12_closes : ByteArray := prog_14_method_25_code
def yX12_closes : MethodName := ⟨RX12, "closes", "(I)V"⟩
abbrev cX12_factOf : ByteArray := prog_14_method_26_code
def yX12_factOf : MethodName := ⟨RX12, "factOf", "(I)I"⟩
abbrev cX12_isLetter : ByteArray := prog_14_method_27_code
def yX12_isLetter : MethodName := ⟨RX12, "isLetter", "(I)Z"⟩
abbrev cX12_isDigit : ByteArray := prog_14_method_28_code
def yX12_isDigit : MethodName := ⟨RX12, "isDigit", "(I)Z"⟩
abbrev cX12_readsFactor : ByteArray := prog_14_method_29_code
def yX12_readsFactor : MethodName := ⟨RX12, "readsFactor", "()Z"⟩
abbrev cX12_lands : ByteArray := prog_14_method_30_code
def yX12_lands : MethodName := ⟨RX12, "lands", "()V"⟩
abbrev cX12_asks : ByteArray := prog_14_method_31_code
def yX12_asks : MethodName := ⟨RX12, "asks", "()Z"⟩
abbrev cX12_turns : ByteArray := prog_14_method_32_code
def yX12_turns : MethodName := ⟨RX12, "turns", "()Z"⟩
abbrev cX12_shuts : ByteArray := prog_14_method_33_code
def yX12_shuts : MethodName := ⟨RX12, "shuts", "()Z"⟩
abbrev cX12_readsFormula : ByteArray := prog_14_method_34_code
def yX12_readsFormula : MethodName := ⟨RX12, "readsFormula", "()Z"⟩
abbrev cX12_hasSaid : ByteArray := prog_14_method_35_code
def yX12_hasSaid : MethodName := ⟨RX12, "hasSaid", "(I)Z"⟩
abbrev cX12_readsNamed : ByteArray := prog_14_method_36_code
def yX12_readsNamed : MethodName := ⟨RX12, "readsNamed", "()Z"⟩
abbrev cX12_isFree : ByteArray := prog_14_method_37_code
def yX12_isFree : MethodName := ⟨RX12, "isFree", "()Z"⟩
abbrev cX12_needsOf : ByteArray := prog_14_method_38_code
def yX12_needsOf : MethodName := ⟨RX12, "needsOf", "(I)I"⟩
abbrev cX12_list : ByteArray := prog_14_method_39_code
def yX12_list : MethodName := ⟨RX12, "list", "(I)I"⟩
abbrev cX12_act : ByteArray := prog_14_method_40_code
def yX12_act : MethodName := ⟨RX12, "act", "(III)I"⟩
abbrev cX12_readsAct : ByteArray := prog_14_method_41_code
def yX12_readsAct : MethodName := ⟨RX12, "readsAct", "()Z"⟩
abbrev cX12_reckon : ByteArray := prog_14_method_42_code
def yX12_reckon : MethodName := ⟨RX12, "reckon", "(IJJ)J"⟩
abbrev cX12_worthOf : ByteArray := prog_14_method_43_code
def yX12_worthOf : MethodName := ⟨RX12, "worthOf", "([IIII)J"⟩
abbrev cX12_worths : ByteArray := prog_14_method_44_code
def yX12_worths : MethodName := ⟨RX12, "worths", "(I)V"⟩
abbrev cX12_numberAt : ByteArray := prog_14_method_45_code
def yX12_numberAt : MethodName := ⟨RX12, "numberAt", "(I)I"⟩
abbrev cX12_worth : ByteArray := prog_14_method_46_code
def yX12_worth : MethodName := ⟨RX12, "worth", "(II)J"⟩
abbrev cX12_bounded : ByteArray := prog_14_method_47_code
def yX12_bounded : MethodName := ⟨RX12, "bounded", "(CI)J"⟩
abbrev cX12_uses : ByteArray := prog_14_method_48_code
def yX12_uses : MethodName := ⟨RX12, "uses", "(II)Z"⟩
abbrev cX12_listOf : ByteArray := prog_14_method_49_code
def yX12_listOf : MethodName := ⟨RX12, "listOf", "(II)I"⟩
abbrev cX12_entry : ByteArray := prog_14_method_50_code
def yX12_entry : MethodName := ⟨RX12, "entry", "(IIIIIII)I"⟩
abbrev cX12_goesThrough : ByteArray := prog_14_method_51_code
def yX12_goesThrough : MethodName := ⟨RX12, "goesThrough", "(II)V"⟩
abbrev cX12_idleAnew : ByteArray := prog_14_method_52_code
def yX12_idleAnew : MethodName := ⟨RX12, "idleAnew", "(II)I"⟩
abbrev cX12_framesOf : ByteArray := prog_14_method_53_code
def yX12_framesOf : MethodName := ⟨RX12, "framesOf", "(II)I"⟩
abbrev cX12_setsFacts : ByteArray := prog_14_method_54_code
def yX12_setsFacts : MethodName := ⟨RX12, "setsFacts", "(II)V"⟩
abbrev cX12_comesTo : ByteArray := prog_14_method_55_code
def yX12_comesTo : MethodName := ⟨RX12, "comesTo", "(III)V"⟩
abbrev cX12_left : ByteArray := prog_14_method_56_code
def yX12_left : MethodName := ⟨RX12, "left", "()J"⟩
abbrev cX12_paidInTruck : ByteArray := prog_14_method_57_code
def yX12_paidInTruck : MethodName := ⟨RX12, "paidInTruck", "()J"⟩
abbrev cX12_weekOf : ByteArray := prog_14_method_58_code
def yX12_weekOf : MethodName := ⟨RX12, "weekOf", "(III)Z"⟩
abbrev cX12_week : ByteArray := prog_14_method_59_code
def yX12_week : MethodName := ⟨RX12, "week", "(IIII)J"⟩
abbrev cX12_earnedBy : ByteArray := prog_14_method_60_code
def yX12_earnedBy : MethodName := ⟨RX12, "earnedBy", "(III)J"⟩
abbrev cX12_earned : ByteArray := prog_14_method_61_code
def yX12_earned : MethodName := ⟨RX12, "earned", "(IIIZ)J"⟩
abbrev cX12_number : ByteArray := prog_14_method_62_code
def yX12_number : MethodName := ⟨RX12, "number", "(II)Z"⟩
abbrev cX12_amiss : ByteArray := prog_14_method_63_code
def yX12_amiss : MethodName := ⟨RX12, "amiss", "(I)I"⟩
abbrev cX12_tells : ByteArray := prog_14_method_64_code
def yX12_tells : MethodName := ⟨RX12, "tells", "(IIII)Z"⟩
abbrev cX12_booksOf : ByteArray := prog_14_method_65_code
def yX12_booksOf : MethodName := ⟨RX12, "booksOf", "(I)V"⟩
abbrev cX12_differs : ByteArray := prog_14_method_66_code
def yX12_differs : MethodName := ⟨RX12, "differs", "(III)I"⟩
abbrev cX12_weighs : ByteArray := prog_14_method_67_code
def yX12_weighs : MethodName := ⟨RX12, "weighs", "()V"⟩
abbrev cX12_spread : ByteArray := prog_14_method_68_code
def yX12_spread : MethodName := ⟨RX12, "spread", "(IIIIII)J"⟩
abbrev cX12_bestOf : ByteArray := prog_14_method_69_code
def yX12_bestOf : MethodName := ⟨RX12, "bestOf", "(II)J"⟩
abbrev cX12_share : ByteArray := prog_14_method_70_code
def yX12_share : MethodName := ⟨RX12, "share", "(I)I"⟩
abbrev cX12_judge : ByteArray := prog_14_method_71_code
def yX12_judge : MethodName := ⟨RX12, "judge", "(I)J"⟩
abbrev cX12_beside : ByteArray := prog_14_method_72_code
def yX12_beside : MethodName := ⟨RX12, "beside", "(IIII)J"⟩
abbrev cX12_lot : ByteArray := prog_14_method_73_code
def yX12_lot : MethodName := ⟨RX12, "lot", "(I)I"⟩
abbrev cX12_isLot : ByteArray := prog_14_method_74_code
def yX12_isLot : MethodName := ⟨RX12, "isLot", "(I)Z"⟩
abbrev cX12_told : ByteArray := prog_14_method_75_code
def yX12_told : MethodName := ⟨RX12, "told", "(II)Z"⟩
abbrev cX12_far : ByteArray := prog_14_method_76_code
def yX12_far : MethodName := ⟨RX12, "far", "(II)I"⟩
abbrev cX12_is : ByteArray := prog_14_method_77_code
def yX12_is : MethodName := ⟨RX12, "is", "(I)I"⟩
abbrev cX12_isOne : ByteArray := prog_14_method_78_code
def yX12_isOne : MethodName := ⟨RX12, "isOne", "(I)Z"⟩
abbrev cX12_owes : ByteArray := prog_14_method_79_code
def yX12_owes : MethodName := ⟨RX12, "owes", "(III)Z"⟩
abbrev cX12_net : ByteArray := prog_14_method_80_code
def yX12_net : MethodName := ⟨RX12, "net", "(I)J"⟩
abbrev cX12_payments : ByteArray := prog_14_method_81_code
def yX12_payments : MethodName := ⟨RX12, "payments", "()I"⟩
abbrev cX12_clear : ByteArray := prog_14_method_82_code
def yX12_clear : MethodName := ⟨RX12, "clear", "()Z"⟩
abbrev cX12_fund : ByteArray := prog_14_method_83_code
def yX12_fund : MethodName := ⟨RX12, "fund", "(I)I"⟩
abbrev cX12_strike : ByteArray := prog_14_method_84_code
def yX12_strike : MethodName := ⟨RX12, "strike", "(IZ)Z"⟩
abbrev cX12_lasts : ByteArray := prog_14_method_85_code
def yX12_lasts : MethodName := ⟨RX12, "lasts", "()I"⟩
abbrev cX12_goes : ByteArray := prog_14_method_86_code
def yX12_goes : MethodName := ⟨RX12, "goes", "()I"⟩
abbrev cX12_look : ByteArray := prog_14_method_87_code
def yX12_look : MethodName := ⟨RX12, "look", "(II)I"⟩
abbrev cX12_strikers : ByteArray := prog_14_method_88_code
def yX12_strikers : MethodName := ⟨RX12, "strikers", "()I"⟩
abbrev cX12_count : ByteArray := prog_14_method_89_code
def yX12_count : MethodName := ⟨RX12, "count", "(I)I"⟩
def RJ6 : String := "java/lang/Integer"
abbrev cJ6_bitCount_0f7a4 : ByteArray := prog_16_method_49_code
def yJ6_bitCount_0f7a4 : MethodName := ⟨RJ6, "bitCount", "(I)I"⟩
def RJ9 : String := "java/lang/Math"
abbrev cJ9_max_7cf53 : ByteArray := prog_17_method_65_code
def yJ9_max_7cf53 : MethodName := ⟨RJ9, "max", "(II)I"⟩
abbrev cJ9_max_f86c9 : ByteArray := prog_17_method_66_code
def yJ9_max_f86c9 : MethodName := ⟨RJ9, "max", "(JJ)J"⟩
abbrev cJ9_min_7cf53 : ByteArray := prog_17_method_69_code
def yJ9_min_7cf53 : MethodName := ⟨RJ9, "min", "(II)I"⟩
abbrev cJ9_min_f86c9 : ByteArray := prog_17_method_70_code
def yJ9_min_f86c9 : MethodName := ⟨RJ9, "min", "(JJ)J"⟩
def RJ0 : String := "java/lang/String"
abbrev cJ0_length_8abf5 : ByteArray := prog_18_method_54_code
def yJ0_length_8abf5 : MethodName := ⟨RJ0, "length", "()I"⟩
abbrev cJ0_indexOf_0f7a4 : ByteArray := prog_18_method_79_code
def yJ0_indexOf_0f7a4 : MethodName := ⟨RJ0, "indexOf", "(I)I"⟩
abbrev cJ0_indexOf_7cf53 : ByteArray := prog_18_method_80_code
def yJ0_indexOf_7cf53 : MethodName := ⟨RJ0, "indexOf", "(II)I"⟩
abbrev cJ0_coder_7d493 : ByteArray := prog_18_method_152_code
def yJ0_coder_7d493 : MethodName := ⟨RJ0, "coder", "()B"⟩
abbrev cJ0_isLatin1_aae02 : ByteArray := prog_18_method_154_code
def yJ0_isLatin1_aae02 : MethodName := ⟨RJ0, "isLatin1", "()Z"⟩
abbrev cJ0_checkBoundsBeginEnd_23922 : ByteArray := prog_18_method_158_code
def yJ0_checkBoundsBeginEnd_23922 : MethodName := ⟨RJ0, "checkBoundsBeginEnd", "(III)V"⟩
def RL : String := "FrameRentsLaw"
abbrev cL_law : ByteArray := code
def yL_law : MethodName := ⟨RL, "law", "([I)Z"⟩
