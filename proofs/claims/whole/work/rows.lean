section
-- ===== PART A: goes FIRST, ahead of the names: the tables' words, and 'selects' of the private methods out of them =====
/-- a private method of a class that the tables say can be made, by its rows of tables_1 -/
def lw_okq (q : MethodName × Nat) : Prop := (q.1.cls ≠ "java/lang/invoke/MethodHandle" ∧ q.1.cls ≠ "java/lang/invoke/VarHandle") ∧ Cond.instantiable q.1.cls q.2 ∈ tables_1 ∧ Cond.privateMethod q.1 ∈ tables_1 ∧ Cond.instanceMethod q.1 ∈ tables_1
theorem lw_p0 : lw_okq (⟨"InTheGarden$Garden", "measureWays", "()V"⟩, 14) := ⟨⟨by decide +kernel, by decide +kernel⟩, List.mem_of_getElem? (i := 36) (by decide +kernel), List.mem_of_getElem? (i := 46) (by decide +kernel), List.mem_of_getElem? (i := 47) (by decide +kernel)⟩
theorem lw_p1 : lw_okq (⟨"InTheGarden$Garden", "shortenFrom", "(II)V"⟩, 14) := ⟨⟨by decide +kernel, by decide +kernel⟩, List.mem_of_getElem? (i := 36) (by decide +kernel), List.mem_of_getElem? (i := 50) (by decide +kernel), List.mem_of_getElem? (i := 51) (by decide +kernel)⟩
theorem lw_p2 : lw_okq (⟨"InTheGarden$Garden", "measureRuns", "(I)V"⟩, 14) := ⟨⟨by decide +kernel, by decide +kernel⟩, List.mem_of_getElem? (i := 36) (by decide +kernel), List.mem_of_getElem? (i := 54) (by decide +kernel), List.mem_of_getElem? (i := 55) (by decide +kernel)⟩
theorem lw_p3 : lw_okq (⟨"InTheGarden", "refuse", "(I)I"⟩, 15) := ⟨⟨by decide +kernel, by decide +kernel⟩, List.mem_of_getElem? (i := 22) (by decide +kernel), List.mem_of_getElem? (i := 362) (by decide +kernel), List.mem_of_getElem? (i := 363) (by decide +kernel)⟩
theorem lw_p4 : lw_okq (⟨"InTheGarden$Reader", "countStatements", "()I"⟩, 4) := ⟨⟨by decide +kernel, by decide +kernel⟩, List.mem_of_getElem? (i := 241) (by decide +kernel), List.mem_of_getElem? (i := 384) (by decide +kernel), List.mem_of_getElem? (i := 385) (by decide +kernel)⟩
theorem lw_p5 : lw_okq (⟨"InTheGarden$Reader", "readStatement", "()Z"⟩, 4) := ⟨⟨by decide +kernel, by decide +kernel⟩, List.mem_of_getElem? (i := 241) (by decide +kernel), List.mem_of_getElem? (i := 388) (by decide +kernel), List.mem_of_getElem? (i := 389) (by decide +kernel)⟩
theorem lw_p6 : lw_okq (⟨"InTheGarden$Reader", "sign", "()I"⟩, 4) := ⟨⟨by decide +kernel, by decide +kernel⟩, List.mem_of_getElem? (i := 241) (by decide +kernel), List.mem_of_getElem? (i := 392) (by decide +kernel), List.mem_of_getElem? (i := 393) (by decide +kernel)⟩
theorem lw_p7 : lw_okq (⟨"InTheGarden$Reader", "readMark", "(C)Z"⟩, 4) := ⟨⟨by decide +kernel, by decide +kernel⟩, List.mem_of_getElem? (i := 241) (by decide +kernel), List.mem_of_getElem? (i := 456) (by decide +kernel), List.mem_of_getElem? (i := 457) (by decide +kernel)⟩
theorem lw_p8 : lw_okq (⟨"InTheGarden$Reader", "readValue", "(CI)Z"⟩, 4) := ⟨⟨by decide +kernel, by decide +kernel⟩, List.mem_of_getElem? (i := 241) (by decide +kernel), List.mem_of_getElem? (i := 460) (by decide +kernel), List.mem_of_getElem? (i := 461) (by decide +kernel)⟩
theorem lw_p9 : lw_okq (⟨"InTheGarden$Reader", "readKind", "(I)Z"⟩, 4) := ⟨⟨by decide +kernel, by decide +kernel⟩, List.mem_of_getElem? (i := 241) (by decide +kernel), List.mem_of_getElem? (i := 464) (by decide +kernel), List.mem_of_getElem? (i := 465) (by decide +kernel)⟩
theorem lw_p10 : lw_okq (⟨"InTheGarden$Reader", "keep", "(II)V"⟩, 4) := ⟨⟨by decide +kernel, by decide +kernel⟩, List.mem_of_getElem? (i := 241) (by decide +kernel), List.mem_of_getElem? (i := 526) (by decide +kernel), List.mem_of_getElem? (i := 527) (by decide +kernel)⟩
theorem lw_p11 : lw_okq (⟨"InTheGarden$Reader", "readNumber", "(III)Z"⟩, 4) := ⟨⟨by decide +kernel, by decide +kernel⟩, List.mem_of_getElem? (i := 241) (by decide +kernel), List.mem_of_getElem? (i := 530) (by decide +kernel), List.mem_of_getElem? (i := 531) (by decide +kernel)⟩
theorem lw_p12 : lw_okq (⟨"InTheGarden$Reader", "tell", "(ILInTheGarden$Garden;)Z"⟩, 4) := ⟨⟨by decide +kernel, by decide +kernel⟩, List.mem_of_getElem? (i := 241) (by decide +kernel), List.mem_of_getElem? (i := 534) (by decide +kernel), List.mem_of_getElem? (i := 535) (by decide +kernel)⟩
theorem lw_p13 : lw_okq (⟨"InTheGarden$Round", "begin", "(LInTheGarden$Garden;I)V"⟩, 10) := ⟨⟨by decide +kernel, by decide +kernel⟩, List.mem_of_getElem? (i := 150) (by decide +kernel), List.mem_of_getElem? (i := 645) (by decide +kernel), List.mem_of_getElem? (i := 646) (by decide +kernel)⟩
theorem lw_p14 : lw_okq (⟨"InTheGarden$Round", "hideAll", "(LInTheGarden$Garden;LInTheGarden$Told;)V"⟩, 10) := ⟨⟨by decide +kernel, by decide +kernel⟩, List.mem_of_getElem? (i := 150) (by decide +kernel), List.mem_of_getElem? (i := 650) (by decide +kernel), List.mem_of_getElem? (i := 651) (by decide +kernel)⟩
theorem lw_p15 : lw_okq (⟨"InTheGarden$Round", "choose", "(LInTheGarden$Garden;LInTheGarden$Told;I)I"⟩, 10) := ⟨⟨by decide +kernel, by decide +kernel⟩, List.mem_of_getElem? (i := 150) (by decide +kernel), List.mem_of_getElem? (i := 654) (by decide +kernel), List.mem_of_getElem? (i := 655) (by decide +kernel)⟩
def lw_privs_1 : List (MethodName × Nat) := [(⟨"InTheGarden$Garden", "measureWays", "()V"⟩, 14), (⟨"InTheGarden$Garden", "shortenFrom", "(II)V"⟩, 14), (⟨"InTheGarden$Garden", "measureRuns", "(I)V"⟩, 14), (⟨"InTheGarden", "refuse", "(I)I"⟩, 15), (⟨"InTheGarden$Reader", "countStatements", "()I"⟩, 4), (⟨"InTheGarden$Reader", "readStatement", "()Z"⟩, 4), (⟨"InTheGarden$Reader", "sign", "()I"⟩, 4), (⟨"InTheGarden$Reader", "readMark", "(C)Z"⟩, 4), (⟨"InTheGarden$Reader", "readValue", "(CI)Z"⟩, 4), (⟨"InTheGarden$Reader", "readKind", "(I)Z"⟩, 4), (⟨"InTheGarden$Reader", "keep", "(II)V"⟩, 4), (⟨"InTheGarden$Reader", "readNumber", "(III)Z"⟩, 4), (⟨"InTheGarden$Reader", "tell", "(ILInTheGarden$Garden;)Z"⟩, 4), (⟨"InTheGarden$Round", "begin", "(LInTheGarden$Garden;I)V"⟩, 10), (⟨"InTheGarden$Round", "hideAll", "(LInTheGarden$Garden;LInTheGarden$Told;)V"⟩, 10), (⟨"InTheGarden$Round", "choose", "(LInTheGarden$Garden;LInTheGarden$Told;I)I"⟩, 10)]
theorem lw_r1 : ∀ q ∈ lw_privs_1, lw_okq q := List.forall_mem_cons.mpr ⟨lw_p0, List.forall_mem_cons.mpr ⟨lw_p1, List.forall_mem_cons.mpr ⟨lw_p2, List.forall_mem_cons.mpr ⟨lw_p3, List.forall_mem_cons.mpr ⟨lw_p4, List.forall_mem_cons.mpr ⟨lw_p5, List.forall_mem_cons.mpr ⟨lw_p6, List.forall_mem_cons.mpr ⟨lw_p7, List.forall_mem_cons.mpr ⟨lw_p8, List.forall_mem_cons.mpr ⟨lw_p9, List.forall_mem_cons.mpr ⟨lw_p10, List.forall_mem_cons.mpr ⟨lw_p11, List.forall_mem_cons.mpr ⟨lw_p12, List.forall_mem_cons.mpr ⟨lw_p13, List.forall_mem_cons.mpr ⟨lw_p14, List.forall_mem_cons.mpr ⟨lw_p15, fun _ h => absurd h List.not_mem_nil⟩⟩⟩⟩⟩⟩⟩⟩⟩⟩⟩⟩⟩⟩⟩⟩
theorem lw_p16 : lw_okq (⟨"InTheGarden$Round", "openPlaces", "(LInTheGarden$Garden;II)I"⟩, 10) := ⟨⟨by decide +kernel, by decide +kernel⟩, List.mem_of_getElem? (i := 150) (by decide +kernel), List.mem_of_getElem? (i := 658) (by decide +kernel), List.mem_of_getElem? (i := 659) (by decide +kernel)⟩
theorem lw_p17 : lw_okq (⟨"InTheGarden$Round", "drawBelow", "(I)I"⟩, 10) := ⟨⟨by decide +kernel, by decide +kernel⟩, List.mem_of_getElem? (i := 150) (by decide +kernel), List.mem_of_getElem? (i := 680) (by decide +kernel), List.mem_of_getElem? (i := 681) (by decide +kernel)⟩
theorem lw_p18 : lw_okq (⟨"InTheGarden$Round", "find", "(II)V"⟩, 10) := ⟨⟨by decide +kernel, by decide +kernel⟩, List.mem_of_getElem? (i := 150) (by decide +kernel), List.mem_of_getElem? (i := 690) (by decide +kernel), List.mem_of_getElem? (i := 691) (by decide +kernel)⟩
theorem lw_p19 : lw_okq (⟨"InTheGarden$Round", "comeAndLook", "(LInTheGarden$Garden;LInTheGarden$Told;LInTheGarden$Seeker;I)V"⟩, 10) := ⟨⟨by decide +kernel, by decide +kernel⟩, List.mem_of_getElem? (i := 150) (by decide +kernel), List.mem_of_getElem? (i := 699) (by decide +kernel), List.mem_of_getElem? (i := 700) (by decide +kernel)⟩
theorem lw_p20 : lw_okq (⟨"InTheGarden$Round", "coverOf", "(LInTheGarden$Garden;IIII)I"⟩, 10) := ⟨⟨by decide +kernel, by decide +kernel⟩, List.mem_of_getElem? (i := 150) (by decide +kernel), List.mem_of_getElem? (i := 711) (by decide +kernel), List.mem_of_getElem? (i := 712) (by decide +kernel)⟩
theorem lw_p21 : lw_okq (⟨"InTheGarden$Round", "hidingIn", "(I)I"⟩, 10) := ⟨⟨by decide +kernel, by decide +kernel⟩, List.mem_of_getElem? (i := 150) (by decide +kernel), List.mem_of_getElem? (i := 715) (by decide +kernel), List.mem_of_getElem? (i := 716) (by decide +kernel)⟩
theorem lw_p22 : lw_okq (⟨"InTheGarden$Round", "bringHome", "(IZZ)V"⟩, 10) := ⟨⟨by decide +kernel, by decide +kernel⟩, List.mem_of_getElem? (i := 150) (by decide +kernel), List.mem_of_getElem? (i := 725) (by decide +kernel), List.mem_of_getElem? (i := 726) (by decide +kernel)⟩
theorem lw_p23 : lw_okq (⟨"InTheGarden$Round", "isOpen", "()Z"⟩, 10) := ⟨⟨by decide +kernel, by decide +kernel⟩, List.mem_of_getElem? (i := 150) (by decide +kernel), List.mem_of_getElem? (i := 729) (by decide +kernel), List.mem_of_getElem? (i := 730) (by decide +kernel)⟩
theorem lw_p24 : lw_okq (⟨"InTheGarden$Round", "freeAll", "(I)V"⟩, 10) := ⟨⟨by decide +kernel, by decide +kernel⟩, List.mem_of_getElem? (i := 150) (by decide +kernel), List.mem_of_getElem? (i := 733) (by decide +kernel), List.mem_of_getElem? (i := 734) (by decide +kernel)⟩
theorem lw_p25 : lw_okq (⟨"InTheGarden$Seeker", "nextTarget", "(LInTheGarden$Garden;LInTheGarden$Told;)I"⟩, 5) := ⟨⟨by decide +kernel, by decide +kernel⟩, List.mem_of_getElem? (i := 217) (by decide +kernel), List.mem_of_getElem? (i := 741) (by decide +kernel), List.mem_of_getElem? (i := 742) (by decide +kernel)⟩
theorem lw_p26 : lw_okq (⟨"InTheGarden$Round", "startRuns", "(LInTheGarden$Garden;III)V"⟩, 10) := ⟨⟨by decide +kernel, by decide +kernel⟩, List.mem_of_getElem? (i := 150) (by decide +kernel), List.mem_of_getElem? (i := 757) (by decide +kernel), List.mem_of_getElem? (i := 758) (by decide +kernel)⟩
theorem lw_p27 : lw_okq (⟨"InTheGarden$Round", "nextMoment", "(LInTheGarden$Seeker;I)I"⟩, 10) := ⟨⟨by decide +kernel, by decide +kernel⟩, List.mem_of_getElem? (i := 150) (by decide +kernel), List.mem_of_getElem? (i := 767) (by decide +kernel), List.mem_of_getElem? (i := 768) (by decide +kernel)⟩
theorem lw_p28 : lw_okq (⟨"InTheGarden$Round", "end", "(I)V"⟩, 10) := ⟨⟨by decide +kernel, by decide +kernel⟩, List.mem_of_getElem? (i := 150) (by decide +kernel), List.mem_of_getElem? (i := 771) (by decide +kernel), List.mem_of_getElem? (i := 772) (by decide +kernel)⟩
theorem lw_p29 : lw_okq (⟨"InTheGarden", "nobodyRuns", "(II)Z"⟩, 15) := ⟨⟨by decide +kernel, by decide +kernel⟩, List.mem_of_getElem? (i := 22) (by decide +kernel), List.mem_of_getElem? (i := 804) (by decide +kernel), List.mem_of_getElem? (i := 805) (by decide +kernel)⟩
theorem lw_p30 : lw_okq (⟨"InTheGarden$Sight", "goFurther", "(LInTheGarden$Garden;III)V"⟩, 1) := ⟨⟨by decide +kernel, by decide +kernel⟩, List.mem_of_getElem? (i := 261) (by decide +kernel), List.mem_of_getElem? (i := 830) (by decide +kernel), List.mem_of_getElem? (i := 831) (by decide +kernel)⟩
theorem lw_p31 : lw_okq (⟨"InTheGarden", "refusalOfGame", "(III)I"⟩, 15) := ⟨⟨by decide +kernel, by decide +kernel⟩, List.mem_of_getElem? (i := 22) (by decide +kernel), List.mem_of_getElem? (i := 847) (by decide +kernel), List.mem_of_getElem? (i := 848) (by decide +kernel)⟩
def lw_privs_2 : List (MethodName × Nat) := [(⟨"InTheGarden$Round", "openPlaces", "(LInTheGarden$Garden;II)I"⟩, 10), (⟨"InTheGarden$Round", "drawBelow", "(I)I"⟩, 10), (⟨"InTheGarden$Round", "find", "(II)V"⟩, 10), (⟨"InTheGarden$Round", "comeAndLook", "(LInTheGarden$Garden;LInTheGarden$Told;LInTheGarden$Seeker;I)V"⟩, 10), (⟨"InTheGarden$Round", "coverOf", "(LInTheGarden$Garden;IIII)I"⟩, 10), (⟨"InTheGarden$Round", "hidingIn", "(I)I"⟩, 10), (⟨"InTheGarden$Round", "bringHome", "(IZZ)V"⟩, 10), (⟨"InTheGarden$Round", "isOpen", "()Z"⟩, 10), (⟨"InTheGarden$Round", "freeAll", "(I)V"⟩, 10), (⟨"InTheGarden$Seeker", "nextTarget", "(LInTheGarden$Garden;LInTheGarden$Told;)I"⟩, 5), (⟨"InTheGarden$Round", "startRuns", "(LInTheGarden$Garden;III)V"⟩, 10), (⟨"InTheGarden$Round", "nextMoment", "(LInTheGarden$Seeker;I)I"⟩, 10), (⟨"InTheGarden$Round", "end", "(I)V"⟩, 10), (⟨"InTheGarden", "nobodyRuns", "(II)Z"⟩, 15), (⟨"InTheGarden$Sight", "goFurther", "(LInTheGarden$Garden;III)V"⟩, 1), (⟨"InTheGarden", "refusalOfGame", "(III)I"⟩, 15)]
theorem lw_r2 : ∀ q ∈ lw_privs_2, lw_okq q := List.forall_mem_cons.mpr ⟨lw_p16, List.forall_mem_cons.mpr ⟨lw_p17, List.forall_mem_cons.mpr ⟨lw_p18, List.forall_mem_cons.mpr ⟨lw_p19, List.forall_mem_cons.mpr ⟨lw_p20, List.forall_mem_cons.mpr ⟨lw_p21, List.forall_mem_cons.mpr ⟨lw_p22, List.forall_mem_cons.mpr ⟨lw_p23, List.forall_mem_cons.mpr ⟨lw_p24, List.forall_mem_cons.mpr ⟨lw_p25, List.forall_mem_cons.mpr ⟨lw_p26, List.forall_mem_cons.mpr ⟨lw_p27, List.forall_mem_cons.mpr ⟨lw_p28, List.forall_mem_cons.mpr ⟨lw_p29, List.forall_mem_cons.mpr ⟨lw_p30, List.forall_mem_cons.mpr ⟨lw_p31, fun _ h => absurd h List.not_mem_nil⟩⟩⟩⟩⟩⟩⟩⟩⟩⟩⟩⟩⟩⟩⟩⟩
theorem lw_p32 : lw_okq (⟨"InTheGarden$Game", "tellAll", "(LInTheGarden$Garden;LInTheGarden$Orders;)V"⟩, 6) := ⟨⟨by decide +kernel, by decide +kernel⟩, List.mem_of_getElem? (i := 271) (by decide +kernel), List.mem_of_getElem? (i := 861) (by decide +kernel), List.mem_of_getElem? (i := 862) (by decide +kernel)⟩
theorem lw_p33 : lw_okq (⟨"InTheGarden$Orders", "swap", "(II)V"⟩, 2) := ⟨⟨by decide +kernel, by decide +kernel⟩, List.mem_of_getElem? (i := 297) (by decide +kernel), List.mem_of_getElem? (i := 875) (by decide +kernel), List.mem_of_getElem? (i := 876) (by decide +kernel)⟩
theorem lw_p34 : lw_okq (⟨"InTheGarden$Game", "addTells", "(II)V"⟩, 6) := ⟨⟨by decide +kernel, by decide +kernel⟩, List.mem_of_getElem? (i := 271) (by decide +kernel), List.mem_of_getElem? (i := 885) (by decide +kernel), List.mem_of_getElem? (i := 886) (by decide +kernel)⟩
theorem lw_p35 : lw_okq (⟨"InTheGarden", "findsOfTrial", "(II)I"⟩, 15) := ⟨⟨by decide +kernel, by decide +kernel⟩, List.mem_of_getElem? (i := 22) (by decide +kernel), List.mem_of_getElem? (i := 929) (by decide +kernel), List.mem_of_getElem? (i := 930) (by decide +kernel)⟩
theorem lw_p36 : lw_okq (⟨"InTheGardenModel", "refuse", "(I)I"⟩, 38) := ⟨⟨by decide +kernel, by decide +kernel⟩, List.mem_of_getElem? (i := 974) (by decide +kernel), List.mem_of_getElem? (i := 1100) (by decide +kernel), List.mem_of_getElem? (i := 1101) (by decide +kernel)⟩
theorem lw_p37 : lw_okq (⟨"InTheGardenModel", "reads", "()I"⟩, 38) := ⟨⟨by decide +kernel, by decide +kernel⟩, List.mem_of_getElem? (i := 974) (by decide +kernel), List.mem_of_getElem? (i := 1109) (by decide +kernel), List.mem_of_getElem? (i := 1110) (by decide +kernel)⟩
theorem lw_p38 : lw_okq (⟨"InTheGardenModel", "readsStatement", "()Z"⟩, 38) := ⟨⟨by decide +kernel, by decide +kernel⟩, List.mem_of_getElem? (i := 974) (by decide +kernel), List.mem_of_getElem? (i := 1113) (by decide +kernel), List.mem_of_getElem? (i := 1114) (by decide +kernel)⟩
theorem lw_p39 : lw_okq (⟨"InTheGardenModel", "sign", "()I"⟩, 38) := ⟨⟨by decide +kernel, by decide +kernel⟩, List.mem_of_getElem? (i := 974) (by decide +kernel), List.mem_of_getElem? (i := 1117) (by decide +kernel), List.mem_of_getElem? (i := 1118) (by decide +kernel)⟩
theorem lw_p40 : lw_okq (⟨"InTheGardenModel", "readsNumber", "(III)Z"⟩, 38) := ⟨⟨by decide +kernel, by decide +kernel⟩, List.mem_of_getElem? (i := 974) (by decide +kernel), List.mem_of_getElem? (i := 1124) (by decide +kernel), List.mem_of_getElem? (i := 1125) (by decide +kernel)⟩
theorem lw_p41 : lw_okq (⟨"InTheGardenModel", "isDigit", "()Z"⟩, 38) := ⟨⟨by decide +kernel, by decide +kernel⟩, List.mem_of_getElem? (i := 974) (by decide +kernel), List.mem_of_getElem? (i := 1128) (by decide +kernel), List.mem_of_getElem? (i := 1129) (by decide +kernel)⟩
theorem lw_p42 : lw_okq (⟨"InTheGardenModel", "takes", "(I)Z"⟩, 38) := ⟨⟨by decide +kernel, by decide +kernel⟩, List.mem_of_getElem? (i := 974) (by decide +kernel), List.mem_of_getElem? (i := 1132) (by decide +kernel), List.mem_of_getElem? (i := 1133) (by decide +kernel)⟩
theorem lw_p43 : lw_okq (⟨"InTheGardenModel", "comes", "(I)Z"⟩, 38) := ⟨⟨by decide +kernel, by decide +kernel⟩, List.mem_of_getElem? (i := 974) (by decide +kernel), List.mem_of_getElem? (i := 1136) (by decide +kernel), List.mem_of_getElem? (i := 1137) (by decide +kernel)⟩
theorem lw_p44 : lw_okq (⟨"InTheGardenModel", "isPlace", "(I)Z"⟩, 38) := ⟨⟨by decide +kernel, by decide +kernel⟩, List.mem_of_getElem? (i := 974) (by decide +kernel), List.mem_of_getElem? (i := 1147) (by decide +kernel), List.mem_of_getElem? (i := 1148) (by decide +kernel)⟩
theorem lw_p45 : lw_okq (⟨"InTheGardenModel", "get", "(II)I"⟩, 38) := ⟨⟨by decide +kernel, by decide +kernel⟩, List.mem_of_getElem? (i := 974) (by decide +kernel), List.mem_of_getElem? (i := 1154) (by decide +kernel), List.mem_of_getElem? (i := 1155) (by decide +kernel)⟩
theorem lw_p46 : lw_okq (⟨"InTheGardenModel", "seesOne", "(II)Z"⟩, 38) := ⟨⟨by decide +kernel, by decide +kernel⟩, List.mem_of_getElem? (i := 974) (by decide +kernel), List.mem_of_getElem? (i := 1162) (by decide +kernel), List.mem_of_getElem? (i := 1163) (by decide +kernel)⟩
theorem lw_p47 : lw_okq (⟨"InTheGardenModel", "findFar", "()V"⟩, 38) := ⟨⟨by decide +kernel, by decide +kernel⟩, List.mem_of_getElem? (i := 974) (by decide +kernel), List.mem_of_getElem? (i := 1170) (by decide +kernel), List.mem_of_getElem? (i := 1171) (by decide +kernel)⟩
def lw_privs_3 : List (MethodName × Nat) := [(⟨"InTheGarden$Game", "tellAll", "(LInTheGarden$Garden;LInTheGarden$Orders;)V"⟩, 6), (⟨"InTheGarden$Orders", "swap", "(II)V"⟩, 2), (⟨"InTheGarden$Game", "addTells", "(II)V"⟩, 6), (⟨"InTheGarden", "findsOfTrial", "(II)I"⟩, 15), (⟨"InTheGardenModel", "refuse", "(I)I"⟩, 38), (⟨"InTheGardenModel", "reads", "()I"⟩, 38), (⟨"InTheGardenModel", "readsStatement", "()Z"⟩, 38), (⟨"InTheGardenModel", "sign", "()I"⟩, 38), (⟨"InTheGardenModel", "readsNumber", "(III)Z"⟩, 38), (⟨"InTheGardenModel", "isDigit", "()Z"⟩, 38), (⟨"InTheGardenModel", "takes", "(I)Z"⟩, 38), (⟨"InTheGardenModel", "comes", "(I)Z"⟩, 38), (⟨"InTheGardenModel", "isPlace", "(I)Z"⟩, 38), (⟨"InTheGardenModel", "get", "(II)I"⟩, 38), (⟨"InTheGardenModel", "seesOne", "(II)Z"⟩, 38), (⟨"InTheGardenModel", "findFar", "()V"⟩, 38)]
theorem lw_r3 : ∀ q ∈ lw_privs_3, lw_okq q := List.forall_mem_cons.mpr ⟨lw_p32, List.forall_mem_cons.mpr ⟨lw_p33, List.forall_mem_cons.mpr ⟨lw_p34, List.forall_mem_cons.mpr ⟨lw_p35, List.forall_mem_cons.mpr ⟨lw_p36, List.forall_mem_cons.mpr ⟨lw_p37, List.forall_mem_cons.mpr ⟨lw_p38, List.forall_mem_cons.mpr ⟨lw_p39, List.forall_mem_cons.mpr ⟨lw_p40, List.forall_mem_cons.mpr ⟨lw_p41, List.forall_mem_cons.mpr ⟨lw_p42, List.forall_mem_cons.mpr ⟨lw_p43, List.forall_mem_cons.mpr ⟨lw_p44, List.forall_mem_cons.mpr ⟨lw_p45, List.forall_mem_cons.mpr ⟨lw_p46, List.forall_mem_cons.mpr ⟨lw_p47, fun _ h => absurd h List.not_mem_nil⟩⟩⟩⟩⟩⟩⟩⟩⟩⟩⟩⟩⟩⟩⟩⟩
theorem lw_p48 : lw_okq (⟨"InTheGardenModel", "isFar", "(II)Z"⟩, 38) := ⟨⟨by decide +kernel, by decide +kernel⟩, List.mem_of_getElem? (i := 974) (by decide +kernel), List.mem_of_getElem? (i := 1175) (by decide +kernel), List.mem_of_getElem? (i := 1176) (by decide +kernel)⟩
theorem lw_p49 : lw_okq (⟨"InTheGardenModel", "farOf", "(II)I"⟩, 38) := ⟨⟨by decide +kernel, by decide +kernel⟩, List.mem_of_getElem? (i := 974) (by decide +kernel), List.mem_of_getElem? (i := 1179) (by decide +kernel), List.mem_of_getElem? (i := 1180) (by decide +kernel)⟩
theorem lw_p50 : lw_okq (⟨"InTheGardenModel", "isHider", "(I)Z"⟩, 38) := ⟨⟨by decide +kernel, by decide +kernel⟩, List.mem_of_getElem? (i := 974) (by decide +kernel), List.mem_of_getElem? (i := 1187) (by decide +kernel), List.mem_of_getElem? (i := 1188) (by decide +kernel)⟩
theorem lw_p51 : lw_okq (⟨"InTheGardenModel", "isRoom", "(I)Z"⟩, 38) := ⟨⟨by decide +kernel, by decide +kernel⟩, List.mem_of_getElem? (i := 974) (by decide +kernel), List.mem_of_getElem? (i := 1195) (by decide +kernel), List.mem_of_getElem? (i := 1196) (by decide +kernel)⟩
theorem lw_p52 : lw_okq (⟨"InTheGardenModel", "becomes", "(II)I"⟩, 38) := ⟨⟨by decide +kernel, by decide +kernel⟩, List.mem_of_getElem? (i := 974) (by decide +kernel), List.mem_of_getElem? (i := 1202) (by decide +kernel), List.mem_of_getElem? (i := 1203) (by decide +kernel)⟩
theorem lw_p53 : lw_okq (⟨"InTheGardenModel", "coverOf", "(IIII)I"⟩, 38) := ⟨⟨by decide +kernel, by decide +kernel⟩, List.mem_of_getElem? (i := 974) (by decide +kernel), List.mem_of_getElem? (i := 1225) (by decide +kernel), List.mem_of_getElem? (i := 1226) (by decide +kernel)⟩
theorem lw_p54 : lw_okq (⟨"InTheGardenModel", "setOf", "(I)I"⟩, 38) := ⟨⟨by decide +kernel, by decide +kernel⟩, List.mem_of_getElem? (i := 974) (by decide +kernel), List.mem_of_getElem? (i := 1232) (by decide +kernel), List.mem_of_getElem? (i := 1233) (by decide +kernel)⟩
theorem lw_p55 : lw_okq (⟨"InTheGardenModel", "runOf", "(II)I"⟩, 38) := ⟨⟨by decide +kernel, by decide +kernel⟩, List.mem_of_getElem? (i := 974) (by decide +kernel), List.mem_of_getElem? (i := 1240) (by decide +kernel), List.mem_of_getElem? (i := 1241) (by decide +kernel)⟩
theorem lw_p56 : lw_okq (⟨"InTheGardenModel", "paced", "(II)I"⟩, 38) := ⟨⟨by decide +kernel, by decide +kernel⟩, List.mem_of_getElem? (i := 974) (by decide +kernel), List.mem_of_getElem? (i := 1244) (by decide +kernel), List.mem_of_getElem? (i := 1245) (by decide +kernel)⟩
theorem lw_p57 : lw_okq (⟨"InTheGardenModel", "paceOf", "(I)I"⟩, 38) := ⟨⟨by decide +kernel, by decide +kernel⟩, List.mem_of_getElem? (i := 974) (by decide +kernel), List.mem_of_getElem? (i := 1248) (by decide +kernel), List.mem_of_getElem? (i := 1249) (by decide +kernel)⟩
theorem lw_p58 : lw_okq (⟨"InTheGardenModel", "plays", "(I)V"⟩, 38) := ⟨⟨by decide +kernel, by decide +kernel⟩, List.mem_of_getElem? (i := 974) (by decide +kernel), List.mem_of_getElem? (i := 1256) (by decide +kernel), List.mem_of_getElem? (i := 1257) (by decide +kernel)⟩
theorem lw_p59 : lw_okq (⟨"InTheGardenModel", "chosen", "(I)I"⟩, 38) := ⟨⟨by decide +kernel, by decide +kernel⟩, List.mem_of_getElem? (i := 974) (by decide +kernel), List.mem_of_getElem? (i := 1260) (by decide +kernel), List.mem_of_getElem? (i := 1261) (by decide +kernel)⟩
theorem lw_p60 : lw_okq (⟨"InTheGardenModel", "may", "(II)Z"⟩, 38) := ⟨⟨by decide +kernel, by decide +kernel⟩, List.mem_of_getElem? (i := 974) (by decide +kernel), List.mem_of_getElem? (i := 1264) (by decide +kernel), List.mem_of_getElem? (i := 1265) (by decide +kernel)⟩
theorem lw_p61 : lw_okq (⟨"InTheGardenModel", "hidingIn", "(I)I"⟩, 38) := ⟨⟨by decide +kernel, by decide +kernel⟩, List.mem_of_getElem? (i := 974) (by decide +kernel), List.mem_of_getElem? (i := 1268) (by decide +kernel), List.mem_of_getElem? (i := 1269) (by decide +kernel)⟩
theorem lw_p62 : lw_okq (⟨"InTheGardenModel", "draw", "(I)I"⟩, 38) := ⟨⟨by decide +kernel, by decide +kernel⟩, List.mem_of_getElem? (i := 974) (by decide +kernel), List.mem_of_getElem? (i := 1272) (by decide +kernel), List.mem_of_getElem? (i := 1273) (by decide +kernel)⟩
theorem lw_p63 : lw_okq (⟨"InTheGardenModel", "catches", "(II)V"⟩, 38) := ⟨⟨by decide +kernel, by decide +kernel⟩, List.mem_of_getElem? (i := 974) (by decide +kernel), List.mem_of_getElem? (i := 1279) (by decide +kernel), List.mem_of_getElem? (i := 1280) (by decide +kernel)⟩
def lw_privs_4 : List (MethodName × Nat) := [(⟨"InTheGardenModel", "isFar", "(II)Z"⟩, 38), (⟨"InTheGardenModel", "farOf", "(II)I"⟩, 38), (⟨"InTheGardenModel", "isHider", "(I)Z"⟩, 38), (⟨"InTheGardenModel", "isRoom", "(I)Z"⟩, 38), (⟨"InTheGardenModel", "becomes", "(II)I"⟩, 38), (⟨"InTheGardenModel", "coverOf", "(IIII)I"⟩, 38), (⟨"InTheGardenModel", "setOf", "(I)I"⟩, 38), (⟨"InTheGardenModel", "runOf", "(II)I"⟩, 38), (⟨"InTheGardenModel", "paced", "(II)I"⟩, 38), (⟨"InTheGardenModel", "paceOf", "(I)I"⟩, 38), (⟨"InTheGardenModel", "plays", "(I)V"⟩, 38), (⟨"InTheGardenModel", "chosen", "(I)I"⟩, 38), (⟨"InTheGardenModel", "may", "(II)Z"⟩, 38), (⟨"InTheGardenModel", "hidingIn", "(I)I"⟩, 38), (⟨"InTheGardenModel", "draw", "(I)I"⟩, 38), (⟨"InTheGardenModel", "catches", "(II)V"⟩, 38)]
theorem lw_r4 : ∀ q ∈ lw_privs_4, lw_okq q := List.forall_mem_cons.mpr ⟨lw_p48, List.forall_mem_cons.mpr ⟨lw_p49, List.forall_mem_cons.mpr ⟨lw_p50, List.forall_mem_cons.mpr ⟨lw_p51, List.forall_mem_cons.mpr ⟨lw_p52, List.forall_mem_cons.mpr ⟨lw_p53, List.forall_mem_cons.mpr ⟨lw_p54, List.forall_mem_cons.mpr ⟨lw_p55, List.forall_mem_cons.mpr ⟨lw_p56, List.forall_mem_cons.mpr ⟨lw_p57, List.forall_mem_cons.mpr ⟨lw_p58, List.forall_mem_cons.mpr ⟨lw_p59, List.forall_mem_cons.mpr ⟨lw_p60, List.forall_mem_cons.mpr ⟨lw_p61, List.forall_mem_cons.mpr ⟨lw_p62, List.forall_mem_cons.mpr ⟨lw_p63, fun _ h => absurd h List.not_mem_nil⟩⟩⟩⟩⟩⟩⟩⟩⟩⟩⟩⟩⟩⟩⟩⟩
theorem lw_p64 : lw_okq (⟨"InTheGardenModel", "second", "(I)V"⟩, 38) := ⟨⟨by decide +kernel, by decide +kernel⟩, List.mem_of_getElem? (i := 974) (by decide +kernel), List.mem_of_getElem? (i := 1283) (by decide +kernel), List.mem_of_getElem? (i := 1284) (by decide +kernel)⟩
theorem lw_p65 : lw_okq (⟨"InTheGardenModel", "looks", "(I)V"⟩, 38) := ⟨⟨by decide +kernel, by decide +kernel⟩, List.mem_of_getElem? (i := 974) (by decide +kernel), List.mem_of_getElem? (i := 1287) (by decide +kernel), List.mem_of_getElem? (i := 1288) (by decide +kernel)⟩
theorem lw_p66 : lw_okq (⟨"InTheGardenModel", "ageOf", "(I)I"⟩, 38) := ⟨⟨by decide +kernel, by decide +kernel⟩, List.mem_of_getElem? (i := 974) (by decide +kernel), List.mem_of_getElem? (i := 1291) (by decide +kernel), List.mem_of_getElem? (i := 1292) (by decide +kernel)⟩
theorem lw_p67 : lw_okq (⟨"InTheGardenModel", "isOut", "()Z"⟩, 38) := ⟨⟨by decide +kernel, by decide +kernel⟩, List.mem_of_getElem? (i := 974) (by decide +kernel), List.mem_of_getElem? (i := 1295) (by decide +kernel), List.mem_of_getElem? (i := 1296) (by decide +kernel)⟩
theorem lw_p68 : lw_okq (⟨"InTheGardenModel", "frees", "(I)V"⟩, 38) := ⟨⟨by decide +kernel, by decide +kernel⟩, List.mem_of_getElem? (i := 974) (by decide +kernel), List.mem_of_getElem? (i := 1299) (by decide +kernel), List.mem_of_getElem? (i := 1300) (by decide +kernel)⟩
theorem lw_p69 : lw_okq (⟨"InTheGardenModel", "goesOn", "(I)V"⟩, 38) := ⟨⟨by decide +kernel, by decide +kernel⟩, List.mem_of_getElem? (i := 974) (by decide +kernel), List.mem_of_getElem? (i := 1303) (by decide +kernel), List.mem_of_getElem? (i := 1304) (by decide +kernel)⟩
theorem lw_p70 : lw_okq (⟨"InTheGardenModel", "goalNow", "()I"⟩, 38) := ⟨⟨by decide +kernel, by decide +kernel⟩, List.mem_of_getElem? (i := 974) (by decide +kernel), List.mem_of_getElem? (i := 1307) (by decide +kernel), List.mem_of_getElem? (i := 1308) (by decide +kernel)⟩
theorem lw_p71 : lw_okq (⟨"InTheGardenModel", "nextTo", "(II)I"⟩, 38) := ⟨⟨by decide +kernel, by decide +kernel⟩, List.mem_of_getElem? (i := 974) (by decide +kernel), List.mem_of_getElem? (i := 1311) (by decide +kernel), List.mem_of_getElem? (i := 1312) (by decide +kernel)⟩
theorem lw_p72 : lw_okq (⟨"InTheGardenModel", "back", "(I)I"⟩, 38) := ⟨⟨by decide +kernel, by decide +kernel⟩, List.mem_of_getElem? (i := 974) (by decide +kernel), List.mem_of_getElem? (i := 1315) (by decide +kernel), List.mem_of_getElem? (i := 1316) (by decide +kernel)⟩
theorem lw_p73 : lw_okq (⟨"InTheGardenModel", "howMany", "(I)I"⟩, 38) := ⟨⟨by decide +kernel, by decide +kernel⟩, List.mem_of_getElem? (i := 974) (by decide +kernel), List.mem_of_getElem? (i := 1319) (by decide +kernel), List.mem_of_getElem? (i := 1320) (by decide +kernel)⟩
theorem lw_p74 : lw_okq (⟨"InTheGardenModel", "tableOf", "(II)I"⟩, 38) := ⟨⟨by decide +kernel, by decide +kernel⟩, List.mem_of_getElem? (i := 974) (by decide +kernel), List.mem_of_getElem? (i := 1339) (by decide +kernel), List.mem_of_getElem? (i := 1340) (by decide +kernel)⟩
theorem lw_p75 : lw_okq (⟨"InTheGardenModel", "mayGoTo", "(I)Z"⟩, 38) := ⟨⟨by decide +kernel, by decide +kernel⟩, List.mem_of_getElem? (i := 974) (by decide +kernel), List.mem_of_getElem? (i := 1347) (by decide +kernel), List.mem_of_getElem? (i := 1348) (by decide +kernel)⟩
theorem lw_p76 : lw_okq (⟨"InTheGardenModel", "wrongGame", "(II)I"⟩, 38) := ⟨⟨by decide +kernel, by decide +kernel⟩, List.mem_of_getElem? (i := 974) (by decide +kernel), List.mem_of_getElem? (i := 1366) (by decide +kernel), List.mem_of_getElem? (i := 1367) (by decide +kernel)⟩
theorem lw_p77 : lw_okq (⟨"InTheGardenModel", "isGame", "(I)Z"⟩, 38) := ⟨⟨by decide +kernel, by decide +kernel⟩, List.mem_of_getElem? (i := 974) (by decide +kernel), List.mem_of_getElem? (i := 1370) (by decide +kernel), List.mem_of_getElem? (i := 1371) (by decide +kernel)⟩
theorem lw_p78 : lw_okq (⟨"InTheGardenModel", "goesGame", "(II)V"⟩, 38) := ⟨⟨by decide +kernel, by decide +kernel⟩, List.mem_of_getElem? (i := 974) (by decide +kernel), List.mem_of_getElem? (i := 1374) (by decide +kernel), List.mem_of_getElem? (i := 1375) (by decide +kernel)⟩
theorem lw_p79 : lw_okq (⟨"InTheGardenModel", "findTells", "(I)V"⟩, 38) := ⟨⟨by decide +kernel, by decide +kernel⟩, List.mem_of_getElem? (i := 974) (by decide +kernel), List.mem_of_getElem? (i := 1378) (by decide +kernel), List.mem_of_getElem? (i := 1379) (by decide +kernel)⟩
def lw_privs_5 : List (MethodName × Nat) := [(⟨"InTheGardenModel", "second", "(I)V"⟩, 38), (⟨"InTheGardenModel", "looks", "(I)V"⟩, 38), (⟨"InTheGardenModel", "ageOf", "(I)I"⟩, 38), (⟨"InTheGardenModel", "isOut", "()Z"⟩, 38), (⟨"InTheGardenModel", "frees", "(I)V"⟩, 38), (⟨"InTheGardenModel", "goesOn", "(I)V"⟩, 38), (⟨"InTheGardenModel", "goalNow", "()I"⟩, 38), (⟨"InTheGardenModel", "nextTo", "(II)I"⟩, 38), (⟨"InTheGardenModel", "back", "(I)I"⟩, 38), (⟨"InTheGardenModel", "howMany", "(I)I"⟩, 38), (⟨"InTheGardenModel", "tableOf", "(II)I"⟩, 38), (⟨"InTheGardenModel", "mayGoTo", "(I)Z"⟩, 38), (⟨"InTheGardenModel", "wrongGame", "(II)I"⟩, 38), (⟨"InTheGardenModel", "isGame", "(I)Z"⟩, 38), (⟨"InTheGardenModel", "goesGame", "(II)V"⟩, 38), (⟨"InTheGardenModel", "findTells", "(I)V"⟩, 38)]
theorem lw_r5 : ∀ q ∈ lw_privs_5, lw_okq q := List.forall_mem_cons.mpr ⟨lw_p64, List.forall_mem_cons.mpr ⟨lw_p65, List.forall_mem_cons.mpr ⟨lw_p66, List.forall_mem_cons.mpr ⟨lw_p67, List.forall_mem_cons.mpr ⟨lw_p68, List.forall_mem_cons.mpr ⟨lw_p69, List.forall_mem_cons.mpr ⟨lw_p70, List.forall_mem_cons.mpr ⟨lw_p71, List.forall_mem_cons.mpr ⟨lw_p72, List.forall_mem_cons.mpr ⟨lw_p73, List.forall_mem_cons.mpr ⟨lw_p74, List.forall_mem_cons.mpr ⟨lw_p75, List.forall_mem_cons.mpr ⟨lw_p76, List.forall_mem_cons.mpr ⟨lw_p77, List.forall_mem_cons.mpr ⟨lw_p78, List.forall_mem_cons.mpr ⟨lw_p79, fun _ h => absurd h List.not_mem_nil⟩⟩⟩⟩⟩⟩⟩⟩⟩⟩⟩⟩⟩⟩⟩⟩
theorem lw_p80 : lw_okq (⟨"InTheGardenModel", "findOrders", "(III)V"⟩, 38) := ⟨⟨by decide +kernel, by decide +kernel⟩, List.mem_of_getElem? (i := 974) (by decide +kernel), List.mem_of_getElem? (i := 1382) (by decide +kernel), List.mem_of_getElem? (i := 1383) (by decide +kernel)⟩
theorem lw_p81 : lw_okq (⟨"InTheGardenModel", "findsBy", "(II)I"⟩, 38) := ⟨⟨by decide +kernel, by decide +kernel⟩, List.mem_of_getElem? (i := 974) (by decide +kernel), List.mem_of_getElem? (i := 1405) (by decide +kernel), List.mem_of_getElem? (i := 1406) (by decide +kernel)⟩
def lw_privs_6 : List (MethodName × Nat) := [(⟨"InTheGardenModel", "findOrders", "(III)V"⟩, 38), (⟨"InTheGardenModel", "findsBy", "(II)I"⟩, 38)]
theorem lw_r6 : ∀ q ∈ lw_privs_6, lw_okq q := List.forall_mem_cons.mpr ⟨lw_p80, List.forall_mem_cons.mpr ⟨lw_p81, fun _ h => absurd h List.not_mem_nil⟩⟩
def lw_privs : List (MethodName × Nat) := lw_privs_1 ++ (lw_privs_2 ++ (lw_privs_3 ++ (lw_privs_4 ++ (lw_privs_5 ++ (lw_privs_6)))))
def lw_tbl : List Cond := k2_sels lw_privs ++ tables_1
theorem lw_privs_ok : ∀ q ∈ lw_privs, lw_okq q := by
  show ∀ q ∈ lw_privs_1 ++ (lw_privs_2 ++ (lw_privs_3 ++ (lw_privs_4 ++ (lw_privs_5 ++ (lw_privs_6))))), lw_okq q
  exact List.forall_mem_append.mpr ⟨lw_r1, List.forall_mem_append.mpr ⟨lw_r2, List.forall_mem_append.mpr ⟨lw_r3, List.forall_mem_append.mpr ⟨lw_r4, List.forall_mem_append.mpr ⟨lw_r5, lw_r6⟩⟩⟩⟩⟩
end
section
/-! ===== the small machine: shapes of cells, ops, runs ===== -/
abbrev g_SC : Type := (Nat × Nat) ⊕ (Nat × List (Option Nat))
abbrev g_Sh : Type := Nat × (Nat → g_SC)
abbrev g_M : Type := Nat → Nat → Int32
abbrev g_K : Type := Nat → List Value → List Value → g_M → Prop
abbrev g_R : Type := Option Value → g_M → Prop
abbrev g_C : Type := Nat → List Value → g_M → g_R → Prop
abbrev g_Op : Type := g_C → g_K → g_R → List Value → List Value → g_M → Prop
abbrev g_X : Type := Nat → Option (Nat × (Nat → Int32))
def g_cv (μ ξ : Nat → Nat) : Value → Value
  | .ref i => .ref (μ i)
  | .retAddr k => .ref (ξ k)
  | v => v
def g_at : List Value → Nat → Option Value
  | [], _ => none
  | v :: _, 0 => some v
  | _ :: r, n + 1 => g_at r n
def g_nth : List (Option Nat) → Nat → Option (Option Nat)
  | [], _ => none
  | v :: _, 0 => some v
  | _ :: r, n + 1 => g_nth r n
def g_set : Nat → Value → List Value → (List Value → Prop) → Prop
  | 0, v, _ :: r, k => k (v :: r)
  | 1, v, x :: _ :: r, k => (match x with | .long _ => k (.null :: v :: r) | .double _ => False | _ => k (x :: v :: r))
  | n + 2, v, x :: y :: r, k => g_set (n + 1) v (y :: r) (fun q => k (x :: q))
  | _, _, _, _ => False
def g_set2 : Nat → Value → List Value → (List Value → Prop) → Prop
  | 0, v, _ :: _ :: r, k => k (v :: .null :: r)
  | 1, v, x :: _ :: _ :: r, k => (match x with | .long _ => k (.null :: v :: .null :: r) | .double _ => False | _ => k (x :: v :: .null :: r))
  | n + 2, v, x :: y :: r, k => g_set2 (n + 1) v (y :: r) (fun q => k (x :: q))
  | _, _, _, _ => False
def g_ms (M : g_M) (a : Nat) (f : Nat → Int32) : g_M := fun c => if c = a then f else M c
/-- words of an operand stack -/
def g_wd : List Value → Nat
  | [] => 0
  | .long _ :: r => g_wd r + 2
  | .double _ :: r => g_wd r + 2
  | _ :: r => g_wd r + 1
def g_pop : Nat → List Value → List Value → (List Value → List Value → Prop) → Prop
  | 0, st, as, k => k as st
  | n + 1, v :: st, as, k => g_pop n st (v :: as) k
  | _ + 1, [], _, _ => False
/-- an object of class ci, its field k: a pointer or a number -/
def g_fv (sh : g_Sh) (ci k a : Nat) (M : g_M) (K : Value → Prop) : Prop :=
  cond (Nat.ble (a + 1) sh.1) (match sh.2 a with
    | .inr (cj, ps) => cond (Nat.beq ci cj) (match g_nth ps k with | some (some q) => K (.ref q) | some none => K (.int (M a k)) | none => False) False
    | .inl _ => False) False
/-- an object of class ci whose field k is a number -/
def g_fn (sh : g_Sh) (ci k a : Nat) (K : Prop) : Prop :=
  cond (Nat.ble (a + 1) sh.1) (match sh.2 a with
    | .inr (cj, ps) => cond (Nat.beq ci cj) (match g_nth ps k with | some none => K | _ => False) False
    | .inl _ => False) False
/-- an object of class ci -/
def g_ob (sh : g_Sh) (ci a : Nat) (K : Prop) : Prop :=
  cond (Nat.ble (a + 1) sh.1) (match sh.2 a with | .inr (cj, _) => cond (Nat.beq ci cj) K False | .inl _ => False) False
/-- an array of kind kd, of length n -/
def g_ar (sh : g_Sh) (kd a : Nat) (K : Nat → Prop) : Prop :=
  cond (Nat.ble (a + 1) sh.1) (match sh.2 a with | .inl (kj, n) => cond (Nat.beq kd kj) (K n) False | .inr _ => False) False
def g_xa (X : g_X) (k : Nat) (K : Nat → (Nat → Int32) → Prop) : Prop := match X k with | some (n, f) => K n f | none => False
/-! ops -/
def o_push (v : Value) (nx : Nat) : g_Op := fun _ K _ L st M => K nx L (v :: st) M
def o_iload (i nx : Nat) : g_Op := fun _ K _ L st M => match g_at L i with | some (.int x) => K nx L (.int x :: st) M | _ => False
def o_lload (i nx : Nat) : g_Op := fun _ K _ L st M => match g_at L i with | some (.long x) => K nx L (.long x :: st) M | _ => False
def o_aload (i nx : Nat) : g_Op := fun _ K _ L st M => match g_at L i with | some (.ref x) => K nx L (.ref x :: st) M | some (.retAddr x) => K nx L (.retAddr x :: st) M | _ => False
def o_istore (i nx : Nat) : g_Op := fun _ K _ L st M => match st with | .int x :: r => g_set i (.int x) L (fun q => K nx q r M) | _ => False
def o_astore (i nx : Nat) : g_Op := fun _ K _ L st M => match st with | .ref x :: r => g_set i (.ref x) L (fun q => K nx q r M) | .retAddr x :: r => g_set i (.retAddr x) L (fun q => K nx q r M) | _ => False
def o_lstore (i nx : Nat) : g_Op := fun _ K _ L st M => match st with | .long x :: r => g_set2 i (.long x) L (fun q => K nx q r M) | _ => False
def o_iinc (i : Nat) (c : Int32) (nx : Nat) : g_Op := fun _ K _ L st M => match g_at L i with | some (.int x) => g_set i (.int (x + c)) L (fun q => K nx q st M) | _ => False
def o_iadd (nx : Nat) : g_Op := fun _ K _ L st M => match st with | .int y :: .int x :: r => K nx L (.int (x + y) :: r) M | _ => False
def o_isub (nx : Nat) : g_Op := fun _ K _ L st M => match st with | .int y :: .int x :: r => K nx L (.int (x - y) :: r) M | _ => False
def o_imul (nx : Nat) : g_Op := fun _ K _ L st M => match st with | .int y :: .int x :: r => K nx L (.int (x * y) :: r) M | _ => False
def o_iand (nx : Nat) : g_Op := fun _ K _ L st M => match st with | .int y :: .int x :: r => K nx L (.int (x &&& y) :: r) M | _ => False
def o_ior (nx : Nat) : g_Op := fun _ K _ L st M => match st with | .int y :: .int x :: r => K nx L (.int (x ||| y) :: r) M | _ => False
def o_ixor (nx : Nat) : g_Op := fun _ K _ L st M => match st with | .int y :: .int x :: r => K nx L (.int (x ^^^ y) :: r) M | _ => False
def o_ishl (nx : Nat) : g_Op := fun _ K _ L st M => match st with | .int y :: .int x :: r => K nx L (.int (x <<< (y &&& 31)) :: r) M | _ => False
def o_ishr (nx : Nat) : g_Op := fun _ K _ L st M => match st with | .int y :: .int x :: r => K nx L (.int (x >>> (y &&& 31)) :: r) M | _ => False
def o_iushr (nx : Nat) : g_Op := fun _ K _ L st M => match st with | .int y :: .int x :: r => K nx L (.int ((x.toUInt32 >>> (y.toUInt32 &&& Int32.toUInt32 31)).toInt32) :: r) M | _ => False
def o_idiv (nx : Nat) : g_Op := fun _ K _ L st M => match st with | .int y :: .int x :: r => ¬ y = 0 ∧ K nx L (.int (x / y) :: r) M | _ => False
def o_irem (nx : Nat) : g_Op := fun _ K _ L st M => match st with | .int y :: .int x :: r => ¬ y = 0 ∧ K nx L (.int (x - x / y * y) :: r) M | _ => False
def o_max (nx : Nat) : g_Op := fun _ K _ L st M => match st with | .int y :: .int x :: r => cond (Nat.ble (g_wd r) 8) (K nx L (.int (if x < y then y else x) :: r) M) False | _ => False
def o_min (nx : Nat) : g_Op := fun _ K _ L st M => match st with | .int y :: .int x :: r => cond (Nat.ble (g_wd r) 8) (K nx L (.int (if y < x then y else x) :: r) M) False | _ => False
def o_land (nx : Nat) : g_Op := fun _ K _ L st M => match st with | .long y :: .long x :: r => K nx L (.long (x &&& y) :: r) M | _ => False
def o_lor (nx : Nat) : g_Op := fun _ K _ L st M => match st with | .long y :: .long x :: r => K nx L (.long (x ||| y) :: r) M | _ => False
def o_ldiv (nx : Nat) : g_Op := fun _ K _ L st M => match st with | .long y :: .long x :: r => ¬ y = 0 ∧ K nx L (.long (x / y) :: r) M | _ => False
def o_lrem (nx : Nat) : g_Op := fun _ K _ L st M => match st with | .long y :: .long x :: r => ¬ y = 0 ∧ K nx L (.long (x - x / y * y) :: r) M | _ => False
def o_lshl (nx : Nat) : g_Op := fun _ K _ L st M => match st with | .int y :: .long x :: r => K nx L (.long (x <<< (y.toInt64 &&& 63)) :: r) M | _ => False
def o_lshr (nx : Nat) : g_Op := fun _ K _ L st M => match st with | .int y :: .long x :: r => K nx L (.long (x >>> (y.toInt64 &&& 63)) :: r) M | _ => False
def o_lushr (nx : Nat) : g_Op := fun _ K _ L st M => match st with | .int y :: .long x :: r => K nx L (.long ((x.toUInt64 >>> (y.toInt64.toUInt64 &&& Int64.toUInt64 63)).toInt64) :: r) M | _ => False
def o_ineg (nx : Nat) : g_Op := fun _ K _ L st M => match st with | .int x :: r => K nx L (.int (-x) :: r) M | _ => False
def o_i2l (nx : Nat) : g_Op := fun _ K _ L st M => match st with | .int x :: r => K nx L (.long (x.toInt64) :: r) M | _ => False
def o_l2i (nx : Nat) : g_Op := fun _ K _ L st M => match st with | .long x :: r => K nx L (.int (x.toInt32) :: r) M | _ => False
def o_i2c (nx : Nat) : g_Op := fun _ K _ L st M => match st with | .int x :: r => K nx L (.int ((x.toUInt32 % 65536).toInt32) :: r) M | _ => False
def o_i2b (nx : Nat) : g_Op := fun _ K _ L st M => match st with | .int x :: r => K nx L (.int (x.toInt8.toInt32) :: r) M | _ => False
def o_dup (nx : Nat) : g_Op := fun _ K _ L st M => match st with | v :: r => (match v with | .long _ => False | .double _ => False | _ => K nx L (v :: v :: r) M) | _ => False
def o_dup2 (nx : Nat) : g_Op := fun _ K _ L st M => match st with | .int i :: .ref a :: r => K nx L (.int i :: .ref a :: .int i :: .ref a :: r) M | _ => False
def o_pushQ (k nx : Nat) : g_Op := fun _ K _ L st M => K nx L (.null :: st) M ∧ K nx L (.retAddr k :: st) M
def o_pop (nx : Nat) : g_Op := fun _ K _ L st M => match st with | .int _ :: r => K nx L r M | _ => False
def o_ic_eq (t nx : Nat) : g_Op := fun _ K _ L st M => match st with | .int y :: .int x :: r => (x = y → K t L r M) ∧ (¬ x = y → K nx L r M) | _ => False
def o_ic_ne (t nx : Nat) : g_Op := fun _ K _ L st M => match st with | .int y :: .int x :: r => (¬ x = y → K t L r M) ∧ (x = y → K nx L r M) | _ => False
def o_ic_lt (t nx : Nat) : g_Op := fun _ K _ L st M => match st with | .int y :: .int x :: r => (x < y → K t L r M) ∧ (¬ x < y → K nx L r M) | _ => False
def o_ic_ge (t nx : Nat) : g_Op := fun _ K _ L st M => match st with | .int y :: .int x :: r => (y ≤ x → K t L r M) ∧ (¬ y ≤ x → K nx L r M) | _ => False
def o_ic_gt (t nx : Nat) : g_Op := fun _ K _ L st M => match st with | .int y :: .int x :: r => (y < x → K t L r M) ∧ (¬ y < x → K nx L r M) | _ => False
def o_ic_le (t nx : Nat) : g_Op := fun _ K _ L st M => match st with | .int y :: .int x :: r => (x ≤ y → K t L r M) ∧ (¬ x ≤ y → K nx L r M) | _ => False
def o_if_eq (t nx : Nat) : g_Op := fun _ K _ L st M => match st with | .int x :: r => (x = 0 → K t L r M) ∧ (¬ x = 0 → K nx L r M) | _ => False
def o_if_ne (t nx : Nat) : g_Op := fun _ K _ L st M => match st with | .int x :: r => (¬ x = 0 → K t L r M) ∧ (x = 0 → K nx L r M) | _ => False
def o_if_lt (t nx : Nat) : g_Op := fun _ K _ L st M => match st with | .int x :: r => (x < 0 → K t L r M) ∧ (¬ x < 0 → K nx L r M) | _ => False
def o_if_ge (t nx : Nat) : g_Op := fun _ K _ L st M => match st with | .int x :: r => (0 ≤ x → K t L r M) ∧ (¬ 0 ≤ x → K nx L r M) | _ => False
def o_if_gt (t nx : Nat) : g_Op := fun _ K _ L st M => match st with | .int x :: r => (0 < x → K t L r M) ∧ (¬ 0 < x → K nx L r M) | _ => False
def o_if_le (t nx : Nat) : g_Op := fun _ K _ L st M => match st with | .int x :: r => (x ≤ 0 → K t L r M) ∧ (¬ x ≤ 0 → K nx L r M) | _ => False
def o_goto (t : Nat) : g_Op := fun _ K _ L st M => K t L st M
def g_sw : List (Int32 × Nat) → Nat → Int32 → (Nat → Prop) → Prop
  | [], d, _, k => k d
  | (c, t) :: r, d, x, k => (x = c → k t) ∧ (¬ x = c → g_sw r d x k)
def o_sw (ps : List (Int32 × Nat)) (d : Nat) : g_Op := fun _ K _ L st M => match st with | .int x :: r => g_sw ps d x (fun t => K t L r M) | _ => False
def o_getf (sh : g_Sh) (ci k nx : Nat) : g_Op := fun _ K _ L st M => match st with | .ref a :: r => g_fv sh ci k a M (fun v => K nx L (v :: r) M) | _ => False
def o_putf (sh : g_Sh) (ci k nx : Nat) : g_Op := fun _ K _ L st M => match st with | .int v :: .ref a :: r => g_fn sh ci k a (K nx L r (g_ms M a (upd (M a) k v))) | _ => False
def o_putz (sh : g_Sh) (ci k nx : Nat) : g_Op := fun _ K _ L st M => match st with | .int v :: .ref a :: r => g_fn sh ci k a ((v = 0 ∨ v = 1) ∧ K nx L r (g_ms M a (upd (M a) k v))) | _ => False
def o_xfld (f : Nat → Option Value) (nx : Nat) : g_Op := fun _ K _ L st M => match st with | .retAddr k :: r => (match f k with | some v => K nx L (v :: r) M | none => False) | _ => False
def o_iald (sh : g_Sh) (X : g_X) (nx : Nat) : g_Op := fun _ K _ L st M => match st with
  | .int i :: .ref a :: r => g_ar sh 0 a (fun n => vp_in i n ∧ K nx L (.int (M a i.toNatClampNeg) :: r) M)
  | .int i :: .retAddr k :: r => g_xa X k (fun n f => vp_in i n ∧ K nx L (.int (f i.toNatClampNeg) :: r) M)
  | _ => False
def o_iast (sh : g_Sh) (nx : Nat) : g_Op := fun _ K _ L st M => match st with
  | .int v :: .int i :: .ref a :: r => g_ar sh 0 a (fun n => vp_in i n ∧ K nx L r (g_ms M a (upd (M a) i.toNatClampNeg v)))
  | _ => False
def o_zald (sh : g_Sh) (nx : Nat) : g_Op := fun _ K _ L st M => match st with
  | .int i :: .ref a :: r => g_ar sh 1 a (fun n => vp_in i n ∧ K nx L (.int (M a i.toNatClampNeg) :: r) M)
  | _ => False
def o_zast (sh : g_Sh) (nx : Nat) : g_Op := fun _ K _ L st M => match st with
  | .int v :: .int i :: .ref a :: r => g_ar sh 1 a (fun n => vp_in i n ∧ (v = 0 ∨ v = 1) ∧ K nx L r (g_ms M a (upd (M a) i.toNatClampNeg v)))
  | _ => False
def o_bald (X : g_X) (nx : Nat) : g_Op := fun _ K _ L st M => match st with
  | .int i :: .retAddr k :: r => g_xa X k (fun n f => vp_in i n ∧ K nx L (.int (f i.toNatClampNeg) :: r) M)
  | _ => False
def o_alen (sh : g_Sh) (X : g_X) (nx : Nat) : g_Op := fun _ K _ L st M => match st with
  | .ref a :: r => g_ar sh 0 a (fun n => K nx L (.int (Int32.ofNat n) :: r) M)
  | .retAddr k :: r => g_xa X k (fun n _ => K nx L (.int (Int32.ofNat n) :: r) M)
  | _ => False
def g_cpok (sp dp n : Int32) (n0 n1 : Nat) : Prop := ¬ sp < 0 ∧ ¬ dp < 0 ∧ ¬ n < 0 ∧ sp.toNatClampNeg + n.toNatClampNeg ≤ n0 ∧ dp.toNatClampNeg + n.toNatClampNeg ≤ n1
def o_copy (sh : g_Sh) (nx : Nat) : g_Op := fun _ K _ L st M => match st with
  | .int n :: .int dp :: .ref a :: .int sp :: .ref b :: r => g_ar sh 0 b (fun n0 => g_ar sh 0 a (fun n1 => g_cpok sp dp n n0 n1 ∧ cond (Nat.ble (g_wd r) 8) (K nx L r (g_ms M a (va_cpy (M b) (M a) sp.toNatClampNeg dp.toNatClampNeg n.toNatClampNeg))) False))
  | _ => False
/-- a call with an answer: method k, n values taken; the receiver is of class ci -/
def o_callV (sh : g_Sh) (ci k n nx : Nat) : g_Op := fun cal K _ L st M => g_pop n st [] (fun as r => match as with
  | .ref a :: _ => g_ob sh ci a (cond (Nat.ble (g_wd r) 8) (cal k as M (fun v M' => match v with | some x => K nx L (x :: r) M' | none => False)) False)
  | _ => False)
def o_callVv (sh : g_Sh) (ci k n nx : Nat) : g_Op := fun cal K _ L st M => g_pop n st [] (fun as r => match as with
  | .ref a :: _ => g_ob sh ci a (cond (Nat.ble (g_wd r) 8) (cal k as M (fun v M' => match v with | some _ => False | none => K nx L r M')) False)
  | _ => False)
def o_callS (k n nx : Nat) : g_Op := fun cal K _ L st M => g_pop n st [] (fun as r => cond (Nat.ble (g_wd r) 8) (cal k as M (fun v M' => match v with | some x => K nx L (x :: r) M' | none => False)) False)
def o_callSv (k n nx : Nat) : g_Op := fun cal K _ L st M => g_pop n st [] (fun as r => cond (Nat.ble (g_wd r) 8) (cal k as M (fun v M' => match v with | some _ => False | none => K nx L r M')) False)
/-- a call on an external receiver (a String) -/
def o_callX (lo hi k n nx : Nat) : g_Op := fun cal K _ L st M => g_pop n st [] (fun as r => match as with
  | .retAddr a :: _ => cond (Nat.ble lo a) (cond (Nat.ble (a + 1) hi) (cond (Nat.ble (g_wd r) 8) (cal k as M (fun v M' => match v with | some x => K nx L (x :: r) M' | none => False)) False) False) False
  | _ => False)
def o_iret : g_Op := fun _ _ Q _ st M => match st with | [.int v] => Q (some (.int v)) M | _ => False
def o_nret (ty : FieldType) : g_Op := fun _ _ Q _ st M => match st with | [.int v] => narrow ty (.int v) = .int v ∧ Q (some (.int v)) M | _ => False
def o_aret : g_Op := fun _ _ Q _ st M => match st with | [.retAddr v] => Q (some (.retAddr v)) M | _ => False
def o_vret : g_Op := fun _ _ Q _ st M => match st with | [] => Q none M | _ => False
/-! code tables -/
def g_node (n : Nat) (f g : Nat → Option g_Op) : Nat → Option g_Op := fun pc => cond (Nat.ble n pc) (g pc) (f pc)
def g_leaf (p : Nat) (op : g_Op) : Nat → Option g_Op := fun pc => cond (Nat.beq pc p) (some op) none
/-! runs: the least predicate closed under the ops -/
def g_F (cal : g_C) (tb : Nat → Option g_Op) (Q : g_R) (P : g_K) : g_K := fun pc L st M => match tb pc with | some op => op cal P Q L st M | none => False
def g_Run (cal : g_C) (tb : Nat → Option g_Op) (Q : g_R) : g_K := fun pc L st M => ∀ P : g_K, (∀ pc L st M, g_F cal tb Q P pc L st M → P pc L st M) → P pc L st M
def g_wp (cal : g_C) (tb : Nat → Option g_Op) (Q : g_R) : Nat → Nat → List Value → List Value → g_M → Prop
  | 0, pc, L, st, M => g_Run cal tb Q pc L st M
  | n + 1, pc, L, st, M => match tb pc with | some op => op cal (g_wp cal tb Q n) Q L st M | none => False
def g_cmono (cal : g_C) : Prop := ∀ k as M (R R' : g_R), (∀ v N, R v N → R' v N) → cal k as M R → cal k as M R'
def g_mono (op : g_Op) : Prop := ∀ cal (P P' : g_K) (Q Q' : g_R) L st M, g_cmono cal → (∀ pc L st M, P pc L st M → P' pc L st M) → (∀ v N, Q v N → Q' v N) → op cal P Q L st M → op cal P' Q' L st M
def g_tbm (tb : Nat → Option g_Op) : Prop := ∀ pc op, tb pc = some op → g_mono op
theorem g_F_mono {cal : g_C} {tb : Nat → Option g_Op} {Q Q' : g_R} {P P' : g_K} (hc : g_cmono cal) (ht : g_tbm tb) (hP : ∀ pc L st M, P pc L st M → P' pc L st M) (hQ : ∀ v N, Q v N → Q' v N) {pc : Nat} {L st : List Value} {M : g_M} (h : g_F cal tb Q P pc L st M) : g_F cal tb Q' P' pc L st M := by
  unfold g_F at h ⊢
  cases e : tb pc with
  | none => rw [e] at h; exact h
  | some op => rw [e] at h; exact ht pc op e cal P P' Q Q' L st M hc hP hQ h
theorem g_fold {cal : g_C} {tb : Nat → Option g_Op} {Q : g_R} (hc : g_cmono cal) (ht : g_tbm tb) {pc : Nat} {L st : List Value} {M : g_M} (h : g_F cal tb Q (g_Run cal tb Q) pc L st M) : g_Run cal tb Q pc L st M := by
  intro P hP
  exact hP pc L st M (g_F_mono hc ht (fun pc L st M h => h P hP) (fun _ _ h => h) h)
theorem g_unfold {cal : g_C} {tb : Nat → Option g_Op} {Q : g_R} (hc : g_cmono cal) (ht : g_tbm tb) {pc : Nat} {L st : List Value} {M : g_M} (h : g_Run cal tb Q pc L st M) : g_F cal tb Q (g_Run cal tb Q) pc L st M :=
  h (fun pc L st M => g_F cal tb Q (g_Run cal tb Q) pc L st M) (fun pc L st M h => g_F_mono hc ht (fun pc L st M h => g_fold hc ht h) (fun _ _ h => h) h)
theorem g_Run_mono {cal : g_C} {tb : Nat → Option g_Op} {Q Q' : g_R} (hc : g_cmono cal) (ht : g_tbm tb) (hQ : ∀ v N, Q v N → Q' v N) {pc : Nat} {L st : List Value} {M : g_M} (h : g_Run cal tb Q pc L st M) : g_Run cal tb Q' pc L st M :=
  h (g_Run cal tb Q') (fun pc L st M h => g_fold hc ht (g_F_mono hc ht (fun _ _ _ _ h => h) hQ h))
theorem g_wp_iff {cal : g_C} {tb : Nat → Option g_Op} {Q : g_R} (hc : g_cmono cal) (ht : g_tbm tb) : ∀ (n pc : Nat) (L st : List Value) (M : g_M), g_wp cal tb Q n pc L st M ↔ g_Run cal tb Q pc L st M := by
  intro n
  induction n with
  | zero => intro pc L st M; exact Iff.rfl
  | succ n ih =>
    intro pc L st M
    constructor
    · intro h
      exact g_fold hc ht (g_F_mono hc ht (fun pc L st M h => (ih pc L st M).mp h) (fun _ _ h => h) (show g_F cal tb Q (g_wp cal tb Q n) pc L st M from h))
    · intro h
      exact (show g_F cal tb Q (g_wp cal tb Q n) pc L st M from g_F_mono hc ht (fun pc L st M h => (ih pc L st M).mpr h) (fun _ _ h => h) (g_unfold hc ht h))
/-! calls: by depth -/
def g_ent : List Value → Nat → (List Value → Prop) → Prop
  | [], 0, k => k []
  | [], n + 1, k => g_ent [] n (fun r => k (.null :: r))
  | .long x :: vs, n + 2, k => g_ent vs n (fun r => k (.long x :: .null :: r))
  | .int x :: vs, n + 1, k => g_ent vs n (fun r => k (.int x :: r))
  | .ref x :: vs, n + 1, k => g_ent vs n (fun r => k (.ref x :: r))
  | .retAddr x :: vs, n + 1, k => g_ent vs n (fun r => k (.retAddr x :: r))
  | .null :: vs, n + 1, k => g_ent vs n (fun r => k (.null :: r))
  | _, _, _ => False
theorem g_ent_mono : ∀ (as : List Value) (n : Nat) (k k' : List Value → Prop), (∀ L, k L → k' L) → g_ent as n k → g_ent as n k' := by
  intro as
  induction as with
  | nil =>
    intro n
    induction n with
    | zero => intro k k' h; exact h []
    | succ n ih => intro k k' h; exact ih _ _ (fun r => h _)
  | cons v vs ih =>
    intro n k k' h
    cases v with
    | int x => cases n with
      | zero => exact id
      | succ n => exact ih n _ _ (fun r => h _)
    | ref x => cases n with
      | zero => exact id
      | succ n => exact ih n _ _ (fun r => h _)
    | retAddr x => cases n with
      | zero => exact id
      | succ n => exact ih n _ _ (fun r => h _)
    | long x => match n with
      | 0 => exact id
      | 1 => exact id
      | n + 2 => exact ih n _ _ (fun r => h _)
    | float x => rcases n with _ | _ | n <;> exact id
    | double x => rcases n with _ | _ | n <;> exact id
    | null => cases n with
      | zero => exact id
      | succ n => exact ih n _ _ (fun r => h _)
def g_Cal (mt : Nat → Nat → Option g_Op) (nl : Nat → Nat) : Nat → g_C
  | 0, _, _, _, _ => False
  | d + 1, k, as, M, Q => g_ent as (nl k) (fun L => g_Run (g_Cal mt nl d) (mt k) Q 0 L [] M)
theorem g_Cal_mono {mt : Nat → Nat → Option g_Op} {nl : Nat → Nat} (ht : ∀ k, g_tbm (mt k)) : ∀ d, g_cmono (g_Cal mt nl d) := by
  intro d
  induction d with
  | zero => intro k as M R R' _ h; exact h
  | succ d ih => intro k as M R R' hR h; exact g_ent_mono _ _ _ _ (fun L h => g_Run_mono ih (ht k) hR h) h
theorem g_enter {mt : Nat → Nat → Option g_Op} {nl : Nat → Nat} (ht : ∀ k, g_tbm (mt k)) {d k : Nat} {as : List Value} {M : g_M} {Q : g_R} (n : Nat) {tb : Nat → Option g_Op} {m : Nat} (hb : mt k = tb) (hn : nl k = m) (h : g_ent as m (fun L => g_wp (g_Cal mt nl d) tb Q n 0 L [] M)) : g_Cal mt nl (d + 1) k as M Q := by
  subst hb; subst hn
  exact g_ent_mono _ _ _ _ (fun L h => (g_wp_iff (g_Cal_mono ht d) (ht k) n 0 L [] M).mp h) h
end
section
/-! ===== names: classes, fields, methods; words by their places ===== -/
def g_tbl : List Cond := lw_tbl.filter goodWord
theorem g_in {w : Cond} (i : Nat) (h : lw_tbl[i]? = some w) (hg : goodWord w = true) : w ∈ g_tbl := List.mem_filter.mpr ⟨List.mem_of_getElem? h, hg⟩
theorem g_in0 {w : Cond} (i : Nat) (h : (k2_sels lw_privs)[i]? = some w) (hg : goodWord w = true) : w ∈ g_tbl := List.mem_filter.mpr ⟨List.mem_append_left _ (List.mem_of_getElem? h), hg⟩
theorem g_in1 {w : Cond} (i : Nat) (h : tables_1_1[i]? = some w) (hg : goodWord w = true) : w ∈ g_tbl := List.mem_filter.mpr ⟨List.mem_append_right _ (List.mem_append_left _ (List.mem_of_getElem? h)), hg⟩
theorem g_in2 {w : Cond} (i : Nat) (h : tables_1_2[i]? = some w) (hg : goodWord w = true) : w ∈ g_tbl := List.mem_filter.mpr ⟨List.mem_append_right _ (List.mem_append_right _ (List.mem_append_left _ (List.mem_of_getElem? h))), hg⟩
theorem g_in3 {w : Cond} (i : Nat) (h : tables_1_3[i]? = some w) (hg : goodWord w = true) : w ∈ g_tbl := List.mem_filter.mpr ⟨List.mem_append_right _ (List.mem_append_right _ (List.mem_append_right _ (List.mem_append_left _ (List.mem_of_getElem? h)))), hg⟩
theorem g_in4 {w : Cond} (i : Nat) (h : tables_1_4[i]? = some w) (hg : goodWord w = true) : w ∈ g_tbl := List.mem_filter.mpr ⟨List.mem_append_right _ (List.mem_append_right _ (List.mem_append_right _ (List.mem_append_right _ (List.mem_append_left _ (List.mem_of_getElem? h))))), hg⟩
theorem g_in5 {w : Cond} (i : Nat) (h : tables_1_5[i]? = some w) (hg : goodWord w = true) : w ∈ g_tbl := List.mem_filter.mpr ⟨List.mem_append_right _ (List.mem_append_right _ (List.mem_append_right _ (List.mem_append_right _ (List.mem_append_right _ (List.mem_append_left _ (List.mem_of_getElem? h)))))), hg⟩
theorem g_in6 {w : Cond} (i : Nat) (h : tables_1_6[i]? = some w) (hg : goodWord w = true) : w ∈ g_tbl := List.mem_filter.mpr ⟨List.mem_append_right _ (List.mem_append_right _ (List.mem_append_right _ (List.mem_append_right _ (List.mem_append_right _ (List.mem_append_right _ (List.mem_of_getElem? h)))))), hg⟩
theorem g_tbl_good : GoodIn g_tbl g_tbl := fun w hw => ⟨hw, good_of_word (List.mem_filter.mp hw).2⟩
def gR0 : String := "InTheGarden$Game"
def gT0 : u_T := fun k => match k with
  | 0 => ("InTheGarden$Game", "tells", "[I", true)
  | 1 => ("InTheGarden$Game", "placeSums", "[I", true)
  | 2 => ("InTheGarden$Game", "orderSums", "[I", true)
  | 3 => ("InTheGarden$Game", "takenPlaces", "[I", true)
  | 4 => ("InTheGarden$Game", "placeCount", "I", false)
  | _ => ("InTheGarden$Game", "orderCount", "I", false)
def gY0 : Nat → FieldType := fun k => match k with
  | 0 => .array .int
  | 1 => .array .int
  | 2 => .array .int
  | 3 => .array .int
  | 4 => .int
  | _ => .int
theorem gN0 : ∀ a, a < 6 → ∀ b, b < 6 → a ≠ b → (gT0 a).2.1 ≠ (gT0 b).2.1 := by decide +kernel
theorem gYok0 : ∀ k, k < 6 → parseFieldDescriptor (gT0 k).2.2.1 = some (gY0 k) := by decide +kernel
theorem gI0_0 : u_lay gR0 gT0 0 ∈ g_tbl := g_in2 43 (by decide +kernel) (by decide +kernel)
theorem gI0_1 : u_lay gR0 gT0 1 ∈ g_tbl := g_in2 45 (by decide +kernel) (by decide +kernel)
theorem gI0_2 : u_lay gR0 gT0 2 ∈ g_tbl := g_in2 47 (by decide +kernel) (by decide +kernel)
theorem gI0_3 : u_lay gR0 gT0 3 ∈ g_tbl := g_in2 49 (by decide +kernel) (by decide +kernel)
theorem gI0_4 : u_lay gR0 gT0 4 ∈ g_tbl := g_in2 51 (by decide +kernel) (by decide +kernel)
theorem gI0_5 : u_lay gR0 gT0 5 ∈ g_tbl := g_in2 53 (by decide +kernel) (by decide +kernel)
theorem gI0 : ∀ w ∈ u_ws gR0 gT0 6, w ∈ g_tbl := by
  intro w hw
  obtain ⟨k, hk, rfl⟩ := List.mem_map.mp hw
  have hk := List.mem_range.mp hk
  match k, hk with
  | 0, _ => exact gI0_0
  | 1, _ => exact gI0_1
  | 2, _ => exact gI0_2
  | 3, _ => exact gI0_3
  | 4, _ => exact gI0_4
  | 5, _ => exact gI0_5
  | k + 6, h => exact absurd h (by omega)
def gR1 : String := "InTheGarden$Garden"
def gT1 : u_T := fun k => match k with
  | 0 => ("InTheGarden$Garden", "places", "I", false)
  | 1 => ("InTheGarden$Garden", "ways", "I", false)
  | 2 => ("InTheGarden$Garden", "hiders", "I", false)
  | 3 => ("InTheGarden$Garden", "kind", "[I", true)
  | 4 => ("InTheGarden$Garden", "room", "[I", true)
  | 5 => ("InTheGarden$Garden", "hidden", "[I", true)
  | 6 => ("InTheGarden$Garden", "times", "[I", true)
  | 7 => ("InTheGarden$Garden", "views", "[I", true)
  | 8 => ("InTheGarden$Garden", "age", "[I", true)
  | 9 => ("InTheGarden$Garden", "pace", "[I", true)
  | 10 => ("InTheGarden$Garden", "way", "[I", true)
  | 11 => ("InTheGarden$Garden", "far", "[I", true)
  | 12 => ("InTheGarden$Garden", "walk", "[I", true)
  | _ => ("InTheGarden$Garden", "flight", "[I", true)
def gY1 : Nat → FieldType := fun k => match k with
  | 0 => .int
  | 1 => .int
  | 2 => .int
  | 3 => .array .int
  | 4 => .array .int
  | 5 => .array .int
  | 6 => .array .int
  | 7 => .array .int
  | 8 => .array .int
  | 9 => .array .int
  | 10 => .array .int
  | 11 => .array .int
  | 12 => .array .int
  | _ => .array .int
theorem gN1 : ∀ a, a < 14 → ∀ b, b < 14 → a ≠ b → (gT1 a).2.1 ≠ (gT1 b).2.1 := by decide +kernel
theorem gYok1 : ∀ k, k < 14 → parseFieldDescriptor (gT1 k).2.2.1 = some (gY1 k) := by decide +kernel
theorem gI1_0 : u_lay gR1 gT1 0 ∈ g_tbl := g_in1 93 (by decide +kernel) (by decide +kernel)
theorem gI1_1 : u_lay gR1 gT1 1 ∈ g_tbl := g_in1 95 (by decide +kernel) (by decide +kernel)
theorem gI1_2 : u_lay gR1 gT1 2 ∈ g_tbl := g_in1 97 (by decide +kernel) (by decide +kernel)
theorem gI1_3 : u_lay gR1 gT1 3 ∈ g_tbl := g_in1 99 (by decide +kernel) (by decide +kernel)
theorem gI1_4 : u_lay gR1 gT1 4 ∈ g_tbl := g_in1 101 (by decide +kernel) (by decide +kernel)
theorem gI1_5 : u_lay gR1 gT1 5 ∈ g_tbl := g_in1 103 (by decide +kernel) (by decide +kernel)
theorem gI1_6 : u_lay gR1 gT1 6 ∈ g_tbl := g_in1 105 (by decide +kernel) (by decide +kernel)
theorem gI1_7 : u_lay gR1 gT1 7 ∈ g_tbl := g_in1 107 (by decide +kernel) (by decide +kernel)
theorem gI1_8 : u_lay gR1 gT1 8 ∈ g_tbl := g_in1 109 (by decide +kernel) (by decide +kernel)
theorem gI1_9 : u_lay gR1 gT1 9 ∈ g_tbl := g_in1 111 (by decide +kernel) (by decide +kernel)
theorem gI1_10 : u_lay gR1 gT1 10 ∈ g_tbl := g_in1 113 (by decide +kernel) (by decide +kernel)
theorem gI1_11 : u_lay gR1 gT1 11 ∈ g_tbl := g_in1 115 (by decide +kernel) (by decide +kernel)
theorem gI1_12 : u_lay gR1 gT1 12 ∈ g_tbl := g_in1 117 (by decide +kernel) (by decide +kernel)
theorem gI1_13 : u_lay gR1 gT1 13 ∈ g_tbl := g_in1 119 (by decide +kernel) (by decide +kernel)
theorem gI1 : ∀ w ∈ u_ws gR1 gT1 14, w ∈ g_tbl := by
  intro w hw
  obtain ⟨k, hk, rfl⟩ := List.mem_map.mp hw
  have hk := List.mem_range.mp hk
  match k, hk with
  | 0, _ => exact gI1_0
  | 1, _ => exact gI1_1
  | 2, _ => exact gI1_2
  | 3, _ => exact gI1_3
  | 4, _ => exact gI1_4
  | 5, _ => exact gI1_5
  | 6, _ => exact gI1_6
  | 7, _ => exact gI1_7
  | 8, _ => exact gI1_8
  | 9, _ => exact gI1_9
  | 10, _ => exact gI1_10
  | 11, _ => exact gI1_11
  | 12, _ => exact gI1_12
  | 13, _ => exact gI1_13
  | k + 14, h => exact absurd h (by omega)
def gR2 : String := "InTheGarden$Orders"
def gT2 : u_T := fun k => match k with
  | 0 => ("InTheGarden$Orders", "row", "[I", true)
  | _ => ("InTheGarden$Orders", "length", "I", false)
def gY2 : Nat → FieldType := fun k => match k with
  | 0 => .array .int
  | _ => .int
theorem gN2 : ∀ a, a < 2 → ∀ b, b < 2 → a ≠ b → (gT2 a).2.1 ≠ (gT2 b).2.1 := by decide +kernel
theorem gYok2 : ∀ k, k < 2 → parseFieldDescriptor (gT2 k).2.2.1 = some (gY2 k) := by decide +kernel
theorem gI2_0 : u_lay gR2 gT2 0 ∈ g_tbl := g_in2 66 (by decide +kernel) (by decide +kernel)
theorem gI2_1 : u_lay gR2 gT2 1 ∈ g_tbl := g_in2 68 (by decide +kernel) (by decide +kernel)
theorem gI2 : ∀ w ∈ u_ws gR2 gT2 2, w ∈ g_tbl := by
  intro w hw
  obtain ⟨k, hk, rfl⟩ := List.mem_map.mp hw
  have hk := List.mem_range.mp hk
  match k, hk with
  | 0, _ => exact gI2_0
  | 1, _ => exact gI2_1
  | k + 2, h => exact absurd h (by omega)
def gR3 : String := "InTheGarden$Reader"
def gT3 : u_T := fun k => match k with
  | 0 => ("InTheGarden$Reader", "tape", "[I", true)
  | 1 => ("InTheGarden$Reader", "value", "[I", true)
  | 2 => ("InTheGarden$Reader", "length", "I", false)
  | _ => ("InTheGarden$Reader", "at", "I", false)
def gY3 : Nat → FieldType := fun k => match k with
  | 0 => .array .int
  | 1 => .array .int
  | 2 => .int
  | _ => .int
theorem gN3 : ∀ a, a < 4 → ∀ b, b < 4 → a ≠ b → (gT3 a).2.1 ≠ (gT3 b).2.1 := by decide +kernel
theorem gYok3 : ∀ k, k < 4 → parseFieldDescriptor (gT3 k).2.2.1 = some (gY3 k) := by decide +kernel
theorem gI3_0 : u_lay gR3 gT3 0 ∈ g_tbl := g_in2 11 (by decide +kernel) (by decide +kernel)
theorem gI3_1 : u_lay gR3 gT3 1 ∈ g_tbl := g_in2 13 (by decide +kernel) (by decide +kernel)
theorem gI3_2 : u_lay gR3 gT3 2 ∈ g_tbl := g_in2 15 (by decide +kernel) (by decide +kernel)
theorem gI3_3 : u_lay gR3 gT3 3 ∈ g_tbl := g_in2 17 (by decide +kernel) (by decide +kernel)
theorem gI3 : ∀ w ∈ u_ws gR3 gT3 4, w ∈ g_tbl := by
  intro w hw
  obtain ⟨k, hk, rfl⟩ := List.mem_map.mp hw
  have hk := List.mem_range.mp hk
  match k, hk with
  | 0, _ => exact gI3_0
  | 1, _ => exact gI3_1
  | 2, _ => exact gI3_2
  | 3, _ => exact gI3_3
  | k + 4, h => exact absurd h (by omega)
def gR4 : String := "InTheGarden$Round"
def gT4 : u_T := fun k => match k with
  | 0 => ("InTheGarden$Round", "spot", "[I", true)
  | 1 => ("InTheGarden$Round", "state", "[I", true)
  | 2 => ("InTheGarden$Round", "when", "[I", true)
  | 3 => ("InTheGarden$Round", "foundOnes", "[I", true)
  | 4 => ("InTheGarden$Round", "roomLeft", "[I", true)
  | 5 => ("InTheGarden$Round", "hiders", "I", false)
  | 6 => ("InTheGarden$Round", "findCount", "I", false)
  | 7 => ("InTheGarden$Round", "lastSecond", "I", false)
  | 8 => ("InTheGarden$Round", "lookedAt", "I", false)
  | _ => ("InTheGarden$Round", "seed", "I", false)
def gY4 : Nat → FieldType := fun k => match k with
  | 0 => .array .int
  | 1 => .array .int
  | 2 => .array .int
  | 3 => .array .int
  | 4 => .array .int
  | 5 => .int
  | 6 => .int
  | 7 => .int
  | 8 => .int
  | _ => .int
theorem gN4 : ∀ a, a < 10 → ∀ b, b < 10 → a ≠ b → (gT4 a).2.1 ≠ (gT4 b).2.1 := by decide +kernel
theorem gYok4 : ∀ k, k < 10 → parseFieldDescriptor (gT4 k).2.2.1 = some (gY4 k) := by decide +kernel
theorem gI4_0 : u_lay gR4 gT4 0 ∈ g_tbl := g_in1 172 (by decide +kernel) (by decide +kernel)
theorem gI4_1 : u_lay gR4 gT4 1 ∈ g_tbl := g_in1 174 (by decide +kernel) (by decide +kernel)
theorem gI4_2 : u_lay gR4 gT4 2 ∈ g_tbl := g_in1 176 (by decide +kernel) (by decide +kernel)
theorem gI4_3 : u_lay gR4 gT4 3 ∈ g_tbl := g_in1 178 (by decide +kernel) (by decide +kernel)
theorem gI4_4 : u_lay gR4 gT4 4 ∈ g_tbl := g_in1 180 (by decide +kernel) (by decide +kernel)
theorem gI4_5 : u_lay gR4 gT4 5 ∈ g_tbl := g_in1 182 (by decide +kernel) (by decide +kernel)
theorem gI4_6 : u_lay gR4 gT4 6 ∈ g_tbl := g_in1 184 (by decide +kernel) (by decide +kernel)
theorem gI4_7 : u_lay gR4 gT4 7 ∈ g_tbl := g_in1 186 (by decide +kernel) (by decide +kernel)
theorem gI4_8 : u_lay gR4 gT4 8 ∈ g_tbl := g_in1 188 (by decide +kernel) (by decide +kernel)
theorem gI4_9 : u_lay gR4 gT4 9 ∈ g_tbl := g_in1 190 (by decide +kernel) (by decide +kernel)
theorem gI4 : ∀ w ∈ u_ws gR4 gT4 10, w ∈ g_tbl := by
  intro w hw
  obtain ⟨k, hk, rfl⟩ := List.mem_map.mp hw
  have hk := List.mem_range.mp hk
  match k, hk with
  | 0, _ => exact gI4_0
  | 1, _ => exact gI4_1
  | 2, _ => exact gI4_2
  | 3, _ => exact gI4_3
  | 4, _ => exact gI4_4
  | 5, _ => exact gI4_5
  | 6, _ => exact gI4_6
  | 7, _ => exact gI4_7
  | 8, _ => exact gI4_8
  | 9, _ => exact gI4_9
  | k + 10, h => exact absurd h (by omega)
def gR5 : String := "InTheGarden$Seeker"
def gT5 : u_T := fun k => match k with
  | 0 => ("InTheGarden$Seeker", "at", "I", false)
  | 1 => ("InTheGarden$Seeker", "next", "I", false)
  | 2 => ("InTheGarden$Seeker", "passed", "I", false)
  | 3 => ("InTheGarden$Seeker", "moment", "I", false)
  | _ => ("InTheGarden$Seeker", "walks", "Z", false)
def gY5 : Nat → FieldType := fun k => match k with
  | 0 => .int
  | 1 => .int
  | 2 => .int
  | 3 => .int
  | _ => .boolean
theorem gN5 : ∀ a, a < 5 → ∀ b, b < 5 → a ≠ b → (gT5 a).2.1 ≠ (gT5 b).2.1 := by decide +kernel
theorem gYok5 : ∀ k, k < 5 → parseFieldDescriptor (gT5 k).2.2.1 = some (gY5 k) := by decide +kernel
theorem gI5_0 : u_lay gR5 gT5 0 ∈ g_tbl := g_in1 229 (by decide +kernel) (by decide +kernel)
theorem gI5_1 : u_lay gR5 gT5 1 ∈ g_tbl := g_in1 231 (by decide +kernel) (by decide +kernel)
theorem gI5_2 : u_lay gR5 gT5 2 ∈ g_tbl := g_in1 233 (by decide +kernel) (by decide +kernel)
theorem gI5_3 : u_lay gR5 gT5 3 ∈ g_tbl := g_in1 235 (by decide +kernel) (by decide +kernel)
theorem gI5_4 : u_lay gR5 gT5 4 ∈ g_tbl := g_in1 237 (by decide +kernel) (by decide +kernel)
theorem gI5 : ∀ w ∈ u_ws gR5 gT5 5, w ∈ g_tbl := by
  intro w hw
  obtain ⟨k, hk, rfl⟩ := List.mem_map.mp hw
  have hk := List.mem_range.mp hk
  match k, hk with
  | 0, _ => exact gI5_0
  | 1, _ => exact gI5_1
  | 2, _ => exact gI5_2
  | 3, _ => exact gI5_3
  | 4, _ => exact gI5_4
  | k + 5, h => exact absurd h (by omega)
def gR6 : String := "InTheGarden$Sight"
def gT6 : u_T := fun k => match k with
  | _ => ("InTheGarden$Sight", "cost", "[I", true)
def gY6 : Nat → FieldType := fun k => match k with
  | _ => .array .int
theorem gN6 : ∀ a, a < 1 → ∀ b, b < 1 → a ≠ b → (gT6 a).2.1 ≠ (gT6 b).2.1 := by decide +kernel
theorem gYok6 : ∀ k, k < 1 → parseFieldDescriptor (gT6 k).2.2.1 = some (gY6 k) := by decide +kernel
theorem gI6_0 : u_lay gR6 gT6 0 ∈ g_tbl := g_in2 27 (by decide +kernel) (by decide +kernel)
theorem gI6 : ∀ w ∈ u_ws gR6 gT6 1, w ∈ g_tbl := by
  intro w hw
  obtain ⟨k, hk, rfl⟩ := List.mem_map.mp hw
  have hk := List.mem_range.mp hk
  match k, hk with
  | 0, _ => exact gI6_0
  | k + 1, h => exact absurd h (by omega)
def gR7 : String := "InTheGarden$Told"
def gT7 : u_T := fun k => match k with
  | 0 => ("InTheGarden$Told", "setting", "[I", true)
  | 1 => ("InTheGarden$Told", "places", "[I", true)
  | _ => ("InTheGarden$Told", "length", "I", false)
def gY7 : Nat → FieldType := fun k => match k with
  | 0 => .array .int
  | 1 => .array .int
  | _ => .int
theorem gN7 : ∀ a, a < 3 → ∀ b, b < 3 → a ≠ b → (gT7 a).2.1 ≠ (gT7 b).2.1 := by decide +kernel
theorem gYok7 : ∀ k, k < 3 → parseFieldDescriptor (gT7 k).2.2.1 = some (gY7 k) := by decide +kernel
theorem gI7_0 : u_lay gR7 gT7 0 ∈ g_tbl := g_in1 142 (by decide +kernel) (by decide +kernel)
theorem gI7_1 : u_lay gR7 gT7 1 ∈ g_tbl := g_in1 144 (by decide +kernel) (by decide +kernel)
theorem gI7_2 : u_lay gR7 gT7 2 ∈ g_tbl := g_in1 146 (by decide +kernel) (by decide +kernel)
theorem gI7 : ∀ w ∈ u_ws gR7 gT7 3, w ∈ g_tbl := by
  intro w hw
  obtain ⟨k, hk, rfl⟩ := List.mem_map.mp hw
  have hk := List.mem_range.mp hk
  match k, hk with
  | 0, _ => exact gI7_0
  | 1, _ => exact gI7_1
  | 2, _ => exact gI7_2
  | k + 3, h => exact absurd h (by omega)
def gR8 : String := "InTheGarden$World"
def gT8 : u_T := fun k => match k with
  | 0 => ("InTheGarden$World", "garden", "LInTheGarden$Garden;", true)
  | 1 => ("InTheGarden$World", "told", "LInTheGarden$Told;", true)
  | 2 => ("InTheGarden$World", "latest", "LInTheGarden$Round;", true)
  | _ => ("InTheGarden$World", "played", "I", false)
def gY8 : Nat → FieldType := fun k => match k with
  | 0 => .object "InTheGarden$Garden"
  | 1 => .object "InTheGarden$Told"
  | 2 => .object "InTheGarden$Round"
  | _ => .int
theorem gN8 : ∀ a, a < 4 → ∀ b, b < 4 → a ≠ b → (gT8 a).2.1 ≠ (gT8 b).2.1 := by decide +kernel
theorem gYok8 : ∀ k, k < 4 → parseFieldDescriptor (gT8 k).2.2.1 = some (gY8 k) := by decide +kernel
theorem gI8_0 : u_lay gR8 gT8 0 ∈ g_tbl := g_in1 201 (by decide +kernel) (by decide +kernel)
theorem gI8_1 : u_lay gR8 gT8 1 ∈ g_tbl := g_in1 203 (by decide +kernel) (by decide +kernel)
theorem gI8_2 : u_lay gR8 gT8 2 ∈ g_tbl := g_in1 205 (by decide +kernel) (by decide +kernel)
theorem gI8_3 : u_lay gR8 gT8 3 ∈ g_tbl := g_in1 207 (by decide +kernel) (by decide +kernel)
theorem gI8 : ∀ w ∈ u_ws gR8 gT8 4, w ∈ g_tbl := by
  intro w hw
  obtain ⟨k, hk, rfl⟩ := List.mem_map.mp hw
  have hk := List.mem_range.mp hk
  match k, hk with
  | 0, _ => exact gI8_0
  | 1, _ => exact gI8_1
  | 2, _ => exact gI8_2
  | 3, _ => exact gI8_3
  | k + 4, h => exact absurd h (by omega)
def gR9 : String := "InTheGarden"
def gT9 : u_T := fun k => match k with
  | 0 => ("InTheGarden", "now", "LInTheGarden$World;", true)
  | 1 => ("InTheGarden", "kept", "LInTheGarden$World;", true)
  | 2 => ("InTheGarden", "draft", "LInTheGarden$Garden;", true)
  | 3 => ("InTheGarden", "trial", "LInTheGarden$Told;", true)
  | 4 => ("InTheGarden", "thought", "LInTheGarden$Round;", true)
  | 5 => ("InTheGarden", "seeker", "LInTheGarden$Seeker;", true)
  | 6 => ("InTheGarden", "reader", "LInTheGarden$Reader;", true)
  | 7 => ("InTheGarden", "sight", "LInTheGarden$Sight;", true)
  | 8 => ("InTheGarden", "contest", "LInTheGarden$Game;", true)
  | 9 => ("InTheGarden", "orders", "LInTheGarden$Orders;", true)
  | 10 => ("InTheGarden", "bestPlaces", "[I", true)
  | 11 => ("InTheGarden", "toldFinds", "[I", true)
  | 12 => ("InTheGarden", "refusals", "[I", true)
  | 13 => ("InTheGarden", "toldCount", "I", false)
  | _ => ("InTheGarden", "hasImage", "Z", false)
def gY9 : Nat → FieldType := fun k => match k with
  | 0 => .object "InTheGarden$World"
  | 1 => .object "InTheGarden$World"
  | 2 => .object "InTheGarden$Garden"
  | 3 => .object "InTheGarden$Told"
  | 4 => .object "InTheGarden$Round"
  | 5 => .object "InTheGarden$Seeker"
  | 6 => .object "InTheGarden$Reader"
  | 7 => .object "InTheGarden$Sight"
  | 8 => .object "InTheGarden$Game"
  | 9 => .object "InTheGarden$Orders"
  | 10 => .array .int
  | 11 => .array .int
  | 12 => .array .int
  | 13 => .int
  | _ => .boolean
theorem gN9 : ∀ a, a < 15 → ∀ b, b < 15 → a ≠ b → (gT9 a).2.1 ≠ (gT9 b).2.1 := by decide +kernel
theorem gYok9 : ∀ k, k < 15 → parseFieldDescriptor (gT9 k).2.2.1 = some (gY9 k) := by decide +kernel
theorem gI9_0 : u_lay gR9 gT9 0 ∈ g_tbl := g_in2 86 (by decide +kernel) (by decide +kernel)
theorem gI9_1 : u_lay gR9 gT9 1 ∈ g_tbl := g_in2 88 (by decide +kernel) (by decide +kernel)
theorem gI9_2 : u_lay gR9 gT9 2 ∈ g_tbl := g_in2 90 (by decide +kernel) (by decide +kernel)
theorem gI9_3 : u_lay gR9 gT9 3 ∈ g_tbl := g_in2 92 (by decide +kernel) (by decide +kernel)
theorem gI9_4 : u_lay gR9 gT9 4 ∈ g_tbl := g_in2 94 (by decide +kernel) (by decide +kernel)
theorem gI9_5 : u_lay gR9 gT9 5 ∈ g_tbl := g_in2 96 (by decide +kernel) (by decide +kernel)
theorem gI9_6 : u_lay gR9 gT9 6 ∈ g_tbl := g_in2 98 (by decide +kernel) (by decide +kernel)
theorem gI9_7 : u_lay gR9 gT9 7 ∈ g_tbl := g_in2 100 (by decide +kernel) (by decide +kernel)
theorem gI9_8 : u_lay gR9 gT9 8 ∈ g_tbl := g_in2 102 (by decide +kernel) (by decide +kernel)
theorem gI9_9 : u_lay gR9 gT9 9 ∈ g_tbl := g_in2 104 (by decide +kernel) (by decide +kernel)
theorem gI9_10 : u_lay gR9 gT9 10 ∈ g_tbl := g_in2 106 (by decide +kernel) (by decide +kernel)
theorem gI9_11 : u_lay gR9 gT9 11 ∈ g_tbl := g_in2 108 (by decide +kernel) (by decide +kernel)
theorem gI9_12 : u_lay gR9 gT9 12 ∈ g_tbl := g_in2 110 (by decide +kernel) (by decide +kernel)
theorem gI9_13 : u_lay gR9 gT9 13 ∈ g_tbl := g_in2 112 (by decide +kernel) (by decide +kernel)
theorem gI9_14 : u_lay gR9 gT9 14 ∈ g_tbl := g_in2 114 (by decide +kernel) (by decide +kernel)
theorem gI9 : ∀ w ∈ u_ws gR9 gT9 15, w ∈ g_tbl := by
  intro w hw
  obtain ⟨k, hk, rfl⟩ := List.mem_map.mp hw
  have hk := List.mem_range.mp hk
  match k, hk with
  | 0, _ => exact gI9_0
  | 1, _ => exact gI9_1
  | 2, _ => exact gI9_2
  | 3, _ => exact gI9_3
  | 4, _ => exact gI9_4
  | 5, _ => exact gI9_5
  | 6, _ => exact gI9_6
  | 7, _ => exact gI9_7
  | 8, _ => exact gI9_8
  | 9, _ => exact gI9_9
  | 10, _ => exact gI9_10
  | 11, _ => exact gI9_11
  | 12, _ => exact gI9_12
  | 13, _ => exact gI9_13
  | 14, _ => exact gI9_14
  | k + 15, h => exact absurd h (by omega)
def gR10 : String := "InTheGardenModel"
def gT10 : u_T := fun k => match k with
  | 0 => ("InTheGardenModel", "refusals", "[I", true)
  | 1 => ("InTheGardenModel", "s", "[I", true)
  | 2 => ("InTheGardenModel", "image", "[I", true)
  | 3 => ("InTheGardenModel", "read", "[I", true)
  | 4 => ("InTheGardenModel", "isImage", "Z", false)
  | 5 => ("InTheGardenModel", "tape", "[I", true)
  | 6 => ("InTheGardenModel", "told", "[I", true)
  | 7 => ("InTheGardenModel", "taped", "I", false)
  | 8 => ("InTheGardenModel", "at", "I", false)
  | 9 => ("InTheGardenModel", "far", "[I", true)
  | 10 => ("InTheGardenModel", "direct", "[I", true)
  | 11 => ("InTheGardenModel", "where", "[I", true)
  | 12 => ("InTheGardenModel", "how", "[I", true)
  | 13 => ("InTheGardenModel", "when", "[I", true)
  | 14 => ("InTheGardenModel", "comesAt", "[I", true)
  | 15 => ("InTheGardenModel", "caught", "[I", true)
  | 16 => ("InTheGardenModel", "caughtAt", "[I", true)
  | 17 => ("InTheGardenModel", "seed", "I", false)
  | 18 => ("InTheGardenModel", "caughtMany", "I", false)
  | 19 => ("InTheGardenModel", "last", "I", false)
  | 20 => ("InTheGardenModel", "spot", "I", false)
  | 21 => ("InTheGardenModel", "to", "I", false)
  | 22 => ("InTheGardenModel", "comesNext", "I", false)
  | 23 => ("InTheGardenModel", "goesNext", "I", false)
  | 24 => ("InTheGardenModel", "inOrder", "I", false)
  | 25 => ("InTheGardenModel", "isOnWay", "Z", false)
  | 26 => ("InTheGardenModel", "least", "[I", true)
  | 27 => ("InTheGardenModel", "settled", "[Z", true)
  | 28 => ("InTheGardenModel", "tells", "[I", true)
  | 29 => ("InTheGardenModel", "orders", "[I", true)
  | 30 => ("InTheGardenModel", "placeSum", "[I", true)
  | 31 => ("InTheGardenModel", "orderSum", "[I", true)
  | 32 => ("InTheGardenModel", "takenOf", "[I", true)
  | 33 => ("InTheGardenModel", "orderMany", "I", false)
  | 34 => ("InTheGardenModel", "kept", "[I", true)
  | 35 => ("InTheGardenModel", "bestOrder", "[I", true)
  | 36 => ("InTheGardenModel", "row", "[I", true)
  | _ => ("InTheGardenModel", "rowed", "I", false)
def gY10 : Nat → FieldType := fun k => match k with
  | 0 => .array .int
  | 1 => .array .int
  | 2 => .array .int
  | 3 => .array .int
  | 4 => .boolean
  | 5 => .array .int
  | 6 => .array .int
  | 7 => .int
  | 8 => .int
  | 9 => .array .int
  | 10 => .array .int
  | 11 => .array .int
  | 12 => .array .int
  | 13 => .array .int
  | 14 => .array .int
  | 15 => .array .int
  | 16 => .array .int
  | 17 => .int
  | 18 => .int
  | 19 => .int
  | 20 => .int
  | 21 => .int
  | 22 => .int
  | 23 => .int
  | 24 => .int
  | 25 => .boolean
  | 26 => .array .int
  | 27 => .array .boolean
  | 28 => .array .int
  | 29 => .array .int
  | 30 => .array .int
  | 31 => .array .int
  | 32 => .array .int
  | 33 => .int
  | 34 => .array .int
  | 35 => .array .int
  | 36 => .array .int
  | _ => .int
theorem gN10 : ∀ a, a < 38 → ∀ b, b < 38 → a ≠ b → (gT10 a).2.1 ≠ (gT10 b).2.1 := by decide +kernel
theorem gYok10 : ∀ k, k < 38 → parseFieldDescriptor (gT10 k).2.2.1 = some (gY10 k) := by decide +kernel
theorem gI10_0 : u_lay gR10 gT10 0 ∈ g_tbl := g_in5 57 (by decide +kernel) (by decide +kernel)
theorem gI10_1 : u_lay gR10 gT10 1 ∈ g_tbl := g_in5 59 (by decide +kernel) (by decide +kernel)
theorem gI10_2 : u_lay gR10 gT10 2 ∈ g_tbl := g_in5 61 (by decide +kernel) (by decide +kernel)
theorem gI10_3 : u_lay gR10 gT10 3 ∈ g_tbl := g_in5 63 (by decide +kernel) (by decide +kernel)
theorem gI10_4 : u_lay gR10 gT10 4 ∈ g_tbl := g_in5 65 (by decide +kernel) (by decide +kernel)
theorem gI10_5 : u_lay gR10 gT10 5 ∈ g_tbl := g_in5 67 (by decide +kernel) (by decide +kernel)
theorem gI10_6 : u_lay gR10 gT10 6 ∈ g_tbl := g_in5 69 (by decide +kernel) (by decide +kernel)
theorem gI10_7 : u_lay gR10 gT10 7 ∈ g_tbl := g_in5 71 (by decide +kernel) (by decide +kernel)
theorem gI10_8 : u_lay gR10 gT10 8 ∈ g_tbl := g_in5 73 (by decide +kernel) (by decide +kernel)
theorem gI10_9 : u_lay gR10 gT10 9 ∈ g_tbl := g_in5 75 (by decide +kernel) (by decide +kernel)
theorem gI10_10 : u_lay gR10 gT10 10 ∈ g_tbl := g_in5 77 (by decide +kernel) (by decide +kernel)
theorem gI10_11 : u_lay gR10 gT10 11 ∈ g_tbl := g_in5 79 (by decide +kernel) (by decide +kernel)
theorem gI10_12 : u_lay gR10 gT10 12 ∈ g_tbl := g_in5 81 (by decide +kernel) (by decide +kernel)
theorem gI10_13 : u_lay gR10 gT10 13 ∈ g_tbl := g_in5 83 (by decide +kernel) (by decide +kernel)
theorem gI10_14 : u_lay gR10 gT10 14 ∈ g_tbl := g_in5 85 (by decide +kernel) (by decide +kernel)
theorem gI10_15 : u_lay gR10 gT10 15 ∈ g_tbl := g_in5 87 (by decide +kernel) (by decide +kernel)
theorem gI10_16 : u_lay gR10 gT10 16 ∈ g_tbl := g_in5 89 (by decide +kernel) (by decide +kernel)
theorem gI10_17 : u_lay gR10 gT10 17 ∈ g_tbl := g_in5 91 (by decide +kernel) (by decide +kernel)
theorem gI10_18 : u_lay gR10 gT10 18 ∈ g_tbl := g_in5 93 (by decide +kernel) (by decide +kernel)
theorem gI10_19 : u_lay gR10 gT10 19 ∈ g_tbl := g_in5 95 (by decide +kernel) (by decide +kernel)
theorem gI10_20 : u_lay gR10 gT10 20 ∈ g_tbl := g_in5 97 (by decide +kernel) (by decide +kernel)
theorem gI10_21 : u_lay gR10 gT10 21 ∈ g_tbl := g_in5 99 (by decide +kernel) (by decide +kernel)
theorem gI10_22 : u_lay gR10 gT10 22 ∈ g_tbl := g_in5 101 (by decide +kernel) (by decide +kernel)
theorem gI10_23 : u_lay gR10 gT10 23 ∈ g_tbl := g_in5 103 (by decide +kernel) (by decide +kernel)
theorem gI10_24 : u_lay gR10 gT10 24 ∈ g_tbl := g_in5 105 (by decide +kernel) (by decide +kernel)
theorem gI10_25 : u_lay gR10 gT10 25 ∈ g_tbl := g_in5 107 (by decide +kernel) (by decide +kernel)
theorem gI10_26 : u_lay gR10 gT10 26 ∈ g_tbl := g_in5 109 (by decide +kernel) (by decide +kernel)
theorem gI10_27 : u_lay gR10 gT10 27 ∈ g_tbl := g_in5 111 (by decide +kernel) (by decide +kernel)
theorem gI10_28 : u_lay gR10 gT10 28 ∈ g_tbl := g_in5 113 (by decide +kernel) (by decide +kernel)
theorem gI10_29 : u_lay gR10 gT10 29 ∈ g_tbl := g_in5 115 (by decide +kernel) (by decide +kernel)
theorem gI10_30 : u_lay gR10 gT10 30 ∈ g_tbl := g_in5 117 (by decide +kernel) (by decide +kernel)
theorem gI10_31 : u_lay gR10 gT10 31 ∈ g_tbl := g_in5 119 (by decide +kernel) (by decide +kernel)
theorem gI10_32 : u_lay gR10 gT10 32 ∈ g_tbl := g_in5 121 (by decide +kernel) (by decide +kernel)
theorem gI10_33 : u_lay gR10 gT10 33 ∈ g_tbl := g_in5 123 (by decide +kernel) (by decide +kernel)
theorem gI10_34 : u_lay gR10 gT10 34 ∈ g_tbl := g_in5 125 (by decide +kernel) (by decide +kernel)
theorem gI10_35 : u_lay gR10 gT10 35 ∈ g_tbl := g_in5 127 (by decide +kernel) (by decide +kernel)
theorem gI10_36 : u_lay gR10 gT10 36 ∈ g_tbl := g_in5 129 (by decide +kernel) (by decide +kernel)
theorem gI10_37 : u_lay gR10 gT10 37 ∈ g_tbl := g_in5 131 (by decide +kernel) (by decide +kernel)
theorem gI10 : ∀ w ∈ u_ws gR10 gT10 38, w ∈ g_tbl := by
  intro w hw
  obtain ⟨k, hk, rfl⟩ := List.mem_map.mp hw
  have hk := List.mem_range.mp hk
  match k, hk with
  | 0, _ => exact gI10_0
  | 1, _ => exact gI10_1
  | 2, _ => exact gI10_2
  | 3, _ => exact gI10_3
  | 4, _ => exact gI10_4
  | 5, _ => exact gI10_5
  | 6, _ => exact gI10_6
  | 7, _ => exact gI10_7
  | 8, _ => exact gI10_8
  | 9, _ => exact gI10_9
  | 10, _ => exact gI10_10
  | 11, _ => exact gI10_11
  | 12, _ => exact gI10_12
  | 13, _ => exact gI10_13
  | 14, _ => exact gI10_14
  | 15, _ => exact gI10_15
  | 16, _ => exact gI10_16
  | 17, _ => exact gI10_17
  | 18, _ => exact gI10_18
  | 19, _ => exact gI10_19
  | 20, _ => exact gI10_20
  | 21, _ => exact gI10_21
  | 22, _ => exact gI10_22
  | 23, _ => exact gI10_23
  | 24, _ => exact gI10_24
  | 25, _ => exact gI10_25
  | 26, _ => exact gI10_26
  | 27, _ => exact gI10_27
  | 28, _ => exact gI10_28
  | 29, _ => exact gI10_29
  | 30, _ => exact gI10_30
  | 31, _ => exact gI10_31
  | 32, _ => exact gI10_32
  | 33, _ => exact gI10_33
  | 34, _ => exact gI10_34
  | 35, _ => exact gI10_35
  | 36, _ => exact gI10_36
  | 37, _ => exact gI10_37
  | k + 38, h => exact absurd h (by omega)
def g_cls : List vw_C := [(gR0, gT0, 6), (gR1, gT1, 14), (gR2, gT2, 2), (gR3, gT3, 4), (gR4, gT4, 10), (gR5, gT5, 5), (gR6, gT6, 1), (gR7, gT7, 3), (gR8, gT8, 4), (gR9, gT9, 15), (gR10, gT10, 38)]
end
section
/-! ===== the small machine over the JVM: the world of a shape, the locals, contracts ===== -/
theorem g_cat (μ ξ : Nat → Nat) (v : Value) : (g_cv μ ξ v).category = v.category := by cases v <;> rfl
theorem g_wd_eq (μ ξ : Nat → Nat) : ∀ st : List Value, ((st.map (g_cv μ ξ)).map fun v => v.category).sum = g_wd st := by
  intro st
  induction st with
  | nil => rfl
  | cons v r ih =>
    rw [List.map_cons, List.map_cons, List.sum_cons, ih, g_cat]
    cases v <;> simp [g_wd, Value.category] <;> omega
def g_tys (cA : Nat → ClassId) : List (ClassId × FieldType) := [(cA 0, .int), (cA 1, .boolean)]
def g_fl (μ : Nat → Nat) (f : Nat → Int32) (k : Nat) (p : Option Nat) : Value := match p with
  | some q => .ref (μ q)
  | none => .int (f k)
def g_cell (cA : Nat → ClassId) (μ : Nat → Nat) (f : Nat → Int32) : g_SC → va_E
  | .inl (kd, n) => .inl (cA kd, (n, .inl f))
  | .inr (ci, ps) => .inr (ci, ps.mapIdx (g_fl μ f))
def g_wld (cA : Nat → ClassId) (μ : Nat → Nat) (M : g_M) (sh : g_Sh) : va_W := (List.range sh.1).map (fun a => (μ a, g_cell cA μ (M a) (sh.2 a)))
theorem g_wld_at {cA : Nat → ClassId} {μ : Nat → Nat} {M : g_M} {sh : g_Sh} {a : Nat} (h : a < sh.1) : (g_wld cA μ M sh)[a]? = some (μ a, g_cell cA μ (M a) (sh.2 a)) := by
  simp [g_wld, h]
theorem g_wld_set {cA : Nat → ClassId} {μ : Nat → Nat} {M : g_M} {sh : g_Sh} {a : Nat} (h : a < sh.1) (f : Nat → Int32) : (g_wld cA μ M sh).set a (μ a, g_cell cA μ f (sh.2 a)) = g_wld cA μ (g_ms M a f) sh := by
  apply List.ext_getElem?
  intro i
  by_cases hi : i = a
  · subst hi
    rw [List.getElem?_set_self (by simp [g_wld, h]), g_wld_at h]
    simp [g_ms]
  · rw [List.getElem?_set_ne (Ne.symm hi)]
    by_cases hl : i < sh.1
    · rw [g_wld_at hl, g_wld_at hl]
      simp [g_ms, hi]
    · simp [g_wld, hl]
theorem g_nth_eq : ∀ (ps : List (Option Nat)) (k : Nat), g_nth ps k = ps[k]? := by
  intro ps
  induction ps with
  | nil => intro k; simp [g_nth]
  | cons p r ih => intro k; cases k with
    | zero => simp [g_nth]
    | succ k => simp [g_nth, ih]
theorem g_fl_at {μ : Nat → Nat} {f : Nat → Int32} {ps : List (Option Nat)} {k : Nat} {p : Option Nat} (h : g_nth ps k = some p) : (ps.mapIdx (g_fl μ f))[k]? = some (g_fl μ f k p) := by
  rw [g_nth_eq] at h
  rw [List.getElem?_mapIdx, h]
  rfl
theorem g_fl_set {μ : Nat → Nat} {f : Nat → Int32} {ps : List (Option Nat)} {k : Nat} (h : g_nth ps k = some none) (v : Int32) : (ps.mapIdx (g_fl μ f)).set k (.int v) = ps.mapIdx (g_fl μ (upd f k v)) := by
  rw [g_nth_eq] at h
  have hl := (List.getElem?_eq_some_iff.mp h).1
  apply List.ext_getElem?
  intro i
  by_cases hi : i = k
  · subst hi
    rw [List.getElem?_set_self (by rw [List.length_mapIdx]; exact hl), List.getElem?_mapIdx, h]
    simp [g_fl, upd]
  · rw [List.getElem?_set_ne (Ne.symm hi), List.getElem?_mapIdx, List.getElem?_mapIdx]
    cases ps[i]? with
    | none => rfl
    | some p => cases p <;> simp [g_fl, upd, hi]
/-- the locals -/
def g_lr (μ ξ : Nat → Nat) (ls : Array Slot) (n : Nat) (L : List Value) : Prop := ls.size = n ∧ lv_wf ls ∧ L.length ≤ n ∧ ∀ i v, g_at L i = some v → v ≠ .null → ls[i]? = some (.val (g_cv μ ξ v))
theorem g_at_eq : ∀ (L : List Value) (k : Nat), g_at L k = L[k]? := by
  intro L
  induction L with
  | nil => intro k; simp [g_at]
  | cons p r ih => intro k; cases k with
    | zero => simp [g_at]
    | succ k => simp [g_at, ih]
/-- the listed form of the locals -/
def g_as (μ ξ : Nat → Nat) (L : List Value) : List (Nat × Value) := (List.range L.length).filterMap (fun i => match L[i]? with | some v => if v = .null then none else some (i, g_cv μ ξ v) | none => none)
theorem g_as_mem {μ ξ : Nat → Nat} {L : List Value} {j : Nat} {w : Value} : (j, w) ∈ g_as μ ξ L ↔ ∃ v, g_at L j = some v ∧ v ≠ .null ∧ w = g_cv μ ξ v := by
  simp only [g_as, List.mem_filterMap, List.mem_range, g_at_eq]
  constructor
  · rintro ⟨i, hi, h⟩
    cases e : L[i]? with
    | none => rw [e] at h; cases h
    | some v =>
      rw [e] at h
      by_cases hv : v = .null
      · simp [hv] at h
      · simp only [hv, if_false, Option.some.injEq, Prod.mk.injEq] at h
        obtain ⟨rfl, rfl⟩ := h
        exact ⟨v, e, hv, rfl⟩
  · rintro ⟨v, e, hv, rfl⟩
    refine ⟨j, (List.getElem?_eq_some_iff.mp e).1, ?_⟩
    rw [e]
    simp [hv]
theorem g_lr.has {μ ξ : Nat → Nat} {ls : Array Slot} {n : Nat} {L : List Value} (h : g_lr μ ξ ls n L) : lv_has ls n (g_as μ ξ L) := by
  refine ⟨h.1, h.2.1, fun q hq => ?_⟩
  obtain ⟨j, w⟩ := q
  obtain ⟨v, e, hv, rfl⟩ := g_as_mem.mp hq
  exact h.2.2.2 j v e hv
theorem g_lr.of {μ ξ : Nat → Nat} {ls : Array Slot} {n : Nat} {L : List Value} {l : List (Nat × Value)} (h : lv_has ls n l) (hl : L.length ≤ n) (hm : ∀ i v, g_at L i = some v → v ≠ .null → (i, g_cv μ ξ v) ∈ l) : g_lr μ ξ ls n L :=
  ⟨h.1, h.2.1, hl, fun i v e hv => h.2.2 (i, g_cv μ ξ v) (hm i v e hv)⟩
/-- what g_set does -/
theorem g_set_spec : ∀ (i : Nat) (v : Value) (L : List Value) (k : List Value → Prop), g_set i v L k → ∃ L', k L' ∧ L'.length = L.length ∧ i < L.length ∧ ∀ j w, g_at L' j = some w → w ≠ .null → (j = i ∧ w = v) ∨ (j ≠ i ∧ g_at L j = some w ∧ ¬ (j + 1 = i ∧ w.category = 2)) := by
  intro i
  induction i with
  | zero =>
    intro v L k h
    cases L with
    | nil => exact False.elim h
    | cons x r =>
      refine ⟨v :: r, h, rfl, by simp, fun j w e hw => ?_⟩
      cases j with
      | zero => left; exact ⟨rfl, (Option.some.inj e).symm⟩
      | succ j => right; exact ⟨by omega, e, by omega⟩
  | succ i ih =>
    intro v L k h
    cases i with
    | zero =>
      match L, h with
      | [], h => exact False.elim h
      | [x], h => exact False.elim h
      | x :: y :: r, h =>
        have key : ∀ x', k (x' :: v :: r) → (x' = .null ∨ (x' = x ∧ x.category = 1)) → ∃ L', k L' ∧ L'.length = (x :: y :: r).length ∧ 0 + 1 < (x :: y :: r).length ∧ ∀ j w, g_at L' j = some w → w ≠ .null → (j = 0 + 1 ∧ w = v) ∨ (j ≠ 0 + 1 ∧ g_at (x :: y :: r) j = some w ∧ ¬ (j + 1 = 0 + 1 ∧ w.category = 2)) := by
          intro x' hk hx
          refine ⟨x' :: v :: r, hk, rfl, by simp, fun j w e hw => ?_⟩
          match j, e with
          | 0, e =>
            have ew : x' = w := Option.some.inj e
            rcases hx with hx | ⟨hx, hc⟩
            · exact absurd (ew.symm.trans hx) hw
            · right
              rw [← ew, hx]
              exact ⟨by omega, rfl, fun z => by omega⟩
          | 1, e => left; exact ⟨rfl, (Option.some.inj e).symm⟩
          | j + 2, e => right; exact ⟨by omega, e, by omega⟩
        cases x with
        | long a => exact key _ h (Or.inl rfl)
        | double a => exact False.elim h
        | int a => exact key _ h (Or.inr ⟨rfl, rfl⟩)
        | float a => exact key _ h (Or.inr ⟨rfl, rfl⟩)
        | null => exact key _ h (Or.inr ⟨rfl, rfl⟩)
        | ref a => exact key _ h (Or.inr ⟨rfl, rfl⟩)
        | retAddr a => exact key _ h (Or.inr ⟨rfl, rfl⟩)
    | succ i =>
      match L, h with
      | [], h => exact False.elim h
      | [x], h => exact False.elim h
      | x :: y :: r, h =>
        obtain ⟨L', h1, h2, h3, h4⟩ := ih v (y :: r) (fun q => k (x :: q)) h
        refine ⟨x :: L', h1, by simp [h2], by simp at h3 ⊢; omega, fun j w e hw => ?_⟩
        cases j with
        | zero => right; exact ⟨by omega, e, by omega⟩
        | succ j =>
          rcases h4 j w e hw with ⟨a, b⟩ | ⟨a, b, c⟩
          · left; exact ⟨by omega, b⟩
          · right; exact ⟨by omega, b, fun z => c ⟨by omega, z.2⟩⟩
theorem g_set2_spec : ∀ (i : Nat) (v : Value) (L : List Value) (k : List Value → Prop), g_set2 i v L k → ∃ L', k L' ∧ L'.length = L.length ∧ i + 1 < L.length ∧ ∀ j w, g_at L' j = some w → w ≠ .null → (j = i ∧ w = v) ∨ (j ≠ i ∧ j ≠ i + 1 ∧ g_at L j = some w ∧ ¬ (j + 1 = i ∧ w.category = 2)) := by
  intro i
  induction i with
  | zero =>
    intro v L k h
    match L, h with
    | [], h => exact False.elim h
    | [x], h => exact False.elim h
    | x :: y :: r, h =>
      refine ⟨v :: .null :: r, h, rfl, by simp, fun j w e hw => ?_⟩
      match j, e with
      | 0, e => left; exact ⟨rfl, (Option.some.inj e).symm⟩
      | 1, e => exact absurd (Option.some.inj e).symm hw
      | j + 2, e => right; exact ⟨by omega, by omega, e, by omega⟩
  | succ i ih =>
    intro v L k h
    cases i with
    | zero =>
      match L, h with
      | [], h => exact False.elim h
      | [x], h => exact False.elim h
      | [x, y], h => exact False.elim h
      | x :: y :: z :: r, h =>
        have key : ∀ x', k (x' :: v :: .null :: r) → (x' = .null ∨ (x' = x ∧ x.category = 1)) → ∃ L', k L' ∧ L'.length = (x :: y :: z :: r).length ∧ 0 + 1 + 1 < (x :: y :: z :: r).length ∧ ∀ j w, g_at L' j = some w → w ≠ .null → (j = 0 + 1 ∧ w = v) ∨ (j ≠ 0 + 1 ∧ j ≠ 0 + 1 + 1 ∧ g_at (x :: y :: z :: r) j = some w ∧ ¬ (j + 1 = 0 + 1 ∧ w.category = 2)) := by
          intro x' hk hx
          refine ⟨x' :: v :: .null :: r, hk, rfl, by simp, fun j w e hw => ?_⟩
          match j, e with
          | 0, e =>
            have ew : x' = w := Option.some.inj e
            rcases hx with hx | ⟨hx, hc⟩
            · exact absurd (ew.symm.trans hx) hw
            · right
              rw [← ew, hx]
              exact ⟨by omega, by omega, rfl, fun z => by omega⟩
          | 1, e => left; exact ⟨rfl, (Option.some.inj e).symm⟩
          | 2, e => exact absurd (Option.some.inj e).symm hw
          | j + 3, e => right; exact ⟨by omega, by omega, e, by omega⟩
        cases x with
        | long a => exact key _ h (Or.inl rfl)
        | double a => exact False.elim h
        | int a => exact key _ h (Or.inr ⟨rfl, rfl⟩)
        | float a => exact key _ h (Or.inr ⟨rfl, rfl⟩)
        | null => exact key _ h (Or.inr ⟨rfl, rfl⟩)
        | ref a => exact key _ h (Or.inr ⟨rfl, rfl⟩)
        | retAddr a => exact key _ h (Or.inr ⟨rfl, rfl⟩)
    | succ i =>
      match L, h with
      | [], h => exact False.elim h
      | [x], h => exact False.elim h
      | x :: y :: r, h =>
        obtain ⟨L', h1, h2, h3, h4⟩ := ih v (y :: r) (fun q => k (x :: q)) h
        refine ⟨x :: L', h1, by simp [h2], by simp at h3 ⊢; omega, fun j w e hw => ?_⟩
        cases j with
        | zero => right; exact ⟨by omega, by omega, e, by omega⟩
        | succ j =>
          rcases h4 j w e hw with ⟨a, b⟩ | ⟨a, b, c, d⟩
          · left; exact ⟨by omega, b⟩
          · right; exact ⟨by omega, by omega, c, fun z => d ⟨by omega, z.2⟩⟩
/-- the locals behind a store of one slot, as the kit lists them -/
theorem g_lr.st1 {μ ξ : Nat → Nat} {ls : Array Slot} {n i : Nat} {v : Value} {L L' : List Value} (hl : L.length ≤ n) (hL : L'.length = L.length) (hs : ∀ j w, g_at L' j = some w → w ≠ .null → (j = i ∧ w = v) ∨ (j ≠ i ∧ g_at L j = some w ∧ ¬ (j + 1 = i ∧ w.category = 2)))
    (h : lv_has ls n ((i, g_cv μ ξ v) :: (g_as μ ξ L).filter (fun q => !(q.1 == i) && !(q.1 + 1 == i && q.2.category == 2)))) : g_lr μ ξ ls n L' := by
  refine g_lr.of h (by omega) (fun j w e hw => ?_)
  rcases hs j w e hw with ⟨rfl, rfl⟩ | ⟨a, b, c⟩
  · exact List.mem_cons_self
  · refine List.mem_cons_of_mem _ (List.mem_filter.mpr ⟨g_as_mem.mpr ⟨w, b, hw, rfl⟩, ?_⟩)
    rw [g_cat]
    simp only [Bool.and_eq_true, Bool.not_eq_true', beq_eq_false_iff_ne, ne_eq, Bool.and_eq_false_iff]
    refine ⟨a, ?_⟩
    by_cases z : j + 1 = i
    · right; exact fun z2 => c ⟨z, z2⟩
    · left; exact z
theorem g_lr.st2 {μ ξ : Nat → Nat} {ls : Array Slot} {n i : Nat} {v : Value} {L L' : List Value} (hl : L.length ≤ n) (hL : L'.length = L.length) (hs : ∀ j w, g_at L' j = some w → w ≠ .null → (j = i ∧ w = v) ∨ (j ≠ i ∧ j ≠ i + 1 ∧ g_at L j = some w ∧ ¬ (j + 1 = i ∧ w.category = 2)))
    (h : lv_has ls n ((i, g_cv μ ξ v) :: (g_as μ ξ L).filter (fun q => !(q.1 == i) && (!(q.1 == i + 1) && !(q.1 + 1 == i && q.2.category == 2))))) : g_lr μ ξ ls n L' := by
  refine g_lr.of h (by omega) (fun j w e hw => ?_)
  rcases hs j w e hw with ⟨rfl, rfl⟩ | ⟨a, b, c, d⟩
  · exact List.mem_cons_self
  · refine List.mem_cons_of_mem _ (List.mem_filter.mpr ⟨g_as_mem.mpr ⟨w, c, hw, rfl⟩, ?_⟩)
    rw [g_cat]
    simp only [Bool.and_eq_true, Bool.not_eq_true', beq_eq_false_iff_ne, ne_eq, Bool.and_eq_false_iff]
    refine ⟨a, b, ?_⟩
    by_cases z : j + 1 = i
    · right; exact fun z2 => d ⟨z, z2⟩
    · left; exact z
/-- the locals at a method's entry -/
theorem g_ent_spec : ∀ (as : List Value) (n : Nat) (k : List Value → Prop), g_ent as n k → ∃ L, k L ∧ L.length = n ∧ (lg_sl as).length ≤ n ∧ ∀ (b i : Nat) (w : Value) (μ ξ : Nat → Nat), g_at L i = some w → w ≠ .null → (b + i, g_cv μ ξ w) ∈ lv_args b (as.map (g_cv μ ξ)) := by
  intro as
  induction as with
  | nil =>
    intro n
    induction n with
    | zero => intro k h; exact ⟨[], h, rfl, by simp [lg_sl], fun b i w μ ξ e => by simp [g_at] at e⟩
    | succ n ih =>
      intro k h
      obtain ⟨L, h1, h2, h3, h4⟩ := ih (fun r => k (.null :: r)) h
      refine ⟨.null :: L, h1, by simp [h2], by simp [lg_sl], fun b i w μ ξ e hw => ?_⟩
      cases i with
      | zero => exact absurd (Option.some.inj e).symm hw
      | succ i =>
        have h5 := h4 b i w μ ξ e hw
        simp [lv_args] at h5
  | cons v vs ih =>
    intro n k h
    have one : ∀ (n' : Nat), n = n' + 1 → v.category = 1 → g_ent vs n' (fun r => k (v :: r)) → ∃ L, k L ∧ L.length = n ∧ (lg_sl (v :: vs)).length ≤ n ∧ ∀ (b i : Nat) (w : Value) (μ ξ : Nat → Nat), g_at L i = some w → w ≠ .null → (b + i, g_cv μ ξ w) ∈ lv_args b ((v :: vs).map (g_cv μ ξ)) := by
      intro n' hn hc h
      obtain ⟨L, h1, h2, h3, h4⟩ := ih n' (fun r => k (v :: r)) h
      have e1 : (lg_sl (v :: vs)).length = 1 + (lg_sl vs).length := by simp [lg_sl, hc]; omega
      refine ⟨v :: L, h1, by simp [h2, hn], by omega, fun b i w μ ξ e hw => ?_⟩
      simp only [List.map_cons, lv_args, g_cat, hc]
      cases i with
      | zero =>
        have : v = w := Option.some.inj e
        subst this
        simp
      | succ i =>
        refine List.mem_cons_of_mem _ ?_
        have h5 := h4 (b + 1) i w μ ξ e hw
        rw [show b + (i + 1) = b + 1 + i by omega]
        simpa using h5
    cases v with
    | int x => cases n with
      | zero => exact False.elim h
      | succ n => exact one n rfl rfl h
    | ref x => cases n with
      | zero => exact False.elim h
      | succ n => exact one n rfl rfl h
    | retAddr x => cases n with
      | zero => exact False.elim h
      | succ n => exact one n rfl rfl h
    | long x => match n, h with
      | 0, h => exact False.elim h
      | 1, h => exact False.elim h
      | n + 2, h =>
        obtain ⟨L, h1, h2, h3, h4⟩ := ih n (fun r => k (.long x :: .null :: r)) h
        have e1 : (lg_sl (.long x :: vs)).length = 2 + (lg_sl vs).length := by simp [lg_sl, Value.category]; omega
        refine ⟨.long x :: .null :: L, h1, by simp [h2], by omega, fun b i w μ ξ e hw => ?_⟩
        have hc : (Value.long x).category = 2 := rfl
        simp only [List.map_cons, lv_args, g_cat, hc, if_true]
        match i, e with
        | 0, e =>
          have : Value.long x = w := Option.some.inj e
          subst this
          simp
        | 1, e => exact absurd (Option.some.inj e).symm hw
        | i + 2, e =>
          refine List.mem_cons_of_mem _ ?_
          have h5 := h4 (b + 2) i w μ ξ e hw
          rw [show b + (i + 2) = b + 2 + i by omega]
          exact h5
    | float x => rcases n with _ | _ | n <;> exact False.elim h
    | double x => rcases n with _ | _ | n <;> exact False.elim h
    | null => cases n with
      | zero => exact False.elim h
      | succ n => exact one n rfl rfl h
end
section
/-! ===== contracts of the small machine, and what holds within a method ===== -/
def g_len : List Nat := [4, 5, 3, 4, 0, 8]
def g_byt : List (List Int32) := [[75, 68, 84, 59], [68, 68, 44, 78, 59], [68, 68, 59], [78, 44, 68, 59], [], [112, 107, 115, 103, 109, 110, 104, 100]]
def g_st (i : Nat) : List Int32 := match i with
  | 1 => [40, 0, 5, 0, 0, 300, 1]
  | 2 => [1, 0, 0, 0, 0, 10, 0]
  | _ => [99, 50, 60, 4, 1, 900, 9]
/-- the external arrays: 1, 2, 3 the tables of settings; 20 .. 25 the bytes of the texts -/
def g_x0 : g_X := fun k => cond (Nat.ble 20 k) (cond (Nat.ble 26 k) none (some (g_len.getD (k - 20) 0, fun j => (g_byt.getD (k - 20) []).getD j 0))) (cond (Nat.ble 1 k) (cond (Nat.ble k 3) (some (7, fun j => (g_st k).getD j 0)) none) none)
def g_ext (ξ : Nat → Nat) (A : Nat → Prop) (U : State) (H : Heap) : Prop :=
  va_T .int (ξ 1) 7 (fun j => .int ((g_st 1).getD j 0)) A U H ∧ va_T .int (ξ 2) 7 (fun j => .int ((g_st 2).getD j 0)) A U H ∧ va_T .int (ξ 3) 7 (fun j => .int ((g_st 3).getD j 0)) A U H ∧
  va_Z "InTheGarden" "SETTING_FIRST" "[I" (.ref (ξ 1)) A U H ∧ va_Z "InTheGarden" "SETTING_LEAST" "[I" (.ref (ξ 2)) A U H ∧ va_Z "InTheGarden" "SETTING_MOST" "[I" (.ref (ξ 3)) A U H ∧
  va_Z "java/lang/String" "COMPACT_STRINGS" "Z" (.int 1) A U H ∧ (va_Z "jdk/internal/util/Preconditions" "SIOOBE_FORMATTER" "Ljava/util/function/BiFunction;" .null A U H ∨ va_Z "jdk/internal/util/Preconditions" "SIOOBE_FORMATTER" "Ljava/util/function/BiFunction;" (.ref (ξ 40)) A U H) ∧
  vk_S 6 g_len g_byt (fun i => ξ (10 + i)) (fun i => ξ (20 + i)) A U H ∧
  vk_R "InTheGarden$Reader" 65 "KDT;" (ξ 10) U ∧ vk_R "InTheGarden$Reader" 67 "DD,N;" (ξ 11) U ∧ vk_R "InTheGarden$Reader" 69 "DD;" (ξ 12) U ∧ vk_R "InTheGarden$Reader" 71 "N,D;" (ξ 13) U ∧ vk_R "InTheGarden$Reader" 73 "" (ξ 14) U ∧ vk_R "InTheGarden$Reader" 83 "pksgmnhd" (ξ 15) U ∧
  va_Nw (.methodLinkNest "InTheGarden$Garden" 72 ⟨"InTheGarden", "hasBit", "(II)Z"⟩ "InTheGarden") U ∧ va_Nw (.methodLinkNest "InTheGarden$Round" 104 ⟨"InTheGarden", "hasBit", "(II)Z"⟩ "InTheGarden") U ∧ va_Nw (.methodLinkNest "InTheGarden$Sight" 52 ⟨"InTheGarden", "hasBit", "(II)Z"⟩ "InTheGarden") U ∧ va_Nw (.fieldLinkNest "InTheGarden$Told" 18 "InTheGarden" "SETTING_FIRST" "[I" "InTheGarden") U
theorem g_ext.warm {ξ : Nat → Nat} {A : Nat → Prop} {u U : State} {H : Heap} (hW : u.WarmedH U.vm) (h : g_ext ξ A u H) : g_ext ξ A U H := by
  obtain ⟨h1, h2, h3, h4, h5, h6, h7, h8, h9, r1, r2, r3, r4, r5, r6, n1, n2, n3, n4⟩ := h
  refine ⟨va_T.moved hW.alike h1, va_T.moved hW.alike h2, va_T.moved hW.alike h3, va_Z.moved hW.alike h4, va_Z.moved hW.alike h5, va_Z.moved hW.alike h6, va_Z.moved hW.alike h7, ?_, vk_S.moved hW.alike h9, vk_R.warm hW r1, vk_R.warm hW r2, vk_R.warm hW r3, vk_R.warm hW r4, vk_R.warm hW r5, vk_R.warm hW r6, va_Nw.warmM hW n1, va_Nw.warmM hW n2, va_Nw.warmM hW n3, va_Nw.warmF hW n4⟩
  rcases h8 with h | h
  · exact Or.inl (va_Z.moved hW.alike h)
  · exact Or.inr (va_Z.moved hW.alike h)
theorem g_ext.same {ξ : Nat → Nat} {A : Nat → Prop} {u U : State} {H : Heap} (hv : U.vm = u.vm) (h : g_ext ξ A u H) : g_ext ξ A U H := by
  obtain ⟨h1, h2, h3, h4, h5, h6, h7, h8, h9, r1, r2, r3, r4, r5, r6, n1, n2, n3, n4⟩ := h
  have al : u.vm.Alike U.vm := by rw [hv]; exact Vm.Alike.refl u.vm
  refine ⟨va_T.moved al h1, va_T.moved al h2, va_T.moved al h3, va_Z.moved al h4, va_Z.moved al h5, va_Z.moved al h6, va_Z.moved al h7, ?_, vk_S.moved al h9, vk_R.same hv r1, vk_R.same hv r2, vk_R.same hv r3, vk_R.same hv r4, vk_R.same hv r5, vk_R.same hv r6, va_Nw.same rfl hv.symm n1, va_Nw.same rfl hv.symm n2, va_Nw.same rfl hv.symm n3, va_Nw.same rfl hv.symm n4⟩
  rcases h8 with h | h
  · exact Or.inl (va_Z.moved al h)
  · exact Or.inr (va_Z.moved al h)
theorem g_ext.kept {ξ : Nat → Nat} {A : Nat → Prop} {U : State} {H H1 : Heap} (h : g_ext ξ A U H) (hq : ∀ a : Nat, a < H.size → ¬ A a → H1[a]? = H[a]?) : g_ext ξ A U H1 := by
  obtain ⟨h1, h2, h3, h4, h5, h6, h7, h8, h9, r⟩ := h
  refine ⟨h1.kept hq, h2.kept hq, h3.kept hq, h4.kept hq, h5.kept hq, h6.kept hq, h7.kept hq, ?_, h9.kept hq, r⟩
  rcases h8 with h | h
  · exact Or.inl (h.kept hq)
  · exact Or.inr (h.kept hq)
theorem g_ext.narrow {ξ : Nat → Nat} {A B : Nat → Prop} {U : State} {H : Heap} (h : g_ext ξ A U H) (hAB : ∀ q, B q → A q) : g_ext ξ B U H := by
  obtain ⟨h1, h2, h3, h4, h5, h6, h7, h8, h9, r⟩ := h
  refine ⟨h1.narrow hAB, h2.narrow hAB, h3.narrow hAB, h4.narrow hAB, h5.narrow hAB, h6.narrow hAB, h7.narrow hAB, ?_, h9.narrow hAB, r⟩
  rcases h8 with h | h
  · exact Or.inl (h.narrow hAB)
  · exact Or.inr (h.narrow hAB)
/-- room for d calls one in another, and one frame for what the JDK does by itself -/
def g_rm (d : Nat) : Room := { frames := d + 1, cells := 0, slots := 0, locals := 50 * d + 50 }
abbrev g_MI : Type := Nat → MethodName × ByteArray × Nat × Option FieldType
def g_ws (mi : g_MI) (k : Nat) : List Cond := .code (mi k).1 (mi k).2.1 (mi k).2.2.1 (mi k).2.2.2 :: g_tbl
def g_pre (sh : g_Sh) (D : va_G) (cA : Nat → ClassId) (μ ξ : Nat → Nat) (as : List Value) (M : g_M) (sz : Nat) : Array Value → State → Prop :=
  va_Pc (as.map (g_cv μ ξ)) (fun U => U.heap.size = sz ∧ va_P D g_cls (g_wld cA μ M sh) U.heap ∧ va_K D g_cls (g_tys cA) U ∧ va_D (fun _ => True) (g_wld cA μ M sh) ∧ g_ext ξ (va_A (g_wld cA μ M sh) sz) U U.heap)
def g_post (sh : g_Sh) (D : va_G) (cA : Nat → ClassId) (μ ξ : Nat → Nat) (Q : g_R) (A : Nat → Prop) : Array Value → State → Outcome → State → Prop := fun _ st oc t =>
  (∃ (v : Option Value) (M' : g_M), oc = .returned (v.map (g_cv μ ξ)) ∧ Q v M' ∧ va_P D g_cls (g_wld cA μ M' sh) t.heap ∧ va_K D g_cls (g_tys cA) t ∧ va_D A (g_wld cA μ M' sh)) ∧ va_F A st t
def g_Snd (sh : g_Sh) (mi : g_MI) (l : Launch) (D : va_G) (cA : Nat → ClassId) (μ ξ : Nat → Nat) (cal : g_C) (d : Nat) : Prop :=
  ∀ k as M Q, cal k as M Q → ∃ d', d = d' + 1 ∧ ∀ sz, Met l (mi k).1 (g_ws mi k) (g_rm d') (g_pre sh D cA μ ξ as M sz) (g_post sh D cA μ ξ Q (va_A (g_wld cA μ M sh) sz)) 0 0 (va_A (g_wld cA μ M sh) sz)
def g_Cx (sh : g_Sh) (mi : g_MI) (own : String) (cc : ByteArray) (nL : Nat) (rt : Option FieldType) (p : Program) (l : Launch) (R : Room) (s : State) (m : MethodId) (args : Array Value) (meth : Method) (c : Code) (D : va_G) (cA : Nat → ClassId) (μ ξ : Nat → Nat) (A : Nat → Prop) (d : Nat) (cal : g_C) : Prop :=
  p.tables.exec = Jvm.exec ∧ c.code = cc ∧ c.maxLocals = nL ∧ s.vm.findClass own = some m.cls ∧ (∀ w ∈ g_tbl, w.before args s = true) ∧ meth.sig.returnType = rt ∧ meth.locks = false ∧ va_K D g_cls (g_tys cA) s ∧ (∀ q, s.heap.size ≤ q → A q) ∧ g_ext ξ A s s.heap ∧ R = g_rm d ∧ g_Snd sh mi l D cA μ ξ cal d
/-- the machine comes to the method's end from each state that K allows -/
def g_Wk (sh : g_Sh) (nL : Nat) (p : Program) (l : Launch) (e : Env) (R : Room) (s : State) (m : MethodId) (args : Array Value) (below : List Frame) (meth : Method) (c : Code) (D : va_G) (cA : Nat → ClassId) (μ ξ : Nat → Nat) (A : Nat → Prop) (Q : g_R) (pc : Nat) (P : List Value → List Value → g_M → Prop) : Prop :=
  ∀ (L st : List Value) (M : g_M) (H : Heap) (locs : List Loc) (ls : Array Slot), P L st M → va_P D g_cls (g_wld cA μ M sh) H → va_D A (g_wld cA μ M sh) → va_S A s.heap H locs → g_lr μ ξ ls nL L →
    W p l e R s m args below meth c H locs 0 0 (MQ below (g_post sh D cA μ ξ Q A) args s 0 0 A) (F0 m pc ls (st.map (g_cv μ ξ)))
def g_ok (sh : g_Sh) (mi : g_MI) (own : String) (cc : ByteArray) (nL : Nat) (rt : Option FieldType) (pc : Nat) (op : g_Op) : Prop :=
  g_mono op ∧ ∀ (p : Program) (l : Launch) (e : Env) (R : Room) (s : State) (m : MethodId) (args : Array Value) (below : List Frame) (meth : Method) (c : Code) (D : va_G) (cA : Nat → ClassId) (μ ξ : Nat → Nat) (A : Nat → Prop) (d : Nat) (cal : g_C) (Q : g_R) (K : g_K),
    g_Cx sh mi own cc nL rt p l R s m args meth c D cA μ ξ A d cal → (∀ pc, g_Wk sh nL p l e R s m args below meth c D cA μ ξ A Q pc (K pc)) → g_Wk sh nL p l e R s m args below meth c D cA μ ξ A Q pc (op cal K Q)
def g_tok (sh : g_Sh) (mi : g_MI) (own : String) (cc : ByteArray) (nL : Nat) (rt : Option FieldType) (tb : Nat → Option g_Op) : Prop := ∀ pc op, tb pc = some op → g_ok sh mi own cc nL rt pc op
theorem g_tok.node {sh : g_Sh} {mi : g_MI} {own : String} {cc : ByteArray} {nL : Nat} {rt : Option FieldType} {n : Nat} {f g : Nat → Option g_Op} (hf : g_tok sh mi own cc nL rt f) (hg : g_tok sh mi own cc nL rt g) : g_tok sh mi own cc nL rt (g_node n f g) := by
  intro pc op h
  unfold g_node at h
  cases e : Nat.ble n pc with
  | true => rw [e] at h; exact hg pc op h
  | false => rw [e] at h; exact hf pc op h
theorem g_tok.leaf {sh : g_Sh} {mi : g_MI} {own : String} {cc : ByteArray} {nL : Nat} {rt : Option FieldType} {q : Nat} {op : g_Op} (h : g_ok sh mi own cc nL rt q op) : g_tok sh mi own cc nL rt (g_leaf q op) := by
  intro pc op' h'
  unfold g_leaf at h'
  cases e : Nat.beq pc q with
  | true =>
    rw [e] at h'
    have e1 : pc = q := Nat.eq_of_beq_eq_true e
    have e2 : op = op' := Option.some.inj h'
    rw [e1, ← e2]
    exact h
  | false => rw [e] at h'; cases h'
theorem g_tok.mono {sh : g_Sh} {mi : g_MI} {own : String} {cc : ByteArray} {nL : Nat} {rt : Option FieldType} {tb : Nat → Option g_Op} (h : g_tok sh mi own cc nL rt tb) : g_tbm tb := fun pc op e => (h pc op e).1
/-- a method's body: from its run, its contract -/
theorem g_body {sh : g_Sh} {mi : g_MI} {own : String} {cc : ByteArray} {nL : Nat} {rt : Option FieldType} {tb : Nat → Option g_Op} (ht : g_tok sh mi own cc nL rt tb)
    {p : Program} {l : Launch} {e : Env} {R : Room} {s : State} {m : MethodId} {args : Array Value} {below : List Frame} {meth : Method} {c : Code} {D : va_G} {cA : Nat → ClassId} {μ ξ : Nat → Nat} {A : Nat → Prop} {d : Nat} {cal : g_C} {Q : g_R}
    (C : g_Cx sh mi own cc nL rt p l R s m args meth c D cA μ ξ A d cal) (pc : Nat) : g_Wk sh nL p l e R s m args below meth c D cA μ ξ A Q pc (g_Run cal tb Q pc) := by
  intro L st M H locs ls h hP hD hS hl
  refine h (fun pc L st M => ∀ (H : Heap) (locs : List Loc) (ls : Array Slot), va_P D g_cls (g_wld cA μ M sh) H → va_D A (g_wld cA μ M sh) → va_S A s.heap H locs → g_lr μ ξ ls nL L → W p l e R s m args below meth c H locs 0 0 (MQ below (g_post sh D cA μ ξ Q A) args s 0 0 A) (F0 m pc ls (st.map (g_cv μ ξ)))) ?_ H locs ls hP hD hS hl
  intro pc L st M h
  unfold g_F at h
  cases e1 : tb pc with
  | none => rw [e1] at h; exact False.elim h
  | some op =>
    rw [e1] at h
    intro H locs ls hP hD hS hl
    exact (ht pc op e1).2 p l e R s m args below meth c D cA μ ξ A d cal Q _ C (fun pc L st M H locs ls hk hP hD hS hl => hk H locs ls hP hD hS hl) L st M H locs ls h hP hD hS hl
/-- the whole program: every method's table keeps to its code -/
def g_prog (sh : g_Sh) (mi : g_MI) (mt : Nat → Nat → Option g_Op) (nl : Nat → Nat) : Prop :=
  ∀ k, g_tok sh mi (mi k).1.cls (mi k).2.1 (mi k).2.2.1 (mi k).2.2.2 (mt k) ∧ nl k = (mi k).2.2.1 ∧ plainName (mi k).1.cls = true
theorem g_prog.mono {sh : g_Sh} {mi : g_MI} {mt : Nat → Nat → Option g_Op} {nl : Nat → Nat} (h : g_prog sh mi mt nl) : ∀ k, g_tbm (mt k) := fun k => (h k).1.mono
theorem g_sound {sh : g_Sh} {mi : g_MI} {mt : Nat → Nat → Option g_Op} {nl : Nat → Nat} (hp : g_prog sh mi mt nl) (l : Launch) (D : va_G) (cA : Nat → ClassId) (μ ξ : Nat → Nat) : ∀ d, g_Snd sh mi l D cA μ ξ (g_Cal mt nl d) d := by
  intro d
  induction d with
  | zero => intro k as M Q h; exact False.elim h
  | succ d ih =>
    intro k as M Q h
    refine ⟨d, rfl, fun sz => ?_⟩
    obtain ⟨ht, hn, hpl⟩ := hp k
    refine Met.ofW (cc := (mi k).2.1) (maxL := (mi k).2.2.1) (ret := (mi k).2.2.2) hpl rfl ?_
    intro p e s m args below meth c s₁ B hml hv
    obtain ⟨rfl, hsz, hP, hK, hD0, hE⟩ := hv
    have hts := atoms_spec (ws := g_ws mi k) B.pre
    subst hsz
    have hD := hD0.self (sz := s.heap.size)
    obtain ⟨L, h1, h2, h3, h4⟩ := g_ent_spec as (nl k) _ h
    rw [lg_entry_eq]
    have h3' : (lg_sl (as.map (g_cv μ ξ))).length ≤ (mi k).2.2.1 := by
      have e1 : ∀ vs : List Value, (lg_sl (vs.map (g_cv μ ξ))).length = (lg_sl vs).length := by
        intro vs
        induction vs with
        | nil => rfl
        | cons v vs ih =>
          simp only [lg_sl, List.map_cons, List.flatMap_cons, List.length_append] at ih ⊢
          rw [ih, g_cat]
          split <;> rfl
      rw [e1, ← hn]; exact h3
    have hl := lv_entry (as.map (g_cv μ ξ)) (n := (mi k).2.2.1) h3'
    have hlr : g_lr μ ξ _ (mi k).2.2.1 L := g_lr.of hl (by omega) (fun i v e hv => by have := h4 0 i v μ ξ e hv; rwa [Nat.zero_add] at this)
    exact g_body ht (d := d) (cal := g_Cal mt nl d) ⟨B.exec, B.bytes, hml, findClass_of_methodNamed B.named, fun w hw => hts w (List.mem_cons_of_mem _ hw), B.returns, B.notSynchronized, hK, fun q h => Or.inr h, hE, rfl, ih⟩ 0 L [] M s.heap [] _ h1 hP hD va_S.rf hlr
end
section
/-! ===== each op keeps to its instruction ===== -/
theorem ok_iconst {sh : g_Sh} {mi : g_MI} {own : String} {cc : ByteArray} {nL : Nat} {rt : Option FieldType} {pc : Nat} {n : Int} {v : Int32} (hd : decode cc pc = .ok (.iconst n, 1)) (hv : Int32.ofInt n = v) : g_ok sh mi own cc nL rt pc (o_push (.int v) (pc + 1)) := by
  refine ⟨?_, ?_⟩
  · intro cal P P' Q Q' L st M hc hP hQ h
    unfold o_push at h ⊢
    exact hP _ _ _ _ h
  · intro p l e R s m args below meth c D cA μ ξ A d cal Q K C hK L st M H locs ls h hP hD hS hl
    obtain ⟨hx, hb, hml, hown, hts, hr, hlk, hKk, hA, hE, rfl, hSn⟩ := C
    unfold o_push at h
    exact lv_iconst hx hb hd hv (hK _ _ _ _ _ _ _ (h) hP hD hS hl)
theorem ok_bipush {sh : g_Sh} {mi : g_MI} {own : String} {cc : ByteArray} {nL : Nat} {rt : Option FieldType} {pc : Nat} {n : Int} {v : Int32} (hd : decode cc pc = .ok (.bipush n, 2)) (hv : (Int8.ofInt n).toInt32 = v) : g_ok sh mi own cc nL rt pc (o_push (.int v) (pc + 2)) := by
  refine ⟨?_, ?_⟩
  · intro cal P P' Q Q' L st M hc hP hQ h
    unfold o_push at h ⊢
    exact hP _ _ _ _ h
  · intro p l e R s m args below meth c D cA μ ξ A d cal Q K C hK L st M H locs ls h hP hD hS hl
    obtain ⟨hx, hb, hml, hown, hts, hr, hlk, hKk, hA, hE, rfl, hSn⟩ := C
    unfold o_push at h
    exact lv_bipush hx hb hd hv (hK _ _ _ _ _ _ _ (h) hP hD hS hl)
theorem ok_sipush {sh : g_Sh} {mi : g_MI} {own : String} {cc : ByteArray} {nL : Nat} {rt : Option FieldType} {pc : Nat} {n : Int} {v : Int32} (hd : decode cc pc = .ok (.sipush n, 3)) (hv : (Int16.ofInt n).toInt32 = v) : g_ok sh mi own cc nL rt pc (o_push (.int v) (pc + 3)) := by
  refine ⟨?_, ?_⟩
  · intro cal P P' Q Q' L st M hc hP hQ h
    unfold o_push at h ⊢
    exact hP _ _ _ _ h
  · intro p l e R s m args below meth c D cA μ ξ A d cal Q K C hK L st M H locs ls h hP hD hS hl
    obtain ⟨hx, hb, hml, hown, hts, hr, hlk, hKk, hA, hE, rfl, hSn⟩ := C
    unfold o_push at h
    exact lv_sipush hx hb hd hv (hK _ _ _ _ _ _ _ (h) hP hD hS hl)
theorem ok_ldc {sh : g_Sh} {mi : g_MI} {own : String} {cc : ByteArray} {nL : Nat} {rt : Option FieldType} {pc : Nat} {i : Nat} {v : Int32} (hd : decode cc pc = .ok (.ldc i, 2)) (hw : Cond.constant own i v ∈ g_tbl) : g_ok sh mi own cc nL rt pc (o_push (.int v) (pc + 2)) := by
  refine ⟨?_, ?_⟩
  · intro cal P P' Q Q' L st M hc hP hQ h
    unfold o_push at h ⊢
    exact hP _ _ _ _ h
  · intro p l e R s m args below meth c D cA μ ξ A d cal Q K C hK L st M H locs ls h hP hD hS hl
    obtain ⟨hx, hb, hml, hown, hts, hr, hlk, hKk, hA, hE, rfl, hSn⟩ := C
    unfold o_push at h
    exact lv_ldc hx hb hown (hts _ hw) hd (hK _ _ _ _ _ _ _ (h) hP hD hS hl)
theorem ok_ldc2 {sh : g_Sh} {mi : g_MI} {own : String} {cc : ByteArray} {nL : Nat} {rt : Option FieldType} {pc : Nat} {i : Nat} {v : Int64} (hd : decode cc pc = .ok (.ldc2_w i, 3)) (hw : Cond.constantLong own i v ∈ g_tbl) : g_ok sh mi own cc nL rt pc (o_push (.long v) (pc + 3)) := by
  refine ⟨?_, ?_⟩
  · intro cal P P' Q Q' L st M hc hP hQ h
    unfold o_push at h ⊢
    exact hP _ _ _ _ h
  · intro p l e R s m args below meth c D cA μ ξ A d cal Q K C hK L st M H locs ls h hP hD hS hl
    obtain ⟨hx, hb, hml, hown, hts, hr, hlk, hKk, hA, hE, rfl, hSn⟩ := C
    unfold o_push at h
    exact lv_ldc2 hx hb hown (hts _ hw) hd (hK _ _ _ _ _ _ _ (h) hP hD hS hl)
theorem ok_iload_n {sh : g_Sh} {mi : g_MI} {own : String} {cc : ByteArray} {nL : Nat} {rt : Option FieldType} {pc : Nat} {k : Fin 4} {i : Nat} (hd : decode cc pc = .ok (.iload_n k, 1)) (hi : (k : Nat) = i) : g_ok sh mi own cc nL rt pc (o_iload i (pc + 1)) := by
  refine ⟨?_, ?_⟩
  · intro cal P P' Q Q' L st M hc hP hQ h
    unfold o_iload at h ⊢
    split at h
    · exact hP _ _ _ _ h
    · exact h.elim
  · intro p l e R s m args below meth c D cA μ ξ A d cal Q K C hK L st M H locs ls h hP hD hS hl
    obtain ⟨hx, hb, hml, hown, hts, hr, hlk, hKk, hA, hE, rfl, hSn⟩ := C
    unfold o_iload at h
    split at h
    · rename_i x e
      exact lv_iload_n hx hb hd hi (hl.2.2.2 _ _ e (by simp)) (hK _ _ _ _ _ _ _ (h) hP hD hS hl)
    · exact h.elim
theorem ok_iload {sh : g_Sh} {mi : g_MI} {own : String} {cc : ByteArray} {nL : Nat} {rt : Option FieldType} {pc : Nat} {i : Nat} (hd : decode cc pc = .ok (.iload i, 2)) : g_ok sh mi own cc nL rt pc (o_iload i (pc + 2)) := by
  refine ⟨?_, ?_⟩
  · intro cal P P' Q Q' L st M hc hP hQ h
    unfold o_iload at h ⊢
    split at h
    · exact hP _ _ _ _ h
    · exact h.elim
  · intro p l e R s m args below meth c D cA μ ξ A d cal Q K C hK L st M H locs ls h hP hD hS hl
    obtain ⟨hx, hb, hml, hown, hts, hr, hlk, hKk, hA, hE, rfl, hSn⟩ := C
    unfold o_iload at h
    split at h
    · rename_i x e
      exact lv_iload hx hb hd (hl.2.2.2 _ _ e (by simp)) (hK _ _ _ _ _ _ _ (h) hP hD hS hl)
    · exact h.elim
theorem ok_lload_n {sh : g_Sh} {mi : g_MI} {own : String} {cc : ByteArray} {nL : Nat} {rt : Option FieldType} {pc : Nat} {k : Fin 4} {i : Nat} (hd : decode cc pc = .ok (.lload_n k, 1)) (hi : (k : Nat) = i) : g_ok sh mi own cc nL rt pc (o_lload i (pc + 1)) := by
  refine ⟨?_, ?_⟩
  · intro cal P P' Q Q' L st M hc hP hQ h
    unfold o_lload at h ⊢
    split at h
    · exact hP _ _ _ _ h
    · exact h.elim
  · intro p l e R s m args below meth c D cA μ ξ A d cal Q K C hK L st M H locs ls h hP hD hS hl
    obtain ⟨hx, hb, hml, hown, hts, hr, hlk, hKk, hA, hE, rfl, hSn⟩ := C
    unfold o_lload at h
    split at h
    · rename_i x e
      exact lv_lload_n hx hb hd hi (hl.2.2.2 _ _ e (by simp)) (hK _ _ _ _ _ _ _ (h) hP hD hS hl)
    · exact h.elim
theorem ok_lload {sh : g_Sh} {mi : g_MI} {own : String} {cc : ByteArray} {nL : Nat} {rt : Option FieldType} {pc : Nat} {i : Nat} (hd : decode cc pc = .ok (.lload i, 2)) : g_ok sh mi own cc nL rt pc (o_lload i (pc + 2)) := by
  refine ⟨?_, ?_⟩
  · intro cal P P' Q Q' L st M hc hP hQ h
    unfold o_lload at h ⊢
    split at h
    · exact hP _ _ _ _ h
    · exact h.elim
  · intro p l e R s m args below meth c D cA μ ξ A d cal Q K C hK L st M H locs ls h hP hD hS hl
    obtain ⟨hx, hb, hml, hown, hts, hr, hlk, hKk, hA, hE, rfl, hSn⟩ := C
    unfold o_lload at h
    split at h
    · rename_i x e
      exact lv_lload hx hb hd (hl.2.2.2 _ _ e (by simp)) (hK _ _ _ _ _ _ _ (h) hP hD hS hl)
    · exact h.elim
theorem ok_aload_n {sh : g_Sh} {mi : g_MI} {own : String} {cc : ByteArray} {nL : Nat} {rt : Option FieldType} {pc : Nat} {k : Fin 4} {i : Nat} (hd : decode cc pc = .ok (.aload_n k, 1)) (hi : (k : Nat) = i) : g_ok sh mi own cc nL rt pc (o_aload i (pc + 1)) := by
  refine ⟨?_, ?_⟩
  · intro cal P P' Q Q' L st M hc hP hQ h
    unfold o_aload at h ⊢
    split at h
    · exact hP _ _ _ _ h
    · exact hP _ _ _ _ h
    · exact h.elim
  · intro p l e R s m args below meth c D cA μ ξ A d cal Q K C hK L st M H locs ls h hP hD hS hl
    obtain ⟨hx, hb, hml, hown, hts, hr, hlk, hKk, hA, hE, rfl, hSn⟩ := C
    unfold o_aload at h
    split at h
    · rename_i x e
      exact lv_aload_n hx hb hd hi (hl.2.2.2 _ _ e (by simp)) (hK _ _ _ _ _ _ _ (h) hP hD hS hl)
    · rename_i x e
      exact lv_aload_n hx hb hd hi (hl.2.2.2 _ _ e (by simp)) (hK _ _ _ _ _ _ _ (h) hP hD hS hl)
    · exact h.elim
theorem ok_aload {sh : g_Sh} {mi : g_MI} {own : String} {cc : ByteArray} {nL : Nat} {rt : Option FieldType} {pc : Nat} {i : Nat} (hd : decode cc pc = .ok (.aload i, 2)) : g_ok sh mi own cc nL rt pc (o_aload i (pc + 2)) := by
  refine ⟨?_, ?_⟩
  · intro cal P P' Q Q' L st M hc hP hQ h
    unfold o_aload at h ⊢
    split at h
    · exact hP _ _ _ _ h
    · exact hP _ _ _ _ h
    · exact h.elim
  · intro p l e R s m args below meth c D cA μ ξ A d cal Q K C hK L st M H locs ls h hP hD hS hl
    obtain ⟨hx, hb, hml, hown, hts, hr, hlk, hKk, hA, hE, rfl, hSn⟩ := C
    unfold o_aload at h
    split at h
    · rename_i x e
      exact lv_aload hx hb hd (hl.2.2.2 _ _ e (by simp)) (hK _ _ _ _ _ _ _ (h) hP hD hS hl)
    · rename_i x e
      exact lv_aload hx hb hd (hl.2.2.2 _ _ e (by simp)) (hK _ _ _ _ _ _ _ (h) hP hD hS hl)
    · exact h.elim
theorem g_set_mono {i : Nat} {v : Value} {L : List Value} {k k' : List Value → Prop} (hk : ∀ q, k q → k' q) (h : g_set i v L k) : g_set i v L k' := by
  induction i generalizing L k k' with
  | zero => cases L with
    | nil => exact h
    | cons x r => exact hk _ h
  | succ i ih => cases i with
    | zero => match L, h with
      | [], h => exact h
      | [x], h => exact h
      | x :: y :: r, h => cases x <;> first | exact hk _ h | exact h
    | succ i => match L, h with
      | [], h => exact h
      | [x], h => exact h
      | x :: y :: r, h => exact ih (fun q => hk (x :: q)) h
theorem g_set2_mono {i : Nat} {v : Value} {L : List Value} {k k' : List Value → Prop} (hk : ∀ q, k q → k' q) (h : g_set2 i v L k) : g_set2 i v L k' := by
  induction i generalizing L k k' with
  | zero => match L, h with
    | [], h => exact h
    | [x], h => exact h
    | x :: y :: r, h => exact hk _ h
  | succ i ih => cases i with
    | zero => match L, h with
      | [], h => exact h
      | [x], h => exact h
      | [x, y], h => exact h
      | x :: y :: z :: r, h => cases x <;> first | exact hk _ h | exact h
    | succ i => match L, h with
      | [], h => exact h
      | [x], h => exact h
      | x :: y :: r, h => exact ih (fun q => hk (x :: q)) h
theorem ok_istore_n {sh : g_Sh} {mi : g_MI} {own : String} {cc : ByteArray} {nL : Nat} {rt : Option FieldType} {pc : Nat} {k : Fin 4} {i : Nat} (hd : decode cc pc = .ok (.istore_n k, 1)) (hi : (k : Nat) = i) : g_ok sh mi own cc nL rt pc (o_istore i (pc + 1)) := by
  refine ⟨?_, ?_⟩
  · intro cal P P' Q Q' L st M hc hP hQ h
    unfold o_istore at h ⊢
    split at h
    · exact g_set_mono (fun q => hP _ _ _ _) h
    · exact h.elim
  · intro p l e R s m args below meth c D cA μ ξ A d cal Q K C hK L st M H locs ls h hP hD hS hl
    obtain ⟨hx, hb, hml, hown, hts, hr, hlk, hKk, hA, hE, rfl, hSn⟩ := C
    unfold o_istore at h
    split at h
    · obtain ⟨L', h1, h2, h3, h4⟩ := g_set_spec _ _ _ _ h
      exact lv_istore_n hx hb hd hi hl.has (by have := hl.2.2.1; omega) rfl (fun ls' hl' => hK _ _ _ _ _ _ _ h1 hP hD hS (g_lr.st1 hl.2.2.1 h2 h4 hl'))
    · exact h.elim
theorem ok_istore {sh : g_Sh} {mi : g_MI} {own : String} {cc : ByteArray} {nL : Nat} {rt : Option FieldType} {pc : Nat} {i : Nat} (hd : decode cc pc = .ok (.istore i, 2)) : g_ok sh mi own cc nL rt pc (o_istore i (pc + 2)) := by
  refine ⟨?_, ?_⟩
  · intro cal P P' Q Q' L st M hc hP hQ h
    unfold o_istore at h ⊢
    split at h
    · exact g_set_mono (fun q => hP _ _ _ _) h
    · exact h.elim
  · intro p l e R s m args below meth c D cA μ ξ A d cal Q K C hK L st M H locs ls h hP hD hS hl
    obtain ⟨hx, hb, hml, hown, hts, hr, hlk, hKk, hA, hE, rfl, hSn⟩ := C
    unfold o_istore at h
    split at h
    · obtain ⟨L', h1, h2, h3, h4⟩ := g_set_spec _ _ _ _ h
      exact lv_istore hx hb hd  hl.has (by have := hl.2.2.1; omega) rfl (fun ls' hl' => hK _ _ _ _ _ _ _ h1 hP hD hS (g_lr.st1 hl.2.2.1 h2 h4 hl'))
    · exact h.elim
theorem ok_astore_n {sh : g_Sh} {mi : g_MI} {own : String} {cc : ByteArray} {nL : Nat} {rt : Option FieldType} {pc : Nat} {k : Fin 4} {i : Nat} (hd : decode cc pc = .ok (.astore_n k, 1)) (hi : (k : Nat) = i) : g_ok sh mi own cc nL rt pc (o_astore i (pc + 1)) := by
  refine ⟨?_, ?_⟩
  · intro cal P P' Q Q' L st M hc hP hQ h
    unfold o_astore at h ⊢
    split at h
    · exact g_set_mono (fun q => hP _ _ _ _) h
    · exact g_set_mono (fun q => hP _ _ _ _) h
    · exact h.elim
  · intro p l e R s m args below meth c D cA μ ξ A d cal Q K C hK L st M H locs ls h hP hD hS hl
    obtain ⟨hx, hb, hml, hown, hts, hr, hlk, hKk, hA, hE, rfl, hSn⟩ := C
    unfold o_astore at h
    split at h
    · obtain ⟨L', h1, h2, h3, h4⟩ := g_set_spec _ _ _ _ h
      exact lv_astore_n hx hb hd hi hl.has (by have := hl.2.2.1; omega) rfl (fun ls' hl' => hK _ _ _ _ _ _ _ h1 hP hD hS (g_lr.st1 hl.2.2.1 h2 h4 hl'))
    · obtain ⟨L', h1, h2, h3, h4⟩ := g_set_spec _ _ _ _ h
      exact lv_astore_n hx hb hd hi hl.has (by have := hl.2.2.1; omega) rfl (fun ls' hl' => hK _ _ _ _ _ _ _ h1 hP hD hS (g_lr.st1 hl.2.2.1 h2 h4 hl'))
    · exact h.elim
theorem ok_astore {sh : g_Sh} {mi : g_MI} {own : String} {cc : ByteArray} {nL : Nat} {rt : Option FieldType} {pc : Nat} {i : Nat} (hd : decode cc pc = .ok (.astore i, 2)) : g_ok sh mi own cc nL rt pc (o_astore i (pc + 2)) := by
  refine ⟨?_, ?_⟩
  · intro cal P P' Q Q' L st M hc hP hQ h
    unfold o_astore at h ⊢
    split at h
    · exact g_set_mono (fun q => hP _ _ _ _) h
    · exact g_set_mono (fun q => hP _ _ _ _) h
    · exact h.elim
  · intro p l e R s m args below meth c D cA μ ξ A d cal Q K C hK L st M H locs ls h hP hD hS hl
    obtain ⟨hx, hb, hml, hown, hts, hr, hlk, hKk, hA, hE, rfl, hSn⟩ := C
    unfold o_astore at h
    split at h
    · obtain ⟨L', h1, h2, h3, h4⟩ := g_set_spec _ _ _ _ h
      exact lv_astore hx hb hd  hl.has (by have := hl.2.2.1; omega) rfl (fun ls' hl' => hK _ _ _ _ _ _ _ h1 hP hD hS (g_lr.st1 hl.2.2.1 h2 h4 hl'))
    · obtain ⟨L', h1, h2, h3, h4⟩ := g_set_spec _ _ _ _ h
      exact lv_astore hx hb hd  hl.has (by have := hl.2.2.1; omega) rfl (fun ls' hl' => hK _ _ _ _ _ _ _ h1 hP hD hS (g_lr.st1 hl.2.2.1 h2 h4 hl'))
    · exact h.elim
theorem ok_lstore_n {sh : g_Sh} {mi : g_MI} {own : String} {cc : ByteArray} {nL : Nat} {rt : Option FieldType} {pc : Nat} {k : Fin 4} {i : Nat} (hd : decode cc pc = .ok (.lstore_n k, 1)) (hi : (k : Nat) = i) : g_ok sh mi own cc nL rt pc (o_lstore i (pc + 1)) := by
  refine ⟨?_, ?_⟩
  · intro cal P P' Q Q' L st M hc hP hQ h
    unfold o_lstore at h ⊢
    split at h
    · exact g_set2_mono (fun q => hP _ _ _ _) h
    · exact h.elim
  · intro p l e R s m args below meth c D cA μ ξ A d cal Q K C hK L st M H locs ls h hP hD hS hl
    obtain ⟨hx, hb, hml, hown, hts, hr, hlk, hKk, hA, hE, rfl, hSn⟩ := C
    unfold o_lstore at h
    split at h
    · obtain ⟨L', h1, h2, h3, h4⟩ := g_set2_spec _ _ _ _ h
      exact lv_lstore_n hx hb hd hi hl.has (by have := hl.2.2.1; omega) rfl (fun ls' hl' => hK _ _ _ _ _ _ _ h1 hP hD hS (g_lr.st2 hl.2.2.1 h2 h4 hl'))
    · exact h.elim
theorem ok_lstore {sh : g_Sh} {mi : g_MI} {own : String} {cc : ByteArray} {nL : Nat} {rt : Option FieldType} {pc : Nat} {i : Nat} (hd : decode cc pc = .ok (.lstore i, 2)) : g_ok sh mi own cc nL rt pc (o_lstore i (pc + 2)) := by
  refine ⟨?_, ?_⟩
  · intro cal P P' Q Q' L st M hc hP hQ h
    unfold o_lstore at h ⊢
    split at h
    · exact g_set2_mono (fun q => hP _ _ _ _) h
    · exact h.elim
  · intro p l e R s m args below meth c D cA μ ξ A d cal Q K C hK L st M H locs ls h hP hD hS hl
    obtain ⟨hx, hb, hml, hown, hts, hr, hlk, hKk, hA, hE, rfl, hSn⟩ := C
    unfold o_lstore at h
    split at h
    · obtain ⟨L', h1, h2, h3, h4⟩ := g_set2_spec _ _ _ _ h
      exact lv_lstore hx hb hd  hl.has (by have := hl.2.2.1; omega) rfl (fun ls' hl' => hK _ _ _ _ _ _ _ h1 hP hD hS (g_lr.st2 hl.2.2.1 h2 h4 hl'))
    · exact h.elim
theorem ok_iinc {sh : g_Sh} {mi : g_MI} {own : String} {cc : ByteArray} {nL : Nat} {rt : Option FieldType} {pc : Nat} {i : Nat} {n : Int} {v : Int32} (hd : decode cc pc = .ok (.iinc i n, 3)) (hv : Int32.ofInt n = v) : g_ok sh mi own cc nL rt pc (o_iinc i v (pc + 3)) := by
  refine ⟨?_, ?_⟩
  · intro cal P P' Q Q' L st M hc hP hQ h
    unfold o_iinc at h ⊢
    split at h
    · exact g_set_mono (fun q => hP _ _ _ _) h
    · exact h.elim
  · intro p l e R s m args below meth c D cA μ ξ A d cal Q K C hK L st M H locs ls h hP hD hS hl
    obtain ⟨hx, hb, hml, hown, hts, hr, hlk, hKk, hA, hE, rfl, hSn⟩ := C
    unfold o_iinc at h
    split at h
    · rename_i x e
      subst hv
      obtain ⟨L', h1, h2, h3, h4⟩ := g_set_spec _ _ _ _ h
      obtain ⟨k, hk⟩ := List.getElem?_of_mem (g_as_mem (μ := μ) (ξ := ξ).mpr ⟨_, e, by simp, rfl⟩)
      exact lv_iinc hx hb hd hl.has hk rfl (by have := hl.2.2.1; omega) rfl (fun ls' hl' => hK _ _ _ _ _ _ _ h1 hP hD hS (g_lr.st1 hl.2.2.1 h2 h4 hl'))
    · exact h.elim
theorem ok_iadd {sh : g_Sh} {mi : g_MI} {own : String} {cc : ByteArray} {nL : Nat} {rt : Option FieldType} {pc : Nat} (hd : decode cc pc = .ok (.iadd, 1)) : g_ok sh mi own cc nL rt pc (o_iadd (pc + 1)) := by
  refine ⟨?_, ?_⟩
  · intro cal P P' Q Q' L st M hc hP hQ h
    unfold o_iadd at h ⊢
    split at h
    · exact hP _ _ _ _ h
    · exact h.elim
  · intro p l e R s m args below meth c D cA μ ξ A d cal Q K C hK L st M H locs ls h hP hD hS hl
    obtain ⟨hx, hb, hml, hown, hts, hr, hlk, hKk, hA, hE, rfl, hSn⟩ := C
    unfold o_iadd at h
    split at h
    · exact lv_iadd hx hb hd (hK _ _ _ _ _ _ _ (h) hP hD hS hl)
    · exact h.elim
theorem ok_isub {sh : g_Sh} {mi : g_MI} {own : String} {cc : ByteArray} {nL : Nat} {rt : Option FieldType} {pc : Nat} (hd : decode cc pc = .ok (.isub, 1)) : g_ok sh mi own cc nL rt pc (o_isub (pc + 1)) := by
  refine ⟨?_, ?_⟩
  · intro cal P P' Q Q' L st M hc hP hQ h
    unfold o_isub at h ⊢
    split at h
    · exact hP _ _ _ _ h
    · exact h.elim
  · intro p l e R s m args below meth c D cA μ ξ A d cal Q K C hK L st M H locs ls h hP hD hS hl
    obtain ⟨hx, hb, hml, hown, hts, hr, hlk, hKk, hA, hE, rfl, hSn⟩ := C
    unfold o_isub at h
    split at h
    · exact lv_isub hx hb hd (hK _ _ _ _ _ _ _ (h) hP hD hS hl)
    · exact h.elim
theorem ok_imul {sh : g_Sh} {mi : g_MI} {own : String} {cc : ByteArray} {nL : Nat} {rt : Option FieldType} {pc : Nat} (hd : decode cc pc = .ok (.imul, 1)) : g_ok sh mi own cc nL rt pc (o_imul (pc + 1)) := by
  refine ⟨?_, ?_⟩
  · intro cal P P' Q Q' L st M hc hP hQ h
    unfold o_imul at h ⊢
    split at h
    · exact hP _ _ _ _ h
    · exact h.elim
  · intro p l e R s m args below meth c D cA μ ξ A d cal Q K C hK L st M H locs ls h hP hD hS hl
    obtain ⟨hx, hb, hml, hown, hts, hr, hlk, hKk, hA, hE, rfl, hSn⟩ := C
    unfold o_imul at h
    split at h
    · exact lv_imul hx hb hd (hK _ _ _ _ _ _ _ (h) hP hD hS hl)
    · exact h.elim
theorem ok_iand {sh : g_Sh} {mi : g_MI} {own : String} {cc : ByteArray} {nL : Nat} {rt : Option FieldType} {pc : Nat} (hd : decode cc pc = .ok (.iand, 1)) : g_ok sh mi own cc nL rt pc (o_iand (pc + 1)) := by
  refine ⟨?_, ?_⟩
  · intro cal P P' Q Q' L st M hc hP hQ h
    unfold o_iand at h ⊢
    split at h
    · exact hP _ _ _ _ h
    · exact h.elim
  · intro p l e R s m args below meth c D cA μ ξ A d cal Q K C hK L st M H locs ls h hP hD hS hl
    obtain ⟨hx, hb, hml, hown, hts, hr, hlk, hKk, hA, hE, rfl, hSn⟩ := C
    unfold o_iand at h
    split at h
    · exact lv_iand hx hb hd (hK _ _ _ _ _ _ _ (h) hP hD hS hl)
    · exact h.elim
theorem ok_ior {sh : g_Sh} {mi : g_MI} {own : String} {cc : ByteArray} {nL : Nat} {rt : Option FieldType} {pc : Nat} (hd : decode cc pc = .ok (.ior, 1)) : g_ok sh mi own cc nL rt pc (o_ior (pc + 1)) := by
  refine ⟨?_, ?_⟩
  · intro cal P P' Q Q' L st M hc hP hQ h
    unfold o_ior at h ⊢
    split at h
    · exact hP _ _ _ _ h
    · exact h.elim
  · intro p l e R s m args below meth c D cA μ ξ A d cal Q K C hK L st M H locs ls h hP hD hS hl
    obtain ⟨hx, hb, hml, hown, hts, hr, hlk, hKk, hA, hE, rfl, hSn⟩ := C
    unfold o_ior at h
    split at h
    · exact lv_ior hx hb hd (hK _ _ _ _ _ _ _ (h) hP hD hS hl)
    · exact h.elim
theorem ok_ixor {sh : g_Sh} {mi : g_MI} {own : String} {cc : ByteArray} {nL : Nat} {rt : Option FieldType} {pc : Nat} (hd : decode cc pc = .ok (.ixor, 1)) : g_ok sh mi own cc nL rt pc (o_ixor (pc + 1)) := by
  refine ⟨?_, ?_⟩
  · intro cal P P' Q Q' L st M hc hP hQ h
    unfold o_ixor at h ⊢
    split at h
    · exact hP _ _ _ _ h
    · exact h.elim
  · intro p l e R s m args below meth c D cA μ ξ A d cal Q K C hK L st M H locs ls h hP hD hS hl
    obtain ⟨hx, hb, hml, hown, hts, hr, hlk, hKk, hA, hE, rfl, hSn⟩ := C
    unfold o_ixor at h
    split at h
    · exact lv_ixor hx hb hd (hK _ _ _ _ _ _ _ (h) hP hD hS hl)
    · exact h.elim
theorem ok_ishl {sh : g_Sh} {mi : g_MI} {own : String} {cc : ByteArray} {nL : Nat} {rt : Option FieldType} {pc : Nat} (hd : decode cc pc = .ok (.ishl, 1)) : g_ok sh mi own cc nL rt pc (o_ishl (pc + 1)) := by
  refine ⟨?_, ?_⟩
  · intro cal P P' Q Q' L st M hc hP hQ h
    unfold o_ishl at h ⊢
    split at h
    · exact hP _ _ _ _ h
    · exact h.elim
  · intro p l e R s m args below meth c D cA μ ξ A d cal Q K C hK L st M H locs ls h hP hD hS hl
    obtain ⟨hx, hb, hml, hown, hts, hr, hlk, hKk, hA, hE, rfl, hSn⟩ := C
    unfold o_ishl at h
    split at h
    · exact lv_ishl hx hb hd (hK _ _ _ _ _ _ _ (h) hP hD hS hl)
    · exact h.elim
theorem ok_ishr {sh : g_Sh} {mi : g_MI} {own : String} {cc : ByteArray} {nL : Nat} {rt : Option FieldType} {pc : Nat} (hd : decode cc pc = .ok (.ishr, 1)) : g_ok sh mi own cc nL rt pc (o_ishr (pc + 1)) := by
  refine ⟨?_, ?_⟩
  · intro cal P P' Q Q' L st M hc hP hQ h
    unfold o_ishr at h ⊢
    split at h
    · exact hP _ _ _ _ h
    · exact h.elim
  · intro p l e R s m args below meth c D cA μ ξ A d cal Q K C hK L st M H locs ls h hP hD hS hl
    obtain ⟨hx, hb, hml, hown, hts, hr, hlk, hKk, hA, hE, rfl, hSn⟩ := C
    unfold o_ishr at h
    split at h
    · exact lv_ishr hx hb hd (hK _ _ _ _ _ _ _ (h) hP hD hS hl)
    · exact h.elim
theorem ok_land {sh : g_Sh} {mi : g_MI} {own : String} {cc : ByteArray} {nL : Nat} {rt : Option FieldType} {pc : Nat} (hd : decode cc pc = .ok (.land, 1)) : g_ok sh mi own cc nL rt pc (o_land (pc + 1)) := by
  refine ⟨?_, ?_⟩
  · intro cal P P' Q Q' L st M hc hP hQ h
    unfold o_land at h ⊢
    split at h
    · exact hP _ _ _ _ h
    · exact h.elim
  · intro p l e R s m args below meth c D cA μ ξ A d cal Q K C hK L st M H locs ls h hP hD hS hl
    obtain ⟨hx, hb, hml, hown, hts, hr, hlk, hKk, hA, hE, rfl, hSn⟩ := C
    unfold o_land at h
    split at h
    · exact lv_land hx hb hd (hK _ _ _ _ _ _ _ (h) hP hD hS hl)
    · exact h.elim
theorem ok_lor {sh : g_Sh} {mi : g_MI} {own : String} {cc : ByteArray} {nL : Nat} {rt : Option FieldType} {pc : Nat} (hd : decode cc pc = .ok (.lor, 1)) : g_ok sh mi own cc nL rt pc (o_lor (pc + 1)) := by
  refine ⟨?_, ?_⟩
  · intro cal P P' Q Q' L st M hc hP hQ h
    unfold o_lor at h ⊢
    split at h
    · exact hP _ _ _ _ h
    · exact h.elim
  · intro p l e R s m args below meth c D cA μ ξ A d cal Q K C hK L st M H locs ls h hP hD hS hl
    obtain ⟨hx, hb, hml, hown, hts, hr, hlk, hKk, hA, hE, rfl, hSn⟩ := C
    unfold o_lor at h
    split at h
    · exact lv_lor hx hb hd (hK _ _ _ _ _ _ _ (h) hP hD hS hl)
    · exact h.elim
theorem ok_iushr {sh : g_Sh} {mi : g_MI} {own : String} {cc : ByteArray} {nL : Nat} {rt : Option FieldType} {pc : Nat} (hd : decode cc pc = .ok (.iushr, 1)) : g_ok sh mi own cc nL rt pc (o_iushr (pc + 1)) := by
  refine ⟨?_, ?_⟩
  · intro cal P P' Q Q' L st M hc hP hQ h
    unfold o_iushr at h ⊢
    split at h
    · exact hP _ _ _ _ h
    · exact h.elim
  · intro p l e R s m args below meth c D cA μ ξ A d cal Q K C hK L st M H locs ls h hP hD hS hl
    obtain ⟨hx, hb, hml, hown, hts, hr, hlk, hKk, hA, hE, rfl, hSn⟩ := C
    unfold o_iushr at h
    split at h
    · exact lv_iushr hx hb hd rfl (hK _ _ _ _ _ _ _ (h) hP hD hS hl)
    · exact h.elim
theorem ok_lshl {sh : g_Sh} {mi : g_MI} {own : String} {cc : ByteArray} {nL : Nat} {rt : Option FieldType} {pc : Nat} (hd : decode cc pc = .ok (.lshl, 1)) : g_ok sh mi own cc nL rt pc (o_lshl (pc + 1)) := by
  refine ⟨?_, ?_⟩
  · intro cal P P' Q Q' L st M hc hP hQ h
    unfold o_lshl at h ⊢
    split at h
    · exact hP _ _ _ _ h
    · exact h.elim
  · intro p l e R s m args below meth c D cA μ ξ A d cal Q K C hK L st M H locs ls h hP hD hS hl
    obtain ⟨hx, hb, hml, hown, hts, hr, hlk, hKk, hA, hE, rfl, hSn⟩ := C
    unfold o_lshl at h
    split at h
    · exact lv_lshl hx hb hd rfl (hK _ _ _ _ _ _ _ (h) hP hD hS hl)
    · exact h.elim
theorem ok_lshr {sh : g_Sh} {mi : g_MI} {own : String} {cc : ByteArray} {nL : Nat} {rt : Option FieldType} {pc : Nat} (hd : decode cc pc = .ok (.lshr, 1)) : g_ok sh mi own cc nL rt pc (o_lshr (pc + 1)) := by
  refine ⟨?_, ?_⟩
  · intro cal P P' Q Q' L st M hc hP hQ h
    unfold o_lshr at h ⊢
    split at h
    · exact hP _ _ _ _ h
    · exact h.elim
  · intro p l e R s m args below meth c D cA μ ξ A d cal Q K C hK L st M H locs ls h hP hD hS hl
    obtain ⟨hx, hb, hml, hown, hts, hr, hlk, hKk, hA, hE, rfl, hSn⟩ := C
    unfold o_lshr at h
    split at h
    · exact lv_lshr hx hb hd rfl (hK _ _ _ _ _ _ _ (h) hP hD hS hl)
    · exact h.elim
theorem ok_lushr {sh : g_Sh} {mi : g_MI} {own : String} {cc : ByteArray} {nL : Nat} {rt : Option FieldType} {pc : Nat} (hd : decode cc pc = .ok (.lushr, 1)) : g_ok sh mi own cc nL rt pc (o_lushr (pc + 1)) := by
  refine ⟨?_, ?_⟩
  · intro cal P P' Q Q' L st M hc hP hQ h
    unfold o_lushr at h ⊢
    split at h
    · exact hP _ _ _ _ h
    · exact h.elim
  · intro p l e R s m args below meth c D cA μ ξ A d cal Q K C hK L st M H locs ls h hP hD hS hl
    obtain ⟨hx, hb, hml, hown, hts, hr, hlk, hKk, hA, hE, rfl, hSn⟩ := C
    unfold o_lushr at h
    split at h
    · exact lv_lushr hx hb hd rfl (hK _ _ _ _ _ _ _ (h) hP hD hS hl)
    · exact h.elim
theorem ok_i2l {sh : g_Sh} {mi : g_MI} {own : String} {cc : ByteArray} {nL : Nat} {rt : Option FieldType} {pc : Nat} (hd : decode cc pc = .ok (.i2l, 1)) : g_ok sh mi own cc nL rt pc (o_i2l (pc + 1)) := by
  refine ⟨?_, ?_⟩
  · intro cal P P' Q Q' L st M hc hP hQ h
    unfold o_i2l at h ⊢
    split at h
    · exact hP _ _ _ _ h
    · exact h.elim
  · intro p l e R s m args below meth c D cA μ ξ A d cal Q K C hK L st M H locs ls h hP hD hS hl
    obtain ⟨hx, hb, hml, hown, hts, hr, hlk, hKk, hA, hE, rfl, hSn⟩ := C
    unfold o_i2l at h
    split at h
    · exact lv_i2l hx hb hd rfl (hK _ _ _ _ _ _ _ (h) hP hD hS hl)
    · exact h.elim
theorem ok_l2i {sh : g_Sh} {mi : g_MI} {own : String} {cc : ByteArray} {nL : Nat} {rt : Option FieldType} {pc : Nat} (hd : decode cc pc = .ok (.l2i, 1)) : g_ok sh mi own cc nL rt pc (o_l2i (pc + 1)) := by
  refine ⟨?_, ?_⟩
  · intro cal P P' Q Q' L st M hc hP hQ h
    unfold o_l2i at h ⊢
    split at h
    · exact hP _ _ _ _ h
    · exact h.elim
  · intro p l e R s m args below meth c D cA μ ξ A d cal Q K C hK L st M H locs ls h hP hD hS hl
    obtain ⟨hx, hb, hml, hown, hts, hr, hlk, hKk, hA, hE, rfl, hSn⟩ := C
    unfold o_l2i at h
    split at h
    · exact lv_l2i hx hb hd rfl (hK _ _ _ _ _ _ _ (h) hP hD hS hl)
    · exact h.elim
theorem ok_i2c {sh : g_Sh} {mi : g_MI} {own : String} {cc : ByteArray} {nL : Nat} {rt : Option FieldType} {pc : Nat} (hd : decode cc pc = .ok (.i2c, 1)) : g_ok sh mi own cc nL rt pc (o_i2c (pc + 1)) := by
  refine ⟨?_, ?_⟩
  · intro cal P P' Q Q' L st M hc hP hQ h
    unfold o_i2c at h ⊢
    split at h
    · exact hP _ _ _ _ h
    · exact h.elim
  · intro p l e R s m args below meth c D cA μ ξ A d cal Q K C hK L st M H locs ls h hP hD hS hl
    obtain ⟨hx, hb, hml, hown, hts, hr, hlk, hKk, hA, hE, rfl, hSn⟩ := C
    unfold o_i2c at h
    split at h
    · exact lv_i2c hx hb hd rfl (hK _ _ _ _ _ _ _ (h) hP hD hS hl)
    · exact h.elim
theorem ok_i2b {sh : g_Sh} {mi : g_MI} {own : String} {cc : ByteArray} {nL : Nat} {rt : Option FieldType} {pc : Nat} (hd : decode cc pc = .ok (.i2b, 1)) : g_ok sh mi own cc nL rt pc (o_i2b (pc + 1)) := by
  refine ⟨?_, ?_⟩
  · intro cal P P' Q Q' L st M hc hP hQ h
    unfold o_i2b at h ⊢
    split at h
    · exact hP _ _ _ _ h
    · exact h.elim
  · intro p l e R s m args below meth c D cA μ ξ A d cal Q K C hK L st M H locs ls h hP hD hS hl
    obtain ⟨hx, hb, hml, hown, hts, hr, hlk, hKk, hA, hE, rfl, hSn⟩ := C
    unfold o_i2b at h
    split at h
    · exact lv_i2b hx hb hd rfl (hK _ _ _ _ _ _ _ (h) hP hD hS hl)
    · exact h.elim
theorem ok_ineg {sh : g_Sh} {mi : g_MI} {own : String} {cc : ByteArray} {nL : Nat} {rt : Option FieldType} {pc : Nat} (hd : decode cc pc = .ok (.ineg, 1)) : g_ok sh mi own cc nL rt pc (o_ineg (pc + 1)) := by
  refine ⟨?_, ?_⟩
  · intro cal P P' Q Q' L st M hc hP hQ h
    unfold o_ineg at h ⊢
    split at h
    · exact hP _ _ _ _ h
    · exact h.elim
  · intro p l e R s m args below meth c D cA μ ξ A d cal Q K C hK L st M H locs ls h hP hD hS hl
    obtain ⟨hx, hb, hml, hown, hts, hr, hlk, hKk, hA, hE, rfl, hSn⟩ := C
    unfold o_ineg at h
    split at h
    · exact lv_ineg hx hb hd (hK _ _ _ _ _ _ _ (h) hP hD hS hl)
    · exact h.elim
theorem ok_idiv {sh : g_Sh} {mi : g_MI} {own : String} {cc : ByteArray} {nL : Nat} {rt : Option FieldType} {pc : Nat} (hd : decode cc pc = .ok (.idiv, 1)) : g_ok sh mi own cc nL rt pc (o_idiv (pc + 1)) := by
  refine ⟨?_, ?_⟩
  · intro cal P P' Q Q' L st M hc hP hQ h
    unfold o_idiv at h ⊢
    split at h
    · exact ⟨h.1, hP _ _ _ _ h.2⟩
    · exact h.elim
  · intro p l e R s m args below meth c D cA μ ξ A d cal Q K C hK L st M H locs ls h hP hD hS hl
    obtain ⟨hx, hb, hml, hown, hts, hr, hlk, hKk, hA, hE, rfl, hSn⟩ := C
    unfold o_idiv at h
    split at h
    · exact lv_idiv hx hb hd h.1 (hK _ _ _ _ _ _ _ (h.2) hP hD hS hl)
    · exact h.elim
theorem ok_irem {sh : g_Sh} {mi : g_MI} {own : String} {cc : ByteArray} {nL : Nat} {rt : Option FieldType} {pc : Nat} (hd : decode cc pc = .ok (.irem, 1)) : g_ok sh mi own cc nL rt pc (o_irem (pc + 1)) := by
  refine ⟨?_, ?_⟩
  · intro cal P P' Q Q' L st M hc hP hQ h
    unfold o_irem at h ⊢
    split at h
    · exact ⟨h.1, hP _ _ _ _ h.2⟩
    · exact h.elim
  · intro p l e R s m args below meth c D cA μ ξ A d cal Q K C hK L st M H locs ls h hP hD hS hl
    obtain ⟨hx, hb, hml, hown, hts, hr, hlk, hKk, hA, hE, rfl, hSn⟩ := C
    unfold o_irem at h
    split at h
    · exact lv_irem hx hb hd h.1 (hK _ _ _ _ _ _ _ (h.2) hP hD hS hl)
    · exact h.elim
theorem ok_ldiv {sh : g_Sh} {mi : g_MI} {own : String} {cc : ByteArray} {nL : Nat} {rt : Option FieldType} {pc : Nat} (hd : decode cc pc = .ok (.ldiv, 1)) : g_ok sh mi own cc nL rt pc (o_ldiv (pc + 1)) := by
  refine ⟨?_, ?_⟩
  · intro cal P P' Q Q' L st M hc hP hQ h
    unfold o_ldiv at h ⊢
    split at h
    · exact ⟨h.1, hP _ _ _ _ h.2⟩
    · exact h.elim
  · intro p l e R s m args below meth c D cA μ ξ A d cal Q K C hK L st M H locs ls h hP hD hS hl
    obtain ⟨hx, hb, hml, hown, hts, hr, hlk, hKk, hA, hE, rfl, hSn⟩ := C
    unfold o_ldiv at h
    split at h
    · exact lv_ldiv hx hb hd h.1 (hK _ _ _ _ _ _ _ (h.2) hP hD hS hl)
    · exact h.elim
theorem ok_lrem {sh : g_Sh} {mi : g_MI} {own : String} {cc : ByteArray} {nL : Nat} {rt : Option FieldType} {pc : Nat} (hd : decode cc pc = .ok (.lrem, 1)) : g_ok sh mi own cc nL rt pc (o_lrem (pc + 1)) := by
  refine ⟨?_, ?_⟩
  · intro cal P P' Q Q' L st M hc hP hQ h
    unfold o_lrem at h ⊢
    split at h
    · exact ⟨h.1, hP _ _ _ _ h.2⟩
    · exact h.elim
  · intro p l e R s m args below meth c D cA μ ξ A d cal Q K C hK L st M H locs ls h hP hD hS hl
    obtain ⟨hx, hb, hml, hown, hts, hr, hlk, hKk, hA, hE, rfl, hSn⟩ := C
    unfold o_lrem at h
    split at h
    · exact lv_lrem hx hb hd h.1 (hK _ _ _ _ _ _ _ (h.2) hP hD hS hl)
    · exact h.elim
theorem ok_dup {sh : g_Sh} {mi : g_MI} {own : String} {cc : ByteArray} {nL : Nat} {rt : Option FieldType} {pc : Nat} (hd : decode cc pc = .ok (.dup, 1)) : g_ok sh mi own cc nL rt pc (o_dup (pc + 1)) := by
  refine ⟨?_, ?_⟩
  · intro cal P P' Q Q' L st M hc hP hQ h
    cases st with
    | nil => exact h
    | cons v r => cases v <;> first | exact hP _ _ _ _ h | exact h
  · intro p l e R s m args below meth c D cA μ ξ A d cal Q K C hK L st M H locs ls h hP hD hS hl
    obtain ⟨hx, hb, hml, hown, hts, hr, hlk, hKk, hA, hE, rfl, hSn⟩ := C
    cases st with
    | nil => exact False.elim h
    | cons v r => cases v <;> first | exact False.elim h | exact lv_dup hx hb hd rfl (hK _ _ _ _ _ _ _ (h) hP hD hS hl)
theorem ok_dup2 {sh : g_Sh} {mi : g_MI} {own : String} {cc : ByteArray} {nL : Nat} {rt : Option FieldType} {pc : Nat} (hd : decode cc pc = .ok (.dup2, 1)) : g_ok sh mi own cc nL rt pc (o_dup2 (pc + 1)) := by
  refine ⟨?_, ?_⟩
  · intro cal P P' Q Q' L st M hc hP hQ h
    unfold o_dup2 at h ⊢
    split at h
    · exact hP _ _ _ _ h
    · exact h.elim
  · intro p l e R s m args below meth c D cA μ ξ A d cal Q K C hK L st M H locs ls h hP hD hS hl
    obtain ⟨hx, hb, hml, hown, hts, hr, hlk, hKk, hA, hE, rfl, hSn⟩ := C
    unfold o_dup2 at h
    split at h
    · exact lv_dup2_11 hx hb hd rfl rfl (hK _ _ _ _ _ _ _ (h) hP hD hS hl)
    · exact h.elim
theorem ok_pop {sh : g_Sh} {mi : g_MI} {own : String} {cc : ByteArray} {nL : Nat} {rt : Option FieldType} {pc : Nat} (hd : decode cc pc = .ok (.pop, 1)) : g_ok sh mi own cc nL rt pc (o_pop (pc + 1)) := by
  refine ⟨?_, ?_⟩
  · intro cal P P' Q Q' L st M hc hP hQ h
    unfold o_pop at h ⊢
    split at h
    · exact hP _ _ _ _ h
    · exact h.elim
  · intro p l e R s m args below meth c D cA μ ξ A d cal Q K C hK L st M H locs ls h hP hD hS hl
    obtain ⟨hx, hb, hml, hown, hts, hr, hlk, hKk, hA, hE, rfl, hSn⟩ := C
    unfold o_pop at h
    split at h
    · exact lv_pop hx hb hd rfl (hK _ _ _ _ _ _ _ (h) hP hD hS hl)
    · exact h.elim
theorem ok_ic_eq {sh : g_Sh} {mi : g_MI} {own : String} {cc : ByteArray} {nL : Nat} {rt : Option FieldType} {pc : Nat} {off : Int} {t : Nat} (hd : decode cc pc = .ok (.if_icmp .eq off, 3)) (ht : (pc : Int) + off = (t : Int)) : g_ok sh mi own cc nL rt pc (o_ic_eq t (pc + 3)) := by
  refine ⟨?_, ?_⟩
  · intro cal P P' Q Q' L st M hc hP hQ h
    unfold o_ic_eq at h ⊢
    split at h
    · exact ⟨fun z => hP _ _ _ _ (h.1 z), fun z => hP _ _ _ _ (h.2 z)⟩
    · exact h.elim
  · intro p l e R s m args below meth c D cA μ ξ A d cal Q K C hK L st M H locs ls h hP hD hS hl
    obtain ⟨hx, hb, hml, hown, hts, hr, hlk, hKk, hA, hE, rfl, hSn⟩ := C
    unfold o_ic_eq at h
    split at h
    · exact lv_icmp_eq hx hb hd ht (fun z => hK _ _ _ _ _ _ _ (h.1 z) hP hD hS hl) (fun z => hK _ _ _ _ _ _ _ (h.2 z) hP hD hS hl)
    · exact h.elim
theorem ok_if_eq {sh : g_Sh} {mi : g_MI} {own : String} {cc : ByteArray} {nL : Nat} {rt : Option FieldType} {pc : Nat} {off : Int} {t : Nat} (hd : decode cc pc = .ok (.ifCond .eq off, 3)) (ht : (pc : Int) + off = (t : Int)) : g_ok sh mi own cc nL rt pc (o_if_eq t (pc + 3)) := by
  refine ⟨?_, ?_⟩
  · intro cal P P' Q Q' L st M hc hP hQ h
    unfold o_if_eq at h ⊢
    split at h
    · exact ⟨fun z => hP _ _ _ _ (h.1 z), fun z => hP _ _ _ _ (h.2 z)⟩
    · exact h.elim
  · intro p l e R s m args below meth c D cA μ ξ A d cal Q K C hK L st M H locs ls h hP hD hS hl
    obtain ⟨hx, hb, hml, hown, hts, hr, hlk, hKk, hA, hE, rfl, hSn⟩ := C
    unfold o_if_eq at h
    split at h
    · exact lv_if_eq hx hb hd ht (fun z => hK _ _ _ _ _ _ _ (h.1 z) hP hD hS hl) (fun z => hK _ _ _ _ _ _ _ (h.2 z) hP hD hS hl)
    · exact h.elim
theorem ok_ic_ne {sh : g_Sh} {mi : g_MI} {own : String} {cc : ByteArray} {nL : Nat} {rt : Option FieldType} {pc : Nat} {off : Int} {t : Nat} (hd : decode cc pc = .ok (.if_icmp .ne off, 3)) (ht : (pc : Int) + off = (t : Int)) : g_ok sh mi own cc nL rt pc (o_ic_ne t (pc + 3)) := by
  refine ⟨?_, ?_⟩
  · intro cal P P' Q Q' L st M hc hP hQ h
    unfold o_ic_ne at h ⊢
    split at h
    · exact ⟨fun z => hP _ _ _ _ (h.1 z), fun z => hP _ _ _ _ (h.2 z)⟩
    · exact h.elim
  · intro p l e R s m args below meth c D cA μ ξ A d cal Q K C hK L st M H locs ls h hP hD hS hl
    obtain ⟨hx, hb, hml, hown, hts, hr, hlk, hKk, hA, hE, rfl, hSn⟩ := C
    unfold o_ic_ne at h
    split at h
    · exact lv_icmp_ne hx hb hd ht (fun z => hK _ _ _ _ _ _ _ (h.1 z) hP hD hS hl) (fun z => hK _ _ _ _ _ _ _ (h.2 z) hP hD hS hl)
    · exact h.elim
theorem ok_if_ne {sh : g_Sh} {mi : g_MI} {own : String} {cc : ByteArray} {nL : Nat} {rt : Option FieldType} {pc : Nat} {off : Int} {t : Nat} (hd : decode cc pc = .ok (.ifCond .ne off, 3)) (ht : (pc : Int) + off = (t : Int)) : g_ok sh mi own cc nL rt pc (o_if_ne t (pc + 3)) := by
  refine ⟨?_, ?_⟩
  · intro cal P P' Q Q' L st M hc hP hQ h
    unfold o_if_ne at h ⊢
    split at h
    · exact ⟨fun z => hP _ _ _ _ (h.1 z), fun z => hP _ _ _ _ (h.2 z)⟩
    · exact h.elim
  · intro p l e R s m args below meth c D cA μ ξ A d cal Q K C hK L st M H locs ls h hP hD hS hl
    obtain ⟨hx, hb, hml, hown, hts, hr, hlk, hKk, hA, hE, rfl, hSn⟩ := C
    unfold o_if_ne at h
    split at h
    · exact lv_if_ne hx hb hd ht (fun z => hK _ _ _ _ _ _ _ (h.1 z) hP hD hS hl) (fun z => hK _ _ _ _ _ _ _ (h.2 z) hP hD hS hl)
    · exact h.elim
theorem ok_ic_lt {sh : g_Sh} {mi : g_MI} {own : String} {cc : ByteArray} {nL : Nat} {rt : Option FieldType} {pc : Nat} {off : Int} {t : Nat} (hd : decode cc pc = .ok (.if_icmp .lt off, 3)) (ht : (pc : Int) + off = (t : Int)) : g_ok sh mi own cc nL rt pc (o_ic_lt t (pc + 3)) := by
  refine ⟨?_, ?_⟩
  · intro cal P P' Q Q' L st M hc hP hQ h
    unfold o_ic_lt at h ⊢
    split at h
    · exact ⟨fun z => hP _ _ _ _ (h.1 z), fun z => hP _ _ _ _ (h.2 z)⟩
    · exact h.elim
  · intro p l e R s m args below meth c D cA μ ξ A d cal Q K C hK L st M H locs ls h hP hD hS hl
    obtain ⟨hx, hb, hml, hown, hts, hr, hlk, hKk, hA, hE, rfl, hSn⟩ := C
    unfold o_ic_lt at h
    split at h
    · exact lv_icmp_lt hx hb hd ht (fun z => hK _ _ _ _ _ _ _ (h.1 z) hP hD hS hl) (fun z => hK _ _ _ _ _ _ _ (h.2 z) hP hD hS hl)
    · exact h.elim
theorem ok_if_lt {sh : g_Sh} {mi : g_MI} {own : String} {cc : ByteArray} {nL : Nat} {rt : Option FieldType} {pc : Nat} {off : Int} {t : Nat} (hd : decode cc pc = .ok (.ifCond .lt off, 3)) (ht : (pc : Int) + off = (t : Int)) : g_ok sh mi own cc nL rt pc (o_if_lt t (pc + 3)) := by
  refine ⟨?_, ?_⟩
  · intro cal P P' Q Q' L st M hc hP hQ h
    unfold o_if_lt at h ⊢
    split at h
    · exact ⟨fun z => hP _ _ _ _ (h.1 z), fun z => hP _ _ _ _ (h.2 z)⟩
    · exact h.elim
  · intro p l e R s m args below meth c D cA μ ξ A d cal Q K C hK L st M H locs ls h hP hD hS hl
    obtain ⟨hx, hb, hml, hown, hts, hr, hlk, hKk, hA, hE, rfl, hSn⟩ := C
    unfold o_if_lt at h
    split at h
    · exact lv_if_lt hx hb hd ht (fun z => hK _ _ _ _ _ _ _ (h.1 z) hP hD hS hl) (fun z => hK _ _ _ _ _ _ _ (h.2 z) hP hD hS hl)
    · exact h.elim
theorem ok_ic_ge {sh : g_Sh} {mi : g_MI} {own : String} {cc : ByteArray} {nL : Nat} {rt : Option FieldType} {pc : Nat} {off : Int} {t : Nat} (hd : decode cc pc = .ok (.if_icmp .ge off, 3)) (ht : (pc : Int) + off = (t : Int)) : g_ok sh mi own cc nL rt pc (o_ic_ge t (pc + 3)) := by
  refine ⟨?_, ?_⟩
  · intro cal P P' Q Q' L st M hc hP hQ h
    unfold o_ic_ge at h ⊢
    split at h
    · exact ⟨fun z => hP _ _ _ _ (h.1 z), fun z => hP _ _ _ _ (h.2 z)⟩
    · exact h.elim
  · intro p l e R s m args below meth c D cA μ ξ A d cal Q K C hK L st M H locs ls h hP hD hS hl
    obtain ⟨hx, hb, hml, hown, hts, hr, hlk, hKk, hA, hE, rfl, hSn⟩ := C
    unfold o_ic_ge at h
    split at h
    · exact lv_icmp_ge hx hb hd ht (fun z => hK _ _ _ _ _ _ _ (h.1 z) hP hD hS hl) (fun z => hK _ _ _ _ _ _ _ (h.2 z) hP hD hS hl)
    · exact h.elim
theorem ok_if_ge {sh : g_Sh} {mi : g_MI} {own : String} {cc : ByteArray} {nL : Nat} {rt : Option FieldType} {pc : Nat} {off : Int} {t : Nat} (hd : decode cc pc = .ok (.ifCond .ge off, 3)) (ht : (pc : Int) + off = (t : Int)) : g_ok sh mi own cc nL rt pc (o_if_ge t (pc + 3)) := by
  refine ⟨?_, ?_⟩
  · intro cal P P' Q Q' L st M hc hP hQ h
    unfold o_if_ge at h ⊢
    split at h
    · exact ⟨fun z => hP _ _ _ _ (h.1 z), fun z => hP _ _ _ _ (h.2 z)⟩
    · exact h.elim
  · intro p l e R s m args below meth c D cA μ ξ A d cal Q K C hK L st M H locs ls h hP hD hS hl
    obtain ⟨hx, hb, hml, hown, hts, hr, hlk, hKk, hA, hE, rfl, hSn⟩ := C
    unfold o_if_ge at h
    split at h
    · exact lv_if_ge hx hb hd ht (fun z => hK _ _ _ _ _ _ _ (h.1 z) hP hD hS hl) (fun z => hK _ _ _ _ _ _ _ (h.2 z) hP hD hS hl)
    · exact h.elim
theorem ok_ic_gt {sh : g_Sh} {mi : g_MI} {own : String} {cc : ByteArray} {nL : Nat} {rt : Option FieldType} {pc : Nat} {off : Int} {t : Nat} (hd : decode cc pc = .ok (.if_icmp .gt off, 3)) (ht : (pc : Int) + off = (t : Int)) : g_ok sh mi own cc nL rt pc (o_ic_gt t (pc + 3)) := by
  refine ⟨?_, ?_⟩
  · intro cal P P' Q Q' L st M hc hP hQ h
    unfold o_ic_gt at h ⊢
    split at h
    · exact ⟨fun z => hP _ _ _ _ (h.1 z), fun z => hP _ _ _ _ (h.2 z)⟩
    · exact h.elim
  · intro p l e R s m args below meth c D cA μ ξ A d cal Q K C hK L st M H locs ls h hP hD hS hl
    obtain ⟨hx, hb, hml, hown, hts, hr, hlk, hKk, hA, hE, rfl, hSn⟩ := C
    unfold o_ic_gt at h
    split at h
    · exact lv_icmp_gt hx hb hd ht (fun z => hK _ _ _ _ _ _ _ (h.1 z) hP hD hS hl) (fun z => hK _ _ _ _ _ _ _ (h.2 z) hP hD hS hl)
    · exact h.elim
theorem ok_if_gt {sh : g_Sh} {mi : g_MI} {own : String} {cc : ByteArray} {nL : Nat} {rt : Option FieldType} {pc : Nat} {off : Int} {t : Nat} (hd : decode cc pc = .ok (.ifCond .gt off, 3)) (ht : (pc : Int) + off = (t : Int)) : g_ok sh mi own cc nL rt pc (o_if_gt t (pc + 3)) := by
  refine ⟨?_, ?_⟩
  · intro cal P P' Q Q' L st M hc hP hQ h
    unfold o_if_gt at h ⊢
    split at h
    · exact ⟨fun z => hP _ _ _ _ (h.1 z), fun z => hP _ _ _ _ (h.2 z)⟩
    · exact h.elim
  · intro p l e R s m args below meth c D cA μ ξ A d cal Q K C hK L st M H locs ls h hP hD hS hl
    obtain ⟨hx, hb, hml, hown, hts, hr, hlk, hKk, hA, hE, rfl, hSn⟩ := C
    unfold o_if_gt at h
    split at h
    · exact lv_if_gt hx hb hd ht (fun z => hK _ _ _ _ _ _ _ (h.1 z) hP hD hS hl) (fun z => hK _ _ _ _ _ _ _ (h.2 z) hP hD hS hl)
    · exact h.elim
theorem ok_ic_le {sh : g_Sh} {mi : g_MI} {own : String} {cc : ByteArray} {nL : Nat} {rt : Option FieldType} {pc : Nat} {off : Int} {t : Nat} (hd : decode cc pc = .ok (.if_icmp .le off, 3)) (ht : (pc : Int) + off = (t : Int)) : g_ok sh mi own cc nL rt pc (o_ic_le t (pc + 3)) := by
  refine ⟨?_, ?_⟩
  · intro cal P P' Q Q' L st M hc hP hQ h
    unfold o_ic_le at h ⊢
    split at h
    · exact ⟨fun z => hP _ _ _ _ (h.1 z), fun z => hP _ _ _ _ (h.2 z)⟩
    · exact h.elim
  · intro p l e R s m args below meth c D cA μ ξ A d cal Q K C hK L st M H locs ls h hP hD hS hl
    obtain ⟨hx, hb, hml, hown, hts, hr, hlk, hKk, hA, hE, rfl, hSn⟩ := C
    unfold o_ic_le at h
    split at h
    · exact lv_icmp_le hx hb hd ht (fun z => hK _ _ _ _ _ _ _ (h.1 z) hP hD hS hl) (fun z => hK _ _ _ _ _ _ _ (h.2 z) hP hD hS hl)
    · exact h.elim
theorem ok_if_le {sh : g_Sh} {mi : g_MI} {own : String} {cc : ByteArray} {nL : Nat} {rt : Option FieldType} {pc : Nat} {off : Int} {t : Nat} (hd : decode cc pc = .ok (.ifCond .le off, 3)) (ht : (pc : Int) + off = (t : Int)) : g_ok sh mi own cc nL rt pc (o_if_le t (pc + 3)) := by
  refine ⟨?_, ?_⟩
  · intro cal P P' Q Q' L st M hc hP hQ h
    unfold o_if_le at h ⊢
    split at h
    · exact ⟨fun z => hP _ _ _ _ (h.1 z), fun z => hP _ _ _ _ (h.2 z)⟩
    · exact h.elim
  · intro p l e R s m args below meth c D cA μ ξ A d cal Q K C hK L st M H locs ls h hP hD hS hl
    obtain ⟨hx, hb, hml, hown, hts, hr, hlk, hKk, hA, hE, rfl, hSn⟩ := C
    unfold o_if_le at h
    split at h
    · exact lv_if_le hx hb hd ht (fun z => hK _ _ _ _ _ _ _ (h.1 z) hP hD hS hl) (fun z => hK _ _ _ _ _ _ _ (h.2 z) hP hD hS hl)
    · exact h.elim
theorem ok_goto {sh : g_Sh} {mi : g_MI} {own : String} {cc : ByteArray} {nL : Nat} {rt : Option FieldType} {pc : Nat} {off : Int} {t : Nat} (hd : decode cc pc = .ok (.goto off, 3)) (ht : (pc : Int) + off = (t : Int)) : g_ok sh mi own cc nL rt pc (o_goto t) := by
  refine ⟨?_, ?_⟩
  · intro cal P P' Q Q' L st M hc hP hQ h
    unfold o_goto at h ⊢
    exact hP _ _ _ _ h
  · intro p l e R s m args below meth c D cA μ ξ A d cal Q K C hK L st M H locs ls h hP hD hS hl
    obtain ⟨hx, hb, hml, hown, hts, hr, hlk, hKk, hA, hE, rfl, hSn⟩ := C
    unfold o_goto at h
    exact lv_goto hx hb hd ht (hK _ _ _ _ _ _ _ (h) hP hD hS hl)
theorem g_sw_mono {d : Nat} {x : Int32} {k k' : Nat → Prop} (hk : ∀ t, k t → k' t) : ∀ ps : List (Int32 × Nat), g_sw ps d x k → g_sw ps d x k'
  | [], h => hk _ h
  | (c, t) :: r, h => ⟨fun z => hk _ (h.1 z), fun z => g_sw_mono hk r (h.2 z)⟩
def g_lsok (pc : Nat) : List (Int32 × Nat) → List (Int × Int) → Bool
  | [], [] => true
  | (c, t) :: ps, (a, o) :: l => decide (c.toInt = a) && decide ((pc : Int) + o = (t : Int)) && g_lsok pc ps l
  | _, _ => false
theorem g_ls_spec {pc d : Nat} {df : Int} (hdf : (pc : Int) + df = (d : Int)) {x : Int32} {k : Nat → Prop} : ∀ (ps : List (Int32 × Nat)) (l : List (Int × Int)), g_lsok pc ps l = true → g_sw ps d x k → ∃ off tgt, Op.lookupswitch.offset l df x.toInt = off ∧ (pc : Int) + off = ((tgt : Nat) : Int) ∧ k tgt
  | [], [], _, h => ⟨df, d, rfl, hdf, h⟩
  | [], _ :: _, e, _ => by cases e
  | _ :: _, [], e, _ => by cases e
  | (c, t) :: ps, (a, o) :: l, e, h => by
    simp only [g_lsok, Bool.and_eq_true, decide_eq_true_eq] at e
    by_cases z : x = c
    · refine ⟨o, t, ?_, e.1.2, h.1 z⟩
      rw [Op.lookupswitch.offset_cons, if_pos (by rw [z]; exact e.1.1.symm)]
    · obtain ⟨off, tgt, h1, h2, h3⟩ := g_ls_spec hdf ps l e.2 (h.2 z)
      exact ⟨off, tgt, by rw [lv_osw z e.1.1]; exact h1, h2, h3⟩
def g_tsok (pc : Nat) : Int → List (Int32 × Nat) → List Int → Bool
  | _, [], [] => true
  | lo, (c, t) :: ps, o :: l => decide (c.toInt = lo) && decide ((pc : Int) + o = (t : Int)) && g_tsok pc (lo + 1) ps l
  | _, _, _ => false
theorem g_ts_spec {pc d : Nat} {x : Int32} {k : Nat → Prop} : ∀ (ps : List (Int32 × Nat)) (lo : Int) (l : List Int), g_tsok pc lo ps l = true → g_sw ps d x k → (∃ (i : Nat) (o : Int) (t : Nat), x.toInt = lo + i ∧ l[i]? = some o ∧ (pc : Int) + o = (t : Int) ∧ k t) ∨ ((x.toInt < lo ∨ lo + l.length ≤ x.toInt) ∧ k d)
  | [], lo, [], _, h => Or.inr ⟨by simp; omega, h⟩
  | [], _, _ :: _, e, _ => by cases e
  | _ :: _, _, [], e, _ => by cases e
  | (c, t) :: ps, lo, o :: l, e, h => by
    simp only [g_tsok, Bool.and_eq_true, decide_eq_true_eq] at e
    by_cases z : x = c
    · exact Or.inl ⟨0, o, t, by rw [z, e.1.1]; simp, rfl, e.1.2, h.1 z⟩
    · have zz : ¬ x.toInt = lo := lv_neT z e.1.1
      rcases g_ts_spec ps (lo + 1) l e.2 (h.2 z) with ⟨i, o', t', h1, h2, h3, h4⟩ | ⟨h1, h2⟩
      · exact Or.inl ⟨i + 1, o', t', by rw [h1]; push_cast; omega, h2, h3, h4⟩
      · refine Or.inr ⟨?_, h2⟩
        simp only [List.length_cons]
        push_cast
        omega
theorem ok_lookup {sh : g_Sh} {mi : g_MI} {own : String} {cc : ByteArray} {nL : Nat} {rt : Option FieldType} {pc : Nat} {df : Int} {arr : Array (Int × Int)} {len d : Nat} {ps : List (Int32 × Nat)} (hd : decode cc pc = .ok (.lookupswitch df arr, len)) (hs : (arr.toList.zip (arr.toList.drop 1)).all (fun (a, next) => a.1 < next.1) = true) (hps : g_lsok pc ps arr.toList = true) (hdf : (pc : Int) + df = (d : Int)) : g_ok sh mi own cc nL rt pc (o_sw ps d) := by
  refine ⟨?_, ?_⟩
  · intro cal P P' Q Q' L st M hc hP hQ h
    unfold o_sw at h ⊢
    split at h
    · exact g_sw_mono (fun t => hP _ _ _ _) _ h
    · exact h.elim
  · intro p l e R s m args below meth c D cA μ ξ A d cal Q K C hK L st M H locs ls h hP hD hS hl
    obtain ⟨hx, hb, hml, hown, hts, hr, hlk, hKk, hA, hE, rfl, hSn⟩ := C
    unfold o_sw at h
    split at h
    · obtain ⟨off, tgt, h1, h2, h3⟩ := g_ls_spec hdf ps arr.toList hps h
      exact lv_lookup hx hb hd hs h1 h2 (hK _ _ _ _ _ _ _ (h3) hP hD hS hl)
    · exact h.elim
theorem ok_table {sh : g_Sh} {mi : g_MI} {own : String} {cc : ByteArray} {nL : Nat} {rt : Option FieldType} {pc : Nat} {df lo hi : Int} {offs : Array Int} {len d : Nat} {ps : List (Int32 × Nat)} (hd : decode cc pc = .ok (.tableswitch df lo hi offs, len)) (hps : g_tsok pc lo ps offs.toList = true) (hhi : lo + (offs.toList.length : Int) = hi + 1) (hdf : (pc : Int) + df = (d : Int)) : g_ok sh mi own cc nL rt pc (o_sw ps d) := by
  refine ⟨?_, ?_⟩
  · intro cal P P' Q Q' L st M hc hP hQ h
    unfold o_sw at h ⊢
    split at h
    · exact g_sw_mono (fun t => hP _ _ _ _) _ h
    · exact h.elim
  · intro p l e R s m args below meth c D cA μ ξ A d cal Q K C hK L st M H locs ls h hP hD hS hl
    obtain ⟨hx, hb, hml, hown, hts, hr, hlk, hKk, hA, hE, rfl, hSn⟩ := C
    unfold o_sw at h
    split at h
    · rcases g_ts_spec ps lo offs.toList hps h with ⟨i, o, t, h1, h2, h3, h4⟩ | ⟨h1, h2⟩
      · have hi2 : i < offs.toList.length := (List.getElem?_eq_some_iff.mp h2).1
        exact lv_tableIn hx hb hd (by omega) (by omega) (by rw [show (Int32.toInt _ - lo).toNat = i by omega, ← Array.getElem?_toList]; exact h2) h3 (hK _ _ _ _ _ _ _ (h4) hP hD hS hl)
      · exact lv_tableOut hx hb hd (by omega) hdf (hK _ _ _ _ _ _ _ (h2) hP hD hS hl)
    · exact h.elim
end
section
/-! ===== ops on cells, calls, returns ===== -/
theorem g_fv_spec {sh : g_Sh} {ci k a : Nat} {M : g_M} {K : Value → Prop} (h : g_fv sh ci k a M K) : ∃ ps p, a < sh.1 ∧ sh.2 a = .inr (ci, ps) ∧ g_nth ps k = some p ∧ K (match p with | some q => .ref q | none => .int (M a k)) := by
  unfold g_fv at h
  cases e : Nat.ble (a + 1) sh.1 with
  | false => rw [e] at h; exact False.elim h
  | true =>
    rw [e] at h
    have ha : a < sh.1 := Nat.le_of_ble_eq_true e
    cases es : sh.2 a with
    | inl x => rw [es] at h; exact False.elim h
    | inr x =>
      obtain ⟨cj, ps⟩ := x
      rw [es] at h
      cases ec : Nat.beq ci cj with
      | false => simp only [cond, ec] at h
      | true =>
        simp only [cond, ec] at h
        have hc : ci = cj := Nat.eq_of_beq_eq_true ec
        subst hc
        cases en : g_nth ps k with
        | none => rw [en] at h; exact False.elim h
        | some p =>
          rw [en] at h
          refine ⟨ps, p, ha, rfl, en, ?_⟩
          cases p with
          | none => exact h
          | some q => exact h
theorem g_fn_spec {sh : g_Sh} {ci k a : Nat} {K : Prop} (h : g_fn sh ci k a K) : ∃ ps, a < sh.1 ∧ sh.2 a = .inr (ci, ps) ∧ g_nth ps k = some none ∧ K := by
  unfold g_fn at h
  cases e : Nat.ble (a + 1) sh.1 with
  | false => rw [e] at h; exact False.elim h
  | true =>
    rw [e] at h
    have ha : a < sh.1 := Nat.le_of_ble_eq_true e
    cases es : sh.2 a with
    | inl x => rw [es] at h; exact False.elim h
    | inr x =>
      obtain ⟨cj, ps⟩ := x
      rw [es] at h
      cases ec : Nat.beq ci cj with
      | false => simp only [cond, ec] at h
      | true =>
        simp only [cond, ec] at h
        have hc : ci = cj := Nat.eq_of_beq_eq_true ec
        subst hc
        cases en : g_nth ps k with
        | none => rw [en] at h; exact False.elim h
        | some p =>
          rw [en] at h
          cases p with
          | some q => exact False.elim h
          | none => exact ⟨ps, ha, rfl, en, h⟩
theorem g_ob_spec {sh : g_Sh} {ci a : Nat} {K : Prop} (h : g_ob sh ci a K) : ∃ ps, a < sh.1 ∧ sh.2 a = .inr (ci, ps) ∧ K := by
  unfold g_ob at h
  cases e : Nat.ble (a + 1) sh.1 with
  | false => rw [e] at h; exact False.elim h
  | true =>
    rw [e] at h
    have ha : a < sh.1 := Nat.le_of_ble_eq_true e
    cases es : sh.2 a with
    | inl x => rw [es] at h; exact False.elim h
    | inr x =>
      obtain ⟨cj, ps⟩ := x
      rw [es] at h
      cases ec : Nat.beq ci cj with
      | false => simp only [cond, ec] at h
      | true =>
        simp only [cond, ec] at h
        have hc : ci = cj := Nat.eq_of_beq_eq_true ec
        subst hc
        exact ⟨ps, ha, rfl, h⟩
theorem g_ar_spec {sh : g_Sh} {kd a : Nat} {K : Nat → Prop} (h : g_ar sh kd a K) : ∃ n, a < sh.1 ∧ sh.2 a = .inl (kd, n) ∧ K n := by
  unfold g_ar at h
  cases e : Nat.ble (a + 1) sh.1 with
  | false => rw [e] at h; exact False.elim h
  | true =>
    rw [e] at h
    have ha : a < sh.1 := Nat.le_of_ble_eq_true e
    cases es : sh.2 a with
    | inr x => rw [es] at h; exact False.elim h
    | inl x =>
      obtain ⟨cj, n⟩ := x
      rw [es] at h
      cases ec : Nat.beq kd cj with
      | false => simp only [cond, ec] at h
      | true =>
        simp only [cond, ec] at h
        have hc : kd = cj := Nat.eq_of_beq_eq_true ec
        subst hc
        exact ⟨n, ha, rfl, h⟩
theorem g_fv_mono {sh : g_Sh} {ci k a : Nat} {M : g_M} {K K' : Value → Prop} (hk : ∀ v, K v → K' v) (h : g_fv sh ci k a M K) : g_fv sh ci k a M K' := by
  obtain ⟨ps, p, h1, h2, h3, h4⟩ := g_fv_spec h
  have e1 : Nat.ble (a + 1) sh.1 = true := Nat.ble_eq_true_of_le h1
  have e2 : Nat.beq ci ci = true := Nat.beq_refl ci
  unfold g_fv
  rw [e1, h2]
  simp only [cond, e2, h3]
  cases p with
  | none => exact hk _ h4
  | some q => exact hk _ h4
theorem g_fn_mono {sh : g_Sh} {ci k a : Nat} {K K' : Prop} (hk : K → K') (h : g_fn sh ci k a K) : g_fn sh ci k a K' := by
  obtain ⟨ps, h1, h2, h3, h4⟩ := g_fn_spec h
  have e1 : Nat.ble (a + 1) sh.1 = true := Nat.ble_eq_true_of_le h1
  have e2 : Nat.beq ci ci = true := Nat.beq_refl ci
  unfold g_fn
  rw [e1, h2]
  simp only [cond, e2, h3]
  exact hk h4
theorem g_ob_mono {sh : g_Sh} {ci a : Nat} {K K' : Prop} (hk : K → K') (h : g_ob sh ci a K) : g_ob sh ci a K' := by
  obtain ⟨ps, h1, h2, h4⟩ := g_ob_spec h
  have e1 : Nat.ble (a + 1) sh.1 = true := Nat.ble_eq_true_of_le h1
  have e2 : Nat.beq ci ci = true := Nat.beq_refl ci
  unfold g_ob
  rw [e1, h2]
  simp only [cond, e2]
  exact hk h4
theorem g_ar_mono {sh : g_Sh} {kd a : Nat} {K K' : Nat → Prop} (hk : ∀ n, K n → K' n) (h : g_ar sh kd a K) : g_ar sh kd a K' := by
  obtain ⟨n, h1, h2, h4⟩ := g_ar_spec h
  have e1 : Nat.ble (a + 1) sh.1 = true := Nat.ble_eq_true_of_le h1
  have e2 : Nat.beq kd kd = true := Nat.beq_refl kd
  unfold g_ar
  rw [e1, h2]
  simp only [cond, e2]
  exact hk n h4
theorem g_xa_spec {X : g_X} {k : Nat} {K : Nat → (Nat → Int32) → Prop} (h : g_xa X k K) : ∃ n f, X k = some (n, f) ∧ K n f := by
  unfold g_xa at h
  cases e : X k with
  | none => rw [e] at h; exact False.elim h
  | some x => rw [e] at h; exact ⟨x.1, x.2, rfl, h⟩
theorem g_xa_mono {X : g_X} {k : Nat} {K K' : Nat → (Nat → Int32) → Prop} (hk : ∀ n f, K n f → K' n f) (h : g_xa X k K) : g_xa X k K' := by
  obtain ⟨n, f, h1, h2⟩ := g_xa_spec h
  unfold g_xa
  rw [h1]
  exact hk n f h2
theorem g_cond_spec {b : Bool} {K : Prop} (h : cond b K False) : b = true ∧ K := by cases b with
  | true => exact ⟨rfl, h⟩
  | false => exact False.elim h
theorem g_cond_mono {b : Bool} {K K' : Prop} (hk : K → K') (h : cond b K False) : cond b K' False := by cases b with
  | true => exact hk h
  | false => exact h
theorem g_pop_spec : ∀ (n : Nat) (st as : List Value) (k : List Value → List Value → Prop), g_pop n st as k → ∃ vs r, st = vs ++ r ∧ vs.length = n ∧ k (vs.reverse ++ as) r := by
  intro n
  induction n with
  | zero => intro st as k h; exact ⟨[], st, rfl, rfl, h⟩
  | succ n ih =>
    intro st as k h
    cases st with
    | nil => exact False.elim h
    | cons v st =>
      obtain ⟨vs, r, h1, h2, h3⟩ := ih st (v :: as) k h
      exact ⟨v :: vs, r, by rw [h1]; rfl, by simp [h2], by simpa using h3⟩
theorem g_pop_mono : ∀ (n : Nat) (st as : List Value) (k k' : List Value → List Value → Prop), (∀ as r, k as r → k' as r) → g_pop n st as k → g_pop n st as k' := by
  intro n
  induction n with
  | zero => intro st as k k' hk h; exact hk _ _ h
  | succ n ih =>
    intro st as k k' hk h
    cases st with
    | nil => exact h
    | cons v st => exact ih st (v :: as) k k' hk h
/-- the world behind a store -/
theorem g_put_P {D : va_G} {cA : Nat → ClassId} {μ : Nat → Nat} {M : g_M} {sh : g_Sh} {a : Nat} {H : Heap} {f : Nat → Int32} {e : va_E} (ha : a < sh.1) (he : e = g_cell cA μ f (sh.2 a)) (h : va_P D g_cls ((g_wld cA μ M sh).set a (μ a, e)) H) : va_P D g_cls (g_wld cA μ (g_ms M a f) sh) H := by
  rw [he, g_wld_set ha] at h
  exact h
theorem g_put_D {A : Nat → Prop} {cA : Nat → ClassId} {μ : Nat → Nat} {M : g_M} {sh : g_Sh} {a : Nat} {f : Nat → Int32} {e : va_E} (ha : a < sh.1) (he : e = g_cell cA μ f (sh.2 a)) (h : va_D A ((g_wld cA μ M sh).set a (μ a, e))) : va_D A (g_wld cA μ (g_ms M a f) sh) := by
  rw [he, g_wld_set ha] at h
  exact h
section OKH
variable {sh : g_Sh} {mi : g_MI} {own : String} {cc : ByteArray} {nL : Nat} {rt : Option FieldType} {pc : Nat}
theorem ok_getf {ci k idx N : Nat} {C : String} {T : u_T} (hd : decode cc pc = .ok (.getfield idx, 3)) (hc : g_cls[ci]? = some (C, T, N)) (hin : ∀ w ∈ u_ws C T N, w ∈ g_tbl) (hk : k < N) (hw : Cond.fieldLink own idx (T k).1 (T k).2.1 (T k).2.2.1 ∈ g_tbl) : g_ok sh mi own cc nL rt pc (o_getf sh ci k (pc + 3)) := by
  refine ⟨?_, ?_⟩
  · intro cal P P' Q Q' L st M hc hP hQ h
    unfold o_getf at h ⊢
    split at h
    · exact g_fv_mono (fun v => hP _ _ _ _) h
    · exact h.elim
  · intro p l e R s m args below meth c D cA μ ξ A d cal Q K C hK L st M H locs ls h hP hD hS hl
    obtain ⟨hx, hb, hml, hown, hts, hr, hlk, hKk, hA, hE, rfl, hSn⟩ := C
    unfold o_getf at h
    split at h
    · rename_i a r
      obtain ⟨ps, p, h1, h2, h3, h4⟩ := g_fv_spec h
      have he := g_wld_at (cA := cA) (μ := μ) (M := M) h1
      rw [h2] at he
      refine va_get (D := D) (ci := ci) (v := g_fl μ (M a) k p) hx hb hts hin hown hKk hP a he hc k hk (hts _ hw) (fun _ h => h) (g_fl_at h3) hd ?_
      have h5 := hK _ _ _ _ _ _ _ h4 hP hD hS hl
      cases p with
      | none => exact h5
      | some q => exact h5
    · exact h.elim
theorem ok_putf {ci k idx N : Nat} {C : String} {T : u_T} {ty0 : Nat → FieldType} (hd : decode cc pc = .ok (.putfield idx, 3)) (hc : g_cls[ci]? = some (C, T, N)) (hin : ∀ w ∈ u_ws C T N, w ∈ g_tbl) (hty : ∀ k, k < N → parseFieldDescriptor (T k).2.2.1 = some (ty0 k)) (hnm : ∀ a, a < N → ∀ b, b < N → a ≠ b → (T a).2.1 ≠ (T b).2.1) (hk : k < N) (hw : Cond.fieldLink own idx (T k).1 (T k).2.1 (T k).2.2.1 ∈ g_tbl) (hfin : (T k).2.2.2 = false) (ht : ty0 k = .int) : g_ok sh mi own cc nL rt pc (o_putf sh ci k (pc + 3)) := by
  refine ⟨?_, ?_⟩
  · intro cal P P' Q Q' L st M hc hP hQ h
    unfold o_putf at h ⊢
    split at h
    · exact g_fn_mono (hP _ _ _ _) h
    · exact h.elim
  · intro p l e R s m args below meth c D cA μ ξ A d cal Q K C hK L st M H locs ls h hP hD hS hl
    obtain ⟨hx, hb, hml, hown, hts, hr, hlk, hKk, hA, hE, rfl, hSn⟩ := C
    unfold o_putf at h
    split at h
    · rename_i v a r
      obtain ⟨ps, h1, h2, h3, h4⟩ := g_fn_spec h
      have he := g_wld_at (cA := cA) (μ := μ) (M := M) h1
      rw [h2] at he
      have hl2 : k < (ps.mapIdx (g_fl μ (M a))).length := by
        rw [List.length_mapIdx]
        rw [g_nth_eq] at h3
        exact (List.getElem?_eq_some_iff.mp h3).1
      have eq : (Sum.inr (ci, (ps.mapIdx (g_fl μ (M a))).set k (.int v)) : va_E) = g_cell cA μ (upd (M a) k v) (sh.2 a) := by
        rw [h2, g_fl_set h3]
        rfl
      refine va_put (D := D) (ci := ci) (v := .int v) (ty := .int) hx hb hts hin ty0 hty hnm hown hKk hP hD hS a he hc k hk (hts _ hw) (fun _ h => h) hfin (by rw [hty k hk, ht]) (vp_nar_int v) rfl hl2 hd (fun H1 locs1 hP1 hD1 hS1 => ?_)
      exact hK _ _ _ _ _ _ _ h4 (g_put_P h1 eq hP1) (g_put_D h1 eq hD1) hS1 hl
    · exact h.elim
theorem ok_putz {ci k idx N : Nat} {C : String} {T : u_T} {ty0 : Nat → FieldType} (hd : decode cc pc = .ok (.putfield idx, 3)) (hc : g_cls[ci]? = some (C, T, N)) (hin : ∀ w ∈ u_ws C T N, w ∈ g_tbl) (hty : ∀ k, k < N → parseFieldDescriptor (T k).2.2.1 = some (ty0 k)) (hnm : ∀ a, a < N → ∀ b, b < N → a ≠ b → (T a).2.1 ≠ (T b).2.1) (hk : k < N) (hw : Cond.fieldLink own idx (T k).1 (T k).2.1 (T k).2.2.1 ∈ g_tbl) (hfin : (T k).2.2.2 = false) (ht : ty0 k = .boolean) : g_ok sh mi own cc nL rt pc (o_putz sh ci k (pc + 3)) := by
  refine ⟨?_, ?_⟩
  · intro cal P P' Q Q' L st M hc hP hQ h
    unfold o_putz at h ⊢
    split at h
    · exact g_fn_mono (fun z => ⟨z.1, hP _ _ _ _ z.2⟩) h
    · exact h.elim
  · intro p l e R s m args below meth c D cA μ ξ A d cal Q K C hK L st M H locs ls h hP hD hS hl
    obtain ⟨hx, hb, hml, hown, hts, hr, hlk, hKk, hA, hE, rfl, hSn⟩ := C
    unfold o_putz at h
    split at h
    · rename_i v a r
      obtain ⟨ps, h1, h2, h3, h4⟩ := g_fn_spec h
      have he := g_wld_at (cA := cA) (μ := μ) (M := M) h1
      rw [h2] at he
      have hl2 : k < (ps.mapIdx (g_fl μ (M a))).length := by
        rw [List.length_mapIdx]
        rw [g_nth_eq] at h3
        exact (List.getElem?_eq_some_iff.mp h3).1
      have eq : (Sum.inr (ci, (ps.mapIdx (g_fl μ (M a))).set k (.int v)) : va_E) = g_cell cA μ (upd (M a) k v) (sh.2 a) := by
        rw [h2, g_fl_set h3]
        rfl
      have hn : narrow .boolean (.int v) = .int v ∧ fits .boolean (.int v) = true := by
        rcases h4.1 with rfl | rfl <;> exact ⟨by decide, by decide⟩
      refine va_put (D := D) (ci := ci) (v := .int v) (ty := .boolean) hx hb hts hin ty0 hty hnm hown hKk hP hD hS a he hc k hk (hts _ hw) (fun _ h => h) hfin (by rw [hty k hk, ht]) hn.1 hn.2 hl2 hd (fun H1 locs1 hP1 hD1 hS1 => ?_)
      exact hK _ _ _ _ _ _ _ h4.2 (g_put_P h1 eq hP1) (g_put_D h1 eq hD1) hS1 hl
    · exact h.elim
theorem g_x0_int {k n : Nat} {f : Nat → Int32} (h : g_x0 k = some (n, f)) (hk : k < 20) {ξ : Nat → Nat} {A : Nat → Prop} {U : State} {H : Heap} (hE : g_ext ξ A U H) : va_T .int (ξ k) n (fun j => .int (f j)) A U H := by
  obtain ⟨h1, h2, h3, -⟩ := hE
  have hb : Nat.ble 20 k = false := by
    cases e : Nat.ble 20 k with
    | false => rfl
    | true => have := Nat.le_of_ble_eq_true e; omega
  unfold g_x0 at h
  rw [hb] at h
  by_cases k1 : k = 1
  · subst k1; cases h; exact h1
  · by_cases k2 : k = 2
    · subst k2; cases h; exact h2
    · by_cases k3 : k = 3
      · subst k3; cases h; exact h3
      · exfalso
        cases e1 : Nat.ble 1 k with
        | false => rw [e1] at h; cases h
        | true =>
          cases e2 : Nat.ble k 3 with
          | false => rw [e1, e2] at h; cases h
          | true =>
            have := Nat.le_of_ble_eq_true e1
            have := Nat.le_of_ble_eq_true e2
            omega
theorem g_x0_byte {k n : Nat} {f : Nat → Int32} (h : g_x0 k = some (n, f)) (hk : ¬ k < 20) {ξ : Nat → Nat} {A : Nat → Prop} {U : State} {H : Heap} (hE : g_ext ξ A U H) : va_T .byte (ξ k) n (fun j => .int (f j)) A U H := by
  obtain ⟨-, -, -, -, -, -, -, -, h1, -⟩ := hE
  have hb : Nat.ble 20 k = true := Nat.ble_eq_true_of_le (by omega)
  unfold g_x0 at h
  rw [hb] at h
  cases e : Nat.ble 26 k with
  | true => rw [e] at h; cases h
  | false =>
    rw [e] at h
    cases h
    have hk2 : k - 20 < 6 := by
      rcases Nat.lt_or_ge k 26 with q | q
      · omega
      · rw [Nat.ble_eq_true_of_le q] at e; cases e
    have h2 := (h1.1 (k - 20) hk2).2.2.2
    dsimp only at h2
    rw [show 20 + (k - 20) = k by omega] at h2
    exact h2
theorem ok_iald (hd : decode cc pc = .ok (.iaload, 1)) : g_ok sh mi own cc nL rt pc (o_iald sh (fun k => cond (Nat.ble 20 k) none (g_x0 k)) (pc + 1)) := by
  refine ⟨?_, ?_⟩
  · intro cal P P' Q Q' L st M hc hP hQ h
    unfold o_iald at h ⊢
    split at h
    · exact g_ar_mono (fun n z => ⟨z.1, hP _ _ _ _ z.2⟩) h
    · exact g_xa_mono (fun n f z => ⟨z.1, hP _ _ _ _ z.2⟩) h
    · exact h.elim
  · intro p l e R s m args below meth c D cA μ ξ A d cal Q K C hK L st M H locs ls h hP hD hS hl
    obtain ⟨hx, hb, hml, hown, hts, hr, hlk, hKk, hA, hE, rfl, hSn⟩ := C
    unfold o_iald at h
    split at h
    · rename_i i a r
      obtain ⟨n, h1, h2, h3, h4⟩ := g_ar_spec h
      have he := g_wld_at (cA := cA) (μ := μ) (M := M) h1
      rw [h2] at he
      exact va_iald hx hb hKk hP a 0 he rfl h3 hd (hK _ _ _ _ _ _ _ h4 hP hD hS hl)
    · rename_i i k r
      obtain ⟨n, f, h2, h3, h4⟩ := g_xa_spec h
      cases e : Nat.ble 20 k with
      | true => simp only [e] at h2; cases h2
      | false =>
        simp only [e, cond] at h2
        have hk : k < 20 := by
          rcases Nat.lt_or_ge k 20 with q | q
          · exact q
          · rw [Nat.ble_eq_true_of_le q] at e; cases e
        exact va_ti hx hb (g_x0_int h2 hk hE) hS h3 rfl hd (hK _ _ _ _ _ _ _ h4 hP hD hS hl)
    · exact h.elim
theorem ok_bald (hd : decode cc pc = .ok (.baload, 1)) : g_ok sh mi own cc nL rt pc (o_bald (fun k => cond (Nat.ble 20 k) (g_x0 k) none) (pc + 1)) := by
  refine ⟨?_, ?_⟩
  · intro cal P P' Q Q' L st M hc hP hQ h
    unfold o_bald at h ⊢
    split at h
    · exact g_xa_mono (fun n f z => ⟨z.1, hP _ _ _ _ z.2⟩) h
    · exact h.elim
  · intro p l e R s m args below meth c D cA μ ξ A d cal Q K C hK L st M H locs ls h hP hD hS hl
    obtain ⟨hx, hb, hml, hown, hts, hr, hlk, hKk, hA, hE, rfl, hSn⟩ := C
    unfold o_bald at h
    split at h
    · rename_i i k r
      obtain ⟨n, f, h2, h3, h4⟩ := g_xa_spec h
      cases e : Nat.ble 20 k with
      | false => simp only [e] at h2; cases h2
      | true =>
        simp only [e, cond] at h2
        have hk : ¬ k < 20 := by have := Nat.le_of_ble_eq_true e; omega
        exact va_tb hx hb (g_x0_byte h2 hk hE) hS h3 rfl hd (hK _ _ _ _ _ _ _ h4 hP hD hS hl)
    · exact h.elim
theorem ok_alen (hd : decode cc pc = .ok (.arraylength, 1)) : g_ok sh mi own cc nL rt pc (o_alen sh g_x0 (pc + 1)) := by
  refine ⟨?_, ?_⟩
  · intro cal P P' Q Q' L st M hc hP hQ h
    unfold o_alen at h ⊢
    split at h
    · exact g_ar_mono (fun n z => hP _ _ _ _ z) h
    · exact g_xa_mono (fun n f z => hP _ _ _ _ z) h
    · exact h.elim
  · intro p l e R s m args below meth c D cA μ ξ A d cal Q K C hK L st M H locs ls h hP hD hS hl
    obtain ⟨hx, hb, hml, hown, hts, hr, hlk, hKk, hA, hE, rfl, hSn⟩ := C
    unfold o_alen at h
    split at h
    · rename_i a r
      obtain ⟨n, h1, h2, h4⟩ := g_ar_spec h
      have he := g_wld_at (cA := cA) (μ := μ) (M := M) h1
      rw [h2] at he
      exact va_alen (ty := .int) hx hb hKk hP a 0 he rfl rfl hd (hK _ _ _ _ _ _ _ h4 hP hD hS hl)
    · rename_i k r
      obtain ⟨n, f, h2, h4⟩ := g_xa_spec h
      by_cases hk : k < 20
      · exact va_tlen hx hb (g_x0_int h2 hk hE) hS rfl hd (hK _ _ _ _ _ _ _ h4 hP hD hS hl)
      · exact va_tlen hx hb (g_x0_byte h2 hk hE) hS rfl hd (hK _ _ _ _ _ _ _ h4 hP hD hS hl)
    · exact h.elim
theorem ok_iast (hd : decode cc pc = .ok (.iastore, 1)) : g_ok sh mi own cc nL rt pc (o_iast sh (pc + 1)) := by
  refine ⟨?_, ?_⟩
  · intro cal P P' Q Q' L st M hc hP hQ h
    unfold o_iast at h ⊢
    split at h
    · exact g_ar_mono (fun n z => ⟨z.1, hP _ _ _ _ z.2⟩) h
    · exact h.elim
  · intro p l e R s m args below meth c D cA μ ξ A d cal Q K C hK L st M H locs ls h hP hD hS hl
    obtain ⟨hx, hb, hml, hown, hts, hr, hlk, hKk, hA, hE, rfl, hSn⟩ := C
    unfold o_iast at h
    split at h
    · rename_i v i a r
      obtain ⟨n, h1, h2, h3, h4⟩ := g_ar_spec h
      have he := g_wld_at (cA := cA) (μ := μ) (M := M) h1
      rw [h2] at he
      have eq : (Sum.inl (cA 0, n, .inl (upd (M a) i.toNatClampNeg v)) : va_E) = g_cell cA μ (upd (M a) i.toNatClampNeg v) (sh.2 a) := by
        rw [h2]
        rfl
      exact va_iast hx hb hKk hP hD hS a 0 he rfl h3 hd (fun H1 locs1 hP1 hD1 hS1 => hK _ _ _ _ _ _ _ h4 (g_put_P h1 eq hP1) (g_put_D h1 eq hD1) hS1 hl)
    · exact h.elim
theorem ok_zald (hd : decode cc pc = .ok (.baload, 1)) : g_ok sh mi own cc nL rt pc (o_zald sh (pc + 1)) := by
  refine ⟨?_, ?_⟩
  · intro cal P P' Q Q' L st M hc hP hQ h
    unfold o_zald at h ⊢
    split at h
    · exact g_ar_mono (fun n z => ⟨z.1, hP _ _ _ _ z.2⟩) h
    · exact h.elim
  · intro p l e R s m args below meth c D cA μ ξ A d cal Q K C hK L st M H locs ls h hP hD hS hl
    obtain ⟨hx, hb, hml, hown, hts, hr, hlk, hKk, hA, hE, rfl, hSn⟩ := C
    unfold o_zald at h
    split at h
    · rename_i i a r
      obtain ⟨n, h1, h2, h3, h4⟩ := g_ar_spec h
      have he := g_wld_at (cA := cA) (μ := μ) (M := M) h1
      rw [h2] at he
      exact va_zald hx hb hKk hP a 1 he rfl h3 hd (hK _ _ _ _ _ _ _ h4 hP hD hS hl)
    · exact h.elim
theorem ok_zast (hd : decode cc pc = .ok (.bastore, 1)) : g_ok sh mi own cc nL rt pc (o_zast sh (pc + 1)) := by
  refine ⟨?_, ?_⟩
  · intro cal P P' Q Q' L st M hc hP hQ h
    unfold o_zast at h ⊢
    split at h
    · exact g_ar_mono (fun n z => ⟨z.1, z.2.1, hP _ _ _ _ z.2.2⟩) h
    · exact h.elim
  · intro p l e R s m args below meth c D cA μ ξ A d cal Q K C hK L st M H locs ls h hP hD hS hl
    obtain ⟨hx, hb, hml, hown, hts, hr, hlk, hKk, hA, hE, rfl, hSn⟩ := C
    unfold o_zast at h
    split at h
    · rename_i v i a r
      obtain ⟨n, h1, h2, h3, h5, h4⟩ := g_ar_spec h
      have he := g_wld_at (cA := cA) (μ := μ) (M := M) h1
      rw [h2] at he
      have hn : vp_nar .boolean v = v := by rcases h5 with rfl | rfl <;> decide
      have eq : (Sum.inl (cA 1, n, .inl (upd (M a) i.toNatClampNeg (vp_nar .boolean v))) : va_E) = g_cell cA μ (upd (M a) i.toNatClampNeg v) (sh.2 a) := by
        rw [h2, hn]
        rfl
      exact va_zast hx hb hKk hP hD hS a 1 he rfl h3 hd (fun H1 locs1 hP1 hD1 hS1 => hK _ _ _ _ _ _ _ h4 (g_put_P h1 eq hP1) (g_put_D h1 eq hD1) hS1 hl)
    · exact h.elim
theorem ok_iret (hd : decode cc pc = .ok (.ireturn, 1)) (hrt : rt = some .int) : g_ok sh mi own cc nL rt pc o_iret := by
  refine ⟨?_, ?_⟩
  · intro cal P P' Q Q' L st M hc hP hQ h
    unfold o_iret at h ⊢
    split at h
    · exact hQ _ _ h
    · exact h.elim
  · intro p l e R s m args below meth c D cA μ ξ A d cal Q K C hK L st M H locs ls h hP hD hS hl
    obtain ⟨hx, hb, hml, hown, hts, hr, hlk, hKk, hA, hE, rfl, hSn⟩ := C
    unfold o_iret at h
    split at h
    · rename_i v
      exact W.iret (v := v) hx hb (hr.trans hrt) (fun t ht hW => ⟨⟨some (.int v), M, rfl, h, by rw [ht]; exact hP, va_K.moved hW.alike hKk, hD⟩, hS.F ht⟩) hS.2.2 hd hlk
    · exact h.elim
theorem ok_nret {ty : FieldType} (hd : decode cc pc = .ok (.ireturn, 1)) (hrt : rt = some ty) : g_ok sh mi own cc nL rt pc (o_nret ty) := by
  refine ⟨?_, ?_⟩
  · intro cal P P' Q Q' L st M hc hP hQ h
    unfold o_nret at h ⊢
    split at h
    · exact ⟨h.1, hQ _ _ h.2⟩
    · exact h.elim
  · intro p l e R s m args below meth c D cA μ ξ A d cal Q K C hK L st M H locs ls h hP hD hS hl
    obtain ⟨hx, hb, hml, hown, hts, hr, hlk, hKk, hA, hE, rfl, hSn⟩ := C
    unfold o_nret at h
    split at h
    · rename_i v
      exact W.zret (v := v) hx hb (hr.trans hrt) h.1 (fun t ht hW => ⟨⟨some (.int v), M, rfl, h.2, by rw [ht]; exact hP, va_K.moved hW.alike hKk, hD⟩, hS.F ht⟩) hS.2.2 hd hlk
    · exact h.elim
theorem ok_aret {n : String} (hd : decode cc pc = .ok (.areturn, 1)) (hrt : rt = some (.object n)) : g_ok sh mi own cc nL rt pc o_aret := by
  refine ⟨?_, ?_⟩
  · intro cal P P' Q Q' L st M hc hP hQ h
    unfold o_aret at h ⊢
    split at h
    · exact hQ _ _ h
    · exact h.elim
  · intro p l e R s m args below meth c D cA μ ξ A d cal Q K C hK L st M H locs ls h hP hD hS hl
    obtain ⟨hx, hb, hml, hown, hts, hr, hlk, hKk, hA, hE, rfl, hSn⟩ := C
    unfold o_aret at h
    split at h
    · rename_i v
      exact W.aret (v := .ref (ξ v)) hx hb (hr.trans hrt) (Or.inl ⟨n, rfl⟩) (Or.inr ⟨_, rfl⟩) (fun t ht hW => ⟨⟨some (.retAddr v), M, rfl, h, by rw [ht]; exact hP, va_K.moved hW.alike hKk, hD⟩, hS.F ht⟩) hS.2.2 hd hlk
    · exact h.elim
theorem ok_vret (hd : decode cc pc = .ok (.return_, 1)) (hrt : rt = none) : g_ok sh mi own cc nL rt pc o_vret := by
  refine ⟨?_, ?_⟩
  · intro cal P P' Q Q' L st M hc hP hQ h
    unfold o_vret at h ⊢
    split at h
    · exact hQ _ _ h
    · exact h.elim
  · intro p l e R s m args below meth c D cA μ ξ A d cal Q K C hK L st M H locs ls h hP hD hS hl
    obtain ⟨hx, hb, hml, hown, hts, hr, hlk, hKk, hA, hE, rfl, hSn⟩ := C
    unfold o_vret at h
    split at h
    · exact W.vret hx hb (hr.trans hrt) (fun t ht hW => ⟨⟨none, M, rfl, h, by rw [ht]; exact hP, va_K.moved hW.alike hKk, hD⟩, hS.F ht⟩) hS.2.2 hd hlk
    · exact h.elim
end OKH
end
section
/-! ===== calls, statics, what the JDK does by itself ===== -/
section GCALL
variable {p : Program} {l : Launch} {e : Env} {R : Room} {s : State} {m : MethodId} {args : Array Value} {below : List Frame} {meth : Method} {c : Code} {H : Heap} {locs : List Loc} {Q : State → Prop}
variable {sh : g_Sh} {D : va_G} {cA : Nat → ClassId} {μ ξ : Nat → Nat} {A : Nat → Prop}
/-- behind a call: what came back holds, the rest is as it was -/
theorem g_call {M : g_M} {Q1 : g_R} {pc : Nat} {ls : Array Slot} {st0 rest : List Value} {a : Array Value} (hr : va_Run p l e R s m args below meth c H locs 0 0 0 0 (F0 m pc ls st0) rest (g_post sh D cA μ ξ Q1 (va_A (g_wld cA μ M sh) H.size) a) (va_A (g_wld cA μ M sh) H.size))
    (hS : va_S A s.heap H locs) (hf : ∀ q, va_A (g_wld cA μ M sh) H.size q → A q)
    (kk : ∀ (v : Option Value) (M' : g_M) (H1 : Heap) (locs1 : List Loc), Q1 v M' → va_P D g_cls (g_wld cA μ M' sh) H1 → va_D A (g_wld cA μ M' sh) → va_S A s.heap H1 locs1 → W p l e R s m args below meth c H1 locs1 0 0 Q (F0 m (pc + 3) ls ((v.map (g_cv μ ξ)).toList ++ rest))) :
    W p l e R s m args below meth c H locs 0 0 Q (F0 m pc ls st0) := by
  intro T hT X
  obtain ⟨v, st₀, t, T', L, h0, X', hL, e1, e2, ⟨⟨v', M', hv, hp, hPt, hKt, hDt⟩, hz, hk⟩, st⟩ := hr T hT X
  cases hv
  rw [h0] at hz hk
  obtain ⟨t2, a1, b1⟩ := kk v' M' T'.heap (locs ++ L) hp (by rw [e1]; exact hPt) (hDt.weaken (fun _ q _ h => hf q.1 h))
    ⟨Nat.le_trans hS.1 (by rw [e1]; exact hz), fun q h1 h2 => by rw [e1, hk q (Nat.lt_of_lt_of_le h1 hS.1) (fun z => h2 (hf q z))]; exact hS.2.1 q h1 h2, fun q hq => by
      rcases List.mem_append.mp hq with h | h
      · exact hS.2.2 q h
      · exact hf _ (hL q h)⟩ T' rfl X'
  exact ⟨t2, st t2 a1, b1⟩
theorem g_free {M : g_M} {A0 : Nat → Prop} (hD : va_D A0 (g_wld cA μ M sh)) (hS : va_S A0 s.heap H locs) (hA : ∀ q, s.heap.size ≤ q → A0 q) : ∀ q, va_A (g_wld cA μ M sh) H.size q → A0 q := by
  intro q h
  rcases h with ⟨k, e, h⟩ | h
  · exact hD.2 k (q, e) h
  · exact hA q (Nat.le_trans hS.1 h)
theorem g_blind {as : List Value} {M : g_M} {sz : Nat} : FrameBlind (g_pre sh D cA μ ξ as M sz) := by
  intro a U g mk q
  obtain ⟨q0, q1, qP, qK, qD, qE⟩ := q
  exact ⟨q0, q1, qP, va_K.moved (u := U) (U := U.calling g mk a) (Vm.Alike.refl U.vm) qK, qD, g_ext.same (u := U) (U := U.calling g mk a) rfl qE⟩
theorem g_preAt {as : List Value} {M : g_M} (hKk : va_K D g_cls (g_tys cA) s) (hP : va_P D g_cls (g_wld cA μ M sh) H) (hD : va_D A (g_wld cA μ M sh)) (hS : va_S A s.heap H locs) (hA : ∀ q, s.heap.size ≤ q → A q) (hE : g_ext ξ A s s.heap) (U : State) (hU : U.heap = H) (hW : s.WarmedH U.vm) : g_pre sh D cA μ ξ as M H.size (as.map (g_cv μ ξ)).toArray U :=
  ⟨rfl, by rw [hU], by rw [hU]; exact hP, va_K.moved hW.alike hKk, hD.weaken (fun _ _ _ _ => trivial), by rw [hU]; exact ((hE.kept hS.2.1).warm hW).narrow (g_free hD hS hA)⟩
end GCALL
section OKC
variable {sh : g_Sh} {mi : g_MI} {own : String} {cc : ByteArray} {nL : Nat} {rt : Option FieldType} {pc : Nat}
/-- what is known of a callee's words -/
def g_cw (mi : g_MI) (k n : Nat) : Prop := Cond.code (mi k).1 (mi k).2.1 (mi k).2.2.1 (mi k).2.2.2 ∈ g_tbl ∧ Cond.initialized (mi k).1.cls ∈ g_tbl ∧ ((mi k).1.cls ≠ "java/lang/invoke/MethodHandle" ∧ (mi k).1.cls ≠ "java/lang/invoke/VarHandle" ∧ (parseMethodDescriptor (mi k).1.desc).map (fun d => d.parameters.length) = some n) ∧ (mi k).2.2.1 ≤ 31
theorem g_good {k n : Nat} (h : g_cw mi k n) : GoodIn g_tbl (g_ws mi k) := by
  intro w hw
  rcases List.mem_cons.mp hw with rfl | hw
  · exact g_tbl_good _ h.1
  · exact g_tbl_good _ hw
theorem g_callB {k n idx d' : Nat} {s : State} {args : Array Value} (h : g_cw mi k n) (hts : ∀ w ∈ g_tbl, w.before args s = true) (hw : Cond.methodLink own idx (mi k).1 ∈ g_tbl) : CallB (g_rm (d' + 1)) s args own idx (mi k).1 (mi k).2.1 (mi k).2.2.1 (mi k).2.2.2 (g_ws mi k) (g_rm d') 0 0 n :=
  callB_of n hts (g_good h) rfl rfl rfl (hts _ h.2.1) (hts _ hw) h.2.2.1 ⟨by show d' + 1 + 1 ≤ d' + 1 + 1; omega, by show 8 + ((mi k).2.2.1 + 11) + (50 * d' + 50) ≤ 50 * (d' + 1) + 50; have := h.2.2.2; omega⟩
theorem ok_callV_core {ci k n idx N : Nat} {C : String} {T : u_T} (hd : decode cc pc = .ok (.invokevirtual idx, 3)) (hc : g_cls[ci]? = some (C, T, N)) (hcw : g_cw mi k n) (hw : Cond.methodLink own idx (mi k).1 ∈ g_tbl) (hi : Cond.instanceMethod (mi k).1 ∈ g_tbl) (hs : Cond.selects C (mi k).1 (mi k).1 ∈ g_tbl)
    {p : Program} {l : Launch} {e : Env} {R : Room} {s : State} {m : MethodId} {args : Array Value} {below : List Frame} {meth : Method} {c : Code} {D : va_G} {cA : Nat → ClassId} {μ ξ : Nat → Nat} {A : Nat → Prop} {d : Nat} {cal : g_C} {Q : g_R} {F : Option Value → g_M → Prop} (hC : g_Cx sh mi own cc nL rt p l R s m args meth c D cA μ ξ A d cal)
    {L st : List Value} {M : g_M} {H : Heap} {locs : List Loc} {ls : Array Slot} {vs r : List Value} {a : Nat} {bs : List Value} (e1 : st = vs ++ r) (e2 : vs.length = n + 1) (e3 : vs.reverse ++ [] = .ref a :: bs) (ho : ∃ ps, a < sh.1 ∧ sh.2 a = .inr (ci, ps)) (hwd : Nat.ble (g_wd r) 8 = true) (h : cal k (vs.reverse ++ []) M F)
    (hP : va_P D g_cls (g_wld cA μ M sh) H) (hD : va_D A (g_wld cA μ M sh)) (hS : va_S A s.heap H locs) (hl : g_lr μ ξ ls nL L)
    (kk : ∀ (v : Option Value) (M' : g_M) (H1 : Heap) (locs1 : List Loc), F v M' → va_P D g_cls (g_wld cA μ M' sh) H1 → va_D A (g_wld cA μ M' sh) → va_S A s.heap H1 locs1 → W p l e R s m args below meth c H1 locs1 0 0 (MQ below (g_post sh D cA μ ξ Q A) args s 0 0 A) (F0 m (pc + 3) ls ((v.map (g_cv μ ξ)).toList ++ r.map (g_cv μ ξ)))) :
    W p l e R s m args below meth c H locs 0 0 (MQ below (g_post sh D cA μ ξ Q A) args s 0 0 A) (F0 m pc ls (st.map (g_cv μ ξ))) := by
  obtain ⟨hx, hb, hml, hown, hts, hr, hlk, hKk, hA, hE, rfl, hSn⟩ := hC
  obtain ⟨d', rfl, hM⟩ := hSn k _ M _ h
  obtain ⟨ps, ho1, ho2⟩ := ho
  have he := g_wld_at (cA := cA) (μ := μ) (M := M) ho1
  rw [ho2] at he
  rw [List.append_nil] at e3 h hM
  have e4 : (vs.map (g_cv μ ξ)) = (bs.map (g_cv μ ξ)).reverse ++ [.ref (μ a)] := by
    have : vs = bs.reverse ++ [.ref a] := by
      have := congrArg List.reverse e3
      simpa using this
    rw [this]
    simp [g_cv]
  have hM := hM H.size
  rw [e3] at hM
  refine g_call (va_runV (As := bs.map (g_cv μ ξ)) (b := μ a) (rest := r.map (g_cv μ ξ)) ⟨hx, hb, hml, hown, hts⟩ hM ⟨g_callB hcw hts hw, hts _ hi, hts _ hs⟩ ⟨g_blind, va_recv hKk hP hc he, fun U hU hW => g_preAt hKk hP hD hS hA hE U hU hW⟩ rfl ?_ hl.1 ?_ (lv_room ?_) hd ⟨Nat.zero_le _, Nat.zero_le _⟩) hS (g_free hD hS hA) kk
  · have := congrArg List.length e3
    simp at this
    simp; omega
  · show st.map (g_cv μ ξ) = _
    rw [e1, List.map_append, e4]
    simp
  · rw [g_wd_eq]
    exact Nat.le_of_ble_eq_true hwd
theorem ok_callS_core {k n idx : Nat} (hd : decode cc pc = .ok (.invokestatic idx, 3)) (hcw : g_cw mi k n)
    (hw : Cond.methodLink own idx (mi k).1 ∈ g_tbl ∨ ∃ host, ∀ (ξ : Nat → Nat) (A : Nat → Prop) (U : State) (H : Heap), g_ext ξ A U H → va_Nw (.methodLinkNest own idx (mi k).1 host) U) (hi : Cond.static (mi k).1 ∈ g_tbl)
    {p : Program} {l : Launch} {e : Env} {R : Room} {s : State} {m : MethodId} {args : Array Value} {below : List Frame} {meth : Method} {c : Code} {D : va_G} {cA : Nat → ClassId} {μ ξ : Nat → Nat} {A : Nat → Prop} {d : Nat} {cal : g_C} {Q : g_R} {F : Option Value → g_M → Prop} (hC : g_Cx sh mi own cc nL rt p l R s m args meth c D cA μ ξ A d cal)
    {L st : List Value} {M : g_M} {H : Heap} {locs : List Loc} {ls : Array Slot} {vs r : List Value} (e1 : st = vs ++ r) (e2 : vs.length = n) (hwd : Nat.ble (g_wd r) 8 = true) (h : cal k (vs.reverse ++ []) M F)
    (hP : va_P D g_cls (g_wld cA μ M sh) H) (hD : va_D A (g_wld cA μ M sh)) (hS : va_S A s.heap H locs) (hl : g_lr μ ξ ls nL L)
    (kk : ∀ (v : Option Value) (M' : g_M) (H1 : Heap) (locs1 : List Loc), F v M' → va_P D g_cls (g_wld cA μ M' sh) H1 → va_D A (g_wld cA μ M' sh) → va_S A s.heap H1 locs1 → W p l e R s m args below meth c H1 locs1 0 0 (MQ below (g_post sh D cA μ ξ Q A) args s 0 0 A) (F0 m (pc + 3) ls ((v.map (g_cv μ ξ)).toList ++ r.map (g_cv μ ξ)))) :
    W p l e R s m args below meth c H locs 0 0 (MQ below (g_post sh D cA μ ξ Q A) args s 0 0 A) (F0 m pc ls (st.map (g_cv μ ξ))) := by
  obtain ⟨hx, hb, hml, hown, hts, hr, hlk, hKk, hA, hE, rfl, hSn⟩ := hC
  obtain ⟨d', rfl, hM⟩ := hSn k _ M _ h
  rw [List.append_nil] at h hM
  have hM := hM H.size
  have q1 : ((vs.reverse).map (g_cv μ ξ)).length = n := by simp [e2]
  have q2 : (F0 m pc ls (st.map (g_cv μ ξ))).stack = ((vs.reverse).map (g_cv μ ξ)).reverse ++ r.map (g_cv μ ξ) := by
    show st.map (g_cv μ ξ) = _
    rw [e1, List.map_append]
    simp
  have q3 : 2 * (F0 m pc ls (st.map (g_cv μ ξ))).monitorRoom + ((r.map (g_cv μ ξ)).map fun v => v.category).sum ≤ 8 := lv_room (by rw [g_wd_eq]; exact Nat.le_of_ble_eq_true hwd)
  rcases hw with hw | ⟨host, hw⟩
  · exact g_call (va_runS (As := (vs.reverse).map (g_cv μ ξ)) (rest := r.map (g_cv μ ξ)) ⟨hx, hb, hml, hown, hts⟩ hM ⟨g_callB hcw hts hw, hts _ hi⟩ ⟨g_blind, fun U hU hW => g_preAt hKk hP hD hS hA hE U hU hW⟩ rfl q1 hl.1 q2 q3 hd ⟨Nat.zero_le _, Nat.zero_le _⟩) hS (g_free hD hS hA) kk
  · have hcn : va_CN (g_rm (d' + 1)) s args own idx (mi k).1 host (mi k).2.1 (mi k).2.2.1 (mi k).2.2.2 (g_ws mi k) (g_rm d') 0 0 n :=
      va_cnB n hts (g_good hcw) rfl rfl rfl (hw ξ A s s.heap hE) (hts _ hcw.2.1) hcw.2.2.1 ⟨by show d' + 1 + 1 ≤ d' + 1 + 1; omega, by show 8 + ((mi k).2.2.1 + 11) + (50 * d' + 50) ≤ 50 * (d' + 1) + 50; have := hcw.2.2.2; omega⟩
    exact g_call (va_runSN (As := (vs.reverse).map (g_cv μ ξ)) (rest := r.map (g_cv μ ξ)) ⟨hx, hb, hml, hown, hts⟩ hM ⟨hcn, hts _ hi, trivial⟩ ⟨g_blind, fun U hU hW => g_preAt hKk hP hD hS hA hE U hU hW⟩ rfl q1 hl.1 q2 q3 hd ⟨Nat.zero_le _, Nat.zero_le _⟩) hS (g_free hD hS hA) kk
theorem ok_callV {ci k n idx N : Nat} {C : String} {T : u_T} (hd : decode cc pc = .ok (.invokevirtual idx, 3)) (hc : g_cls[ci]? = some (C, T, N)) (hcw : g_cw mi k n) (hw : Cond.methodLink own idx (mi k).1 ∈ g_tbl) (hi : Cond.instanceMethod (mi k).1 ∈ g_tbl) (hs : Cond.selects C (mi k).1 (mi k).1 ∈ g_tbl) : g_ok sh mi own cc nL rt pc (o_callV sh ci k (n + 1) (pc + 3)) := by
  refine ⟨?_, ?_⟩
  · intro cal P P' Q Q' L st M hcm hP hQ h
    refine g_pop_mono _ _ _ _ _ (fun as r z => ?_) h
    split at z
    · exact g_ob_mono (g_cond_mono (fun z => hcm _ _ _ _ _ (fun v N z => by cases v with
        | none => exact z
        | some x => exact hP _ _ _ _ z) z)) z
    · exact z.elim
  · intro p l e R s m args below meth c D cA μ ξ A d cal Q K C hK L st M H locs ls h hP hD hS hl
    obtain ⟨vs, r, e1, e2, h⟩ := g_pop_spec _ _ _ _ h
    split at h
    · rename_i a bs e3
      obtain ⟨ps, o1, o2, h⟩ := g_ob_spec h
      obtain ⟨h1, h⟩ := g_cond_spec h
      refine ok_callV_core hd hc hcw hw hi hs C e1 e2 e3 ⟨ps, o1, o2⟩ h1 h hP hD hS hl (fun v M' H1 locs1 hF hP1 hD1 hS1 => ?_)
      cases v with
      | none => exact False.elim hF
      | some x => exact hK _ _ _ _ _ _ _ hF hP1 hD1 hS1 hl
    · exact h.elim
theorem ok_callVv {ci k n idx N : Nat} {C : String} {T : u_T} (hd : decode cc pc = .ok (.invokevirtual idx, 3)) (hc : g_cls[ci]? = some (C, T, N)) (hcw : g_cw mi k n) (hw : Cond.methodLink own idx (mi k).1 ∈ g_tbl) (hi : Cond.instanceMethod (mi k).1 ∈ g_tbl) (hs : Cond.selects C (mi k).1 (mi k).1 ∈ g_tbl) : g_ok sh mi own cc nL rt pc (o_callVv sh ci k (n + 1) (pc + 3)) := by
  refine ⟨?_, ?_⟩
  · intro cal P P' Q Q' L st M hcm hP hQ h
    refine g_pop_mono _ _ _ _ _ (fun as r z => ?_) h
    split at z
    · exact g_ob_mono (g_cond_mono (fun z => hcm _ _ _ _ _ (fun v N z => by cases v with
        | none => exact hP _ _ _ _ z
        | some x => exact z) z)) z
    · exact z.elim
  · intro p l e R s m args below meth c D cA μ ξ A d cal Q K C hK L st M H locs ls h hP hD hS hl
    obtain ⟨vs, r, e1, e2, h⟩ := g_pop_spec _ _ _ _ h
    split at h
    · rename_i a bs e3
      obtain ⟨ps, o1, o2, h⟩ := g_ob_spec h
      obtain ⟨h1, h⟩ := g_cond_spec h
      refine ok_callV_core hd hc hcw hw hi hs C e1 e2 e3 ⟨ps, o1, o2⟩ h1 h hP hD hS hl (fun v M' H1 locs1 hF hP1 hD1 hS1 => ?_)
      cases v with
      | none => exact hK _ _ _ _ _ _ _ hF hP1 hD1 hS1 hl
      | some x => exact False.elim hF
    · exact h.elim
theorem ok_callS {k n idx : Nat} (hd : decode cc pc = .ok (.invokestatic idx, 3)) (hcw : g_cw mi k n) (hw : Cond.methodLink own idx (mi k).1 ∈ g_tbl ∨ ∃ host, ∀ (ξ : Nat → Nat) (A : Nat → Prop) (U : State) (H : Heap), g_ext ξ A U H → va_Nw (.methodLinkNest own idx (mi k).1 host) U) (hi : Cond.static (mi k).1 ∈ g_tbl) : g_ok sh mi own cc nL rt pc (o_callS k n (pc + 3)) := by
  refine ⟨?_, ?_⟩
  · intro cal P P' Q Q' L st M hcm hP hQ h
    refine g_pop_mono _ _ _ _ _ (fun as r z => ?_) h
    exact g_cond_mono (fun z => hcm _ _ _ _ _ (fun v N z => by cases v with
        | none => exact z
        | some x => exact hP _ _ _ _ z) z) z
  · intro p l e R s m args below meth c D cA μ ξ A d cal Q K C hK L st M H locs ls h hP hD hS hl
    obtain ⟨vs, r, e1, e2, h⟩ := g_pop_spec _ _ _ _ h
    obtain ⟨h1, h⟩ := g_cond_spec h
    refine ok_callS_core hd hcw hw hi C e1 e2 h1 h hP hD hS hl (fun v M' H1 locs1 hF hP1 hD1 hS1 => ?_)
    cases v with
    | none => exact False.elim hF
    | some x => exact hK _ _ _ _ _ _ _ hF hP1 hD1 hS1 hl
theorem ok_callSv {k n idx : Nat} (hd : decode cc pc = .ok (.invokestatic idx, 3)) (hcw : g_cw mi k n) (hw : Cond.methodLink own idx (mi k).1 ∈ g_tbl ∨ ∃ host, ∀ (ξ : Nat → Nat) (A : Nat → Prop) (U : State) (H : Heap), g_ext ξ A U H → va_Nw (.methodLinkNest own idx (mi k).1 host) U) (hi : Cond.static (mi k).1 ∈ g_tbl) : g_ok sh mi own cc nL rt pc (o_callSv k n (pc + 3)) := by
  refine ⟨?_, ?_⟩
  · intro cal P P' Q Q' L st M hcm hP hQ h
    refine g_pop_mono _ _ _ _ _ (fun as r z => ?_) h
    exact g_cond_mono (fun z => hcm _ _ _ _ _ (fun v N z => by cases v with
        | none => exact hP _ _ _ _ z
        | some x => exact z) z) z
  · intro p l e R s m args below meth c D cA μ ξ A d cal Q K C hK L st M H locs ls h hP hD hS hl
    obtain ⟨vs, r, e1, e2, h⟩ := g_pop_spec _ _ _ _ h
    obtain ⟨h1, h⟩ := g_cond_spec h
    refine ok_callS_core hd hcw hw hi C e1 e2 h1 h hP hD hS hl (fun v M' H1 locs1 hF hP1 hD1 hS1 => ?_)
    cases v with
    | none => exact hK _ _ _ _ _ _ _ hF hP1 hD1 hS1 hl
    | some x => exact False.elim hF
theorem ok_callX {k n idx : Nat} (hd : decode cc pc = .ok (.invokevirtual idx, 3)) (hcw : g_cw mi k n) (hw : Cond.methodLink own idx (mi k).1 ∈ g_tbl) (hi : Cond.instanceMethod (mi k).1 ∈ g_tbl) (hs : Cond.selects "java/lang/String" (mi k).1 (mi k).1 ∈ g_tbl) : g_ok sh mi own cc nL rt pc (o_callX 10 16 k (n + 1) (pc + 3)) := by
  refine ⟨?_, ?_⟩
  · intro cal P P' Q Q' L st M hcm hP hQ h
    refine g_pop_mono _ _ _ _ _ (fun as r z => ?_) h
    split at z
    · exact g_cond_mono (g_cond_mono (g_cond_mono (fun z => hcm _ _ _ _ _ (fun v N z => by cases v with
        | none => exact z
        | some x => exact hP _ _ _ _ z) z))) z
    · exact z.elim
  · intro p l e R s m args below meth c D cA μ ξ A d cal Q K C hK L st M H locs ls h hP hD hS hl
    obtain ⟨vs, r, e1, e2, h⟩ := g_pop_spec _ _ _ _ h
    split at h
    · rename_i a bs e3
      obtain ⟨o1, h⟩ := g_cond_spec h
      obtain ⟨o2, h⟩ := g_cond_spec h
      obtain ⟨hwd, h⟩ := g_cond_spec h
      obtain ⟨hx, hb, hml, hown, hts, hr, hlk, hKk, hA, hE, rfl, hSn⟩ := C
      obtain ⟨d', rfl, hM⟩ := hSn k _ M _ h
      have o1 := Nat.le_of_ble_eq_true o1
      have o2 := Nat.le_of_ble_eq_true o2
      rw [List.append_nil] at e3 h hM
      have e4 : (vs.map (g_cv μ ξ)) = (bs.map (g_cv μ ξ)).reverse ++ [.ref (ξ a)] := by
        have : vs = bs.reverse ++ [.retAddr a] := by
          have := congrArg List.reverse e3
          simpa using this
        rw [this]
        simp [g_cv]
      have hM := hM H.size
      rw [e3] at hM
      have hrecv : ∃ cell : Cell, H[ξ a]? = some cell ∧ cell.vm.isStatics = false ∧ s.vm.findClass "java/lang/String" = some cell.cls := by
        have := vk_recv (i := a - 10) hE.2.2.2.2.2.2.2.2.1 (by omega) hS
        rw [show 10 + (a - 10) = a by omega] at this
        exact this
      refine g_call (va_runV (C := "java/lang/String") (As := bs.map (g_cv μ ξ)) (b := ξ a) (rest := r.map (g_cv μ ξ)) ⟨hx, hb, hml, hown, hts⟩ hM ⟨g_callB hcw hts hw, hts _ hi, hts _ hs⟩ ⟨g_blind, hrecv, fun U hU hW => g_preAt hKk hP hD hS hA hE U hU hW⟩ rfl ?_ hl.1 ?_ (lv_room ?_) hd ⟨Nat.zero_le _, Nat.zero_le _⟩) hS (g_free hD hS hA) (fun v M' H1 locs1 hF hP1 hD1 hS1 => ?_)
      · have := congrArg List.length e3
        simp at this
        simp; omega
      · show st.map (g_cv μ ξ) = _
        rw [e1, List.map_append, e4]
        simp
      · rw [g_wd_eq]
        exact Nat.le_of_ble_eq_true hwd
      · cases v with
        | none => exact False.elim hF
        | some x => exact hK _ _ _ _ _ _ _ hF hP1 hD1 hS1 hl
    · exact h.elim
/-! what the JDK does by itself: copies, the greater, the less; statics -/
theorem ok_copy {idx : Nat} (hd : decode cc pc = .ok (.invokestatic idx, 3)) (h1 : Cond.methodLink own idx arraycopyName ∈ g_tbl) (h2 : Cond.native arraycopyName ∈ g_tbl) (h3 : Cond.static arraycopyName ∈ g_tbl) (h4 : Cond.initialized "java/lang/System" ∈ g_tbl) : g_ok sh mi own cc nL rt pc (o_copy sh (pc + 3)) := by
  refine ⟨?_, ?_⟩
  · intro cal P P' Q Q' L st M hc hP hQ h
    unfold o_copy at h ⊢
    split at h
    · exact g_ar_mono (fun n z => g_ar_mono (fun n z => ⟨z.1, g_cond_mono (hP _ _ _ _) z.2⟩) z) h
    · exact h.elim
  · intro p l e R s m args below meth c D cA μ ξ A d cal Q K C hK L st M H locs ls h hP hD hS hl
    obtain ⟨hx, hb, hml, hown, hts, hr, hlk, hKk, hA, hE, rfl, hSn⟩ := C
    unfold o_copy at h
    split at h
    · rename_i n dp a sp b r
      obtain ⟨n0, b1, b2, h⟩ := g_ar_spec h
      obtain ⟨n1, a1, a2, ⟨c1, c2, c3, c4, c5⟩, h⟩ := g_ar_spec h
      obtain ⟨hwd, h⟩ := g_cond_spec h
      have hb1 := g_wld_at (cA := cA) (μ := μ) (M := M) b1
      rw [b2] at hb1
      have ha1 := g_wld_at (cA := cA) (μ := μ) (M := M) a1
      rw [a2] at ha1
      have eq : (Sum.inl (cA 0, n1, .inl (va_cpy (M b) (M a) sp.toNatClampNeg dp.toNatClampNeg n.toNatClampNeg)) : va_E) = g_cell cA μ (va_cpy (M b) (M a) sp.toNatClampNeg dp.toNatClampNeg n.toNatClampNeg) (sh.2 a) := by
        rw [a2]
        rfl
      refine va_copyi hx hb (hml.trans hl.1.symm) hown (hts _ h1) (hts _ h2) (hts _ h3) (hts _ h4) hKk hP hD hS b a 0 0 hb1 ha1 rfl rfl rfl c1 c2 c3 c4 c5 (fun i _ => rfl) (by show 1 ≤ d + 1; omega) ?_ hd (fun H1 locs1 hP1 hD1 hS1 => hK _ _ _ _ _ _ _ h (g_put_P a1 eq hP1) (g_put_D a1 eq hD1) hS1 hl)
      have hn : nativeFrameWords "java/lang/System" "arraycopy" 5 + 11 ≤ 40 := by decide +kernel
      show _ ≤ 50 * d + 50
      have hw := Nat.le_of_ble_eq_true hwd
      rw [← g_wd_eq μ ξ] at hw
      omega
    · exact h.elim
theorem ok_max {idx : Nat} (hd : decode cc pc = .ok (.invokestatic idx, 3)) (h1 : Cond.methodLink own idx Lib.Math.max.name ∈ g_tbl) (h2 : Cond.static Lib.Math.max.name ∈ g_tbl) (h3 : Cond.initialized "java/lang/Math" ∈ g_tbl) (h4 : Cond.code Lib.Math.max.name Lib.Math.max.code 2 (some .int) ∈ g_tbl) : g_ok sh mi own cc nL rt pc (o_max (pc + 3)) := by
  refine ⟨?_, ?_⟩
  · intro cal P P' Q Q' L st M hc hP hQ h
    unfold o_max at h ⊢
    split at h
    · exact g_cond_mono (hP _ _ _ _) h
    · exact h.elim
  · intro p l e R s m args below meth c D cA μ ξ A d cal Q K C hK L st M H locs ls h hP hD hS hl
    obtain ⟨hx, hb, hml, hown, hts, hr, hlk, hKk, hA, hE, rfl, hSn⟩ := C
    unfold o_max at h
    split at h
    · obtain ⟨hwd, h⟩ := g_cond_spec h
      refine va_mmax hx hb (hml.trans hl.1.symm) hown (hts _ h1) (hts _ h2) (hts _ h3) (hts _ h4) (by show 1 ≤ d + 1; omega) ?_ (Nat.zero_le _) (Nat.zero_le _) hd (hK _ _ _ _ _ _ _ h hP hD hS hl)
      show _ ≤ 50 * d + 50
      have hw := Nat.le_of_ble_eq_true hwd
      rw [← g_wd_eq μ ξ] at hw
      omega
    · exact h.elim
theorem ok_min {idx : Nat} (hd : decode cc pc = .ok (.invokestatic idx, 3)) (h1 : Cond.methodLink own idx Lib.Math.min.name ∈ g_tbl) (h2 : Cond.static Lib.Math.min.name ∈ g_tbl) (h3 : Cond.initialized "java/lang/Math" ∈ g_tbl) (h4 : Cond.code Lib.Math.min.name Lib.Math.min.code 2 (some .int) ∈ g_tbl) : g_ok sh mi own cc nL rt pc (o_min (pc + 3)) := by
  refine ⟨?_, ?_⟩
  · intro cal P P' Q Q' L st M hc hP hQ h
    unfold o_min at h ⊢
    split at h
    · exact g_cond_mono (hP _ _ _ _) h
    · exact h.elim
  · intro p l e R s m args below meth c D cA μ ξ A d cal Q K C hK L st M H locs ls h hP hD hS hl
    obtain ⟨hx, hb, hml, hown, hts, hr, hlk, hKk, hA, hE, rfl, hSn⟩ := C
    unfold o_min at h
    split at h
    · obtain ⟨hwd, h⟩ := g_cond_spec h
      refine va_mmin hx hb (hml.trans hl.1.symm) hown (hts _ h1) (hts _ h2) (hts _ h3) (hts _ h4) (by show 1 ≤ d + 1; omega) ?_ (Nat.zero_le _) (Nat.zero_le _) hd (hK _ _ _ _ _ _ _ h hP hD hS hl)
      show _ ≤ 50 * d + 50
      have hw := Nat.le_of_ble_eq_true hwd
      rw [← g_wd_eq μ ξ] at hw
      omega
    · exact h.elim
/-- a static whose value the start gives -/
theorem ok_gets {idx : Nat} {C n dd : String} {v : Value} (hd : decode cc pc = .ok (.getstatic idx, 3)) (hw : Cond.fieldLink own idx C n dd ∈ g_tbl) (hv : ∀ (ξ : Nat → Nat) (A : Nat → Prop) (U : State) (H : Heap), g_ext ξ A U H → ∀ μ, va_Z C n dd (g_cv μ ξ v) A U H) : g_ok sh mi own cc nL rt pc (o_push v (pc + 3)) := by
  refine ⟨?_, ?_⟩
  · intro cal P P' Q Q' L st M hc hP hQ h
    exact hP _ _ _ _ h
  · intro p l e R s m args below meth c D cA μ ξ A d cal Q K C hK L st M H locs ls h hP hD hS hl
    obtain ⟨hx, hb, hml, hown, hts, hr, hlk, hKk, hA, hE, rfl, hSn⟩ := C
    exact va_gets hx hb (hv ξ A s s.heap hE μ) hS hown (hts _ hw) (fun _ h => h) hd (hK _ _ _ _ _ _ _ h hP hD hS hl)
theorem ok_getsQ {idx : Nat} (hd : decode cc pc = .ok (.getstatic idx, 3)) (hw : Cond.fieldLink own idx "jdk/internal/util/Preconditions" "SIOOBE_FORMATTER" "Ljava/util/function/BiFunction;" ∈ g_tbl) : g_ok sh mi own cc nL rt pc (o_pushQ 40 (pc + 3)) := by
  refine ⟨?_, ?_⟩
  · intro cal P P' Q Q' L st M hc hP hQ h
    exact ⟨hP _ _ _ _ h.1, hP _ _ _ _ h.2⟩
  · intro p l e R s m args below meth c D cA μ ξ A d cal Q K C hK L st M H locs ls h hP hD hS hl
    obtain ⟨hx, hb, hml, hown, hts, hr, hlk, hKk, hA, hE, rfl, hSn⟩ := C
    rcases hE.2.2.2.2.2.2.2.1 with z | z
    · exact va_gets hx hb z hS hown (hts _ hw) (fun _ h => h) hd (hK _ _ _ _ _ _ _ h.1 hP hD hS hl)
    · exact va_gets hx hb z hS hown (hts _ hw) (fun _ h => h) hd (hK _ _ _ _ _ _ _ h.2 hP hD hS hl)
theorem ok_ldcS {idx k : Nat} {tx : String} (hd : decode cc pc = .ok (.ldc idx, 2)) (hv : ∀ (ξ : Nat → Nat) (A : Nat → Prop) (U : State) (H : Heap), g_ext ξ A U H → vk_R own idx tx (ξ k) U) : g_ok sh mi own cc nL rt pc (o_push (.retAddr k) (pc + 2)) := by
  refine ⟨?_, ?_⟩
  · intro cal P P' Q Q' L st M hc hP hQ h
    exact hP _ _ _ _ h
  · intro p l e R s m args below meth c D cA μ ξ A d cal Q K C hK L st M H locs ls h hP hD hS hl
    obtain ⟨hx, hb, hml, hown, hts, hr, hlk, hKk, hA, hE, rfl, hSn⟩ := C
    exact va_ldcS hx hb hown (hv ξ A s s.heap hE) hd (hK _ _ _ _ _ _ _ h hP hD hS hl)
def g_fval : Nat → Option Value := fun k => cond (Nat.ble 10 k) (cond (Nat.ble 16 k) none (some (.retAddr (k + 10)))) none
def g_fcod : Nat → Option Value := fun k => cond (Nat.ble 10 k) (cond (Nat.ble 16 k) none (some (.int 0))) none
theorem g_xfld_spec {f : Nat → Option Value} {nx : Nat} {cal : g_C} {K : g_K} {Q : g_R} {L st : List Value} {M : g_M} (h : o_xfld f nx cal K Q L st M) : ∃ k r v, st = .retAddr k :: r ∧ f k = some v ∧ K nx L (v :: r) M := by
  unfold o_xfld at h
  cases st with
  | nil => exact False.elim h
  | cons x r =>
    cases x with
    | retAddr k =>
      cases e : f k with
      | none => simp only [e] at h
      | some v => simp only [e] at h; exact ⟨k, r, v, rfl, e, h⟩
    | _ => exact False.elim h
theorem g_xfld_mono {f : Nat → Option Value} {nx : Nat} : g_mono (o_xfld f nx) := by
  intro cal P P' Q Q' L st M hc hP hQ h
  obtain ⟨k, r, v, rfl, e, h⟩ := g_xfld_spec h
  show (match f k with | some v => P' nx L (v :: r) M | none => False)
  rw [e]
  exact hP _ _ _ _ h
theorem ok_fval {idx : Nat} (hd : decode cc pc = .ok (.getfield idx, 3)) (hw : Cond.fieldLink own idx "java/lang/String" "value" "[B" ∈ g_tbl) : g_ok sh mi own cc nL rt pc (o_xfld g_fval (pc + 3)) := by
  refine ⟨g_xfld_mono, ?_⟩
  intro p l e R s m args below meth c D cA μ ξ A d cal Q K C hK L st M H locs ls h hP hD hS hl
  obtain ⟨hx, hb, hml, hown, hts, hr, hlk, hKk, hA, hE, rfl, hSn⟩ := C
  obtain ⟨k, r, v, rfl, e1, h⟩ := g_xfld_spec h
  unfold g_fval at e1
  cases e2 : Nat.ble 10 k with
  | false => rw [e2] at e1; cases e1
  | true =>
    cases e3 : Nat.ble 16 k with
    | true => rw [e2, e3] at e1; cases e1
    | false =>
      rw [e2, e3] at e1
      cases e1
      have g1 := Nat.le_of_ble_eq_true e2
      have g2 : k < 16 := by
        rcases Nat.lt_or_ge k 16 with q | q
        · exact q
        · rw [Nat.ble_eq_true_of_le q] at e3; cases e3
      have g3 := (hE.2.2.2.2.2.2.2.2.1.1 (k - 10) (by omega)).2.2.1
      dsimp only at g3
      rw [show 10 + (k - 10) = k by omega, show 20 + (k - 10) = k + 10 by omega] at g3
      exact vk_getf hx hb g3 hS hown (hts _ hw) (fun _ h => h) hd (hK _ _ _ _ _ _ _ h hP hD hS hl)
theorem ok_fcod {idx : Nat} (hd : decode cc pc = .ok (.getfield idx, 3)) (hw : Cond.fieldLink own idx "java/lang/String" "coder" "B" ∈ g_tbl) : g_ok sh mi own cc nL rt pc (o_xfld g_fcod (pc + 3)) := by
  refine ⟨g_xfld_mono, ?_⟩
  intro p l e R s m args below meth c D cA μ ξ A d cal Q K C hK L st M H locs ls h hP hD hS hl
  obtain ⟨hx, hb, hml, hown, hts, hr, hlk, hKk, hA, hE, rfl, hSn⟩ := C
  obtain ⟨k, r, v, rfl, e1, h⟩ := g_xfld_spec h
  unfold g_fcod at e1
  cases e2 : Nat.ble 10 k with
  | false => rw [e2] at e1; cases e1
  | true =>
    cases e3 : Nat.ble 16 k with
    | true => rw [e2, e3] at e1; cases e1
    | false =>
      rw [e2, e3] at e1
      cases e1
      have g1 := Nat.le_of_ble_eq_true e2
      have g2 : k < 16 := by
        rcases Nat.lt_or_ge k 16 with q | q
        · exact q
        · rw [Nat.ble_eq_true_of_le q] at e3; cases e3
      have g3 := (hE.2.2.2.2.2.2.2.2.1.1 (k - 10) (by omega)).2.1
      dsimp only at g3
      rw [show 10 + (k - 10) = k by omega] at g3
      exact vk_getf hx hb g3 hS hown (hts _ hw) (fun _ h => h) hd (hK _ _ _ _ _ _ _ h hP hD hS hl)
end OKC
end
section
/-! ===== the program: shapes of its cells, its code tables, its methods ===== -/
def g_sn (n : Nat) (f g : Nat → g_SC) : Nat → g_SC := fun a => cond (Nat.ble n a) (g a) (f a)
def g_xi : g_X := fun k => cond (Nat.ble 20 k) none (g_x0 k)
def g_xb : g_X := fun k => cond (Nat.ble 20 k) (g_x0 k) none
def S0 : g_Sh := (107, (g_sn 53 (g_sn 26 (g_sn 13 (g_sn 6 (g_sn 3 (g_sn 1 (fun _ => .inr (9, [some 1, some 23, some 45, some 57, some 60, some 66, some 67, some 70, some 72, some 77, some 79, some 80, some 81, none, none])) (g_sn 2 (fun _ => .inr (8, [some 2, some 14, some 17, none])) (fun _ => .inr (1, [none, none, none, some 3, some 4, some 5, some 6, some 7, some 8, some 9, some 10, some 11, some 12, some 13])))) (g_sn 4 (fun _ => .inl (0, 8)) (g_sn 5 (fun _ => .inl (0, 8)) (fun _ => .inl (0, 8))))) (g_sn 9 (g_sn 7 (fun _ => .inl (0, 8)) (g_sn 8 (fun _ => .inl (0, 8)) (fun _ => .inl (0, 8)))) (g_sn 11 (g_sn 10 (fun _ => .inl (0, 8)) (fun _ => .inl (0, 64))) (g_sn 12 (fun _ => .inl (0, 64)) (fun _ => .inl (0, 64)))))) (g_sn 19 (g_sn 16 (g_sn 14 (fun _ => .inl (0, 64)) (g_sn 15 (fun _ => .inr (7, [some 15, some 16, none])) (fun _ => .inl (0, 7)))) (g_sn 17 (fun _ => .inl (0, 8)) (g_sn 18 (fun _ => .inr (4, [some 18, some 19, some 20, some 21, some 22, none, none, none, none, none])) (fun _ => .inl (0, 8))))) (g_sn 22 (g_sn 20 (fun _ => .inl (0, 8)) (g_sn 21 (fun _ => .inl (0, 8)) (fun _ => .inl (0, 8)))) (g_sn 24 (g_sn 23 (fun _ => .inl (0, 8)) (fun _ => .inr (8, [some 24, some 36, some 39, none]))) (g_sn 25 (fun _ => .inr (1, [none, none, none, some 25, some 26, some 27, some 28, some 29, some 30, some 31, some 32, some 33, some 34, some 35])) (fun _ => .inl (0, 8))))))) (g_sn 39 (g_sn 32 (g_sn 29 (g_sn 27 (fun _ => .inl (0, 8)) (g_sn 28 (fun _ => .inl (0, 8)) (fun _ => .inl (0, 8)))) (g_sn 30 (fun _ => .inl (0, 8)) (g_sn 31 (fun _ => .inl (0, 8)) (fun _ => .inl (0, 8))))) (g_sn 35 (g_sn 33 (fun _ => .inl (0, 64)) (g_sn 34 (fun _ => .inl (0, 64)) (fun _ => .inl (0, 64)))) (g_sn 37 (g_sn 36 (fun _ => .inl (0, 64)) (fun _ => .inr (7, [some 37, some 38, none]))) (g_sn 38 (fun _ => .inl (0, 7)) (fun _ => .inl (0, 8)))))) (g_sn 46 (g_sn 42 (g_sn 40 (fun _ => .inr (4, [some 40, some 41, some 42, some 43, some 44, none, none, none, none, none])) (g_sn 41 (fun _ => .inl (0, 8)) (fun _ => .inl (0, 8)))) (g_sn 44 (g_sn 43 (fun _ => .inl (0, 8)) (fun _ => .inl (0, 8))) (g_sn 45 (fun _ => .inl (0, 8)) (fun _ => .inr (1, [none, none, none, some 46, some 47, some 48, some 49, some 50, some 51, some 52, some 53, some 54, some 55, some 56]))))) (g_sn 49 (g_sn 47 (fun _ => .inl (0, 8)) (g_sn 48 (fun _ => .inl (0, 8)) (fun _ => .inl (0, 8)))) (g_sn 51 (g_sn 50 (fun _ => .inl (0, 8)) (fun _ => .inl (0, 8))) (g_sn 52 (fun _ => .inl (0, 8)) (fun _ => .inl (0, 8)))))))) (g_sn 80 (g_sn 66 (g_sn 59 (g_sn 56 (g_sn 54 (fun _ => .inl (0, 64)) (g_sn 55 (fun _ => .inl (0, 64)) (fun _ => .inl (0, 64)))) (g_sn 57 (fun _ => .inl (0, 64)) (g_sn 58 (fun _ => .inr (7, [some 58, some 59, none])) (fun _ => .inl (0, 7))))) (g_sn 62 (g_sn 60 (fun _ => .inl (0, 8)) (g_sn 61 (fun _ => .inr (4, [some 61, some 62, some 63, some 64, some 65, none, none, none, none, none])) (fun _ => .inl (0, 8)))) (g_sn 64 (g_sn 63 (fun _ => .inl (0, 8)) (fun _ => .inl (0, 8))) (g_sn 65 (fun _ => .inl (0, 8)) (fun _ => .inl (0, 8)))))) (g_sn 73 (g_sn 69 (g_sn 67 (fun _ => .inr (5, [none, none, none, none, none])) (g_sn 68 (fun _ => .inr (3, [some 68, some 69, none, none])) (fun _ => .inl (0, 64)))) (g_sn 71 (g_sn 70 (fun _ => .inl (0, 3)) (fun _ => .inr (6, [some 71]))) (g_sn 72 (fun _ => .inl (0, 1024)) (fun _ => .inr (0, [some 73, some 74, some 75, some 76, none, none]))))) (g_sn 76 (g_sn 74 (fun _ => .inl (0, 96)) (g_sn 75 (fun _ => .inl (0, 4)) (fun _ => .inl (0, 24)))) (g_sn 78 (g_sn 77 (fun _ => .inl (0, 4)) (fun _ => .inr (2, [some 78, none]))) (g_sn 79 (fun _ => .inl (0, 4)) (fun _ => .inl (0, 4))))))) (g_sn 93 (g_sn 86 (g_sn 83 (g_sn 81 (fun _ => .inl (0, 8)) (g_sn 82 (fun _ => .inl (0, 7)) (fun _ => .inr (10, [some 83, some 84, some 85, some 86, none, some 87, some 88, none, none, some 89, some 90, some 91, some 92, some 93, some 94, some 95, some 96, none, none, none, none, none, none, none, none, none, some 97, some 98, some 99, some 100, some 101, some 102, some 103, none, some 104, some 105, some 106, none])))) (g_sn 84 (fun _ => .inl (0, 7)) (g_sn 85 (fun _ => .inl (0, 154)) (fun _ => .inl (0, 154))))) (g_sn 89 (g_sn 87 (fun _ => .inl (0, 154)) (g_sn 88 (fun _ => .inl (0, 64)) (fun _ => .inl (0, 3)))) (g_sn 91 (g_sn 90 (fun _ => .inl (0, 64)) (fun _ => .inl (0, 64))) (g_sn 92 (fun _ => .inl (0, 8)) (fun _ => .inl (0, 8)))))) (g_sn 100 (g_sn 96 (g_sn 94 (fun _ => .inl (0, 8)) (g_sn 95 (fun _ => .inl (0, 8)) (fun _ => .inl (0, 8)))) (g_sn 98 (g_sn 97 (fun _ => .inl (0, 8)) (fun _ => .inl (0, 2048))) (g_sn 99 (fun _ => .inl (1, 2048)) (fun _ => .inl (0, 96))))) (g_sn 103 (g_sn 101 (fun _ => .inl (0, 96)) (g_sn 102 (fun _ => .inl (0, 4)) (fun _ => .inl (0, 24)))) (g_sn 105 (g_sn 104 (fun _ => .inl (0, 4)) (fun _ => .inl (0, 154))) (g_sn 106 (fun _ => .inl (0, 4)) (fun _ => .inl (0, 8))))))))))
def t_X0_play (sh : g_Sh) : Nat → Option g_Op := (g_node 49 (g_node 25 (g_node 10 (g_node 3 (g_node 1 (g_leaf 0 (o_aload 0 1)) (g_node 2 (g_leaf 1 (o_iload 3 2)) (g_leaf 2 (o_push (.int 4) 3)))) (g_node 6 (g_leaf 3 (o_min 6)) (g_node 9 (g_leaf 6 (o_putf sh 0 4 9)) (g_leaf 9 (o_aload 0 10))))) (g_node 17 (g_node 13 (g_leaf 10 (o_getf sh 0 1 13)) (g_node 14 (g_leaf 13 (o_push (.int 0) 14)) (g_leaf 14 (o_callSv 205 2 17)))) (g_node 21 (g_node 18 (g_leaf 17 (o_aload 0 18)) (g_leaf 18 (o_getf sh 0 2 21))) (g_node 22 (g_leaf 21 (o_push (.int 0) 22)) (g_leaf 22 (o_callSv 205 2 25)))))) (g_node 35 (g_node 30 (g_node 26 (g_leaf 25 (o_aload 0 26)) (g_node 29 (g_leaf 26 (o_getf sh 0 3 29)) (g_leaf 29 (o_push (.int 0) 30)))) (g_node 33 (g_leaf 30 (o_callSv 205 2 33)) (g_node 34 (g_leaf 33 (o_aload 0 34)) (g_leaf 34 (o_aload 1 35))))) (g_node 40 (g_node 36 (g_leaf 35 (o_aload 2 36)) (g_node 39 (g_leaf 36 (o_callVv sh 0 3 3 39)) (g_leaf 39 (o_push (.int 0) 40)))) (g_node 44 (g_node 42 (g_leaf 40 (o_istore 5 42)) (g_leaf 42 (o_iload 5 44))) (g_node 46 (g_leaf 44 (o_iload 4 46)) (g_leaf 46 (o_ic_ge 100 49))))))) (g_node 76 (g_node 62 (g_node 54 (g_node 50 (g_leaf 49 (o_aload 0 50)) (g_node 53 (g_leaf 50 (o_getf sh 0 1 53)) (g_leaf 53 (o_aload 0 54)))) (g_node 57 (g_leaf 54 (o_getf sh 0 4 57)) (g_node 60 (g_leaf 57 (o_callS 5 2 60)) (g_leaf 60 (o_istore 6 62))))) (g_node 67 (g_node 63 (g_leaf 62 (o_aload 0 63)) (g_node 66 (g_leaf 63 (o_getf sh 0 2 66)) (g_leaf 66 (o_aload 0 67)))) (g_node 73 (g_node 70 (g_leaf 67 (o_getf sh 0 5 70)) (g_leaf 70 (o_callS 6 2 73))) (g_node 75 (g_leaf 73 (o_istore 7 75)) (g_leaf 75 (o_aload 0 76)))))) (g_node 86 (g_node 82 (g_node 79 (g_leaf 76 (o_getf sh 0 3 79)) (g_node 81 (g_leaf 79 (o_iload 6 81)) (g_leaf 81 (o_dup2 82)))) (g_node 84 (g_node 83 (g_leaf 82 (o_iald sh g_xi 83)) (g_leaf 83 (o_push (.int 1) 84))) (g_node 85 (g_leaf 84 (o_iadd 85)) (g_leaf 85 (o_iast sh 86))))) (g_node 91 (g_node 87 (g_leaf 86 (o_aload 0 87)) (g_node 89 (g_leaf 87 (o_iload 6 89)) (g_leaf 89 (o_iload 7 91)))) (g_node 97 (g_node 94 (g_leaf 91 (o_callVv sh 0 4 3 94)) (g_leaf 94 (o_iinc 5 1 97))) (g_node 100 (g_leaf 97 (o_goto 42)) (g_leaf 100 (o_vret))))))))
def t_X0_leastOverOrders (sh : g_Sh) : Nat → Option g_Op := (g_node 8 (g_node 4 (g_node 1 (g_leaf 0 (o_aload 0 1)) (g_leaf 1 (o_getf sh 0 2 4))) (g_node 5 (g_leaf 4 (o_aload 0 5)) (g_leaf 5 (o_getf sh 0 2 8)))) (g_node 12 (g_node 9 (g_leaf 8 (o_aload 0 9)) (g_leaf 9 (o_getf sh 0 5 12))) (g_node 15 (g_leaf 12 (o_callS 6 2 15)) (g_node 16 (g_leaf 15 (o_iald sh g_xi 16)) (g_leaf 16 (o_iret))))))
def t_X0_greatestOverPlaces (sh : g_Sh) : Nat → Option g_Op := (g_node 8 (g_node 4 (g_node 1 (g_leaf 0 (o_aload 0 1)) (g_leaf 1 (o_getf sh 0 1 4))) (g_node 5 (g_leaf 4 (o_aload 0 5)) (g_leaf 5 (o_getf sh 0 1 8)))) (g_node 12 (g_node 9 (g_leaf 8 (o_aload 0 9)) (g_leaf 9 (o_getf sh 0 4 12))) (g_node 15 (g_leaf 12 (o_callS 5 2 15)) (g_node 16 (g_leaf 15 (o_iald sh g_xi 16)) (g_leaf 16 (o_iret))))))
def t_X0_tellAll (sh : g_Sh) : Nat → Option g_Op := (g_node 51 (g_node 23 (g_node 13 (g_node 5 (g_node 1 (g_leaf 0 (o_aload 2 1)) (g_node 2 (g_leaf 1 (o_aload 0 2)) (g_leaf 2 (o_getf sh 0 4 5)))) (g_node 9 (g_node 8 (g_leaf 5 (o_callVv sh 2 28 2 8)) (g_leaf 8 (o_aload 0 9))) (g_node 10 (g_leaf 9 (o_push (.int 0) 10)) (g_leaf 10 (o_putf sh 0 5 13))))) (g_node 16 (g_node 14 (g_leaf 13 (o_push (.int 0) 14)) (g_node 15 (g_leaf 14 (o_istore 3 15)) (g_leaf 15 (o_push (.int 0) 16)))) (g_node 19 (g_node 18 (g_leaf 16 (o_istore 4 18)) (g_leaf 18 (o_push (.int 0) 19))) (g_node 21 (g_leaf 19 (o_istore 5 21)) (g_leaf 21 (o_iload 5 23)))))) (g_node 37 (g_node 30 (g_node 24 (g_leaf 23 (o_aload 0 24)) (g_node 27 (g_leaf 24 (o_getf sh 0 4 27)) (g_leaf 27 (o_ic_ge 78 30)))) (g_node 34 (g_node 31 (g_leaf 30 (o_aload 2 31)) (g_leaf 31 (o_getf sh 2 0 34))) (g_node 36 (g_leaf 34 (o_iload 5 36)) (g_leaf 36 (o_iald sh g_xi 37))))) (g_node 43 (g_node 41 (g_node 39 (g_leaf 37 (o_istore 6 39)) (g_leaf 39 (o_iload 4 41))) (g_node 42 (g_leaf 41 (o_aload 1 42)) (g_leaf 42 (o_iload 3 43)))) (g_node 48 (g_node 45 (g_leaf 43 (o_iload 6 45)) (g_leaf 45 (o_callV sh 1 20 3 48))) (g_node 49 (g_leaf 48 (o_iadd 49)) (g_leaf 49 (o_istore 4 51))))))) (g_node 75 (g_node 63 (g_node 56 (g_node 52 (g_leaf 51 (o_aload 0 52)) (g_node 55 (g_leaf 52 (o_getf sh 0 0 55)) (g_leaf 55 (o_aload 0 56)))) (g_node 60 (g_node 59 (g_leaf 56 (o_getf sh 0 5 59)) (g_leaf 59 (o_push (.int 4) 60))) (g_node 61 (g_leaf 60 (o_imul 61)) (g_leaf 61 (o_iload 6 63))))) (g_node 68 (g_node 65 (g_node 64 (g_leaf 63 (o_iadd 64)) (g_leaf 64 (o_push (.int 1) 65))) (g_node 66 (g_leaf 65 (o_isub 66)) (g_leaf 66 (o_iload 4 68)))) (g_node 71 (g_node 69 (g_leaf 68 (o_iast sh 69)) (g_leaf 69 (o_iload 6 71))) (g_node 72 (g_leaf 71 (o_istore 3 72)) (g_leaf 72 (o_iinc 5 1 75)))))) (g_node 88 (g_node 80 (g_node 78 (g_leaf 75 (o_goto 21)) (g_node 79 (g_leaf 78 (o_aload 0 79)) (g_leaf 79 (o_dup 80)))) (g_node 84 (g_node 83 (g_leaf 80 (o_getf sh 0 5 83)) (g_leaf 83 (o_push (.int 1) 84))) (g_node 85 (g_leaf 84 (o_iadd 85)) (g_leaf 85 (o_putf sh 0 5 88))))) (g_node 97 (g_node 92 (g_node 89 (g_leaf 88 (o_aload 0 89)) (g_leaf 89 (o_getf sh 0 5 92))) (g_node 94 (g_leaf 92 (o_push (.int 24) 94)) (g_leaf 94 (o_ic_ge 104 97)))) (g_node 101 (g_node 98 (g_leaf 97 (o_aload 2 98)) (g_leaf 98 (o_callV sh 2 29 1 101))) (g_node 104 (g_leaf 101 (o_if_ne 13 104)) (g_leaf 104 (o_vret))))))))
def t_X0_addTells (sh : g_Sh) : Nat → Option g_Op := (g_node 35 (g_node 17 (g_node 7 (g_node 2 (g_node 1 (g_leaf 0 (o_push (.int 0) 1)) (g_leaf 1 (o_istore 3 2))) (g_node 3 (g_leaf 2 (o_iload 3 3)) (g_node 4 (g_leaf 3 (o_aload 0 4)) (g_leaf 4 (o_getf sh 0 4 7))))) (g_node 14 (g_node 10 (g_leaf 7 (o_ic_ge 35 10)) (g_node 11 (g_leaf 10 (o_aload 0 11)) (g_leaf 11 (o_getf sh 0 1 14)))) (g_node 15 (g_leaf 14 (o_iload 3 15)) (g_node 16 (g_leaf 15 (o_dup2 16)) (g_leaf 16 (o_iald sh g_xi 17)))))) (g_node 25 (g_node 22 (g_node 18 (g_leaf 17 (o_aload 0 18)) (g_node 21 (g_leaf 18 (o_getf sh 0 0 21)) (g_leaf 21 (o_iload 2 22)))) (g_node 23 (g_leaf 22 (o_push (.int 4) 23)) (g_node 24 (g_leaf 23 (o_imul 24)) (g_leaf 24 (o_iload 3 25))))) (g_node 28 (g_node 26 (g_leaf 25 (o_iadd 26)) (g_node 27 (g_leaf 26 (o_iald sh g_xi 27)) (g_leaf 27 (o_iadd 28)))) (g_node 29 (g_leaf 28 (o_iast sh 29)) (g_node 32 (g_leaf 29 (o_iinc 3 1 32)) (g_leaf 32 (o_goto 2))))))) (g_node 53 (g_node 45 (g_node 38 (g_node 36 (g_leaf 35 (o_push (.int 0) 36)) (g_node 37 (g_leaf 36 (o_istore 3 37)) (g_leaf 37 (o_iload 3 38)))) (g_node 39 (g_leaf 38 (o_aload 0 39)) (g_node 42 (g_leaf 39 (o_getf sh 0 5 42)) (g_leaf 42 (o_ic_ge 70 45))))) (g_node 50 (g_node 46 (g_leaf 45 (o_aload 0 46)) (g_node 49 (g_leaf 46 (o_getf sh 0 2 49)) (g_leaf 49 (o_iload 3 50)))) (g_node 51 (g_leaf 50 (o_dup2 51)) (g_node 52 (g_leaf 51 (o_iald sh g_xi 52)) (g_leaf 52 (o_aload 0 53)))))) (g_node 61 (g_node 58 (g_node 56 (g_leaf 53 (o_getf sh 0 0 56)) (g_node 57 (g_leaf 56 (o_iload 3 57)) (g_leaf 57 (o_push (.int 4) 58)))) (g_node 59 (g_leaf 58 (o_imul 59)) (g_node 60 (g_leaf 59 (o_iload 1 60)) (g_leaf 60 (o_iadd 61))))) (g_node 64 (g_node 62 (g_leaf 61 (o_iald sh g_xi 62)) (g_node 63 (g_leaf 62 (o_iadd 63)) (g_leaf 63 (o_iast sh 64)))) (g_node 67 (g_leaf 64 (o_iinc 3 1 67)) (g_node 70 (g_leaf 67 (o_goto 37)) (g_leaf 70 (o_vret))))))))
def t_X0_indexOfGreatest (sh : g_Sh) : Nat → Option g_Op := (g_node 12 (g_node 5 (g_node 2 (g_node 1 (g_leaf 0 (o_push (.int 0) 1)) (g_leaf 1 (o_istore 2 2))) (g_node 3 (g_leaf 2 (o_push (.int 1) 3)) (g_node 4 (g_leaf 3 (o_istore 3 4)) (g_leaf 4 (o_iload 3 5))))) (g_node 9 (g_node 6 (g_leaf 5 (o_iload 1 6)) (g_leaf 6 (o_ic_ge 26 9))) (g_node 10 (g_leaf 9 (o_aload 0 10)) (g_node 11 (g_leaf 10 (o_iload 3 11)) (g_leaf 11 (o_iald sh g_xi 12)))))) (g_node 19 (g_node 14 (g_node 13 (g_leaf 12 (o_aload 0 13)) (g_leaf 13 (o_iload 2 14))) (g_node 15 (g_leaf 14 (o_iald sh g_xi 15)) (g_node 18 (g_leaf 15 (o_ic_le 20 18)) (g_leaf 18 (o_iload 3 19))))) (g_node 23 (g_node 20 (g_leaf 19 (o_istore 2 20)) (g_leaf 20 (o_iinc 3 1 23))) (g_node 26 (g_leaf 23 (o_goto 4)) (g_node 27 (g_leaf 26 (o_iload 2 27)) (g_leaf 27 (o_iret)))))))
def t_X0_indexOfLeast (sh : g_Sh) : Nat → Option g_Op := (g_node 12 (g_node 5 (g_node 2 (g_node 1 (g_leaf 0 (o_push (.int 0) 1)) (g_leaf 1 (o_istore 2 2))) (g_node 3 (g_leaf 2 (o_push (.int 1) 3)) (g_node 4 (g_leaf 3 (o_istore 3 4)) (g_leaf 4 (o_iload 3 5))))) (g_node 9 (g_node 6 (g_leaf 5 (o_iload 1 6)) (g_leaf 6 (o_ic_ge 26 9))) (g_node 10 (g_leaf 9 (o_aload 0 10)) (g_node 11 (g_leaf 10 (o_iload 3 11)) (g_leaf 11 (o_iald sh g_xi 12)))))) (g_node 19 (g_node 14 (g_node 13 (g_leaf 12 (o_aload 0 13)) (g_leaf 13 (o_iload 2 14))) (g_node 15 (g_leaf 14 (o_iald sh g_xi 15)) (g_node 18 (g_leaf 15 (o_ic_ge 20 18)) (g_leaf 18 (o_iload 3 19))))) (g_node 23 (g_node 20 (g_leaf 19 (o_istore 2 20)) (g_leaf 20 (o_iinc 3 1 23))) (g_node 26 (g_leaf 23 (o_goto 4)) (g_node 27 (g_leaf 26 (o_iload 2 27)) (g_leaf 27 (o_iret)))))))
def t_X1_copyFrom (sh : g_Sh) : Nat → Option g_Op := (g_node 94 (g_node 48 (g_node 24 (g_node 10 (g_node 5 (g_node 1 (g_leaf 0 (o_aload 0 1)) (g_node 2 (g_leaf 1 (o_aload 1 2)) (g_leaf 2 (o_getf sh 1 0 5)))) (g_node 8 (g_leaf 5 (o_putf sh 1 0 8)) (g_node 9 (g_leaf 8 (o_aload 0 9)) (g_leaf 9 (o_aload 1 10))))) (g_node 17 (g_node 13 (g_leaf 10 (o_getf sh 1 1 13)) (g_node 16 (g_leaf 13 (o_putf sh 1 1 16)) (g_leaf 16 (o_aload 0 17)))) (g_node 18 (g_leaf 17 (o_aload 1 18)) (g_node 21 (g_leaf 18 (o_getf sh 1 2 21)) (g_leaf 21 (o_putf sh 1 2 24)))))) (g_node 34 (g_node 29 (g_node 25 (g_leaf 24 (o_aload 1 25)) (g_node 28 (g_leaf 25 (o_getf sh 1 3 28)) (g_leaf 28 (o_push (.int 0) 29)))) (g_node 30 (g_leaf 29 (o_aload 0 30)) (g_node 33 (g_leaf 30 (o_getf sh 1 3 33)) (g_leaf 33 (o_push (.int 0) 34))))) (g_node 40 (g_node 36 (g_leaf 34 (o_push (.int 8) 36)) (g_node 39 (g_leaf 36 (o_copy sh 39)) (g_leaf 39 (o_aload 1 40)))) (g_node 44 (g_node 43 (g_leaf 40 (o_getf sh 1 4 43)) (g_leaf 43 (o_push (.int 0) 44))) (g_node 45 (g_leaf 44 (o_aload 0 45)) (g_leaf 45 (o_getf sh 1 4 48))))))) (g_node 70 (g_node 59 (g_node 54 (g_node 49 (g_leaf 48 (o_push (.int 0) 49)) (g_node 51 (g_leaf 49 (o_push (.int 8) 51)) (g_leaf 51 (o_copy sh 54)))) (g_node 55 (g_leaf 54 (o_aload 1 55)) (g_node 58 (g_leaf 55 (o_getf sh 1 5 58)) (g_leaf 58 (o_push (.int 0) 59))))) (g_node 64 (g_node 60 (g_leaf 59 (o_aload 0 60)) (g_node 63 (g_leaf 60 (o_getf sh 1 5 63)) (g_leaf 63 (o_push (.int 0) 64)))) (g_node 66 (g_leaf 64 (o_push (.int 8) 66)) (g_node 69 (g_leaf 66 (o_copy sh 69)) (g_leaf 69 (o_aload 1 70)))))) (g_node 81 (g_node 75 (g_node 73 (g_leaf 70 (o_getf sh 1 6 73)) (g_node 74 (g_leaf 73 (o_push (.int 0) 74)) (g_leaf 74 (o_aload 0 75)))) (g_node 78 (g_leaf 75 (o_getf sh 1 6 78)) (g_node 79 (g_leaf 78 (o_push (.int 0) 79)) (g_leaf 79 (o_push (.int 8) 81))))) (g_node 88 (g_node 84 (g_leaf 81 (o_copy sh 84)) (g_node 85 (g_leaf 84 (o_aload 1 85)) (g_leaf 85 (o_getf sh 1 7 88)))) (g_node 90 (g_node 89 (g_leaf 88 (o_push (.int 0) 89)) (g_leaf 89 (o_aload 0 90))) (g_node 93 (g_leaf 90 (o_getf sh 1 7 93)) (g_leaf 93 (o_push (.int 0) 94)))))))) (g_node 141 (g_node 118 (g_node 105 (g_node 100 (g_node 96 (g_leaf 94 (o_push (.int 8) 96)) (g_node 99 (g_leaf 96 (o_copy sh 99)) (g_leaf 99 (o_aload 1 100)))) (g_node 103 (g_leaf 100 (o_getf sh 1 8 103)) (g_node 104 (g_leaf 103 (o_push (.int 0) 104)) (g_leaf 104 (o_aload 0 105))))) (g_node 111 (g_node 108 (g_leaf 105 (o_getf sh 1 8 108)) (g_node 109 (g_leaf 108 (o_push (.int 0) 109)) (g_leaf 109 (o_push (.int 8) 111)))) (g_node 114 (g_leaf 111 (o_copy sh 114)) (g_node 115 (g_leaf 114 (o_aload 1 115)) (g_leaf 115 (o_getf sh 1 9 118)))))) (g_node 129 (g_node 123 (g_node 119 (g_leaf 118 (o_push (.int 0) 119)) (g_node 120 (g_leaf 119 (o_aload 0 120)) (g_leaf 120 (o_getf sh 1 9 123)))) (g_node 124 (g_leaf 123 (o_push (.int 0) 124)) (g_node 126 (g_leaf 124 (o_push (.int 8) 126)) (g_leaf 126 (o_copy sh 129))))) (g_node 134 (g_node 130 (g_leaf 129 (o_aload 1 130)) (g_node 133 (g_leaf 130 (o_getf sh 1 10 133)) (g_leaf 133 (o_push (.int 0) 134)))) (g_node 138 (g_node 135 (g_leaf 134 (o_aload 0 135)) (g_leaf 135 (o_getf sh 1 10 138))) (g_node 139 (g_leaf 138 (o_push (.int 0) 139)) (g_leaf 139 (o_push (.int 64) 141))))))) (g_node 165 (g_node 153 (g_node 148 (g_node 144 (g_leaf 141 (o_copy sh 144)) (g_node 145 (g_leaf 144 (o_aload 1 145)) (g_leaf 145 (o_getf sh 1 11 148)))) (g_node 149 (g_leaf 148 (o_push (.int 0) 149)) (g_node 150 (g_leaf 149 (o_aload 0 150)) (g_leaf 150 (o_getf sh 1 11 153))))) (g_node 159 (g_node 154 (g_leaf 153 (o_push (.int 0) 154)) (g_node 156 (g_leaf 154 (o_push (.int 64) 156)) (g_leaf 156 (o_copy sh 159)))) (g_node 163 (g_node 160 (g_leaf 159 (o_aload 1 160)) (g_leaf 160 (o_getf sh 1 12 163))) (g_node 164 (g_leaf 163 (o_push (.int 0) 164)) (g_leaf 164 (o_aload 0 165)))))) (g_node 178 (g_node 171 (g_node 168 (g_leaf 165 (o_getf sh 1 12 168)) (g_node 169 (g_leaf 168 (o_push (.int 0) 169)) (g_leaf 169 (o_push (.int 64) 171)))) (g_node 174 (g_leaf 171 (o_copy sh 174)) (g_node 175 (g_leaf 174 (o_aload 1 175)) (g_leaf 175 (o_getf sh 1 13 178))))) (g_node 183 (g_node 179 (g_leaf 178 (o_push (.int 0) 179)) (g_node 180 (g_leaf 179 (o_aload 0 180)) (g_leaf 180 (o_getf sh 1 13 183)))) (g_node 186 (g_node 184 (g_leaf 183 (o_push (.int 0) 184)) (g_leaf 184 (o_push (.int 64) 186))) (g_node 189 (g_leaf 186 (o_copy sh 189)) (g_leaf 189 (o_vret)))))))))
def t_X1_isPlace (sh : g_Sh) : Nat → Option g_Op := (g_node 9 (g_node 4 (g_node 1 (g_leaf 0 (o_iload 1 1)) (g_leaf 1 (o_if_lt 16 4))) (g_node 5 (g_leaf 4 (o_iload 1 5)) (g_node 6 (g_leaf 5 (o_aload 0 6)) (g_leaf 6 (o_getf sh 1 0 9))))) (g_node 13 (g_node 12 (g_leaf 9 (o_ic_ge 16 12)) (g_leaf 12 (o_push (.int 1) 13))) (g_node 16 (g_leaf 13 (o_goto 17)) (g_node 17 (g_leaf 16 (o_push (.int 0) 17)) (g_leaf 17 (o_nret .boolean))))))
def t_X1_isHidingPlace (sh : g_Sh) : Nat → Option g_Op := (g_node 9 (g_node 4 (g_node 1 (g_leaf 0 (o_iload 1 1)) (g_leaf 1 (o_if_le 16 4))) (g_node 5 (g_leaf 4 (o_iload 1 5)) (g_node 6 (g_leaf 5 (o_aload 0 6)) (g_leaf 6 (o_getf sh 1 0 9))))) (g_node 13 (g_node 12 (g_leaf 9 (o_ic_ge 16 12)) (g_leaf 12 (o_push (.int 1) 13))) (g_node 16 (g_leaf 13 (o_goto 17)) (g_node 17 (g_leaf 16 (o_push (.int 0) 17)) (g_leaf 17 (o_nret .boolean))))))
def t_X1_isHider (sh : g_Sh) : Nat → Option g_Op := (g_node 9 (g_node 4 (g_node 1 (g_leaf 0 (o_iload 1 1)) (g_leaf 1 (o_if_lt 16 4))) (g_node 5 (g_leaf 4 (o_iload 1 5)) (g_node 6 (g_leaf 5 (o_aload 0 6)) (g_leaf 6 (o_getf sh 1 2 9))))) (g_node 13 (g_node 12 (g_leaf 9 (o_ic_ge 16 12)) (g_leaf 12 (o_push (.int 1) 13))) (g_node 16 (g_leaf 13 (o_goto 17)) (g_node 17 (g_leaf 16 (o_push (.int 0) 17)) (g_leaf 17 (o_nret .boolean))))))
def t_X1_addPlace (sh : g_Sh) : Nat → Option g_Op := (g_node 40 (g_node 20 (g_node 10 (g_node 4 (g_node 1 (g_leaf 0 (o_aload 0 1)) (g_leaf 1 (o_getf sh 1 0 4))) (g_node 6 (g_leaf 4 (o_push (.int 8) 6)) (g_node 9 (g_leaf 6 (o_ic_lt 11 9)) (g_leaf 9 (o_push (.int 0) 10))))) (g_node 15 (g_node 11 (g_leaf 10 (o_nret .boolean)) (g_node 12 (g_leaf 11 (o_aload 0 12)) (g_leaf 12 (o_getf sh 1 3 15)))) (g_node 16 (g_leaf 15 (o_aload 0 16)) (g_node 19 (g_leaf 16 (o_getf sh 1 0 19)) (g_leaf 19 (o_iload 1 20)))))) (g_node 30 (g_node 25 (g_node 21 (g_leaf 20 (o_iast sh 21)) (g_node 22 (g_leaf 21 (o_aload 0 22)) (g_leaf 22 (o_getf sh 1 4 25)))) (g_node 26 (g_leaf 25 (o_aload 0 26)) (g_node 29 (g_leaf 26 (o_getf sh 1 0 29)) (g_leaf 29 (o_iload 2 30))))) (g_node 35 (g_node 31 (g_leaf 30 (o_iast sh 31)) (g_node 32 (g_leaf 31 (o_aload 0 32)) (g_leaf 32 (o_getf sh 1 5 35)))) (g_node 36 (g_leaf 35 (o_aload 0 36)) (g_node 39 (g_leaf 36 (o_getf sh 1 0 39)) (g_leaf 39 (o_iload 3 40))))))) (g_node 60 (g_node 50 (g_node 45 (g_node 41 (g_leaf 40 (o_iast sh 41)) (g_node 42 (g_leaf 41 (o_aload 0 42)) (g_leaf 42 (o_getf sh 1 6 45)))) (g_node 46 (g_leaf 45 (o_aload 0 46)) (g_node 49 (g_leaf 46 (o_getf sh 1 0 49)) (g_leaf 49 (o_push (.int 0) 50))))) (g_node 55 (g_node 51 (g_leaf 50 (o_iast sh 51)) (g_node 52 (g_leaf 51 (o_aload 0 52)) (g_leaf 52 (o_getf sh 1 7 55)))) (g_node 56 (g_leaf 55 (o_aload 0 56)) (g_node 59 (g_leaf 56 (o_getf sh 1 0 59)) (g_leaf 59 (o_push (.int 1) 60)))))) (g_node 68 (g_node 65 (g_node 61 (g_leaf 60 (o_aload 0 61)) (g_node 64 (g_leaf 61 (o_getf sh 1 0 64)) (g_leaf 64 (o_ishl 65)))) (g_node 66 (g_leaf 65 (o_iast sh 66)) (g_node 67 (g_leaf 66 (o_aload 0 67)) (g_leaf 67 (o_dup 68))))) (g_node 73 (g_node 71 (g_leaf 68 (o_getf sh 1 0 71)) (g_node 72 (g_leaf 71 (o_push (.int 1) 72)) (g_leaf 72 (o_iadd 73)))) (g_node 76 (g_leaf 73 (o_putf sh 1 0 76)) (g_node 77 (g_leaf 76 (o_push (.int 1) 77)) (g_leaf 77 (o_nret .boolean))))))))
def t_X1_addWay (sh : g_Sh) : Nat → Option g_Op := (g_node 52 (g_node 27 (g_node 14 (g_node 6 (g_node 1 (g_leaf 0 (o_aload 0 1)) (g_node 4 (g_leaf 1 (o_getf sh 1 1 4)) (g_leaf 4 (o_push (.int 14) 6)))) (g_node 10 (g_node 9 (g_leaf 6 (o_ic_ge 30 9)) (g_leaf 9 (o_aload 0 10))) (g_node 11 (g_leaf 10 (o_iload 1 11)) (g_leaf 11 (o_callV sh 1 8 2 14))))) (g_node 19 (g_node 17 (g_leaf 14 (o_if_eq 30 17)) (g_node 18 (g_leaf 17 (o_aload 0 18)) (g_leaf 18 (o_iload 2 19)))) (g_node 25 (g_node 22 (g_leaf 19 (o_callV sh 1 8 2 22)) (g_leaf 22 (o_if_eq 30 25))) (g_node 26 (g_leaf 25 (o_iload 1 26)) (g_leaf 26 (o_iload 2 27)))))) (g_node 38 (g_node 32 (g_node 30 (g_leaf 27 (o_ic_ne 32 30)) (g_node 31 (g_leaf 30 (o_push (.int 0) 31)) (g_leaf 31 (o_nret .boolean)))) (g_node 34 (g_node 33 (g_leaf 32 (o_iload 3 33)) (g_leaf 33 (o_push (.int 1) 34))) (g_node 37 (g_leaf 34 (o_ic_lt 52 37)) (g_leaf 37 (o_iload 3 38))))) (g_node 44 (g_node 40 (g_leaf 38 (o_push (.int 60) 40)) (g_node 43 (g_leaf 40 (o_ic_gt 52 43)) (g_leaf 43 (o_aload 0 44)))) (g_node 46 (g_node 45 (g_leaf 44 (o_iload 1 45)) (g_leaf 45 (o_iload 2 46))) (g_node 49 (g_leaf 46 (o_callV sh 1 19 3 49)) (g_leaf 49 (o_if_eq 54 52))))))) (g_node 71 (g_node 62 (g_node 55 (g_node 53 (g_leaf 52 (o_push (.int 0) 53)) (g_node 54 (g_leaf 53 (o_nret .boolean)) (g_leaf 54 (o_aload 0 55)))) (g_node 59 (g_node 58 (g_leaf 55 (o_getf sh 1 10 58)) (g_leaf 58 (o_iload 1 59))) (g_node 61 (g_leaf 59 (o_push (.int 8) 61)) (g_leaf 61 (o_imul 62))))) (g_node 65 (g_node 63 (g_leaf 62 (o_iload 2 63)) (g_node 64 (g_leaf 63 (o_iadd 64)) (g_leaf 64 (o_iload 3 65)))) (g_node 67 (g_node 66 (g_leaf 65 (o_iast sh 66)) (g_leaf 66 (o_aload 0 67))) (g_node 70 (g_leaf 67 (o_getf sh 1 10 70)) (g_leaf 70 (o_iload 2 71)))))) (g_node 79 (g_node 75 (g_node 73 (g_leaf 71 (o_push (.int 8) 73)) (g_node 74 (g_leaf 73 (o_imul 74)) (g_leaf 74 (o_iload 1 75)))) (g_node 77 (g_node 76 (g_leaf 75 (o_iadd 76)) (g_leaf 76 (o_iload 3 77))) (g_node 78 (g_leaf 77 (o_iast sh 78)) (g_leaf 78 (o_aload 0 79))))) (g_node 84 (g_node 80 (g_leaf 79 (o_dup 80)) (g_node 83 (g_leaf 80 (o_getf sh 1 1 83)) (g_leaf 83 (o_push (.int 1) 84)))) (g_node 88 (g_node 85 (g_leaf 84 (o_iadd 85)) (g_leaf 85 (o_putf sh 1 1 88))) (g_node 89 (g_leaf 88 (o_push (.int 1) 89)) (g_leaf 89 (o_nret .boolean))))))))
def t_X1_addView (sh : g_Sh) : Nat → Option g_Op := (g_node 26 (g_node 13 (g_node 5 (g_node 1 (g_leaf 0 (o_aload 0 1)) (g_node 2 (g_leaf 1 (o_iload 1 2)) (g_leaf 2 (o_callV sh 1 8 2 5)))) (g_node 9 (g_node 8 (g_leaf 5 (o_if_eq 29 8)) (g_leaf 8 (o_aload 0 9))) (g_node 10 (g_leaf 9 (o_iload 2 10)) (g_leaf 10 (o_callV sh 1 8 2 13))))) (g_node 20 (g_node 16 (g_leaf 13 (o_if_eq 29 16)) (g_node 17 (g_leaf 16 (o_aload 0 17)) (g_leaf 17 (o_getf sh 1 7 20)))) (g_node 22 (g_node 21 (g_leaf 20 (o_iload 1 21)) (g_leaf 21 (o_iald sh g_xi 22))) (g_node 23 (g_leaf 22 (o_iload 2 23)) (g_leaf 23 (o_callS 116 2 26)))))) (g_node 37 (g_node 31 (g_node 29 (g_leaf 26 (o_if_eq 31 29)) (g_node 30 (g_leaf 29 (o_push (.int 0) 30)) (g_leaf 30 (o_nret .boolean)))) (g_node 35 (g_node 32 (g_leaf 31 (o_aload 0 32)) (g_leaf 32 (o_getf sh 1 7 35))) (g_node 36 (g_leaf 35 (o_iload 1 36)) (g_leaf 36 (o_dup2 37))))) (g_node 41 (g_node 39 (g_node 38 (g_leaf 37 (o_iald sh g_xi 38)) (g_leaf 38 (o_push (.int 1) 39))) (g_node 40 (g_leaf 39 (o_iload 2 40)) (g_leaf 40 (o_ishl 41)))) (g_node 43 (g_node 42 (g_leaf 41 (o_ior 42)) (g_leaf 42 (o_iast sh 43))) (g_node 44 (g_leaf 43 (o_push (.int 1) 44)) (g_leaf 44 (o_nret .boolean)))))))
def t_X1_addHider (sh : g_Sh) : Nat → Option g_Op := (g_node 35 (g_node 20 (g_node 10 (g_node 4 (g_node 1 (g_leaf 0 (o_aload 0 1)) (g_leaf 1 (o_getf sh 1 2 4))) (g_node 6 (g_leaf 4 (o_push (.int 8) 6)) (g_node 9 (g_leaf 6 (o_ic_ge 20 9)) (g_leaf 9 (o_iload 1 10))))) (g_node 14 (g_node 11 (g_leaf 10 (o_push (.int 2) 11)) (g_leaf 11 (o_ic_lt 20 14))) (g_node 15 (g_leaf 14 (o_iload 1 15)) (g_node 17 (g_leaf 15 (o_push (.int 15) 17)) (g_leaf 17 (o_ic_le 22 20)))))) (g_node 27 (g_node 22 (g_node 21 (g_leaf 20 (o_push (.int 0) 21)) (g_leaf 21 (o_nret .boolean))) (g_node 23 (g_leaf 22 (o_iload 2 23)) (g_node 24 (g_leaf 23 (o_push (.int 1) 24)) (g_leaf 24 (o_ic_lt 33 27))))) (g_node 30 (g_node 28 (g_leaf 27 (o_iload 2 28)) (g_leaf 28 (o_push (.int 9) 30))) (g_node 33 (g_leaf 30 (o_ic_le 35 33)) (g_node 34 (g_leaf 33 (o_push (.int 0) 34)) (g_leaf 34 (o_nret .boolean))))))) (g_node 53 (g_node 44 (g_node 39 (g_node 36 (g_leaf 35 (o_aload 0 36)) (g_leaf 36 (o_getf sh 1 8 39))) (g_node 40 (g_leaf 39 (o_aload 0 40)) (g_node 43 (g_leaf 40 (o_getf sh 1 2 43)) (g_leaf 43 (o_iload 1 44))))) (g_node 46 (g_node 45 (g_leaf 44 (o_iast sh 45)) (g_leaf 45 (o_aload 0 46))) (g_node 49 (g_leaf 46 (o_getf sh 1 9 49)) (g_node 50 (g_leaf 49 (o_aload 0 50)) (g_leaf 50 (o_getf sh 1 2 53)))))) (g_node 60 (g_node 55 (g_node 54 (g_leaf 53 (o_iload 2 54)) (g_leaf 54 (o_iast sh 55))) (g_node 56 (g_leaf 55 (o_aload 0 56)) (g_node 57 (g_leaf 56 (o_dup 57)) (g_leaf 57 (o_getf sh 1 2 60))))) (g_node 62 (g_node 61 (g_leaf 60 (o_push (.int 1) 61)) (g_leaf 61 (o_iadd 62))) (g_node 65 (g_leaf 62 (o_putf sh 1 2 65)) (g_node 66 (g_leaf 65 (o_push (.int 1) 66)) (g_leaf 66 (o_nret .boolean))))))))
def t_X1_measure (sh : g_Sh) : Nat → Option g_Op := (g_node 11 (g_node 5 (g_node 1 (g_leaf 0 (o_aload 0 1)) (g_node 4 (g_leaf 1 (o_callVv sh 1 16 1 4)) (g_leaf 4 (o_push (.int 0) 5)))) (g_node 7 (g_node 6 (g_leaf 5 (o_istore 1 6)) (g_leaf 6 (o_iload 1 7))) (g_node 8 (g_leaf 7 (o_aload 0 8)) (g_leaf 8 (o_getf sh 1 2 11))))) (g_node 16 (g_node 14 (g_leaf 11 (o_ic_ge 25 14)) (g_node 15 (g_leaf 14 (o_aload 0 15)) (g_leaf 15 (o_iload 1 16)))) (g_node 22 (g_node 19 (g_leaf 16 (o_callVv sh 1 18 2 19)) (g_leaf 19 (o_iinc 1 1 22))) (g_node 25 (g_leaf 22 (o_goto 6)) (g_leaf 25 (o_vret))))))
def t_X1_measureWays (sh : g_Sh) : Nat → Option g_Op := (g_node 44 (g_node 24 (g_node 10 (g_node 3 (g_node 1 (g_leaf 0 (o_push (.int 0) 1)) (g_node 2 (g_leaf 1 (o_istore 1 2)) (g_leaf 2 (o_iload 1 3)))) (g_node 8 (g_node 5 (g_leaf 3 (o_push (.int 8) 5)) (g_leaf 5 (o_ic_ge 70 8))) (g_node 9 (g_leaf 8 (o_push (.int 0) 9)) (g_leaf 9 (o_istore 2 10))))) (g_node 17 (g_node 13 (g_node 11 (g_leaf 10 (o_iload 2 11)) (g_leaf 11 (o_push (.int 8) 13))) (g_node 16 (g_leaf 13 (o_ic_ge 64 16)) (g_leaf 16 (o_aload 0 17)))) (g_node 21 (g_node 20 (g_leaf 17 (o_getf sh 1 10 20)) (g_leaf 20 (o_iload 1 21))) (g_node 23 (g_leaf 21 (o_push (.int 8) 23)) (g_leaf 23 (o_imul 24)))))) (g_node 33 (g_node 27 (g_node 25 (g_leaf 24 (o_iload 2 25)) (g_node 26 (g_leaf 25 (o_iadd 26)) (g_leaf 26 (o_iald sh g_xi 27)))) (g_node 29 (g_node 28 (g_leaf 27 (o_istore 3 28)) (g_leaf 28 (o_aload 0 29))) (g_node 32 (g_leaf 29 (o_getf sh 1 11 32)) (g_leaf 32 (o_iload 1 33))))) (g_node 38 (g_node 36 (g_node 35 (g_leaf 33 (o_push (.int 8) 35)) (g_leaf 35 (o_imul 36))) (g_node 37 (g_leaf 36 (o_iload 2 37)) (g_leaf 37 (o_iadd 38)))) (g_node 40 (g_node 39 (g_leaf 38 (o_iload 1 39)) (g_leaf 39 (o_iload 2 40))) (g_node 43 (g_leaf 40 (o_ic_ne 47 43)) (g_leaf 43 (o_push (.int 0) 44))))))) (g_node 75 (g_node 58 (g_node 51 (g_node 47 (g_leaf 44 (o_goto 57)) (g_node 48 (g_leaf 47 (o_iload 3 48)) (g_leaf 48 (o_if_le 55 51)))) (g_node 55 (g_node 52 (g_leaf 51 (o_iload 3 52)) (g_leaf 52 (o_goto 57))) (g_node 57 (g_leaf 55 (o_push (.int (-9)) 57)) (g_leaf 57 (o_iast sh 58))))) (g_node 70 (g_node 64 (g_node 61 (g_leaf 58 (o_iinc 2 1 61)) (g_leaf 61 (o_goto 10))) (g_node 67 (g_leaf 64 (o_iinc 1 1 67)) (g_leaf 67 (o_goto 2)))) (g_node 72 (g_node 71 (g_leaf 70 (o_push (.int 0) 71)) (g_leaf 71 (o_istore 1 72))) (g_node 73 (g_leaf 72 (o_iload 1 73)) (g_leaf 73 (o_push (.int 8) 75)))))) (g_node 87 (g_node 80 (g_node 78 (g_leaf 75 (o_ic_ge 104 78)) (g_node 79 (g_leaf 78 (o_push (.int 0) 79)) (g_leaf 79 (o_istore 2 80)))) (g_node 83 (g_node 81 (g_leaf 80 (o_iload 2 81)) (g_leaf 81 (o_push (.int 8) 83))) (g_node 86 (g_leaf 83 (o_ic_ge 98 86)) (g_leaf 86 (o_aload 0 87))))) (g_node 95 (g_node 89 (g_node 88 (g_leaf 87 (o_iload 2 88)) (g_leaf 88 (o_iload 1 89))) (g_node 92 (g_leaf 89 (o_callVv sh 1 17 3 92)) (g_leaf 92 (o_iinc 2 1 95)))) (g_node 101 (g_node 98 (g_leaf 95 (o_goto 80)) (g_leaf 98 (o_iinc 1 1 101))) (g_node 104 (g_leaf 101 (o_goto 72)) (g_leaf 104 (o_vret))))))))
def t_X1_shortenFrom (sh : g_Sh) : Nat → Option g_Op := (g_node 48 (g_node 22 (g_node 10 (g_node 5 (g_node 1 (g_leaf 0 (o_aload 0 1)) (g_node 4 (g_leaf 1 (o_getf sh 1 11 4)) (g_leaf 4 (o_iload 1 5)))) (g_node 8 (g_node 7 (g_leaf 5 (o_push (.int 8) 7)) (g_leaf 7 (o_imul 8))) (g_node 9 (g_leaf 8 (o_iload 2 9)) (g_leaf 9 (o_iadd 10))))) (g_node 15 (g_node 12 (g_node 11 (g_leaf 10 (o_iald sh g_xi 11)) (g_leaf 11 (o_istore 3 12))) (g_node 13 (g_leaf 12 (o_iload 3 13)) (g_leaf 13 (o_push (.int (-9)) 15)))) (g_node 19 (g_node 18 (g_leaf 15 (o_ic_ne 19 18)) (g_leaf 18 (o_vret))) (g_node 20 (g_leaf 19 (o_push (.int 0) 20)) (g_leaf 20 (o_istore 4 22)))))) (g_node 36 (g_node 29 (g_node 24 (g_leaf 22 (o_iload 4 24)) (g_node 26 (g_leaf 24 (o_push (.int 8) 26)) (g_leaf 26 (o_ic_ge 102 29)))) (g_node 33 (g_node 30 (g_leaf 29 (o_aload 0 30)) (g_leaf 30 (o_getf sh 1 11 33))) (g_node 34 (g_leaf 33 (o_iload 2 34)) (g_leaf 34 (o_push (.int 8) 36))))) (g_node 41 (g_node 39 (g_node 37 (g_leaf 36 (o_imul 37)) (g_leaf 37 (o_iload 4 39))) (g_node 40 (g_leaf 39 (o_iadd 40)) (g_leaf 40 (o_iald sh g_xi 41)))) (g_node 44 (g_node 43 (g_leaf 41 (o_istore 5 43)) (g_leaf 43 (o_aload 0 44))) (g_node 47 (g_leaf 44 (o_getf sh 1 11 47)) (g_leaf 47 (o_iload 1 48))))))) (g_node 75 (g_node 59 (g_node 53 (g_node 50 (g_leaf 48 (o_push (.int 8) 50)) (g_node 51 (g_leaf 50 (o_imul 51)) (g_leaf 51 (o_iload 4 53)))) (g_node 55 (g_node 54 (g_leaf 53 (o_iadd 54)) (g_leaf 54 (o_iald sh g_xi 55))) (g_node 57 (g_leaf 55 (o_istore 6 57)) (g_leaf 57 (o_iload 5 59))))) (g_node 68 (g_node 64 (g_node 61 (g_leaf 59 (o_push (.int (-9)) 61)) (g_leaf 61 (o_ic_eq 96 64))) (g_node 66 (g_leaf 64 (o_iload 6 66)) (g_leaf 66 (o_push (.int (-9)) 68)))) (g_node 72 (g_node 71 (g_leaf 68 (o_ic_eq 80 71)) (g_leaf 71 (o_iload 3 72))) (g_node 74 (g_leaf 72 (o_iload 5 74)) (g_leaf 74 (o_iadd 75)))))) (g_node 90 (g_node 84 (g_node 80 (g_node 77 (g_leaf 75 (o_iload 6 77)) (g_leaf 77 (o_ic_ge 96 80))) (g_node 81 (g_leaf 80 (o_aload 0 81)) (g_leaf 81 (o_getf sh 1 11 84)))) (g_node 87 (g_node 85 (g_leaf 84 (o_iload 1 85)) (g_leaf 85 (o_push (.int 8) 87))) (g_node 88 (g_leaf 87 (o_imul 88)) (g_leaf 88 (o_iload 4 90))))) (g_node 95 (g_node 92 (g_node 91 (g_leaf 90 (o_iadd 91)) (g_leaf 91 (o_iload 3 92))) (g_node 94 (g_leaf 92 (o_iload 5 94)) (g_leaf 94 (o_iadd 95)))) (g_node 99 (g_node 96 (g_leaf 95 (o_iast sh 96)) (g_leaf 96 (o_iinc 4 1 99))) (g_node 102 (g_leaf 99 (o_goto 22)) (g_leaf 102 (o_vret))))))))
def t_X1_measureRuns (sh : g_Sh) : Nat → Option g_Op := (g_node 54 (g_node 25 (g_node 14 (g_node 4 (g_node 2 (g_node 1 (g_leaf 0 (o_push (.int 0) 1)) (g_leaf 1 (o_istore 2 2))) (g_node 3 (g_leaf 2 (o_iload 2 3)) (g_leaf 3 (o_aload 0 4)))) (g_node 10 (g_node 7 (g_leaf 4 (o_getf sh 1 0 7)) (g_leaf 7 (o_ic_ge 116 10))) (g_node 11 (g_leaf 10 (o_aload 0 11)) (g_leaf 11 (o_getf sh 1 11 14))))) (g_node 19 (g_node 17 (g_node 15 (g_leaf 14 (o_iload 2 15)) (g_leaf 15 (o_push (.int 8) 17))) (g_node 18 (g_leaf 17 (o_imul 18)) (g_leaf 18 (o_push (.int 0) 19)))) (g_node 21 (g_node 20 (g_leaf 19 (o_iadd 20)) (g_leaf 20 (o_iald sh g_xi 21))) (g_node 22 (g_leaf 21 (o_istore 3 22)) (g_node 23 (g_leaf 22 (o_iload 3 23)) (g_leaf 23 (o_push (.int (-9)) 25))))))) (g_node 42 (g_node 34 (g_node 30 (g_node 28 (g_leaf 25 (o_ic_ne 33 28)) (g_leaf 28 (o_push (.int (-9)) 30))) (g_node 33 (g_leaf 30 (o_goto 46)) (g_leaf 33 (o_iload 3 34)))) (g_node 37 (g_node 36 (g_leaf 34 (o_push (.int 10) 36)) (g_leaf 36 (o_imul 37))) (g_node 38 (g_leaf 37 (o_aload 0 38)) (g_node 41 (g_leaf 38 (o_getf sh 1 9 41)) (g_leaf 41 (o_iload 1 42)))))) (g_node 46 (g_node 44 (g_node 43 (g_leaf 42 (o_iald sh g_xi 43)) (g_leaf 43 (o_push (.int 5) 44))) (g_node 45 (g_leaf 44 (o_iadd 45)) (g_leaf 45 (o_idiv 46)))) (g_node 49 (g_node 48 (g_leaf 46 (o_istore 4 48)) (g_leaf 48 (o_aload 0 49))) (g_node 52 (g_leaf 49 (o_getf sh 1 3 52)) (g_node 53 (g_leaf 52 (o_iload 2 53)) (g_leaf 53 (o_iald sh g_xi 54)))))))) (g_node 84 (g_node 71 (g_node 63 (g_node 59 (g_node 56 (g_leaf 54 (o_push (.int 6) 56)) (g_leaf 56 (o_ic_ne 63 59))) (g_node 60 (g_leaf 59 (o_push (.int 5) 60)) (g_leaf 60 (o_goto 64)))) (g_node 66 (g_node 64 (g_leaf 63 (o_push (.int 0) 64)) (g_leaf 64 (o_istore 5 66))) (g_node 67 (g_leaf 66 (o_aload 0 67)) (g_node 70 (g_leaf 67 (o_getf sh 1 12 70)) (g_leaf 70 (o_iload 1 71)))))) (g_node 76 (g_node 74 (g_node 73 (g_leaf 71 (o_push (.int 8) 73)) (g_leaf 73 (o_imul 74))) (g_node 75 (g_leaf 74 (o_iload 2 75)) (g_leaf 75 (o_iadd 76)))) (g_node 79 (g_node 78 (g_leaf 76 (o_iload 4 78)) (g_leaf 78 (o_iast sh 79))) (g_node 80 (g_leaf 79 (o_aload 0 80)) (g_node 83 (g_leaf 80 (o_getf sh 1 13 83)) (g_leaf 83 (o_iload 1 84))))))) (g_node 100 (g_node 89 (g_node 87 (g_node 86 (g_leaf 84 (o_push (.int 8) 86)) (g_leaf 86 (o_imul 87))) (g_node 88 (g_leaf 87 (o_iload 2 88)) (g_leaf 88 (o_iadd 89)))) (g_node 92 (g_node 90 (g_leaf 89 (o_iload 3 90)) (g_leaf 90 (o_push (.int (-9)) 92))) (g_node 95 (g_leaf 92 (o_ic_ne 100 95)) (g_node 97 (g_leaf 95 (o_push (.int (-9)) 97)) (g_leaf 97 (o_goto 109)))))) (g_node 106 (g_node 103 (g_node 101 (g_leaf 100 (o_push (.int 1) 101)) (g_leaf 101 (o_iload 5 103))) (g_node 105 (g_leaf 103 (o_iload 4 105)) (g_leaf 105 (o_iadd 106)))) (g_node 110 (g_node 109 (g_leaf 106 (o_max 109)) (g_leaf 109 (o_iast sh 110))) (g_node 113 (g_leaf 110 (o_iinc 2 1 113)) (g_node 116 (g_leaf 113 (o_goto 2)) (g_leaf 116 (o_vret)))))))))
def t_X1_wayBetween (sh : g_Sh) : Nat → Option g_Op := (g_node 21 (g_node 9 (g_node 4 (g_node 1 (g_leaf 0 (o_iload 1 1)) (g_leaf 1 (o_if_lt 38 4))) (g_node 5 (g_leaf 4 (o_iload 1 5)) (g_node 6 (g_leaf 5 (o_aload 0 6)) (g_leaf 6 (o_getf sh 1 0 9))))) (g_node 16 (g_node 12 (g_leaf 9 (o_ic_ge 38 12)) (g_node 13 (g_leaf 12 (o_iload 2 13)) (g_leaf 13 (o_if_lt 38 16)))) (g_node 17 (g_leaf 16 (o_iload 2 17)) (g_node 18 (g_leaf 17 (o_aload 0 18)) (g_leaf 18 (o_getf sh 1 0 21)))))) (g_node 32 (g_node 28 (g_node 24 (g_leaf 21 (o_ic_ge 38 24)) (g_node 25 (g_leaf 24 (o_aload 0 25)) (g_leaf 25 (o_getf sh 1 10 28)))) (g_node 29 (g_leaf 28 (o_iload 1 29)) (g_node 31 (g_leaf 29 (o_push (.int 8) 31)) (g_leaf 31 (o_imul 32))))) (g_node 35 (g_node 33 (g_leaf 32 (o_iload 2 33)) (g_node 34 (g_leaf 33 (o_iadd 34)) (g_leaf 34 (o_iald sh g_xi 35)))) (g_node 38 (g_leaf 35 (o_goto 39)) (g_node 39 (g_leaf 38 (o_push (.int 0) 39)) (g_leaf 39 (o_iret)))))))
def t_X1_distance (sh : g_Sh) : Nat → Option g_Op := (g_node 21 (g_node 9 (g_node 4 (g_node 1 (g_leaf 0 (o_iload 1 1)) (g_leaf 1 (o_if_lt 38 4))) (g_node 5 (g_leaf 4 (o_iload 1 5)) (g_node 6 (g_leaf 5 (o_aload 0 6)) (g_leaf 6 (o_getf sh 1 0 9))))) (g_node 16 (g_node 12 (g_leaf 9 (o_ic_ge 38 12)) (g_node 13 (g_leaf 12 (o_iload 2 13)) (g_leaf 13 (o_if_lt 38 16)))) (g_node 17 (g_leaf 16 (o_iload 2 17)) (g_node 18 (g_leaf 17 (o_aload 0 18)) (g_leaf 18 (o_getf sh 1 0 21)))))) (g_node 32 (g_node 28 (g_node 24 (g_leaf 21 (o_ic_ge 38 24)) (g_node 25 (g_leaf 24 (o_aload 0 25)) (g_leaf 25 (o_getf sh 1 11 28)))) (g_node 29 (g_leaf 28 (o_iload 1 29)) (g_node 31 (g_leaf 29 (o_push (.int 8) 31)) (g_leaf 31 (o_imul 32))))) (g_node 35 (g_node 33 (g_leaf 32 (o_iload 2 33)) (g_node 34 (g_leaf 33 (o_iadd 34)) (g_leaf 34 (o_iald sh g_xi 35)))) (g_node 38 (g_leaf 35 (o_goto 40)) (g_node 40 (g_leaf 38 (o_push (.int (-9)) 40)) (g_leaf 40 (o_iret)))))))
def t_X1_canComeToFirst (sh : g_Sh) : Nat → Option g_Op := (g_node 10 (g_node 4 (g_node 2 (g_node 1 (g_leaf 0 (o_push (.int 1) 1)) (g_leaf 1 (o_istore 2 2))) (g_node 3 (g_leaf 2 (o_iload 2 3)) (g_leaf 3 (o_iload 1 4)))) (g_node 8 (g_node 7 (g_leaf 4 (o_ic_gt 26 7)) (g_leaf 7 (o_aload 0 8))) (g_node 9 (g_leaf 8 (o_push (.int 0) 9)) (g_leaf 9 (o_iload 2 10))))) (g_node 19 (g_node 15 (g_node 13 (g_leaf 10 (o_callV sh 1 20 3 13)) (g_leaf 13 (o_push (.int (-9)) 15))) (g_node 18 (g_leaf 15 (o_ic_ne 20 18)) (g_leaf 18 (o_push (.int 0) 19)))) (g_node 23 (g_node 20 (g_leaf 19 (o_nret .boolean)) (g_leaf 20 (o_iinc 2 1 23))) (g_node 26 (g_leaf 23 (o_goto 2)) (g_node 27 (g_leaf 26 (o_push (.int 1) 27)) (g_leaf 27 (o_nret .boolean)))))))
def t_X1_nextOn (sh : g_Sh) : Nat → Option g_Op := (g_node 31 (g_node 13 (g_node 6 (g_node 2 (g_node 1 (g_leaf 0 (o_aload 0 1)) (g_leaf 1 (o_iload 1 2))) (g_node 3 (g_leaf 2 (o_iload 2 3)) (g_leaf 3 (o_callV sh 1 20 3 6)))) (g_node 8 (g_node 7 (g_leaf 6 (o_istore 3 7)) (g_leaf 7 (o_push (.int 0) 8))) (g_node 10 (g_leaf 8 (o_istore 4 10)) (g_node 12 (g_leaf 10 (o_iload 4 12)) (g_leaf 12 (o_aload 0 13)))))) (g_node 21 (g_node 19 (g_node 16 (g_leaf 13 (o_getf sh 1 0 16)) (g_leaf 16 (o_ic_ge 67 19))) (g_node 20 (g_leaf 19 (o_aload 0 20)) (g_leaf 20 (o_iload 1 21)))) (g_node 26 (g_node 23 (g_leaf 21 (o_iload 4 23)) (g_leaf 23 (o_callV sh 1 19 3 26))) (g_node 28 (g_leaf 26 (o_istore 5 28)) (g_node 29 (g_leaf 28 (o_aload 0 29)) (g_leaf 29 (o_iload 4 31))))))) (g_node 51 (g_node 39 (g_node 35 (g_node 32 (g_leaf 31 (o_iload 2 32)) (g_leaf 32 (o_callV sh 1 20 3 35))) (g_node 37 (g_leaf 35 (o_istore 6 37)) (g_leaf 37 (o_iload 5 39)))) (g_node 44 (g_node 42 (g_leaf 39 (o_if_le 61 42)) (g_leaf 42 (o_iload 6 44))) (g_node 46 (g_leaf 44 (o_push (.int (-9)) 46)) (g_node 49 (g_leaf 46 (o_ic_eq 61 49)) (g_leaf 49 (o_iload 5 51)))))) (g_node 60 (g_node 54 (g_node 53 (g_leaf 51 (o_iload 6 53)) (g_leaf 53 (o_iadd 54))) (g_node 55 (g_leaf 54 (o_iload 3 55)) (g_node 58 (g_leaf 55 (o_ic_ne 61 58)) (g_leaf 58 (o_iload 4 60))))) (g_node 64 (g_node 61 (g_leaf 60 (o_iret)) (g_leaf 61 (o_iinc 4 1 64))) (g_node 67 (g_leaf 64 (o_goto 10)) (g_node 68 (g_leaf 67 (o_iload 1 68)) (g_leaf 68 (o_iret))))))))
def t_X1_coverAt (sh : g_Sh) : Nat → Option g_Op := (g_node 94 (g_node 63 (g_node 12 (g_node 5 (g_node 1 (g_leaf 0 (o_aload 0 1)) (g_node 4 (g_leaf 1 (o_getf sh 1 5 4)) (g_leaf 4 (o_iload 1 5)))) (g_node 8 (g_node 6 (g_leaf 5 (o_iald sh g_xi 6)) (g_leaf 6 (o_istore 6 8))) (g_node 9 (g_leaf 8 (o_aload 0 9)) (g_leaf 9 (o_getf sh 1 3 12))))) (g_node 58 (g_node 14 (g_node 13 (g_leaf 12 (o_iload 1 13)) (g_leaf 13 (o_iald sh g_xi 14))) (g_node 56 (g_leaf 14 (o_sw [(1, 56), (2, 82), (3, 101), (4, 120), (5, 68), (6, 140), (7, 88)] 140)) (g_leaf 56 (o_iload 6 58)))) (g_node 61 (g_node 59 (g_leaf 58 (o_push (.int 5) 59)) (g_leaf 59 (o_iload 4 61))) (g_node 62 (g_leaf 61 (o_imul 62)) (g_leaf 62 (o_isub 63)))))) (g_node 76 (g_node 71 (g_node 68 (g_node 65 (g_leaf 63 (o_istore 6 65)) (g_leaf 65 (o_goto 140))) (g_node 70 (g_leaf 68 (o_iload 6 70)) (g_leaf 70 (o_push (.int 5) 71)))) (g_node 74 (g_node 73 (g_leaf 71 (o_iload 4 73)) (g_leaf 73 (o_imul 74))) (g_node 75 (g_leaf 74 (o_push (.int 5) 75)) (g_leaf 75 (o_iadd 76))))) (g_node 85 (g_node 79 (g_node 77 (g_leaf 76 (o_isub 77)) (g_leaf 77 (o_istore 6 79))) (g_node 82 (g_leaf 79 (o_goto 140)) (g_leaf 82 (o_iinc 6 10 85)))) (g_node 90 (g_node 88 (g_leaf 85 (o_goto 140)) (g_leaf 88 (o_iload 6 90))) (g_node 92 (g_leaf 90 (o_push (.int 10) 92)) (g_leaf 92 (o_iload 5 94))))))) (g_node 121 (g_node 106 (g_node 98 (g_node 95 (g_leaf 94 (o_iadd 95)) (g_node 96 (g_leaf 95 (o_iadd 96)) (g_leaf 96 (o_istore 6 98)))) (g_node 102 (g_node 101 (g_leaf 98 (o_goto 140)) (g_leaf 101 (o_iload 3 102))) (g_node 103 (g_leaf 102 (o_push (.int 2) 103)) (g_leaf 103 (o_ic_lt 113 106))))) (g_node 113 (g_node 109 (g_node 108 (g_leaf 106 (o_iload 6 108)) (g_leaf 108 (o_push (.int 2) 109))) (g_node 110 (g_leaf 109 (o_idiv 110)) (g_leaf 110 (o_goto 115)))) (g_node 117 (g_node 115 (g_leaf 113 (o_iload 6 115)) (g_leaf 115 (o_istore 6 117))) (g_node 120 (g_leaf 117 (o_goto 140)) (g_leaf 120 (o_iload 2 121)))))) (g_node 135 (g_node 128 (g_node 123 (g_node 122 (g_leaf 121 (o_push (.int 2) 122)) (g_leaf 122 (o_irem 123))) (g_node 126 (g_leaf 123 (o_if_ne 131 126)) (g_leaf 126 (o_iload 6 128)))) (g_node 133 (g_node 131 (g_leaf 128 (o_goto 135)) (g_leaf 131 (o_iload 6 133))) (g_node 134 (g_leaf 133 (o_push (.int 2) 134)) (g_leaf 134 (o_idiv 135))))) (g_node 143 (g_node 140 (g_node 137 (g_leaf 135 (o_istore 6 137)) (g_leaf 137 (o_goto 140))) (g_node 141 (g_leaf 140 (o_push (.int 0) 141)) (g_leaf 141 (o_push (.int 99) 143)))) (g_node 148 (g_node 145 (g_leaf 143 (o_iload 6 145)) (g_leaf 145 (o_min 148))) (g_node 151 (g_leaf 148 (o_max 151)) (g_leaf 151 (o_iret))))))))
def t_X1_secondsToWalk (sh : g_Sh) : Nat → Option g_Op := (g_node 21 (g_node 9 (g_node 4 (g_node 1 (g_leaf 0 (o_iload 1 1)) (g_leaf 1 (o_if_lt 38 4))) (g_node 5 (g_leaf 4 (o_iload 1 5)) (g_node 6 (g_leaf 5 (o_aload 0 6)) (g_leaf 6 (o_getf sh 1 2 9))))) (g_node 16 (g_node 12 (g_leaf 9 (o_ic_ge 38 12)) (g_node 13 (g_leaf 12 (o_iload 2 13)) (g_leaf 13 (o_if_lt 38 16)))) (g_node 17 (g_leaf 16 (o_iload 2 17)) (g_node 18 (g_leaf 17 (o_aload 0 18)) (g_leaf 18 (o_getf sh 1 0 21)))))) (g_node 32 (g_node 28 (g_node 24 (g_leaf 21 (o_ic_ge 38 24)) (g_node 25 (g_leaf 24 (o_aload 0 25)) (g_leaf 25 (o_getf sh 1 12 28)))) (g_node 29 (g_leaf 28 (o_iload 1 29)) (g_node 31 (g_leaf 29 (o_push (.int 8) 31)) (g_leaf 31 (o_imul 32))))) (g_node 35 (g_node 33 (g_leaf 32 (o_iload 2 33)) (g_node 34 (g_leaf 33 (o_iadd 34)) (g_leaf 34 (o_iald sh g_xi 35)))) (g_node 38 (g_leaf 35 (o_goto 40)) (g_node 40 (g_leaf 38 (o_push (.int (-9)) 40)) (g_leaf 40 (o_iret)))))))
def t_X1_secondsToRun (sh : g_Sh) : Nat → Option g_Op := (g_node 21 (g_node 9 (g_node 4 (g_node 1 (g_leaf 0 (o_iload 1 1)) (g_leaf 1 (o_if_lt 38 4))) (g_node 5 (g_leaf 4 (o_iload 1 5)) (g_node 6 (g_leaf 5 (o_aload 0 6)) (g_leaf 6 (o_getf sh 1 2 9))))) (g_node 16 (g_node 12 (g_leaf 9 (o_ic_ge 38 12)) (g_node 13 (g_leaf 12 (o_iload 2 13)) (g_leaf 13 (o_if_lt 38 16)))) (g_node 17 (g_leaf 16 (o_iload 2 17)) (g_node 18 (g_leaf 17 (o_aload 0 18)) (g_leaf 18 (o_getf sh 1 0 21)))))) (g_node 32 (g_node 28 (g_node 24 (g_leaf 21 (o_ic_ge 38 24)) (g_node 25 (g_leaf 24 (o_aload 0 25)) (g_leaf 25 (o_getf sh 1 13 28)))) (g_node 29 (g_leaf 28 (o_iload 1 29)) (g_node 31 (g_leaf 29 (o_push (.int 8) 31)) (g_leaf 31 (o_imul 32))))) (g_node 35 (g_node 33 (g_leaf 32 (o_iload 2 33)) (g_node 34 (g_leaf 33 (o_iadd 34)) (g_leaf 34 (o_iald sh g_xi 35)))) (g_node 38 (g_leaf 35 (o_goto 40)) (g_node 40 (g_leaf 38 (o_push (.int (-9)) 40)) (g_leaf 40 (o_iret)))))))
def t_X1_wouldRun (sh : g_Sh) : Nat → Option g_Op := (g_node 15 (g_node 6 (g_node 2 (g_node 1 (g_leaf 0 (o_aload 0 1)) (g_leaf 1 (o_iload 1 2))) (g_node 3 (g_leaf 2 (o_iload 2 3)) (g_leaf 3 (o_callV sh 1 25 3 6)))) (g_node 10 (g_node 8 (g_leaf 6 (o_istore 5 8)) (g_leaf 8 (o_iload 5 10))) (g_node 12 (g_leaf 10 (o_push (.int (-9)) 12)) (g_leaf 12 (o_ic_eq 28 15))))) (g_node 21 (g_node 18 (g_node 17 (g_leaf 15 (o_iload 5 17)) (g_leaf 17 (o_iload 3 18))) (g_node 19 (g_leaf 18 (o_iadd 19)) (g_leaf 19 (o_iload 4 21)))) (g_node 25 (g_node 24 (g_leaf 21 (o_ic_ge 28 24)) (g_leaf 24 (o_push (.int 1) 25))) (g_node 28 (g_leaf 25 (o_goto 29)) (g_node 29 (g_leaf 28 (o_push (.int 0) 29)) (g_leaf 29 (o_nret .boolean)))))))
def t_X1_allTimes (sh : g_Sh) : Nat → Option g_Op := (g_node 13 (g_node 4 (g_node 2 (g_node 1 (g_leaf 0 (o_push (.int 0) 1)) (g_leaf 1 (o_istore 1 2))) (g_node 3 (g_leaf 2 (o_push (.int 0) 3)) (g_leaf 3 (o_istore 2 4)))) (g_node 6 (g_node 5 (g_leaf 4 (o_iload 2 5)) (g_leaf 5 (o_aload 0 6))) (g_node 9 (g_leaf 6 (o_getf sh 1 0 9)) (g_node 12 (g_leaf 9 (o_ic_ge 27 12)) (g_leaf 12 (o_iload 1 13)))))) (g_node 20 (g_node 17 (g_node 14 (g_leaf 13 (o_aload 0 14)) (g_leaf 14 (o_getf sh 1 6 17))) (g_node 18 (g_leaf 17 (o_iload 2 18)) (g_node 19 (g_leaf 18 (o_iald sh g_xi 19)) (g_leaf 19 (o_iadd 20))))) (g_node 24 (g_node 21 (g_leaf 20 (o_istore 1 21)) (g_leaf 21 (o_iinc 2 1 24))) (g_node 27 (g_leaf 24 (o_goto 4)) (g_node 28 (g_leaf 27 (o_iload 1 28)) (g_leaf 28 (o_iret)))))))
def t_X2_begin (sh : g_Sh) : Nat → Option g_Op := (g_node 16 (g_node 9 (g_node 2 (g_node 1 (g_leaf 0 (o_aload 0 1)) (g_leaf 1 (o_iload 1 2))) (g_node 3 (g_leaf 2 (o_push (.int 4) 3)) (g_node 6 (g_leaf 3 (o_min 6)) (g_leaf 6 (o_putf sh 2 1 9))))) (g_node 11 (g_node 10 (g_leaf 9 (o_push (.int 0) 10)) (g_leaf 10 (o_istore 2 11))) (g_node 12 (g_leaf 11 (o_iload 2 12)) (g_node 13 (g_leaf 12 (o_aload 0 13)) (g_leaf 13 (o_getf sh 2 1 16)))))) (g_node 25 (g_node 20 (g_node 19 (g_leaf 16 (o_ic_ge 34 19)) (g_leaf 19 (o_aload 0 20))) (g_node 23 (g_leaf 20 (o_getf sh 2 0 23)) (g_node 24 (g_leaf 23 (o_iload 2 24)) (g_leaf 24 (o_iload 2 25))))) (g_node 28 (g_node 26 (g_leaf 25 (o_push (.int 1) 26)) (g_node 27 (g_leaf 26 (o_iadd 27)) (g_leaf 27 (o_iast sh 28)))) (g_node 31 (g_leaf 28 (o_iinc 2 1 31)) (g_node 34 (g_leaf 31 (o_goto 11)) (g_leaf 34 (o_vret)))))))
def t_X2_advance (sh : g_Sh) : Nat → Option g_Op := (g_node 56 (g_node 25 (g_node 12 (g_node 6 (g_node 4 (g_node 1 (g_leaf 0 (o_aload 0 1)) (g_leaf 1 (o_getf sh 2 1 4))) (g_node 5 (g_leaf 4 (o_push (.int 2) 5)) (g_leaf 5 (o_isub 6)))) (g_node 8 (g_node 7 (g_leaf 6 (o_istore 1 7)) (g_leaf 7 (o_iload 1 8))) (g_node 11 (g_leaf 8 (o_if_lt 34 11)) (g_leaf 11 (o_aload 0 12))))) (g_node 18 (g_node 16 (g_node 15 (g_leaf 12 (o_getf sh 2 0 15)) (g_leaf 15 (o_iload 1 16))) (g_node 17 (g_leaf 16 (o_iald sh g_xi 17)) (g_leaf 17 (o_aload 0 18)))) (g_node 22 (g_node 21 (g_leaf 18 (o_getf sh 2 0 21)) (g_leaf 21 (o_iload 1 22))) (g_node 23 (g_leaf 22 (o_push (.int 1) 23)) (g_node 24 (g_leaf 23 (o_iadd 24)) (g_leaf 24 (o_iald sh g_xi 25))))))) (g_node 41 (g_node 35 (g_node 31 (g_node 28 (g_leaf 25 (o_ic_le 34 28)) (g_leaf 28 (o_iinc 1 (-1) 31))) (g_node 34 (g_leaf 31 (o_goto 7)) (g_leaf 34 (o_iload 1 35)))) (g_node 39 (g_node 38 (g_leaf 35 (o_if_ge 40 38)) (g_leaf 38 (o_push (.int 0) 39))) (g_node 40 (g_leaf 39 (o_nret .boolean)) (g_leaf 40 (o_aload 0 41))))) (g_node 47 (g_node 45 (g_node 44 (g_leaf 41 (o_getf sh 2 1 44)) (g_leaf 44 (o_push (.int 1) 45))) (g_node 46 (g_leaf 45 (o_isub 46)) (g_leaf 46 (o_istore 2 47)))) (g_node 49 (g_node 48 (g_leaf 47 (o_iload 2 48)) (g_leaf 48 (o_iload 1 49))) (g_node 52 (g_leaf 49 (o_ic_le 73 52)) (g_node 53 (g_leaf 52 (o_aload 0 53)) (g_leaf 53 (o_getf sh 2 0 56)))))))) (g_node 83 (g_node 70 (g_node 62 (g_node 58 (g_node 57 (g_leaf 56 (o_iload 2 57)) (g_leaf 57 (o_iald sh g_xi 58))) (g_node 59 (g_leaf 58 (o_aload 0 59)) (g_leaf 59 (o_getf sh 2 0 62)))) (g_node 64 (g_node 63 (g_leaf 62 (o_iload 1 63)) (g_leaf 63 (o_iald sh g_xi 64))) (g_node 67 (g_leaf 64 (o_ic_ge 73 67)) (g_leaf 67 (o_iinc 2 (-1) 70))))) (g_node 76 (g_node 74 (g_node 73 (g_leaf 70 (o_goto 47)) (g_leaf 73 (o_aload 0 74))) (g_node 75 (g_leaf 74 (o_iload 1 75)) (g_leaf 75 (o_iload 2 76)))) (g_node 80 (g_node 79 (g_leaf 76 (o_callVv sh 2 30 3 79)) (g_leaf 79 (o_iload 1 80))) (g_node 81 (g_leaf 80 (o_push (.int 1) 81)) (g_node 82 (g_leaf 81 (o_iadd 82)) (g_leaf 82 (o_istore 3 83))))))) (g_node 97 (g_node 89 (g_node 87 (g_node 84 (g_leaf 83 (o_aload 0 84)) (g_leaf 84 (o_getf sh 2 1 87))) (g_node 88 (g_leaf 87 (o_push (.int 1) 88)) (g_leaf 88 (o_isub 89)))) (g_node 92 (g_node 91 (g_leaf 89 (o_istore 4 91)) (g_leaf 91 (o_iload 3 92))) (g_node 94 (g_leaf 92 (o_iload 4 94)) (g_leaf 94 (o_ic_ge 113 97))))) (g_node 104 (g_node 99 (g_node 98 (g_leaf 97 (o_aload 0 98)) (g_leaf 98 (o_iload 3 99))) (g_node 101 (g_leaf 99 (o_iload 4 101)) (g_leaf 101 (o_callVv sh 2 30 3 104)))) (g_node 110 (g_node 107 (g_leaf 104 (o_iinc 3 1 107)) (g_leaf 107 (o_iinc 4 (-1) 110))) (g_node 113 (g_leaf 110 (o_goto 91)) (g_node 114 (g_leaf 113 (o_push (.int 1) 114)) (g_leaf 114 (o_nret .boolean)))))))))
def t_X2_swap (sh : g_Sh) : Nat → Option g_Op := (g_node 13 (g_node 6 (g_node 4 (g_node 1 (g_leaf 0 (o_aload 0 1)) (g_leaf 1 (o_getf sh 2 0 4))) (g_node 5 (g_leaf 4 (o_iload 1 5)) (g_leaf 5 (o_iald sh g_xi 6)))) (g_node 8 (g_node 7 (g_leaf 6 (o_istore 3 7)) (g_leaf 7 (o_aload 0 8))) (g_node 11 (g_leaf 8 (o_getf sh 2 0 11)) (g_node 12 (g_leaf 11 (o_iload 1 12)) (g_leaf 12 (o_aload 0 13)))))) (g_node 20 (g_node 17 (g_node 16 (g_leaf 13 (o_getf sh 2 0 16)) (g_leaf 16 (o_iload 2 17))) (g_node 18 (g_leaf 17 (o_iald sh g_xi 18)) (g_node 19 (g_leaf 18 (o_iast sh 19)) (g_leaf 19 (o_aload 0 20))))) (g_node 24 (g_node 23 (g_leaf 20 (o_getf sh 2 0 23)) (g_leaf 23 (o_iload 2 24))) (g_node 25 (g_leaf 24 (o_iload 3 25)) (g_node 26 (g_leaf 25 (o_iast sh 26)) (g_leaf 26 (o_vret)))))))
def t_X3_append (sh : g_Sh) : Nat → Option g_Op := (g_node 29 (g_node 13 (g_node 5 (g_node 1 (g_leaf 0 (o_push (.int 0) 1)) (g_node 3 (g_leaf 1 (o_istore 4 3)) (g_leaf 3 (o_iload 4 5)))) (g_node 9 (g_node 6 (g_leaf 5 (o_iload 1 6)) (g_leaf 6 (o_ic_ge 55 9))) (g_node 10 (g_leaf 9 (o_aload 0 10)) (g_leaf 10 (o_getf sh 3 2 13))))) (g_node 22 (g_node 18 (g_node 15 (g_leaf 13 (o_push (.int 64) 15)) (g_leaf 15 (o_ic_ge 55 18))) (g_node 19 (g_leaf 18 (o_aload 0 19)) (g_leaf 19 (o_getf sh 3 0 22)))) (g_node 26 (g_node 23 (g_leaf 22 (o_aload 0 23)) (g_leaf 23 (o_getf sh 3 2 26))) (g_node 27 (g_leaf 26 (o_lload 2 27)) (g_leaf 27 (o_push (.int 8) 29)))))) (g_node 40 (g_node 36 (g_node 32 (g_node 31 (g_leaf 29 (o_iload 4 31)) (g_leaf 31 (o_imul 32))) (g_node 33 (g_leaf 32 (o_lushr 33)) (g_leaf 33 (o_push (.long 255) 36)))) (g_node 38 (g_node 37 (g_leaf 36 (o_land 37)) (g_leaf 37 (o_l2i 38))) (g_node 39 (g_leaf 38 (o_iast sh 39)) (g_leaf 39 (o_aload 0 40))))) (g_node 46 (g_node 44 (g_node 41 (g_leaf 40 (o_dup 41)) (g_leaf 41 (o_getf sh 3 2 44))) (g_node 45 (g_leaf 44 (o_push (.int 1) 45)) (g_leaf 45 (o_iadd 46)))) (g_node 52 (g_node 49 (g_leaf 46 (o_putf sh 3 2 49)) (g_leaf 49 (o_iinc 4 1 52))) (g_node 55 (g_leaf 52 (o_goto 3)) (g_leaf 55 (o_vret)))))))
def t_X3_readInto (sh : g_Sh) : Nat → Option g_Op := (g_node 27 (g_node 12 (g_node 6 (g_node 4 (g_node 1 (g_leaf 0 (o_aload 0 1)) (g_leaf 1 (o_callV sh 3 33 1 4))) (g_node 5 (g_leaf 4 (o_istore 2 5)) (g_leaf 5 (o_aload 0 6)))) (g_node 10 (g_node 7 (g_leaf 6 (o_push (.int 0) 7)) (g_leaf 7 (o_putf sh 3 3 10))) (g_node 11 (g_leaf 10 (o_push (.int 0) 11)) (g_leaf 11 (o_istore 3 12))))) (g_node 18 (g_node 14 (g_node 13 (g_leaf 12 (o_iload 3 13)) (g_leaf 13 (o_iload 2 14))) (g_node 17 (g_leaf 14 (o_ic_ge 59 17)) (g_leaf 17 (o_aload 0 18)))) (g_node 23 (g_node 21 (g_leaf 18 (o_getf sh 3 3 21)) (g_leaf 21 (o_istore 4 23))) (g_node 24 (g_leaf 23 (o_aload 0 24)) (g_leaf 24 (o_callV sh 3 34 1 27)))))) (g_node 43 (g_node 36 (g_node 30 (g_node 29 (g_leaf 27 (o_istore 5 29)) (g_leaf 29 (o_aload 0 30))) (g_node 33 (g_leaf 30 (o_callV sh 3 35 1 33)) (g_leaf 33 (o_if_eq 46 36)))) (g_node 39 (g_node 37 (g_leaf 36 (o_aload 0 37)) (g_leaf 37 (o_iload 5 39))) (g_node 40 (g_leaf 39 (o_aload 1 40)) (g_leaf 40 (o_callV sh 3 42 3 43))))) (g_node 52 (g_node 49 (g_node 46 (g_leaf 43 (o_if_ne 53 46)) (g_leaf 46 (o_push (.int (-2000)) 49))) (g_node 51 (g_leaf 49 (o_iload 4 51)) (g_leaf 51 (o_isub 52)))) (g_node 56 (g_node 53 (g_leaf 52 (o_iret)) (g_leaf 53 (o_iinc 3 1 56))) (g_node 59 (g_leaf 56 (o_goto 12)) (g_node 60 (g_leaf 59 (o_iload 2 60)) (g_leaf 60 (o_iret))))))))
def t_X3_countStatements (sh : g_Sh) : Nat → Option g_Op := (g_node 23 (g_node 8 (g_node 5 (g_node 1 (g_leaf 0 (o_aload 0 1)) (g_node 2 (g_leaf 1 (o_push (.int 0) 2)) (g_leaf 2 (o_putf sh 3 3 5)))) (g_node 6 (g_leaf 5 (o_push (.int 0) 6)) (g_node 7 (g_leaf 6 (o_istore 1 7)) (g_leaf 7 (o_iload 1 8))))) (g_node 15 (g_node 11 (g_leaf 8 (o_if_eq 28 11)) (g_node 12 (g_leaf 11 (o_aload 0 12)) (g_leaf 12 (o_getf sh 3 3 15)))) (g_node 19 (g_node 16 (g_leaf 15 (o_aload 0 16)) (g_leaf 16 (o_getf sh 3 2 19))) (g_node 22 (g_leaf 19 (o_ic_ge 50 22)) (g_leaf 22 (o_iload 1 23)))))) (g_node 39 (g_node 29 (g_node 25 (g_leaf 23 (o_push (.int 64) 25)) (g_node 28 (g_leaf 25 (o_ic_ge 50 28)) (g_leaf 28 (o_aload 0 29)))) (g_node 35 (g_node 32 (g_leaf 29 (o_callV sh 3 35 1 32)) (g_leaf 32 (o_if_ne 44 35))) (g_node 38 (g_leaf 35 (o_push (.int (-1000)) 38)) (g_leaf 38 (o_aload 0 39))))) (g_node 44 (g_node 42 (g_leaf 39 (o_getf sh 3 3 42)) (g_node 43 (g_leaf 42 (o_isub 43)) (g_leaf 43 (o_iret)))) (g_node 50 (g_node 47 (g_leaf 44 (o_iinc 1 1 47)) (g_leaf 47 (o_goto 7))) (g_node 51 (g_leaf 50 (o_iload 1 51)) (g_leaf 51 (o_iret)))))))
def t_X3_sign (sh : g_Sh) : Nat → Option g_Op := (g_node 17 (g_node 8 (g_node 4 (g_node 1 (g_leaf 0 (o_aload 0 1)) (g_leaf 1 (o_getf sh 3 3 4))) (g_node 5 (g_leaf 4 (o_aload 0 5)) (g_leaf 5 (o_getf sh 3 2 8)))) (g_node 12 (g_node 11 (g_leaf 8 (o_ic_ge 32 11)) (g_leaf 11 (o_aload 0 12))) (g_node 15 (g_leaf 12 (o_getf sh 3 3 15)) (g_leaf 15 (o_push (.int 64) 17))))) (g_node 25 (g_node 21 (g_node 20 (g_leaf 17 (o_ic_ge 32 20)) (g_leaf 20 (o_aload 0 21))) (g_node 24 (g_leaf 21 (o_getf sh 3 0 24)) (g_leaf 24 (o_aload 0 25)))) (g_node 29 (g_node 28 (g_leaf 25 (o_getf sh 3 3 28)) (g_leaf 28 (o_iald sh g_xi 29))) (g_node 32 (g_leaf 29 (o_goto 33)) (g_node 33 (g_leaf 32 (o_push (.int (-1)) 33)) (g_leaf 33 (o_iret)))))))
def t_X3_readStatement (sh : g_Sh) : Nat → Option g_Op := (g_node 55 (g_node 27 (g_node 15 (g_node 7 (g_node 1 (g_leaf 0 (o_aload 0 1)) (g_node 4 (g_leaf 1 (o_callV sh 3 34 1 4)) (g_leaf 4 (o_callS 36 1 7)))) (g_node 9 (g_node 8 (g_leaf 7 (o_astore 1 8)) (g_leaf 8 (o_aload 1 9))) (g_node 12 (g_leaf 9 (o_callX 10 16 207 1 12)) (g_leaf 12 (o_if_eq 17 15))))) (g_node 19 (g_node 17 (g_node 16 (g_leaf 15 (o_push (.int 0) 16)) (g_leaf 16 (o_nret .boolean))) (g_node 18 (g_leaf 17 (o_aload 0 18)) (g_leaf 18 (o_dup 19)))) (g_node 23 (g_node 22 (g_leaf 19 (o_getf sh 3 3 22)) (g_leaf 22 (o_push (.int 1) 23))) (g_node 24 (g_leaf 23 (o_iadd 24)) (g_leaf 24 (o_putf sh 3 3 27)))))) (g_node 39 (g_node 31 (g_node 29 (g_node 28 (g_leaf 27 (o_push (.int 0) 28)) (g_leaf 28 (o_istore 2 29))) (g_node 30 (g_leaf 29 (o_push (.int 0) 30)) (g_leaf 30 (o_istore 3 31)))) (g_node 33 (g_node 32 (g_leaf 31 (o_iload 3 32)) (g_leaf 32 (o_aload 1 33))) (g_node 36 (g_leaf 33 (o_callX 10 16 206 1 36)) (g_leaf 36 (o_ic_ge 115 39))))) (g_node 46 (g_node 41 (g_node 40 (g_leaf 39 (o_aload 1 40)) (g_leaf 40 (o_iload 3 41))) (g_node 44 (g_leaf 41 (o_callX 10 16 208 2 44)) (g_leaf 44 (o_istore 4 46)))) (g_node 50 (g_node 48 (g_leaf 46 (o_iload 4 48)) (g_leaf 48 (o_push (.int 44) 50))) (g_node 53 (g_leaf 50 (o_ic_eq 60 53)) (g_leaf 53 (o_iload 4 55))))))) (g_node 88 (g_node 72 (g_node 64 (g_node 60 (g_node 57 (g_leaf 55 (o_push (.int 59) 57)) (g_leaf 57 (o_ic_ne 64 60))) (g_node 61 (g_leaf 60 (o_push (.int 1) 61)) (g_leaf 61 (o_goto 65)))) (g_node 67 (g_node 65 (g_leaf 64 (o_push (.int 0) 65)) (g_leaf 65 (o_istore 5 67))) (g_node 69 (g_leaf 67 (o_iload 5 69)) (g_leaf 69 (o_if_eq 84 72))))) (g_node 81 (g_node 75 (g_node 73 (g_leaf 72 (o_aload 0 73)) (g_leaf 73 (o_iload 4 75))) (g_node 78 (g_leaf 75 (o_callV sh 3 37 2 78)) (g_leaf 78 (o_if_eq 94 81)))) (g_node 85 (g_node 84 (g_leaf 81 (o_goto 96)) (g_leaf 84 (o_aload 0 85))) (g_node 87 (g_leaf 85 (o_iload 4 87)) (g_leaf 87 (o_iload 2 88)))))) (g_node 103 (g_node 96 (g_node 94 (g_node 91 (g_leaf 88 (o_callV sh 3 38 3 91)) (g_leaf 91 (o_if_ne 96 94))) (g_node 95 (g_leaf 94 (o_push (.int 0) 95)) (g_leaf 95 (o_nret .boolean)))) (g_node 99 (g_node 97 (g_leaf 96 (o_iload 2 97)) (g_leaf 97 (o_iload 5 99))) (g_node 102 (g_leaf 99 (o_if_eq 106 102)) (g_leaf 102 (o_push (.int 0) 103))))) (g_node 109 (g_node 107 (g_node 106 (g_leaf 103 (o_goto 107)) (g_leaf 106 (o_push (.int 1) 107))) (g_node 108 (g_leaf 107 (o_iadd 108)) (g_leaf 108 (o_istore 2 109)))) (g_node 115 (g_node 112 (g_leaf 109 (o_iinc 3 1 112)) (g_leaf 112 (o_goto 31))) (g_node 116 (g_leaf 115 (o_push (.int 1) 116)) (g_leaf 116 (o_nret .boolean))))))))
def t_X3_formOf (sh : g_Sh) : Nat → Option g_Op := (g_node 50 (g_node 46 (g_node 1 (g_leaf 0 (o_iload 0 1)) (g_node 44 (g_leaf 1 (o_sw [(104, 53), (112, 44), (118, 50), (119, 47)] 56)) (g_leaf 44 (o_push (.retAddr 10) 46)))) (g_node 47 (g_leaf 46 (o_aret)) (g_node 49 (g_leaf 47 (o_push (.retAddr 11) 49)) (g_leaf 49 (o_aret))))) (g_node 55 (g_node 52 (g_leaf 50 (o_push (.retAddr 12) 52)) (g_node 53 (g_leaf 52 (o_aret)) (g_leaf 53 (o_push (.retAddr 13) 55)))) (g_node 56 (g_leaf 55 (o_aret)) (g_node 58 (g_leaf 56 (o_push (.retAddr 14) 58)) (g_leaf 58 (o_aret))))))
def t_X3_readMark (sh : g_Sh) : Nat → Option g_Op := (g_node 11 (g_node 5 (g_node 1 (g_leaf 0 (o_aload 0 1)) (g_node 4 (g_leaf 1 (o_callV sh 3 34 1 4)) (g_leaf 4 (o_iload 1 5)))) (g_node 9 (g_node 8 (g_leaf 5 (o_ic_eq 10 8)) (g_leaf 8 (o_push (.int 0) 9))) (g_node 10 (g_leaf 9 (o_nret .boolean)) (g_leaf 10 (o_aload 0 11))))) (g_node 16 (g_node 12 (g_leaf 11 (o_dup 12)) (g_node 15 (g_leaf 12 (o_getf sh 3 3 15)) (g_leaf 15 (o_push (.int 1) 16)))) (g_node 20 (g_node 17 (g_leaf 16 (o_iadd 17)) (g_leaf 17 (o_putf sh 3 3 20))) (g_node 21 (g_leaf 20 (o_push (.int 1) 21)) (g_leaf 21 (o_nret .boolean))))))
def t_X3_readValue (sh : g_Sh) : Nat → Option g_Op := (g_node 50 (g_node 42 (g_node 37 (g_node 1 (g_leaf 0 (o_iload 1 1)) (g_node 36 (g_leaf 1 (o_sw [(68, 42), (75, 36), (84, 50)] 58)) (g_leaf 36 (o_aload 0 37)))) (g_node 38 (g_leaf 37 (o_iload 2 38)) (g_node 41 (g_leaf 38 (o_callV sh 3 39 2 41)) (g_leaf 41 (o_nret .boolean))))) (g_node 45 (g_node 43 (g_leaf 42 (o_aload 0 43)) (g_node 44 (g_leaf 43 (o_push (.int 1) 44)) (g_leaf 44 (o_push (.int 1) 45)))) (g_node 46 (g_leaf 45 (o_iload 2 46)) (g_node 49 (g_leaf 46 (o_callV sh 3 40 4 49)) (g_leaf 49 (o_nret .boolean)))))) (g_node 58 (g_node 53 (g_node 51 (g_leaf 50 (o_aload 0 51)) (g_node 52 (g_leaf 51 (o_push (.int 2) 52)) (g_leaf 52 (o_push (.int 2) 53)))) (g_node 54 (g_leaf 53 (o_iload 2 54)) (g_node 57 (g_leaf 54 (o_callV sh 3 40 4 57)) (g_leaf 57 (o_nret .boolean))))) (g_node 61 (g_node 59 (g_leaf 58 (o_aload 0 59)) (g_node 60 (g_leaf 59 (o_push (.int 1) 60)) (g_leaf 60 (o_push (.int 2) 61)))) (g_node 62 (g_leaf 61 (o_iload 2 62)) (g_node 65 (g_leaf 62 (o_callV sh 3 40 4 65)) (g_leaf 65 (o_nret .boolean)))))))
def t_X3_readKind (sh : g_Sh) : Nat → Option g_Op := (g_node 25 (g_node 13 (g_node 5 (g_node 1 (g_leaf 0 (o_aload 0 1)) (g_node 4 (g_leaf 1 (o_callV sh 3 34 1 4)) (g_leaf 4 (o_istore 2 5)))) (g_node 9 (g_node 6 (g_leaf 5 (o_iload 2 6)) (g_leaf 6 (o_if_ge 13 9))) (g_node 10 (g_leaf 9 (o_push (.int (-1)) 10)) (g_leaf 10 (o_goto 20))))) (g_node 17 (g_node 15 (g_leaf 13 (o_push (.retAddr 15) 15)) (g_node 16 (g_leaf 15 (o_iload 2 16)) (g_leaf 16 (o_i2c 17)))) (g_node 21 (g_node 20 (g_leaf 17 (o_callX 10 16 209 2 20)) (g_leaf 20 (o_istore 3 21))) (g_node 22 (g_leaf 21 (o_iload 3 22)) (g_leaf 22 (o_if_ge 27 25)))))) (g_node 34 (g_node 28 (g_node 26 (g_leaf 25 (o_push (.int 0) 26)) (g_node 27 (g_leaf 26 (o_nret .boolean)) (g_leaf 27 (o_aload 0 28)))) (g_node 30 (g_node 29 (g_leaf 28 (o_iload 1 29)) (g_leaf 29 (o_iload 3 30))) (g_node 33 (g_leaf 30 (o_callVv sh 3 41 3 33)) (g_leaf 33 (o_aload 0 34))))) (g_node 39 (g_node 35 (g_leaf 34 (o_dup 35)) (g_node 38 (g_leaf 35 (o_getf sh 3 3 38)) (g_leaf 38 (o_push (.int 1) 39)))) (g_node 43 (g_node 40 (g_leaf 39 (o_iadd 40)) (g_leaf 40 (o_putf sh 3 3 43))) (g_node 44 (g_leaf 43 (o_push (.int 1) 44)) (g_leaf 44 (o_nret .boolean)))))))
def t_X3_readNumber (sh : g_Sh) : Nat → Option g_Op := (g_node 40 (g_node 18 (g_node 8 (g_node 3 (g_node 1 (g_leaf 0 (o_push (.int 0) 1)) (g_leaf 1 (o_istore 4 3))) (g_node 4 (g_leaf 3 (o_push (.int 0) 4)) (g_node 6 (g_leaf 4 (o_istore 5 6)) (g_leaf 6 (o_iload 5 8))))) (g_node 12 (g_node 9 (g_leaf 8 (o_iload 2 9)) (g_leaf 9 (o_ic_ge 61 12))) (g_node 13 (g_leaf 12 (o_aload 0 13)) (g_node 16 (g_leaf 13 (o_callV sh 3 34 1 16)) (g_leaf 16 (o_push (.int 48) 18)))))) (g_node 30 (g_node 22 (g_node 21 (g_leaf 18 (o_ic_lt 61 21)) (g_leaf 21 (o_aload 0 22))) (g_node 25 (g_leaf 22 (o_callV sh 3 34 1 25)) (g_node 27 (g_leaf 25 (o_push (.int 57) 27)) (g_leaf 27 (o_ic_gt 61 30))))) (g_node 35 (g_node 32 (g_leaf 30 (o_iload 4 32)) (g_node 34 (g_leaf 32 (o_push (.int 10) 34)) (g_leaf 34 (o_imul 35)))) (g_node 36 (g_leaf 35 (o_aload 0 36)) (g_node 39 (g_leaf 36 (o_callV sh 3 34 1 39)) (g_leaf 39 (o_iadd 40))))))) (g_node 61 (g_node 47 (g_node 43 (g_node 42 (g_leaf 40 (o_push (.int 48) 42)) (g_leaf 42 (o_isub 43))) (g_node 45 (g_leaf 43 (o_istore 4 45)) (g_node 46 (g_leaf 45 (o_aload 0 46)) (g_leaf 46 (o_dup 47))))) (g_node 52 (g_node 50 (g_leaf 47 (o_getf sh 3 3 50)) (g_node 51 (g_leaf 50 (o_push (.int 1) 51)) (g_leaf 51 (o_iadd 52)))) (g_node 55 (g_leaf 52 (o_putf sh 3 3 55)) (g_node 58 (g_leaf 55 (o_iinc 5 1 58)) (g_leaf 58 (o_goto 6)))))) (g_node 70 (g_node 63 (g_node 62 (g_leaf 61 (o_aload 0 62)) (g_leaf 62 (o_iload 3 63))) (g_node 65 (g_leaf 63 (o_iload 4 65)) (g_node 68 (g_leaf 65 (o_callVv sh 3 41 3 68)) (g_leaf 68 (o_iload 5 70))))) (g_node 75 (g_node 71 (g_leaf 70 (o_iload 1 71)) (g_node 74 (g_leaf 71 (o_ic_lt 78 74)) (g_leaf 74 (o_push (.int 1) 75)))) (g_node 78 (g_leaf 75 (o_goto 79)) (g_node 79 (g_leaf 78 (o_push (.int 0) 79)) (g_leaf 79 (o_nret .boolean))))))))
def t_X3_keep (sh : g_Sh) : Nat → Option g_Op := (g_node 9 (g_node 4 (g_node 1 (g_leaf 0 (o_iload 1 1)) (g_leaf 1 (o_if_lt 16 4))) (g_node 5 (g_leaf 4 (o_iload 1 5)) (g_node 6 (g_leaf 5 (o_push (.int 3) 6)) (g_leaf 6 (o_ic_ge 16 9))))) (g_node 14 (g_node 10 (g_leaf 9 (o_aload 0 10)) (g_node 13 (g_leaf 10 (o_getf sh 3 1 13)) (g_leaf 13 (o_iload 1 14)))) (g_node 15 (g_leaf 14 (o_iload 2 15)) (g_node 16 (g_leaf 15 (o_iast sh 16)) (g_leaf 16 (o_vret))))))
def t_X3_tell (sh : g_Sh) : Nat → Option g_Op := (g_node 73 (g_node 53 (g_node 42 (g_node 37 (g_node 1 (g_leaf 0 (o_iload 1 1)) (g_node 36 (g_leaf 1 (o_sw [(112, 36), (118, 82), (119, 59)] 99)) (g_leaf 36 (o_aload 2 37)))) (g_node 38 (g_leaf 37 (o_aload 0 38)) (g_node 41 (g_leaf 38 (o_getf sh 3 1 41)) (g_leaf 41 (o_push (.int 0) 42))))) (g_node 47 (g_node 43 (g_leaf 42 (o_iald sh g_xi 43)) (g_node 44 (g_leaf 43 (o_aload 0 44)) (g_leaf 44 (o_getf sh 3 1 47)))) (g_node 49 (g_node 48 (g_leaf 47 (o_push (.int 1) 48)) (g_leaf 48 (o_iald sh g_xi 49))) (g_node 50 (g_leaf 49 (o_aload 0 50)) (g_leaf 50 (o_getf sh 3 1 53)))))) (g_node 64 (g_node 58 (g_node 54 (g_leaf 53 (o_push (.int 2) 54)) (g_node 55 (g_leaf 54 (o_iald sh g_xi 55)) (g_leaf 55 (o_callV sh 1 11 4 58)))) (g_node 60 (g_node 59 (g_leaf 58 (o_nret .boolean)) (g_leaf 59 (o_aload 2 60))) (g_node 61 (g_leaf 60 (o_aload 0 61)) (g_leaf 61 (o_getf sh 3 1 64))))) (g_node 67 (g_node 65 (g_leaf 64 (o_push (.int 0) 65)) (g_node 66 (g_leaf 65 (o_iald sh g_xi 66)) (g_leaf 66 (o_aload 0 67)))) (g_node 71 (g_node 70 (g_leaf 67 (o_getf sh 3 1 70)) (g_leaf 70 (o_push (.int 1) 71))) (g_node 72 (g_leaf 71 (o_iald sh g_xi 72)) (g_leaf 72 (o_aload 0 73))))))) (g_node 94 (g_node 83 (g_node 78 (g_node 76 (g_leaf 73 (o_getf sh 3 1 76)) (g_node 77 (g_leaf 76 (o_push (.int 2) 77)) (g_leaf 77 (o_iald sh g_xi 78)))) (g_node 81 (g_leaf 78 (o_callV sh 1 12 4 81)) (g_node 82 (g_leaf 81 (o_nret .boolean)) (g_leaf 82 (o_aload 2 83))))) (g_node 88 (g_node 84 (g_leaf 83 (o_aload 0 84)) (g_node 87 (g_leaf 84 (o_getf sh 3 1 87)) (g_leaf 87 (o_push (.int 0) 88)))) (g_node 90 (g_node 89 (g_leaf 88 (o_iald sh g_xi 89)) (g_leaf 89 (o_aload 0 90))) (g_node 93 (g_leaf 90 (o_getf sh 3 1 93)) (g_leaf 93 (o_push (.int 1) 94)))))) (g_node 105 (g_node 99 (g_node 95 (g_leaf 94 (o_iald sh g_xi 95)) (g_node 98 (g_leaf 95 (o_callV sh 1 13 3 98)) (g_leaf 98 (o_nret .boolean)))) (g_node 101 (g_node 100 (g_leaf 99 (o_aload 2 100)) (g_leaf 100 (o_aload 0 101))) (g_node 104 (g_leaf 101 (o_getf sh 3 1 104)) (g_leaf 104 (o_push (.int 0) 105))))) (g_node 110 (g_node 106 (g_leaf 105 (o_iald sh g_xi 106)) (g_node 107 (g_leaf 106 (o_aload 0 107)) (g_leaf 107 (o_getf sh 3 1 110)))) (g_node 112 (g_node 111 (g_leaf 110 (o_push (.int 1) 111)) (g_leaf 111 (o_iald sh g_xi 112))) (g_node 115 (g_leaf 112 (o_callV sh 1 14 3 115)) (g_leaf 115 (o_nret .boolean))))))))
def t_X4_copyFrom (sh : g_Sh) : Nat → Option g_Op := (g_node 45 (g_node 21 (g_node 10 (g_node 5 (g_node 1 (g_leaf 0 (o_aload 1 1)) (g_node 4 (g_leaf 1 (o_getf sh 4 0 4)) (g_leaf 4 (o_push (.int 0) 5)))) (g_node 6 (g_leaf 5 (o_aload 0 6)) (g_node 9 (g_leaf 6 (o_getf sh 4 0 9)) (g_leaf 9 (o_push (.int 0) 10))))) (g_node 16 (g_node 12 (g_leaf 10 (o_push (.int 8) 12)) (g_node 15 (g_leaf 12 (o_copy sh 15)) (g_leaf 15 (o_aload 1 16)))) (g_node 19 (g_leaf 16 (o_getf sh 4 1 19)) (g_node 20 (g_leaf 19 (o_push (.int 0) 20)) (g_leaf 20 (o_aload 0 21)))))) (g_node 34 (g_node 27 (g_node 24 (g_leaf 21 (o_getf sh 4 1 24)) (g_node 25 (g_leaf 24 (o_push (.int 0) 25)) (g_leaf 25 (o_push (.int 8) 27)))) (g_node 30 (g_leaf 27 (o_copy sh 30)) (g_node 31 (g_leaf 30 (o_aload 1 31)) (g_leaf 31 (o_getf sh 4 2 34))))) (g_node 39 (g_node 35 (g_leaf 34 (o_push (.int 0) 35)) (g_node 36 (g_leaf 35 (o_aload 0 36)) (g_leaf 36 (o_getf sh 4 2 39)))) (g_node 40 (g_leaf 39 (o_push (.int 0) 40)) (g_node 42 (g_leaf 40 (o_push (.int 8) 42)) (g_leaf 42 (o_copy sh 45))))))) (g_node 68 (g_node 55 (g_node 50 (g_node 46 (g_leaf 45 (o_aload 1 46)) (g_node 49 (g_leaf 46 (o_getf sh 4 3 49)) (g_leaf 49 (o_push (.int 0) 50)))) (g_node 51 (g_leaf 50 (o_aload 0 51)) (g_node 54 (g_leaf 51 (o_getf sh 4 3 54)) (g_leaf 54 (o_push (.int 0) 55))))) (g_node 61 (g_node 57 (g_leaf 55 (o_push (.int 8) 57)) (g_node 60 (g_leaf 57 (o_copy sh 60)) (g_leaf 60 (o_aload 0 61)))) (g_node 62 (g_leaf 61 (o_aload 1 62)) (g_node 65 (g_leaf 62 (o_getf sh 4 5 65)) (g_leaf 65 (o_putf sh 4 5 68)))))) (g_node 78 (g_node 73 (g_node 69 (g_leaf 68 (o_aload 0 69)) (g_node 70 (g_leaf 69 (o_aload 1 70)) (g_leaf 70 (o_getf sh 4 6 73)))) (g_node 76 (g_leaf 73 (o_putf sh 4 6 76)) (g_node 77 (g_leaf 76 (o_aload 0 77)) (g_leaf 77 (o_aload 1 78))))) (g_node 85 (g_node 81 (g_leaf 78 (o_getf sh 4 7 81)) (g_node 84 (g_leaf 81 (o_putf sh 4 7 84)) (g_leaf 84 (o_aload 0 85)))) (g_node 89 (g_node 86 (g_leaf 85 (o_aload 1 86)) (g_leaf 86 (o_getf sh 4 8 89))) (g_node 92 (g_leaf 89 (o_putf sh 4 8 92)) (g_leaf 92 (o_vret))))))))
def t_X4_play (sh : g_Sh) : Nat → Option g_Op := (g_node 71 (g_node 35 (g_node 17 (g_node 8 (g_node 2 (g_node 1 (g_leaf 0 (o_aload 0 1)) (g_leaf 1 (o_aload 1 2))) (g_node 4 (g_leaf 2 (o_iload 4 4)) (g_node 7 (g_leaf 4 (o_callVv sh 4 47 3 7)) (g_leaf 7 (o_aload 0 8))))) (g_node 10 (g_node 9 (g_leaf 8 (o_aload 1 9)) (g_leaf 9 (o_aload 2 10))) (g_node 13 (g_leaf 10 (o_callVv sh 4 49 3 13)) (g_node 14 (g_leaf 13 (o_aload 3 14)) (g_leaf 14 (o_callVv sh 5 65 1 17)))))) (g_node 26 (g_node 21 (g_node 20 (g_leaf 17 (o_push (.int 900) 20)) (g_leaf 20 (o_aload 2 21))) (g_node 24 (g_leaf 21 (o_getf sh 7 0 24)) (g_node 25 (g_leaf 24 (o_push (.int 5) 25)) (g_leaf 25 (o_iald sh g_xi 26))))) (g_node 31 (g_node 29 (g_leaf 26 (o_min 29)) (g_leaf 29 (o_istore 5 31))) (g_node 32 (g_leaf 31 (o_push (.int 0) 32)) (g_node 34 (g_leaf 32 (o_istore 6 34)) (g_leaf 34 (o_push (.int 0) 35))))))) (g_node 54 (g_node 46 (g_node 39 (g_node 37 (g_leaf 35 (o_istore 7 37)) (g_leaf 37 (o_iload 7 39))) (g_node 42 (g_leaf 39 (o_push (.int 900) 42)) (g_node 45 (g_leaf 42 (o_ic_gt 144 45)) (g_leaf 45 (o_aload 0 46))))) (g_node 48 (g_node 47 (g_leaf 46 (o_aload 1 47)) (g_leaf 47 (o_aload 2 48))) (g_node 49 (g_leaf 48 (o_aload 3 49)) (g_node 51 (g_leaf 49 (o_iload 6 51)) (g_leaf 51 (o_callVv sh 4 55 5 54)))))) (g_node 62 (g_node 57 (g_node 55 (g_leaf 54 (o_aload 0 55)) (g_leaf 55 (o_iload 6 57))) (g_node 58 (g_leaf 57 (o_aload 3 58)) (g_node 61 (g_leaf 58 (o_callV sh 5 68 1 61)) (g_leaf 61 (o_aload 2 62))))) (g_node 66 (g_node 65 (g_leaf 62 (o_getf sh 7 0 65)) (g_leaf 65 (o_push (.int 4) 66))) (g_node 67 (g_leaf 66 (o_iald sh g_xi 67)) (g_node 68 (g_leaf 67 (o_push (.int 1) 68)) (g_leaf 68 (o_ic_ne 75 71)))))))) (g_node 104 (g_node 88 (g_node 80 (g_node 75 (g_node 72 (g_leaf 71 (o_push (.int 1) 72)) (g_leaf 72 (o_goto 76))) (g_node 76 (g_leaf 75 (o_push (.int 0) 76)) (g_node 79 (g_leaf 76 (o_callVv sh 4 59 4 79)) (g_leaf 79 (o_aload 3 80))))) (g_node 83 (g_node 82 (g_leaf 80 (o_iload 6 82)) (g_leaf 82 (o_aload 1 83))) (g_node 84 (g_leaf 83 (o_aload 2 84)) (g_node 87 (g_leaf 84 (o_callVv sh 5 69 4 87)) (g_leaf 87 (o_aload 0 88)))))) (g_node 96 (g_node 91 (g_node 89 (g_leaf 88 (o_aload 1 89)) (g_leaf 89 (o_iload 6 91))) (g_node 92 (g_leaf 91 (o_aload 2 92)) (g_node 95 (g_leaf 92 (o_getf sh 7 0 95)) (g_leaf 95 (o_push (.int 2) 96))))) (g_node 98 (g_node 97 (g_leaf 96 (o_iald sh g_xi 97)) (g_leaf 97 (o_aload 3 98))) (g_node 100 (g_leaf 98 (o_iload 6 100)) (g_node 101 (g_leaf 100 (o_aload 1 101)) (g_leaf 101 (o_callV sh 5 71 3 104))))))) (g_node 127 (g_node 115 (g_node 109 (g_node 107 (g_leaf 104 (o_callVv sh 4 61 5 107)) (g_leaf 107 (o_iload 6 109))) (g_node 111 (g_leaf 109 (o_iload 5 111)) (g_node 114 (g_leaf 111 (o_ic_ge 144 114)) (g_leaf 114 (o_aload 0 115))))) (g_node 121 (g_node 118 (g_leaf 115 (o_callV sh 4 62 1 118)) (g_leaf 118 (o_if_ne 124 121))) (g_node 124 (g_leaf 121 (o_goto 144)) (g_node 126 (g_leaf 124 (o_iload 5 126)) (g_leaf 126 (o_aload 0 127)))))) (g_node 138 (g_node 130 (g_node 128 (g_leaf 127 (o_aload 3 128)) (g_leaf 128 (o_iload 6 130))) (g_node 133 (g_leaf 130 (o_callV sh 4 63 3 133)) (g_node 136 (g_leaf 133 (o_min 136)) (g_leaf 136 (o_istore 6 138))))) (g_node 145 (g_node 141 (g_leaf 138 (o_iinc 7 1 141)) (g_node 144 (g_leaf 141 (o_goto 37)) (g_leaf 144 (o_aload 0 145)))) (g_node 147 (g_leaf 145 (o_iload 6 147)) (g_node 150 (g_leaf 147 (o_callVv sh 4 64 2 150)) (g_leaf 150 (o_vret)))))))))
def t_X4_howMany (sh : g_Sh) : Nat → Option g_Op := (g_node 18 (g_node 6 (g_node 3 (g_node 1 (g_leaf 0 (o_push (.int 0) 1)) (g_node 2 (g_leaf 1 (o_istore 2 2)) (g_leaf 2 (o_push (.int 0) 3)))) (g_node 4 (g_leaf 3 (o_istore 3 4)) (g_node 5 (g_leaf 4 (o_iload 3 5)) (g_leaf 5 (o_aload 0 6))))) (g_node 13 (g_node 9 (g_leaf 6 (o_getf sh 4 5 9)) (g_node 12 (g_leaf 9 (o_ic_ge 36 12)) (g_leaf 12 (o_iload 2 13)))) (g_node 14 (g_leaf 13 (o_aload 0 14)) (g_node 17 (g_leaf 14 (o_getf sh 4 1 17)) (g_leaf 17 (o_iload 3 18)))))) (g_node 28 (g_node 23 (g_node 19 (g_leaf 18 (o_iald sh g_xi 19)) (g_node 20 (g_leaf 19 (o_iload 1 20)) (g_leaf 20 (o_ic_ne 27 23)))) (g_node 24 (g_leaf 23 (o_push (.int 1) 24)) (g_node 27 (g_leaf 24 (o_goto 28)) (g_leaf 27 (o_push (.int 0) 28))))) (g_node 33 (g_node 29 (g_leaf 28 (o_iadd 29)) (g_node 30 (g_leaf 29 (o_istore 2 30)) (g_leaf 30 (o_iinc 3 1 33)))) (g_node 36 (g_leaf 33 (o_goto 4)) (g_node 37 (g_leaf 36 (o_iload 2 37)) (g_leaf 37 (o_iret)))))))
def t_X4_growTimes (sh : g_Sh) : Nat → Option g_Op := (g_node 27 (g_node 11 (g_node 3 (g_node 1 (g_leaf 0 (o_push (.int 0) 1)) (g_node 2 (g_leaf 1 (o_istore 2 2)) (g_leaf 2 (o_iload 2 3)))) (g_node 7 (g_node 4 (g_leaf 3 (o_aload 0 4)) (g_leaf 4 (o_getf sh 4 5 7))) (g_node 10 (g_leaf 7 (o_ic_ge 53 10)) (g_leaf 10 (o_aload 0 11))))) (g_node 21 (g_node 15 (g_node 14 (g_leaf 11 (o_getf sh 4 8 14)) (g_leaf 14 (o_iload 2 15))) (g_node 18 (g_leaf 15 (o_callS 116 2 18)) (g_leaf 18 (o_if_eq 47 21)))) (g_node 25 (g_node 22 (g_leaf 21 (o_aload 0 22)) (g_leaf 22 (o_getf sh 4 0 25))) (g_node 26 (g_leaf 25 (o_iload 2 26)) (g_leaf 26 (o_iald sh g_xi 27)))))) (g_node 40 (g_node 33 (g_node 29 (g_node 28 (g_leaf 27 (o_istore 3 28)) (g_leaf 28 (o_aload 1 29))) (g_node 32 (g_leaf 29 (o_getf sh 1 6 32)) (g_leaf 32 (o_iload 3 33)))) (g_node 36 (g_node 35 (g_leaf 33 (o_push (.int 99) 35)) (g_leaf 35 (o_aload 1 36))) (g_node 39 (g_leaf 36 (o_getf sh 1 6 39)) (g_leaf 39 (o_iload 3 40))))) (g_node 46 (g_node 42 (g_node 41 (g_leaf 40 (o_iald sh g_xi 41)) (g_leaf 41 (o_push (.int 1) 42))) (g_node 43 (g_leaf 42 (o_iadd 43)) (g_leaf 43 (o_min 46)))) (g_node 50 (g_node 47 (g_leaf 46 (o_iast sh 47)) (g_leaf 47 (o_iinc 2 1 50))) (g_node 53 (g_leaf 50 (o_goto 2)) (g_leaf 53 (o_vret)))))))
def t_X4_begin (sh : g_Sh) : Nat → Option g_Op := (g_node 20 (g_node 10 (g_node 5 (g_node 1 (g_leaf 0 (o_aload 0 1)) (g_node 2 (g_leaf 1 (o_iload 2 2)) (g_leaf 2 (o_putf sh 4 9 5)))) (g_node 6 (g_leaf 5 (o_aload 0 6)) (g_node 7 (g_leaf 6 (o_aload 1 7)) (g_leaf 7 (o_getf sh 1 2 10))))) (g_node 15 (g_node 13 (g_leaf 10 (o_putf sh 4 5 13)) (g_node 14 (g_leaf 13 (o_aload 0 14)) (g_leaf 14 (o_push (.int 0) 15)))) (g_node 18 (g_leaf 15 (o_putf sh 4 6 18)) (g_node 19 (g_leaf 18 (o_aload 0 19)) (g_leaf 19 (o_push (.int 0) 20)))))) (g_node 32 (g_node 25 (g_node 23 (g_leaf 20 (o_putf sh 4 7 23)) (g_node 24 (g_leaf 23 (o_aload 0 24)) (g_leaf 24 (o_push (.int 0) 25)))) (g_node 28 (g_leaf 25 (o_putf sh 4 8 28)) (g_node 29 (g_leaf 28 (o_aload 1 29)) (g_leaf 29 (o_getf sh 1 4 32))))) (g_node 37 (g_node 33 (g_leaf 32 (o_push (.int 0) 33)) (g_node 34 (g_leaf 33 (o_aload 0 34)) (g_leaf 34 (o_getf sh 4 4 37)))) (g_node 40 (g_node 38 (g_leaf 37 (o_push (.int 0) 38)) (g_leaf 38 (o_push (.int 8) 40))) (g_node 43 (g_leaf 40 (o_copy sh 43)) (g_leaf 43 (o_vret)))))))
def t_X4_drawBelow (sh : g_Sh) : Nat → Option g_Op := (g_node 18 (g_node 8 (g_node 2 (g_node 1 (g_leaf 0 (o_aload 0 1)) (g_leaf 1 (o_aload 0 2))) (g_node 5 (g_leaf 2 (o_getf sh 4 9 5)) (g_node 7 (g_leaf 5 (o_push (.int 1664525) 7)) (g_leaf 7 (o_imul 8))))) (g_node 11 (g_node 10 (g_leaf 8 (o_push (.int 1013904223) 10)) (g_leaf 10 (o_iadd 11))) (g_node 14 (g_leaf 11 (o_putf sh 4 9 14)) (g_node 15 (g_leaf 14 (o_iload 1 15)) (g_leaf 15 (o_if_le 34 18)))))) (g_node 28 (g_node 22 (g_node 19 (g_leaf 18 (o_aload 0 19)) (g_leaf 19 (o_getf sh 4 9 22))) (g_node 24 (g_leaf 22 (o_push (.int 2147483647) 24)) (g_node 25 (g_leaf 24 (o_iand 25)) (g_leaf 25 (o_push (.int 256) 28))))) (g_node 31 (g_node 29 (g_leaf 28 (o_idiv 29)) (g_node 30 (g_leaf 29 (o_iload 1 30)) (g_leaf 30 (o_irem 31)))) (g_node 34 (g_leaf 31 (o_goto 35)) (g_node 35 (g_leaf 34 (o_push (.int 0) 35)) (g_leaf 35 (o_iret)))))))
def t_X4_hideAll (sh : g_Sh) : Nat → Option g_Op := (g_node 33 (g_node 14 (g_node 7 (g_node 2 (g_node 1 (g_leaf 0 (o_push (.int 0) 1)) (g_leaf 1 (o_istore 3 2))) (g_node 3 (g_leaf 2 (o_iload 3 3)) (g_node 4 (g_leaf 3 (o_aload 0 4)) (g_leaf 4 (o_getf sh 4 5 7))))) (g_node 11 (g_node 10 (g_leaf 7 (o_ic_ge 65 10)) (g_leaf 10 (o_aload 0 11))) (g_node 12 (g_leaf 11 (o_aload 1 12)) (g_node 13 (g_leaf 12 (o_aload 2 13)) (g_leaf 13 (o_iload 3 14)))))) (g_node 24 (g_node 19 (g_node 17 (g_leaf 14 (o_callV sh 4 50 4 17)) (g_leaf 17 (o_istore 4 19))) (g_node 20 (g_leaf 19 (o_aload 0 20)) (g_node 23 (g_leaf 20 (o_getf sh 4 0 23)) (g_leaf 23 (o_iload 3 24))))) (g_node 27 (g_node 26 (g_leaf 24 (o_iload 4 26)) (g_leaf 26 (o_iast sh 27))) (g_node 29 (g_leaf 27 (o_iload 4 29)) (g_node 32 (g_leaf 29 (o_if_ne 41 32)) (g_leaf 32 (o_aload 0 33))))))) (g_node 49 (g_node 42 (g_node 35 (g_node 34 (g_leaf 33 (o_iload 3 34)) (g_leaf 34 (o_push (.int 0) 35))) (g_node 38 (g_leaf 35 (o_callVv sh 4 58 3 38)) (g_node 41 (g_leaf 38 (o_goto 59)) (g_leaf 41 (o_aload 0 42))))) (g_node 46 (g_node 45 (g_leaf 42 (o_getf sh 4 1 45)) (g_leaf 45 (o_iload 3 46))) (g_node 47 (g_leaf 46 (o_push (.int 3) 47)) (g_node 48 (g_leaf 47 (o_iast sh 48)) (g_leaf 48 (o_aload 0 49)))))) (g_node 57 (g_node 54 (g_node 52 (g_leaf 49 (o_getf sh 4 4 52)) (g_leaf 52 (o_iload 4 54))) (g_node 55 (g_leaf 54 (o_dup2 55)) (g_node 56 (g_leaf 55 (o_iald sh g_xi 56)) (g_leaf 56 (o_push (.int 1) 57))))) (g_node 59 (g_node 58 (g_leaf 57 (o_isub 58)) (g_leaf 58 (o_iast sh 59))) (g_node 62 (g_leaf 59 (o_iinc 3 1 62)) (g_node 65 (g_leaf 62 (o_goto 2)) (g_leaf 65 (o_vret))))))))
def t_X4_choose (sh : g_Sh) : Nat → Option g_Op := (g_node 84 (g_node 26 (g_node 12 (g_node 6 (g_node 2 (g_node 1 (g_leaf 0 (o_aload 0 1)) (g_leaf 1 (o_aload 1 2))) (g_node 3 (g_leaf 2 (o_aload 2 3)) (g_leaf 3 (o_getf sh 7 0 6)))) (g_node 8 (g_node 7 (g_leaf 6 (o_push (.int 0) 7)) (g_leaf 7 (o_iald sh g_xi 8))) (g_node 9 (g_leaf 8 (o_iload 3 9)) (g_leaf 9 (o_callV sh 4 51 4 12))))) (g_node 20 (g_node 16 (g_node 14 (g_leaf 12 (o_istore 4 14)) (g_leaf 14 (o_iload 4 16))) (g_node 19 (g_leaf 16 (o_if_ne 21 19)) (g_leaf 19 (o_push (.int 0) 20)))) (g_node 22 (g_node 21 (g_leaf 20 (o_iret)) (g_leaf 21 (o_aload 2 22))) (g_node 25 (g_leaf 22 (o_getf sh 7 0 25)) (g_leaf 25 (o_push (.int 3) 26)))))) (g_node 66 (g_node 59 (g_node 56 (g_node 27 (g_leaf 26 (o_iald sh g_xi 27)) (g_leaf 27 (o_sw [(1, 56), (2, 63), (3, 70), (4, 85)] 135))) (g_node 57 (g_leaf 56 (o_aload 1 57)) (g_leaf 57 (o_iload 4 59)))) (g_node 63 (g_node 62 (g_leaf 59 (o_callS 52 2 62)) (g_leaf 62 (o_iret))) (g_node 64 (g_leaf 63 (o_aload 1 64)) (g_leaf 64 (o_iload 4 66))))) (g_node 73 (g_node 70 (g_node 69 (g_leaf 66 (o_callS 53 2 69)) (g_leaf 69 (o_iret))) (g_node 72 (g_leaf 70 (o_iload 4 72)) (g_leaf 72 (o_aload 0 73)))) (g_node 78 (g_node 75 (g_leaf 73 (o_iload 4 75)) (g_leaf 75 (o_callS 204 1 78))) (g_node 81 (g_leaf 78 (o_callV sh 4 48 2 81)) (g_leaf 81 (o_callS 54 2 84))))))) (g_node 112 (g_node 97 (g_node 91 (g_node 86 (g_node 85 (g_leaf 84 (o_iret)) (g_leaf 85 (o_iload 3 86))) (g_node 89 (g_leaf 86 (o_if_le 109 89)) (g_leaf 89 (o_iload 4 91)))) (g_node 95 (g_node 92 (g_leaf 91 (o_aload 0 92)) (g_leaf 92 (o_getf sh 4 0 95))) (g_node 96 (g_leaf 95 (o_iload 3 96)) (g_leaf 96 (o_push (.int 1) 97))))) (g_node 105 (g_node 99 (g_node 98 (g_leaf 97 (o_isub 98)) (g_leaf 98 (o_iald sh g_xi 99))) (g_node 102 (g_leaf 99 (o_callS 116 2 102)) (g_leaf 102 (o_if_eq 109 105)))) (g_node 109 (g_node 106 (g_leaf 105 (o_push (.int 1) 106)) (g_leaf 106 (o_goto 110))) (g_node 110 (g_leaf 109 (o_push (.int 0) 110)) (g_leaf 110 (o_istore 5 112)))))) (g_node 125 (g_node 121 (g_node 117 (g_node 114 (g_leaf 112 (o_iload 5 114)) (g_leaf 114 (o_if_eq 128 117))) (g_node 118 (g_leaf 117 (o_aload 0 118)) (g_leaf 118 (o_getf sh 4 0 121)))) (g_node 123 (g_node 122 (g_leaf 121 (o_iload 3 122)) (g_leaf 122 (o_push (.int 1) 123))) (g_node 124 (g_leaf 123 (o_isub 124)) (g_leaf 124 (o_iald sh g_xi 125))))) (g_node 134 (g_node 130 (g_node 128 (g_leaf 125 (o_goto 134)) (g_leaf 128 (o_iload 4 130))) (g_node 131 (g_leaf 130 (o_push (.int 0) 131)) (g_leaf 131 (o_callS 54 2 134)))) (g_node 137 (g_node 135 (g_leaf 134 (o_iret)) (g_leaf 135 (o_iload 4 137))) (g_node 138 (g_leaf 137 (o_push (.int 0) 138)) (g_node 141 (g_leaf 138 (o_callS 54 2 141)) (g_leaf 141 (o_iret)))))))))
def t_X4_openPlaces (sh : g_Sh) : Nat → Option g_Op := (g_node 31 (g_node 15 (g_node 6 (g_node 3 (g_node 1 (g_leaf 0 (o_push (.int 0) 1)) (g_leaf 1 (o_istore 4 3))) (g_node 4 (g_leaf 3 (o_push (.int 1) 4)) (g_leaf 4 (o_istore 5 6)))) (g_node 9 (g_node 8 (g_leaf 6 (o_iload 5 8)) (g_leaf 8 (o_aload 1 9))) (g_node 12 (g_leaf 9 (o_getf sh 1 0 12)) (g_leaf 12 (o_ic_ge 62 15))))) (g_node 22 (g_node 17 (g_node 16 (g_leaf 15 (o_aload 1 16)) (g_leaf 16 (o_iload 3 17))) (g_node 19 (g_leaf 17 (o_iload 5 19)) (g_leaf 19 (o_callV sh 1 24 3 22)))) (g_node 25 (g_node 24 (g_leaf 22 (o_istore 6 24)) (g_leaf 24 (o_aload 0 25))) (g_node 28 (g_leaf 25 (o_getf sh 4 4 28)) (g_node 30 (g_leaf 28 (o_iload 5 30)) (g_leaf 30 (o_iald sh g_xi 31))))))) (g_node 49 (g_node 41 (g_node 36 (g_node 34 (g_leaf 31 (o_if_le 56 34)) (g_leaf 34 (o_iload 6 36))) (g_node 38 (g_leaf 36 (o_push (.int (-9)) 38)) (g_leaf 38 (o_ic_eq 56 41)))) (g_node 44 (g_node 43 (g_leaf 41 (o_iload 6 43)) (g_leaf 43 (o_iload 2 44))) (g_node 47 (g_leaf 44 (o_ic_gt 56 47)) (g_leaf 47 (o_iload 4 49))))) (g_node 54 (g_node 52 (g_node 50 (g_leaf 49 (o_push (.int 1) 50)) (g_leaf 50 (o_iload 5 52))) (g_node 53 (g_leaf 52 (o_ishl 53)) (g_leaf 53 (o_ior 54)))) (g_node 59 (g_node 56 (g_leaf 54 (o_istore 4 56)) (g_leaf 56 (o_iinc 5 1 59))) (g_node 62 (g_leaf 59 (o_goto 6)) (g_node 64 (g_leaf 62 (o_iload 4 64)) (g_leaf 64 (o_iret))))))))
def t_X4_deepest (sh : g_Sh) : Nat → Option g_Op := (g_node 24 (g_node 9 (g_node 3 (g_node 1 (g_leaf 0 (o_push (.int 0) 1)) (g_node 2 (g_leaf 1 (o_istore 2 2)) (g_leaf 2 (o_push (.int 1) 3)))) (g_node 5 (g_node 4 (g_leaf 3 (o_istore 3 4)) (g_leaf 4 (o_iload 3 5))) (g_node 6 (g_leaf 5 (o_aload 0 6)) (g_leaf 6 (o_getf sh 1 0 9))))) (g_node 14 (g_node 12 (g_leaf 9 (o_ic_ge 47 12)) (g_node 13 (g_leaf 12 (o_iload 1 13)) (g_leaf 13 (o_iload 3 14)))) (g_node 20 (g_node 17 (g_leaf 14 (o_callS 116 2 17)) (g_leaf 17 (o_if_eq 41 20))) (g_node 21 (g_leaf 20 (o_iload 2 21)) (g_leaf 21 (o_if_eq 39 24)))))) (g_node 35 (g_node 29 (g_node 25 (g_leaf 24 (o_aload 0 25)) (g_node 28 (g_leaf 25 (o_getf sh 1 5 28)) (g_leaf 28 (o_iload 3 29)))) (g_node 31 (g_node 30 (g_leaf 29 (o_iald sh g_xi 30)) (g_leaf 30 (o_aload 0 31))) (g_node 34 (g_leaf 31 (o_getf sh 1 5 34)) (g_leaf 34 (o_iload 2 35))))) (g_node 41 (g_node 39 (g_node 36 (g_leaf 35 (o_iald sh g_xi 36)) (g_leaf 36 (o_ic_le 41 39))) (g_node 40 (g_leaf 39 (o_iload 3 40)) (g_leaf 40 (o_istore 2 41)))) (g_node 47 (g_node 44 (g_leaf 41 (o_iinc 3 1 44)) (g_leaf 44 (o_goto 4))) (g_node 48 (g_leaf 47 (o_iload 2 48)) (g_leaf 48 (o_iret)))))))
def t_X4_outermost (sh : g_Sh) : Nat → Option g_Op := (g_node 21 (g_node 6 (g_node 3 (g_node 1 (g_leaf 0 (o_push (.int 0) 1)) (g_node 2 (g_leaf 1 (o_istore 2 2)) (g_leaf 2 (o_push (.int 1) 3)))) (g_node 4 (g_leaf 3 (o_istore 3 4)) (g_node 5 (g_leaf 4 (o_iload 3 5)) (g_leaf 5 (o_aload 0 6))))) (g_node 13 (g_node 9 (g_leaf 6 (o_getf sh 1 0 9)) (g_node 12 (g_leaf 9 (o_ic_ge 43 12)) (g_leaf 12 (o_iload 1 13)))) (g_node 17 (g_node 14 (g_leaf 13 (o_iload 3 14)) (g_leaf 14 (o_callS 116 2 17))) (g_node 20 (g_leaf 17 (o_if_eq 37 20)) (g_leaf 20 (o_aload 0 21)))))) (g_node 32 (g_node 26 (g_node 22 (g_leaf 21 (o_iload 3 22)) (g_node 23 (g_leaf 22 (o_push (.int 0) 23)) (g_leaf 23 (o_callV sh 1 20 3 26)))) (g_node 28 (g_node 27 (g_leaf 26 (o_aload 0 27)) (g_leaf 27 (o_iload 2 28))) (g_node 29 (g_leaf 28 (o_push (.int 0) 29)) (g_leaf 29 (o_callV sh 1 20 3 32))))) (g_node 37 (g_node 35 (g_leaf 32 (o_ic_le 37 35)) (g_node 36 (g_leaf 35 (o_iload 3 36)) (g_leaf 36 (o_istore 2 37)))) (g_node 43 (g_node 40 (g_leaf 37 (o_iinc 3 1 40)) (g_leaf 40 (o_goto 4))) (g_node 44 (g_leaf 43 (o_iload 2 44)) (g_leaf 44 (o_iret)))))))
def t_X4_bitAt (sh : g_Sh) : Nat → Option g_Op := (g_node 15 (g_node 5 (g_node 2 (g_node 1 (g_leaf 0 (o_iload 1 1)) (g_leaf 1 (o_istore 2 2))) (g_node 3 (g_leaf 2 (o_push (.int 0) 3)) (g_node 4 (g_leaf 3 (o_istore 3 4)) (g_leaf 4 (o_iload 3 5))))) (g_node 10 (g_node 7 (g_leaf 5 (o_push (.int 8) 7)) (g_leaf 7 (o_ic_ge 33 10))) (g_node 11 (g_leaf 10 (o_iload 0 11)) (g_node 12 (g_leaf 11 (o_iload 3 12)) (g_leaf 12 (o_callS 116 2 15)))))) (g_node 24 (g_node 19 (g_node 18 (g_leaf 15 (o_if_eq 27 18)) (g_leaf 18 (o_iload 2 19))) (g_node 22 (g_leaf 19 (o_if_ne 24 22)) (g_node 23 (g_leaf 22 (o_iload 3 23)) (g_leaf 23 (o_iret))))) (g_node 30 (g_node 27 (g_leaf 24 (o_iinc 2 (-1) 27)) (g_leaf 27 (o_iinc 3 1 30))) (g_node 33 (g_leaf 30 (o_goto 4)) (g_node 34 (g_leaf 33 (o_push (.int 0) 34)) (g_leaf 34 (o_iret)))))))
def t_X4_comeAndLook (sh : g_Sh) : Nat → Option g_Op := (g_node 62 (g_node 29 (g_node 14 (g_node 9 (g_node 3 (g_node 1 (g_leaf 0 (o_aload 3 1)) (g_leaf 1 (o_iload 4 3))) (g_node 6 (g_leaf 3 (o_callV sh 5 66 2 6)) (g_leaf 6 (o_if_ne 10 9)))) (g_node 11 (g_node 10 (g_leaf 9 (o_vret)) (g_leaf 10 (o_aload 3 11))) (g_node 13 (g_leaf 11 (o_iload 4 13)) (g_leaf 13 (o_aload 2 14))))) (g_node 23 (g_node 19 (g_node 17 (g_leaf 14 (o_getf sh 7 0 17)) (g_leaf 17 (o_push (.int 6) 19))) (g_node 20 (g_leaf 19 (o_iald sh g_xi 20)) (g_leaf 20 (o_callVv sh 5 67 3 23)))) (g_node 26 (g_node 24 (g_leaf 23 (o_push (.int 0) 24)) (g_leaf 24 (o_istore 5 26))) (g_node 28 (g_leaf 26 (o_iload 5 28)) (g_leaf 28 (o_aload 0 29)))))) (g_node 46 (g_node 39 (g_node 35 (g_node 32 (g_leaf 29 (o_getf sh 4 5 32)) (g_leaf 32 (o_ic_ge 127 35))) (g_node 36 (g_leaf 35 (o_aload 0 36)) (g_leaf 36 (o_getf sh 4 1 39)))) (g_node 42 (g_node 41 (g_leaf 39 (o_iload 5 41)) (g_leaf 41 (o_iald sh g_xi 42))) (g_node 43 (g_leaf 42 (o_push (.int 3) 43)) (g_leaf 43 (o_ic_ne 121 46))))) (g_node 54 (g_node 50 (g_node 47 (g_leaf 46 (o_aload 1 47)) (g_leaf 47 (o_getf sh 1 7 50))) (g_node 51 (g_leaf 50 (o_aload 3 51)) (g_leaf 51 (o_getf sh 5 0 54)))) (g_node 56 (g_node 55 (g_leaf 54 (o_iald sh g_xi 55)) (g_leaf 55 (o_aload 0 56))) (g_node 59 (g_leaf 56 (o_getf sh 4 0 59)) (g_node 61 (g_leaf 59 (o_iload 5 61)) (g_leaf 61 (o_iald sh g_xi 62)))))))) (g_node 95 (g_node 78 (g_node 70 (g_node 68 (g_node 65 (g_leaf 62 (o_callS 116 2 65)) (g_leaf 65 (o_if_eq 121 68))) (g_node 69 (g_leaf 68 (o_aload 0 69)) (g_leaf 69 (o_aload 1 70)))) (g_node 73 (g_node 72 (g_leaf 70 (o_iload 5 72)) (g_leaf 72 (o_aload 3 73))) (g_node 76 (g_leaf 73 (o_getf sh 5 0 76)) (g_leaf 76 (o_iload 4 78))))) (g_node 84 (g_node 82 (g_node 79 (g_leaf 78 (o_aload 2 79)) (g_leaf 79 (o_getf sh 7 0 82))) (g_node 83 (g_leaf 82 (o_push (.int 1) 83)) (g_leaf 83 (o_iald sh g_xi 84)))) (g_node 89 (g_node 87 (g_leaf 84 (o_callV sh 4 56 6 87)) (g_leaf 87 (o_istore 6 89))) (g_node 90 (g_leaf 89 (o_aload 0 90)) (g_node 92 (g_leaf 90 (o_push (.int 100) 92)) (g_leaf 92 (o_callV sh 4 48 2 95))))))) (g_node 110 (g_node 103 (g_node 100 (g_node 97 (g_leaf 95 (o_iload 6 97)) (g_leaf 97 (o_ic_lt 121 100))) (g_node 101 (g_leaf 100 (o_aload 0 101)) (g_leaf 101 (o_iload 5 103)))) (g_node 108 (g_node 105 (g_leaf 103 (o_iload 4 105)) (g_leaf 105 (o_callVv sh 4 58 3 108))) (g_node 109 (g_leaf 108 (o_aload 0 109)) (g_leaf 109 (o_dup 110))))) (g_node 117 (g_node 114 (g_node 113 (g_leaf 110 (o_getf sh 4 8 113)) (g_leaf 113 (o_push (.int 1) 114))) (g_node 116 (g_leaf 114 (o_iload 5 116)) (g_leaf 116 (o_ishl 117)))) (g_node 121 (g_node 118 (g_leaf 117 (o_ior 118)) (g_leaf 118 (o_putf sh 4 8 121))) (g_node 124 (g_leaf 121 (o_iinc 5 1 124)) (g_node 127 (g_leaf 124 (o_goto 26)) (g_leaf 127 (o_vret)))))))))
def t_X4_coverOf (sh : g_Sh) : Nat → Option g_Op := (g_node 34 (g_node 14 (g_node 6 (g_node 4 (g_node 1 (g_leaf 0 (o_aload 0 1)) (g_leaf 1 (o_getf sh 4 0 4))) (g_node 5 (g_leaf 4 (o_iload 2 5)) (g_leaf 5 (o_iald sh g_xi 6)))) (g_node 9 (g_node 8 (g_leaf 6 (o_istore 6 8)) (g_leaf 8 (o_aload 1 9))) (g_node 11 (g_leaf 9 (o_iload 6 11)) (g_node 13 (g_leaf 11 (o_iload 4 13)) (g_leaf 13 (o_aload 0 14)))))) (g_node 25 (g_node 19 (g_node 16 (g_leaf 14 (o_iload 6 16)) (g_leaf 16 (o_callV sh 4 57 2 19))) (g_node 20 (g_leaf 19 (o_aload 1 20)) (g_node 23 (g_leaf 20 (o_getf sh 1 6 23)) (g_leaf 23 (o_iload 6 25))))) (g_node 28 (g_node 26 (g_leaf 25 (o_iald sh g_xi 26)) (g_leaf 26 (o_iload 5 28))) (g_node 31 (g_leaf 28 (o_callV sh 1 23 6 31)) (g_node 33 (g_leaf 31 (o_istore 7 33)) (g_leaf 33 (o_aload 1 34))))))) (g_node 53 (g_node 44 (g_node 38 (g_node 37 (g_leaf 34 (o_getf sh 1 8 37)) (g_leaf 37 (o_iload 2 38))) (g_node 39 (g_leaf 38 (o_iald sh g_xi 39)) (g_node 41 (g_leaf 39 (o_push (.int 6) 41)) (g_leaf 41 (o_ic_ge 55 44))))) (g_node 47 (g_node 45 (g_leaf 44 (o_push (.int 0) 45)) (g_leaf 45 (o_iload 7 47))) (g_node 49 (g_leaf 47 (o_push (.int 10) 49)) (g_node 50 (g_leaf 49 (o_isub 50)) (g_leaf 50 (o_max 53)))))) (g_node 63 (g_node 57 (g_node 55 (g_leaf 53 (o_istore 7 55)) (g_leaf 55 (o_iload 6 57))) (g_node 58 (g_leaf 57 (o_iload 3 58)) (g_node 61 (g_leaf 58 (o_ic_ne 68 61)) (g_leaf 61 (o_iload 7 63))))) (g_node 65 (g_node 64 (g_leaf 63 (o_push (.int 2) 64)) (g_leaf 64 (o_idiv 65))) (g_node 68 (g_leaf 65 (o_goto 70)) (g_node 70 (g_leaf 68 (o_iload 7 70)) (g_leaf 70 (o_iret))))))))
def t_X4_hidingIn (sh : g_Sh) : Nat → Option g_Op := (g_node 23 (g_node 9 (g_node 3 (g_node 1 (g_leaf 0 (o_push (.int 0) 1)) (g_node 2 (g_leaf 1 (o_istore 2 2)) (g_leaf 2 (o_push (.int 0) 3)))) (g_node 5 (g_node 4 (g_leaf 3 (o_istore 3 4)) (g_leaf 4 (o_iload 3 5))) (g_node 6 (g_leaf 5 (o_aload 0 6)) (g_leaf 6 (o_getf sh 4 5 9))))) (g_node 17 (g_node 13 (g_node 12 (g_leaf 9 (o_ic_ge 46 12)) (g_leaf 12 (o_iload 2 13))) (g_node 14 (g_leaf 13 (o_aload 0 14)) (g_leaf 14 (o_getf sh 4 1 17)))) (g_node 19 (g_node 18 (g_leaf 17 (o_iload 3 18)) (g_leaf 18 (o_iald sh g_xi 19))) (g_node 20 (g_leaf 19 (o_push (.int 3) 20)) (g_leaf 20 (o_ic_ne 37 23)))))) (g_node 34 (g_node 28 (g_node 24 (g_leaf 23 (o_aload 0 24)) (g_node 27 (g_leaf 24 (o_getf sh 4 0 27)) (g_leaf 27 (o_iload 3 28)))) (g_node 30 (g_node 29 (g_leaf 28 (o_iald sh g_xi 29)) (g_leaf 29 (o_iload 1 30))) (g_node 33 (g_leaf 30 (o_ic_ne 37 33)) (g_leaf 33 (o_push (.int 1) 34))))) (g_node 40 (g_node 38 (g_node 37 (g_leaf 34 (o_goto 38)) (g_leaf 37 (o_push (.int 0) 38))) (g_node 39 (g_leaf 38 (o_iadd 39)) (g_leaf 39 (o_istore 2 40)))) (g_node 46 (g_node 43 (g_leaf 40 (o_iinc 3 1 43)) (g_leaf 43 (o_goto 4))) (g_node 47 (g_leaf 46 (o_iload 2 47)) (g_leaf 47 (o_iret)))))))
def t_X4_find (sh : g_Sh) : Nat → Option g_Op := (g_node 20 (g_node 8 (g_node 5 (g_node 1 (g_leaf 0 (o_aload 0 1)) (g_node 4 (g_leaf 1 (o_getf sh 4 1 4)) (g_leaf 4 (o_iload 1 5)))) (g_node 6 (g_leaf 5 (o_push (.int 0) 6)) (g_node 7 (g_leaf 6 (o_iast sh 7)) (g_leaf 7 (o_aload 0 8))))) (g_node 13 (g_node 11 (g_leaf 8 (o_getf sh 4 2 11)) (g_node 12 (g_leaf 11 (o_iload 1 12)) (g_leaf 12 (o_iload 2 13)))) (g_node 15 (g_node 14 (g_leaf 13 (o_iast sh 14)) (g_leaf 14 (o_aload 0 15))) (g_node 18 (g_leaf 15 (o_getf sh 4 6 18)) (g_leaf 18 (o_push (.int 8) 20)))))) (g_node 33 (g_node 27 (g_node 23 (g_leaf 20 (o_ic_ge 43 23)) (g_node 24 (g_leaf 23 (o_aload 0 24)) (g_leaf 24 (o_getf sh 4 3 27)))) (g_node 31 (g_node 28 (g_leaf 27 (o_aload 0 28)) (g_leaf 28 (o_getf sh 4 6 31))) (g_node 32 (g_leaf 31 (o_iload 1 32)) (g_leaf 32 (o_iast sh 33))))) (g_node 38 (g_node 34 (g_leaf 33 (o_aload 0 34)) (g_node 35 (g_leaf 34 (o_dup 35)) (g_leaf 35 (o_getf sh 4 6 38)))) (g_node 40 (g_node 39 (g_leaf 38 (o_push (.int 1) 39)) (g_leaf 39 (o_iadd 40))) (g_node 43 (g_leaf 40 (o_putf sh 4 6 43)) (g_leaf 43 (o_vret)))))))
def t_X4_bringHome (sh : g_Sh) : Nat → Option g_Op := (g_node 41 (g_node 19 (g_node 9 (g_node 3 (g_node 1 (g_leaf 0 (o_push (.int 0) 1)) (g_leaf 1 (o_istore 4 3))) (g_node 5 (g_leaf 3 (o_iload 4 5)) (g_node 6 (g_leaf 5 (o_aload 0 6)) (g_leaf 6 (o_getf sh 4 5 9))))) (g_node 13 (g_node 12 (g_leaf 9 (o_ic_ge 81 12)) (g_leaf 12 (o_aload 0 13))) (g_node 16 (g_leaf 13 (o_getf sh 4 1 16)) (g_node 18 (g_leaf 16 (o_iload 4 18)) (g_leaf 18 (o_iald sh g_xi 19)))))) (g_node 29 (g_node 23 (g_node 20 (g_leaf 19 (o_push (.int 4) 20)) (g_leaf 20 (o_ic_ne 75 23))) (g_node 24 (g_leaf 23 (o_aload 0 24)) (g_node 27 (g_leaf 24 (o_getf sh 4 2 27)) (g_leaf 27 (o_iload 4 29))))) (g_node 34 (g_node 30 (g_leaf 29 (o_iald sh g_xi 30)) (g_node 31 (g_leaf 30 (o_iload 1 31)) (g_leaf 31 (o_ic_eq 37 34)))) (g_node 37 (g_leaf 34 (o_goto 75)) (g_node 38 (g_leaf 37 (o_iload 2 38)) (g_leaf 38 (o_if_eq 51 41))))))) (g_node 59 (g_node 51 (g_node 44 (g_node 42 (g_leaf 41 (o_aload 0 42)) (g_leaf 42 (o_iload 4 44))) (g_node 45 (g_leaf 44 (o_iload 1 45)) (g_node 48 (g_leaf 45 (o_callVv sh 4 58 3 48)) (g_leaf 48 (o_goto 75))))) (g_node 55 (g_node 52 (g_leaf 51 (o_aload 0 52)) (g_leaf 52 (o_getf sh 4 1 55))) (g_node 57 (g_leaf 55 (o_iload 4 57)) (g_node 58 (g_leaf 57 (o_push (.int 1) 58)) (g_leaf 58 (o_iast sh 59)))))) (g_node 70 (g_node 63 (g_node 60 (g_leaf 59 (o_iload 3 60)) (g_leaf 60 (o_if_eq 75 63))) (g_node 64 (g_leaf 63 (o_aload 0 64)) (g_node 67 (g_leaf 64 (o_callV sh 4 62 1 67)) (g_leaf 67 (o_if_ne 75 70))))) (g_node 75 (g_node 71 (g_leaf 70 (o_aload 0 71)) (g_node 72 (g_leaf 71 (o_iload 1 72)) (g_leaf 72 (o_callVv sh 4 60 2 75)))) (g_node 78 (g_leaf 75 (o_iinc 4 1 78)) (g_node 81 (g_leaf 78 (o_goto 3)) (g_leaf 81 (o_vret))))))))
def t_X4_freeAll (sh : g_Sh) : Nat → Option g_Op := (g_node 20 (g_node 10 (g_node 3 (g_node 1 (g_leaf 0 (o_push (.int 0) 1)) (g_node 2 (g_leaf 1 (o_istore 2 2)) (g_leaf 2 (o_iload 2 3)))) (g_node 4 (g_leaf 3 (o_aload 0 4)) (g_node 7 (g_leaf 4 (o_getf sh 4 5 7)) (g_leaf 7 (o_ic_ge 39 10))))) (g_node 15 (g_node 11 (g_leaf 10 (o_aload 0 11)) (g_node 14 (g_leaf 11 (o_getf sh 4 1 14)) (g_leaf 14 (o_iload 2 15)))) (g_node 16 (g_leaf 15 (o_iald sh g_xi 16)) (g_node 19 (g_leaf 16 (o_if_ne 33 19)) (g_leaf 19 (o_aload 0 20)))))) (g_node 30 (g_node 25 (g_node 23 (g_leaf 20 (o_getf sh 4 1 23)) (g_node 24 (g_leaf 23 (o_iload 2 24)) (g_leaf 24 (o_push (.int 1) 25)))) (g_node 26 (g_leaf 25 (o_iast sh 26)) (g_node 27 (g_leaf 26 (o_aload 0 27)) (g_leaf 27 (o_getf sh 4 2 30))))) (g_node 33 (g_node 31 (g_leaf 30 (o_iload 2 31)) (g_node 32 (g_leaf 31 (o_iload 1 32)) (g_leaf 32 (o_iast sh 33)))) (g_node 36 (g_leaf 33 (o_iinc 2 1 36)) (g_node 39 (g_leaf 36 (o_goto 2)) (g_leaf 39 (o_vret)))))))
def t_X4_startRuns (sh : g_Sh) : Nat → Option g_Op := (g_node 39 (g_node 19 (g_node 9 (g_node 3 (g_node 1 (g_leaf 0 (o_push (.int 0) 1)) (g_leaf 1 (o_istore 5 3))) (g_node 5 (g_leaf 3 (o_iload 5 5)) (g_node 6 (g_leaf 5 (o_aload 0 6)) (g_leaf 6 (o_getf sh 4 5 9))))) (g_node 13 (g_node 12 (g_leaf 9 (o_ic_ge 78 12)) (g_leaf 12 (o_aload 0 13))) (g_node 16 (g_leaf 13 (o_getf sh 4 1 16)) (g_node 18 (g_leaf 16 (o_iload 5 18)) (g_leaf 18 (o_iald sh g_xi 19)))))) (g_node 27 (g_node 23 (g_node 20 (g_leaf 19 (o_push (.int 3) 20)) (g_leaf 20 (o_ic_ne 72 23))) (g_node 24 (g_leaf 23 (o_aload 1 24)) (g_node 26 (g_leaf 24 (o_iload 5 26)) (g_leaf 26 (o_aload 0 27))))) (g_node 33 (g_node 30 (g_leaf 27 (o_getf sh 4 0 30)) (g_node 32 (g_leaf 30 (o_iload 5 32)) (g_leaf 32 (o_iald sh g_xi 33)))) (g_node 34 (g_leaf 33 (o_iload 3 34)) (g_node 36 (g_leaf 34 (o_iload 4 36)) (g_leaf 36 (o_callV sh 1 26 5 39))))))) (g_node 58 (g_node 49 (g_node 43 (g_node 42 (g_leaf 39 (o_if_eq 72 42)) (g_leaf 42 (o_aload 0 43))) (g_node 46 (g_leaf 43 (o_getf sh 4 1 46)) (g_node 48 (g_leaf 46 (o_iload 5 48)) (g_leaf 48 (o_push (.int 4) 49))))) (g_node 54 (g_node 50 (g_leaf 49 (o_iast sh 50)) (g_node 51 (g_leaf 50 (o_aload 0 51)) (g_leaf 51 (o_getf sh 4 2 54)))) (g_node 56 (g_leaf 54 (o_iload 5 56)) (g_node 57 (g_leaf 56 (o_iload 2 57)) (g_leaf 57 (o_aload 1 58)))))) (g_node 67 (g_node 61 (g_node 60 (g_leaf 58 (o_iload 5 60)) (g_leaf 60 (o_aload 0 61))) (g_node 64 (g_leaf 61 (o_getf sh 4 0 64)) (g_node 66 (g_leaf 64 (o_iload 5 66)) (g_leaf 66 (o_iald sh g_xi 67))))) (g_node 72 (g_node 70 (g_leaf 67 (o_callV sh 1 25 3 70)) (g_node 71 (g_leaf 70 (o_iadd 71)) (g_leaf 71 (o_iast sh 72)))) (g_node 75 (g_leaf 72 (o_iinc 5 1 75)) (g_node 78 (g_leaf 75 (o_goto 3)) (g_leaf 78 (o_vret))))))))
def t_X4_isOpen (sh : g_Sh) : Nat → Option g_Op := (g_node 20 (g_node 10 (g_node 3 (g_node 1 (g_leaf 0 (o_push (.int 0) 1)) (g_node 2 (g_leaf 1 (o_istore 1 2)) (g_leaf 2 (o_iload 1 3)))) (g_node 4 (g_leaf 3 (o_aload 0 4)) (g_node 7 (g_leaf 4 (o_getf sh 4 5 7)) (g_leaf 7 (o_ic_ge 38 10))))) (g_node 15 (g_node 11 (g_leaf 10 (o_aload 0 11)) (g_node 14 (g_leaf 11 (o_getf sh 4 1 14)) (g_leaf 14 (o_iload 1 15)))) (g_node 16 (g_leaf 15 (o_iald sh g_xi 16)) (g_node 17 (g_leaf 16 (o_push (.int 3) 17)) (g_leaf 17 (o_ic_eq 30 20)))))) (g_node 30 (g_node 25 (g_node 21 (g_leaf 20 (o_aload 0 21)) (g_node 24 (g_leaf 21 (o_getf sh 4 1 24)) (g_leaf 24 (o_iload 1 25)))) (g_node 26 (g_leaf 25 (o_iald sh g_xi 26)) (g_node 27 (g_leaf 26 (o_push (.int 4) 27)) (g_leaf 27 (o_ic_ne 32 30))))) (g_node 35 (g_node 31 (g_leaf 30 (o_push (.int 1) 31)) (g_node 32 (g_leaf 31 (o_nret .boolean)) (g_leaf 32 (o_iinc 1 1 35)))) (g_node 38 (g_leaf 35 (o_goto 2)) (g_node 39 (g_leaf 38 (o_push (.int 0) 39)) (g_leaf 39 (o_nret .boolean)))))))
def t_X4_nextMoment (sh : g_Sh) : Nat → Option g_Op := (g_node 28 (g_node 11 (g_node 5 (g_node 1 (g_leaf 0 (o_aload 1 1)) (g_node 4 (g_leaf 1 (o_getf sh 5 3 4)) (g_leaf 4 (o_istore 3 5)))) (g_node 8 (g_node 6 (g_leaf 5 (o_push (.int 0) 6)) (g_leaf 6 (o_istore 4 8))) (g_node 10 (g_leaf 8 (o_iload 4 10)) (g_leaf 10 (o_aload 0 11))))) (g_node 21 (g_node 17 (g_node 14 (g_leaf 11 (o_getf sh 4 5 14)) (g_leaf 14 (o_ic_ge 46 17))) (g_node 18 (g_leaf 17 (o_aload 0 18)) (g_leaf 18 (o_getf sh 4 1 21)))) (g_node 24 (g_node 23 (g_leaf 21 (o_iload 4 23)) (g_leaf 23 (o_iald sh g_xi 24))) (g_node 25 (g_leaf 24 (o_push (.int 4) 25)) (g_leaf 25 (o_ic_ne 40 28)))))) (g_node 40 (g_node 33 (g_node 29 (g_leaf 28 (o_iload 3 29)) (g_node 30 (g_leaf 29 (o_aload 0 30)) (g_leaf 30 (o_getf sh 4 2 33)))) (g_node 36 (g_node 35 (g_leaf 33 (o_iload 4 35)) (g_leaf 35 (o_iald sh g_xi 36))) (g_node 39 (g_leaf 36 (o_min 39)) (g_leaf 39 (o_istore 3 40))))) (g_node 48 (g_node 46 (g_node 43 (g_leaf 40 (o_iinc 4 1 43)) (g_leaf 43 (o_goto 8))) (g_node 47 (g_leaf 46 (o_iload 2 47)) (g_leaf 47 (o_push (.int 1) 48)))) (g_node 50 (g_node 49 (g_leaf 48 (o_iadd 49)) (g_leaf 49 (o_iload 3 50))) (g_node 53 (g_leaf 50 (o_max 53)) (g_leaf 53 (o_iret)))))))
def t_X4_end (sh : g_Sh) : Nat → Option g_Op := (g_node 29 (g_node 12 (g_node 6 (g_node 2 (g_node 1 (g_leaf 0 (o_aload 0 1)) (g_leaf 1 (o_iload 1 2))) (g_node 5 (g_leaf 2 (o_putf sh 4 7 5)) (g_leaf 5 (o_push (.int 0) 6)))) (g_node 8 (g_node 7 (g_leaf 6 (o_istore 2 7)) (g_leaf 7 (o_iload 2 8))) (g_node 9 (g_leaf 8 (o_aload 0 9)) (g_leaf 9 (o_getf sh 4 5 12))))) (g_node 20 (g_node 16 (g_node 15 (g_leaf 12 (o_ic_ge 55 15)) (g_leaf 15 (o_aload 0 16))) (g_node 19 (g_leaf 16 (o_getf sh 4 1 19)) (g_leaf 19 (o_iload 2 20)))) (g_node 22 (g_node 21 (g_leaf 20 (o_iald sh g_xi 21)) (g_leaf 21 (o_push (.int 3) 22))) (g_node 25 (g_leaf 22 (o_ic_eq 35 25)) (g_node 26 (g_leaf 25 (o_aload 0 26)) (g_leaf 26 (o_getf sh 4 1 29))))))) (g_node 41 (g_node 35 (g_node 31 (g_node 30 (g_leaf 29 (o_iload 2 30)) (g_leaf 30 (o_iald sh g_xi 31))) (g_node 32 (g_leaf 31 (o_push (.int 4) 32)) (g_leaf 32 (o_ic_ne 49 35)))) (g_node 39 (g_node 36 (g_leaf 35 (o_aload 0 36)) (g_leaf 36 (o_getf sh 4 1 39))) (g_node 40 (g_leaf 39 (o_iload 2 40)) (g_leaf 40 (o_push (.int 2) 41))))) (g_node 47 (g_node 43 (g_node 42 (g_leaf 41 (o_iast sh 42)) (g_leaf 42 (o_aload 0 43))) (g_node 46 (g_leaf 43 (o_getf sh 4 2 46)) (g_leaf 46 (o_iload 2 47)))) (g_node 49 (g_node 48 (g_leaf 47 (o_iload 1 48)) (g_leaf 48 (o_iast sh 49))) (g_node 52 (g_leaf 49 (o_iinc 2 1 52)) (g_node 55 (g_leaf 52 (o_goto 7)) (g_leaf 55 (o_vret))))))))
def t_X5_begin (sh : g_Sh) : Nat → Option g_Op := (g_node 12 (g_node 6 (g_node 2 (g_node 1 (g_leaf 0 (o_aload 0 1)) (g_leaf 1 (o_push (.int 0) 2))) (g_node 5 (g_leaf 2 (o_putf sh 5 0 5)) (g_leaf 5 (o_aload 0 6)))) (g_node 10 (g_node 7 (g_leaf 6 (o_push (.int 0) 7)) (g_leaf 7 (o_putf sh 5 1 10))) (g_node 11 (g_leaf 10 (o_aload 0 11)) (g_leaf 11 (o_push (.int 0) 12))))) (g_node 20 (g_node 16 (g_node 15 (g_leaf 12 (o_putf sh 5 2 15)) (g_leaf 15 (o_aload 0 16))) (g_node 17 (g_leaf 16 (o_push (.int 0) 17)) (g_leaf 17 (o_putf sh 5 3 20)))) (g_node 22 (g_node 21 (g_leaf 20 (o_aload 0 21)) (g_leaf 21 (o_push (.int 0) 22))) (g_node 25 (g_leaf 22 (o_putz sh 5 4 25)) (g_leaf 25 (o_vret))))))
def t_X5_comesAt (sh : g_Sh) : Nat → Option g_Op := (g_node 11 (g_node 4 (g_node 1 (g_leaf 0 (o_aload 0 1)) (g_leaf 1 (o_getf sh 5 4 4))) (g_node 7 (g_leaf 4 (o_if_eq 19 7)) (g_node 8 (g_leaf 7 (o_aload 0 8)) (g_leaf 8 (o_getf sh 5 3 11))))) (g_node 16 (g_node 12 (g_leaf 11 (o_iload 1 12)) (g_node 15 (g_leaf 12 (o_ic_ne 19 15)) (g_leaf 15 (o_push (.int 1) 16)))) (g_node 19 (g_leaf 16 (o_goto 20)) (g_node 20 (g_leaf 19 (o_push (.int 0) 20)) (g_leaf 20 (o_nret .boolean))))))
def t_X5_come (sh : g_Sh) : Nat → Option g_Op := (g_node 10 (g_node 5 (g_node 1 (g_leaf 0 (o_aload 0 1)) (g_node 2 (g_leaf 1 (o_aload 0 2)) (g_leaf 2 (o_getf sh 5 1 5)))) (g_node 8 (g_leaf 5 (o_putf sh 5 0 8)) (g_node 9 (g_leaf 8 (o_aload 0 9)) (g_leaf 9 (o_push (.int 0) 10))))) (g_node 15 (g_node 13 (g_leaf 10 (o_putz sh 5 4 13)) (g_node 14 (g_leaf 13 (o_aload 0 14)) (g_leaf 14 (o_iload 1 15)))) (g_node 17 (g_node 16 (g_leaf 15 (o_iload 2 16)) (g_leaf 16 (o_iadd 17))) (g_node 20 (g_leaf 17 (o_putf sh 5 3 20)) (g_leaf 20 (o_vret))))))
def t_X5_standsAtBase (sh : g_Sh) : Nat → Option g_Op := (g_node 11 (g_node 4 (g_node 1 (g_leaf 0 (o_aload 0 1)) (g_leaf 1 (o_getf sh 5 4 4))) (g_node 7 (g_leaf 4 (o_if_ne 18 7)) (g_node 8 (g_leaf 7 (o_aload 0 8)) (g_leaf 8 (o_getf sh 5 0 11))))) (g_node 15 (g_node 14 (g_leaf 11 (o_if_ne 18 14)) (g_leaf 14 (o_push (.int 1) 15))) (g_node 18 (g_leaf 15 (o_goto 19)) (g_node 19 (g_leaf 18 (o_push (.int 0) 19)) (g_leaf 19 (o_nret .boolean))))))
def t_X5_goOnAt (sh : g_Sh) : Nat → Option g_Op := (g_node 38 (g_node 18 (g_node 11 (g_node 4 (g_node 1 (g_leaf 0 (o_aload 0 1)) (g_leaf 1 (o_getf sh 5 4 4))) (g_node 7 (g_leaf 4 (o_if_ne 15 7)) (g_node 8 (g_leaf 7 (o_aload 0 8)) (g_leaf 8 (o_getf sh 5 3 11))))) (g_node 15 (g_node 12 (g_leaf 11 (o_iload 1 12)) (g_leaf 12 (o_ic_eq 16 15))) (g_node 16 (g_leaf 15 (o_vret)) (g_node 17 (g_leaf 16 (o_aload 0 17)) (g_leaf 17 (o_aload 2 18)))))) (g_node 25 (g_node 22 (g_node 19 (g_leaf 18 (o_aload 0 19)) (g_leaf 19 (o_getf sh 5 0 22))) (g_node 23 (g_leaf 22 (o_aload 0 23)) (g_node 24 (g_leaf 23 (o_aload 2 24)) (g_leaf 24 (o_aload 3 25))))) (g_node 31 (g_node 28 (g_leaf 25 (o_callV sh 5 70 3 28)) (g_leaf 28 (o_callV sh 1 22 3 31))) (g_node 34 (g_leaf 31 (o_putf sh 5 1 34)) (g_node 35 (g_leaf 34 (o_aload 0 35)) (g_leaf 35 (o_getf sh 5 1 38))))))) (g_node 55 (g_node 48 (g_node 42 (g_node 39 (g_leaf 38 (o_aload 0 39)) (g_leaf 39 (o_getf sh 5 0 42))) (g_node 45 (g_leaf 42 (o_ic_ne 52 45)) (g_node 46 (g_leaf 45 (o_aload 0 46)) (g_leaf 46 (o_push (.int 2147483647) 48))))) (g_node 52 (g_node 51 (g_leaf 48 (o_putf sh 5 3 51)) (g_leaf 51 (o_vret))) (g_node 53 (g_leaf 52 (o_aload 0 53)) (g_node 54 (g_leaf 53 (o_iload 1 54)) (g_leaf 54 (o_aload 2 55)))))) (g_node 66 (g_node 59 (g_node 56 (g_leaf 55 (o_aload 0 56)) (g_leaf 56 (o_getf sh 5 0 59))) (g_node 60 (g_leaf 59 (o_aload 0 60)) (g_node 63 (g_leaf 60 (o_getf sh 5 1 63)) (g_leaf 63 (o_callV sh 1 19 3 66))))) (g_node 71 (g_node 67 (g_leaf 66 (o_iadd 67)) (g_node 70 (g_leaf 67 (o_putf sh 5 3 70)) (g_leaf 70 (o_aload 0 71)))) (g_node 72 (g_leaf 71 (o_push (.int 1) 72)) (g_node 75 (g_leaf 72 (o_putz sh 5 4 75)) (g_leaf 75 (o_vret))))))))
def t_X5_nextTarget (sh : g_Sh) : Nat → Option g_Op := (g_node 35 (g_node 20 (g_node 8 (g_node 4 (g_node 1 (g_leaf 0 (o_aload 0 1)) (g_leaf 1 (o_getf sh 5 2 4))) (g_node 5 (g_leaf 4 (o_aload 2 5)) (g_leaf 5 (o_getf sh 7 2 8)))) (g_node 12 (g_node 11 (g_leaf 8 (o_ic_ge 67 11)) (g_leaf 11 (o_aload 0 12))) (g_node 15 (g_leaf 12 (o_getf sh 5 2 15)) (g_node 17 (g_leaf 15 (o_push (.int 8) 17)) (g_leaf 17 (o_ic_ge 67 20)))))) (g_node 28 (g_node 24 (g_node 21 (g_leaf 20 (o_aload 2 21)) (g_leaf 21 (o_getf sh 7 1 24))) (g_node 25 (g_leaf 24 (o_aload 0 25)) (g_leaf 25 (o_getf sh 5 2 28)))) (g_node 30 (g_node 29 (g_leaf 28 (o_iald sh g_xi 29)) (g_leaf 29 (o_istore 3 30))) (g_node 31 (g_leaf 30 (o_iload 3 31)) (g_node 32 (g_leaf 31 (o_aload 0 32)) (g_leaf 32 (o_getf sh 5 0 35))))))) (g_node 53 (g_node 43 (g_node 39 (g_node 38 (g_leaf 35 (o_ic_eq 54 38)) (g_leaf 38 (o_aload 1 39))) (g_node 40 (g_leaf 39 (o_aload 0 40)) (g_leaf 40 (o_getf sh 5 0 43)))) (g_node 47 (g_node 44 (g_leaf 43 (o_iload 3 44)) (g_leaf 44 (o_callV sh 1 20 3 47))) (g_node 49 (g_leaf 47 (o_push (.int (-9)) 49)) (g_node 52 (g_leaf 49 (o_ic_eq 54 52)) (g_leaf 52 (o_iload 3 53)))))) (g_node 60 (g_node 55 (g_node 54 (g_leaf 53 (o_iret)) (g_leaf 54 (o_aload 0 55))) (g_node 56 (g_leaf 55 (o_dup 56)) (g_node 59 (g_leaf 56 (o_getf sh 5 2 59)) (g_leaf 59 (o_push (.int 1) 60))))) (g_node 64 (g_node 61 (g_leaf 60 (o_iadd 61)) (g_leaf 61 (o_putf sh 5 2 64))) (g_node 67 (g_leaf 64 (o_goto 0)) (g_node 68 (g_leaf 67 (o_push (.int 0) 68)) (g_leaf 68 (o_iret))))))))
def t_X5_secondsBack (sh : g_Sh) : Nat → Option g_Op := (g_node 18 (g_node 11 (g_node 4 (g_node 1 (g_leaf 0 (o_aload 0 1)) (g_leaf 1 (o_getf sh 5 4 4))) (g_node 7 (g_leaf 4 (o_if_eq 24 7)) (g_node 8 (g_leaf 7 (o_aload 0 8)) (g_leaf 8 (o_getf sh 5 3 11))))) (g_node 13 (g_node 12 (g_leaf 11 (o_iload 1 12)) (g_leaf 12 (o_isub 13))) (g_node 14 (g_leaf 13 (o_aload 2 14)) (g_node 15 (g_leaf 14 (o_aload 0 15)) (g_leaf 15 (o_getf sh 5 1 18)))))) (g_node 25 (g_node 22 (g_node 19 (g_leaf 18 (o_push (.int 0) 19)) (g_leaf 19 (o_callV sh 1 20 3 22))) (g_node 23 (g_leaf 22 (o_iadd 23)) (g_node 24 (g_leaf 23 (o_iret)) (g_leaf 24 (o_aload 2 25))))) (g_node 29 (g_node 26 (g_leaf 25 (o_aload 0 26)) (g_leaf 26 (o_getf sh 5 0 29))) (g_node 30 (g_leaf 29 (o_push (.int 0) 30)) (g_node 33 (g_leaf 30 (o_callV sh 1 20 3 33)) (g_leaf 33 (o_iret)))))))
def t_X6_leastWay (sh : g_Sh) : Nat → Option g_Op := (g_node 64 (g_node 31 (g_node 18 (g_node 8 (g_node 2 (g_node 1 (g_leaf 0 (o_aload 1 1)) (g_leaf 1 (o_aload 1 2))) (g_node 5 (g_leaf 2 (o_callS 76 1 5)) (g_leaf 5 (o_callS 77 2 8)))) (g_node 10 (g_node 9 (g_leaf 8 (o_istore 2 9)) (g_leaf 9 (o_aload 0 10))) (g_node 13 (g_leaf 10 (o_getf sh 6 0 13)) (g_node 15 (g_leaf 13 (o_push (.int (-9)) 15)) (g_leaf 15 (o_callSv 205 2 18)))))) (g_node 24 (g_node 22 (g_node 19 (g_leaf 18 (o_aload 0 19)) (g_leaf 19 (o_getf sh 6 0 22))) (g_node 23 (g_leaf 22 (o_push (.int 0) 23)) (g_leaf 23 (o_push (.int 0) 24)))) (g_node 27 (g_node 25 (g_leaf 24 (o_iast sh 25)) (g_leaf 25 (o_push (.int (-9)) 27))) (g_node 28 (g_leaf 27 (o_istore 3 28)) (g_node 29 (g_leaf 28 (o_push (.int 1) 29)) (g_leaf 29 (o_istore 4 31))))))) (g_node 48 (g_node 38 (g_node 34 (g_node 33 (g_leaf 31 (o_iload 4 33)) (g_leaf 33 (o_push (.int 1) 34))) (g_node 35 (g_leaf 34 (o_aload 1 35)) (g_leaf 35 (o_getf sh 1 0 38)))) (g_node 42 (g_node 39 (g_leaf 38 (o_ishl 39)) (g_leaf 39 (o_ic_ge 143 42))) (g_node 43 (g_leaf 42 (o_aload 1 43)) (g_node 45 (g_leaf 43 (o_iload 4 45)) (g_leaf 45 (o_callS 77 2 48)))))) (g_node 55 (g_node 50 (g_node 49 (g_leaf 48 (o_iload 2 49)) (g_leaf 49 (o_iand 50))) (g_node 51 (g_leaf 50 (o_iload 2 51)) (g_node 54 (g_leaf 51 (o_ic_ne 58 54)) (g_leaf 54 (o_push (.int 1) 55))))) (g_node 59 (g_node 58 (g_leaf 55 (o_goto 59)) (g_leaf 58 (o_push (.int 0) 59))) (g_node 61 (g_leaf 59 (o_istore 5 61)) (g_node 62 (g_leaf 61 (o_push (.int 0) 62)) (g_leaf 62 (o_istore 6 64)))))))) (g_node 104 (g_node 84 (g_node 73 (g_node 67 (g_node 66 (g_leaf 64 (o_iload 6 66)) (g_leaf 66 (o_aload 1 67))) (g_node 70 (g_leaf 67 (o_getf sh 1 0 70)) (g_leaf 70 (o_ic_ge 137 73)))) (g_node 77 (g_node 74 (g_leaf 73 (o_aload 0 74)) (g_leaf 74 (o_getf sh 6 0 77))) (g_node 79 (g_leaf 77 (o_iload 4 79)) (g_node 81 (g_leaf 79 (o_iload 6 81)) (g_leaf 81 (o_callS 75 2 84)))))) (g_node 94 (g_node 87 (g_node 85 (g_leaf 84 (o_iald sh g_xi 85)) (g_leaf 85 (o_istore 7 87))) (g_node 89 (g_leaf 87 (o_iload 7 89)) (g_node 91 (g_leaf 89 (o_push (.int (-9)) 91)) (g_leaf 91 (o_ic_ne 97 94))))) (g_node 99 (g_node 97 (g_leaf 94 (o_goto 131)) (g_leaf 97 (o_iload 5 99))) (g_node 102 (g_leaf 99 (o_if_ne 116 102)) (g_node 103 (g_leaf 102 (o_aload 0 103)) (g_leaf 103 (o_aload 1 104))))))) (g_node 124 (g_node 113 (g_node 108 (g_node 106 (g_leaf 104 (o_iload 4 106)) (g_leaf 106 (o_iload 6 108))) (g_node 110 (g_leaf 108 (o_iload 7 110)) (g_leaf 110 (o_callVv sh 6 74 5 113)))) (g_node 117 (g_node 116 (g_leaf 113 (o_goto 131)) (g_leaf 116 (o_iload 3 117))) (g_node 119 (g_leaf 117 (o_push (.int (-9)) 119)) (g_node 122 (g_leaf 119 (o_ic_eq 128 122)) (g_leaf 122 (o_iload 7 124)))))) (g_node 134 (g_node 128 (g_node 125 (g_leaf 124 (o_iload 3 125)) (g_leaf 125 (o_ic_ge 131 128))) (g_node 130 (g_leaf 128 (o_iload 7 130)) (g_node 131 (g_leaf 130 (o_istore 3 131)) (g_leaf 131 (o_iinc 6 1 134))))) (g_node 140 (g_node 137 (g_leaf 134 (o_goto 64)) (g_leaf 137 (o_iinc 4 2 140))) (g_node 143 (g_leaf 140 (o_goto 31)) (g_node 144 (g_leaf 143 (o_iload 3 144)) (g_leaf 144 (o_iret)))))))))
def t_X6_fewestPlaces (sh : g_Sh) : Nat → Option g_Op := (g_node 21 (g_node 9 (g_node 5 (g_node 1 (g_leaf 0 (o_push (.int 1) 1)) (g_node 2 (g_leaf 1 (o_aload 1 2)) (g_leaf 2 (o_getf sh 1 0 5)))) (g_node 7 (g_node 6 (g_leaf 5 (o_ishl 6)) (g_leaf 6 (o_push (.int 1) 7))) (g_node 8 (g_leaf 7 (o_isub 8)) (g_leaf 8 (o_istore 2 9))))) (g_node 14 (g_node 11 (g_node 10 (g_leaf 9 (o_iload 2 10)) (g_leaf 10 (o_istore 3 11))) (g_node 12 (g_leaf 11 (o_push (.int 1) 12)) (g_leaf 12 (o_istore 4 14)))) (g_node 17 (g_node 16 (g_leaf 14 (o_iload 4 16)) (g_leaf 16 (o_iload 2 17))) (g_node 20 (g_leaf 17 (o_ic_ge 51 20)) (g_leaf 20 (o_aload 1 21)))))) (g_node 36 (g_node 27 (g_node 23 (g_leaf 21 (o_iload 4 23)) (g_node 26 (g_leaf 23 (o_callS 77 2 26)) (g_leaf 26 (o_iload 2 27)))) (g_node 32 (g_node 30 (g_leaf 27 (o_ic_ne 45 30)) (g_leaf 30 (o_iload 4 32))) (g_node 35 (g_leaf 32 (o_callS 204 1 35)) (g_leaf 35 (o_iload 3 36))))) (g_node 45 (g_node 42 (g_node 39 (g_leaf 36 (o_callS 204 1 39)) (g_leaf 39 (o_ic_ge 45 42))) (g_node 44 (g_leaf 42 (o_iload 4 44)) (g_leaf 44 (o_istore 3 45)))) (g_node 51 (g_node 48 (g_leaf 45 (o_iinc 4 1 48)) (g_leaf 48 (o_goto 14))) (g_node 52 (g_leaf 51 (o_iload 3 52)) (g_leaf 52 (o_iret)))))))
def t_X6_goFurther (sh : g_Sh) : Nat → Option g_Op := (g_node 48 (g_node 22 (g_node 12 (g_node 5 (g_node 1 (g_leaf 0 (o_push (.int 1) 1)) (g_node 3 (g_leaf 1 (o_istore 5 3)) (g_leaf 3 (o_iload 5 5)))) (g_node 6 (g_leaf 5 (o_aload 1 6)) (g_node 9 (g_leaf 6 (o_getf sh 1 0 9)) (g_leaf 9 (o_ic_ge 98 12))))) (g_node 16 (g_node 13 (g_leaf 12 (o_aload 1 13)) (g_node 14 (g_leaf 13 (o_iload 3 14)) (g_leaf 14 (o_iload 5 16)))) (g_node 19 (g_leaf 16 (o_callV sh 1 20 3 19)) (g_node 21 (g_leaf 19 (o_istore 6 21)) (g_leaf 21 (o_iload 2 22)))))) (g_node 37 (g_node 30 (g_node 24 (g_leaf 22 (o_iload 5 24)) (g_node 27 (g_leaf 24 (o_callS 116 2 27)) (g_leaf 27 (o_if_ne 92 30)))) (g_node 32 (g_leaf 30 (o_iload 6 32)) (g_node 34 (g_leaf 32 (o_push (.int (-9)) 34)) (g_leaf 34 (o_ic_ne 40 37))))) (g_node 42 (g_node 40 (g_leaf 37 (o_goto 92)) (g_node 41 (g_leaf 40 (o_iload 2 41)) (g_leaf 41 (o_push (.int 1) 42)))) (g_node 45 (g_node 44 (g_leaf 42 (o_iload 5 44)) (g_leaf 44 (o_ishl 45))) (g_node 46 (g_leaf 45 (o_ior 46)) (g_leaf 46 (o_iload 5 48))))))) (g_node 74 (g_node 60 (g_node 54 (g_node 51 (g_leaf 48 (o_callS 75 2 51)) (g_node 53 (g_leaf 51 (o_istore 7 53)) (g_leaf 53 (o_aload 0 54)))) (g_node 57 (g_leaf 54 (o_getf sh 6 0 57)) (g_node 59 (g_leaf 57 (o_iload 7 59)) (g_leaf 59 (o_iald sh g_xi 60))))) (g_node 67 (g_node 62 (g_leaf 60 (o_push (.int (-9)) 62)) (g_node 65 (g_leaf 62 (o_ic_eq 80 65)) (g_leaf 65 (o_iload 4 67)))) (g_node 70 (g_node 69 (g_leaf 67 (o_iload 6 69)) (g_leaf 69 (o_iadd 70))) (g_node 71 (g_leaf 70 (o_aload 0 71)) (g_leaf 71 (o_getf sh 6 0 74)))))) (g_node 86 (g_node 80 (g_node 76 (g_leaf 74 (o_iload 7 76)) (g_node 77 (g_leaf 76 (o_iald sh g_xi 77)) (g_leaf 77 (o_ic_ge 92 80)))) (g_node 81 (g_leaf 80 (o_aload 0 81)) (g_node 84 (g_leaf 81 (o_getf sh 6 0 84)) (g_leaf 84 (o_iload 7 86))))) (g_node 91 (g_node 88 (g_leaf 86 (o_iload 4 88)) (g_node 90 (g_leaf 88 (o_iload 6 90)) (g_leaf 90 (o_iadd 91)))) (g_node 95 (g_node 92 (g_leaf 91 (o_iast sh 92)) (g_leaf 92 (o_iinc 5 1 95))) (g_node 98 (g_leaf 95 (o_goto 3)) (g_leaf 98 (o_vret))))))))
def t_X6_slotOf (sh : g_Sh) : Nat → Option g_Op := (g_node 5 (g_node 2 (g_node 1 (g_leaf 0 (o_iload 0 1)) (g_leaf 1 (o_push (.int 1) 2))) (g_node 3 (g_leaf 2 (o_ishr 3)) (g_leaf 3 (o_push (.int 8) 5)))) (g_node 7 (g_node 6 (g_leaf 5 (o_imul 6)) (g_leaf 6 (o_iload 1 7))) (g_node 8 (g_leaf 7 (o_iadd 8)) (g_leaf 8 (o_iret)))))
def t_X6_placesToCome (sh : g_Sh) : Nat → Option g_Op := (g_node 19 (g_node 6 (g_node 3 (g_node 1 (g_leaf 0 (o_push (.int 0) 1)) (g_node 2 (g_leaf 1 (o_istore 1 2)) (g_leaf 2 (o_push (.int 0) 3)))) (g_node 4 (g_leaf 3 (o_istore 2 4)) (g_node 5 (g_leaf 4 (o_iload 2 5)) (g_leaf 5 (o_aload 0 6))))) (g_node 13 (g_node 9 (g_leaf 6 (o_getf sh 1 0 9)) (g_node 12 (g_leaf 9 (o_ic_ge 39 12)) (g_leaf 12 (o_iload 1 13)))) (g_node 15 (g_node 14 (g_leaf 13 (o_aload 0 14)) (g_leaf 14 (o_push (.int 0) 15))) (g_node 16 (g_leaf 15 (o_iload 2 16)) (g_leaf 16 (o_callV sh 1 20 3 19)))))) (g_node 30 (g_node 25 (g_node 21 (g_leaf 19 (o_push (.int (-9)) 21)) (g_node 24 (g_leaf 21 (o_ic_ne 28 24)) (g_leaf 24 (o_push (.int 0) 25)))) (g_node 28 (g_leaf 25 (o_goto 31)) (g_node 29 (g_leaf 28 (o_push (.int 1) 29)) (g_leaf 29 (o_iload 2 30))))) (g_node 33 (g_node 31 (g_leaf 30 (o_ishl 31)) (g_node 32 (g_leaf 31 (o_ior 32)) (g_leaf 32 (o_istore 1 33)))) (g_node 39 (g_node 36 (g_leaf 33 (o_iinc 2 1 36)) (g_leaf 36 (o_goto 4))) (g_node 40 (g_leaf 39 (o_iload 1 40)) (g_leaf 40 (o_iret)))))))
def t_X6_seenFrom (sh : g_Sh) : Nat → Option g_Op := (g_node 18 (g_node 6 (g_node 3 (g_node 1 (g_leaf 0 (o_push (.int 0) 1)) (g_node 2 (g_leaf 1 (o_istore 2 2)) (g_leaf 2 (o_push (.int 0) 3)))) (g_node 4 (g_leaf 3 (o_istore 3 4)) (g_node 5 (g_leaf 4 (o_iload 3 5)) (g_leaf 5 (o_aload 0 6))))) (g_node 13 (g_node 9 (g_leaf 6 (o_getf sh 1 0 9)) (g_node 12 (g_leaf 9 (o_ic_ge 39 12)) (g_leaf 12 (o_iload 2 13)))) (g_node 14 (g_leaf 13 (o_iload 1 14)) (g_node 15 (g_leaf 14 (o_iload 3 15)) (g_leaf 15 (o_callS 116 2 18)))))) (g_node 30 (g_node 25 (g_node 21 (g_leaf 18 (o_if_eq 30 21)) (g_node 22 (g_leaf 21 (o_aload 0 22)) (g_leaf 22 (o_getf sh 1 7 25)))) (g_node 26 (g_leaf 25 (o_iload 3 26)) (g_node 27 (g_leaf 26 (o_iald sh g_xi 27)) (g_leaf 27 (o_goto 31))))) (g_node 33 (g_node 31 (g_leaf 30 (o_push (.int 0) 31)) (g_node 32 (g_leaf 31 (o_ior 32)) (g_leaf 32 (o_istore 2 33)))) (g_node 39 (g_node 36 (g_leaf 33 (o_iinc 3 1 36)) (g_leaf 36 (o_goto 4))) (g_node 40 (g_leaf 39 (o_iload 2 40)) (g_leaf 40 (o_iret)))))))
def t_X7_copyFrom (sh : g_Sh) : Nat → Option g_Op := (g_node 19 (g_node 9 (g_node 4 (g_node 1 (g_leaf 0 (o_aload 1 1)) (g_leaf 1 (o_getf sh 7 0 4))) (g_node 5 (g_leaf 4 (o_push (.int 0) 5)) (g_node 6 (g_leaf 5 (o_aload 0 6)) (g_leaf 6 (o_getf sh 7 0 9))))) (g_node 12 (g_node 10 (g_leaf 9 (o_push (.int 0) 10)) (g_leaf 10 (o_push (.int 7) 12))) (g_node 15 (g_leaf 12 (o_copy sh 15)) (g_node 16 (g_leaf 15 (o_aload 1 16)) (g_leaf 16 (o_getf sh 7 1 19)))))) (g_node 27 (g_node 21 (g_node 20 (g_leaf 19 (o_push (.int 0) 20)) (g_leaf 20 (o_aload 0 21))) (g_node 24 (g_leaf 21 (o_getf sh 7 1 24)) (g_node 25 (g_leaf 24 (o_push (.int 0) 25)) (g_leaf 25 (o_push (.int 8) 27))))) (g_node 32 (g_node 30 (g_leaf 27 (o_copy sh 30)) (g_node 31 (g_leaf 30 (o_aload 0 31)) (g_leaf 31 (o_aload 1 32)))) (g_node 35 (g_leaf 32 (o_getf sh 7 2 35)) (g_node 38 (g_leaf 35 (o_putf sh 7 2 38)) (g_leaf 38 (o_vret)))))))
def t_X7_takeDigits (sh : g_Sh) : Nat → Option g_Op := (g_node 26 (g_node 13 (g_node 4 (g_node 1 (g_leaf 0 (o_lload 2 1)) (g_node 3 (g_leaf 1 (o_lstore 4 3)) (g_leaf 3 (o_aload 0 4)))) (g_node 7 (g_node 5 (g_leaf 4 (o_iload 1 5)) (g_leaf 5 (o_push (.int 8) 7))) (g_node 10 (g_leaf 7 (o_min 10)) (g_leaf 10 (o_putf sh 7 2 13))))) (g_node 18 (g_node 14 (g_leaf 13 (o_push (.int 0) 14)) (g_node 16 (g_leaf 14 (o_istore 6 16)) (g_leaf 16 (o_iload 6 18)))) (g_node 22 (g_node 19 (g_leaf 18 (o_aload 0 19)) (g_leaf 19 (o_getf sh 7 2 22))) (g_node 25 (g_leaf 22 (o_ic_ge 53 25)) (g_leaf 25 (o_aload 0 26)))))) (g_node 39 (g_node 33 (g_node 29 (g_leaf 26 (o_getf sh 7 1 29)) (g_node 31 (g_leaf 29 (o_iload 6 31)) (g_leaf 31 (o_lload 4 33)))) (g_node 37 (g_node 36 (g_leaf 33 (o_push (.long 10) 36)) (g_leaf 36 (o_lrem 37))) (g_node 38 (g_leaf 37 (o_l2i 38)) (g_leaf 38 (o_iast sh 39))))) (g_node 45 (g_node 41 (g_leaf 39 (o_lload 4 41)) (g_node 44 (g_leaf 41 (o_push (.long 10) 44)) (g_leaf 44 (o_ldiv 45)))) (g_node 50 (g_node 47 (g_leaf 45 (o_lstore 4 47)) (g_leaf 47 (o_iinc 6 1 50))) (g_node 53 (g_leaf 50 (o_goto 16)) (g_leaf 53 (o_vret)))))))
def t_X7_takeRow (sh : g_Sh) : Nat → Option g_Op := (g_node 11 (g_node 3 (g_node 1 (g_leaf 0 (o_aload 0 1)) (g_node 2 (g_leaf 1 (o_iload 2 2)) (g_leaf 2 (o_push (.int 4) 3)))) (g_node 9 (g_node 6 (g_leaf 3 (o_min 6)) (g_leaf 6 (o_putf sh 7 2 9))) (g_node 10 (g_leaf 9 (o_aload 1 10)) (g_leaf 10 (o_push (.int 0) 11))))) (g_node 16 (g_node 12 (g_leaf 11 (o_aload 0 12)) (g_node 15 (g_leaf 12 (o_getf sh 7 1 15)) (g_leaf 15 (o_push (.int 0) 16)))) (g_node 20 (g_node 17 (g_leaf 16 (o_aload 0 17)) (g_leaf 17 (o_getf sh 7 2 20))) (g_node 23 (g_leaf 20 (o_copy sh 23)) (g_leaf 23 (o_vret))))))
def t_X8_copyFrom (sh : g_Sh) : Nat → Option g_Op := (g_node 22 (g_node 11 (g_node 4 (g_node 1 (g_leaf 0 (o_aload 0 1)) (g_leaf 1 (o_getf sh 8 0 4))) (g_node 5 (g_leaf 4 (o_aload 1 5)) (g_node 8 (g_leaf 5 (o_getf sh 8 0 8)) (g_leaf 8 (o_callVv sh 1 7 2 11))))) (g_node 15 (g_node 12 (g_leaf 11 (o_aload 0 12)) (g_leaf 12 (o_getf sh 8 1 15))) (g_node 16 (g_leaf 15 (o_aload 1 16)) (g_node 19 (g_leaf 16 (o_getf sh 8 1 19)) (g_leaf 19 (o_callVv sh 7 78 2 22)))))) (g_node 33 (g_node 26 (g_node 23 (g_leaf 22 (o_aload 0 23)) (g_leaf 23 (o_getf sh 8 2 26))) (g_node 27 (g_leaf 26 (o_aload 1 27)) (g_node 30 (g_leaf 27 (o_getf sh 8 2 30)) (g_leaf 30 (o_callVv sh 4 43 2 33))))) (g_node 35 (g_node 34 (g_leaf 33 (o_aload 0 34)) (g_leaf 34 (o_aload 1 35))) (g_node 38 (g_leaf 35 (o_getf sh 8 3 38)) (g_node 41 (g_leaf 38 (o_putf sh 8 3 41)) (g_leaf 41 (o_vret)))))))
def t_X9_feed (sh : g_Sh) : Nat → Option g_Op := (g_node 27 (g_node 12 (g_node 5 (g_node 1 (g_leaf 0 (o_iload 1 1)) (g_node 2 (g_leaf 1 (o_push (.int 1) 2)) (g_leaf 2 (o_ic_ge 12 5)))) (g_node 8 (g_node 6 (g_leaf 5 (o_aload 0 6)) (g_leaf 6 (o_push (.int (-4)) 8))) (g_node 11 (g_leaf 8 (o_callV sh 9 112 2 11)) (g_leaf 11 (o_iret))))) (g_node 19 (g_node 15 (g_node 13 (g_leaf 12 (o_iload 1 13)) (g_leaf 13 (o_push (.int 8) 15))) (g_node 18 (g_leaf 15 (o_ic_gt 32 18)) (g_leaf 18 (o_aload 0 19)))) (g_node 25 (g_node 22 (g_leaf 19 (o_getf sh 9 6 22)) (g_leaf 22 (o_getf sh 3 2 25))) (g_node 26 (g_leaf 25 (o_iload 1 26)) (g_leaf 26 (o_iadd 27)))))) (g_node 40 (g_node 33 (g_node 29 (g_leaf 27 (o_push (.int 64) 29)) (g_node 32 (g_leaf 29 (o_ic_le 39 32)) (g_leaf 32 (o_aload 0 33)))) (g_node 38 (g_node 35 (g_leaf 33 (o_push (.int (-6)) 35)) (g_leaf 35 (o_callV sh 9 112 2 38))) (g_node 39 (g_leaf 38 (o_iret)) (g_leaf 39 (o_aload 0 40))))) (g_node 48 (g_node 44 (g_node 43 (g_leaf 40 (o_getf sh 9 6 43)) (g_leaf 43 (o_iload 1 44))) (g_node 45 (g_leaf 44 (o_lload 2 45)) (g_leaf 45 (o_callVv sh 3 31 3 48)))) (g_node 52 (g_node 49 (g_leaf 48 (o_aload 0 49)) (g_leaf 49 (o_getf sh 9 6 52))) (g_node 55 (g_leaf 52 (o_getf sh 3 2 55)) (g_leaf 55 (o_iret)))))))
def t_X9_garden (sh : g_Sh) : Nat → Option g_Op := (g_node 30 (g_node 15 (g_node 5 (g_node 1 (g_leaf 0 (o_aload 0 1)) (g_node 4 (g_leaf 1 (o_getf sh 9 2 4)) (g_leaf 4 (o_aload 0 5)))) (g_node 11 (g_node 8 (g_leaf 5 (o_getf sh 9 0 8)) (g_leaf 8 (o_getf sh 8 0 11))) (g_node 14 (g_leaf 11 (o_callVv sh 1 7 2 14)) (g_leaf 14 (o_aload 0 15))))) (g_node 22 (g_node 18 (g_leaf 15 (o_getf sh 9 6 18)) (g_node 19 (g_leaf 18 (o_aload 0 19)) (g_leaf 19 (o_getf sh 9 2 22)))) (g_node 26 (g_node 25 (g_leaf 22 (o_callV sh 3 32 2 25)) (g_leaf 25 (o_istore 1 26))) (g_node 27 (g_leaf 26 (o_aload 0 27)) (g_leaf 27 (o_getf sh 9 6 30)))))) (g_node 45 (g_node 35 (g_node 31 (g_leaf 30 (o_push (.int 0) 31)) (g_node 34 (g_leaf 31 (o_putf sh 3 2 34)) (g_leaf 34 (o_iload 1 35)))) (g_node 39 (g_node 38 (g_leaf 35 (o_if_le 59 38)) (g_leaf 38 (o_aload 0 39))) (g_node 42 (g_leaf 39 (o_getf sh 9 2 42)) (g_leaf 42 (o_callVv sh 1 15 1 45))))) (g_node 53 (g_node 49 (g_node 46 (g_leaf 45 (o_aload 0 46)) (g_leaf 46 (o_getf sh 9 0 49))) (g_node 52 (g_leaf 49 (o_getf sh 8 0 52)) (g_leaf 52 (o_aload 0 53)))) (g_node 59 (g_node 56 (g_leaf 53 (o_getf sh 9 2 56)) (g_leaf 56 (o_callVv sh 1 7 2 59))) (g_node 60 (g_leaf 59 (o_iload 1 60)) (g_leaf 60 (o_iret)))))))
def t_X9_place (sh : g_Sh) : Nat → Option g_Op := (g_node 59 (g_node 17 (g_node 8 (g_node 4 (g_node 1 (g_leaf 0 (o_aload 0 1)) (g_leaf 1 (o_getf sh 9 0 4))) (g_node 7 (g_leaf 4 (o_getf sh 8 0 7)) (g_leaf 7 (o_astore 3 8)))) (g_node 10 (g_node 9 (g_leaf 8 (o_aload 3 9)) (g_leaf 9 (o_iload 1 10))) (g_node 13 (g_leaf 10 (o_callV sh 1 8 2 13)) (g_node 16 (g_leaf 13 (o_if_ne 22 16)) (g_leaf 16 (o_aload 0 17)))))) (g_node 52 (g_node 21 (g_node 18 (g_leaf 17 (o_push (.int (-1)) 18)) (g_leaf 18 (o_callV sh 9 112 2 21))) (g_node 22 (g_leaf 21 (o_iret)) (g_node 23 (g_leaf 22 (o_iload 2 23)) (g_leaf 23 (o_sw [(0, 52), (1, 59), (2, 66), (3, 73)] 80))))) (g_node 56 (g_node 53 (g_leaf 52 (o_aload 3 53)) (g_leaf 53 (o_getf sh 1 3 56))) (g_node 57 (g_leaf 56 (o_iload 1 57)) (g_node 58 (g_leaf 57 (o_iald sh g_xi 58)) (g_leaf 58 (o_iret))))))) (g_node 72 (g_node 65 (g_node 63 (g_node 60 (g_leaf 59 (o_aload 3 60)) (g_leaf 60 (o_getf sh 1 4 63))) (g_node 64 (g_leaf 63 (o_iload 1 64)) (g_leaf 64 (o_iald sh g_xi 65)))) (g_node 67 (g_node 66 (g_leaf 65 (o_iret)) (g_leaf 66 (o_aload 3 67))) (g_node 70 (g_leaf 67 (o_getf sh 1 5 70)) (g_node 71 (g_leaf 70 (o_iload 1 71)) (g_leaf 71 (o_iald sh g_xi 72)))))) (g_node 79 (g_node 74 (g_node 73 (g_leaf 72 (o_iret)) (g_leaf 73 (o_aload 3 74))) (g_node 77 (g_leaf 74 (o_getf sh 1 6 77)) (g_node 78 (g_leaf 77 (o_iload 1 78)) (g_leaf 78 (o_iald sh g_xi 79))))) (g_node 81 (g_node 80 (g_leaf 79 (o_iret)) (g_leaf 80 (o_aload 0 81))) (g_node 83 (g_leaf 81 (o_push (.int (-2)) 83)) (g_node 86 (g_leaf 83 (o_callV sh 9 112 2 86)) (g_leaf 86 (o_iret))))))))
def t_X9_sees (sh : g_Sh) : Nat → Option g_Op := (g_node 25 (g_node 10 (g_node 7 (g_node 1 (g_leaf 0 (o_aload 0 1)) (g_node 4 (g_leaf 1 (o_getf sh 9 0 4)) (g_leaf 4 (o_getf sh 8 0 7)))) (g_node 8 (g_leaf 7 (o_astore 3 8)) (g_node 9 (g_leaf 8 (o_aload 3 9)) (g_leaf 9 (o_iload 1 10))))) (g_node 17 (g_node 13 (g_leaf 10 (o_callV sh 1 8 2 13)) (g_node 16 (g_leaf 13 (o_if_eq 24 16)) (g_leaf 16 (o_aload 3 17)))) (g_node 21 (g_node 18 (g_leaf 17 (o_iload 2 18)) (g_leaf 18 (o_callV sh 1 8 2 21))) (g_node 24 (g_leaf 21 (o_if_ne 30 24)) (g_leaf 24 (o_aload 0 25)))))) (g_node 36 (g_node 30 (g_node 26 (g_leaf 25 (o_push (.int (-1)) 26)) (g_node 29 (g_leaf 26 (o_callV sh 9 112 2 29)) (g_leaf 29 (o_iret)))) (g_node 34 (g_node 31 (g_leaf 30 (o_aload 3 31)) (g_leaf 31 (o_getf sh 1 7 34))) (g_node 35 (g_leaf 34 (o_iload 1 35)) (g_leaf 35 (o_iald sh g_xi 36))))) (g_node 43 (g_node 37 (g_leaf 36 (o_iload 2 37)) (g_node 40 (g_leaf 37 (o_callS 116 2 40)) (g_leaf 40 (o_if_eq 47 43)))) (g_node 47 (g_node 44 (g_leaf 43 (o_push (.int 1) 44)) (g_leaf 44 (o_goto 48))) (g_node 48 (g_leaf 47 (o_push (.int 0) 48)) (g_leaf 48 (o_iret)))))))
def t_X9_far (sh : g_Sh) : Nat → Option g_Op := (g_node 18 (g_node 9 (g_node 4 (g_node 1 (g_leaf 0 (o_aload 0 1)) (g_leaf 1 (o_getf sh 9 0 4))) (g_node 7 (g_leaf 4 (o_getf sh 8 0 7)) (g_node 8 (g_leaf 7 (o_astore 3 8)) (g_leaf 8 (o_aload 3 9))))) (g_node 13 (g_node 10 (g_leaf 9 (o_iload 1 10)) (g_leaf 10 (o_callV sh 1 8 2 13))) (g_node 16 (g_leaf 13 (o_if_eq 24 16)) (g_node 17 (g_leaf 16 (o_aload 3 17)) (g_leaf 17 (o_iload 2 18)))))) (g_node 29 (g_node 24 (g_node 21 (g_leaf 18 (o_callV sh 1 8 2 21)) (g_leaf 21 (o_if_ne 30 24))) (g_node 25 (g_leaf 24 (o_aload 0 25)) (g_node 26 (g_leaf 25 (o_push (.int (-1)) 26)) (g_leaf 26 (o_callV sh 9 112 2 29))))) (g_node 32 (g_node 30 (g_leaf 29 (o_iret)) (g_node 31 (g_leaf 30 (o_aload 3 31)) (g_leaf 31 (o_iload 1 32)))) (g_node 33 (g_leaf 32 (o_iload 2 33)) (g_node 36 (g_leaf 33 (o_callV sh 1 20 3 36)) (g_leaf 36 (o_iret)))))))
def t_X9_hider (sh : g_Sh) : Nat → Option g_Op := (g_node 48 (g_node 13 (g_node 7 (g_node 1 (g_leaf 0 (o_aload 0 1)) (g_node 4 (g_leaf 1 (o_getf sh 9 0 4)) (g_leaf 4 (o_getf sh 8 0 7)))) (g_node 9 (g_node 8 (g_leaf 7 (o_astore 3 8)) (g_leaf 8 (o_aload 3 9))) (g_node 10 (g_leaf 9 (o_iload 1 10)) (g_leaf 10 (o_callV sh 1 10 2 13))))) (g_node 18 (g_node 16 (g_leaf 13 (o_if_ne 22 16)) (g_node 17 (g_leaf 16 (o_aload 0 17)) (g_leaf 17 (o_push (.int (-1)) 18)))) (g_node 22 (g_node 21 (g_leaf 18 (o_callV sh 9 112 2 21)) (g_leaf 21 (o_iret))) (g_node 23 (g_leaf 22 (o_iload 2 23)) (g_leaf 23 (o_sw [(0, 48), (1, 55)] 62)))))) (g_node 59 (g_node 53 (g_node 49 (g_leaf 48 (o_aload 3 49)) (g_node 52 (g_leaf 49 (o_getf sh 1 8 52)) (g_leaf 52 (o_iload 1 53)))) (g_node 55 (g_node 54 (g_leaf 53 (o_iald sh g_xi 54)) (g_leaf 54 (o_iret))) (g_node 56 (g_leaf 55 (o_aload 3 56)) (g_leaf 56 (o_getf sh 1 9 59))))) (g_node 62 (g_node 60 (g_leaf 59 (o_iload 1 60)) (g_node 61 (g_leaf 60 (o_iald sh g_xi 61)) (g_leaf 61 (o_iret)))) (g_node 65 (g_node 63 (g_leaf 62 (o_aload 0 63)) (g_leaf 63 (o_push (.int (-2)) 65))) (g_node 68 (g_leaf 65 (o_callV sh 9 112 2 68)) (g_leaf 68 (o_iret)))))))
def t_X9_times (sh : g_Sh) : Nat → Option g_Op := (g_node 33 (g_node 17 (g_node 8 (g_node 4 (g_node 1 (g_leaf 0 (o_aload 0 1)) (g_leaf 1 (o_getf sh 9 0 4))) (g_node 7 (g_leaf 4 (o_getf sh 8 0 7)) (g_leaf 7 (o_astore 3 8)))) (g_node 10 (g_node 9 (g_leaf 8 (o_aload 3 9)) (g_leaf 9 (o_iload 1 10))) (g_node 13 (g_leaf 10 (o_callV sh 1 9 2 13)) (g_node 16 (g_leaf 13 (o_if_ne 22 16)) (g_leaf 16 (o_aload 0 17)))))) (g_node 23 (g_node 21 (g_node 18 (g_leaf 17 (o_push (.int (-1)) 18)) (g_leaf 18 (o_callV sh 9 112 2 21))) (g_node 22 (g_leaf 21 (o_iret)) (g_leaf 22 (o_iload 2 23)))) (g_node 27 (g_node 26 (g_leaf 23 (o_if_ge 33 26)) (g_leaf 26 (o_aload 0 27))) (g_node 29 (g_leaf 27 (o_push (.int (-4)) 29)) (g_node 32 (g_leaf 29 (o_callV sh 9 112 2 32)) (g_leaf 32 (o_iret))))))) (g_node 50 (g_node 40 (g_node 36 (g_node 34 (g_leaf 33 (o_iload 2 34)) (g_leaf 34 (o_push (.int 99) 36))) (g_node 39 (g_leaf 36 (o_ic_le 46 39)) (g_leaf 39 (o_aload 0 40)))) (g_node 45 (g_node 42 (g_leaf 40 (o_push (.int (-6)) 42)) (g_leaf 42 (o_callV sh 9 112 2 45))) (g_node 46 (g_leaf 45 (o_iret)) (g_node 47 (g_leaf 46 (o_aload 3 47)) (g_leaf 47 (o_getf sh 1 6 50)))))) (g_node 58 (g_node 52 (g_node 51 (g_leaf 50 (o_iload 1 51)) (g_leaf 51 (o_iald sh g_xi 52))) (g_node 54 (g_leaf 52 (o_istore 4 54)) (g_node 55 (g_leaf 54 (o_aload 3 55)) (g_leaf 55 (o_getf sh 1 6 58))))) (g_node 60 (g_node 59 (g_leaf 58 (o_iload 1 59)) (g_leaf 59 (o_iload 2 60))) (g_node 61 (g_leaf 60 (o_iast sh 61)) (g_node 63 (g_leaf 61 (o_iload 4 63)) (g_leaf 63 (o_iret))))))))
def t_X9_set (sh : g_Sh) : Nat → Option g_Op := (g_node 38 (g_node 18 (g_node 10 (g_node 4 (g_node 1 (g_leaf 0 (o_iload 1 1)) (g_leaf 1 (o_if_lt 10 4))) (g_node 5 (g_leaf 4 (o_iload 1 5)) (g_node 7 (g_leaf 5 (o_push (.int 7) 7)) (g_leaf 7 (o_ic_lt 17 10))))) (g_node 13 (g_node 11 (g_leaf 10 (o_aload 0 11)) (g_leaf 11 (o_push (.int (-2)) 13))) (g_node 16 (g_leaf 13 (o_callV sh 9 112 2 16)) (g_node 17 (g_leaf 16 (o_iret)) (g_leaf 17 (o_iload 2 18)))))) (g_node 27 (g_node 22 (g_node 21 (g_leaf 18 (o_push (.retAddr 2) 21)) (g_leaf 21 (o_iload 1 22))) (g_node 23 (g_leaf 22 (o_iald sh g_xi 23)) (g_node 26 (g_leaf 23 (o_ic_ge 33 26)) (g_leaf 26 (o_aload 0 27))))) (g_node 33 (g_node 29 (g_leaf 27 (o_push (.int (-4)) 29)) (g_node 32 (g_leaf 29 (o_callV sh 9 112 2 32)) (g_leaf 32 (o_iret)))) (g_node 34 (g_leaf 33 (o_iload 2 34)) (g_node 37 (g_leaf 34 (o_push (.retAddr 3) 37)) (g_leaf 37 (o_iload 1 38))))))) (g_node 60 (g_node 48 (g_node 42 (g_node 39 (g_leaf 38 (o_iald sh g_xi 39)) (g_leaf 39 (o_ic_le 49 42))) (g_node 43 (g_leaf 42 (o_aload 0 43)) (g_node 45 (g_leaf 43 (o_push (.int (-6)) 45)) (g_leaf 45 (o_callV sh 9 112 2 48))))) (g_node 53 (g_node 49 (g_leaf 48 (o_iret)) (g_node 50 (g_leaf 49 (o_aload 0 50)) (g_leaf 50 (o_getf sh 9 0 53)))) (g_node 56 (g_leaf 53 (o_getf sh 8 1 56)) (g_node 59 (g_leaf 56 (o_getf sh 7 0 59)) (g_leaf 59 (o_iload 1 60)))))) (g_node 69 (g_node 62 (g_node 61 (g_leaf 60 (o_iald sh g_xi 61)) (g_leaf 61 (o_istore 3 62))) (g_node 63 (g_leaf 62 (o_aload 0 63)) (g_node 66 (g_leaf 63 (o_getf sh 9 0 66)) (g_leaf 66 (o_getf sh 8 1 69))))) (g_node 74 (g_node 72 (g_leaf 69 (o_getf sh 7 0 72)) (g_node 73 (g_leaf 72 (o_iload 1 73)) (g_leaf 73 (o_iload 2 74)))) (g_node 75 (g_leaf 74 (o_iast sh 75)) (g_node 76 (g_leaf 75 (o_iload 3 76)) (g_leaf 76 (o_iret))))))))
def t_X9_order (sh : g_Sh) : Nat → Option g_Op := (g_node 49 (g_node 24 (g_node 11 (g_node 5 (g_node 1 (g_leaf 0 (o_iload 1 1)) (g_node 4 (g_leaf 1 (o_if_ge 11 4)) (g_leaf 4 (o_aload 0 5)))) (g_node 7 (g_leaf 5 (o_push (.int (-4)) 7)) (g_node 10 (g_leaf 7 (o_callV sh 9 112 2 10)) (g_leaf 10 (o_iret))))) (g_node 17 (g_node 12 (g_leaf 11 (o_iload 1 12)) (g_node 14 (g_leaf 12 (o_push (.int 8) 14)) (g_leaf 14 (o_ic_le 24 17)))) (g_node 20 (g_node 18 (g_leaf 17 (o_aload 0 18)) (g_leaf 18 (o_push (.int (-6)) 20))) (g_node 23 (g_leaf 20 (o_callV sh 9 112 2 23)) (g_leaf 23 (o_iret)))))) (g_node 33 (g_node 28 (g_node 25 (g_leaf 24 (o_lload 2 25)) (g_node 27 (g_leaf 25 (o_lstore 4 27)) (g_leaf 27 (o_push (.int 0) 28)))) (g_node 30 (g_leaf 28 (o_istore 6 30)) (g_node 32 (g_leaf 30 (o_iload 6 32)) (g_leaf 32 (o_iload 1 33))))) (g_node 40 (g_node 36 (g_leaf 33 (o_ic_ge 76 36)) (g_node 37 (g_leaf 36 (o_aload 0 37)) (g_leaf 37 (o_getf sh 9 0 40)))) (g_node 45 (g_node 43 (g_leaf 40 (o_getf sh 8 0 43)) (g_leaf 43 (o_lload 4 45))) (g_node 48 (g_leaf 45 (o_push (.long 10) 48)) (g_leaf 48 (o_lrem 49))))))) (g_node 76 (g_node 61 (g_node 56 (g_node 50 (g_leaf 49 (o_l2i 50)) (g_node 53 (g_leaf 50 (o_callV sh 1 9 2 53)) (g_leaf 53 (o_if_ne 62 56)))) (g_node 57 (g_leaf 56 (o_aload 0 57)) (g_node 58 (g_leaf 57 (o_push (.int (-1)) 58)) (g_leaf 58 (o_callV sh 9 112 2 61))))) (g_node 67 (g_node 62 (g_leaf 61 (o_iret)) (g_node 64 (g_leaf 62 (o_lload 4 64)) (g_leaf 64 (o_push (.long 10) 67)))) (g_node 70 (g_node 68 (g_leaf 67 (o_ldiv 68)) (g_leaf 68 (o_lstore 4 70))) (g_node 73 (g_leaf 70 (o_iinc 6 1 73)) (g_leaf 73 (o_goto 30)))))) (g_node 89 (g_node 83 (g_node 77 (g_leaf 76 (o_aload 0 77)) (g_node 80 (g_leaf 77 (o_getf sh 9 0 80)) (g_leaf 80 (o_getf sh 8 1 83)))) (g_node 86 (g_leaf 83 (o_getf sh 7 2 86)) (g_node 88 (g_leaf 86 (o_istore 6 88)) (g_leaf 88 (o_aload 0 89))))) (g_node 96 (g_node 92 (g_leaf 89 (o_getf sh 9 0 92)) (g_node 95 (g_leaf 92 (o_getf sh 8 1 95)) (g_leaf 95 (o_iload 1 96)))) (g_node 100 (g_node 97 (g_leaf 96 (o_lload 2 97)) (g_leaf 97 (o_callVv sh 7 79 3 100))) (g_node 102 (g_leaf 100 (o_iload 6 102)) (g_leaf 102 (o_iret))))))))
def t_X9_cover (sh : g_Sh) : Nat → Option g_Op := (g_node 48 (g_node 24 (g_node 14 (g_node 7 (g_node 1 (g_leaf 0 (o_aload 0 1)) (g_node 4 (g_leaf 1 (o_getf sh 9 0 4)) (g_leaf 4 (o_getf sh 8 0 7)))) (g_node 8 (g_leaf 7 (o_iload 1 8)) (g_node 11 (g_leaf 8 (o_callV sh 1 9 2 11)) (g_leaf 11 (o_if_ne 20 14))))) (g_node 19 (g_node 15 (g_leaf 14 (o_aload 0 15)) (g_node 16 (g_leaf 15 (o_push (.int (-1)) 16)) (g_leaf 16 (o_callV sh 9 112 2 19)))) (g_node 20 (g_leaf 19 (o_iret)) (g_node 21 (g_leaf 20 (o_iload 2 21)) (g_leaf 21 (o_if_lt 28 24)))))) (g_node 35 (g_node 29 (g_node 25 (g_leaf 24 (o_iload 3 25)) (g_node 28 (g_leaf 25 (o_if_ge 35 28)) (g_leaf 28 (o_aload 0 29)))) (g_node 31 (g_leaf 29 (o_push (.int (-4)) 31)) (g_node 34 (g_leaf 31 (o_callV sh 9 112 2 34)) (g_leaf 34 (o_iret))))) (g_node 42 (g_node 36 (g_leaf 35 (o_iload 2 36)) (g_node 39 (g_leaf 36 (o_push (.int 999) 39)) (g_leaf 39 (o_ic_gt 48 42)))) (g_node 43 (g_leaf 42 (o_iload 3 43)) (g_node 45 (g_leaf 43 (o_push (.int 9) 45)) (g_leaf 45 (o_ic_le 55 48))))))) (g_node 69 (g_node 59 (g_node 54 (g_node 49 (g_leaf 48 (o_aload 0 49)) (g_node 51 (g_leaf 49 (o_push (.int (-6)) 51)) (g_leaf 51 (o_callV sh 9 112 2 54)))) (g_node 55 (g_leaf 54 (o_iret)) (g_node 56 (g_leaf 55 (o_aload 0 56)) (g_leaf 56 (o_getf sh 9 0 59))))) (g_node 64 (g_node 62 (g_leaf 59 (o_getf sh 8 0 62)) (g_node 63 (g_leaf 62 (o_iload 1 63)) (g_leaf 63 (o_iload 2 64)))) (g_node 65 (g_leaf 64 (o_iload 3 65)) (g_node 66 (g_leaf 65 (o_aload 0 66)) (g_leaf 66 (o_getf sh 9 0 69)))))) (g_node 81 (g_node 76 (g_node 72 (g_leaf 69 (o_getf sh 8 0 72)) (g_node 75 (g_leaf 72 (o_getf sh 1 6 75)) (g_leaf 75 (o_iload 1 76)))) (g_node 77 (g_leaf 76 (o_iald sh g_xi 77)) (g_node 78 (g_leaf 77 (o_aload 0 78)) (g_leaf 78 (o_getf sh 9 0 81))))) (g_node 88 (g_node 84 (g_leaf 81 (o_getf sh 8 1 84)) (g_node 87 (g_leaf 84 (o_getf sh 7 0 87)) (g_leaf 87 (o_push (.int 1) 88)))) (g_node 89 (g_leaf 88 (o_iald sh g_xi 89)) (g_node 92 (g_leaf 89 (o_callV sh 1 23 6 92)) (g_leaf 92 (o_iret))))))))
def t_X9_run (sh : g_Sh) : Nat → Option g_Op := (g_node 25 (g_node 11 (g_node 4 (g_node 1 (g_leaf 0 (o_aload 0 1)) (g_leaf 1 (o_getf sh 9 0 4))) (g_node 7 (g_leaf 4 (o_getf sh 8 0 7)) (g_node 8 (g_leaf 7 (o_iload 1 8)) (g_leaf 8 (o_callV sh 1 10 2 11))))) (g_node 18 (g_node 14 (g_leaf 11 (o_if_eq 28 14)) (g_node 15 (g_leaf 14 (o_aload 0 15)) (g_leaf 15 (o_getf sh 9 0 18)))) (g_node 21 (g_leaf 18 (o_getf sh 8 0 21)) (g_node 22 (g_leaf 21 (o_iload 2 22)) (g_leaf 22 (o_callV sh 1 9 2 25)))))) (g_node 35 (g_node 30 (g_node 28 (g_leaf 25 (o_if_ne 34 28)) (g_node 29 (g_leaf 28 (o_aload 0 29)) (g_leaf 29 (o_push (.int (-1)) 30)))) (g_node 33 (g_leaf 30 (o_callV sh 9 112 2 33)) (g_node 34 (g_leaf 33 (o_iret)) (g_leaf 34 (o_aload 0 35))))) (g_node 42 (g_node 38 (g_leaf 35 (o_getf sh 9 0 38)) (g_node 41 (g_leaf 38 (o_getf sh 8 0 41)) (g_leaf 41 (o_iload 1 42)))) (g_node 43 (g_leaf 42 (o_iload 2 43)) (g_node 46 (g_leaf 43 (o_callV sh 1 25 3 46)) (g_leaf 46 (o_iret)))))))
def t_X9_round (sh : g_Sh) : Nat → Option g_Op := (g_node 36 (g_node 18 (g_node 8 (g_node 4 (g_node 1 (g_leaf 0 (o_aload 0 1)) (g_leaf 1 (o_getf sh 9 0 4))) (g_node 7 (g_leaf 4 (o_getf sh 8 2 7)) (g_leaf 7 (o_aload 0 8)))) (g_node 14 (g_node 11 (g_leaf 8 (o_getf sh 9 0 11)) (g_leaf 11 (o_getf sh 8 0 14))) (g_node 15 (g_leaf 14 (o_aload 0 15)) (g_leaf 15 (o_getf sh 9 0 18))))) (g_node 26 (g_node 22 (g_node 21 (g_leaf 18 (o_getf sh 8 1 21)) (g_leaf 21 (o_aload 0 22))) (g_node 25 (g_leaf 22 (o_getf sh 9 5 25)) (g_leaf 25 (o_iload 1 26)))) (g_node 30 (g_node 29 (g_leaf 26 (o_callVv sh 4 44 5 29)) (g_leaf 29 (o_aload 0 30))) (g_node 33 (g_leaf 30 (o_getf sh 9 0 33)) (g_leaf 33 (o_getf sh 8 2 36)))))) (g_node 54 (g_node 46 (g_node 40 (g_node 37 (g_leaf 36 (o_aload 0 37)) (g_leaf 37 (o_getf sh 9 0 40))) (g_node 43 (g_leaf 40 (o_getf sh 8 0 43)) (g_leaf 43 (o_callVv sh 4 46 2 46)))) (g_node 50 (g_node 47 (g_leaf 46 (o_aload 0 47)) (g_leaf 47 (o_getf sh 9 0 50))) (g_node 51 (g_leaf 50 (o_dup 51)) (g_leaf 51 (o_getf sh 8 3 54))))) (g_node 60 (g_node 56 (g_node 55 (g_leaf 54 (o_push (.int 1) 55)) (g_leaf 55 (o_iadd 56))) (g_node 59 (g_leaf 56 (o_putf sh 8 3 59)) (g_leaf 59 (o_aload 0 60)))) (g_node 66 (g_node 63 (g_leaf 60 (o_getf sh 9 0 63)) (g_leaf 63 (o_getf sh 8 2 66))) (g_node 67 (g_leaf 66 (o_push (.int 0) 67)) (g_node 70 (g_leaf 67 (o_callV sh 4 45 2 70)) (g_leaf 70 (o_iret))))))))
def t_X9_mind (sh : g_Sh) : Nat → Option g_Op := (g_node 42 (g_node 17 (g_node 9 (g_node 4 (g_node 1 (g_leaf 0 (o_iload 2 1)) (g_leaf 1 (o_if_lt 9 4))) (g_node 5 (g_leaf 4 (o_iload 2 5)) (g_node 6 (g_leaf 5 (o_push (.int 3) 6)) (g_leaf 6 (o_ic_le 16 9))))) (g_node 12 (g_node 10 (g_leaf 9 (o_aload 0 10)) (g_leaf 10 (o_push (.int (-2)) 12))) (g_node 15 (g_leaf 12 (o_callV sh 9 112 2 15)) (g_node 16 (g_leaf 15 (o_iret)) (g_leaf 16 (o_aload 0 17)))))) (g_node 28 (g_node 21 (g_node 20 (g_leaf 17 (o_getf sh 9 4 20)) (g_leaf 20 (o_aload 0 21))) (g_node 24 (g_leaf 21 (o_getf sh 9 0 24)) (g_node 27 (g_leaf 24 (o_getf sh 8 0 27)) (g_leaf 27 (o_aload 0 28))))) (g_node 35 (g_node 31 (g_leaf 28 (o_getf sh 9 0 31)) (g_node 34 (g_leaf 31 (o_getf sh 8 1 34)) (g_leaf 34 (o_aload 0 35)))) (g_node 38 (g_leaf 35 (o_getf sh 9 5 38)) (g_node 39 (g_leaf 38 (o_iload 1 39)) (g_leaf 39 (o_callVv sh 4 44 5 42))))))) (g_node 82 (g_node 73 (g_node 68 (g_node 43 (g_leaf 42 (o_iload 2 43)) (g_leaf 43 (o_sw [(0, 68), (1, 77), (2, 86)] 95))) (g_node 69 (g_leaf 68 (o_aload 0 69)) (g_node 72 (g_leaf 69 (o_getf sh 9 4 72)) (g_leaf 72 (o_push (.int 0) 73))))) (g_node 77 (g_node 76 (g_leaf 73 (o_callV sh 4 45 2 76)) (g_leaf 76 (o_iret))) (g_node 78 (g_leaf 77 (o_aload 0 78)) (g_node 81 (g_leaf 78 (o_getf sh 9 4 81)) (g_leaf 81 (o_push (.int 1) 82)))))) (g_node 91 (g_node 86 (g_node 85 (g_leaf 82 (o_callV sh 4 45 2 85)) (g_leaf 85 (o_iret))) (g_node 87 (g_leaf 86 (o_aload 0 87)) (g_node 90 (g_leaf 87 (o_getf sh 9 4 90)) (g_leaf 90 (o_push (.int 2) 91))))) (g_node 96 (g_node 94 (g_leaf 91 (o_callV sh 4 45 2 94)) (g_node 95 (g_leaf 94 (o_iret)) (g_leaf 95 (o_aload 0 96)))) (g_node 99 (g_leaf 96 (o_getf sh 9 4 99)) (g_node 102 (g_leaf 99 (o_getf sh 4 7 102)) (g_leaf 102 (o_iret))))))))
def t_X9_of (sh : g_Sh) : Nat → Option g_Op := (g_node 57 (g_node 26 (g_node 15 (g_node 7 (g_node 1 (g_leaf 0 (o_aload 0 1)) (g_node 4 (g_leaf 1 (o_getf sh 9 0 4)) (g_leaf 4 (o_getf sh 8 0 7)))) (g_node 11 (g_node 8 (g_leaf 7 (o_iload 1 8)) (g_leaf 8 (o_callV sh 1 10 2 11))) (g_node 14 (g_leaf 11 (o_if_ne 20 14)) (g_leaf 14 (o_aload 0 15))))) (g_node 20 (g_node 16 (g_leaf 15 (o_push (.int (-1)) 16)) (g_node 19 (g_leaf 16 (o_callV sh 9 112 2 19)) (g_leaf 19 (o_iret)))) (g_node 24 (g_node 21 (g_leaf 20 (o_iload 2 21)) (g_leaf 21 (o_if_lt 29 24))) (g_node 25 (g_leaf 24 (o_iload 2 25)) (g_leaf 25 (o_push (.int 2) 26)))))) (g_node 40 (g_node 32 (g_node 29 (g_leaf 26 (o_ic_le 36 29)) (g_node 30 (g_leaf 29 (o_aload 0 30)) (g_leaf 30 (o_push (.int (-2)) 32)))) (g_node 36 (g_node 35 (g_leaf 32 (o_callV sh 9 112 2 35)) (g_leaf 35 (o_iret))) (g_node 37 (g_leaf 36 (o_aload 0 37)) (g_leaf 37 (o_getf sh 9 0 40))))) (g_node 47 (g_node 43 (g_leaf 40 (o_getf sh 8 3 43)) (g_node 46 (g_leaf 43 (o_if_eq 60 46)) (g_leaf 46 (o_iload 1 47)))) (g_node 51 (g_node 48 (g_leaf 47 (o_aload 0 48)) (g_leaf 48 (o_getf sh 9 0 51))) (g_node 54 (g_leaf 51 (o_getf sh 8 2 54)) (g_leaf 54 (o_getf sh 4 5 57))))))) (g_node 109 (g_node 96 (g_node 63 (g_node 60 (g_leaf 57 (o_ic_lt 67 60)) (g_node 61 (g_leaf 60 (o_aload 0 61)) (g_leaf 61 (o_push (.int (-3)) 63)))) (g_node 67 (g_node 66 (g_leaf 63 (o_callV sh 9 112 2 66)) (g_leaf 66 (o_iret))) (g_node 68 (g_leaf 67 (o_iload 2 68)) (g_leaf 68 (o_sw [(0, 96), (1, 109)] 122))))) (g_node 103 (g_node 97 (g_leaf 96 (o_aload 0 97)) (g_node 100 (g_leaf 97 (o_getf sh 9 0 100)) (g_leaf 100 (o_getf sh 8 2 103)))) (g_node 107 (g_node 106 (g_leaf 103 (o_getf sh 4 0 106)) (g_leaf 106 (o_iload 1 107))) (g_node 108 (g_leaf 107 (o_iald sh g_xi 108)) (g_leaf 108 (o_iret)))))) (g_node 122 (g_node 116 (g_node 110 (g_leaf 109 (o_aload 0 110)) (g_node 113 (g_leaf 110 (o_getf sh 9 0 113)) (g_leaf 113 (o_getf sh 8 2 116)))) (g_node 120 (g_node 119 (g_leaf 116 (o_getf sh 4 1 119)) (g_leaf 119 (o_iload 1 120))) (g_node 121 (g_leaf 120 (o_iald sh g_xi 121)) (g_leaf 121 (o_iret))))) (g_node 129 (g_node 123 (g_leaf 122 (o_aload 0 123)) (g_node 126 (g_leaf 123 (o_getf sh 9 0 126)) (g_leaf 126 (o_getf sh 8 2 129)))) (g_node 133 (g_node 132 (g_leaf 129 (o_getf sh 4 2 132)) (g_leaf 132 (o_iload 1 133))) (g_node 134 (g_leaf 133 (o_iald sh g_xi 134)) (g_leaf 134 (o_iret))))))))
def t_X9_found (sh : g_Sh) : Nat → Option g_Op := (g_node 28 (g_node 12 (g_node 5 (g_node 1 (g_leaf 0 (o_iload 1 1)) (g_node 4 (g_leaf 1 (o_if_ge 11 4)) (g_leaf 4 (o_aload 0 5)))) (g_node 10 (g_node 7 (g_leaf 5 (o_push (.int (-4)) 7)) (g_leaf 7 (o_callV sh 9 112 2 10))) (g_node 11 (g_leaf 10 (o_iret)) (g_leaf 11 (o_aload 0 12))))) (g_node 21 (g_node 15 (g_leaf 12 (o_getf sh 9 0 15)) (g_node 18 (g_leaf 15 (o_getf sh 8 3 18)) (g_leaf 18 (o_if_ne 28 21)))) (g_node 24 (g_node 22 (g_leaf 21 (o_aload 0 22)) (g_leaf 22 (o_push (.int (-3)) 24))) (g_node 27 (g_leaf 24 (o_callV sh 9 112 2 27)) (g_leaf 27 (o_iret)))))) (g_node 43 (g_node 33 (g_node 29 (g_leaf 28 (o_iload 1 29)) (g_node 30 (g_leaf 29 (o_aload 0 30)) (g_leaf 30 (o_getf sh 9 0 33)))) (g_node 39 (g_node 36 (g_leaf 33 (o_getf sh 8 2 36)) (g_leaf 36 (o_getf sh 4 6 39))) (g_node 42 (g_leaf 39 (o_ic_ge 57 42)) (g_leaf 42 (o_aload 0 43))))) (g_node 53 (g_node 49 (g_node 46 (g_leaf 43 (o_getf sh 9 0 46)) (g_leaf 46 (o_getf sh 8 2 49))) (g_node 52 (g_leaf 49 (o_getf sh 4 3 52)) (g_leaf 52 (o_iload 1 53)))) (g_node 57 (g_node 54 (g_leaf 53 (o_iald sh g_xi 54)) (g_leaf 54 (o_goto 59))) (g_node 59 (g_leaf 57 (o_push (.int (-9)) 59)) (g_leaf 59 (o_iret)))))))
def t_X9_table (sh : g_Sh) : Nat → Option g_Op := (g_node 56 (g_node 29 (g_node 13 (g_node 7 (g_node 1 (g_leaf 0 (o_aload 0 1)) (g_node 4 (g_leaf 1 (o_getf sh 9 0 4)) (g_leaf 4 (o_getf sh 8 0 7)))) (g_node 9 (g_node 8 (g_leaf 7 (o_astore 3 8)) (g_leaf 8 (o_aload 3 9))) (g_node 10 (g_leaf 9 (o_iload 1 10)) (g_leaf 10 (o_callV sh 1 10 2 13))))) (g_node 21 (g_node 17 (g_node 16 (g_leaf 13 (o_if_eq 24 16)) (g_leaf 16 (o_aload 3 17))) (g_node 18 (g_leaf 17 (o_iload 2 18)) (g_leaf 18 (o_callV sh 1 8 2 21)))) (g_node 25 (g_node 24 (g_leaf 21 (o_if_ne 30 24)) (g_leaf 24 (o_aload 0 25))) (g_node 26 (g_leaf 25 (o_push (.int (-1)) 26)) (g_leaf 26 (o_callV sh 9 112 2 29)))))) (g_node 40 (g_node 32 (g_node 30 (g_leaf 29 (o_iret)) (g_node 31 (g_leaf 30 (o_aload 3 31)) (g_leaf 31 (o_iload 2 32)))) (g_node 36 (g_node 33 (g_leaf 32 (o_push (.int 0) 33)) (g_leaf 33 (o_callV sh 1 20 3 36))) (g_node 38 (g_leaf 36 (o_istore 4 38)) (g_leaf 38 (o_iload 4 40))))) (g_node 48 (g_node 45 (g_node 42 (g_leaf 40 (o_push (.int (-9)) 42)) (g_leaf 42 (o_ic_ne 52 45))) (g_node 46 (g_leaf 45 (o_aload 0 46)) (g_leaf 46 (o_push (.int (-3)) 48)))) (g_node 52 (g_node 51 (g_leaf 48 (o_callV sh 9 112 2 51)) (g_leaf 51 (o_iret))) (g_node 53 (g_leaf 52 (o_aload 0 53)) (g_leaf 53 (o_getf sh 9 0 56))))))) (g_node 83 (g_node 69 (g_node 63 (g_node 59 (g_leaf 56 (o_getf sh 8 1 59)) (g_node 62 (g_leaf 59 (o_getf sh 7 0 62)) (g_leaf 62 (o_push (.int 2) 63)))) (g_node 66 (g_node 64 (g_leaf 63 (o_iald sh g_xi 64)) (g_leaf 64 (o_istore 5 66))) (g_node 67 (g_leaf 66 (o_push (.int 0) 67)) (g_leaf 67 (o_istore 6 69))))) (g_node 75 (g_node 72 (g_node 70 (g_leaf 69 (o_push (.int 1) 70)) (g_leaf 70 (o_istore 7 72))) (g_node 74 (g_leaf 72 (o_iload 7 74)) (g_leaf 74 (o_aload 3 75)))) (g_node 81 (g_node 78 (g_leaf 75 (o_getf sh 1 0 78)) (g_leaf 78 (o_ic_ge 110 81))) (g_node 82 (g_leaf 81 (o_aload 3 82)) (g_leaf 82 (o_iload 1 83)))))) (g_node 98 (g_node 89 (g_node 85 (g_leaf 83 (o_iload 7 85)) (g_node 87 (g_leaf 85 (o_iload 5 87)) (g_leaf 87 (o_iload 4 89)))) (g_node 95 (g_node 92 (g_leaf 89 (o_callV sh 1 26 5 92)) (g_leaf 92 (o_if_eq 104 95))) (g_node 97 (g_leaf 95 (o_iload 6 97)) (g_leaf 97 (o_push (.int 1) 98))))) (g_node 104 (g_node 101 (g_node 100 (g_leaf 98 (o_iload 7 100)) (g_leaf 100 (o_ishl 101))) (g_node 102 (g_leaf 101 (o_ior 102)) (g_leaf 102 (o_istore 6 104)))) (g_node 110 (g_node 107 (g_leaf 104 (o_iinc 7 1 107)) (g_leaf 107 (o_goto 72))) (g_node 112 (g_leaf 110 (o_iload 6 112)) (g_leaf 112 (o_iret))))))))
def t_X9_mayGo (sh : g_Sh) : Nat → Option g_Op := (g_node 32 (g_node 15 (g_node 4 (g_node 2 (g_node 1 (g_leaf 0 (o_push (.int 0) 1)) (g_leaf 1 (o_istore 1 2))) (g_node 3 (g_leaf 2 (o_push (.int 1) 3)) (g_leaf 3 (o_istore 2 4)))) (g_node 6 (g_node 5 (g_leaf 4 (o_iload 2 5)) (g_leaf 5 (o_aload 0 6))) (g_node 9 (g_leaf 6 (o_getf sh 9 0 9)) (g_node 12 (g_leaf 9 (o_getf sh 8 0 12)) (g_leaf 12 (o_getf sh 1 0 15)))))) (g_node 25 (g_node 19 (g_node 18 (g_leaf 15 (o_ic_ge 64 18)) (g_leaf 18 (o_aload 0 19))) (g_node 22 (g_leaf 19 (o_getf sh 9 0 22)) (g_leaf 22 (o_getf sh 8 0 25)))) (g_node 27 (g_node 26 (g_leaf 25 (o_iload 2 26)) (g_leaf 26 (o_push (.int 0) 27))) (g_node 30 (g_leaf 27 (o_callV sh 1 20 3 30)) (g_node 31 (g_leaf 30 (o_istore 3 31)) (g_leaf 31 (o_iload 3 32))))))) (g_node 49 (g_node 40 (g_node 36 (g_node 33 (g_leaf 32 (o_aload 0 33)) (g_leaf 33 (o_getf sh 9 0 36))) (g_node 39 (g_leaf 36 (o_getf sh 8 0 39)) (g_leaf 39 (o_iload 1 40)))) (g_node 44 (g_node 41 (g_leaf 40 (o_push (.int 0) 41)) (g_leaf 41 (o_callV sh 1 20 3 44))) (g_node 47 (g_leaf 44 (o_ic_le 58 47)) (g_node 48 (g_leaf 47 (o_aload 0 48)) (g_leaf 48 (o_iload 2 49)))))) (g_node 57 (g_node 53 (g_node 50 (g_leaf 49 (o_iload 3 50)) (g_leaf 50 (o_callV sh 9 114 3 53))) (g_node 56 (g_leaf 53 (o_if_eq 58 56)) (g_leaf 56 (o_iload 2 57)))) (g_node 61 (g_node 58 (g_leaf 57 (o_istore 1 58)) (g_leaf 58 (o_iinc 2 1 61))) (g_node 64 (g_leaf 61 (o_goto 4)) (g_node 65 (g_leaf 64 (o_iload 1 65)) (g_leaf 65 (o_iret))))))))
def t_X9_allSeen (sh : g_Sh) : Nat → Option g_Op := (g_node 5 (g_node 1 (g_leaf 0 (o_aload 0 1)) (g_node 4 (g_leaf 1 (o_getf sh 9 7 4)) (g_leaf 4 (o_aload 0 5)))) (g_node 11 (g_node 8 (g_leaf 5 (o_getf sh 9 0 8)) (g_leaf 8 (o_getf sh 8 0 11))) (g_node 14 (g_leaf 11 (o_callV sh 6 72 2 14)) (g_leaf 14 (o_iret)))))
def t_X9_fewest (sh : g_Sh) : Nat → Option g_Op := (g_node 5 (g_node 1 (g_leaf 0 (o_aload 0 1)) (g_node 4 (g_leaf 1 (o_getf sh 9 7 4)) (g_leaf 4 (o_aload 0 5)))) (g_node 11 (g_node 8 (g_leaf 5 (o_getf sh 9 0 8)) (g_leaf 8 (o_getf sh 8 0 11))) (g_node 14 (g_leaf 11 (o_callV sh 6 73 2 14)) (g_leaf 14 (o_iret)))))
def t_X9_game (sh : g_Sh) : Nat → Option g_Op := (g_node 48 (g_node 23 (g_node 11 (g_node 5 (g_node 1 (g_leaf 0 (o_iload 3 1)) (g_node 4 (g_leaf 1 (o_if_lt 20 4)) (g_leaf 4 (o_iload 3 5)))) (g_node 6 (g_leaf 5 (o_push (.int 1) 6)) (g_node 9 (g_leaf 6 (o_ic_gt 20 9)) (g_leaf 9 (o_iload 4 11))))) (g_node 17 (g_node 14 (g_leaf 11 (o_if_lt 20 14)) (g_node 16 (g_leaf 14 (o_iload 4 16)) (g_leaf 16 (o_push (.int 1) 17)))) (g_node 20 (g_leaf 17 (o_ic_le 27 20)) (g_node 21 (g_leaf 20 (o_aload 0 21)) (g_leaf 21 (o_push (.int (-2)) 23)))))) (g_node 32 (g_node 28 (g_node 26 (g_leaf 23 (o_callV sh 9 112 2 26)) (g_node 27 (g_leaf 26 (o_iret)) (g_leaf 27 (o_aload 0 28)))) (g_node 29 (g_leaf 28 (o_iload 1 29)) (g_node 30 (g_leaf 29 (o_iload 2 30)) (g_leaf 30 (o_push (.int 60) 32))))) (g_node 39 (g_node 35 (g_leaf 32 (o_callV sh 9 113 4 35)) (g_node 37 (g_leaf 35 (o_istore 5 37)) (g_leaf 37 (o_iload 5 39)))) (g_node 43 (g_node 42 (g_leaf 39 (o_if_eq 49 42)) (g_leaf 42 (o_aload 0 43))) (g_node 45 (g_leaf 43 (o_iload 5 45)) (g_leaf 45 (o_callV sh 9 112 2 48))))))) (g_node 73 (g_node 60 (g_node 53 (g_node 49 (g_leaf 48 (o_iret)) (g_node 50 (g_leaf 49 (o_aload 0 50)) (g_leaf 50 (o_getf sh 9 8 53)))) (g_node 54 (g_leaf 53 (o_aload 0 54)) (g_node 57 (g_leaf 54 (o_getf sh 9 0 57)) (g_leaf 57 (o_getf sh 8 0 60))))) (g_node 65 (g_node 61 (g_leaf 60 (o_aload 0 61)) (g_node 64 (g_leaf 61 (o_getf sh 9 9 64)) (g_leaf 64 (o_iload 1 65)))) (g_node 69 (g_node 66 (g_leaf 65 (o_iload 2 66)) (g_leaf 66 (o_callVv sh 0 0 5 69))) (g_node 70 (g_leaf 69 (o_iload 3 70)) (g_leaf 70 (o_if_ne 83 73)))))) (g_node 87 (g_node 80 (g_node 74 (g_leaf 73 (o_aload 0 74)) (g_node 77 (g_leaf 74 (o_getf sh 9 8 77)) (g_leaf 77 (o_callV sh 0 1 1 80)))) (g_node 83 (g_leaf 80 (o_goto 90)) (g_node 84 (g_leaf 83 (o_aload 0 84)) (g_leaf 84 (o_getf sh 9 8 87))))) (g_node 94 (g_node 90 (g_leaf 87 (o_callV sh 0 2 1 90)) (g_node 92 (g_leaf 90 (o_istore 6 92)) (g_leaf 92 (o_iload 6 94)))) (g_node 97 (g_node 95 (g_leaf 94 (o_iload 2 95)) (g_leaf 95 (o_iload 4 97))) (g_node 100 (g_leaf 97 (o_callS 117 3 100)) (g_leaf 100 (o_iret))))))))
def t_X9_taken (sh : g_Sh) : Nat → Option g_Op := (g_node 34 (g_node 18 (g_node 8 (g_node 2 (g_node 1 (g_leaf 0 (o_aload 0 1)) (g_leaf 1 (o_iload 1 2))) (g_node 3 (g_leaf 2 (o_iload 2 3)) (g_node 5 (g_leaf 3 (o_push (.int 60) 5)) (g_leaf 5 (o_callV sh 9 113 4 8))))) (g_node 12 (g_node 10 (g_leaf 8 (o_istore 4 10)) (g_leaf 10 (o_iload 4 12))) (g_node 15 (g_leaf 12 (o_if_eq 22 15)) (g_node 16 (g_leaf 15 (o_aload 0 16)) (g_leaf 16 (o_iload 4 18)))))) (g_node 27 (g_node 22 (g_node 21 (g_leaf 18 (o_callV sh 9 112 2 21)) (g_leaf 21 (o_iret))) (g_node 23 (g_leaf 22 (o_iload 3 23)) (g_node 24 (g_leaf 23 (o_push (.int 1) 24)) (g_leaf 24 (o_ic_lt 32 27))))) (g_node 29 (g_node 28 (g_leaf 27 (o_iload 3 28)) (g_leaf 28 (o_iload 1 29))) (g_node 32 (g_leaf 29 (o_ic_le 38 32)) (g_node 33 (g_leaf 32 (o_aload 0 33)) (g_leaf 33 (o_push (.int (-1)) 34))))))) (g_node 54 (g_node 43 (g_node 38 (g_node 37 (g_leaf 34 (o_callV sh 9 112 2 37)) (g_leaf 37 (o_iret))) (g_node 39 (g_leaf 38 (o_aload 0 39)) (g_node 42 (g_leaf 39 (o_getf sh 9 8 42)) (g_leaf 42 (o_aload 0 43))))) (g_node 49 (g_node 46 (g_leaf 43 (o_getf sh 9 0 46)) (g_leaf 46 (o_getf sh 8 0 49))) (g_node 50 (g_leaf 49 (o_aload 0 50)) (g_node 53 (g_leaf 50 (o_getf sh 9 9 53)) (g_leaf 53 (o_iload 1 54)))))) (g_node 65 (g_node 58 (g_node 55 (g_leaf 54 (o_iload 2 55)) (g_leaf 55 (o_callVv sh 0 0 5 58))) (g_node 59 (g_leaf 58 (o_aload 0 59)) (g_node 62 (g_leaf 59 (o_getf sh 9 8 62)) (g_leaf 62 (o_getf sh 0 3 65))))) (g_node 67 (g_node 66 (g_leaf 65 (o_iload 3 66)) (g_leaf 66 (o_push (.int 1) 67))) (g_node 68 (g_leaf 67 (o_isub 68)) (g_node 69 (g_leaf 68 (o_iald sh g_xi 69)) (g_leaf 69 (o_iret))))))))
def t_X9_summer (sh : g_Sh) : Nat → Option g_Op := (g_node 53 (g_node 27 (g_node 13 (g_node 7 (g_node 1 (g_leaf 0 (o_aload 0 1)) (g_node 4 (g_leaf 1 (o_getf sh 9 0 4)) (g_leaf 4 (o_getf sh 8 0 7)))) (g_node 9 (g_node 8 (g_leaf 7 (o_astore 3 8)) (g_leaf 8 (o_aload 3 9))) (g_node 10 (g_leaf 9 (o_iload 1 10)) (g_leaf 10 (o_callV sh 1 9 2 13))))) (g_node 21 (g_node 17 (g_node 16 (g_leaf 13 (o_if_ne 22 16)) (g_leaf 16 (o_aload 0 17))) (g_node 18 (g_leaf 17 (o_push (.int (-1)) 18)) (g_leaf 18 (o_callV sh 9 112 2 21)))) (g_node 23 (g_node 22 (g_leaf 21 (o_iret)) (g_leaf 22 (o_iload 2 23))) (g_node 24 (g_leaf 23 (o_push (.int 1) 24)) (g_leaf 24 (o_ic_ge 34 27)))))) (g_node 40 (g_node 33 (g_node 28 (g_leaf 27 (o_aload 0 28)) (g_node 30 (g_leaf 28 (o_push (.int (-4)) 30)) (g_leaf 30 (o_callV sh 9 112 2 33)))) (g_node 35 (g_node 34 (g_leaf 33 (o_iret)) (g_leaf 34 (o_iload 2 35))) (g_node 37 (g_leaf 35 (o_push (.int 30) 37)) (g_leaf 37 (o_ic_le 47 40))))) (g_node 47 (g_node 43 (g_node 41 (g_leaf 40 (o_aload 0 41)) (g_leaf 41 (o_push (.int (-6)) 43))) (g_node 46 (g_leaf 43 (o_callV sh 9 112 2 46)) (g_leaf 46 (o_iret)))) (g_node 50 (g_node 48 (g_leaf 47 (o_push (.int 0) 48)) (g_leaf 48 (o_istore 4 50))) (g_node 51 (g_leaf 50 (o_push (.int 0) 51)) (g_leaf 51 (o_istore 5 53))))))) (g_node 79 (g_node 66 (g_node 59 (g_node 55 (g_leaf 53 (o_iload 5 55)) (g_node 56 (g_leaf 55 (o_iload 2 56)) (g_leaf 56 (o_ic_ge 107 59)))) (g_node 62 (g_node 61 (g_leaf 59 (o_push (.int 99) 61)) (g_leaf 61 (o_aload 3 62))) (g_node 65 (g_leaf 62 (o_getf sh 1 6 65)) (g_leaf 65 (o_iload 1 66))))) (g_node 73 (g_node 69 (g_node 67 (g_leaf 66 (o_iald sh g_xi 67)) (g_leaf 67 (o_iload 5 69))) (g_node 70 (g_leaf 69 (o_iadd 70)) (g_leaf 70 (o_min 73)))) (g_node 77 (g_node 75 (g_leaf 73 (o_istore 6 75)) (g_leaf 75 (o_iload 4 77))) (g_node 78 (g_leaf 77 (o_aload 3 78)) (g_leaf 78 (o_iload 1 79)))))) (g_node 94 (g_node 84 (g_node 81 (g_node 80 (g_leaf 79 (o_push (.int 0) 80)) (g_leaf 80 (o_push (.int 1) 81))) (g_node 83 (g_leaf 81 (o_iload 6 83)) (g_leaf 83 (o_aload 0 84)))) (g_node 90 (g_node 87 (g_leaf 84 (o_getf sh 9 0 87)) (g_leaf 87 (o_getf sh 8 1 90))) (g_node 93 (g_leaf 90 (o_getf sh 7 0 93)) (g_leaf 93 (o_push (.int 1) 94))))) (g_node 101 (g_node 98 (g_node 95 (g_leaf 94 (o_iald sh g_xi 95)) (g_leaf 95 (o_callV sh 1 23 6 98))) (g_node 99 (g_leaf 98 (o_iadd 99)) (g_leaf 99 (o_istore 4 101)))) (g_node 107 (g_node 104 (g_leaf 101 (o_iinc 5 1 104)) (g_leaf 104 (o_goto 53))) (g_node 109 (g_leaf 107 (o_iload 4 109)) (g_leaf 109 (o_iret))))))))
def t_X9_odds (sh : g_Sh) : Nat → Option g_Op := (g_node 67 (g_node 34 (g_node 19 (g_node 9 (g_node 4 (g_node 1 (g_leaf 0 (o_aload 0 1)) (g_leaf 1 (o_getf sh 9 0 4))) (g_node 7 (g_leaf 4 (o_getf sh 8 0 7)) (g_leaf 7 (o_astore 4 9)))) (g_node 12 (g_node 11 (g_leaf 9 (o_aload 4 11)) (g_leaf 11 (o_iload 1 12))) (g_node 15 (g_leaf 12 (o_callV sh 1 9 2 15)) (g_node 18 (g_leaf 15 (o_if_ne 24 18)) (g_leaf 18 (o_aload 0 19)))))) (g_node 25 (g_node 23 (g_node 20 (g_leaf 19 (o_push (.int (-1)) 20)) (g_leaf 20 (o_callV sh 9 112 2 23))) (g_node 24 (g_leaf 23 (o_iret)) (g_leaf 24 (o_iload 3 25)))) (g_node 29 (g_node 28 (g_leaf 25 (o_if_lt 33 28)) (g_leaf 28 (o_iload 3 29))) (g_node 30 (g_leaf 29 (o_push (.int 1) 30)) (g_node 33 (g_leaf 30 (o_ic_le 40 33)) (g_leaf 33 (o_aload 0 34))))))) (g_node 51 (g_node 41 (g_node 39 (g_node 36 (g_leaf 34 (o_push (.int (-2)) 36)) (g_leaf 36 (o_callV sh 9 112 2 39))) (g_node 40 (g_leaf 39 (o_iret)) (g_leaf 40 (o_iload 2 41)))) (g_node 45 (g_node 44 (g_leaf 41 (o_if_ge 51 44)) (g_leaf 44 (o_aload 0 45))) (g_node 47 (g_leaf 45 (o_push (.int (-4)) 47)) (g_node 50 (g_leaf 47 (o_callV sh 9 112 2 50)) (g_leaf 50 (o_iret)))))) (g_node 59 (g_node 53 (g_node 52 (g_leaf 51 (o_iload 2 52)) (g_leaf 52 (o_push (.int 4) 53))) (g_node 56 (g_leaf 53 (o_ic_le 63 56)) (g_node 57 (g_leaf 56 (o_aload 0 57)) (g_leaf 57 (o_push (.int (-6)) 59))))) (g_node 63 (g_node 62 (g_leaf 59 (o_callV sh 9 112 2 62)) (g_leaf 62 (o_iret))) (g_node 65 (g_leaf 63 (o_aload 4 65)) (g_node 66 (g_leaf 65 (o_iload 1 66)) (g_leaf 66 (o_push (.int 0) 67)))))))) (g_node 99 (g_node 85 (g_node 74 (g_node 70 (g_node 68 (g_leaf 67 (o_push (.int 1) 68)) (g_leaf 68 (o_aload 4 70))) (g_node 73 (g_leaf 70 (o_getf sh 1 6 73)) (g_leaf 73 (o_iload 1 74)))) (g_node 76 (g_node 75 (g_leaf 74 (o_iald sh g_xi 75)) (g_leaf 75 (o_aload 0 76))) (g_node 79 (g_leaf 76 (o_getf sh 9 0 79)) (g_node 82 (g_leaf 79 (o_getf sh 8 1 82)) (g_leaf 82 (o_getf sh 7 0 85)))))) (g_node 92 (g_node 87 (g_node 86 (g_leaf 85 (o_push (.int 1) 86)) (g_leaf 86 (o_iald sh g_xi 87))) (g_node 90 (g_leaf 87 (o_callV sh 1 23 6 90)) (g_leaf 90 (o_istore 5 92)))) (g_node 95 (g_node 93 (g_leaf 92 (o_push (.int 1) 93)) (g_leaf 93 (o_istore 6 95))) (g_node 96 (g_leaf 95 (o_push (.int 1) 96)) (g_node 98 (g_leaf 96 (o_istore 7 98)) (g_leaf 98 (o_push (.int 0) 99))))))) (g_node 116 (g_node 107 (g_node 103 (g_node 101 (g_leaf 99 (o_istore 8 101)) (g_leaf 101 (o_iload 8 103))) (g_node 104 (g_leaf 103 (o_iload 2 104)) (g_leaf 104 (o_ic_ge 127 107)))) (g_node 111 (g_node 109 (g_leaf 107 (o_iload 6 109)) (g_leaf 109 (o_iload 5 111))) (g_node 112 (g_leaf 111 (o_imul 112)) (g_node 114 (g_leaf 112 (o_istore 6 114)) (g_leaf 114 (o_iload 7 116)))))) (g_node 127 (g_node 119 (g_node 118 (g_leaf 116 (o_push (.int 100) 118)) (g_leaf 118 (o_imul 119))) (g_node 121 (g_leaf 119 (o_istore 7 121)) (g_node 124 (g_leaf 121 (o_iinc 8 1 124)) (g_leaf 124 (o_goto 101))))) (g_node 131 (g_node 129 (g_leaf 127 (o_iload 6 129)) (g_leaf 129 (o_iload 7 131))) (g_node 132 (g_leaf 131 (o_iload 3 132)) (g_node 135 (g_leaf 132 (o_callS 117 3 135)) (g_leaf 135 (o_iret)))))))))
def t_X9_bestOrder (sh : g_Sh) : Nat → Option g_Op := (g_node 78 (g_node 36 (g_node 16 (g_node 9 (g_node 3 (g_node 2 (g_leaf 0 (o_iload 4 2)) (g_leaf 2 (o_push (.int (-1)) 3))) (g_node 6 (g_leaf 3 (o_ic_ge 13 6)) (g_node 7 (g_leaf 6 (o_aload 0 7)) (g_leaf 7 (o_push (.int (-4)) 9))))) (g_node 13 (g_node 12 (g_leaf 9 (o_callV sh 9 112 2 12)) (g_leaf 12 (o_iret))) (g_node 14 (g_leaf 13 (o_aload 0 14)) (g_node 15 (g_leaf 14 (o_iload 1 15)) (g_leaf 15 (o_iload 2 16)))))) (g_node 27 (g_node 20 (g_node 17 (g_leaf 16 (o_push (.int 5) 17)) (g_leaf 17 (o_callV sh 9 113 4 20))) (g_node 22 (g_leaf 20 (o_istore 5 22)) (g_node 24 (g_leaf 22 (o_iload 5 24)) (g_leaf 24 (o_if_eq 34 27))))) (g_node 30 (g_node 28 (g_leaf 27 (o_aload 0 28)) (g_leaf 28 (o_iload 5 30))) (g_node 33 (g_leaf 30 (o_callV sh 9 112 2 33)) (g_node 34 (g_leaf 33 (o_iret)) (g_leaf 34 (o_iload 4 36))))))) (g_node 57 (g_node 44 (g_node 40 (g_node 37 (g_leaf 36 (o_iload 1 37)) (g_leaf 37 (o_ic_lt 43 40))) (g_node 42 (g_leaf 40 (o_push (.int (-9)) 42)) (g_node 43 (g_leaf 42 (o_iret)) (g_leaf 43 (o_aload 0 44))))) (g_node 48 (g_node 47 (g_leaf 44 (o_getf sh 9 3 47)) (g_leaf 47 (o_aload 0 48))) (g_node 51 (g_leaf 48 (o_getf sh 9 0 51)) (g_node 54 (g_leaf 51 (o_getf sh 8 1 54)) (g_leaf 54 (o_callVv sh 7 78 2 57)))))) (g_node 66 (g_node 61 (g_node 58 (g_leaf 57 (o_aload 0 58)) (g_leaf 58 (o_getf sh 9 9 61))) (g_node 62 (g_leaf 61 (o_iload 1 62)) (g_node 65 (g_leaf 62 (o_callVv sh 2 28 2 65)) (g_leaf 65 (o_push (.int (-1)) 66))))) (g_node 71 (g_node 68 (g_leaf 66 (o_istore 6 68)) (g_node 69 (g_leaf 68 (o_push (.int 0) 69)) (g_leaf 69 (o_istore 7 71)))) (g_node 73 (g_leaf 71 (o_iload 7 73)) (g_node 75 (g_leaf 73 (o_push (.int 24) 75)) (g_leaf 75 (o_ic_ge 148 78)))))))) (g_node 120 (g_node 96 (g_node 89 (g_node 82 (g_node 79 (g_leaf 78 (o_aload 0 79)) (g_leaf 79 (o_getf sh 9 3 82))) (g_node 83 (g_leaf 82 (o_aload 0 83)) (g_node 86 (g_leaf 83 (o_getf sh 9 9 86)) (g_leaf 86 (o_getf sh 2 0 89))))) (g_node 93 (g_node 90 (g_leaf 89 (o_iload 1 90)) (g_leaf 90 (o_callVv sh 7 80 3 93))) (g_node 94 (g_leaf 93 (o_aload 0 94)) (g_node 95 (g_leaf 94 (o_iload 2 95)) (g_leaf 95 (o_iload 3 96)))))) (g_node 108 (g_node 101 (g_node 99 (g_leaf 96 (o_callV sh 9 115 3 99)) (g_leaf 99 (o_istore 8 101))) (g_node 103 (g_leaf 101 (o_iload 8 103)) (g_node 105 (g_leaf 103 (o_iload 6 105)) (g_leaf 105 (o_ic_le 129 108))))) (g_node 113 (g_node 110 (g_leaf 108 (o_iload 8 110)) (g_node 112 (g_leaf 110 (o_istore 6 112)) (g_leaf 112 (o_aload 0 113)))) (g_node 116 (g_leaf 113 (o_getf sh 9 9 116)) (g_node 119 (g_leaf 116 (o_getf sh 2 0 119)) (g_leaf 119 (o_push (.int 0) 120))))))) (g_node 142 (g_node 129 (g_node 124 (g_node 121 (g_leaf 120 (o_aload 0 121)) (g_leaf 121 (o_getf sh 9 10 124))) (g_node 125 (g_leaf 124 (o_push (.int 0) 125)) (g_node 126 (g_leaf 125 (o_push (.int 4) 126)) (g_leaf 126 (o_copy sh 129))))) (g_node 133 (g_node 130 (g_leaf 129 (o_aload 0 130)) (g_leaf 130 (o_getf sh 9 9 133))) (g_node 136 (g_leaf 133 (o_callV sh 2 29 1 136)) (g_node 139 (g_leaf 136 (o_if_ne 142 139)) (g_leaf 139 (o_goto 148)))))) (g_node 155 (g_node 148 (g_node 145 (g_leaf 142 (o_iinc 7 1 145)) (g_leaf 145 (o_goto 71))) (g_node 150 (g_leaf 148 (o_iload 4 150)) (g_node 153 (g_leaf 150 (o_if_ge 158 153)) (g_leaf 153 (o_iload 6 155))))) (g_node 162 (g_node 158 (g_leaf 155 (o_goto 165)) (g_node 159 (g_leaf 158 (o_aload 0 159)) (g_leaf 159 (o_getf sh 9 10 162)))) (g_node 164 (g_leaf 162 (o_iload 4 164)) (g_node 165 (g_leaf 164 (o_iald sh g_xi 165)) (g_leaf 165 (o_iret)))))))))
def t_X9_bestRule (sh : g_Sh) : Nat → Option g_Op := (g_node 46 (g_node 20 (g_node 11 (g_node 5 (g_node 1 (g_leaf 0 (o_iload 1 1)) (g_node 2 (g_leaf 1 (o_push (.int 1) 2)) (g_leaf 2 (o_ic_ge 12 5)))) (g_node 6 (g_leaf 5 (o_aload 0 6)) (g_node 8 (g_leaf 6 (o_push (.int (-4)) 8)) (g_leaf 8 (o_callV sh 9 112 2 11))))) (g_node 14 (g_node 12 (g_leaf 11 (o_iret)) (g_node 13 (g_leaf 12 (o_iload 1 13)) (g_leaf 13 (o_push (.int 5) 14)))) (g_node 17 (g_leaf 14 (o_ic_le 24 17)) (g_node 18 (g_leaf 17 (o_aload 0 18)) (g_leaf 18 (o_push (.int (-6)) 20)))))) (g_node 32 (g_node 25 (g_node 23 (g_leaf 20 (o_callV sh 9 112 2 23)) (g_node 24 (g_leaf 23 (o_iret)) (g_leaf 24 (o_aload 0 25)))) (g_node 28 (g_leaf 25 (o_getf sh 9 3 28)) (g_node 29 (g_leaf 28 (o_aload 0 29)) (g_leaf 29 (o_getf sh 9 0 32))))) (g_node 39 (g_node 35 (g_leaf 32 (o_getf sh 8 1 35)) (g_node 38 (g_leaf 35 (o_callVv sh 7 78 2 38)) (g_leaf 38 (o_push (.int 0) 39)))) (g_node 43 (g_node 40 (g_leaf 39 (o_istore 3 40)) (g_leaf 40 (o_push (.int 2147483647) 43))) (g_node 45 (g_leaf 43 (o_istore 4 45)) (g_leaf 45 (o_push (.int 0) 46))))))) (g_node 68 (g_node 58 (g_node 51 (g_node 48 (g_leaf 46 (o_istore 5 48)) (g_node 50 (g_leaf 48 (o_iload 5 50)) (g_leaf 50 (o_push (.int 5) 51)))) (g_node 54 (g_leaf 51 (o_ic_ge 93 54)) (g_node 55 (g_leaf 54 (o_aload 0 55)) (g_leaf 55 (o_getf sh 9 3 58))))) (g_node 64 (g_node 61 (g_leaf 58 (o_getf sh 7 0 61)) (g_node 62 (g_leaf 61 (o_push (.int 3) 62)) (g_leaf 62 (o_iload 5 64)))) (g_node 66 (g_node 65 (g_leaf 64 (o_iast sh 65)) (g_leaf 65 (o_aload 0 66))) (g_node 67 (g_leaf 66 (o_iload 1 67)) (g_leaf 67 (o_iload 2 68)))))) (g_node 82 (g_node 75 (g_node 71 (g_leaf 68 (o_callV sh 9 115 3 71)) (g_node 73 (g_leaf 71 (o_istore 6 73)) (g_leaf 73 (o_iload 6 75)))) (g_node 77 (g_leaf 75 (o_iload 4 77)) (g_node 80 (g_leaf 77 (o_ic_ge 87 80)) (g_leaf 80 (o_iload 6 82))))) (g_node 87 (g_node 84 (g_leaf 82 (o_istore 4 84)) (g_node 86 (g_leaf 84 (o_iload 5 86)) (g_leaf 86 (o_istore 3 87)))) (g_node 93 (g_node 90 (g_leaf 87 (o_iinc 5 1 90)) (g_leaf 90 (o_goto 48))) (g_node 94 (g_leaf 93 (o_iload 3 94)) (g_leaf 94 (o_iret))))))))
def t_X9_row (sh : g_Sh) : Nat → Option g_Op := (g_node 32 (g_node 14 (g_node 7 (g_node 4 (g_node 1 (g_leaf 0 (o_iload 1 1)) (g_leaf 1 (o_if_ge 11 4))) (g_node 5 (g_leaf 4 (o_aload 0 5)) (g_leaf 5 (o_push (.int (-4)) 7)))) (g_node 11 (g_node 10 (g_leaf 7 (o_callV sh 9 112 2 10)) (g_leaf 10 (o_iret))) (g_node 12 (g_leaf 11 (o_iload 1 12)) (g_leaf 12 (o_push (.int 9) 14))))) (g_node 23 (g_node 18 (g_node 17 (g_leaf 14 (o_ic_gt 26 17)) (g_leaf 17 (o_aload 0 18))) (g_node 21 (g_leaf 18 (o_getf sh 9 13 21)) (g_leaf 21 (o_push (.int 8) 23)))) (g_node 27 (g_node 26 (g_leaf 23 (o_ic_lt 33 26)) (g_leaf 26 (o_aload 0 27))) (g_node 29 (g_leaf 27 (o_push (.int (-6)) 29)) (g_leaf 29 (o_callV sh 9 112 2 32)))))) (g_node 44 (g_node 38 (g_node 34 (g_node 33 (g_leaf 32 (o_iret)) (g_leaf 33 (o_aload 0 34))) (g_node 37 (g_leaf 34 (o_getf sh 9 11 37)) (g_leaf 37 (o_aload 0 38)))) (g_node 42 (g_node 41 (g_leaf 38 (o_getf sh 9 13 41)) (g_leaf 41 (o_iload 1 42))) (g_node 43 (g_leaf 42 (o_iast sh 43)) (g_leaf 43 (o_aload 0 44))))) (g_node 50 (g_node 48 (g_node 45 (g_leaf 44 (o_dup 45)) (g_leaf 45 (o_getf sh 9 13 48))) (g_node 49 (g_leaf 48 (o_push (.int 1) 49)) (g_leaf 49 (o_iadd 50)))) (g_node 54 (g_node 53 (g_leaf 50 (o_putf sh 9 13 53)) (g_leaf 53 (o_aload 0 54))) (g_node 57 (g_leaf 54 (o_getf sh 9 13 57)) (g_leaf 57 (o_iret)))))))
def t_X9_judge (sh : g_Sh) : Nat → Option g_Op := (g_node 46 (g_node 23 (g_node 13 (g_node 7 (g_node 1 (g_leaf 0 (o_aload 0 1)) (g_node 4 (g_leaf 1 (o_getf sh 9 0 4)) (g_leaf 4 (o_getf sh 8 3 7)))) (g_node 10 (g_leaf 7 (o_if_ne 17 10)) (g_node 11 (g_leaf 10 (o_aload 0 11)) (g_leaf 11 (o_push (.int (-3)) 13))))) (g_node 18 (g_node 16 (g_leaf 13 (o_callV sh 9 112 2 16)) (g_node 17 (g_leaf 16 (o_iret)) (g_leaf 17 (o_aload 0 18)))) (g_node 21 (g_leaf 18 (o_getf sh 9 13 21)) (g_node 22 (g_leaf 21 (o_istore 1 22)) (g_leaf 22 (o_aload 0 23)))))) (g_node 35 (g_node 28 (g_node 24 (g_leaf 23 (o_push (.int 0) 24)) (g_node 27 (g_leaf 24 (o_putf sh 9 13 27)) (g_leaf 27 (o_iload 1 28)))) (g_node 29 (g_leaf 28 (o_aload 0 29)) (g_node 32 (g_leaf 29 (o_getf sh 9 0 32)) (g_leaf 32 (o_getf sh 8 2 35))))) (g_node 42 (g_node 38 (g_leaf 35 (o_getf sh 4 6 38)) (g_node 41 (g_leaf 38 (o_min 41)) (g_leaf 41 (o_istore 2 42)))) (g_node 44 (g_node 43 (g_leaf 42 (o_push (.int 0) 43)) (g_leaf 43 (o_istore 3 44))) (g_node 45 (g_leaf 44 (o_iload 3 45)) (g_leaf 45 (o_iload 2 46))))))) (g_node 71 (g_node 56 (g_node 53 (g_node 49 (g_leaf 46 (o_ic_ge 78 49)) (g_node 50 (g_leaf 49 (o_aload 0 50)) (g_leaf 50 (o_getf sh 9 11 53)))) (g_node 54 (g_leaf 53 (o_iload 3 54)) (g_node 55 (g_leaf 54 (o_iald sh g_xi 55)) (g_leaf 55 (o_aload 0 56))))) (g_node 65 (g_node 59 (g_leaf 56 (o_getf sh 9 0 59)) (g_node 62 (g_leaf 59 (o_getf sh 8 2 62)) (g_leaf 62 (o_getf sh 4 3 65)))) (g_node 67 (g_node 66 (g_leaf 65 (o_iload 3 66)) (g_leaf 66 (o_iald sh g_xi 67))) (g_node 70 (g_leaf 67 (o_ic_eq 72 70)) (g_leaf 70 (o_iload 3 71)))))) (g_node 83 (g_node 78 (g_node 72 (g_leaf 71 (o_iret)) (g_node 75 (g_leaf 72 (o_iinc 3 1 75)) (g_leaf 75 (o_goto 44)))) (g_node 79 (g_leaf 78 (o_iload 1 79)) (g_node 80 (g_leaf 79 (o_aload 0 80)) (g_leaf 80 (o_getf sh 9 0 83))))) (g_node 92 (g_node 86 (g_leaf 83 (o_getf sh 8 2 86)) (g_node 89 (g_leaf 86 (o_getf sh 4 6 89)) (g_leaf 89 (o_ic_ne 97 92)))) (g_node 97 (g_node 94 (g_leaf 92 (o_push (.int (-9)) 94)) (g_leaf 94 (o_goto 98))) (g_node 98 (g_leaf 97 (o_iload 2 98)) (g_leaf 98 (o_iret))))))))
def t_X9_image (sh : g_Sh) : Nat → Option g_Op := (g_node 12 (g_node 5 (g_node 1 (g_leaf 0 (o_aload 0 1)) (g_node 4 (g_leaf 1 (o_getf sh 9 1 4)) (g_leaf 4 (o_aload 0 5)))) (g_node 8 (g_leaf 5 (o_getf sh 9 0 8)) (g_node 11 (g_leaf 8 (o_callVv sh 8 81 2 11)) (g_leaf 11 (o_aload 0 12))))) (g_node 17 (g_node 13 (g_leaf 12 (o_push (.int 1) 13)) (g_node 16 (g_leaf 13 (o_putz sh 9 14 16)) (g_leaf 16 (o_aload 0 17)))) (g_node 23 (g_node 20 (g_leaf 17 (o_getf sh 9 0 20)) (g_leaf 20 (o_getf sh 8 0 23))) (g_node 26 (g_leaf 23 (o_getf sh 1 0 26)) (g_leaf 26 (o_iret))))))
def t_X9_on (sh : g_Sh) : Nat → Option g_Op := (g_node 15 (g_node 8 (g_node 4 (g_node 1 (g_leaf 0 (o_aload 0 1)) (g_leaf 1 (o_getf sh 9 14 4))) (g_node 7 (g_leaf 4 (o_if_ne 14 7)) (g_leaf 7 (o_aload 0 8)))) (g_node 13 (g_node 10 (g_leaf 8 (o_push (.int (-3)) 10)) (g_leaf 10 (o_callV sh 9 112 2 13))) (g_node 14 (g_leaf 13 (o_iret)) (g_leaf 14 (o_aload 0 15))))) (g_node 25 (g_node 19 (g_node 18 (g_leaf 15 (o_getf sh 9 0 18)) (g_leaf 18 (o_aload 0 19))) (g_node 22 (g_leaf 19 (o_getf sh 9 1 22)) (g_leaf 22 (o_callVv sh 8 81 2 25)))) (g_node 29 (g_node 26 (g_leaf 25 (o_aload 0 26)) (g_leaf 26 (o_getf sh 9 0 29))) (g_node 32 (g_leaf 29 (o_getf sh 8 0 32)) (g_node 35 (g_leaf 32 (o_getf sh 1 0 35)) (g_leaf 35 (o_iret)))))))
def t_X9_count (sh : g_Sh) : Nat → Option g_Op := (g_node 102 (g_node 71 (g_node 58 (g_node 49 (g_node 1 (g_leaf 0 (o_iload 1 1)) (g_node 48 (g_leaf 1 (o_sw [(0, 48), (1, 59), (2, 70), (3, 81), (4, 92), (5, 103), (6, 108), (7, 116)] 124)) (g_leaf 48 (o_aload 0 49)))) (g_node 52 (g_leaf 49 (o_getf sh 9 0 52)) (g_node 55 (g_leaf 52 (o_getf sh 8 0 55)) (g_leaf 55 (o_getf sh 1 0 58))))) (g_node 63 (g_node 59 (g_leaf 58 (o_iret)) (g_node 60 (g_leaf 59 (o_aload 0 60)) (g_leaf 60 (o_getf sh 9 0 63)))) (g_node 69 (g_node 66 (g_leaf 63 (o_getf sh 8 0 66)) (g_leaf 66 (o_getf sh 1 1 69))) (g_node 70 (g_leaf 69 (o_iret)) (g_leaf 70 (o_aload 0 71)))))) (g_node 85 (g_node 80 (g_node 74 (g_leaf 71 (o_getf sh 9 0 74)) (g_node 77 (g_leaf 74 (o_getf sh 8 0 77)) (g_leaf 77 (o_getf sh 1 2 80)))) (g_node 81 (g_leaf 80 (o_iret)) (g_node 82 (g_leaf 81 (o_aload 0 82)) (g_leaf 82 (o_getf sh 9 0 85))))) (g_node 92 (g_node 88 (g_leaf 85 (o_getf sh 8 0 88)) (g_node 91 (g_leaf 88 (o_callV sh 1 27 1 91)) (g_leaf 91 (o_iret)))) (g_node 96 (g_node 93 (g_leaf 92 (o_aload 0 93)) (g_leaf 93 (o_getf sh 9 0 96))) (g_node 99 (g_leaf 96 (o_getf sh 8 1 99)) (g_leaf 99 (o_getf sh 7 2 102))))))) (g_node 125 (g_node 112 (g_node 107 (g_node 103 (g_leaf 102 (o_iret)) (g_node 104 (g_leaf 103 (o_aload 0 104)) (g_leaf 104 (o_getf sh 9 13 107)))) (g_node 108 (g_leaf 107 (o_iret)) (g_node 109 (g_leaf 108 (o_aload 0 109)) (g_leaf 109 (o_getf sh 9 6 112))))) (g_node 117 (g_node 115 (g_leaf 112 (o_getf sh 3 2 115)) (g_node 116 (g_leaf 115 (o_iret)) (g_leaf 116 (o_aload 0 117)))) (g_node 123 (g_node 120 (g_leaf 117 (o_getf sh 9 0 120)) (g_leaf 120 (o_getf sh 8 3 123))) (g_node 124 (g_leaf 123 (o_iret)) (g_leaf 124 (o_iload 1 125)))))) (g_node 140 (g_node 131 (g_node 127 (g_leaf 125 (o_push (.int 11) 127)) (g_node 130 (g_leaf 127 (o_ic_lt 148 130)) (g_leaf 130 (o_iload 1 131)))) (g_node 136 (g_node 133 (g_leaf 131 (o_push (.int 16) 133)) (g_leaf 133 (o_ic_gt 148 136))) (g_node 137 (g_leaf 136 (o_aload 0 137)) (g_leaf 137 (o_getf sh 9 12 140))))) (g_node 144 (g_node 141 (g_leaf 140 (o_iload 1 141)) (g_node 143 (g_leaf 141 (o_push (.int 10) 143)) (g_leaf 143 (o_isub 144)))) (g_node 148 (g_node 145 (g_leaf 144 (o_iald sh g_xi 145)) (g_leaf 145 (o_goto 150))) (g_node 150 (g_leaf 148 (o_push (.int (-9)) 150)) (g_leaf 150 (o_iret))))))))
def t_X9_refuse (sh : g_Sh) : Nat → Option g_Op := (g_node 7 (g_node 4 (g_node 1 (g_leaf 0 (o_aload 0 1)) (g_leaf 1 (o_getf sh 9 12 4))) (g_node 5 (g_leaf 4 (o_iload 1 5)) (g_node 6 (g_leaf 5 (o_ineg 6)) (g_leaf 6 (o_dup2 7))))) (g_node 10 (g_node 8 (g_leaf 7 (o_iald sh g_xi 8)) (g_node 9 (g_leaf 8 (o_push (.int 1) 9)) (g_leaf 9 (o_iadd 10)))) (g_node 11 (g_leaf 10 (o_iast sh 11)) (g_node 12 (g_leaf 11 (o_iload 1 12)) (g_leaf 12 (o_iret))))))
def t_X9_refusalOfGame (sh : g_Sh) : Nat → Option g_Op := (g_node 20 (g_node 10 (g_node 5 (g_node 1 (g_leaf 0 (o_iload 1 1)) (g_node 2 (g_leaf 1 (o_push (.int 1) 2)) (g_leaf 2 (o_ic_lt 10 5)))) (g_node 6 (g_leaf 5 (o_iload 2 6)) (g_node 7 (g_leaf 6 (o_push (.int 1) 7)) (g_leaf 7 (o_ic_ge 13 10))))) (g_node 14 (g_node 12 (g_leaf 10 (o_push (.int (-4)) 12)) (g_node 13 (g_leaf 12 (o_iret)) (g_leaf 13 (o_iload 1 14)))) (g_node 18 (g_node 15 (g_leaf 14 (o_push (.int 4) 15)) (g_leaf 15 (o_ic_gt 23 18))) (g_node 19 (g_leaf 18 (o_iload 2 19)) (g_leaf 19 (o_iload 3 20)))))) (g_node 33 (g_node 26 (g_node 23 (g_leaf 20 (o_ic_le 26 23)) (g_node 25 (g_leaf 23 (o_push (.int (-6)) 25)) (g_leaf 25 (o_iret)))) (g_node 27 (g_leaf 26 (o_aload 0 27)) (g_node 30 (g_leaf 27 (o_getf sh 9 0 30)) (g_leaf 30 (o_getf sh 8 0 33))))) (g_node 40 (g_node 34 (g_leaf 33 (o_iload 1 34)) (g_node 37 (g_leaf 34 (o_callV sh 1 21 2 37)) (g_leaf 37 (o_if_eq 44 40)))) (g_node 44 (g_node 41 (g_leaf 40 (o_push (.int 0) 41)) (g_leaf 41 (o_goto 46))) (g_node 46 (g_leaf 44 (o_push (.int (-3)) 46)) (g_leaf 46 (o_iret)))))))
def t_X9_nobodyRuns (sh : g_Sh) : Nat → Option g_Op := (g_node 46 (g_node 22 (g_node 9 (g_node 4 (g_node 1 (g_leaf 0 (o_aload 0 1)) (g_leaf 1 (o_getf sh 9 0 4))) (g_node 7 (g_leaf 4 (o_getf sh 8 0 7)) (g_node 8 (g_leaf 7 (o_astore 3 8)) (g_leaf 8 (o_aload 0 9))))) (g_node 18 (g_node 12 (g_leaf 9 (o_getf sh 9 0 12)) (g_node 15 (g_leaf 12 (o_getf sh 8 1 15)) (g_leaf 15 (o_getf sh 7 0 18)))) (g_node 19 (g_leaf 18 (o_push (.int 2) 19)) (g_node 20 (g_leaf 19 (o_iald sh g_xi 20)) (g_leaf 20 (o_istore 4 22)))))) (g_node 34 (g_node 27 (g_node 23 (g_leaf 22 (o_push (.int 1) 23)) (g_node 25 (g_leaf 23 (o_istore 5 25)) (g_leaf 25 (o_iload 5 27)))) (g_node 28 (g_leaf 27 (o_aload 3 28)) (g_node 31 (g_leaf 28 (o_getf sh 1 0 31)) (g_leaf 31 (o_ic_ge 93 34))))) (g_node 40 (g_node 36 (g_leaf 34 (o_iload 5 36)) (g_node 37 (g_leaf 36 (o_iload 1 37)) (g_leaf 37 (o_ic_eq 87 40)))) (g_node 41 (g_leaf 40 (o_aload 3 41)) (g_node 44 (g_leaf 41 (o_getf sh 1 4 44)) (g_leaf 44 (o_iload 5 46))))))) (g_node 70 (g_node 58 (g_node 53 (g_node 47 (g_leaf 46 (o_iald sh g_xi 47)) (g_node 50 (g_leaf 47 (o_if_ne 53 50)) (g_leaf 50 (o_goto 87)))) (g_node 54 (g_leaf 53 (o_push (.int 0) 54)) (g_node 56 (g_leaf 54 (o_istore 6 56)) (g_leaf 56 (o_iload 6 58))))) (g_node 65 (g_node 59 (g_leaf 58 (o_aload 3 59)) (g_node 62 (g_leaf 59 (o_getf sh 1 2 62)) (g_leaf 62 (o_ic_ge 87 65)))) (g_node 66 (g_leaf 65 (o_aload 3 66)) (g_node 68 (g_leaf 66 (o_iload 6 68)) (g_leaf 68 (o_iload 5 70)))))) (g_node 81 (g_node 76 (g_node 72 (g_leaf 70 (o_iload 4 72)) (g_node 73 (g_leaf 72 (o_iload 2 73)) (g_leaf 73 (o_callV sh 1 26 5 76)))) (g_node 79 (g_leaf 76 (o_if_eq 81 79)) (g_node 80 (g_leaf 79 (o_push (.int 0) 80)) (g_leaf 80 (o_nret .boolean))))) (g_node 90 (g_node 84 (g_leaf 81 (o_iinc 6 1 84)) (g_node 87 (g_leaf 84 (o_goto 56)) (g_leaf 87 (o_iinc 5 1 90)))) (g_node 93 (g_leaf 90 (o_goto 25)) (g_node 94 (g_leaf 93 (o_push (.int 1) 94)) (g_leaf 94 (o_nret .boolean))))))))
def t_X9_findsOfTrial (sh : g_Sh) : Nat → Option g_Op := (g_node 27 (g_node 11 (g_node 3 (g_node 1 (g_leaf 0 (o_push (.int 0) 1)) (g_node 2 (g_leaf 1 (o_istore 3 2)) (g_leaf 2 (o_push (.int 0) 3)))) (g_node 7 (g_node 5 (g_leaf 3 (o_istore 4 5)) (g_leaf 5 (o_iload 4 7))) (g_node 8 (g_leaf 7 (o_iload 1 8)) (g_leaf 8 (o_ic_ge 54 11))))) (g_node 19 (g_node 15 (g_node 12 (g_leaf 11 (o_aload 0 12)) (g_leaf 12 (o_getf sh 9 4 15))) (g_node 16 (g_leaf 15 (o_aload 0 16)) (g_leaf 16 (o_getf sh 9 0 19)))) (g_node 23 (g_node 22 (g_leaf 19 (o_getf sh 8 0 22)) (g_leaf 22 (o_aload 0 23))) (g_node 26 (g_leaf 23 (o_getf sh 9 3 26)) (g_leaf 26 (o_aload 0 27)))))) (g_node 42 (g_node 34 (g_node 31 (g_node 30 (g_leaf 27 (o_getf sh 9 5 30)) (g_leaf 30 (o_iload 2 31))) (g_node 33 (g_leaf 31 (o_iload 4 33)) (g_leaf 33 (o_iadd 34)))) (g_node 38 (g_node 37 (g_leaf 34 (o_callVv sh 4 44 5 37)) (g_leaf 37 (o_iload 3 38))) (g_node 39 (g_leaf 38 (o_aload 0 39)) (g_leaf 39 (o_getf sh 9 4 42))))) (g_node 48 (g_node 46 (g_node 43 (g_leaf 42 (o_push (.int 0) 43)) (g_leaf 43 (o_callV sh 4 45 2 46))) (g_node 47 (g_leaf 46 (o_iadd 47)) (g_leaf 47 (o_istore 3 48)))) (g_node 54 (g_node 51 (g_leaf 48 (o_iinc 4 1 51)) (g_leaf 51 (o_goto 5))) (g_node 55 (g_leaf 54 (o_iload 3 55)) (g_leaf 55 (o_iret)))))))
def t_X9_hasBit (sh : g_Sh) : Nat → Option g_Op := (g_node 5 (g_node 2 (g_node 1 (g_leaf 0 (o_iload 0 1)) (g_leaf 1 (o_iload 1 2))) (g_node 3 (g_leaf 2 (o_ishr 3)) (g_node 4 (g_leaf 3 (o_push (.int 1) 4)) (g_leaf 4 (o_iand 5))))) (g_node 10 (g_node 6 (g_leaf 5 (o_push (.int 1) 6)) (g_node 9 (g_leaf 6 (o_ic_ne 13 9)) (g_leaf 9 (o_push (.int 1) 10)))) (g_node 13 (g_leaf 10 (o_goto 14)) (g_node 14 (g_leaf 13 (o_push (.int 0) 14)) (g_leaf 14 (o_nret .boolean))))))
def t_X9_inLeastTerms (sh : g_Sh) : Nat → Option g_Op := (g_node 12 (g_node 6 (g_node 2 (g_node 1 (g_leaf 0 (o_iload 0 1)) (g_leaf 1 (o_iload 1 2))) (g_node 5 (g_leaf 2 (o_callS 118 2 5)) (g_leaf 5 (o_istore 3 6)))) (g_node 10 (g_node 7 (g_leaf 6 (o_iload 3 7)) (g_leaf 7 (o_if_ne 12 10))) (g_node 11 (g_leaf 10 (o_push (.int 0) 11)) (g_leaf 11 (o_iret))))) (g_node 20 (g_node 16 (g_node 13 (g_leaf 12 (o_iload 2 13)) (g_leaf 13 (o_if_ne 20 16))) (g_node 17 (g_leaf 16 (o_iload 0 17)) (g_leaf 17 (o_goto 21)))) (g_node 22 (g_node 21 (g_leaf 20 (o_iload 1 21)) (g_leaf 21 (o_iload 3 22))) (g_node 23 (g_leaf 22 (o_idiv 23)) (g_leaf 23 (o_iret))))))
def t_X9_greatestCommon (sh : g_Sh) : Nat → Option g_Op := (g_node 18 (g_node 5 (g_node 2 (g_node 1 (g_leaf 0 (o_iload 0 1)) (g_leaf 1 (o_istore 2 2))) (g_node 3 (g_leaf 2 (o_iload 1 3)) (g_node 4 (g_leaf 3 (o_istore 3 4)) (g_leaf 4 (o_push (.int 0) 5))))) (g_node 11 (g_node 7 (g_leaf 5 (o_istore 4 7)) (g_node 9 (g_leaf 7 (o_iload 4 9)) (g_leaf 9 (o_push (.int 64) 11)))) (g_node 14 (g_leaf 11 (o_ic_ge 34 14)) (g_node 15 (g_leaf 14 (o_iload 3 15)) (g_leaf 15 (o_if_eq 34 18)))))) (g_node 25 (g_node 21 (g_node 19 (g_leaf 18 (o_iload 2 19)) (g_node 20 (g_leaf 19 (o_iload 3 20)) (g_leaf 20 (o_irem 21)))) (g_node 23 (g_leaf 21 (o_istore 5 23)) (g_node 24 (g_leaf 23 (o_iload 3 24)) (g_leaf 24 (o_istore 2 25))))) (g_node 31 (g_node 27 (g_leaf 25 (o_iload 5 27)) (g_node 28 (g_leaf 27 (o_istore 3 28)) (g_leaf 28 (o_iinc 4 1 31)))) (g_node 34 (g_leaf 31 (o_goto 7)) (g_node 35 (g_leaf 34 (o_iload 2 35)) (g_leaf 35 (o_iret)))))))
def t_X10_refuse (sh : g_Sh) : Nat → Option g_Op := (g_node 7 (g_node 4 (g_node 1 (g_leaf 0 (o_aload 0 1)) (g_leaf 1 (o_getf sh 10 0 4))) (g_node 5 (g_leaf 4 (o_iload 1 5)) (g_node 6 (g_leaf 5 (o_ineg 6)) (g_leaf 6 (o_dup2 7))))) (g_node 10 (g_node 8 (g_leaf 7 (o_iald sh g_xi 8)) (g_node 9 (g_leaf 8 (o_push (.int 1) 9)) (g_leaf 9 (o_iadd 10)))) (g_node 11 (g_leaf 10 (o_iast sh 11)) (g_node 12 (g_leaf 11 (o_iload 1 12)) (g_leaf 12 (o_iret))))))
def t_X10_isIn (sh : g_Sh) : Nat → Option g_Op := (g_node 6 (g_node 4 (g_node 1 (g_leaf 0 (o_iload 0 1)) (g_leaf 1 (o_if_lt 13 4))) (g_node 5 (g_leaf 4 (o_iload 0 5)) (g_leaf 5 (o_iload 1 6)))) (g_node 10 (g_node 9 (g_leaf 6 (o_ic_ge 13 9)) (g_leaf 9 (o_push (.int 1) 10))) (g_node 13 (g_leaf 10 (o_goto 14)) (g_node 14 (g_leaf 13 (o_push (.int 0) 14)) (g_leaf 14 (o_nret .boolean))))))
def t_X10_within (sh : g_Sh) : Nat → Option g_Op := (g_node 11 (g_node 5 (g_node 1 (g_leaf 0 (o_iload 0 1)) (g_node 2 (g_leaf 1 (o_iload 1 2)) (g_leaf 2 (o_ic_ge 10 5)))) (g_node 7 (g_leaf 5 (o_push (.int (-4)) 7)) (g_node 10 (g_leaf 7 (o_goto 21)) (g_leaf 10 (o_iload 0 11))))) (g_node 17 (g_node 12 (g_leaf 11 (o_iload 2 12)) (g_node 15 (g_leaf 12 (o_ic_le 20 15)) (g_leaf 15 (o_push (.int (-6)) 17)))) (g_node 20 (g_leaf 17 (o_goto 21)) (g_node 21 (g_leaf 20 (o_push (.int 0) 21)) (g_leaf 21 (o_iret))))))
def t_X10_isPlace (sh : g_Sh) : Nat → Option g_Op := (g_node 5 (g_node 1 (g_leaf 0 (o_iload 1 1)) (g_node 2 (g_leaf 1 (o_aload 0 2)) (g_leaf 2 (o_getf sh 10 1 5)))) (g_node 7 (g_node 6 (g_leaf 5 (o_push (.int 0) 6)) (g_leaf 6 (o_iald sh g_xi 7))) (g_node 10 (g_leaf 7 (o_callS 120 2 10)) (g_leaf 10 (o_nret .boolean)))))
def t_X10_isRoom (sh : g_Sh) : Nat → Option g_Op := (g_node 9 (g_node 4 (g_node 1 (g_leaf 0 (o_iload 1 1)) (g_leaf 1 (o_if_le 16 4))) (g_node 5 (g_leaf 4 (o_aload 0 5)) (g_node 6 (g_leaf 5 (o_iload 1 6)) (g_leaf 6 (o_callV sh 10 122 2 9))))) (g_node 13 (g_node 12 (g_leaf 9 (o_if_eq 16 12)) (g_leaf 12 (o_push (.int 1) 13))) (g_node 16 (g_leaf 13 (o_goto 17)) (g_node 17 (g_leaf 16 (o_push (.int 0) 17)) (g_leaf 17 (o_nret .boolean))))))
def t_X10_isHider (sh : g_Sh) : Nat → Option g_Op := (g_node 5 (g_node 1 (g_leaf 0 (o_iload 1 1)) (g_node 2 (g_leaf 1 (o_aload 0 2)) (g_leaf 2 (o_getf sh 10 1 5)))) (g_node 7 (g_node 6 (g_leaf 5 (o_push (.int 2) 6)) (g_leaf 6 (o_iald sh g_xi 7))) (g_node 10 (g_leaf 7 (o_callS 120 2 10)) (g_leaf 10 (o_nret .boolean)))))
def t_X10_get (sh : g_Sh) : Nat → Option g_Op := (g_node 8 (g_node 4 (g_node 1 (g_leaf 0 (o_aload 0 1)) (g_leaf 1 (o_getf sh 10 1 4))) (g_node 6 (g_leaf 4 (o_push (.int 16) 6)) (g_node 7 (g_leaf 6 (o_push (.int 5) 7)) (g_leaf 7 (o_iload 1 8))))) (g_node 11 (g_node 9 (g_leaf 8 (o_imul 9)) (g_node 10 (g_leaf 9 (o_iadd 10)) (g_leaf 10 (o_iload 2 11)))) (g_node 12 (g_leaf 11 (o_iadd 12)) (g_node 13 (g_leaf 12 (o_iald sh g_xi 13)) (g_leaf 13 (o_iret))))))
def t_X10_setOf (sh : g_Sh) : Nat → Option g_Op := (g_node 6 (g_node 1 (g_leaf 0 (o_aload 0 1)) (g_node 4 (g_leaf 1 (o_getf sh 10 1 4)) (g_leaf 4 (o_push (.int 9) 6)))) (g_node 8 (g_node 7 (g_leaf 6 (o_iload 1 7)) (g_leaf 7 (o_iadd 8))) (g_node 9 (g_leaf 8 (o_iald sh g_xi 9)) (g_leaf 9 (o_iret)))))
def t_X10_feed (sh : g_Sh) : Nat → Option g_Op := (g_node 42 (g_node 22 (g_node 11 (g_node 5 (g_node 1 (g_leaf 0 (o_iload 1 1)) (g_node 2 (g_leaf 1 (o_push (.int 1) 2)) (g_leaf 2 (o_ic_ge 12 5)))) (g_node 6 (g_leaf 5 (o_aload 0 6)) (g_node 8 (g_leaf 6 (o_push (.int (-4)) 8)) (g_leaf 8 (o_callV sh 10 119 2 11))))) (g_node 15 (g_node 12 (g_leaf 11 (o_iret)) (g_node 13 (g_leaf 12 (o_iload 1 13)) (g_leaf 13 (o_push (.int 8) 15)))) (g_node 18 (g_leaf 15 (o_ic_gt 29 18)) (g_node 19 (g_leaf 18 (o_aload 0 19)) (g_leaf 19 (o_getf sh 10 7 22)))))) (g_node 32 (g_node 26 (g_node 23 (g_leaf 22 (o_iload 1 23)) (g_node 24 (g_leaf 23 (o_iadd 24)) (g_leaf 24 (o_push (.int 64) 26)))) (g_node 29 (g_leaf 26 (o_ic_le 36 29)) (g_node 30 (g_leaf 29 (o_aload 0 30)) (g_leaf 30 (o_push (.int (-6)) 32))))) (g_node 37 (g_node 35 (g_leaf 32 (o_callV sh 10 119 2 35)) (g_node 36 (g_leaf 35 (o_iret)) (g_leaf 36 (o_push (.int 0) 37)))) (g_node 39 (g_leaf 37 (o_istore 4 39)) (g_node 41 (g_leaf 39 (o_iload 4 41)) (g_leaf 41 (o_iload 1 42))))))) (g_node 64 (g_node 54 (g_node 49 (g_node 45 (g_leaf 42 (o_ic_ge 82 45)) (g_node 46 (g_leaf 45 (o_aload 0 46)) (g_leaf 46 (o_getf sh 10 5 49)))) (g_node 50 (g_leaf 49 (o_aload 0 50)) (g_node 53 (g_leaf 50 (o_getf sh 10 7 53)) (g_leaf 53 (o_lload 2 54))))) (g_node 59 (g_node 56 (g_leaf 54 (o_push (.int 8) 56)) (g_node 58 (g_leaf 56 (o_iload 4 58)) (g_leaf 58 (o_imul 59)))) (g_node 60 (g_leaf 59 (o_lshr 60)) (g_node 63 (g_leaf 60 (o_push (.long 255) 63)) (g_leaf 63 (o_land 64)))))) (g_node 72 (g_node 67 (g_node 65 (g_leaf 64 (o_l2i 65)) (g_node 66 (g_leaf 65 (o_iast sh 66)) (g_leaf 66 (o_aload 0 67)))) (g_node 68 (g_leaf 67 (o_dup 68)) (g_node 71 (g_leaf 68 (o_getf sh 10 7 71)) (g_leaf 71 (o_push (.int 1) 72))))) (g_node 79 (g_node 73 (g_leaf 72 (o_iadd 73)) (g_node 76 (g_leaf 73 (o_putf sh 10 7 76)) (g_leaf 76 (o_iinc 4 1 79)))) (g_node 83 (g_node 82 (g_leaf 79 (o_goto 39)) (g_leaf 82 (o_aload 0 83))) (g_node 86 (g_leaf 83 (o_getf sh 10 7 86)) (g_leaf 86 (o_iret))))))))
def t_X10_sign (sh : g_Sh) : Nat → Option g_Op := (g_node 12 (g_node 5 (g_node 1 (g_leaf 0 (o_aload 0 1)) (g_node 4 (g_leaf 1 (o_getf sh 10 8 4)) (g_leaf 4 (o_aload 0 5)))) (g_node 8 (g_leaf 5 (o_getf sh 10 7 8)) (g_node 11 (g_leaf 8 (o_ic_lt 15 11)) (g_leaf 11 (o_push (.int (-1)) 12))))) (g_node 19 (g_node 15 (g_leaf 12 (o_goto 24)) (g_node 16 (g_leaf 15 (o_aload 0 16)) (g_leaf 16 (o_getf sh 10 5 19)))) (g_node 23 (g_node 20 (g_leaf 19 (o_aload 0 20)) (g_leaf 20 (o_getf sh 10 8 23))) (g_node 24 (g_leaf 23 (o_iald sh g_xi 24)) (g_leaf 24 (o_iret))))))
def t_X10_isDigit (sh : g_Sh) : Nat → Option g_Op := (g_node 13 (g_node 6 (g_node 1 (g_leaf 0 (o_aload 0 1)) (g_node 4 (g_leaf 1 (o_callV sh 10 128 1 4)) (g_leaf 4 (o_push (.int 48) 6)))) (g_node 9 (g_leaf 6 (o_ic_lt 22 9)) (g_node 10 (g_leaf 9 (o_aload 0 10)) (g_leaf 10 (o_callV sh 10 128 1 13))))) (g_node 19 (g_node 15 (g_leaf 13 (o_push (.int 57) 15)) (g_node 18 (g_leaf 15 (o_ic_gt 22 18)) (g_leaf 18 (o_push (.int 1) 19)))) (g_node 22 (g_leaf 19 (o_goto 23)) (g_node 23 (g_leaf 22 (o_push (.int 0) 23)) (g_leaf 23 (o_nret .boolean))))))
def t_X10_takes (sh : g_Sh) : Nat → Option g_Op := (g_node 11 (g_node 5 (g_node 1 (g_leaf 0 (o_aload 0 1)) (g_node 4 (g_leaf 1 (o_callV sh 10 128 1 4)) (g_leaf 4 (o_iload 1 5)))) (g_node 9 (g_node 8 (g_leaf 5 (o_ic_eq 10 8)) (g_leaf 8 (o_push (.int 0) 9))) (g_node 10 (g_leaf 9 (o_nret .boolean)) (g_leaf 10 (o_aload 0 11))))) (g_node 16 (g_node 12 (g_leaf 11 (o_dup 12)) (g_node 15 (g_leaf 12 (o_getf sh 10 8 15)) (g_leaf 15 (o_push (.int 1) 16)))) (g_node 20 (g_node 17 (g_leaf 16 (o_iadd 17)) (g_leaf 17 (o_putf sh 10 8 20))) (g_node 21 (g_leaf 20 (o_push (.int 1) 21)) (g_leaf 21 (o_nret .boolean))))))
def t_X10_readsNumber (sh : g_Sh) : Nat → Option g_Op := (g_node 36 (g_node 16 (g_node 7 (g_node 4 (g_node 1 (g_leaf 0 (o_aload 0 1)) (g_leaf 1 (o_getf sh 10 6 4))) (g_node 5 (g_leaf 4 (o_iload 1 5)) (g_node 6 (g_leaf 5 (o_push (.int 0) 6)) (g_leaf 6 (o_iast sh 7))))) (g_node 10 (g_node 8 (g_leaf 7 (o_push (.int 0) 8)) (g_leaf 8 (o_istore 4 10))) (g_node 12 (g_leaf 10 (o_iload 4 12)) (g_node 13 (g_leaf 12 (o_iload 3 13)) (g_leaf 13 (o_ic_ge 62 16)))))) (g_node 27 (g_node 20 (g_node 17 (g_leaf 16 (o_aload 0 17)) (g_leaf 17 (o_callV sh 10 129 1 20))) (g_node 23 (g_leaf 20 (o_if_eq 62 23)) (g_node 24 (g_leaf 23 (o_aload 0 24)) (g_leaf 24 (o_getf sh 10 6 27))))) (g_node 31 (g_node 28 (g_leaf 27 (o_iload 1 28)) (g_node 30 (g_leaf 28 (o_push (.int 10) 30)) (g_leaf 30 (o_aload 0 31)))) (g_node 34 (g_leaf 31 (o_getf sh 10 6 34)) (g_node 35 (g_leaf 34 (o_iload 1 35)) (g_leaf 35 (o_iald sh g_xi 36))))))) (g_node 52 (g_node 44 (g_node 38 (g_node 37 (g_leaf 36 (o_imul 37)) (g_leaf 37 (o_aload 0 38))) (g_node 41 (g_leaf 38 (o_callV sh 10 128 1 41)) (g_node 42 (g_leaf 41 (o_iadd 42)) (g_leaf 42 (o_push (.int 48) 44))))) (g_node 47 (g_node 45 (g_leaf 44 (o_isub 45)) (g_node 46 (g_leaf 45 (o_iast sh 46)) (g_leaf 46 (o_aload 0 47)))) (g_node 48 (g_leaf 47 (o_dup 48)) (g_node 51 (g_leaf 48 (o_getf sh 10 8 51)) (g_leaf 51 (o_push (.int 1) 52)))))) (g_node 64 (g_node 56 (g_node 53 (g_leaf 52 (o_iadd 53)) (g_leaf 53 (o_putf sh 10 8 56))) (g_node 59 (g_leaf 56 (o_iinc 4 1 59)) (g_node 62 (g_leaf 59 (o_goto 10)) (g_leaf 62 (o_iload 4 64))))) (g_node 69 (g_node 65 (g_leaf 64 (o_iload 2 65)) (g_node 68 (g_leaf 65 (o_ic_lt 72 68)) (g_leaf 68 (o_push (.int 1) 69)))) (g_node 72 (g_leaf 69 (o_goto 73)) (g_node 73 (g_leaf 72 (o_push (.int 0) 73)) (g_leaf 73 (o_nret .boolean))))))))
def t_X10_kindOf (sh : g_Sh) : Nat → Option g_Op := (g_node 88 (g_node 83 (g_node 80 (g_node 1 (g_leaf 0 (o_iload 0 1)) (g_leaf 1 (o_sw [(100, 95), (101, 98), (102, 98), (103, 86), (104, 92), (105, 98), (106, 98), (107, 82), (108, 98), (109, 88), (110, 90), (111, 98), (112, 80), (113, 98), (114, 98), (115, 84)] 98))) (g_node 81 (g_leaf 80 (o_push (.int 0) 81)) (g_node 82 (g_leaf 81 (o_iret)) (g_leaf 82 (o_push (.int 1) 83))))) (g_node 85 (g_node 84 (g_leaf 83 (o_iret)) (g_leaf 84 (o_push (.int 2) 85))) (g_node 86 (g_leaf 85 (o_iret)) (g_node 87 (g_leaf 86 (o_push (.int 3) 87)) (g_leaf 87 (o_iret)))))) (g_node 94 (g_node 90 (g_node 89 (g_leaf 88 (o_push (.int 4) 89)) (g_leaf 89 (o_iret))) (g_node 91 (g_leaf 90 (o_push (.int 5) 91)) (g_node 92 (g_leaf 91 (o_iret)) (g_leaf 92 (o_push (.int 6) 94))))) (g_node 97 (g_node 95 (g_leaf 94 (o_iret)) (g_leaf 95 (o_push (.int 7) 97))) (g_node 98 (g_leaf 97 (o_iret)) (g_node 100 (g_leaf 98 (o_push (.int (-9)) 100)) (g_leaf 100 (o_iret)))))))
def t_X10_readsStatement (sh : g_Sh) : Nat → Option g_Op := (g_node 149 (g_node 93 (g_node 31 (g_node 14 (g_node 6 (g_node 4 (g_node 1 (g_leaf 0 (o_aload 0 1)) (g_leaf 1 (o_callV sh 10 128 1 4))) (g_node 5 (g_leaf 4 (o_istore 1 5)) (g_leaf 5 (o_iload 1 6)))) (g_node 11 (g_node 8 (g_leaf 6 (o_push (.int 112) 8)) (g_leaf 8 (o_ic_eq 31 11))) (g_node 12 (g_leaf 11 (o_iload 1 12)) (g_leaf 12 (o_push (.int 119) 14))))) (g_node 23 (g_node 18 (g_node 17 (g_leaf 14 (o_ic_eq 31 17)) (g_leaf 17 (o_iload 1 18))) (g_node 20 (g_leaf 18 (o_push (.int 118) 20)) (g_leaf 20 (o_ic_eq 31 23)))) (g_node 26 (g_node 24 (g_leaf 23 (o_iload 1 24)) (g_leaf 24 (o_push (.int 104) 26))) (g_node 29 (g_leaf 26 (o_ic_eq 31 29)) (g_node 30 (g_leaf 29 (o_push (.int 0) 30)) (g_leaf 30 (o_nret .boolean))))))) (g_node 76 (g_node 37 (g_node 33 (g_node 32 (g_leaf 31 (o_aload 0 32)) (g_leaf 32 (o_dup 33))) (g_node 36 (g_leaf 33 (o_getf sh 10 8 36)) (g_leaf 36 (o_push (.int 1) 37)))) (g_node 41 (g_node 38 (g_leaf 37 (o_iadd 38)) (g_leaf 38 (o_putf sh 10 8 41))) (g_node 42 (g_leaf 41 (o_iload 1 42)) (g_leaf 42 (o_sw [(112, 76), (118, 199), (119, 145)] 234))))) (g_node 82 (g_node 80 (g_node 77 (g_leaf 76 (o_aload 0 77)) (g_leaf 77 (o_getf sh 10 6 80))) (g_node 81 (g_leaf 80 (o_push (.int 0) 81)) (g_leaf 81 (o_aload 0 82)))) (g_node 88 (g_node 85 (g_leaf 82 (o_callV sh 10 128 1 85)) (g_leaf 85 (o_callS 132 1 88))) (g_node 89 (g_leaf 88 (o_iast sh 89)) (g_node 90 (g_leaf 89 (o_aload 0 90)) (g_leaf 90 (o_getf sh 10 6 93)))))))) (g_node 120 (g_node 105 (g_node 99 (g_node 95 (g_node 94 (g_leaf 93 (o_push (.int 0) 94)) (g_leaf 94 (o_iald sh g_xi 95))) (g_node 98 (g_leaf 95 (o_if_ge 100 98)) (g_leaf 98 (o_push (.int 0) 99)))) (g_node 101 (g_node 100 (g_leaf 99 (o_nret .boolean)) (g_leaf 100 (o_aload 0 101))) (g_node 102 (g_leaf 101 (o_dup 102)) (g_leaf 102 (o_getf sh 10 8 105))))) (g_node 111 (g_node 107 (g_node 106 (g_leaf 105 (o_push (.int 1) 106)) (g_leaf 106 (o_iadd 107))) (g_node 110 (g_leaf 107 (o_putf sh 10 8 110)) (g_leaf 110 (o_aload 0 111)))) (g_node 113 (g_node 112 (g_leaf 111 (o_push (.int 1) 112)) (g_leaf 112 (o_push (.int 1) 113))) (g_node 114 (g_leaf 113 (o_push (.int 1) 114)) (g_node 117 (g_leaf 114 (o_callV sh 10 131 4 117)) (g_leaf 117 (o_if_eq 143 120))))))) (g_node 136 (g_node 124 (g_node 122 (g_node 121 (g_leaf 120 (o_aload 0 121)) (g_leaf 121 (o_push (.int 2) 122))) (g_node 123 (g_leaf 122 (o_push (.int 2) 123)) (g_leaf 123 (o_push (.int 2) 124)))) (g_node 130 (g_node 127 (g_leaf 124 (o_callV sh 10 131 4 127)) (g_leaf 127 (o_if_eq 143 130))) (g_node 131 (g_leaf 130 (o_aload 0 131)) (g_node 133 (g_leaf 131 (o_push (.int 59) 133)) (g_leaf 133 (o_callV sh 10 130 2 136)))))) (g_node 144 (g_node 140 (g_node 139 (g_leaf 136 (o_if_eq 143 139)) (g_leaf 139 (o_push (.int 1) 140))) (g_node 143 (g_leaf 140 (o_goto 144)) (g_leaf 143 (o_push (.int 0) 144)))) (g_node 146 (g_node 145 (g_leaf 144 (o_nret .boolean)) (g_leaf 145 (o_aload 0 146))) (g_node 147 (g_leaf 146 (o_push (.int 0) 147)) (g_node 148 (g_leaf 147 (o_push (.int 1) 148)) (g_leaf 148 (o_push (.int 1) 149))))))))) (g_node 212 (g_node 181 (g_node 165 (g_node 157 (g_node 155 (g_node 152 (g_leaf 149 (o_callV sh 10 131 4 152)) (g_leaf 152 (o_if_eq 197 155))) (g_node 156 (g_leaf 155 (o_aload 0 156)) (g_leaf 156 (o_push (.int 1) 157)))) (g_node 159 (g_node 158 (g_leaf 157 (o_push (.int 1) 158)) (g_leaf 158 (o_push (.int 1) 159))) (g_node 162 (g_leaf 159 (o_callV sh 10 131 4 162)) (g_leaf 162 (o_if_eq 197 165))))) (g_node 174 (g_node 168 (g_node 166 (g_leaf 165 (o_aload 0 166)) (g_leaf 166 (o_push (.int 44) 168))) (g_node 171 (g_leaf 168 (o_callV sh 10 130 2 171)) (g_leaf 171 (o_if_eq 197 174)))) (g_node 176 (g_node 175 (g_leaf 174 (o_aload 0 175)) (g_leaf 175 (o_push (.int 2) 176))) (g_node 177 (g_leaf 176 (o_push (.int 1) 177)) (g_node 178 (g_leaf 177 (o_push (.int 2) 178)) (g_leaf 178 (o_callV sh 10 131 4 181))))))) (g_node 199 (g_node 190 (g_node 185 (g_node 184 (g_leaf 181 (o_if_eq 197 184)) (g_leaf 184 (o_aload 0 185))) (g_node 187 (g_leaf 185 (o_push (.int 59) 187)) (g_leaf 187 (o_callV sh 10 130 2 190)))) (g_node 194 (g_node 193 (g_leaf 190 (o_if_eq 197 193)) (g_leaf 193 (o_push (.int 1) 194))) (g_node 197 (g_leaf 194 (o_goto 198)) (g_node 198 (g_leaf 197 (o_push (.int 0) 198)) (g_leaf 198 (o_nret .boolean)))))) (g_node 203 (g_node 201 (g_node 200 (g_leaf 199 (o_aload 0 200)) (g_leaf 200 (o_push (.int 0) 201))) (g_node 202 (g_leaf 201 (o_push (.int 1) 202)) (g_leaf 202 (o_push (.int 1) 203)))) (g_node 209 (g_node 206 (g_leaf 203 (o_callV sh 10 131 4 206)) (g_leaf 206 (o_if_eq 232 209))) (g_node 210 (g_leaf 209 (o_aload 0 210)) (g_node 211 (g_leaf 210 (o_push (.int 1) 211)) (g_leaf 211 (o_push (.int 1) 212)))))))) (g_node 244 (g_node 229 (g_node 220 (g_node 216 (g_node 213 (g_leaf 212 (o_push (.int 1) 213)) (g_leaf 213 (o_callV sh 10 131 4 216))) (g_node 219 (g_leaf 216 (o_if_eq 232 219)) (g_leaf 219 (o_aload 0 220)))) (g_node 225 (g_node 222 (g_leaf 220 (o_push (.int 59) 222)) (g_leaf 222 (o_callV sh 10 130 2 225))) (g_node 228 (g_leaf 225 (o_if_eq 232 228)) (g_leaf 228 (o_push (.int 1) 229))))) (g_node 235 (g_node 233 (g_node 232 (g_leaf 229 (o_goto 233)) (g_leaf 232 (o_push (.int 0) 233))) (g_node 234 (g_leaf 233 (o_nret .boolean)) (g_leaf 234 (o_aload 0 235)))) (g_node 237 (g_node 236 (g_leaf 235 (o_push (.int 0) 236)) (g_leaf 236 (o_push (.int 1) 237))) (g_node 238 (g_leaf 237 (o_push (.int 2) 238)) (g_node 241 (g_leaf 238 (o_callV sh 10 131 4 241)) (g_leaf 241 (o_if_eq 276 244))))))) (g_node 260 (g_node 253 (g_node 247 (g_node 245 (g_leaf 244 (o_aload 0 245)) (g_leaf 245 (o_push (.int 44) 247))) (g_node 250 (g_leaf 247 (o_callV sh 10 130 2 250)) (g_leaf 250 (o_if_eq 276 253)))) (g_node 255 (g_node 254 (g_leaf 253 (o_aload 0 254)) (g_leaf 254 (o_push (.int 1) 255))) (g_node 256 (g_leaf 255 (o_push (.int 1) 256)) (g_node 257 (g_leaf 256 (o_push (.int 1) 257)) (g_leaf 257 (o_callV sh 10 131 4 260)))))) (g_node 269 (g_node 264 (g_node 263 (g_leaf 260 (o_if_eq 276 263)) (g_leaf 263 (o_aload 0 264))) (g_node 266 (g_leaf 264 (o_push (.int 59) 266)) (g_leaf 266 (o_callV sh 10 130 2 269)))) (g_node 273 (g_node 272 (g_leaf 269 (o_if_eq 276 272)) (g_leaf 272 (o_push (.int 1) 273))) (g_node 276 (g_leaf 273 (o_goto 277)) (g_node 277 (g_leaf 276 (o_push (.int 0) 277)) (g_leaf 277 (o_nret .boolean))))))))))
def t_X10_isWay (sh : g_Sh) : Nat → Option g_Op := (g_node 26 (g_node 13 (g_node 5 (g_node 2 (g_node 1 (g_leaf 0 (o_push (.int 0) 1)) (g_leaf 1 (o_istore 3 2))) (g_node 3 (g_leaf 2 (o_iload 3 3)) (g_node 4 (g_leaf 3 (o_aload 0 4)) (g_leaf 4 (o_push (.int 1) 5))))) (g_node 9 (g_node 6 (g_leaf 5 (o_iald sh g_xi 6)) (g_leaf 6 (o_ic_ge 63 9))) (g_node 10 (g_leaf 9 (o_aload 0 10)) (g_node 12 (g_leaf 10 (o_push (.int 56) 12)) (g_leaf 12 (o_push (.int 3) 13)))))) (g_node 19 (g_node 15 (g_node 14 (g_leaf 13 (o_iload 3 14)) (g_leaf 14 (o_imul 15))) (g_node 16 (g_leaf 15 (o_iadd 16)) (g_node 17 (g_leaf 16 (o_iald sh g_xi 17)) (g_leaf 17 (o_istore 4 19))))) (g_node 23 (g_node 20 (g_leaf 19 (o_aload 0 20)) (g_node 22 (g_leaf 20 (o_push (.int 56) 22)) (g_leaf 22 (o_push (.int 3) 23)))) (g_node 24 (g_leaf 23 (o_iload 3 24)) (g_node 25 (g_leaf 24 (o_imul 25)) (g_leaf 25 (o_iadd 26))))))) (g_node 45 (g_node 33 (g_node 28 (g_node 27 (g_leaf 26 (o_push (.int 1) 27)) (g_leaf 27 (o_iadd 28))) (g_node 29 (g_leaf 28 (o_iald sh g_xi 29)) (g_node 31 (g_leaf 29 (o_istore 5 31)) (g_leaf 31 (o_iload 4 33))))) (g_node 39 (g_node 34 (g_leaf 33 (o_iload 1 34)) (g_node 37 (g_leaf 34 (o_ic_ne 43 37)) (g_leaf 37 (o_iload 5 39)))) (g_node 40 (g_leaf 39 (o_iload 2 40)) (g_node 43 (g_leaf 40 (o_ic_eq 55 43)) (g_leaf 43 (o_iload 4 45)))))) (g_node 55 (g_node 49 (g_node 46 (g_leaf 45 (o_iload 2 46)) (g_leaf 46 (o_ic_ne 57 49))) (g_node 51 (g_leaf 49 (o_iload 5 51)) (g_node 52 (g_leaf 51 (o_iload 1 52)) (g_leaf 52 (o_ic_ne 57 55))))) (g_node 60 (g_node 56 (g_leaf 55 (o_push (.int 1) 56)) (g_node 57 (g_leaf 56 (o_nret .boolean)) (g_leaf 57 (o_iinc 3 1 60)))) (g_node 63 (g_leaf 60 (o_goto 2)) (g_node 64 (g_leaf 63 (o_push (.int 0) 64)) (g_leaf 64 (o_nret .boolean))))))))
def t_X10_comes (sh : g_Sh) : Nat → Option g_Op := (g_node 233 (g_node 132 (g_node 80 (g_node 21 (g_node 11 (g_node 5 (g_node 1 (g_leaf 0 (o_aload 0 1)) (g_node 4 (g_leaf 1 (o_getf sh 10 6 4)) (g_leaf 4 (o_push (.int 0) 5)))) (g_node 7 (g_node 6 (g_leaf 5 (o_iald sh g_xi 6)) (g_leaf 6 (o_istore 2 7))) (g_node 8 (g_leaf 7 (o_aload 0 8)) (g_leaf 8 (o_getf sh 10 6 11))))) (g_node 15 (g_node 13 (g_node 12 (g_leaf 11 (o_push (.int 1) 12)) (g_leaf 12 (o_iald sh g_xi 13))) (g_node 14 (g_leaf 13 (o_istore 3 14)) (g_leaf 14 (o_iload 2 15)))) (g_node 19 (g_node 16 (g_leaf 15 (o_aload 0 16)) (g_leaf 16 (o_getf sh 10 3 19))) (g_node 20 (g_leaf 19 (o_push (.int 0) 20)) (g_leaf 20 (o_iald sh g_xi 21)))))) (g_node 35 (g_node 29 (g_node 25 (g_node 24 (g_leaf 21 (o_ic_ge 43 24)) (g_leaf 24 (o_iload 3 25))) (g_node 26 (g_leaf 25 (o_aload 0 26)) (g_leaf 26 (o_getf sh 10 3 29)))) (g_node 31 (g_node 30 (g_leaf 29 (o_push (.int 0) 30)) (g_leaf 30 (o_iald sh g_xi 31))) (g_node 34 (g_leaf 31 (o_ic_ge 43 34)) (g_leaf 34 (o_iload 2 35))))) (g_node 43 (g_node 39 (g_node 36 (g_leaf 35 (o_iload 3 36)) (g_leaf 36 (o_ic_eq 43 39))) (g_node 40 (g_leaf 39 (o_push (.int 1) 40)) (g_leaf 40 (o_goto 44)))) (g_node 46 (g_node 44 (g_leaf 43 (o_push (.int 0) 44)) (g_leaf 44 (o_istore 4 46))) (g_node 47 (g_leaf 46 (o_iload 1 47)) (g_leaf 47 (o_sw [(112, 80), (118, 287), (119, 183)] 336))))))) (g_node 106 (g_node 93 (g_node 86 (g_node 84 (g_node 81 (g_leaf 80 (o_aload 0 81)) (g_leaf 81 (o_getf sh 10 3 84))) (g_node 85 (g_leaf 84 (o_push (.int 0) 85)) (g_leaf 85 (o_iald sh g_xi 86)))) (g_node 91 (g_node 88 (g_leaf 86 (o_push (.int 8) 88)) (g_leaf 88 (o_ic_ne 93 91))) (g_node 92 (g_leaf 91 (o_push (.int 0) 92)) (g_leaf 92 (o_nret .boolean))))) (g_node 99 (g_node 97 (g_node 94 (g_leaf 93 (o_aload 0 94)) (g_leaf 94 (o_getf sh 10 3 97))) (g_node 98 (g_leaf 97 (o_push (.int 0) 98)) (g_leaf 98 (o_iald sh g_xi 99)))) (g_node 102 (g_node 101 (g_leaf 99 (o_istore 5 101)) (g_leaf 101 (o_push (.int 0) 102))) (g_node 104 (g_leaf 102 (o_istore 6 104)) (g_leaf 104 (o_iload 6 106)))))) (g_node 120 (g_node 114 (g_node 110 (g_node 107 (g_leaf 106 (o_push (.int 3) 107)) (g_leaf 107 (o_ic_ge 138 110))) (g_node 111 (g_leaf 110 (o_aload 0 111)) (g_leaf 111 (o_getf sh 10 3 114)))) (g_node 117 (g_node 116 (g_leaf 114 (o_push (.int 16) 116)) (g_leaf 116 (o_push (.int 5) 117))) (g_node 119 (g_leaf 117 (o_iload 5 119)) (g_leaf 119 (o_imul 120))))) (g_node 125 (g_node 123 (g_node 121 (g_leaf 120 (o_iadd 121)) (g_leaf 121 (o_iload 6 123))) (g_node 124 (g_leaf 123 (o_iadd 124)) (g_leaf 124 (o_aload 0 125)))) (g_node 130 (g_node 128 (g_leaf 125 (o_getf sh 10 6 128)) (g_leaf 128 (o_iload 6 130))) (g_node 131 (g_leaf 130 (o_iald sh g_xi 131)) (g_leaf 131 (o_iast sh 132)))))))) (g_node 178 (g_node 157 (g_node 147 (g_node 139 (g_node 135 (g_leaf 132 (o_iinc 6 1 135)) (g_node 138 (g_leaf 135 (o_goto 104)) (g_leaf 138 (o_aload 0 139)))) (g_node 144 (g_node 142 (g_leaf 139 (o_getf sh 10 3 142)) (g_leaf 142 (o_push (.int 16) 144))) (g_node 145 (g_leaf 144 (o_push (.int 5) 145)) (g_leaf 145 (o_iload 5 147))))) (g_node 151 (g_node 149 (g_node 148 (g_leaf 147 (o_imul 148)) (g_leaf 148 (o_iadd 149))) (g_node 150 (g_leaf 149 (o_push (.int 3) 150)) (g_leaf 150 (o_iadd 151)))) (g_node 153 (g_node 152 (g_leaf 151 (o_push (.int 0) 152)) (g_leaf 152 (o_iast sh 153))) (g_node 154 (g_leaf 153 (o_aload 0 154)) (g_leaf 154 (o_getf sh 10 3 157)))))) (g_node 167 (g_node 163 (g_node 160 (g_node 159 (g_leaf 157 (o_push (.int 16) 159)) (g_leaf 159 (o_push (.int 5) 160))) (g_node 162 (g_leaf 160 (o_iload 5 162)) (g_leaf 162 (o_imul 163)))) (g_node 165 (g_node 164 (g_leaf 163 (o_iadd 164)) (g_leaf 164 (o_push (.int 4) 165))) (g_node 166 (g_leaf 165 (o_iadd 166)) (g_leaf 166 (o_push (.int 1) 167))))) (g_node 172 (g_node 170 (g_node 169 (g_leaf 167 (o_iload 5 169)) (g_leaf 169 (o_ishl 170))) (g_node 171 (g_leaf 170 (o_iast sh 171)) (g_leaf 171 (o_aload 0 172)))) (g_node 176 (g_node 175 (g_leaf 172 (o_getf sh 10 3 175)) (g_leaf 175 (o_push (.int 0) 176))) (g_node 177 (g_leaf 176 (o_dup2 177)) (g_leaf 177 (o_iald sh g_xi 178))))))) (g_node 203 (g_node 189 (g_node 182 (g_node 180 (g_node 179 (g_leaf 178 (o_push (.int 1) 179)) (g_leaf 179 (o_iadd 180))) (g_node 181 (g_leaf 180 (o_iast sh 181)) (g_leaf 181 (o_push (.int 1) 182)))) (g_node 185 (g_node 183 (g_leaf 182 (o_nret .boolean)) (g_leaf 183 (o_iload 4 185))) (g_node 188 (g_leaf 185 (o_if_eq 232 188)) (g_leaf 188 (o_aload 0 189))))) (g_node 195 (g_node 193 (g_node 192 (g_leaf 189 (o_getf sh 10 6 192)) (g_leaf 192 (o_push (.int 2) 193))) (g_node 194 (g_leaf 193 (o_iald sh g_xi 194)) (g_leaf 194 (o_push (.int 1) 195)))) (g_node 199 (g_node 198 (g_leaf 195 (o_ic_lt 232 198)) (g_leaf 198 (o_aload 0 199))) (g_node 202 (g_leaf 199 (o_getf sh 10 6 202)) (g_leaf 202 (o_push (.int 2) 203)))))) (g_node 218 (g_node 210 (g_node 206 (g_node 204 (g_leaf 203 (o_iald sh g_xi 204)) (g_leaf 204 (o_push (.int 60) 206))) (g_node 209 (g_leaf 206 (o_ic_gt 232 209)) (g_leaf 209 (o_aload 0 210)))) (g_node 214 (g_node 213 (g_leaf 210 (o_getf sh 10 3 213)) (g_leaf 213 (o_iload 2 214))) (g_node 215 (g_leaf 214 (o_iload 3 215)) (g_leaf 215 (o_callS 134 3 218))))) (g_node 226 (g_node 222 (g_node 221 (g_leaf 218 (o_if_ne 232 221)) (g_leaf 221 (o_aload 0 222))) (g_node 225 (g_leaf 222 (o_getf sh 10 3 225)) (g_leaf 225 (o_push (.int 1) 226)))) (g_node 229 (g_node 227 (g_leaf 226 (o_iald sh g_xi 227)) (g_leaf 227 (o_push (.int 14) 229))) (g_node 232 (g_leaf 229 (o_ic_ne 234 232)) (g_leaf 232 (o_push (.int 0) 233))))))))) (g_node 326 (g_node 283 (g_node 257 (g_node 244 (g_node 237 (g_node 234 (g_leaf 233 (o_nret .boolean)) (g_node 235 (g_leaf 234 (o_push (.int 0) 235)) (g_leaf 235 (o_istore 5 237)))) (g_node 240 (g_node 239 (g_leaf 237 (o_iload 5 239)) (g_leaf 239 (o_push (.int 3) 240))) (g_node 243 (g_leaf 240 (o_ic_ge 275 243)) (g_leaf 243 (o_aload 0 244))))) (g_node 251 (g_node 249 (g_node 247 (g_leaf 244 (o_getf sh 10 3 247)) (g_leaf 247 (o_push (.int 56) 249))) (g_node 250 (g_leaf 249 (o_push (.int 3) 250)) (g_leaf 250 (o_aload 0 251)))) (g_node 255 (g_node 254 (g_leaf 251 (o_getf sh 10 3 254)) (g_leaf 254 (o_push (.int 1) 255))) (g_node 256 (g_leaf 255 (o_iald sh g_xi 256)) (g_leaf 256 (o_imul 257)))))) (g_node 269 (g_node 262 (g_node 260 (g_node 258 (g_leaf 257 (o_iadd 258)) (g_leaf 258 (o_iload 5 260))) (g_node 261 (g_leaf 260 (o_iadd 261)) (g_leaf 261 (o_aload 0 262)))) (g_node 267 (g_node 265 (g_leaf 262 (o_getf sh 10 6 265)) (g_leaf 265 (o_iload 5 267))) (g_node 268 (g_leaf 267 (o_iald sh g_xi 268)) (g_leaf 268 (o_iast sh 269))))) (g_node 279 (g_node 275 (g_node 272 (g_leaf 269 (o_iinc 5 1 272)) (g_leaf 272 (o_goto 237))) (g_node 276 (g_leaf 275 (o_aload 0 276)) (g_leaf 276 (o_getf sh 10 3 279)))) (g_node 281 (g_node 280 (g_leaf 279 (o_push (.int 1) 280)) (g_leaf 280 (o_dup2 281))) (g_node 282 (g_leaf 281 (o_iald sh g_xi 282)) (g_leaf 282 (o_push (.int 1) 283))))))) (g_node 305 (g_node 296 (g_node 287 (g_node 285 (g_node 284 (g_leaf 283 (o_iadd 284)) (g_leaf 284 (o_iast sh 285))) (g_node 286 (g_leaf 285 (o_push (.int 1) 286)) (g_leaf 286 (o_nret .boolean)))) (g_node 292 (g_node 289 (g_leaf 287 (o_iload 4 289)) (g_leaf 289 (o_if_eq 313 292))) (g_node 293 (g_leaf 292 (o_aload 0 293)) (g_leaf 293 (o_getf sh 10 3 296))))) (g_node 301 (g_node 299 (g_node 298 (g_leaf 296 (o_push (.int 16) 298)) (g_leaf 298 (o_push (.int 5) 299))) (g_node 300 (g_leaf 299 (o_iload 2 300)) (g_leaf 300 (o_imul 301)))) (g_node 303 (g_node 302 (g_leaf 301 (o_iadd 302)) (g_leaf 302 (o_push (.int 4) 303))) (g_node 304 (g_leaf 303 (o_iadd 304)) (g_leaf 304 (o_iald sh g_xi 305)))))) (g_node 315 (g_node 309 (g_node 307 (g_node 306 (g_leaf 305 (o_iload 3 306)) (g_leaf 306 (o_ishr 307))) (g_node 308 (g_leaf 307 (o_push (.int 1) 308)) (g_leaf 308 (o_iand 309)))) (g_node 313 (g_node 310 (g_leaf 309 (o_push (.int 1) 310)) (g_leaf 310 (o_ic_ne 315 313))) (g_node 314 (g_leaf 313 (o_push (.int 0) 314)) (g_leaf 314 (o_nret .boolean))))) (g_node 322 (g_node 319 (g_node 316 (g_leaf 315 (o_aload 0 316)) (g_leaf 316 (o_getf sh 10 3 319))) (g_node 321 (g_leaf 319 (o_push (.int 16) 321)) (g_leaf 321 (o_push (.int 5) 322)))) (g_node 324 (g_node 323 (g_leaf 322 (o_iload 2 323)) (g_leaf 323 (o_imul 324))) (g_node 325 (g_leaf 324 (o_iadd 325)) (g_leaf 325 (o_push (.int 4) 326)))))))) (g_node 372 (g_node 344 (g_node 333 (g_node 329 (g_node 327 (g_leaf 326 (o_iadd 327)) (g_node 328 (g_leaf 327 (o_dup2 328)) (g_leaf 328 (o_iald sh g_xi 329)))) (g_node 331 (g_node 330 (g_leaf 329 (o_push (.int 1) 330)) (g_leaf 330 (o_iload 3 331))) (g_node 332 (g_leaf 331 (o_ishl 332)) (g_leaf 332 (o_ior 333))))) (g_node 337 (g_node 335 (g_node 334 (g_leaf 333 (o_iast sh 334)) (g_leaf 334 (o_push (.int 1) 335))) (g_node 336 (g_leaf 335 (o_nret .boolean)) (g_leaf 336 (o_iload 2 337)))) (g_node 341 (g_node 338 (g_leaf 337 (o_push (.int 2) 338)) (g_leaf 338 (o_ic_lt 363 341))) (g_node 342 (g_leaf 341 (o_iload 2 342)) (g_leaf 342 (o_push (.int 15) 344)))))) (g_node 358 (g_node 352 (g_node 348 (g_node 347 (g_leaf 344 (o_ic_gt 363 347)) (g_leaf 347 (o_iload 3 348))) (g_node 349 (g_leaf 348 (o_push (.int 1) 349)) (g_leaf 349 (o_ic_lt 363 352)))) (g_node 356 (g_node 353 (g_leaf 352 (o_aload 0 353)) (g_leaf 353 (o_getf sh 10 3 356))) (g_node 357 (g_leaf 356 (o_push (.int 2) 357)) (g_leaf 357 (o_iald sh g_xi 358))))) (g_node 365 (g_node 363 (g_node 360 (g_leaf 358 (o_push (.int 8) 360)) (g_leaf 360 (o_ic_ne 365 363))) (g_node 364 (g_leaf 363 (o_push (.int 0) 364)) (g_leaf 364 (o_nret .boolean)))) (g_node 369 (g_node 366 (g_leaf 365 (o_aload 0 366)) (g_leaf 366 (o_getf sh 10 3 369))) (g_node 371 (g_leaf 369 (o_push (.int 98) 371)) (g_leaf 371 (o_push (.int 2) 372))))))) (g_node 395 (g_node 382 (g_node 378 (g_node 376 (g_node 373 (g_leaf 372 (o_aload 0 373)) (g_leaf 373 (o_getf sh 10 3 376))) (g_node 377 (g_leaf 376 (o_push (.int 2) 377)) (g_leaf 377 (o_iald sh g_xi 378)))) (g_node 380 (g_node 379 (g_leaf 378 (o_imul 379)) (g_leaf 379 (o_iadd 380))) (g_node 381 (g_leaf 380 (o_iload 2 381)) (g_leaf 381 (o_iast sh 382))))) (g_node 389 (g_node 386 (g_node 383 (g_leaf 382 (o_aload 0 383)) (g_leaf 383 (o_getf sh 10 3 386))) (g_node 388 (g_leaf 386 (o_push (.int 98) 388)) (g_leaf 388 (o_push (.int 2) 389)))) (g_node 393 (g_node 390 (g_leaf 389 (o_aload 0 390)) (g_leaf 390 (o_getf sh 10 3 393))) (g_node 394 (g_leaf 393 (o_push (.int 2) 394)) (g_leaf 394 (o_iald sh g_xi 395)))))) (g_node 405 (g_node 399 (g_node 397 (g_node 396 (g_leaf 395 (o_imul 396)) (g_leaf 396 (o_iadd 397))) (g_node 398 (g_leaf 397 (o_push (.int 1) 398)) (g_leaf 398 (o_iadd 399)))) (g_node 401 (g_node 400 (g_leaf 399 (o_iload 3 400)) (g_leaf 400 (o_iast sh 401))) (g_node 402 (g_leaf 401 (o_aload 0 402)) (g_leaf 402 (o_getf sh 10 3 405))))) (g_node 409 (g_node 407 (g_node 406 (g_leaf 405 (o_push (.int 2) 406)) (g_leaf 406 (o_dup2 407))) (g_node 408 (g_leaf 407 (o_iald sh g_xi 408)) (g_leaf 408 (o_push (.int 1) 409)))) (g_node 411 (g_node 410 (g_leaf 409 (o_iadd 410)) (g_leaf 410 (o_iast sh 411))) (g_node 412 (g_leaf 411 (o_push (.int 1) 412)) (g_leaf 412 (o_nret .boolean))))))))))
def t_X10_reads (sh : g_Sh) : Nat → Option g_Op := (g_node 70 (g_node 37 (g_node 17 (g_node 6 (g_node 2 (g_node 1 (g_leaf 0 (o_aload 0 1)) (g_leaf 1 (o_push (.int 0) 2))) (g_node 5 (g_leaf 2 (o_putf sh 10 8 5)) (g_leaf 5 (o_push (.int 0) 6)))) (g_node 8 (g_node 7 (g_leaf 6 (o_istore 1 7)) (g_leaf 7 (o_aload 0 8))) (g_node 11 (g_leaf 8 (o_callV sh 10 133 1 11)) (g_node 14 (g_leaf 11 (o_if_ne 23 14)) (g_leaf 14 (o_push (.int (-1000)) 17)))))) (g_node 26 (g_node 21 (g_node 18 (g_leaf 17 (o_aload 0 18)) (g_leaf 18 (o_getf sh 10 8 21))) (g_node 22 (g_leaf 21 (o_isub 22)) (g_node 23 (g_leaf 22 (o_iret)) (g_leaf 23 (o_iinc 1 1 26))))) (g_node 30 (g_node 27 (g_leaf 26 (o_aload 0 27)) (g_leaf 27 (o_getf sh 10 8 30))) (g_node 31 (g_leaf 30 (o_aload 0 31)) (g_node 34 (g_leaf 31 (o_getf sh 10 7 34)) (g_leaf 34 (o_ic_lt 7 37))))))) (g_node 52 (g_node 43 (g_node 39 (g_node 38 (g_leaf 37 (o_push (.int 0) 38)) (g_leaf 38 (o_istore 2 39))) (g_node 40 (g_leaf 39 (o_iload 2 40)) (g_leaf 40 (o_push (.int 154) 43)))) (g_node 47 (g_node 46 (g_leaf 43 (o_ic_ge 64 46)) (g_leaf 46 (o_aload 0 47))) (g_node 50 (g_leaf 47 (o_getf sh 10 3 50)) (g_node 51 (g_leaf 50 (o_iload 2 51)) (g_leaf 51 (o_aload 0 52)))))) (g_node 61 (g_node 56 (g_node 55 (g_leaf 52 (o_getf sh 10 1 55)) (g_leaf 55 (o_iload 2 56))) (g_node 57 (g_leaf 56 (o_iald sh g_xi 57)) (g_node 58 (g_leaf 57 (o_iast sh 58)) (g_leaf 58 (o_iinc 2 1 61))))) (g_node 65 (g_node 64 (g_leaf 61 (o_goto 39)) (g_leaf 64 (o_aload 0 65))) (g_node 66 (g_leaf 65 (o_push (.int 0) 66)) (g_node 69 (g_leaf 66 (o_putf sh 10 8 69)) (g_leaf 69 (o_aload 0 70)))))))) (g_node 108 (g_node 89 (g_node 80 (g_node 74 (g_node 73 (g_leaf 70 (o_getf sh 10 8 73)) (g_leaf 73 (o_aload 0 74))) (g_node 77 (g_leaf 74 (o_getf sh 10 7 77)) (g_leaf 77 (o_ic_ge 113 80)))) (g_node 84 (g_node 81 (g_leaf 80 (o_aload 0 81)) (g_leaf 81 (o_getf sh 10 8 84))) (g_node 85 (g_leaf 84 (o_istore 2 85)) (g_node 86 (g_leaf 85 (o_aload 0 86)) (g_leaf 86 (o_callV sh 10 128 1 89)))))) (g_node 97 (g_node 91 (g_node 90 (g_leaf 89 (o_istore 3 90)) (g_leaf 90 (o_aload 0 91))) (g_node 94 (g_leaf 91 (o_callV sh 10 133 1 94)) (g_node 96 (g_leaf 94 (o_istore 4 96)) (g_leaf 96 (o_aload 0 97))))) (g_node 101 (g_node 98 (g_leaf 97 (o_iload 3 98)) (g_leaf 98 (o_callV sh 10 135 2 101))) (g_node 104 (g_leaf 101 (o_if_ne 110 104)) (g_node 107 (g_leaf 104 (o_push (.int (-2000)) 107)) (g_leaf 107 (o_iload 2 108))))))) (g_node 126 (g_node 115 (g_node 110 (g_node 109 (g_leaf 108 (o_isub 109)) (g_leaf 109 (o_iret))) (g_node 113 (g_leaf 110 (o_goto 69)) (g_node 114 (g_leaf 113 (o_push (.int 0) 114)) (g_leaf 114 (o_istore 2 115))))) (g_node 119 (g_node 116 (g_leaf 115 (o_iload 2 116)) (g_leaf 116 (o_push (.int 154) 119))) (g_node 122 (g_leaf 119 (o_ic_ge 140 122)) (g_node 123 (g_leaf 122 (o_aload 0 123)) (g_leaf 123 (o_getf sh 10 1 126)))))) (g_node 133 (g_node 128 (g_node 127 (g_leaf 126 (o_iload 2 127)) (g_leaf 127 (o_aload 0 128))) (g_node 131 (g_leaf 128 (o_getf sh 10 3 131)) (g_node 132 (g_leaf 131 (o_iload 2 132)) (g_leaf 132 (o_iald sh g_xi 133))))) (g_node 137 (g_node 134 (g_leaf 133 (o_iast sh 134)) (g_leaf 134 (o_iinc 2 1 137))) (g_node 140 (g_leaf 137 (o_goto 115)) (g_node 141 (g_leaf 140 (o_iload 1 141)) (g_leaf 141 (o_iret)))))))))
def t_X10_garden (sh : g_Sh) : Nat → Option g_Op := (g_node 6 (g_node 4 (g_node 1 (g_leaf 0 (o_aload 0 1)) (g_leaf 1 (o_callV sh 10 136 1 4))) (g_node 5 (g_leaf 4 (o_istore 1 5)) (g_leaf 5 (o_aload 0 6)))) (g_node 10 (g_node 7 (g_leaf 6 (o_push (.int 0) 7)) (g_leaf 7 (o_putf sh 10 7 10))) (g_node 11 (g_leaf 10 (o_iload 1 11)) (g_leaf 11 (o_iret)))))
def t_X10_findFar (sh : g_Sh) : Nat → Option g_Op := (g_node 132 (g_node 73 (g_node 35 (g_node 17 (g_node 8 (g_node 2 (g_node 1 (g_leaf 0 (o_push (.int 0) 1)) (g_leaf 1 (o_istore 1 2))) (g_node 3 (g_leaf 2 (o_iload 1 3)) (g_node 5 (g_leaf 3 (o_push (.int 8) 5)) (g_leaf 5 (o_ic_ge 50 8))))) (g_node 11 (g_node 9 (g_leaf 8 (o_push (.int 0) 9)) (g_node 10 (g_leaf 9 (o_istore 2 10)) (g_leaf 10 (o_iload 2 11)))) (g_node 13 (g_leaf 11 (o_push (.int 8) 13)) (g_node 16 (g_leaf 13 (o_ic_ge 44 16)) (g_leaf 16 (o_aload 0 17)))))) (g_node 25 (g_node 22 (g_node 20 (g_leaf 17 (o_getf sh 10 10 20)) (g_leaf 20 (o_push (.int 8) 22))) (g_node 23 (g_leaf 22 (o_iload 1 23)) (g_node 24 (g_leaf 23 (o_imul 24)) (g_leaf 24 (o_iload 2 25))))) (g_node 28 (g_node 26 (g_leaf 25 (o_iadd 26)) (g_node 27 (g_leaf 26 (o_iload 1 27)) (g_leaf 27 (o_iload 2 28)))) (g_node 31 (g_leaf 28 (o_ic_ne 35 31)) (g_node 32 (g_leaf 31 (o_push (.int 0) 32)) (g_leaf 32 (o_goto 37))))))) (g_node 57 (g_node 47 (g_node 38 (g_node 37 (g_leaf 35 (o_push (.int 100000) 37)) (g_leaf 37 (o_iast sh 38))) (g_node 41 (g_leaf 38 (o_iinc 2 1 41)) (g_node 44 (g_leaf 41 (o_goto 10)) (g_leaf 44 (o_iinc 1 1 47))))) (g_node 52 (g_node 50 (g_leaf 47 (o_goto 2)) (g_node 51 (g_leaf 50 (o_push (.int 0) 51)) (g_leaf 51 (o_istore 1 52)))) (g_node 53 (g_leaf 52 (o_iload 1 53)) (g_node 54 (g_leaf 53 (o_aload 0 54)) (g_leaf 54 (o_getf sh 10 1 57)))))) (g_node 66 (g_node 59 (g_node 58 (g_leaf 57 (o_push (.int 1) 58)) (g_leaf 58 (o_iald sh g_xi 59))) (g_node 62 (g_leaf 59 (o_ic_ge 142 62)) (g_node 63 (g_leaf 62 (o_aload 0 63)) (g_leaf 63 (o_getf sh 10 1 66))))) (g_node 70 (g_node 68 (g_leaf 66 (o_push (.int 56) 68)) (g_node 69 (g_leaf 68 (o_push (.int 3) 69)) (g_leaf 69 (o_iload 1 70)))) (g_node 71 (g_leaf 70 (o_imul 71)) (g_node 72 (g_leaf 71 (o_iadd 72)) (g_leaf 72 (o_iald sh g_xi 73)))))))) (g_node 104 (g_node 87 (g_node 81 (g_node 75 (g_node 74 (g_leaf 73 (o_istore 2 74)) (g_leaf 74 (o_aload 0 75))) (g_node 78 (g_leaf 75 (o_getf sh 10 1 78)) (g_node 80 (g_leaf 78 (o_push (.int 56) 80)) (g_leaf 80 (o_push (.int 3) 81))))) (g_node 84 (g_node 82 (g_leaf 81 (o_iload 1 82)) (g_node 83 (g_leaf 82 (o_imul 83)) (g_leaf 83 (o_iadd 84)))) (g_node 85 (g_leaf 84 (o_push (.int 1) 85)) (g_node 86 (g_leaf 85 (o_iadd 86)) (g_leaf 86 (o_iald sh g_xi 87)))))) (g_node 95 (g_node 89 (g_node 88 (g_leaf 87 (o_istore 3 88)) (g_leaf 88 (o_aload 0 89))) (g_node 92 (g_leaf 89 (o_getf sh 10 10 92)) (g_node 94 (g_leaf 92 (o_push (.int 8) 94)) (g_leaf 94 (o_iload 2 95))))) (g_node 98 (g_node 96 (g_leaf 95 (o_imul 96)) (g_node 97 (g_leaf 96 (o_iload 3 97)) (g_leaf 97 (o_iadd 98)))) (g_node 99 (g_leaf 98 (o_aload 0 99)) (g_node 102 (g_leaf 99 (o_getf sh 10 1 102)) (g_leaf 102 (o_push (.int 56) 104))))))) (g_node 118 (g_node 109 (g_node 106 (g_node 105 (g_leaf 104 (o_push (.int 3) 105)) (g_leaf 105 (o_iload 1 106))) (g_node 107 (g_leaf 106 (o_imul 107)) (g_node 108 (g_leaf 107 (o_iadd 108)) (g_leaf 108 (o_push (.int 2) 109))))) (g_node 112 (g_node 110 (g_leaf 109 (o_iadd 110)) (g_node 111 (g_leaf 110 (o_iald sh g_xi 111)) (g_leaf 111 (o_iast sh 112)))) (g_node 113 (g_leaf 112 (o_aload 0 113)) (g_node 116 (g_leaf 113 (o_getf sh 10 10 116)) (g_leaf 116 (o_push (.int 8) 118)))))) (g_node 123 (g_node 120 (g_node 119 (g_leaf 118 (o_iload 3 119)) (g_leaf 119 (o_imul 120))) (g_node 121 (g_leaf 120 (o_iload 2 121)) (g_node 122 (g_leaf 121 (o_iadd 122)) (g_leaf 122 (o_aload 0 123))))) (g_node 129 (g_node 126 (g_leaf 123 (o_getf sh 10 1 126)) (g_node 128 (g_leaf 126 (o_push (.int 56) 128)) (g_leaf 128 (o_push (.int 3) 129)))) (g_node 130 (g_leaf 129 (o_iload 1 130)) (g_node 131 (g_leaf 130 (o_imul 131)) (g_leaf 131 (o_iadd 132))))))))) (g_node 203 (g_node 169 (g_node 150 (g_node 139 (g_node 134 (g_node 133 (g_leaf 132 (o_push (.int 2) 133)) (g_leaf 133 (o_iadd 134))) (g_node 135 (g_leaf 134 (o_iald sh g_xi 135)) (g_node 136 (g_leaf 135 (o_iast sh 136)) (g_leaf 136 (o_iinc 1 1 139))))) (g_node 144 (g_node 142 (g_leaf 139 (o_goto 52)) (g_node 143 (g_leaf 142 (o_push (.int 0) 143)) (g_leaf 143 (o_istore 1 144)))) (g_node 145 (g_leaf 144 (o_iload 1 145)) (g_node 147 (g_leaf 145 (o_push (.int 64) 147)) (g_leaf 147 (o_ic_ge 168 150)))))) (g_node 159 (g_node 154 (g_node 151 (g_leaf 150 (o_aload 0 151)) (g_leaf 151 (o_getf sh 10 9 154))) (g_node 155 (g_leaf 154 (o_iload 1 155)) (g_node 156 (g_leaf 155 (o_aload 0 156)) (g_leaf 156 (o_getf sh 10 10 159))))) (g_node 162 (g_node 160 (g_leaf 159 (o_iload 1 160)) (g_node 161 (g_leaf 160 (o_iald sh g_xi 161)) (g_leaf 161 (o_iast sh 162)))) (g_node 165 (g_leaf 162 (o_iinc 1 1 165)) (g_node 168 (g_leaf 165 (o_goto 144)) (g_leaf 168 (o_push (.int 0) 169))))))) (g_node 186 (g_node 177 (g_node 171 (g_node 170 (g_leaf 169 (o_istore 1 170)) (g_leaf 170 (o_iload 1 171))) (g_node 173 (g_leaf 171 (o_push (.int 8) 173)) (g_node 176 (g_leaf 173 (o_ic_ge 278 176)) (g_leaf 176 (o_push (.int 0) 177))))) (g_node 181 (g_node 178 (g_leaf 177 (o_istore 2 178)) (g_node 179 (g_leaf 178 (o_iload 2 179)) (g_leaf 179 (o_push (.int 8) 181)))) (g_node 184 (g_leaf 181 (o_ic_ge 272 184)) (g_node 185 (g_leaf 184 (o_push (.int 0) 185)) (g_leaf 185 (o_istore 3 186)))))) (g_node 196 (g_node 189 (g_node 187 (g_leaf 186 (o_iload 3 187)) (g_leaf 187 (o_push (.int 8) 189))) (g_node 192 (g_leaf 189 (o_ic_ge 266 192)) (g_node 193 (g_leaf 192 (o_aload 0 193)) (g_leaf 193 (o_getf sh 10 9 196))))) (g_node 200 (g_node 198 (g_leaf 196 (o_push (.int 8) 198)) (g_node 199 (g_leaf 198 (o_iload 2 199)) (g_leaf 199 (o_imul 200)))) (g_node 201 (g_leaf 200 (o_iload 1 201)) (g_node 202 (g_leaf 201 (o_iadd 202)) (g_leaf 202 (o_iald sh g_xi 203)))))))) (g_node 236 (g_node 218 (g_node 211 (g_node 207 (g_node 204 (g_leaf 203 (o_aload 0 204)) (g_leaf 204 (o_getf sh 10 9 207))) (g_node 209 (g_leaf 207 (o_push (.int 8) 209)) (g_node 210 (g_leaf 209 (o_iload 1 210)) (g_leaf 210 (o_imul 211))))) (g_node 214 (g_node 212 (g_leaf 211 (o_iload 3 212)) (g_node 213 (g_leaf 212 (o_iadd 213)) (g_leaf 213 (o_iald sh g_xi 214)))) (g_node 215 (g_leaf 214 (o_iadd 215)) (g_node 217 (g_leaf 215 (o_istore 4 217)) (g_leaf 217 (o_aload 0 218)))))) (g_node 226 (g_node 223 (g_node 221 (g_leaf 218 (o_getf sh 10 9 221)) (g_leaf 221 (o_push (.int 8) 223))) (g_node 224 (g_leaf 223 (o_iload 2 224)) (g_node 225 (g_leaf 224 (o_imul 225)) (g_leaf 225 (o_iload 3 226))))) (g_node 230 (g_node 227 (g_leaf 226 (o_iadd 227)) (g_node 229 (g_leaf 227 (o_iload 4 229)) (g_leaf 229 (o_aload 0 230)))) (g_node 233 (g_leaf 230 (o_getf sh 10 9 233)) (g_node 235 (g_leaf 233 (o_push (.int 8) 235)) (g_leaf 235 (o_iload 2 236))))))) (g_node 255 (g_node 243 (g_node 238 (g_node 237 (g_leaf 236 (o_imul 237)) (g_leaf 237 (o_iload 3 238))) (g_node 239 (g_leaf 238 (o_iadd 239)) (g_node 240 (g_leaf 239 (o_iald sh g_xi 240)) (g_leaf 240 (o_ic_ge 248 243))))) (g_node 249 (g_node 245 (g_leaf 243 (o_iload 4 245)) (g_node 248 (g_leaf 245 (o_goto 259)) (g_leaf 248 (o_aload 0 249)))) (g_node 252 (g_leaf 249 (o_getf sh 10 9 252)) (g_node 254 (g_leaf 252 (o_push (.int 8) 254)) (g_leaf 254 (o_iload 2 255)))))) (g_node 263 (g_node 258 (g_node 256 (g_leaf 255 (o_imul 256)) (g_node 257 (g_leaf 256 (o_iload 3 257)) (g_leaf 257 (o_iadd 258)))) (g_node 259 (g_leaf 258 (o_iald sh g_xi 259)) (g_node 260 (g_leaf 259 (o_iast sh 260)) (g_leaf 260 (o_iinc 3 1 263))))) (g_node 272 (g_node 266 (g_leaf 263 (o_goto 186)) (g_node 269 (g_leaf 266 (o_iinc 2 1 269)) (g_leaf 269 (o_goto 178)))) (g_node 275 (g_leaf 272 (o_iinc 1 1 275)) (g_node 278 (g_leaf 275 (o_goto 170)) (g_leaf 278 (o_vret))))))))))
def t_X10_farOf (sh : g_Sh) : Nat → Option g_Op := (g_node 7 (g_node 4 (g_node 1 (g_leaf 0 (o_aload 0 1)) (g_leaf 1 (o_getf sh 10 9 4))) (g_node 6 (g_leaf 4 (o_push (.int 8) 6)) (g_leaf 6 (o_iload 1 7)))) (g_node 9 (g_node 8 (g_leaf 7 (o_imul 8)) (g_leaf 8 (o_iload 2 9))) (g_node 10 (g_leaf 9 (o_iadd 10)) (g_node 11 (g_leaf 10 (o_iald sh g_xi 11)) (g_leaf 11 (o_iret))))))
def t_X10_isFar (sh : g_Sh) : Nat → Option g_Op := (g_node 8 (g_node 2 (g_node 1 (g_leaf 0 (o_aload 0 1)) (g_leaf 1 (o_iload 1 2))) (g_node 3 (g_leaf 2 (o_iload 2 3)) (g_node 6 (g_leaf 3 (o_callV sh 10 139 3 6)) (g_leaf 6 (o_push (.int 100000) 8))))) (g_node 12 (g_node 11 (g_leaf 8 (o_ic_ge 15 11)) (g_leaf 11 (o_push (.int 1) 12))) (g_node 15 (g_leaf 12 (o_goto 16)) (g_node 16 (g_leaf 15 (o_push (.int 0) 16)) (g_leaf 16 (o_nret .boolean))))))
def t_X10_place (sh : g_Sh) : Nat → Option g_Op := (g_node 18 (g_node 9 (g_node 2 (g_node 1 (g_leaf 0 (o_aload 0 1)) (g_leaf 1 (o_iload 1 2))) (g_node 5 (g_leaf 2 (o_callV sh 10 122 2 5)) (g_node 8 (g_leaf 5 (o_if_ne 16 8)) (g_leaf 8 (o_aload 0 9))))) (g_node 13 (g_node 10 (g_leaf 9 (o_push (.int (-1)) 10)) (g_leaf 10 (o_callV sh 10 119 2 13))) (g_node 16 (g_leaf 13 (o_goto 39)) (g_node 17 (g_leaf 16 (o_iload 2 17)) (g_leaf 17 (o_push (.int 4) 18)))))) (g_node 27 (g_node 24 (g_node 21 (g_leaf 18 (o_callS 120 2 21)) (g_leaf 21 (o_if_eq 33 24))) (g_node 25 (g_leaf 24 (o_aload 0 25)) (g_node 26 (g_leaf 25 (o_iload 1 26)) (g_leaf 26 (o_iload 2 27))))) (g_node 34 (g_node 30 (g_leaf 27 (o_callV sh 10 125 3 30)) (g_node 33 (g_leaf 30 (o_goto 39)) (g_leaf 33 (o_aload 0 34)))) (g_node 36 (g_leaf 34 (o_push (.int (-2)) 36)) (g_node 39 (g_leaf 36 (o_callV sh 10 119 2 39)) (g_leaf 39 (o_iret)))))))
def t_X10_seesOne (sh : g_Sh) : Nat → Option g_Op := (g_node 9 (g_node 3 (g_node 1 (g_leaf 0 (o_aload 0 1)) (g_node 2 (g_leaf 1 (o_iload 1 2)) (g_leaf 2 (o_push (.int 4) 3)))) (g_node 7 (g_node 6 (g_leaf 3 (o_callV sh 10 125 3 6)) (g_leaf 6 (o_iload 2 7))) (g_node 8 (g_leaf 7 (o_ishr 8)) (g_leaf 8 (o_push (.int 1) 9))))) (g_node 14 (g_node 10 (g_leaf 9 (o_iand 10)) (g_node 11 (g_leaf 10 (o_push (.int 1) 11)) (g_leaf 11 (o_ic_ne 18 14)))) (g_node 18 (g_node 15 (g_leaf 14 (o_push (.int 1) 15)) (g_leaf 15 (o_goto 19))) (g_node 19 (g_leaf 18 (o_push (.int 0) 19)) (g_leaf 19 (o_nret .boolean))))))
def t_X10_sees (sh : g_Sh) : Nat → Option g_Op := (g_node 18 (g_node 9 (g_node 2 (g_node 1 (g_leaf 0 (o_aload 0 1)) (g_leaf 1 (o_iload 1 2))) (g_node 5 (g_leaf 2 (o_callV sh 10 122 2 5)) (g_node 8 (g_leaf 5 (o_if_eq 16 8)) (g_leaf 8 (o_aload 0 9))))) (g_node 13 (g_node 10 (g_leaf 9 (o_iload 2 10)) (g_leaf 10 (o_callV sh 10 122 2 13))) (g_node 16 (g_leaf 13 (o_if_ne 24 16)) (g_node 17 (g_leaf 16 (o_aload 0 17)) (g_leaf 17 (o_push (.int (-1)) 18)))))) (g_node 27 (g_node 24 (g_node 21 (g_leaf 18 (o_callV sh 10 119 2 21)) (g_leaf 21 (o_goto 38))) (g_node 25 (g_leaf 24 (o_aload 0 25)) (g_node 26 (g_leaf 25 (o_iload 1 26)) (g_leaf 26 (o_iload 2 27))))) (g_node 34 (g_node 30 (g_leaf 27 (o_callV sh 10 142 3 30)) (g_node 33 (g_leaf 30 (o_if_eq 37 33)) (g_leaf 33 (o_push (.int 1) 34)))) (g_node 37 (g_leaf 34 (o_goto 38)) (g_node 38 (g_leaf 37 (o_push (.int 0) 38)) (g_leaf 38 (o_iret)))))))
def t_X10_far (sh : g_Sh) : Nat → Option g_Op := (g_node 23 (g_node 10 (g_node 5 (g_node 1 (g_leaf 0 (o_aload 0 1)) (g_node 2 (g_leaf 1 (o_iload 1 2)) (g_leaf 2 (o_callV sh 10 122 2 5)))) (g_node 8 (g_leaf 5 (o_if_eq 16 8)) (g_node 9 (g_leaf 8 (o_aload 0 9)) (g_leaf 9 (o_iload 2 10))))) (g_node 17 (g_node 13 (g_leaf 10 (o_callV sh 10 122 2 13)) (g_node 16 (g_leaf 13 (o_if_ne 22 16)) (g_leaf 16 (o_aload 0 17)))) (g_node 21 (g_node 18 (g_leaf 17 (o_push (.int (-1)) 18)) (g_leaf 18 (o_callV sh 10 119 2 21))) (g_node 22 (g_leaf 21 (o_iret)) (g_leaf 22 (o_aload 0 23)))))) (g_node 35 (g_node 28 (g_node 26 (g_leaf 23 (o_callVv sh 10 138 1 26)) (g_node 27 (g_leaf 26 (o_aload 0 27)) (g_leaf 27 (o_iload 1 28)))) (g_node 29 (g_leaf 28 (o_iload 2 29)) (g_node 32 (g_leaf 29 (o_callV sh 10 140 3 32)) (g_leaf 32 (o_if_eq 44 35))))) (g_node 38 (g_node 36 (g_leaf 35 (o_aload 0 36)) (g_node 37 (g_leaf 36 (o_iload 1 37)) (g_leaf 37 (o_iload 2 38)))) (g_node 44 (g_node 41 (g_leaf 38 (o_callV sh 10 139 3 41)) (g_leaf 41 (o_goto 46))) (g_node 46 (g_leaf 44 (o_push (.int (-9)) 46)) (g_leaf 46 (o_iret)))))))
def t_X10_ageOf (sh : g_Sh) : Nat → Option g_Op := (g_node 7 (g_node 4 (g_node 1 (g_leaf 0 (o_aload 0 1)) (g_leaf 1 (o_getf sh 10 1 4))) (g_node 6 (g_leaf 4 (o_push (.int 98) 6)) (g_leaf 6 (o_push (.int 2) 7)))) (g_node 9 (g_node 8 (g_leaf 7 (o_iload 1 8)) (g_leaf 8 (o_imul 9))) (g_node 10 (g_leaf 9 (o_iadd 10)) (g_node 11 (g_leaf 10 (o_iald sh g_xi 11)) (g_leaf 11 (o_iret))))))
def t_X10_paceOf (sh : g_Sh) : Nat → Option g_Op := (g_node 8 (g_node 4 (g_node 1 (g_leaf 0 (o_aload 0 1)) (g_leaf 1 (o_getf sh 10 1 4))) (g_node 6 (g_leaf 4 (o_push (.int 98) 6)) (g_node 7 (g_leaf 6 (o_push (.int 2) 7)) (g_leaf 7 (o_iload 1 8))))) (g_node 11 (g_node 9 (g_leaf 8 (o_imul 9)) (g_node 10 (g_leaf 9 (o_iadd 10)) (g_leaf 10 (o_push (.int 1) 11)))) (g_node 12 (g_leaf 11 (o_iadd 12)) (g_node 13 (g_leaf 12 (o_iald sh g_xi 13)) (g_leaf 13 (o_iret))))))
def t_X10_hider (sh : g_Sh) : Nat → Option g_Op := (g_node 25 (g_node 10 (g_node 5 (g_node 1 (g_leaf 0 (o_aload 0 1)) (g_node 2 (g_leaf 1 (o_iload 1 2)) (g_leaf 2 (o_callV sh 10 124 2 5)))) (g_node 8 (g_leaf 5 (o_if_ne 16 8)) (g_node 9 (g_leaf 8 (o_aload 0 9)) (g_leaf 9 (o_push (.int (-1)) 10))))) (g_node 17 (g_node 13 (g_leaf 10 (o_callV sh 10 119 2 13)) (g_node 16 (g_leaf 13 (o_goto 46)) (g_leaf 16 (o_iload 2 17)))) (g_node 21 (g_node 18 (g_leaf 17 (o_push (.int 2) 18)) (g_leaf 18 (o_callS 120 2 21))) (g_node 24 (g_leaf 21 (o_if_eq 40 24)) (g_leaf 24 (o_aload 0 25)))))) (g_node 35 (g_node 31 (g_node 28 (g_leaf 25 (o_getf sh 10 1 28)) (g_node 30 (g_leaf 28 (o_push (.int 98) 30)) (g_leaf 30 (o_push (.int 2) 31)))) (g_node 33 (g_node 32 (g_leaf 31 (o_iload 1 32)) (g_leaf 32 (o_imul 33))) (g_node 34 (g_leaf 33 (o_iadd 34)) (g_leaf 34 (o_iload 2 35))))) (g_node 40 (g_node 36 (g_leaf 35 (o_iadd 36)) (g_node 37 (g_leaf 36 (o_iald sh g_xi 37)) (g_leaf 37 (o_goto 46)))) (g_node 43 (g_node 41 (g_leaf 40 (o_aload 0 41)) (g_leaf 41 (o_push (.int (-2)) 43))) (g_node 46 (g_leaf 43 (o_callV sh 10 119 2 46)) (g_leaf 46 (o_iret)))))))
def t_X10_becomes (sh : g_Sh) : Nat → Option g_Op := (g_node 8 (g_node 5 (g_node 1 (g_leaf 0 (o_aload 0 1)) (g_node 4 (g_leaf 1 (o_getf sh 10 1 4)) (g_leaf 4 (o_iload 1 5)))) (g_node 6 (g_leaf 5 (o_iald sh g_xi 6)) (g_node 7 (g_leaf 6 (o_istore 3 7)) (g_leaf 7 (o_aload 0 8))))) (g_node 13 (g_node 11 (g_leaf 8 (o_getf sh 10 1 11)) (g_node 12 (g_leaf 11 (o_iload 1 12)) (g_leaf 12 (o_iload 2 13)))) (g_node 14 (g_leaf 13 (o_iast sh 14)) (g_node 15 (g_leaf 14 (o_iload 3 15)) (g_leaf 15 (o_iret))))))
def t_X10_times (sh : g_Sh) : Nat → Option g_Op := (g_node 25 (g_node 12 (g_node 5 (g_node 1 (g_leaf 0 (o_aload 0 1)) (g_node 2 (g_leaf 1 (o_iload 1 2)) (g_leaf 2 (o_callV sh 10 123 2 5)))) (g_node 9 (g_node 8 (g_leaf 5 (o_if_eq 18 8)) (g_leaf 8 (o_iload 2 9))) (g_node 10 (g_leaf 9 (o_push (.int 0) 10)) (g_leaf 10 (o_push (.int 99) 12))))) (g_node 19 (g_node 15 (g_leaf 12 (o_callS 121 3 15)) (g_node 18 (g_leaf 15 (o_goto 19)) (g_leaf 18 (o_push (.int (-1)) 19)))) (g_node 21 (g_node 20 (g_leaf 19 (o_istore 3 20)) (g_leaf 20 (o_iload 3 21))) (g_node 24 (g_leaf 21 (o_if_eq 32 24)) (g_leaf 24 (o_aload 0 25)))))) (g_node 37 (g_node 32 (g_node 26 (g_leaf 25 (o_iload 3 26)) (g_node 29 (g_leaf 26 (o_callV sh 10 119 2 29)) (g_leaf 29 (o_goto 45)))) (g_node 35 (g_node 33 (g_leaf 32 (o_aload 0 33)) (g_leaf 33 (o_push (.int 16) 35))) (g_node 36 (g_leaf 35 (o_push (.int 5) 36)) (g_leaf 36 (o_iload 1 37))))) (g_node 40 (g_node 38 (g_leaf 37 (o_imul 38)) (g_node 39 (g_leaf 38 (o_iadd 39)) (g_leaf 39 (o_push (.int 3) 40)))) (g_node 42 (g_node 41 (g_leaf 40 (o_iadd 41)) (g_leaf 41 (o_iload 2 42))) (g_node 45 (g_leaf 42 (o_callV sh 10 148 3 45)) (g_leaf 45 (o_iret)))))))
def t_X10_least (sh : g_Sh) : Nat → Option g_Op := (g_node 9 (g_node 4 (g_node 1 (g_leaf 0 (o_iload 0 1)) (g_leaf 1 (o_if_ne 8 4))) (g_node 5 (g_leaf 4 (o_push (.int 1) 5)) (g_node 8 (g_leaf 5 (o_goto 19)) (g_leaf 8 (o_iload 0 9))))) (g_node 15 (g_node 10 (g_leaf 9 (o_push (.int 5) 10)) (g_node 13 (g_leaf 10 (o_ic_ne 18 13)) (g_leaf 13 (o_push (.int 10) 15)))) (g_node 18 (g_leaf 15 (o_goto 19)) (g_node 19 (g_leaf 18 (o_push (.int 0) 19)) (g_leaf 19 (o_iret))))))
def t_X10_most (sh : g_Sh) : Nat → Option g_Op := (g_node 49 (g_node 43 (g_node 40 (g_node 1 (g_leaf 0 (o_iload 0 1)) (g_leaf 1 (o_sw [(0, 40), (1, 43), (2, 46), (3, 49), (4, 51), (5, 53)] 57))) (g_node 42 (g_leaf 40 (o_push (.int 99) 42)) (g_leaf 42 (o_iret)))) (g_node 46 (g_node 45 (g_leaf 43 (o_push (.int 50) 45)) (g_leaf 45 (o_iret))) (g_node 48 (g_leaf 46 (o_push (.int 60) 48)) (g_leaf 48 (o_iret))))) (g_node 53 (g_node 51 (g_node 50 (g_leaf 49 (o_push (.int 4) 50)) (g_leaf 50 (o_iret))) (g_node 52 (g_leaf 51 (o_push (.int 1) 52)) (g_leaf 52 (o_iret)))) (g_node 57 (g_node 56 (g_leaf 53 (o_push (.int 900) 56)) (g_leaf 56 (o_iret))) (g_node 59 (g_leaf 57 (o_push (.int 9) 59)) (g_leaf 59 (o_iret))))))
def t_X10_set (sh : g_Sh) : Nat → Option g_Op := (g_node 28 (g_node 15 (g_node 6 (g_node 1 (g_leaf 0 (o_iload 1 1)) (g_node 3 (g_leaf 1 (o_push (.int 7) 3)) (g_leaf 3 (o_callS 120 2 6)))) (g_node 10 (g_node 9 (g_leaf 6 (o_if_ne 16 9)) (g_leaf 9 (o_aload 0 10))) (g_node 12 (g_leaf 10 (o_push (.int (-2)) 12)) (g_leaf 12 (o_callV sh 10 119 2 15))))) (g_node 18 (g_node 16 (g_leaf 15 (o_iret)) (g_node 17 (g_leaf 16 (o_iload 2 17)) (g_leaf 17 (o_iload 1 18)))) (g_node 22 (g_node 21 (g_leaf 18 (o_callS 150 1 21)) (g_leaf 21 (o_iload 1 22))) (g_node 25 (g_leaf 22 (o_callS 151 1 25)) (g_leaf 25 (o_callS 121 3 28)))))) (g_node 41 (g_node 33 (g_node 29 (g_leaf 28 (o_istore 3 29)) (g_node 30 (g_leaf 29 (o_iload 3 30)) (g_leaf 30 (o_if_eq 41 33)))) (g_node 35 (g_node 34 (g_leaf 33 (o_aload 0 34)) (g_leaf 34 (o_iload 3 35))) (g_node 38 (g_leaf 35 (o_callV sh 10 119 2 38)) (g_leaf 38 (o_goto 50))))) (g_node 45 (g_node 42 (g_leaf 41 (o_aload 0 42)) (g_node 44 (g_leaf 42 (o_push (.int 9) 44)) (g_leaf 44 (o_iload 1 45)))) (g_node 47 (g_node 46 (g_leaf 45 (o_iadd 46)) (g_leaf 46 (o_iload 2 47))) (g_node 50 (g_leaf 47 (o_callV sh 10 148 3 50)) (g_leaf 50 (o_iret)))))))
def t_X10_order (sh : g_Sh) : Nat → Option g_Op := (g_node 69 (g_node 32 (g_node 13 (g_node 7 (g_node 2 (g_node 1 (g_leaf 0 (o_iload 1 1)) (g_leaf 1 (o_push (.int 0) 2))) (g_node 4 (g_leaf 2 (o_push (.int 8) 4)) (g_leaf 4 (o_callS 121 3 7)))) (g_node 10 (g_node 9 (g_leaf 7 (o_istore 4 9)) (g_leaf 9 (o_lload 2 10))) (g_node 12 (g_leaf 10 (o_lstore 5 12)) (g_leaf 12 (o_push (.int 0) 13))))) (g_node 21 (g_node 17 (g_node 15 (g_leaf 13 (o_istore 7 15)) (g_leaf 15 (o_iload 7 17))) (g_node 18 (g_leaf 17 (o_iload 1 18)) (g_leaf 18 (o_ic_ge 57 21)))) (g_node 26 (g_node 23 (g_leaf 21 (o_iload 4 23)) (g_leaf 23 (o_if_ne 57 26))) (g_node 27 (g_leaf 26 (o_aload 0 27)) (g_node 29 (g_leaf 27 (o_lload 5 29)) (g_leaf 29 (o_push (.long 10) 32))))))) (g_node 49 (g_node 40 (g_node 34 (g_node 33 (g_leaf 32 (o_lrem 33)) (g_leaf 33 (o_l2i 34))) (g_node 37 (g_leaf 34 (o_callV sh 10 123 2 37)) (g_leaf 37 (o_if_ne 43 40)))) (g_node 43 (g_node 41 (g_leaf 40 (o_push (.int (-1)) 41)) (g_leaf 41 (o_istore 4 43))) (g_node 45 (g_leaf 43 (o_lload 5 45)) (g_node 48 (g_leaf 45 (o_push (.long 10) 48)) (g_leaf 48 (o_ldiv 49)))))) (g_node 59 (g_node 54 (g_node 51 (g_leaf 49 (o_lstore 5 51)) (g_leaf 51 (o_iinc 7 1 54))) (g_node 57 (g_leaf 54 (o_goto 15)) (g_leaf 57 (o_iload 4 59)))) (g_node 63 (g_node 62 (g_leaf 59 (o_if_eq 69 62)) (g_leaf 62 (o_aload 0 63))) (g_node 65 (g_leaf 63 (o_iload 4 65)) (g_node 68 (g_leaf 65 (o_callV sh 10 119 2 68)) (g_leaf 68 (o_iret)))))))) (g_node 98 (g_node 81 (g_node 75 (g_node 73 (g_node 70 (g_leaf 69 (o_aload 0 70)) (g_leaf 70 (o_getf sh 10 1 73))) (g_node 74 (g_leaf 73 (o_push (.int 3) 74)) (g_leaf 74 (o_iald sh g_xi 75)))) (g_node 78 (g_node 77 (g_leaf 75 (o_istore 7 77)) (g_leaf 77 (o_lload 2 78))) (g_node 80 (g_leaf 78 (o_lstore 5 80)) (g_leaf 80 (o_push (.int 0) 81))))) (g_node 89 (g_node 85 (g_node 83 (g_leaf 81 (o_istore 8 83)) (g_leaf 83 (o_iload 8 85))) (g_node 86 (g_leaf 85 (o_iload 1 86)) (g_leaf 86 (o_ic_ge 120 89)))) (g_node 93 (g_node 90 (g_leaf 89 (o_aload 0 90)) (g_leaf 90 (o_getf sh 10 1 93))) (g_node 95 (g_leaf 93 (o_push (.int 114) 95)) (g_node 97 (g_leaf 95 (o_iload 8 97)) (g_leaf 97 (o_iadd 98))))))) (g_node 114 (g_node 105 (g_node 103 (g_node 100 (g_leaf 98 (o_lload 5 100)) (g_leaf 100 (o_push (.long 10) 103))) (g_node 104 (g_leaf 103 (o_lrem 104)) (g_leaf 104 (o_l2i 105)))) (g_node 108 (g_node 106 (g_leaf 105 (o_iast sh 106)) (g_leaf 106 (o_lload 5 108))) (g_node 111 (g_leaf 108 (o_push (.long 10) 111)) (g_node 112 (g_leaf 111 (o_ldiv 112)) (g_leaf 112 (o_lstore 5 114)))))) (g_node 124 (g_node 120 (g_node 117 (g_leaf 114 (o_iinc 8 1 117)) (g_leaf 117 (o_goto 83))) (g_node 121 (g_leaf 120 (o_aload 0 121)) (g_leaf 121 (o_getf sh 10 1 124)))) (g_node 126 (g_node 125 (g_leaf 124 (o_push (.int 3) 125)) (g_leaf 125 (o_iload 1 126))) (g_node 127 (g_leaf 126 (o_iast sh 127)) (g_node 129 (g_leaf 127 (o_iload 7 129)) (g_leaf 129 (o_iret)))))))))
def t_X10_held (sh : g_Sh) : Nat → Option g_Op := (g_node 9 (g_node 4 (g_node 1 (g_leaf 0 (o_iload 0 1)) (g_leaf 1 (o_if_ge 8 4))) (g_node 5 (g_leaf 4 (o_push (.int 0) 5)) (g_node 8 (g_leaf 5 (o_goto 20)) (g_leaf 8 (o_iload 0 9))))) (g_node 16 (g_node 11 (g_leaf 9 (o_push (.int 99) 11)) (g_node 14 (g_leaf 11 (o_ic_le 19 14)) (g_leaf 14 (o_push (.int 99) 16)))) (g_node 19 (g_leaf 16 (o_goto 20)) (g_node 20 (g_leaf 19 (o_iload 0 20)) (g_leaf 20 (o_iret))))))
def t_X10_coverOf (sh : g_Sh) : Nat → Option g_Op := (g_node 91 (g_node 66 (g_node 11 (g_node 6 (g_node 2 (g_node 1 (g_leaf 0 (o_aload 0 1)) (g_leaf 1 (o_iload 1 2))) (g_node 3 (g_leaf 2 (o_push (.int 2) 3)) (g_leaf 3 (o_callV sh 10 125 3 6)))) (g_node 9 (g_node 8 (g_leaf 6 (o_istore 5 8)) (g_leaf 8 (o_aload 0 9))) (g_node 10 (g_leaf 9 (o_iload 1 10)) (g_leaf 10 (o_push (.int 0) 11))))) (g_node 59 (g_node 56 (g_node 14 (g_leaf 11 (o_callV sh 10 125 3 14)) (g_leaf 14 (o_sw [(1, 56), (2, 80), (3, 104), (4, 122), (5, 67), (6, 141), (7, 89)] 141))) (g_node 58 (g_leaf 56 (o_iload 5 58)) (g_leaf 58 (o_push (.int 5) 59)))) (g_node 62 (g_node 61 (g_leaf 59 (o_iload 4 61)) (g_leaf 61 (o_imul 62))) (g_node 63 (g_leaf 62 (o_isub 63)) (g_leaf 63 (o_callS 154 1 66)))))) (g_node 76 (g_node 72 (g_node 69 (g_node 67 (g_leaf 66 (o_iret)) (g_leaf 67 (o_iload 5 69))) (g_node 70 (g_leaf 69 (o_push (.int 5) 70)) (g_leaf 70 (o_iload 4 72)))) (g_node 74 (g_node 73 (g_leaf 72 (o_imul 73)) (g_leaf 73 (o_isub 74))) (g_node 75 (g_leaf 74 (o_push (.int 5) 75)) (g_leaf 75 (o_isub 76))))) (g_node 84 (g_node 80 (g_node 79 (g_leaf 76 (o_callS 154 1 79)) (g_leaf 79 (o_iret))) (g_node 82 (g_leaf 80 (o_iload 5 82)) (g_leaf 82 (o_push (.int 10) 84)))) (g_node 88 (g_node 85 (g_leaf 84 (o_iadd 85)) (g_leaf 85 (o_callS 154 1 88))) (g_node 89 (g_leaf 88 (o_iret)) (g_leaf 89 (o_iload 5 91))))))) (g_node 118 (g_node 104 (g_node 96 (g_node 94 (g_node 93 (g_leaf 91 (o_push (.int 10) 93)) (g_leaf 93 (o_iadd 94))) (g_node 95 (g_leaf 94 (o_aload 0 95)) (g_leaf 95 (o_push (.int 1) 96)))) (g_node 100 (g_node 99 (g_leaf 96 (o_callV sh 10 126 2 99)) (g_leaf 99 (o_iadd 100))) (g_node 103 (g_leaf 100 (o_callS 154 1 103)) (g_leaf 103 (o_iret))))) (g_node 111 (g_node 106 (g_node 105 (g_leaf 104 (o_iload 3 105)) (g_leaf 105 (o_push (.int 1) 106))) (g_node 109 (g_leaf 106 (o_ic_le 116 109)) (g_leaf 109 (o_iload 5 111)))) (g_node 113 (g_node 112 (g_leaf 111 (o_push (.int 2) 112)) (g_leaf 112 (o_idiv 113))) (g_node 116 (g_leaf 113 (o_goto 118)) (g_leaf 116 (o_iload 5 118)))))) (g_node 133 (g_node 124 (g_node 122 (g_node 121 (g_leaf 118 (o_callS 154 1 121)) (g_leaf 121 (o_iret))) (g_node 123 (g_leaf 122 (o_iload 2 123)) (g_leaf 123 (o_push (.int 2) 124)))) (g_node 128 (g_node 125 (g_leaf 124 (o_irem 125)) (g_leaf 125 (o_if_ne 133 128))) (g_node 130 (g_leaf 128 (o_iload 5 130)) (g_leaf 130 (o_goto 137))))) (g_node 140 (g_node 136 (g_node 135 (g_leaf 133 (o_iload 5 135)) (g_leaf 135 (o_push (.int 2) 136))) (g_node 137 (g_leaf 136 (o_idiv 137)) (g_leaf 137 (o_callS 154 1 140)))) (g_node 143 (g_node 141 (g_leaf 140 (o_iret)) (g_leaf 141 (o_iload 5 143))) (g_node 146 (g_leaf 143 (o_callS 154 1 146)) (g_leaf 146 (o_iret))))))))
def t_X10_cover (sh : g_Sh) : Nat → Option g_Op := (g_node 40 (g_node 17 (g_node 8 (g_node 2 (g_node 1 (g_leaf 0 (o_aload 0 1)) (g_leaf 1 (o_iload 1 2))) (g_node 5 (g_leaf 2 (o_callV sh 10 123 2 5)) (g_leaf 5 (o_if_ne 12 8)))) (g_node 12 (g_node 9 (g_leaf 8 (o_push (.int (-1)) 9)) (g_leaf 9 (o_goto 44))) (g_node 13 (g_leaf 12 (o_iload 2 13)) (g_node 16 (g_leaf 13 (o_if_lt 20 16)) (g_leaf 16 (o_iload 3 17)))))) (g_node 29 (g_node 22 (g_node 20 (g_leaf 17 (o_if_ge 25 20)) (g_leaf 20 (o_push (.int (-4)) 22))) (g_node 25 (g_leaf 22 (o_goto 44)) (g_node 26 (g_leaf 25 (o_iload 2 26)) (g_leaf 26 (o_push (.int 999) 29))))) (g_node 33 (g_node 32 (g_leaf 29 (o_ic_gt 38 32)) (g_leaf 32 (o_iload 3 33))) (g_node 35 (g_leaf 33 (o_push (.int 9) 35)) (g_node 38 (g_leaf 35 (o_ic_le 43 38)) (g_leaf 38 (o_push (.int (-6)) 40))))))) (g_node 60 (g_node 48 (g_node 44 (g_node 43 (g_leaf 40 (o_goto 44)) (g_leaf 43 (o_push (.int 0) 44))) (g_node 46 (g_leaf 44 (o_istore 4 46)) (g_leaf 46 (o_iload 4 48)))) (g_node 52 (g_node 51 (g_leaf 48 (o_if_eq 60 51)) (g_leaf 51 (o_aload 0 52))) (g_node 54 (g_leaf 52 (o_iload 4 54)) (g_node 57 (g_leaf 54 (o_callV sh 10 119 2 57)) (g_leaf 57 (o_goto 73)))))) (g_node 65 (g_node 62 (g_node 61 (g_leaf 60 (o_aload 0 61)) (g_leaf 61 (o_iload 1 62))) (g_node 63 (g_leaf 62 (o_iload 2 63)) (g_node 64 (g_leaf 63 (o_iload 3 64)) (g_leaf 64 (o_aload 0 65))))) (g_node 67 (g_node 66 (g_leaf 65 (o_iload 1 66)) (g_leaf 66 (o_push (.int 3) 67))) (g_node 70 (g_leaf 67 (o_callV sh 10 125 3 70)) (g_node 73 (g_leaf 70 (o_callV sh 10 155 5 73)) (g_leaf 73 (o_iret))))))))
def t_X10_paced (sh : g_Sh) : Nat → Option g_Op := (g_node 9 (g_node 3 (g_node 1 (g_leaf 0 (o_aload 0 1)) (g_node 2 (g_leaf 1 (o_iload 2 2)) (g_leaf 2 (o_push (.int 0) 3)))) (g_node 6 (g_leaf 3 (o_callV sh 10 139 3 6)) (g_node 8 (g_leaf 6 (o_push (.int 10) 8)) (g_leaf 8 (o_imul 9))))) (g_node 14 (g_node 10 (g_leaf 9 (o_aload 0 10)) (g_node 11 (g_leaf 10 (o_iload 1 11)) (g_leaf 11 (o_callV sh 10 146 2 14)))) (g_node 16 (g_node 15 (g_leaf 14 (o_push (.int 5) 15)) (g_leaf 15 (o_iadd 16))) (g_node 17 (g_leaf 16 (o_idiv 17)) (g_leaf 17 (o_iret))))))
def t_X10_runOf (sh : g_Sh) : Nat → Option g_Op := (g_node 18 (g_node 8 (g_node 2 (g_node 1 (g_leaf 0 (o_aload 0 1)) (g_leaf 1 (o_iload 2 2))) (g_node 3 (g_leaf 2 (o_push (.int 0) 3)) (g_node 6 (g_leaf 3 (o_callV sh 10 125 3 6)) (g_leaf 6 (o_push (.int 6) 8))))) (g_node 15 (g_node 11 (g_leaf 8 (o_ic_ne 15 11)) (g_node 12 (g_leaf 11 (o_push (.int 5) 12)) (g_leaf 12 (o_goto 16)))) (g_node 16 (g_leaf 15 (o_push (.int 0) 16)) (g_node 17 (g_leaf 16 (o_aload 0 17)) (g_leaf 17 (o_iload 1 18)))))) (g_node 25 (g_node 22 (g_node 19 (g_leaf 18 (o_iload 2 19)) (g_leaf 19 (o_callV sh 10 157 3 22))) (g_node 23 (g_leaf 22 (o_iadd 23)) (g_node 24 (g_leaf 23 (o_istore 3 24)) (g_leaf 24 (o_iload 3 25))))) (g_node 30 (g_node 26 (g_leaf 25 (o_push (.int 1) 26)) (g_node 29 (g_leaf 26 (o_ic_ge 33 29)) (g_leaf 29 (o_push (.int 1) 30)))) (g_node 33 (g_leaf 30 (o_goto 34)) (g_node 34 (g_leaf 33 (o_iload 3 34)) (g_leaf 34 (o_iret)))))))
def t_X10_run (sh : g_Sh) : Nat → Option g_Op := (g_node 23 (g_node 10 (g_node 5 (g_node 1 (g_leaf 0 (o_aload 0 1)) (g_node 2 (g_leaf 1 (o_iload 1 2)) (g_leaf 2 (o_callV sh 10 124 2 5)))) (g_node 8 (g_leaf 5 (o_if_eq 16 8)) (g_node 9 (g_leaf 8 (o_aload 0 9)) (g_leaf 9 (o_iload 2 10))))) (g_node 17 (g_node 13 (g_leaf 10 (o_callV sh 10 123 2 13)) (g_node 16 (g_leaf 13 (o_if_ne 22 16)) (g_leaf 16 (o_aload 0 17)))) (g_node 21 (g_node 18 (g_leaf 17 (o_push (.int (-1)) 18)) (g_leaf 18 (o_callV sh 10 119 2 21))) (g_node 22 (g_leaf 21 (o_iret)) (g_leaf 22 (o_aload 0 23)))))) (g_node 35 (g_node 28 (g_node 26 (g_leaf 23 (o_callVv sh 10 138 1 26)) (g_node 27 (g_leaf 26 (o_aload 0 27)) (g_leaf 27 (o_iload 2 28)))) (g_node 29 (g_leaf 28 (o_push (.int 0) 29)) (g_node 32 (g_leaf 29 (o_callV sh 10 140 3 32)) (g_leaf 32 (o_if_eq 44 35))))) (g_node 38 (g_node 36 (g_leaf 35 (o_aload 0 36)) (g_node 37 (g_leaf 36 (o_iload 1 37)) (g_leaf 37 (o_iload 2 38)))) (g_node 44 (g_node 41 (g_leaf 38 (o_callV sh 10 158 3 41)) (g_leaf 41 (o_goto 46))) (g_node 46 (g_leaf 44 (o_push (.int (-9)) 46)) (g_leaf 46 (o_iret)))))))
def t_X10_draw (sh : g_Sh) : Nat → Option g_Op := (g_node 14 (g_node 7 (g_node 2 (g_node 1 (g_leaf 0 (o_aload 0 1)) (g_leaf 1 (o_aload 0 2))) (g_node 5 (g_leaf 2 (o_getf sh 10 17 5)) (g_leaf 5 (o_push (.int 1664525) 7)))) (g_node 10 (g_node 8 (g_leaf 7 (o_imul 8)) (g_leaf 8 (o_push (.int 1013904223) 10))) (g_node 11 (g_leaf 10 (o_iadd 11)) (g_leaf 11 (o_putf sh 10 17 14))))) (g_node 21 (g_node 18 (g_node 15 (g_leaf 14 (o_aload 0 15)) (g_leaf 15 (o_getf sh 10 17 18))) (g_node 20 (g_leaf 18 (o_push (.int 2147483647) 20)) (g_leaf 20 (o_iand 21)))) (g_node 25 (g_node 24 (g_leaf 21 (o_push (.int 256) 24)) (g_leaf 24 (o_idiv 25))) (g_node 26 (g_leaf 25 (o_iload 1 26)) (g_node 27 (g_leaf 26 (o_irem 27)) (g_leaf 27 (o_iret)))))))
def t_X10_hidingIn (sh : g_Sh) : Nat → Option g_Op := (g_node 22 (g_node 10 (g_node 4 (g_node 2 (g_node 1 (g_leaf 0 (o_push (.int 0) 1)) (g_leaf 1 (o_istore 2 2))) (g_node 3 (g_leaf 2 (o_push (.int 0) 3)) (g_leaf 3 (o_istore 3 4)))) (g_node 6 (g_node 5 (g_leaf 4 (o_iload 3 5)) (g_leaf 5 (o_aload 0 6))) (g_node 9 (g_leaf 6 (o_getf sh 10 1 9)) (g_leaf 9 (o_push (.int 2) 10))))) (g_node 16 (g_node 14 (g_node 11 (g_leaf 10 (o_iald sh g_xi 11)) (g_leaf 11 (o_ic_ge 48 14))) (g_node 15 (g_leaf 14 (o_iload 2 15)) (g_leaf 15 (o_aload 0 16)))) (g_node 20 (g_node 19 (g_leaf 16 (o_getf sh 10 12 19)) (g_leaf 19 (o_iload 3 20))) (g_node 21 (g_leaf 20 (o_iald sh g_xi 21)) (g_leaf 21 (o_push (.int 3) 22)))))) (g_node 36 (g_node 30 (g_node 26 (g_node 25 (g_leaf 22 (o_ic_ne 39 25)) (g_leaf 25 (o_aload 0 26))) (g_node 29 (g_leaf 26 (o_getf sh 10 11 29)) (g_leaf 29 (o_iload 3 30)))) (g_node 32 (g_node 31 (g_leaf 30 (o_iald sh g_xi 31)) (g_leaf 31 (o_iload 1 32))) (g_node 35 (g_leaf 32 (o_ic_ne 39 35)) (g_leaf 35 (o_push (.int 1) 36))))) (g_node 42 (g_node 40 (g_node 39 (g_leaf 36 (o_goto 40)) (g_leaf 39 (o_push (.int 0) 40))) (g_node 41 (g_leaf 40 (o_iadd 41)) (g_leaf 41 (o_istore 2 42)))) (g_node 48 (g_node 45 (g_leaf 42 (o_iinc 3 1 45)) (g_leaf 45 (o_goto 4))) (g_node 49 (g_leaf 48 (o_iload 2 49)) (g_leaf 49 (o_iret)))))))
def t_X10_may (sh : g_Sh) : Nat → Option g_Op := (g_node 20 (g_node 8 (g_node 5 (g_node 1 (g_leaf 0 (o_aload 0 1)) (g_node 2 (g_leaf 1 (o_iload 2 2)) (g_leaf 2 (o_callV sh 10 161 2 5)))) (g_node 6 (g_leaf 5 (o_aload 0 6)) (g_node 7 (g_leaf 6 (o_iload 2 7)) (g_leaf 7 (o_push (.int 1) 8))))) (g_node 15 (g_node 11 (g_leaf 8 (o_callV sh 10 125 3 11)) (g_node 14 (g_leaf 11 (o_ic_ge 41 14)) (g_leaf 14 (o_aload 0 15)))) (g_node 16 (g_leaf 15 (o_push (.int 0) 16)) (g_node 17 (g_leaf 16 (o_iload 2 17)) (g_leaf 17 (o_callV sh 10 140 3 20)))))) (g_node 30 (g_node 25 (g_node 23 (g_leaf 20 (o_if_eq 41 23)) (g_node 24 (g_leaf 23 (o_aload 0 24)) (g_leaf 24 (o_iload 1 25)))) (g_node 26 (g_leaf 25 (o_iload 2 26)) (g_node 29 (g_leaf 26 (o_callV sh 10 157 3 29)) (g_leaf 29 (o_aload 0 30))))) (g_node 37 (g_node 31 (g_leaf 30 (o_push (.int 0) 31)) (g_node 34 (g_leaf 31 (o_callV sh 10 126 2 34)) (g_leaf 34 (o_ic_gt 41 37)))) (g_node 41 (g_node 38 (g_leaf 37 (o_push (.int 1) 38)) (g_leaf 38 (o_goto 42))) (g_node 42 (g_leaf 41 (o_push (.int 0) 42)) (g_leaf 42 (o_nret .boolean)))))))
def t_X10_chosen (sh : g_Sh) : Nat → Option g_Op := (g_node 122 (g_node 58 (g_node 26 (g_node 11 (g_node 5 (g_node 3 (g_node 2 (g_leaf 0 (o_push (.int (-9)) 2)) (g_leaf 2 (o_istore 2 3))) (g_node 4 (g_leaf 3 (o_push (.int 0) 4)) (g_leaf 4 (o_istore 3 5)))) (g_node 8 (g_node 6 (g_leaf 5 (o_push (.int 1) 6)) (g_leaf 6 (o_istore 4 8))) (g_node 10 (g_leaf 8 (o_iload 4 10)) (g_leaf 10 (o_aload 0 11))))) (g_node 19 (g_node 15 (g_node 14 (g_leaf 11 (o_getf sh 10 1 14)) (g_leaf 14 (o_push (.int 0) 15))) (g_node 16 (g_leaf 15 (o_iald sh g_xi 16)) (g_leaf 16 (o_ic_ge 114 19)))) (g_node 21 (g_node 20 (g_leaf 19 (o_aload 0 20)) (g_leaf 20 (o_iload 1 21))) (g_node 23 (g_leaf 21 (o_iload 4 23)) (g_leaf 23 (o_callV sh 10 162 3 26)))))) (g_node 44 (g_node 36 (g_node 32 (g_node 29 (g_leaf 26 (o_if_ne 32 29)) (g_leaf 29 (o_goto 108))) (g_node 35 (g_leaf 32 (o_iinc 3 1 35)) (g_leaf 35 (o_iload 2 36)))) (g_node 40 (g_node 39 (g_leaf 36 (o_if_lt 89 39)) (g_leaf 39 (o_aload 0 40))) (g_node 41 (g_leaf 40 (o_push (.int 3) 41)) (g_leaf 41 (o_callV sh 10 126 2 44))))) (g_node 51 (g_node 48 (g_node 45 (g_leaf 44 (o_push (.int 1) 45)) (g_leaf 45 (o_ic_ne 64 48))) (g_node 49 (g_leaf 48 (o_aload 0 49)) (g_leaf 49 (o_iload 4 51)))) (g_node 55 (g_node 52 (g_leaf 51 (o_push (.int 2) 52)) (g_leaf 52 (o_callV sh 10 125 3 55))) (g_node 56 (g_leaf 55 (o_aload 0 56)) (g_node 57 (g_leaf 56 (o_iload 2 57)) (g_leaf 57 (o_push (.int 2) 58)))))))) (g_node 89 (g_node 74 (g_node 66 (g_node 64 (g_node 61 (g_leaf 58 (o_callV sh 10 125 3 61)) (g_leaf 61 (o_ic_gt 89 64))) (g_node 65 (g_leaf 64 (o_aload 0 65)) (g_leaf 65 (o_push (.int 3) 66)))) (g_node 70 (g_node 69 (g_leaf 66 (o_callV sh 10 126 2 69)) (g_leaf 69 (o_push (.int 2) 70))) (g_node 73 (g_leaf 70 (o_ic_ne 93 73)) (g_leaf 73 (o_aload 0 74))))) (g_node 81 (g_node 77 (g_node 75 (g_leaf 74 (o_push (.int 0) 75)) (g_leaf 75 (o_iload 4 77))) (g_node 80 (g_leaf 77 (o_callV sh 10 139 3 80)) (g_leaf 80 (o_aload 0 81)))) (g_node 83 (g_node 82 (g_leaf 81 (o_push (.int 0) 82)) (g_leaf 82 (o_iload 2 83))) (g_node 86 (g_leaf 83 (o_callV sh 10 139 3 86)) (g_leaf 86 (o_ic_le 93 89)))))) (g_node 106 (g_node 96 (g_node 93 (g_node 90 (g_leaf 89 (o_push (.int 1) 90)) (g_leaf 90 (o_goto 94))) (g_node 94 (g_leaf 93 (o_push (.int 0) 94)) (g_leaf 94 (o_istore 5 96)))) (g_node 101 (g_node 98 (g_leaf 96 (o_iload 5 98)) (g_leaf 98 (o_if_eq 106 101))) (g_node 103 (g_leaf 101 (o_iload 4 103)) (g_leaf 103 (o_goto 107))))) (g_node 114 (g_node 108 (g_node 107 (g_leaf 106 (o_iload 2 107)) (g_leaf 107 (o_istore 2 108))) (g_node 111 (g_leaf 108 (o_iinc 4 1 111)) (g_leaf 111 (o_goto 8)))) (g_node 118 (g_node 115 (g_leaf 114 (o_iload 3 115)) (g_leaf 115 (o_if_ne 121 118))) (g_node 120 (g_leaf 118 (o_push (.int (-9)) 120)) (g_node 121 (g_leaf 120 (o_iret)) (g_leaf 121 (o_aload 0 122))))))))) (g_node 173 (g_node 148 (g_node 138 (g_node 130 (g_node 126 (g_node 123 (g_leaf 122 (o_push (.int 3) 123)) (g_leaf 123 (o_callV sh 10 126 2 126))) (g_node 127 (g_leaf 126 (o_push (.int 4) 127)) (g_leaf 127 (o_ic_ne 171 130)))) (g_node 134 (g_node 131 (g_leaf 130 (o_iload 1 131)) (g_leaf 131 (o_if_le 171 134))) (g_node 135 (g_leaf 134 (o_aload 0 135)) (g_leaf 135 (o_getf sh 10 12 138))))) (g_node 142 (g_node 140 (g_node 139 (g_leaf 138 (o_iload 1 139)) (g_leaf 139 (o_push (.int 1) 140))) (g_node 141 (g_leaf 140 (o_isub 141)) (g_leaf 141 (o_iald sh g_xi 142)))) (g_node 146 (g_node 143 (g_leaf 142 (o_push (.int 3) 143)) (g_leaf 143 (o_ic_ne 171 146))) (g_node 147 (g_leaf 146 (o_aload 0 147)) (g_leaf 147 (o_iload 1 148)))))) (g_node 162 (g_node 154 (g_node 152 (g_node 149 (g_leaf 148 (o_aload 0 149)) (g_leaf 149 (o_getf sh 10 11 152))) (g_node 153 (g_leaf 152 (o_iload 1 153)) (g_leaf 153 (o_push (.int 1) 154)))) (g_node 156 (g_node 155 (g_leaf 154 (o_isub 155)) (g_leaf 155 (o_iald sh g_xi 156))) (g_node 159 (g_leaf 156 (o_callV sh 10 162 3 159)) (g_leaf 159 (o_if_eq 171 162))))) (g_node 168 (g_node 166 (g_node 163 (g_leaf 162 (o_aload 0 163)) (g_leaf 163 (o_getf sh 10 11 166))) (g_node 167 (g_leaf 166 (o_iload 1 167)) (g_leaf 167 (o_push (.int 1) 168)))) (g_node 170 (g_node 169 (g_leaf 168 (o_isub 169)) (g_leaf 169 (o_iald sh g_xi 170))) (g_node 171 (g_leaf 170 (o_iret)) (g_node 172 (g_leaf 171 (o_aload 0 172)) (g_leaf 172 (o_push (.int 3) 173)))))))) (g_node 202 (g_node 187 (g_node 181 (g_node 177 (g_node 176 (g_leaf 173 (o_callV sh 10 126 2 176)) (g_leaf 176 (o_push (.int 3) 177))) (g_node 180 (g_leaf 177 (o_ic_eq 182 180)) (g_leaf 180 (o_iload 2 181)))) (g_node 183 (g_node 182 (g_leaf 181 (o_iret)) (g_leaf 182 (o_aload 0 183))) (g_node 184 (g_leaf 183 (o_iload 3 184)) (g_leaf 184 (o_callV sh 10 160 2 187))))) (g_node 193 (g_node 190 (g_node 189 (g_leaf 187 (o_istore 4 189)) (g_leaf 189 (o_push (.int 1) 190))) (g_node 192 (g_leaf 190 (o_istore 5 192)) (g_leaf 192 (o_aload 0 193)))) (g_node 196 (g_node 194 (g_leaf 193 (o_iload 1 194)) (g_leaf 194 (o_iload 5 196))) (g_node 199 (g_leaf 196 (o_callV sh 10 162 3 199)) (g_leaf 199 (o_if_eq 207 202)))))) (g_node 219 (g_node 210 (g_node 207 (g_node 204 (g_leaf 202 (o_iload 4 204)) (g_leaf 204 (o_if_le 233 207))) (g_node 209 (g_leaf 207 (o_iload 4 209)) (g_leaf 209 (o_aload 0 210)))) (g_node 213 (g_node 211 (g_leaf 210 (o_iload 1 211)) (g_leaf 211 (o_iload 5 213))) (g_node 216 (g_leaf 213 (o_callV sh 10 162 3 216)) (g_leaf 216 (o_if_eq 223 219))))) (g_node 225 (g_node 223 (g_node 220 (g_leaf 219 (o_push (.int 1) 220)) (g_leaf 220 (o_goto 224))) (g_node 224 (g_leaf 223 (o_push (.int 0) 224)) (g_leaf 224 (o_isub 225)))) (g_node 230 (g_node 227 (g_leaf 225 (o_istore 4 227)) (g_leaf 227 (o_iinc 5 1 230))) (g_node 233 (g_leaf 230 (o_goto 192)) (g_node 235 (g_leaf 233 (o_iload 5 235)) (g_leaf 235 (o_iret))))))))))
def t_X10_catches (sh : g_Sh) : Nat → Option g_Op := (g_node 15 (g_node 7 (g_node 4 (g_node 1 (g_leaf 0 (o_aload 0 1)) (g_leaf 1 (o_getf sh 10 12 4))) (g_node 5 (g_leaf 4 (o_iload 1 5)) (g_node 6 (g_leaf 5 (o_push (.int 0) 6)) (g_leaf 6 (o_iast sh 7))))) (g_node 12 (g_node 8 (g_leaf 7 (o_aload 0 8)) (g_node 11 (g_leaf 8 (o_getf sh 10 13 11)) (g_leaf 11 (o_iload 1 12)))) (g_node 13 (g_leaf 12 (o_iload 2 13)) (g_node 14 (g_leaf 13 (o_iast sh 14)) (g_leaf 14 (o_aload 0 15)))))) (g_node 25 (g_node 22 (g_node 18 (g_leaf 15 (o_getf sh 10 15 18)) (g_node 19 (g_leaf 18 (o_aload 0 19)) (g_leaf 19 (o_getf sh 10 18 22)))) (g_node 23 (g_leaf 22 (o_iload 1 23)) (g_node 24 (g_leaf 23 (o_iast sh 24)) (g_leaf 24 (o_aload 0 25))))) (g_node 30 (g_node 26 (g_leaf 25 (o_dup 26)) (g_node 29 (g_leaf 26 (o_getf sh 10 18 29)) (g_leaf 29 (o_push (.int 1) 30)))) (g_node 31 (g_leaf 30 (o_iadd 31)) (g_node 34 (g_leaf 31 (o_putf sh 10 18 34)) (g_leaf 34 (o_vret)))))))
def t_X10_nextTo (sh : g_Sh) : Nat → Option g_Op := (g_node 25 (g_node 14 (g_node 4 (g_node 2 (g_node 1 (g_leaf 0 (o_push (.int 0) 1)) (g_leaf 1 (o_istore 3 2))) (g_node 3 (g_leaf 2 (o_iload 3 3)) (g_leaf 3 (o_iload 1 4)))) (g_node 8 (g_node 7 (g_leaf 4 (o_ic_eq 50 7)) (g_leaf 7 (o_aload 0 8))) (g_node 11 (g_leaf 8 (o_getf sh 10 10 11)) (g_node 13 (g_leaf 11 (o_push (.int 8) 13)) (g_leaf 13 (o_iload 1 14)))))) (g_node 18 (g_node 16 (g_node 15 (g_leaf 14 (o_imul 15)) (g_leaf 15 (o_iload 3 16))) (g_node 17 (g_leaf 16 (o_iadd 17)) (g_leaf 17 (o_iald sh g_xi 18)))) (g_node 20 (g_node 19 (g_leaf 18 (o_aload 0 19)) (g_leaf 19 (o_iload 3 20))) (g_node 21 (g_leaf 20 (o_iload 2 21)) (g_node 24 (g_leaf 21 (o_callV sh 10 139 3 24)) (g_leaf 24 (o_iadd 25))))))) (g_node 41 (g_node 31 (g_node 27 (g_node 26 (g_leaf 25 (o_aload 0 26)) (g_leaf 26 (o_iload 1 27))) (g_node 28 (g_leaf 27 (o_iload 2 28)) (g_leaf 28 (o_callV sh 10 139 3 31)))) (g_node 35 (g_node 34 (g_leaf 31 (o_ic_ne 50 34)) (g_leaf 34 (o_aload 0 35))) (g_node 38 (g_leaf 35 (o_getf sh 10 10 38)) (g_node 40 (g_leaf 38 (o_push (.int 8) 40)) (g_leaf 40 (o_iload 1 41)))))) (g_node 47 (g_node 43 (g_node 42 (g_leaf 41 (o_imul 42)) (g_leaf 42 (o_iload 3 43))) (g_node 44 (g_leaf 43 (o_iadd 44)) (g_node 45 (g_leaf 44 (o_iald sh g_xi 45)) (g_leaf 45 (o_push (.int 100000) 47))))) (g_node 53 (g_node 50 (g_leaf 47 (o_ic_lt 56 50)) (g_leaf 50 (o_iinc 3 1 53))) (g_node 56 (g_leaf 53 (o_goto 2)) (g_node 57 (g_leaf 56 (o_iload 3 57)) (g_leaf 57 (o_iret))))))))
def t_X10_goalNow (sh : g_Sh) : Nat → Option g_Op := (g_node 48 (g_node 24 (g_node 10 (g_node 5 (g_node 1 (g_leaf 0 (o_aload 0 1)) (g_node 4 (g_leaf 1 (o_getf sh 10 24 4)) (g_leaf 4 (o_aload 0 5)))) (g_node 8 (g_leaf 5 (o_getf sh 10 1 8)) (g_node 9 (g_leaf 8 (o_push (.int 3) 9)) (g_leaf 9 (o_iald sh g_xi 10))))) (g_node 17 (g_node 13 (g_leaf 10 (o_ic_ge 68 13)) (g_node 14 (g_leaf 13 (o_aload 0 14)) (g_leaf 14 (o_getf sh 10 1 17)))) (g_node 20 (g_node 19 (g_leaf 17 (o_push (.int 114) 19)) (g_leaf 19 (o_aload 0 20))) (g_node 23 (g_leaf 20 (o_getf sh 10 24 23)) (g_leaf 23 (o_iadd 24)))))) (g_node 34 (g_node 29 (g_node 25 (g_leaf 24 (o_iald sh g_xi 25)) (g_node 26 (g_leaf 25 (o_aload 0 26)) (g_leaf 26 (o_getf sh 10 20 29)))) (g_node 32 (g_leaf 29 (o_ic_eq 55 32)) (g_node 33 (g_leaf 32 (o_aload 0 33)) (g_leaf 33 (o_aload 0 34))))) (g_node 41 (g_node 37 (g_leaf 34 (o_getf sh 10 20 37)) (g_node 38 (g_leaf 37 (o_aload 0 38)) (g_leaf 38 (o_getf sh 10 1 41)))) (g_node 44 (g_node 43 (g_leaf 41 (o_push (.int 114) 43)) (g_leaf 43 (o_aload 0 44))) (g_node 47 (g_leaf 44 (o_getf sh 10 24 47)) (g_leaf 47 (o_iadd 48))))))) (g_node 73 (g_node 60 (g_node 55 (g_node 49 (g_leaf 48 (o_iald sh g_xi 49)) (g_node 52 (g_leaf 49 (o_callV sh 10 140 3 52)) (g_leaf 52 (o_if_ne 68 55)))) (g_node 56 (g_leaf 55 (o_aload 0 56)) (g_node 57 (g_leaf 56 (o_dup 57)) (g_leaf 57 (o_getf sh 10 24 60))))) (g_node 65 (g_node 61 (g_leaf 60 (o_push (.int 1) 61)) (g_node 62 (g_leaf 61 (o_iadd 62)) (g_leaf 62 (o_putf sh 10 24 65)))) (g_node 69 (g_node 68 (g_leaf 65 (o_goto 0)) (g_leaf 68 (o_aload 0 69))) (g_node 72 (g_leaf 69 (o_getf sh 10 24 72)) (g_leaf 72 (o_aload 0 73)))))) (g_node 87 (g_node 78 (g_node 76 (g_leaf 73 (o_getf sh 10 1 76)) (g_node 77 (g_leaf 76 (o_push (.int 3) 77)) (g_leaf 77 (o_iald sh g_xi 78)))) (g_node 82 (g_node 81 (g_leaf 78 (o_ic_ge 96 81)) (g_leaf 81 (o_aload 0 82))) (g_node 85 (g_leaf 82 (o_getf sh 10 1 85)) (g_leaf 85 (o_push (.int 114) 87))))) (g_node 92 (g_node 88 (g_leaf 87 (o_aload 0 88)) (g_node 91 (g_leaf 88 (o_getf sh 10 24 91)) (g_leaf 91 (o_iadd 92)))) (g_node 96 (g_node 93 (g_leaf 92 (o_iald sh g_xi 93)) (g_leaf 93 (o_goto 97))) (g_node 97 (g_leaf 96 (o_push (.int 0) 97)) (g_leaf 97 (o_iret))))))))
def t_X10_goesOn (sh : g_Sh) : Nat → Option g_Op := (g_node 33 (g_node 16 (g_node 6 (g_node 4 (g_node 1 (g_leaf 0 (o_aload 0 1)) (g_leaf 1 (o_callV sh 10 166 1 4))) (g_node 5 (g_leaf 4 (o_istore 2 5)) (g_leaf 5 (o_iload 2 6)))) (g_node 10 (g_node 7 (g_leaf 6 (o_aload 0 7)) (g_leaf 7 (o_getf sh 10 20 10))) (g_node 13 (g_leaf 10 (o_ic_ne 20 13)) (g_node 14 (g_leaf 13 (o_aload 0 14)) (g_leaf 14 (o_push (.int 100000) 16)))))) (g_node 22 (g_node 20 (g_node 19 (g_leaf 16 (o_putf sh 10 23 19)) (g_leaf 19 (o_vret))) (g_node 21 (g_leaf 20 (o_aload 0 21)) (g_leaf 21 (o_aload 0 22)))) (g_node 26 (g_node 23 (g_leaf 22 (o_aload 0 23)) (g_leaf 23 (o_getf sh 10 20 26))) (g_node 27 (g_leaf 26 (o_iload 2 27)) (g_node 30 (g_leaf 27 (o_callV sh 10 165 3 30)) (g_leaf 30 (o_putf sh 10 21 33))))))) (g_node 47 (g_node 39 (g_node 35 (g_node 34 (g_leaf 33 (o_aload 0 34)) (g_leaf 34 (o_push (.int 1) 35))) (g_node 38 (g_leaf 35 (o_putz sh 10 25 38)) (g_leaf 38 (o_aload 0 39)))) (g_node 41 (g_node 40 (g_leaf 39 (o_iload 1 40)) (g_leaf 40 (o_aload 0 41))) (g_node 44 (g_leaf 41 (o_getf sh 10 10 44)) (g_node 46 (g_leaf 44 (o_push (.int 8) 46)) (g_leaf 46 (o_aload 0 47)))))) (g_node 55 (g_node 51 (g_node 50 (g_leaf 47 (o_getf sh 10 20 50)) (g_leaf 50 (o_imul 51))) (g_node 52 (g_leaf 51 (o_aload 0 52)) (g_leaf 52 (o_getf sh 10 21 55)))) (g_node 57 (g_node 56 (g_leaf 55 (o_iadd 56)) (g_leaf 56 (o_iald sh g_xi 57))) (g_node 58 (g_leaf 57 (o_iadd 58)) (g_node 61 (g_leaf 58 (o_putf sh 10 22 61)) (g_leaf 61 (o_vret))))))))
def t_X10_looks (sh : g_Sh) : Nat → Option g_Op := (g_node 65 (g_node 30 (g_node 16 (g_node 7 (g_node 2 (g_node 1 (g_leaf 0 (o_push (.int 0) 1)) (g_leaf 1 (o_istore 2 2))) (g_node 3 (g_leaf 2 (o_iload 2 3)) (g_node 4 (g_leaf 3 (o_aload 0 4)) (g_leaf 4 (o_getf sh 10 1 7))))) (g_node 9 (g_node 8 (g_leaf 7 (o_push (.int 2) 8)) (g_leaf 8 (o_iald sh g_xi 9))) (g_node 12 (g_leaf 9 (o_ic_ge 141 12)) (g_node 13 (g_leaf 12 (o_aload 0 13)) (g_leaf 13 (o_getf sh 10 11 16)))))) (g_node 23 (g_node 18 (g_node 17 (g_leaf 16 (o_iload 2 17)) (g_leaf 17 (o_iald sh g_xi 18))) (g_node 19 (g_leaf 18 (o_istore 3 19)) (g_node 20 (g_leaf 19 (o_aload 0 20)) (g_leaf 20 (o_getf sh 10 12 23))))) (g_node 25 (g_node 24 (g_leaf 23 (o_iload 2 24)) (g_leaf 24 (o_iald sh g_xi 25))) (g_node 26 (g_leaf 25 (o_push (.int 3) 26)) (g_node 29 (g_leaf 26 (o_ic_ne 135 29)) (g_leaf 29 (o_aload 0 30))))))) (g_node 48 (g_node 41 (g_node 34 (g_node 31 (g_leaf 30 (o_aload 0 31)) (g_leaf 31 (o_getf sh 10 20 34))) (g_node 35 (g_leaf 34 (o_iload 3 35)) (g_node 38 (g_leaf 35 (o_callV sh 10 142 3 38)) (g_leaf 38 (o_if_ne 44 41))))) (g_node 45 (g_node 44 (g_leaf 41 (o_goto 135)) (g_leaf 44 (o_aload 0 45))) (g_node 46 (g_leaf 45 (o_iload 3 46)) (g_node 47 (g_leaf 46 (o_iload 1 47)) (g_leaf 47 (o_aload 0 48)))))) (g_node 55 (g_node 52 (g_node 49 (g_leaf 48 (o_iload 3 49)) (g_leaf 49 (o_callV sh 10 161 2 52))) (g_node 53 (g_leaf 52 (o_aload 0 53)) (g_node 54 (g_leaf 53 (o_iload 3 54)) (g_leaf 54 (o_push (.int 3) 55))))) (g_node 61 (g_node 58 (g_leaf 55 (o_callV sh 10 125 3 58)) (g_leaf 58 (o_callV sh 10 155 5 61))) (g_node 63 (g_leaf 61 (o_istore 4 63)) (g_node 64 (g_leaf 63 (o_aload 0 64)) (g_leaf 64 (o_iload 2 65)))))))) (g_node 105 (g_node 88 (g_node 77 (g_node 70 (g_node 68 (g_leaf 65 (o_callV sh 10 145 2 68)) (g_leaf 68 (o_push (.int 6) 70))) (g_node 73 (g_leaf 70 (o_ic_ge 91 73)) (g_node 75 (g_leaf 73 (o_iload 4 75)) (g_leaf 75 (o_push (.int 10) 77))))) (g_node 81 (g_node 80 (g_leaf 77 (o_ic_ge 84 80)) (g_leaf 80 (o_push (.int 0) 81))) (g_node 84 (g_leaf 81 (o_goto 89)) (g_node 86 (g_leaf 84 (o_iload 4 86)) (g_leaf 86 (o_push (.int 10) 88)))))) (g_node 96 (g_node 91 (g_node 89 (g_leaf 88 (o_isub 89)) (g_leaf 89 (o_istore 4 91))) (g_node 92 (g_leaf 91 (o_iload 3 92)) (g_node 93 (g_leaf 92 (o_aload 0 93)) (g_leaf 93 (o_getf sh 10 20 96))))) (g_node 101 (g_node 99 (g_leaf 96 (o_ic_ne 105 99)) (g_leaf 99 (o_iload 4 101))) (g_node 102 (g_leaf 101 (o_push (.int 2) 102)) (g_node 103 (g_leaf 102 (o_idiv 103)) (g_leaf 103 (o_istore 4 105))))))) (g_node 125 (g_node 116 (g_node 108 (g_node 106 (g_leaf 105 (o_aload 0 106)) (g_leaf 106 (o_push (.int 100) 108))) (g_node 111 (g_leaf 108 (o_callV sh 10 160 2 111)) (g_node 113 (g_leaf 111 (o_iload 4 113)) (g_leaf 113 (o_ic_ge 119 116))))) (g_node 120 (g_node 119 (g_leaf 116 (o_goto 135)) (g_leaf 119 (o_aload 0 120))) (g_node 121 (g_leaf 120 (o_iload 2 121)) (g_node 122 (g_leaf 121 (o_iload 1 122)) (g_leaf 122 (o_callVv sh 10 164 3 125)))))) (g_node 132 (g_node 129 (g_node 126 (g_leaf 125 (o_aload 0 126)) (g_leaf 126 (o_getf sh 10 16 129))) (g_node 130 (g_leaf 129 (o_iload 3 130)) (g_node 131 (g_leaf 130 (o_dup2 131)) (g_leaf 131 (o_iald sh g_xi 132))))) (g_node 135 (g_node 133 (g_leaf 132 (o_push (.int 1) 133)) (g_node 134 (g_leaf 133 (o_iadd 134)) (g_leaf 134 (o_iast sh 135)))) (g_node 138 (g_leaf 135 (o_iinc 2 1 138)) (g_node 141 (g_leaf 138 (o_goto 2)) (g_leaf 141 (o_vret)))))))))
def t_X10_back (sh : g_Sh) : Nat → Option g_Op := (g_node 18 (g_node 11 (g_node 4 (g_node 1 (g_leaf 0 (o_aload 0 1)) (g_leaf 1 (o_getf sh 10 25 4))) (g_node 7 (g_leaf 4 (o_if_eq 26 7)) (g_node 8 (g_leaf 7 (o_aload 0 8)) (g_leaf 8 (o_getf sh 10 22 11))))) (g_node 13 (g_node 12 (g_leaf 11 (o_iload 1 12)) (g_leaf 12 (o_isub 13))) (g_node 14 (g_leaf 13 (o_aload 0 14)) (g_node 15 (g_leaf 14 (o_aload 0 15)) (g_leaf 15 (o_getf sh 10 21 18)))))) (g_node 27 (g_node 22 (g_node 19 (g_leaf 18 (o_push (.int 0) 19)) (g_leaf 19 (o_callV sh 10 139 3 22))) (g_node 23 (g_leaf 22 (o_iadd 23)) (g_node 26 (g_leaf 23 (o_goto 35)) (g_leaf 26 (o_aload 0 27))))) (g_node 31 (g_node 28 (g_leaf 27 (o_aload 0 28)) (g_leaf 28 (o_getf sh 10 20 31))) (g_node 32 (g_leaf 31 (o_push (.int 0) 32)) (g_node 35 (g_leaf 32 (o_callV sh 10 139 3 35)) (g_leaf 35 (o_iret)))))))
def t_X10_isOut (sh : g_Sh) : Nat → Option g_Op := (g_node 19 (g_node 6 (g_node 3 (g_node 1 (g_leaf 0 (o_push (.int 1) 1)) (g_node 2 (g_leaf 1 (o_istore 1 2)) (g_leaf 2 (o_push (.int 0) 3)))) (g_node 4 (g_leaf 3 (o_istore 2 4)) (g_node 5 (g_leaf 4 (o_iload 2 5)) (g_leaf 5 (o_aload 0 6))))) (g_node 11 (g_node 9 (g_leaf 6 (o_getf sh 10 1 9)) (g_node 10 (g_leaf 9 (o_push (.int 2) 10)) (g_leaf 10 (o_iald sh g_xi 11)))) (g_node 15 (g_node 14 (g_leaf 11 (o_ic_ge 40 14)) (g_leaf 14 (o_iload 1 15))) (g_node 18 (g_leaf 15 (o_if_eq 32 18)) (g_leaf 18 (o_aload 0 19)))))) (g_node 29 (g_node 24 (g_node 22 (g_leaf 19 (o_getf sh 10 12 22)) (g_node 23 (g_leaf 22 (o_iload 2 23)) (g_leaf 23 (o_iald sh g_xi 24)))) (g_node 25 (g_leaf 24 (o_push (.int 3) 25)) (g_node 28 (g_leaf 25 (o_ic_ge 32 28)) (g_leaf 28 (o_push (.int 1) 29))))) (g_node 34 (g_node 32 (g_leaf 29 (o_goto 33)) (g_node 33 (g_leaf 32 (o_push (.int 0) 33)) (g_leaf 33 (o_istore 1 34)))) (g_node 40 (g_node 37 (g_leaf 34 (o_iinc 2 1 37)) (g_leaf 37 (o_goto 4))) (g_node 41 (g_leaf 40 (o_iload 1 41)) (g_leaf 41 (o_nret .boolean)))))))
def t_X10_second (sh : g_Sh) : Nat → Option g_Op := (g_node 129 (g_node 68 (g_node 33 (g_node 17 (g_node 8 (g_node 4 (g_node 1 (g_leaf 0 (o_aload 0 1)) (g_leaf 1 (o_getf sh 10 25 4))) (g_node 7 (g_leaf 4 (o_if_eq 45 7)) (g_leaf 7 (o_aload 0 8)))) (g_node 12 (g_node 11 (g_leaf 8 (o_getf sh 10 22 11)) (g_leaf 11 (o_iload 1 12))) (g_node 15 (g_leaf 12 (o_ic_ne 45 15)) (g_node 16 (g_leaf 15 (o_aload 0 16)) (g_leaf 16 (o_push (.int 0) 17)))))) (g_node 25 (g_node 21 (g_node 20 (g_leaf 17 (o_putz sh 10 25 20)) (g_leaf 20 (o_aload 0 21))) (g_node 22 (g_leaf 21 (o_aload 0 22)) (g_leaf 22 (o_getf sh 10 21 25)))) (g_node 29 (g_node 28 (g_leaf 25 (o_putf sh 10 20 28)) (g_leaf 28 (o_aload 0 29))) (g_node 30 (g_leaf 29 (o_iload 1 30)) (g_node 31 (g_leaf 30 (o_aload 0 31)) (g_leaf 31 (o_push (.int 6) 33))))))) (g_node 52 (g_node 41 (g_node 37 (g_node 36 (g_leaf 33 (o_callV sh 10 126 2 36)) (g_leaf 36 (o_iadd 37))) (g_node 40 (g_leaf 37 (o_putf sh 10 23 40)) (g_leaf 40 (o_aload 0 41)))) (g_node 45 (g_node 42 (g_leaf 41 (o_iload 1 42)) (g_leaf 42 (o_callVv sh 10 168 2 45))) (g_node 46 (g_leaf 45 (o_aload 0 46)) (g_node 49 (g_leaf 46 (o_getf sh 10 25 49)) (g_leaf 49 (o_if_ne 63 52)))))) (g_node 63 (g_node 56 (g_node 53 (g_leaf 52 (o_aload 0 53)) (g_leaf 53 (o_getf sh 10 20 56))) (g_node 59 (g_leaf 56 (o_if_ne 63 59)) (g_node 60 (g_leaf 59 (o_push (.int 1) 60)) (g_leaf 60 (o_goto 64))))) (g_node 65 (g_node 64 (g_leaf 63 (o_push (.int 0) 64)) (g_leaf 64 (o_istore 2 65))) (g_node 66 (g_leaf 65 (o_push (.int 0) 66)) (g_node 67 (g_leaf 66 (o_istore 3 67)) (g_leaf 67 (o_iload 3 68)))))))) (g_node 100 (g_node 83 (g_node 74 (g_node 72 (g_node 69 (g_leaf 68 (o_aload 0 69)) (g_leaf 69 (o_getf sh 10 1 72))) (g_node 73 (g_leaf 72 (o_push (.int 2) 73)) (g_leaf 73 (o_iald sh g_xi 74)))) (g_node 78 (g_node 77 (g_leaf 74 (o_ic_ge 154 77)) (g_leaf 77 (o_aload 0 78))) (g_node 81 (g_leaf 78 (o_getf sh 10 12 81)) (g_node 82 (g_leaf 81 (o_iload 3 82)) (g_leaf 82 (o_iald sh g_xi 83)))))) (g_node 91 (g_node 87 (g_node 84 (g_leaf 83 (o_push (.int 4) 84)) (g_leaf 84 (o_ic_ne 148 87))) (g_node 88 (g_leaf 87 (o_aload 0 88)) (g_leaf 88 (o_getf sh 10 14 91)))) (g_node 93 (g_node 92 (g_leaf 91 (o_iload 3 92)) (g_leaf 92 (o_iald sh g_xi 93))) (g_node 94 (g_leaf 93 (o_iload 1 94)) (g_node 97 (g_leaf 94 (o_ic_eq 100 97)) (g_leaf 97 (o_goto 148))))))) (g_node 117 (g_node 106 (g_node 104 (g_node 101 (g_leaf 100 (o_iload 2 101)) (g_leaf 101 (o_if_eq 113 104))) (g_node 105 (g_leaf 104 (o_aload 0 105)) (g_leaf 105 (o_iload 3 106)))) (g_node 110 (g_node 107 (g_leaf 106 (o_iload 1 107)) (g_leaf 107 (o_callVv sh 10 164 3 110))) (g_node 113 (g_leaf 110 (o_goto 148)) (g_node 114 (g_leaf 113 (o_aload 0 114)) (g_leaf 114 (o_getf sh 10 12 117)))))) (g_node 124 (g_node 119 (g_node 118 (g_leaf 117 (o_iload 3 118)) (g_leaf 118 (o_push (.int 1) 119))) (g_node 120 (g_leaf 119 (o_iast sh 120)) (g_node 121 (g_leaf 120 (o_aload 0 121)) (g_leaf 121 (o_getf sh 10 13 124))))) (g_node 126 (g_node 125 (g_leaf 124 (o_iload 3 125)) (g_leaf 125 (o_iload 1 126))) (g_node 127 (g_leaf 126 (o_iast sh 127)) (g_node 128 (g_leaf 127 (o_aload 0 128)) (g_leaf 128 (o_push (.int 4) 129))))))))) (g_node 201 (g_node 169 (g_node 148 (g_node 137 (g_node 133 (g_node 132 (g_leaf 129 (o_callV sh 10 126 2 132)) (g_leaf 132 (o_push (.int 1) 133))) (g_node 136 (g_leaf 133 (o_ic_ne 148 136)) (g_leaf 136 (o_aload 0 137)))) (g_node 143 (g_node 140 (g_leaf 137 (o_callV sh 10 170 1 140)) (g_leaf 140 (o_if_eq 148 143))) (g_node 144 (g_leaf 143 (o_aload 0 144)) (g_node 145 (g_leaf 144 (o_iload 1 145)) (g_leaf 145 (o_callVv sh 10 172 2 148)))))) (g_node 158 (g_node 154 (g_node 151 (g_leaf 148 (o_iinc 3 1 151)) (g_leaf 151 (o_goto 67))) (g_node 155 (g_leaf 154 (o_aload 0 155)) (g_leaf 155 (o_getf sh 10 25 158)))) (g_node 162 (g_node 161 (g_leaf 158 (o_if_ne 174 161)) (g_leaf 161 (o_aload 0 162))) (g_node 165 (g_leaf 162 (o_getf sh 10 23 165)) (g_node 166 (g_leaf 165 (o_iload 1 166)) (g_leaf 166 (o_ic_gt 174 169))))))) (g_node 183 (g_node 175 (g_node 171 (g_node 170 (g_leaf 169 (o_aload 0 170)) (g_leaf 170 (o_iload 1 171))) (g_node 174 (g_leaf 171 (o_callVv sh 10 167 2 174)) (g_leaf 174 (o_aload 0 175)))) (g_node 179 (g_node 176 (g_leaf 175 (o_iload 1 176)) (g_leaf 176 (o_callV sh 10 169 2 179))) (g_node 180 (g_leaf 179 (o_istore 3 180)) (g_node 181 (g_leaf 180 (o_push (.int 0) 181)) (g_leaf 181 (o_istore 4 183)))))) (g_node 191 (g_node 186 (g_node 185 (g_leaf 183 (o_iload 4 185)) (g_leaf 185 (o_aload 0 186))) (g_node 189 (g_leaf 186 (o_getf sh 10 1 189)) (g_node 190 (g_leaf 189 (o_push (.int 2) 190)) (g_leaf 190 (o_iald sh g_xi 191))))) (g_node 195 (g_node 194 (g_leaf 191 (o_ic_ge 267 194)) (g_leaf 194 (o_aload 0 195))) (g_node 198 (g_leaf 195 (o_getf sh 10 12 198)) (g_node 200 (g_leaf 198 (o_iload 4 200)) (g_leaf 200 (o_iald sh g_xi 201)))))))) (g_node 235 (g_node 218 (g_node 208 (g_node 205 (g_node 202 (g_leaf 201 (o_push (.int 3) 202)) (g_leaf 202 (o_ic_ne 261 205))) (g_node 206 (g_leaf 205 (o_aload 0 206)) (g_leaf 206 (o_iload 4 208)))) (g_node 212 (g_node 209 (g_leaf 208 (o_aload 0 209)) (g_leaf 209 (o_getf sh 10 11 212))) (g_node 214 (g_leaf 212 (o_iload 4 214)) (g_node 215 (g_leaf 214 (o_iald sh g_xi 215)) (g_leaf 215 (o_callV sh 10 158 3 218)))))) (g_node 224 (g_node 220 (g_node 219 (g_leaf 218 (o_aload 0 219)) (g_leaf 219 (o_push (.int 2) 220))) (g_node 223 (g_leaf 220 (o_callV sh 10 126 2 223)) (g_leaf 223 (o_iadd 224)))) (g_node 228 (g_node 225 (g_leaf 224 (o_iload 3 225)) (g_leaf 225 (o_ic_lt 231 228))) (g_node 231 (g_leaf 228 (o_goto 261)) (g_node 232 (g_leaf 231 (o_aload 0 232)) (g_leaf 232 (o_getf sh 10 12 235))))))) (g_node 249 (g_node 240 (g_node 238 (g_node 237 (g_leaf 235 (o_iload 4 237)) (g_leaf 237 (o_push (.int 4) 238))) (g_node 239 (g_leaf 238 (o_iast sh 239)) (g_leaf 239 (o_aload 0 240)))) (g_node 245 (g_node 243 (g_leaf 240 (o_getf sh 10 14 243)) (g_leaf 243 (o_iload 4 245))) (g_node 246 (g_leaf 245 (o_iload 1 246)) (g_node 247 (g_leaf 246 (o_aload 0 247)) (g_leaf 247 (o_iload 4 249)))))) (g_node 259 (g_node 253 (g_node 250 (g_leaf 249 (o_aload 0 250)) (g_leaf 250 (o_getf sh 10 11 253))) (g_node 255 (g_leaf 253 (o_iload 4 255)) (g_node 256 (g_leaf 255 (o_iald sh g_xi 256)) (g_leaf 256 (o_callV sh 10 158 3 259))))) (g_node 261 (g_node 260 (g_leaf 259 (o_iadd 260)) (g_leaf 260 (o_iast sh 261))) (g_node 264 (g_leaf 261 (o_iinc 4 1 264)) (g_node 267 (g_leaf 264 (o_goto 183)) (g_leaf 267 (o_vret))))))))))
def t_X10_frees (sh : g_Sh) : Nat → Option g_Op := (g_node 21 (g_node 8 (g_node 3 (g_node 1 (g_leaf 0 (o_push (.int 0) 1)) (g_node 2 (g_leaf 1 (o_istore 2 2)) (g_leaf 2 (o_iload 2 3)))) (g_node 4 (g_leaf 3 (o_aload 0 4)) (g_node 7 (g_leaf 4 (o_getf sh 10 1 7)) (g_leaf 7 (o_push (.int 2) 8))))) (g_node 13 (g_node 9 (g_leaf 8 (o_iald sh g_xi 9)) (g_node 12 (g_leaf 9 (o_ic_ge 44 12)) (g_leaf 12 (o_aload 0 13)))) (g_node 17 (g_node 16 (g_leaf 13 (o_getf sh 10 12 16)) (g_leaf 16 (o_iload 2 17))) (g_node 18 (g_leaf 17 (o_iald sh g_xi 18)) (g_leaf 18 (o_if_eq 24 21)))))) (g_node 32 (g_node 28 (g_node 24 (g_leaf 21 (o_goto 38)) (g_node 25 (g_leaf 24 (o_aload 0 25)) (g_leaf 25 (o_getf sh 10 12 28)))) (g_node 30 (g_node 29 (g_leaf 28 (o_iload 2 29)) (g_leaf 29 (o_push (.int 1) 30))) (g_node 31 (g_leaf 30 (o_iast sh 31)) (g_leaf 31 (o_aload 0 32))))) (g_node 37 (g_node 35 (g_leaf 32 (o_getf sh 10 13 35)) (g_node 36 (g_leaf 35 (o_iload 2 36)) (g_leaf 36 (o_iload 1 37)))) (g_node 41 (g_node 38 (g_leaf 37 (o_iast sh 38)) (g_leaf 38 (o_iinc 2 1 41))) (g_node 44 (g_leaf 41 (o_goto 2)) (g_leaf 44 (o_vret)))))))
def t_X10_plays (sh : g_Sh) : Nat → Option g_Op := (g_node 109 (g_node 55 (g_node 27 (g_node 14 (g_node 6 (g_node 4 (g_node 1 (g_leaf 0 (o_aload 0 1)) (g_leaf 1 (o_callVv sh 10 138 1 4))) (g_node 5 (g_leaf 4 (o_aload 0 5)) (g_leaf 5 (o_iload 1 6)))) (g_node 10 (g_node 9 (g_leaf 6 (o_putf sh 10 17 9)) (g_leaf 9 (o_aload 0 10))) (g_node 11 (g_leaf 10 (o_push (.int 0) 11)) (g_leaf 11 (o_putf sh 10 18 14))))) (g_node 19 (g_node 16 (g_node 15 (g_leaf 14 (o_push (.int 0) 15)) (g_leaf 15 (o_istore 2 16))) (g_node 17 (g_leaf 16 (o_iload 2 17)) (g_leaf 17 (o_push (.int 8) 19)))) (g_node 23 (g_node 22 (g_leaf 19 (o_ic_ge 35 22)) (g_leaf 22 (o_aload 0 23))) (g_node 26 (g_leaf 23 (o_getf sh 10 16 26)) (g_leaf 26 (o_iload 2 27)))))) (g_node 40 (g_node 35 (g_node 29 (g_node 28 (g_leaf 27 (o_push (.int 0) 28)) (g_leaf 28 (o_iast sh 29))) (g_node 32 (g_leaf 29 (o_iinc 2 1 32)) (g_leaf 32 (o_goto 16)))) (g_node 37 (g_node 36 (g_leaf 35 (o_push (.int 0) 36)) (g_leaf 36 (o_istore 2 37))) (g_node 38 (g_leaf 37 (o_iload 2 38)) (g_leaf 38 (o_push (.int 8) 40))))) (g_node 48 (g_node 44 (g_node 43 (g_leaf 40 (o_ic_ge 70 43)) (g_leaf 43 (o_aload 0 44))) (g_node 47 (g_leaf 44 (o_getf sh 10 11 47)) (g_leaf 47 (o_iload 2 48)))) (g_node 50 (g_node 49 (g_leaf 48 (o_push (.int 0) 49)) (g_leaf 49 (o_iast sh 50))) (g_node 51 (g_leaf 50 (o_aload 0 51)) (g_node 54 (g_leaf 51 (o_getf sh 10 12 54)) (g_leaf 54 (o_iload 2 55)))))))) (g_node 82 (g_node 67 (g_node 61 (g_node 57 (g_node 56 (g_leaf 55 (o_push (.int 0) 56)) (g_leaf 56 (o_iast sh 57))) (g_node 58 (g_leaf 57 (o_aload 0 58)) (g_leaf 58 (o_getf sh 10 13 61)))) (g_node 63 (g_node 62 (g_leaf 61 (o_iload 2 62)) (g_leaf 62 (o_push (.int 0) 63))) (g_node 64 (g_leaf 63 (o_iast sh 64)) (g_leaf 64 (o_iinc 2 1 67))))) (g_node 73 (g_node 71 (g_node 70 (g_leaf 67 (o_goto 37)) (g_leaf 70 (o_push (.int 0) 71))) (g_node 72 (g_leaf 71 (o_istore 2 72)) (g_leaf 72 (o_iload 2 73)))) (g_node 77 (g_node 74 (g_leaf 73 (o_aload 0 74)) (g_leaf 74 (o_getf sh 10 1 77))) (g_node 78 (g_leaf 77 (o_push (.int 2) 78)) (g_node 79 (g_leaf 78 (o_iald sh g_xi 79)) (g_leaf 79 (o_ic_ge 121 82))))))) (g_node 94 (g_node 88 (g_node 84 (g_node 83 (g_leaf 82 (o_aload 0 83)) (g_leaf 83 (o_iload 2 84))) (g_node 87 (g_leaf 84 (o_callV sh 10 163 2 87)) (g_leaf 87 (o_istore 3 88)))) (g_node 92 (g_node 89 (g_leaf 88 (o_iload 3 89)) (g_leaf 89 (o_if_ge 101 92))) (g_node 93 (g_leaf 92 (o_aload 0 93)) (g_leaf 93 (o_iload 2 94))))) (g_node 102 (g_node 98 (g_node 95 (g_leaf 94 (o_push (.int 0) 95)) (g_leaf 95 (o_callVv sh 10 164 3 98))) (g_node 101 (g_leaf 98 (o_goto 115)) (g_leaf 101 (o_aload 0 102)))) (g_node 106 (g_node 105 (g_leaf 102 (o_getf sh 10 11 105)) (g_leaf 105 (o_iload 2 106))) (g_node 107 (g_leaf 106 (o_iload 3 107)) (g_node 108 (g_leaf 107 (o_iast sh 108)) (g_leaf 108 (o_aload 0 109))))))))) (g_node 168 (g_node 137 (g_node 123 (g_node 115 (g_node 113 (g_node 112 (g_leaf 109 (o_getf sh 10 12 112)) (g_leaf 112 (o_iload 2 113))) (g_node 114 (g_leaf 113 (o_push (.int 3) 114)) (g_leaf 114 (o_iast sh 115)))) (g_node 121 (g_node 118 (g_leaf 115 (o_iinc 2 1 118)) (g_leaf 118 (o_goto 72))) (g_node 122 (g_leaf 121 (o_aload 0 122)) (g_leaf 122 (o_push (.int 0) 123))))) (g_node 131 (g_node 127 (g_node 126 (g_leaf 123 (o_putf sh 10 20 126)) (g_leaf 126 (o_aload 0 127))) (g_node 128 (g_leaf 127 (o_push (.int 0) 128)) (g_leaf 128 (o_putz sh 10 25 131)))) (g_node 133 (g_node 132 (g_leaf 131 (o_aload 0 132)) (g_leaf 132 (o_push (.int 0) 133))) (g_node 136 (g_leaf 133 (o_putf sh 10 23 136)) (g_leaf 136 (o_aload 0 137)))))) (g_node 149 (g_node 143 (g_node 141 (g_node 138 (g_leaf 137 (o_push (.int 0) 138)) (g_leaf 138 (o_putf sh 10 24 141))) (g_node 142 (g_leaf 141 (o_push (.int 0) 142)) (g_leaf 142 (o_istore 2 143)))) (g_node 145 (g_node 144 (g_leaf 143 (o_aload 0 144)) (g_leaf 144 (o_push (.int 0) 145))) (g_node 148 (g_leaf 145 (o_callVv sh 10 171 2 148)) (g_leaf 148 (o_aload 0 149))))) (g_node 157 (g_node 155 (g_node 152 (g_leaf 149 (o_callV sh 10 170 1 152)) (g_leaf 152 (o_if_ne 175 155))) (g_node 156 (g_leaf 155 (o_iload 2 156)) (g_leaf 156 (o_aload 0 157)))) (g_node 161 (g_node 158 (g_leaf 157 (o_push (.int 5) 158)) (g_leaf 158 (o_callV sh 10 126 2 161))) (g_node 164 (g_leaf 161 (o_ic_ge 175 164)) (g_node 167 (g_leaf 164 (o_iinc 2 1 167)) (g_leaf 167 (o_aload 0 168)))))))) (g_node 197 (g_node 182 (g_node 176 (g_node 172 (g_node 169 (g_leaf 168 (o_iload 2 169)) (g_leaf 169 (o_callVv sh 10 171 2 172))) (g_node 175 (g_leaf 172 (o_goto 148)) (g_leaf 175 (o_aload 0 176)))) (g_node 180 (g_node 177 (g_leaf 176 (o_iload 2 177)) (g_leaf 177 (o_putf sh 10 19 180))) (g_node 181 (g_leaf 180 (o_push (.int 0) 181)) (g_leaf 181 (o_istore 3 182))))) (g_node 188 (g_node 184 (g_node 183 (g_leaf 182 (o_iload 3 183)) (g_leaf 183 (o_aload 0 184))) (g_node 187 (g_leaf 184 (o_getf sh 10 1 187)) (g_leaf 187 (o_push (.int 2) 188)))) (g_node 192 (g_node 189 (g_leaf 188 (o_iald sh g_xi 189)) (g_leaf 189 (o_ic_ge 225 192))) (g_node 193 (g_leaf 192 (o_aload 0 193)) (g_node 196 (g_leaf 193 (o_getf sh 10 12 196)) (g_leaf 196 (o_iload 3 197))))))) (g_node 211 (g_node 205 (g_node 199 (g_node 198 (g_leaf 197 (o_iald sh g_xi 198)) (g_leaf 198 (o_push (.int 3) 199))) (g_node 202 (g_leaf 199 (o_ic_ge 205 202)) (g_leaf 202 (o_goto 219)))) (g_node 209 (g_node 206 (g_leaf 205 (o_aload 0 206)) (g_leaf 206 (o_getf sh 10 12 209))) (g_node 210 (g_leaf 209 (o_iload 3 210)) (g_leaf 210 (o_push (.int 2) 211))))) (g_node 217 (g_node 213 (g_node 212 (g_leaf 211 (o_iast sh 212)) (g_leaf 212 (o_aload 0 213))) (g_node 216 (g_leaf 213 (o_getf sh 10 13 216)) (g_leaf 216 (o_iload 3 217)))) (g_node 219 (g_node 218 (g_leaf 217 (o_iload 2 218)) (g_leaf 218 (o_iast sh 219))) (g_node 222 (g_leaf 219 (o_iinc 3 1 222)) (g_node 225 (g_leaf 222 (o_goto 182)) (g_leaf 225 (o_vret))))))))))
def t_X10_howMany (sh : g_Sh) : Nat → Option g_Op := (g_node 19 (g_node 6 (g_node 3 (g_node 1 (g_leaf 0 (o_push (.int 0) 1)) (g_node 2 (g_leaf 1 (o_istore 2 2)) (g_leaf 2 (o_push (.int 0) 3)))) (g_node 4 (g_leaf 3 (o_istore 3 4)) (g_node 5 (g_leaf 4 (o_iload 3 5)) (g_leaf 5 (o_aload 0 6))))) (g_node 11 (g_node 9 (g_leaf 6 (o_getf sh 10 1 9)) (g_node 10 (g_leaf 9 (o_push (.int 2) 10)) (g_leaf 10 (o_iald sh g_xi 11)))) (g_node 15 (g_node 14 (g_leaf 11 (o_ic_ge 38 14)) (g_leaf 14 (o_iload 2 15))) (g_node 16 (g_leaf 15 (o_aload 0 16)) (g_leaf 16 (o_getf sh 10 12 19)))))) (g_node 29 (g_node 22 (g_node 20 (g_leaf 19 (o_iload 3 20)) (g_node 21 (g_leaf 20 (o_iald sh g_xi 21)) (g_leaf 21 (o_iload 1 22)))) (g_node 25 (g_leaf 22 (o_ic_ne 29 25)) (g_node 26 (g_leaf 25 (o_push (.int 1) 26)) (g_leaf 26 (o_goto 30))))) (g_node 32 (g_node 30 (g_leaf 29 (o_push (.int 0) 30)) (g_node 31 (g_leaf 30 (o_iadd 31)) (g_leaf 31 (o_istore 2 32)))) (g_node 38 (g_node 35 (g_leaf 32 (o_iinc 3 1 35)) (g_leaf 35 (o_goto 4))) (g_node 39 (g_leaf 38 (o_iload 2 39)) (g_leaf 39 (o_iret)))))))
def t_X10_round (sh : g_Sh) : Nat → Option g_Op := (g_node 105 (g_node 55 (g_node 25 (g_node 12 (g_node 6 (g_node 2 (g_node 1 (g_leaf 0 (o_aload 0 1)) (g_leaf 1 (o_iload 1 2))) (g_node 5 (g_leaf 2 (o_callVv sh 10 173 2 5)) (g_leaf 5 (o_aload 0 6)))) (g_node 10 (g_node 9 (g_leaf 6 (o_getf sh 10 1 9)) (g_leaf 9 (o_push (.int 4) 10))) (g_node 11 (g_leaf 10 (o_push (.int 1) 11)) (g_leaf 11 (o_iast sh 12))))) (g_node 18 (g_node 16 (g_node 13 (g_leaf 12 (o_aload 0 13)) (g_leaf 13 (o_getf sh 10 1 16))) (g_node 17 (g_leaf 16 (o_push (.int 5) 17)) (g_leaf 17 (o_aload 0 18)))) (g_node 22 (g_node 21 (g_leaf 18 (o_getf sh 10 1 21)) (g_leaf 21 (o_push (.int 2) 22))) (g_node 23 (g_leaf 22 (o_iald sh g_xi 23)) (g_node 24 (g_leaf 23 (o_iast sh 24)) (g_leaf 24 (o_aload 0 25))))))) (g_node 41 (g_node 34 (g_node 30 (g_node 28 (g_leaf 25 (o_getf sh 10 1 28)) (g_leaf 28 (o_push (.int 6) 30))) (g_node 31 (g_leaf 30 (o_aload 0 31)) (g_leaf 31 (o_getf sh 10 18 34)))) (g_node 36 (g_node 35 (g_leaf 34 (o_iast sh 35)) (g_leaf 35 (o_aload 0 36))) (g_node 39 (g_leaf 36 (o_getf sh 10 1 39)) (g_leaf 39 (o_push (.int 7) 41))))) (g_node 47 (g_node 45 (g_node 42 (g_leaf 41 (o_aload 0 42)) (g_leaf 42 (o_getf sh 10 19 45))) (g_node 46 (g_leaf 45 (o_iast sh 46)) (g_leaf 46 (o_aload 0 47)))) (g_node 52 (g_node 50 (g_leaf 47 (o_getf sh 10 1 50)) (g_leaf 50 (o_push (.int 8) 52))) (g_node 53 (g_leaf 52 (o_dup2 53)) (g_node 54 (g_leaf 53 (o_iald sh g_xi 54)) (g_leaf 54 (o_push (.int 1) 55)))))))) (g_node 80 (g_node 66 (g_node 59 (g_node 57 (g_node 56 (g_leaf 55 (o_iadd 56)) (g_leaf 56 (o_iast sh 57))) (g_node 58 (g_leaf 57 (o_push (.int 0) 58)) (g_leaf 58 (o_istore 2 59)))) (g_node 62 (g_node 60 (g_leaf 59 (o_iload 2 60)) (g_leaf 60 (o_push (.int 8) 62))) (g_node 65 (g_leaf 62 (o_ic_ge 154 65)) (g_leaf 65 (o_aload 0 66))))) (g_node 73 (g_node 71 (g_node 69 (g_leaf 66 (o_getf sh 10 1 69)) (g_leaf 69 (o_push (.int 122) 71))) (g_node 72 (g_leaf 71 (o_push (.int 3) 72)) (g_leaf 72 (o_iload 2 73)))) (g_node 75 (g_node 74 (g_leaf 73 (o_imul 74)) (g_leaf 74 (o_iadd 75))) (g_node 76 (g_leaf 75 (o_aload 0 76)) (g_node 79 (g_leaf 76 (o_getf sh 10 11 79)) (g_leaf 79 (o_iload 2 80))))))) (g_node 92 (g_node 86 (g_node 82 (g_node 81 (g_leaf 80 (o_iald sh g_xi 81)) (g_leaf 81 (o_iast sh 82))) (g_node 83 (g_leaf 82 (o_aload 0 83)) (g_leaf 83 (o_getf sh 10 1 86)))) (g_node 89 (g_node 88 (g_leaf 86 (o_push (.int 122) 88)) (g_leaf 88 (o_push (.int 3) 89))) (g_node 90 (g_leaf 89 (o_iload 2 90)) (g_node 91 (g_leaf 90 (o_imul 91)) (g_leaf 91 (o_iadd 92)))))) (g_node 98 (g_node 94 (g_node 93 (g_leaf 92 (o_push (.int 1) 93)) (g_leaf 93 (o_iadd 94))) (g_node 95 (g_leaf 94 (o_aload 0 95)) (g_leaf 95 (o_getf sh 10 12 98)))) (g_node 100 (g_node 99 (g_leaf 98 (o_iload 2 99)) (g_leaf 99 (o_iald sh g_xi 100))) (g_node 101 (g_leaf 100 (o_iast sh 101)) (g_node 102 (g_leaf 101 (o_aload 0 102)) (g_leaf 102 (o_getf sh 10 1 105))))))))) (g_node 161 (g_node 129 (g_node 114 (g_node 110 (g_node 108 (g_node 107 (g_leaf 105 (o_push (.int 122) 107)) (g_leaf 107 (o_push (.int 3) 108))) (g_node 109 (g_leaf 108 (o_iload 2 109)) (g_leaf 109 (o_imul 110)))) (g_node 112 (g_node 111 (g_leaf 110 (o_iadd 111)) (g_leaf 111 (o_push (.int 2) 112))) (g_node 113 (g_leaf 112 (o_iadd 113)) (g_leaf 113 (o_aload 0 114))))) (g_node 120 (g_node 118 (g_node 117 (g_leaf 114 (o_getf sh 10 13 117)) (g_leaf 117 (o_iload 2 118))) (g_node 119 (g_leaf 118 (o_iald sh g_xi 119)) (g_leaf 119 (o_iast sh 120)))) (g_node 124 (g_node 121 (g_leaf 120 (o_aload 0 121)) (g_leaf 121 (o_getf sh 10 1 124))) (g_node 127 (g_leaf 124 (o_push (.int 146) 127)) (g_node 128 (g_leaf 127 (o_iload 2 128)) (g_leaf 128 (o_iadd 129))))))) (g_node 146 (g_node 137 (g_node 131 (g_node 130 (g_leaf 129 (o_iload 2 130)) (g_leaf 130 (o_aload 0 131))) (g_node 134 (g_leaf 131 (o_getf sh 10 18 134)) (g_leaf 134 (o_ic_ge 146 137)))) (g_node 141 (g_node 138 (g_leaf 137 (o_aload 0 138)) (g_leaf 138 (o_getf sh 10 15 141))) (g_node 142 (g_leaf 141 (o_iload 2 142)) (g_node 143 (g_leaf 142 (o_iald sh g_xi 143)) (g_leaf 143 (o_goto 147)))))) (g_node 154 (g_node 148 (g_node 147 (g_leaf 146 (o_push (.int 0) 147)) (g_leaf 147 (o_iast sh 148))) (g_node 151 (g_leaf 148 (o_iinc 2 1 151)) (g_leaf 151 (o_goto 59)))) (g_node 156 (g_node 155 (g_leaf 154 (o_push (.int 1) 155)) (g_leaf 155 (o_istore 2 156))) (g_node 157 (g_leaf 156 (o_iload 2 157)) (g_node 158 (g_leaf 157 (o_aload 0 158)) (g_leaf 158 (o_getf sh 10 1 161)))))))) (g_node 187 (g_node 173 (g_node 167 (g_node 163 (g_node 162 (g_leaf 161 (o_push (.int 0) 162)) (g_leaf 162 (o_iald sh g_xi 163))) (g_node 166 (g_leaf 163 (o_ic_ge 211 166)) (g_leaf 166 (o_aload 0 167)))) (g_node 169 (g_node 168 (g_leaf 167 (o_iload 2 168)) (g_leaf 168 (o_push (.int 3) 169))) (g_node 172 (g_leaf 169 (o_callV sh 10 125 3 172)) (g_leaf 172 (o_aload 0 173))))) (g_node 179 (g_node 177 (g_node 176 (g_leaf 173 (o_getf sh 10 16 176)) (g_leaf 176 (o_iload 2 177))) (g_node 178 (g_leaf 177 (o_iald sh g_xi 178)) (g_leaf 178 (o_iadd 179)))) (g_node 181 (g_node 180 (g_leaf 179 (o_istore 3 180)) (g_leaf 180 (o_aload 0 181))) (g_node 184 (g_leaf 181 (o_getf sh 10 1 184)) (g_node 186 (g_leaf 184 (o_push (.int 16) 186)) (g_leaf 186 (o_push (.int 5) 187))))))) (g_node 200 (g_node 191 (g_node 189 (g_node 188 (g_leaf 187 (o_iload 2 188)) (g_leaf 188 (o_imul 189))) (g_node 190 (g_leaf 189 (o_iadd 190)) (g_leaf 190 (o_push (.int 3) 191)))) (g_node 193 (g_node 192 (g_leaf 191 (o_iadd 192)) (g_leaf 192 (o_iload 3 193))) (g_node 195 (g_leaf 193 (o_push (.int 99) 195)) (g_node 198 (g_leaf 195 (o_ic_le 203 198)) (g_leaf 198 (o_push (.int 99) 200)))))) (g_node 208 (g_node 204 (g_node 203 (g_leaf 200 (o_goto 204)) (g_leaf 203 (o_iload 3 204))) (g_node 205 (g_leaf 204 (o_iast sh 205)) (g_leaf 205 (o_iinc 2 1 208)))) (g_node 212 (g_node 211 (g_leaf 208 (o_goto 156)) (g_leaf 211 (o_aload 0 212))) (g_node 213 (g_leaf 212 (o_push (.int 0) 213)) (g_node 216 (g_leaf 213 (o_callV sh 10 174 2 216)) (g_leaf 216 (o_iret))))))))))
def t_X10_mind (sh : g_Sh) : Nat → Option g_Op := (g_node 17 (g_node 9 (g_node 2 (g_node 1 (g_leaf 0 (o_iload 2 1)) (g_leaf 1 (o_push (.int 4) 2))) (g_node 5 (g_leaf 2 (o_callS 120 2 5)) (g_node 8 (g_leaf 5 (o_if_ne 15 8)) (g_leaf 8 (o_aload 0 9))))) (g_node 14 (g_node 11 (g_leaf 9 (o_push (.int (-2)) 11)) (g_leaf 11 (o_callV sh 10 119 2 14))) (g_node 15 (g_leaf 14 (o_iret)) (g_node 16 (g_leaf 15 (o_aload 0 16)) (g_leaf 16 (o_iload 1 17)))))) (g_node 26 (g_node 21 (g_node 20 (g_leaf 17 (o_callVv sh 10 173 2 20)) (g_leaf 20 (o_iload 2 21))) (g_node 22 (g_leaf 21 (o_push (.int 3) 22)) (g_node 25 (g_leaf 22 (o_ic_ne 32 25)) (g_leaf 25 (o_aload 0 26))))) (g_node 33 (g_node 29 (g_leaf 26 (o_getf sh 10 19 29)) (g_node 32 (g_leaf 29 (o_goto 37)) (g_leaf 32 (o_aload 0 33)))) (g_node 34 (g_leaf 33 (o_iload 2 34)) (g_node 37 (g_leaf 34 (o_callV sh 10 174 2 37)) (g_leaf 37 (o_iret)))))))
def t_X10_of (sh : g_Sh) : Nat → Option g_Op := (g_node 38 (g_node 16 (g_node 9 (g_node 2 (g_node 1 (g_leaf 0 (o_aload 0 1)) (g_leaf 1 (o_iload 1 2))) (g_node 5 (g_leaf 2 (o_callV sh 10 124 2 5)) (g_node 8 (g_leaf 5 (o_if_ne 14 8)) (g_leaf 8 (o_aload 0 9))))) (g_node 13 (g_node 10 (g_leaf 9 (o_push (.int (-1)) 10)) (g_leaf 10 (o_callV sh 10 119 2 13))) (g_node 14 (g_leaf 13 (o_iret)) (g_node 15 (g_leaf 14 (o_iload 2 15)) (g_leaf 15 (o_push (.int 3) 16)))))) (g_node 28 (g_node 22 (g_node 19 (g_leaf 16 (o_callS 120 2 19)) (g_leaf 19 (o_if_ne 29 22))) (g_node 23 (g_leaf 22 (o_aload 0 23)) (g_node 25 (g_leaf 23 (o_push (.int (-2)) 25)) (g_leaf 25 (o_callV sh 10 119 2 28))))) (g_node 33 (g_node 29 (g_leaf 28 (o_iret)) (g_node 30 (g_leaf 29 (o_aload 0 30)) (g_leaf 30 (o_getf sh 10 1 33)))) (g_node 34 (g_leaf 33 (o_push (.int 4) 34)) (g_node 35 (g_leaf 34 (o_iald sh g_xi 35)) (g_leaf 35 (o_if_eq 48 38))))))) (g_node 57 (g_node 45 (g_node 40 (g_node 39 (g_leaf 38 (o_iload 1 39)) (g_leaf 39 (o_aload 0 40))) (g_node 43 (g_leaf 40 (o_getf sh 10 1 43)) (g_node 44 (g_leaf 43 (o_push (.int 5) 44)) (g_leaf 44 (o_iald sh g_xi 45))))) (g_node 49 (g_node 48 (g_leaf 45 (o_ic_lt 57 48)) (g_leaf 48 (o_aload 0 49))) (g_node 51 (g_leaf 49 (o_push (.int (-3)) 51)) (g_node 54 (g_leaf 51 (o_callV sh 10 119 2 54)) (g_leaf 54 (o_goto 70)))))) (g_node 65 (g_node 61 (g_node 58 (g_leaf 57 (o_aload 0 58)) (g_leaf 58 (o_getf sh 10 1 61))) (g_node 63 (g_leaf 61 (o_push (.int 122) 63)) (g_node 64 (g_leaf 63 (o_push (.int 3) 64)) (g_leaf 64 (o_iload 1 65))))) (g_node 68 (g_node 66 (g_leaf 65 (o_imul 66)) (g_node 67 (g_leaf 66 (o_iadd 67)) (g_leaf 67 (o_iload 2 68)))) (g_node 69 (g_leaf 68 (o_iadd 69)) (g_node 70 (g_leaf 69 (o_iald sh g_xi 70)) (g_leaf 70 (o_iret))))))))
def t_X10_found (sh : g_Sh) : Nat → Option g_Op := (g_node 27 (g_node 12 (g_node 5 (g_node 1 (g_leaf 0 (o_iload 1 1)) (g_node 4 (g_leaf 1 (o_if_ge 11 4)) (g_leaf 4 (o_aload 0 5)))) (g_node 10 (g_node 7 (g_leaf 5 (o_push (.int (-4)) 7)) (g_leaf 7 (o_callV sh 10 119 2 10))) (g_node 11 (g_leaf 10 (o_iret)) (g_leaf 11 (o_aload 0 12))))) (g_node 20 (g_node 16 (g_node 15 (g_leaf 12 (o_getf sh 10 1 15)) (g_leaf 15 (o_push (.int 4) 16))) (g_node 17 (g_leaf 16 (o_iald sh g_xi 17)) (g_leaf 17 (o_if_ne 27 20)))) (g_node 23 (g_node 21 (g_leaf 20 (o_aload 0 21)) (g_leaf 21 (o_push (.int (-3)) 23))) (g_node 26 (g_leaf 23 (o_callV sh 10 119 2 26)) (g_leaf 26 (o_iret)))))) (g_node 39 (g_node 32 (g_node 28 (g_leaf 27 (o_iload 1 28)) (g_node 29 (g_leaf 28 (o_aload 0 29)) (g_leaf 29 (o_getf sh 10 1 32)))) (g_node 35 (g_node 34 (g_leaf 32 (o_push (.int 6) 34)) (g_leaf 34 (o_iald sh g_xi 35))) (g_node 38 (g_leaf 35 (o_ic_ge 51 38)) (g_leaf 38 (o_aload 0 39))))) (g_node 47 (g_node 45 (g_node 42 (g_leaf 39 (o_getf sh 10 1 42)) (g_leaf 42 (o_push (.int 146) 45))) (g_node 46 (g_leaf 45 (o_iload 1 46)) (g_leaf 46 (o_iadd 47)))) (g_node 51 (g_node 48 (g_leaf 47 (o_iald sh g_xi 48)) (g_leaf 48 (o_goto 53))) (g_node 53 (g_leaf 51 (o_push (.int (-9)) 53)) (g_leaf 53 (o_iret)))))))
def t_X10_tableOf (sh : g_Sh) : Nat → Option g_Op := (g_node 34 (g_node 16 (g_node 7 (g_node 2 (g_node 1 (g_leaf 0 (o_push (.int 0) 1)) (g_leaf 1 (o_istore 3 2))) (g_node 3 (g_leaf 2 (o_push (.int 1) 3)) (g_node 5 (g_leaf 3 (o_istore 4 5)) (g_leaf 5 (o_iload 4 7))))) (g_node 11 (g_node 8 (g_leaf 7 (o_aload 0 8)) (g_leaf 8 (o_getf sh 10 1 11))) (g_node 12 (g_leaf 11 (o_push (.int 0) 12)) (g_node 13 (g_leaf 12 (o_iald sh g_xi 13)) (g_leaf 13 (o_ic_ge 65 16)))))) (g_node 24 (g_node 18 (g_node 17 (g_leaf 16 (o_iload 3 17)) (g_leaf 17 (o_aload 0 18))) (g_node 20 (g_leaf 18 (o_iload 4 20)) (g_node 21 (g_leaf 20 (o_push (.int 0) 21)) (g_leaf 21 (o_callV sh 10 140 3 24))))) (g_node 28 (g_node 27 (g_leaf 24 (o_if_eq 56 27)) (g_leaf 27 (o_aload 0 28))) (g_node 29 (g_leaf 28 (o_iload 1 29)) (g_node 31 (g_leaf 29 (o_iload 4 31)) (g_leaf 31 (o_callV sh 10 158 3 34))))))) (g_node 50 (g_node 41 (g_node 36 (g_node 35 (g_leaf 34 (o_aload 0 35)) (g_leaf 35 (o_push (.int 2) 36))) (g_node 39 (g_leaf 36 (o_callV sh 10 126 2 39)) (g_node 40 (g_leaf 39 (o_iadd 40)) (g_leaf 40 (o_aload 0 41))))) (g_node 43 (g_node 42 (g_leaf 41 (o_iload 2 42)) (g_leaf 42 (o_push (.int 0) 43))) (g_node 46 (g_leaf 43 (o_callV sh 10 139 3 46)) (g_node 49 (g_leaf 46 (o_ic_ge 56 49)) (g_leaf 49 (o_push (.int 1) 50)))))) (g_node 58 (g_node 53 (g_node 52 (g_leaf 50 (o_iload 4 52)) (g_leaf 52 (o_ishl 53))) (g_node 56 (g_leaf 53 (o_goto 57)) (g_node 57 (g_leaf 56 (o_push (.int 0) 57)) (g_leaf 57 (o_ior 58))))) (g_node 62 (g_node 59 (g_leaf 58 (o_istore 3 59)) (g_leaf 59 (o_iinc 4 1 62))) (g_node 65 (g_leaf 62 (o_goto 5)) (g_node 66 (g_leaf 65 (o_iload 3 66)) (g_leaf 66 (o_iret))))))))
def t_X10_table (sh : g_Sh) : Nat → Option g_Op := (g_node 26 (g_node 13 (g_node 5 (g_node 1 (g_leaf 0 (o_aload 0 1)) (g_node 2 (g_leaf 1 (o_iload 1 2)) (g_leaf 2 (o_callV sh 10 124 2 5)))) (g_node 9 (g_node 8 (g_leaf 5 (o_if_eq 16 8)) (g_leaf 8 (o_aload 0 9))) (g_node 10 (g_leaf 9 (o_iload 2 10)) (g_leaf 10 (o_callV sh 10 122 2 13))))) (g_node 18 (g_node 16 (g_leaf 13 (o_if_ne 22 16)) (g_node 17 (g_leaf 16 (o_aload 0 17)) (g_leaf 17 (o_push (.int (-1)) 18)))) (g_node 22 (g_node 21 (g_leaf 18 (o_callV sh 10 119 2 21)) (g_leaf 21 (o_iret))) (g_node 23 (g_leaf 22 (o_aload 0 23)) (g_leaf 23 (o_callVv sh 10 138 1 26)))))) (g_node 37 (g_node 29 (g_node 27 (g_leaf 26 (o_aload 0 27)) (g_node 28 (g_leaf 27 (o_iload 2 28)) (g_leaf 28 (o_push (.int 0) 29)))) (g_node 35 (g_node 32 (g_leaf 29 (o_callV sh 10 140 3 32)) (g_leaf 32 (o_if_eq 44 35))) (g_node 36 (g_leaf 35 (o_aload 0 36)) (g_leaf 36 (o_iload 1 37))))) (g_node 44 (g_node 38 (g_leaf 37 (o_iload 2 38)) (g_node 41 (g_leaf 38 (o_callV sh 10 179 3 41)) (g_leaf 41 (o_goto 50)))) (g_node 47 (g_node 45 (g_leaf 44 (o_aload 0 45)) (g_leaf 45 (o_push (.int (-3)) 47))) (g_node 50 (g_leaf 47 (o_callV sh 10 119 2 50)) (g_leaf 50 (o_iret)))))))
def t_X10_mayGoTo (sh : g_Sh) : Nat → Option g_Op := (g_node 31 (g_node 14 (g_node 7 (g_node 2 (g_node 1 (g_leaf 0 (o_push (.int 0) 1)) (g_leaf 1 (o_istore 2 2))) (g_node 3 (g_leaf 2 (o_iload 2 3)) (g_node 4 (g_leaf 3 (o_aload 0 4)) (g_leaf 4 (o_getf sh 10 1 7))))) (g_node 9 (g_node 8 (g_leaf 7 (o_push (.int 2) 8)) (g_leaf 8 (o_iald sh g_xi 9))) (g_node 12 (g_leaf 9 (o_ic_ge 66 12)) (g_node 13 (g_leaf 12 (o_push (.int 1) 13)) (g_leaf 13 (o_istore 3 14)))))) (g_node 21 (g_node 16 (g_node 15 (g_leaf 14 (o_iload 3 15)) (g_leaf 15 (o_aload 0 16))) (g_node 19 (g_leaf 16 (o_getf sh 10 1 19)) (g_node 20 (g_leaf 19 (o_push (.int 0) 20)) (g_leaf 20 (o_iald sh g_xi 21))))) (g_node 26 (g_node 24 (g_leaf 21 (o_ic_ge 60 24)) (g_node 25 (g_leaf 24 (o_iload 3 25)) (g_leaf 25 (o_iload 1 26)))) (g_node 29 (g_leaf 26 (o_ic_eq 54 29)) (g_node 30 (g_leaf 29 (o_aload 0 30)) (g_leaf 30 (o_iload 3 31))))))) (g_node 47 (g_node 40 (g_node 35 (g_node 32 (g_leaf 31 (o_push (.int 1) 32)) (g_leaf 32 (o_callV sh 10 125 3 35))) (g_node 38 (g_leaf 35 (o_if_le 54 38)) (g_node 39 (g_leaf 38 (o_aload 0 39)) (g_leaf 39 (o_iload 2 40))))) (g_node 44 (g_node 41 (g_leaf 40 (o_iload 1 41)) (g_leaf 41 (o_callV sh 10 179 3 44))) (g_node 45 (g_leaf 44 (o_iload 3 45)) (g_node 46 (g_leaf 45 (o_ishr 46)) (g_leaf 46 (o_push (.int 1) 47)))))) (g_node 54 (g_node 49 (g_node 48 (g_leaf 47 (o_iand 48)) (g_leaf 48 (o_push (.int 1) 49))) (g_node 52 (g_leaf 49 (o_ic_ne 54 52)) (g_node 53 (g_leaf 52 (o_push (.int 0) 53)) (g_leaf 53 (o_nret .boolean))))) (g_node 63 (g_node 57 (g_leaf 54 (o_iinc 3 1 57)) (g_node 60 (g_leaf 57 (o_goto 14)) (g_leaf 60 (o_iinc 2 1 63)))) (g_node 66 (g_leaf 63 (o_goto 2)) (g_node 67 (g_leaf 66 (o_push (.int 1) 67)) (g_leaf 67 (o_nret .boolean))))))))
def t_X10_mayGo (sh : g_Sh) : Nat → Option g_Op := (g_node 28 (g_node 13 (g_node 6 (g_node 4 (g_node 1 (g_leaf 0 (o_aload 0 1)) (g_leaf 1 (o_callVv sh 10 138 1 4))) (g_node 5 (g_leaf 4 (o_push (.int 0) 5)) (g_leaf 5 (o_istore 1 6)))) (g_node 8 (g_node 7 (g_leaf 6 (o_push (.int 1) 7)) (g_leaf 7 (o_istore 2 8))) (g_node 9 (g_leaf 8 (o_iload 2 9)) (g_node 10 (g_leaf 9 (o_aload 0 10)) (g_leaf 10 (o_getf sh 10 1 13)))))) (g_node 19 (g_node 15 (g_node 14 (g_leaf 13 (o_push (.int 0) 14)) (g_leaf 14 (o_iald sh g_xi 15))) (g_node 18 (g_leaf 15 (o_ic_ge 58 18)) (g_leaf 18 (o_aload 0 19)))) (g_node 21 (g_node 20 (g_leaf 19 (o_iload 2 20)) (g_leaf 20 (o_push (.int 0) 21))) (g_node 24 (g_leaf 21 (o_callV sh 10 140 3 24)) (g_node 27 (g_leaf 24 (o_if_eq 52 27)) (g_leaf 27 (o_aload 0 28))))))) (g_node 43 (g_node 36 (g_node 32 (g_node 29 (g_leaf 28 (o_iload 2 29)) (g_leaf 29 (o_callV sh 10 181 2 32))) (g_node 35 (g_leaf 32 (o_if_eq 52 35)) (g_leaf 35 (o_aload 0 36)))) (g_node 38 (g_node 37 (g_leaf 36 (o_push (.int 0) 37)) (g_leaf 37 (o_iload 2 38))) (g_node 41 (g_leaf 38 (o_callV sh 10 139 3 41)) (g_node 42 (g_leaf 41 (o_aload 0 42)) (g_leaf 42 (o_push (.int 0) 43)))))) (g_node 51 (g_node 47 (g_node 44 (g_leaf 43 (o_iload 1 44)) (g_leaf 44 (o_callV sh 10 139 3 47))) (g_node 50 (g_leaf 47 (o_ic_le 52 50)) (g_leaf 50 (o_iload 2 51)))) (g_node 55 (g_node 52 (g_leaf 51 (o_istore 1 52)) (g_leaf 52 (o_iinc 2 1 55))) (g_node 58 (g_leaf 55 (o_goto 8)) (g_node 59 (g_leaf 58 (o_iload 1 59)) (g_leaf 59 (o_iret))))))))
def t_X10_bits (sh : g_Sh) : Nat → Option g_Op := (g_node 11 (g_node 4 (g_node 2 (g_node 1 (g_leaf 0 (o_push (.int 0) 1)) (g_leaf 1 (o_istore 1 2))) (g_node 3 (g_leaf 2 (o_iload 0 3)) (g_leaf 3 (o_istore 2 4)))) (g_node 8 (g_node 5 (g_leaf 4 (o_iload 2 5)) (g_leaf 5 (o_if_le 21 8))) (g_node 9 (g_leaf 8 (o_iload 1 9)) (g_node 10 (g_leaf 9 (o_iload 2 10)) (g_leaf 10 (o_push (.int 1) 11)))))) (g_node 16 (g_node 13 (g_node 12 (g_leaf 11 (o_iand 12)) (g_leaf 12 (o_iadd 13))) (g_node 14 (g_leaf 13 (o_istore 1 14)) (g_node 15 (g_leaf 14 (o_iload 2 15)) (g_leaf 15 (o_push (.int 1) 16))))) (g_node 18 (g_node 17 (g_leaf 16 (o_ishr 17)) (g_leaf 17 (o_istore 2 18))) (g_node 21 (g_leaf 18 (o_goto 4)) (g_node 22 (g_leaf 21 (o_iload 1 22)) (g_leaf 22 (o_iret)))))))
def t_X10_allSeen (sh : g_Sh) : Nat → Option g_Op := (g_node 151 (g_node 73 (g_node 34 (g_node 15 (g_node 7 (g_node 4 (g_node 1 (g_leaf 0 (o_aload 0 1)) (g_leaf 1 (o_callVv sh 10 138 1 4))) (g_node 5 (g_leaf 4 (o_push (.int 0) 5)) (g_node 6 (g_leaf 5 (o_istore 1 6)) (g_leaf 6 (o_push (.int 0) 7))))) (g_node 10 (g_node 8 (g_leaf 7 (o_istore 2 8)) (g_node 9 (g_leaf 8 (o_iload 2 9)) (g_leaf 9 (o_aload 0 10)))) (g_node 13 (g_leaf 10 (o_getf sh 10 1 13)) (g_node 14 (g_leaf 13 (o_push (.int 0) 14)) (g_leaf 14 (o_iald sh g_xi 15)))))) (g_node 22 (g_node 19 (g_node 18 (g_leaf 15 (o_ic_ge 46 18)) (g_leaf 18 (o_iload 1 19))) (g_node 20 (g_leaf 19 (o_aload 0 20)) (g_node 21 (g_leaf 20 (o_push (.int 0) 21)) (g_leaf 21 (o_iload 2 22))))) (g_node 29 (g_node 25 (g_leaf 22 (o_callV sh 10 140 3 25)) (g_node 28 (g_leaf 25 (o_if_eq 37 28)) (g_leaf 28 (o_aload 0 29)))) (g_node 30 (g_leaf 29 (o_iload 2 30)) (g_node 31 (g_leaf 30 (o_push (.int 4) 31)) (g_leaf 31 (o_callV sh 10 125 3 34))))))) (g_node 55 (g_node 43 (g_node 38 (g_node 37 (g_leaf 34 (o_goto 38)) (g_leaf 37 (o_push (.int 0) 38))) (g_node 39 (g_leaf 38 (o_ior 39)) (g_node 40 (g_leaf 39 (o_istore 1 40)) (g_leaf 40 (o_iinc 2 1 43))))) (g_node 48 (g_node 46 (g_leaf 43 (o_goto 8)) (g_node 47 (g_leaf 46 (o_push (.int 0) 47)) (g_leaf 47 (o_istore 2 48)))) (g_node 49 (g_leaf 48 (o_iload 2 49)) (g_node 52 (g_leaf 49 (o_push (.int 2048) 52)) (g_leaf 52 (o_ic_ge 76 55)))))) (g_node 63 (g_node 59 (g_node 56 (g_leaf 55 (o_aload 0 56)) (g_leaf 56 (o_getf sh 10 26 59))) (g_node 60 (g_leaf 59 (o_iload 2 60)) (g_node 62 (g_leaf 60 (o_push (.int 100000) 62)) (g_leaf 62 (o_iast sh 63))))) (g_node 68 (g_node 64 (g_leaf 63 (o_aload 0 64)) (g_node 67 (g_leaf 64 (o_getf sh 10 27 67)) (g_leaf 67 (o_iload 2 68)))) (g_node 69 (g_leaf 68 (o_push (.int 0) 69)) (g_node 70 (g_leaf 69 (o_zast sh 70)) (g_leaf 70 (o_iinc 2 1 73)))))))) (g_node 110 (g_node 91 (g_node 82 (g_node 77 (g_node 76 (g_leaf 73 (o_goto 48)) (g_leaf 76 (o_aload 0 77))) (g_node 80 (g_leaf 77 (o_getf sh 10 26 80)) (g_node 81 (g_leaf 80 (o_aload 0 81)) (g_leaf 81 (o_push (.int 0) 82))))) (g_node 87 (g_node 83 (g_leaf 82 (o_push (.int 4) 83)) (g_node 86 (g_leaf 83 (o_callV sh 10 125 3 86)) (g_leaf 86 (o_push (.int 0) 87)))) (g_node 88 (g_leaf 87 (o_iast sh 88)) (g_node 90 (g_leaf 88 (o_push (.int (-9)) 90)) (g_leaf 90 (o_istore 2 91)))))) (g_node 100 (g_node 93 (g_node 92 (g_leaf 91 (o_push (.int 0) 92)) (g_leaf 92 (o_istore 3 93))) (g_node 94 (g_leaf 93 (o_iload 3 94)) (g_node 97 (g_leaf 94 (o_push (.int 2048) 97)) (g_leaf 97 (o_ic_ge 147 100))))) (g_node 105 (g_node 101 (g_leaf 100 (o_aload 0 101)) (g_node 104 (g_leaf 101 (o_getf sh 10 27 104)) (g_leaf 104 (o_iload 3 105)))) (g_node 106 (g_leaf 105 (o_zald sh 106)) (g_node 109 (g_leaf 106 (o_if_ne 141 109)) (g_leaf 109 (o_aload 0 110))))))) (g_node 130 (g_node 120 (g_node 114 (g_node 113 (g_leaf 110 (o_getf sh 10 26 113)) (g_leaf 113 (o_iload 3 114))) (g_node 115 (g_leaf 114 (o_iald sh g_xi 115)) (g_node 117 (g_leaf 115 (o_push (.int 100000) 117)) (g_leaf 117 (o_ic_ge 141 120))))) (g_node 125 (g_node 121 (g_leaf 120 (o_iload 2 121)) (g_node 124 (g_leaf 121 (o_if_lt 139 124)) (g_leaf 124 (o_aload 0 125)))) (g_node 128 (g_leaf 125 (o_getf sh 10 26 128)) (g_node 129 (g_leaf 128 (o_iload 3 129)) (g_leaf 129 (o_iald sh g_xi 130)))))) (g_node 139 (g_node 134 (g_node 131 (g_leaf 130 (o_aload 0 131)) (g_leaf 131 (o_getf sh 10 26 134))) (g_node 135 (g_leaf 134 (o_iload 2 135)) (g_node 136 (g_leaf 135 (o_iald sh g_xi 136)) (g_leaf 136 (o_ic_ge 141 139))))) (g_node 144 (g_node 140 (g_leaf 139 (o_iload 3 140)) (g_node 141 (g_leaf 140 (o_istore 2 141)) (g_leaf 141 (o_iinc 3 1 144)))) (g_node 147 (g_leaf 144 (o_goto 93)) (g_node 148 (g_leaf 147 (o_iload 2 148)) (g_leaf 148 (o_if_ge 154 151))))))))) (g_node 226 (g_node 184 (g_node 169 (g_node 159 (g_node 154 (g_node 153 (g_leaf 151 (o_push (.int (-9)) 153)) (g_leaf 153 (o_iret))) (g_node 155 (g_leaf 154 (o_iload 2 155)) (g_node 158 (g_leaf 155 (o_push (.int 256) 158)) (g_leaf 158 (o_irem 159))))) (g_node 164 (g_node 160 (g_leaf 159 (o_iload 1 160)) (g_node 163 (g_leaf 160 (o_ic_ne 170 163)) (g_leaf 163 (o_aload 0 164)))) (g_node 167 (g_leaf 164 (o_getf sh 10 26 167)) (g_node 168 (g_leaf 167 (o_iload 2 168)) (g_leaf 168 (o_iald sh g_xi 169)))))) (g_node 176 (g_node 171 (g_node 170 (g_leaf 169 (o_iret)) (g_leaf 170 (o_aload 0 171))) (g_node 174 (g_leaf 171 (o_getf sh 10 27 174)) (g_node 175 (g_leaf 174 (o_iload 2 175)) (g_leaf 175 (o_push (.int 1) 176))))) (g_node 181 (g_node 177 (g_leaf 176 (o_zast sh 177)) (g_node 178 (g_leaf 177 (o_iload 2 178)) (g_leaf 178 (o_push (.int 256) 181)))) (g_node 182 (g_leaf 181 (o_idiv 182)) (g_node 183 (g_leaf 182 (o_istore 3 183)) (g_leaf 183 (o_push (.int 0) 184))))))) (g_node 204 (g_node 193 (g_node 188 (g_node 186 (g_leaf 184 (o_istore 4 186)) (g_leaf 186 (o_iload 4 188))) (g_node 189 (g_leaf 188 (o_aload 0 189)) (g_node 192 (g_leaf 189 (o_getf sh 10 1 192)) (g_leaf 192 (o_push (.int 0) 193))))) (g_node 199 (g_node 194 (g_leaf 193 (o_iald sh g_xi 194)) (g_node 197 (g_leaf 194 (o_ic_ge 303 197)) (g_leaf 197 (o_iload 4 199)))) (g_node 200 (g_leaf 199 (o_iload 3 200)) (g_node 203 (g_leaf 200 (o_ic_eq 297 203)) (g_leaf 203 (o_aload 0 204)))))) (g_node 213 (g_node 209 (g_node 207 (g_leaf 204 (o_getf sh 10 10 207)) (g_leaf 207 (o_push (.int 8) 209))) (g_node 210 (g_leaf 209 (o_iload 3 210)) (g_node 211 (g_leaf 210 (o_imul 211)) (g_leaf 211 (o_iload 4 213))))) (g_node 217 (g_node 214 (g_leaf 213 (o_iadd 214)) (g_node 215 (g_leaf 214 (o_iald sh g_xi 215)) (g_leaf 215 (o_push (.int 100000) 217)))) (g_node 220 (g_leaf 217 (o_ic_lt 223 220)) (g_node 223 (g_leaf 220 (o_goto 297)) (g_leaf 223 (o_push (.int 256) 226)))))))) (g_node 261 (g_node 243 (g_node 234 (g_node 229 (g_node 228 (g_leaf 226 (o_iload 4 228)) (g_leaf 228 (o_imul 229))) (g_node 230 (g_leaf 229 (o_iload 2 230)) (g_node 233 (g_leaf 230 (o_push (.int 256) 233)) (g_leaf 233 (o_irem 234))))) (g_node 238 (g_node 235 (g_leaf 234 (o_aload 0 235)) (g_node 237 (g_leaf 235 (o_iload 4 237)) (g_leaf 237 (o_push (.int 4) 238)))) (g_node 241 (g_leaf 238 (o_callV sh 10 125 3 241)) (g_node 242 (g_leaf 241 (o_ior 242)) (g_leaf 242 (o_iadd 243)))))) (g_node 251 (g_node 246 (g_node 245 (g_leaf 243 (o_istore 5 245)) (g_leaf 245 (o_aload 0 246))) (g_node 249 (g_leaf 246 (o_getf sh 10 26 249)) (g_node 250 (g_leaf 249 (o_iload 2 250)) (g_leaf 250 (o_iald sh g_xi 251))))) (g_node 257 (g_node 252 (g_leaf 251 (o_aload 0 252)) (g_node 255 (g_leaf 252 (o_getf sh 10 10 255)) (g_leaf 255 (o_push (.int 8) 257)))) (g_node 258 (g_leaf 257 (o_iload 3 258)) (g_node 259 (g_leaf 258 (o_imul 259)) (g_leaf 259 (o_iload 4 261))))))) (g_node 280 (g_node 267 (g_node 263 (g_node 262 (g_leaf 261 (o_iadd 262)) (g_leaf 262 (o_iald sh g_xi 263))) (g_node 264 (g_leaf 263 (o_iadd 264)) (g_node 266 (g_leaf 264 (o_istore 6 266)) (g_leaf 266 (o_aload 0 267))))) (g_node 274 (g_node 270 (g_leaf 267 (o_getf sh 10 26 270)) (g_node 272 (g_leaf 270 (o_iload 5 272)) (g_leaf 272 (o_iload 6 274)))) (g_node 275 (g_leaf 274 (o_aload 0 275)) (g_node 278 (g_leaf 275 (o_getf sh 10 26 278)) (g_leaf 278 (o_iload 5 280)))))) (g_node 293 (g_node 286 (g_node 281 (g_leaf 280 (o_iald sh g_xi 281)) (g_node 284 (g_leaf 281 (o_ic_ge 289 284)) (g_leaf 284 (o_iload 6 286)))) (g_node 289 (g_leaf 286 (o_goto 296)) (g_node 290 (g_leaf 289 (o_aload 0 290)) (g_leaf 290 (o_getf sh 10 26 293))))) (g_node 297 (g_node 295 (g_leaf 293 (o_iload 5 295)) (g_node 296 (g_leaf 295 (o_iald sh g_xi 296)) (g_leaf 296 (o_iast sh 297)))) (g_node 300 (g_leaf 297 (o_iinc 4 1 300)) (g_node 303 (g_leaf 300 (o_goto 186)) (g_leaf 303 (o_goto 88))))))))))
def t_X10_fewest (sh : g_Sh) : Nat → Option g_Op := (g_node 42 (g_node 16 (g_node 9 (g_node 5 (g_node 1 (g_leaf 0 (o_push (.int 1) 1)) (g_node 2 (g_leaf 1 (o_aload 0 2)) (g_leaf 2 (o_getf sh 10 1 5)))) (g_node 7 (g_node 6 (g_leaf 5 (o_push (.int 0) 6)) (g_leaf 6 (o_iald sh g_xi 7))) (g_node 8 (g_leaf 7 (o_ishl 8)) (g_leaf 8 (o_push (.int 1) 9))))) (g_node 12 (g_node 10 (g_leaf 9 (o_isub 10)) (g_node 11 (g_leaf 10 (o_istore 1 11)) (g_leaf 11 (o_iload 1 12)))) (g_node 14 (g_node 13 (g_leaf 12 (o_istore 2 13)) (g_leaf 13 (o_iload 1 14))) (g_node 15 (g_leaf 14 (o_istore 3 15)) (g_leaf 15 (o_iload 3 16)))))) (g_node 28 (g_node 22 (g_node 19 (g_leaf 16 (o_if_le 97 19)) (g_node 20 (g_leaf 19 (o_push (.int 0) 20)) (g_leaf 20 (o_istore 4 22)))) (g_node 25 (g_node 23 (g_leaf 22 (o_push (.int 0) 23)) (g_leaf 23 (o_istore 5 25))) (g_node 27 (g_leaf 25 (o_iload 5 27)) (g_leaf 27 (o_aload 0 28))))) (g_node 36 (g_node 32 (g_node 31 (g_leaf 28 (o_getf sh 10 1 31)) (g_leaf 31 (o_push (.int 0) 32))) (g_node 33 (g_leaf 32 (o_iald sh g_xi 33)) (g_leaf 33 (o_ic_ge 68 36)))) (g_node 39 (g_node 38 (g_leaf 36 (o_iload 4 38)) (g_leaf 38 (o_iload 3 39))) (g_node 41 (g_leaf 39 (o_iload 5 41)) (g_leaf 41 (o_ishr 42))))))) (g_node 70 (g_node 52 (g_node 45 (g_node 43 (g_leaf 42 (o_push (.int 1) 43)) (g_node 44 (g_leaf 43 (o_iand 44)) (g_leaf 44 (o_push (.int 1) 45)))) (g_node 49 (g_node 48 (g_leaf 45 (o_ic_ne 58 48)) (g_leaf 48 (o_aload 0 49))) (g_node 51 (g_leaf 49 (o_iload 5 51)) (g_leaf 51 (o_push (.int 4) 52))))) (g_node 60 (g_node 58 (g_node 55 (g_leaf 52 (o_callV sh 10 125 3 55)) (g_leaf 55 (o_goto 59))) (g_node 59 (g_leaf 58 (o_push (.int 0) 59)) (g_leaf 59 (o_ior 60)))) (g_node 65 (g_node 62 (g_leaf 60 (o_istore 4 62)) (g_leaf 62 (o_iinc 5 1 65))) (g_node 68 (g_leaf 65 (o_goto 25)) (g_leaf 68 (o_iload 4 70)))))) (g_node 85 (g_node 75 (g_node 71 (g_leaf 70 (o_iload 1 71)) (g_node 74 (g_leaf 71 (o_ic_ne 89 74)) (g_leaf 74 (o_iload 3 75)))) (g_node 79 (g_node 78 (g_leaf 75 (o_callS 183 1 78)) (g_leaf 78 (o_iload 2 79))) (g_node 82 (g_leaf 79 (o_callS 183 1 82)) (g_leaf 82 (o_ic_gt 89 85))))) (g_node 91 (g_node 89 (g_node 86 (g_leaf 85 (o_iload 3 86)) (g_leaf 86 (o_goto 90))) (g_node 90 (g_leaf 89 (o_iload 2 90)) (g_leaf 90 (o_istore 2 91)))) (g_node 97 (g_node 94 (g_leaf 91 (o_iinc 3 (-1) 94)) (g_leaf 94 (o_goto 15))) (g_node 98 (g_leaf 97 (o_iload 2 98)) (g_leaf 98 (o_iret))))))))
def t_X10_findOrders (sh : g_Sh) : Nat → Option g_Op := (g_node 66 (g_node 34 (g_node 15 (g_node 6 (g_node 2 (g_node 1 (g_leaf 0 (o_iload 2 1)) (g_leaf 1 (o_iload 1 2))) (g_node 5 (g_leaf 2 (o_ic_ne 70 5)) (g_leaf 5 (o_aload 0 6)))) (g_node 10 (g_node 7 (g_leaf 6 (o_dup 7)) (g_leaf 7 (o_getf sh 10 33 10))) (g_node 11 (g_leaf 10 (o_push (.int 1) 11)) (g_node 12 (g_leaf 11 (o_iadd 12)) (g_leaf 12 (o_putf sh 10 33 15)))))) (g_node 25 (g_node 19 (g_node 16 (g_leaf 15 (o_aload 0 16)) (g_leaf 16 (o_getf sh 10 33 19))) (g_node 21 (g_leaf 19 (o_push (.int 24) 21)) (g_node 24 (g_leaf 21 (o_ic_ge 69 24)) (g_leaf 24 (o_push (.int 0) 25))))) (g_node 29 (g_node 27 (g_leaf 25 (o_istore 4 27)) (g_leaf 27 (o_iload 4 29))) (g_node 30 (g_leaf 29 (o_iload 1 30)) (g_node 33 (g_leaf 30 (o_ic_ge 69 33)) (g_leaf 33 (o_aload 0 34))))))) (g_node 51 (g_node 43 (g_node 38 (g_node 37 (g_leaf 34 (o_getf sh 10 29 37)) (g_leaf 37 (o_push (.int 4) 38))) (g_node 39 (g_leaf 38 (o_aload 0 39)) (g_node 42 (g_leaf 39 (o_getf sh 10 33 42)) (g_leaf 42 (o_imul 43))))) (g_node 46 (g_node 45 (g_leaf 43 (o_iload 4 45)) (g_leaf 45 (o_iadd 46))) (g_node 47 (g_leaf 46 (o_aload 0 47)) (g_node 50 (g_leaf 47 (o_getf sh 10 29 50)) (g_leaf 50 (o_push (.int 4) 51)))))) (g_node 58 (g_node 55 (g_node 52 (g_leaf 51 (o_aload 0 52)) (g_leaf 52 (o_getf sh 10 33 55))) (g_node 56 (g_leaf 55 (o_push (.int 1) 56)) (g_node 57 (g_leaf 56 (o_isub 57)) (g_leaf 57 (o_imul 58))))) (g_node 61 (g_node 60 (g_leaf 58 (o_iload 4 60)) (g_leaf 60 (o_iadd 61))) (g_node 62 (g_leaf 61 (o_iald sh g_xi 62)) (g_node 63 (g_leaf 62 (o_iast sh 63)) (g_leaf 63 (o_iinc 4 1 66)))))))) (g_node 98 (g_node 82 (g_node 73 (g_node 70 (g_node 69 (g_leaf 66 (o_goto 27)) (g_leaf 69 (o_vret))) (g_node 71 (g_leaf 70 (o_push (.int 1) 71)) (g_leaf 71 (o_istore 4 73)))) (g_node 76 (g_node 75 (g_leaf 73 (o_iload 4 75)) (g_leaf 75 (o_iload 1 76))) (g_node 79 (g_leaf 76 (o_ic_gt 127 79)) (g_node 80 (g_leaf 79 (o_iload 3 80)) (g_leaf 80 (o_iload 4 82)))))) (g_node 89 (g_node 84 (g_node 83 (g_leaf 82 (o_ishr 83)) (g_leaf 83 (o_push (.int 1) 84))) (g_node 85 (g_leaf 84 (o_iand 85)) (g_node 86 (g_leaf 85 (o_push (.int 1) 86)) (g_leaf 86 (o_ic_ne 92 89))))) (g_node 93 (g_node 92 (g_leaf 89 (o_goto 121)) (g_leaf 92 (o_aload 0 93))) (g_node 96 (g_leaf 93 (o_getf sh 10 29 96)) (g_node 97 (g_leaf 96 (o_push (.int 4) 97)) (g_leaf 97 (o_aload 0 98))))))) (g_node 111 (g_node 106 (g_node 102 (g_node 101 (g_leaf 98 (o_getf sh 10 33 101)) (g_leaf 101 (o_imul 102))) (g_node 103 (g_leaf 102 (o_iload 2 103)) (g_node 104 (g_leaf 103 (o_iadd 104)) (g_leaf 104 (o_iload 4 106))))) (g_node 108 (g_node 107 (g_leaf 106 (o_iast sh 107)) (g_leaf 107 (o_aload 0 108))) (g_node 109 (g_leaf 108 (o_iload 1 109)) (g_node 110 (g_leaf 109 (o_iload 2 110)) (g_leaf 110 (o_push (.int 1) 111)))))) (g_node 117 (g_node 113 (g_node 112 (g_leaf 111 (o_iadd 112)) (g_leaf 112 (o_iload 3 113))) (g_node 114 (g_leaf 113 (o_push (.int 1) 114)) (g_node 116 (g_leaf 114 (o_iload 4 116)) (g_leaf 116 (o_ishl 117))))) (g_node 121 (g_node 118 (g_leaf 117 (o_ior 118)) (g_leaf 118 (o_callVv sh 10 186 4 121))) (g_node 124 (g_leaf 121 (o_iinc 4 1 124)) (g_node 127 (g_leaf 124 (o_goto 73)) (g_leaf 127 (o_vret)))))))))
def t_X10_isGame (sh : g_Sh) : Nat → Option g_Op := (g_node 19 (g_node 10 (g_node 5 (g_node 1 (g_leaf 0 (o_iload 1 1)) (g_node 2 (g_leaf 1 (o_aload 0 2)) (g_leaf 2 (o_getf sh 10 1 5)))) (g_node 6 (g_leaf 5 (o_push (.int 0) 6)) (g_node 7 (g_leaf 6 (o_iald sh g_xi 7)) (g_leaf 7 (o_ic_lt 12 10))))) (g_node 13 (g_node 11 (g_leaf 10 (o_push (.int 0) 11)) (g_node 12 (g_leaf 11 (o_nret .boolean)) (g_leaf 12 (o_aload 0 13)))) (g_node 17 (g_node 16 (g_leaf 13 (o_callVv sh 10 138 1 16)) (g_leaf 16 (o_push (.int 1) 17))) (g_node 18 (g_leaf 17 (o_istore 2 18)) (g_leaf 18 (o_iload 2 19)))))) (g_node 29 (g_node 24 (g_node 20 (g_leaf 19 (o_iload 1 20)) (g_node 23 (g_leaf 20 (o_ic_gt 40 23)) (g_leaf 23 (o_aload 0 24)))) (g_node 25 (g_leaf 24 (o_push (.int 0) 25)) (g_node 26 (g_leaf 25 (o_iload 2 26)) (g_leaf 26 (o_callV sh 10 140 3 29))))) (g_node 34 (g_node 32 (g_leaf 29 (o_if_ne 34 32)) (g_node 33 (g_leaf 32 (o_push (.int 0) 33)) (g_leaf 33 (o_nret .boolean)))) (g_node 40 (g_node 37 (g_leaf 34 (o_iinc 2 1 37)) (g_leaf 37 (o_goto 18))) (g_node 41 (g_leaf 40 (o_push (.int 1) 41)) (g_leaf 41 (o_nret .boolean)))))))
def t_X10_findTells (sh : g_Sh) : Nat → Option g_Op := (g_node 43 (g_node 22 (g_node 9 (g_node 5 (g_node 1 (g_leaf 0 (o_aload 0 1)) (g_node 2 (g_leaf 1 (o_push (.int 0) 2)) (g_leaf 2 (o_putf sh 10 33 5)))) (g_node 7 (g_node 6 (g_leaf 5 (o_aload 0 6)) (g_leaf 6 (o_iload 1 7))) (g_node 8 (g_leaf 7 (o_push (.int 0) 8)) (g_leaf 8 (o_push (.int 0) 9))))) (g_node 14 (g_node 12 (g_leaf 9 (o_callVv sh 10 186 4 12)) (g_node 13 (g_leaf 12 (o_push (.int 0) 13)) (g_leaf 13 (o_istore 2 14)))) (g_node 16 (g_node 15 (g_leaf 14 (o_iload 2 15)) (g_leaf 15 (o_aload 0 16))) (g_node 19 (g_leaf 16 (o_getf sh 10 33 19)) (g_leaf 19 (o_ic_ge 90 22)))))) (g_node 32 (g_node 25 (g_node 23 (g_leaf 22 (o_push (.int 0) 23)) (g_node 24 (g_leaf 23 (o_istore 3 24)) (g_leaf 24 (o_push (.int 0) 25)))) (g_node 28 (g_node 27 (g_leaf 25 (o_istore 4 27)) (g_leaf 27 (o_push (.int 0) 28))) (g_node 30 (g_leaf 28 (o_istore 5 30)) (g_leaf 30 (o_iload 5 32))))) (g_node 37 (g_node 33 (g_leaf 32 (o_iload 1 33)) (g_node 36 (g_leaf 33 (o_ic_ge 84 36)) (g_leaf 36 (o_aload 0 37)))) (g_node 41 (g_node 40 (g_leaf 37 (o_getf sh 10 29 40)) (g_leaf 40 (o_push (.int 4) 41))) (g_node 42 (g_leaf 41 (o_iload 2 42)) (g_leaf 42 (o_imul 43))))))) (g_node 65 (g_node 53 (g_node 47 (g_node 45 (g_leaf 43 (o_iload 5 45)) (g_node 46 (g_leaf 45 (o_iadd 46)) (g_leaf 46 (o_iald sh g_xi 47)))) (g_node 50 (g_node 49 (g_leaf 47 (o_istore 6 49)) (g_leaf 49 (o_iload 3 50))) (g_node 51 (g_leaf 50 (o_aload 0 51)) (g_leaf 51 (o_iload 4 53))))) (g_node 59 (g_node 55 (g_leaf 53 (o_iload 6 55)) (g_node 58 (g_leaf 55 (o_callV sh 10 139 3 58)) (g_leaf 58 (o_iadd 59)))) (g_node 61 (g_node 60 (g_leaf 59 (o_istore 3 60)) (g_leaf 60 (o_aload 0 61))) (g_node 64 (g_leaf 61 (o_getf sh 10 28 64)) (g_leaf 64 (o_push (.int 4) 65)))))) (g_node 73 (g_node 69 (g_node 66 (g_leaf 65 (o_iload 2 66)) (g_node 67 (g_leaf 66 (o_imul 67)) (g_leaf 67 (o_iload 6 69)))) (g_node 71 (g_node 70 (g_leaf 69 (o_iadd 70)) (g_leaf 70 (o_push (.int 1) 71))) (g_node 72 (g_leaf 71 (o_isub 72)) (g_leaf 72 (o_iload 3 73))))) (g_node 81 (g_node 76 (g_node 74 (g_leaf 73 (o_iast sh 74)) (g_leaf 74 (o_iload 6 76))) (g_node 78 (g_leaf 76 (o_istore 4 78)) (g_leaf 78 (o_iinc 5 1 81)))) (g_node 87 (g_node 84 (g_leaf 81 (o_goto 30)) (g_leaf 84 (o_iinc 2 1 87))) (g_node 90 (g_leaf 87 (o_goto 14)) (g_leaf 90 (o_vret))))))))
def t_X10_goesGame (sh : g_Sh) : Nat → Option g_Op := (g_node 122 (g_node 56 (g_node 25 (g_node 12 (g_node 6 (g_node 2 (g_node 1 (g_leaf 0 (o_aload 0 1)) (g_leaf 1 (o_iload 1 2))) (g_node 5 (g_leaf 2 (o_callVv sh 10 188 2 5)) (g_leaf 5 (o_push (.int 0) 6)))) (g_node 8 (g_node 7 (g_leaf 6 (o_istore 3 7)) (g_leaf 7 (o_iload 3 8))) (g_node 9 (g_leaf 8 (o_push (.int 4) 9)) (g_leaf 9 (o_ic_ge 32 12))))) (g_node 18 (g_node 16 (g_node 13 (g_leaf 12 (o_aload 0 13)) (g_leaf 13 (o_getf sh 10 30 16))) (g_node 17 (g_leaf 16 (o_iload 3 17)) (g_leaf 17 (o_push (.int 0) 18)))) (g_node 20 (g_node 19 (g_leaf 18 (o_iast sh 19)) (g_leaf 19 (o_aload 0 20))) (g_node 23 (g_leaf 20 (o_getf sh 10 32 23)) (g_node 24 (g_leaf 23 (o_iload 3 24)) (g_leaf 24 (o_push (.int 0) 25))))))) (g_node 39 (g_node 33 (g_node 29 (g_node 26 (g_leaf 25 (o_iast sh 26)) (g_leaf 26 (o_iinc 3 1 29))) (g_node 32 (g_leaf 29 (o_goto 7)) (g_leaf 32 (o_push (.int 0) 33)))) (g_node 35 (g_node 34 (g_leaf 33 (o_istore 3 34)) (g_leaf 34 (o_iload 3 35))) (g_node 36 (g_leaf 35 (o_aload 0 36)) (g_leaf 36 (o_getf sh 10 33 39))))) (g_node 47 (g_node 43 (g_node 42 (g_leaf 39 (o_ic_ge 55 42)) (g_leaf 42 (o_aload 0 43))) (g_node 46 (g_leaf 43 (o_getf sh 10 31 46)) (g_leaf 46 (o_iload 3 47)))) (g_node 49 (g_node 48 (g_leaf 47 (o_push (.int 0) 48)) (g_leaf 48 (o_iast sh 49))) (g_node 52 (g_leaf 49 (o_iinc 3 1 52)) (g_node 55 (g_leaf 52 (o_goto 34)) (g_leaf 55 (o_push (.int 0) 56)))))))) (g_node 85 (g_node 68 (g_node 62 (g_node 58 (g_node 57 (g_leaf 56 (o_istore 3 57)) (g_leaf 57 (o_iload 3 58))) (g_node 59 (g_leaf 58 (o_iload 2 59)) (g_leaf 59 (o_ic_ge 247 62)))) (g_node 65 (g_node 63 (g_leaf 62 (o_push (.int 0) 63)) (g_leaf 63 (o_istore 4 65))) (g_node 66 (g_leaf 65 (o_push (.int 1) 66)) (g_leaf 66 (o_istore 5 68))))) (g_node 75 (g_node 71 (g_node 70 (g_leaf 68 (o_iload 5 70)) (g_leaf 70 (o_iload 1 71))) (g_node 74 (g_leaf 71 (o_ic_ge 106 74)) (g_leaf 74 (o_aload 0 75)))) (g_node 80 (g_node 78 (g_leaf 75 (o_getf sh 10 30 78)) (g_leaf 78 (o_iload 5 80))) (g_node 81 (g_leaf 80 (o_iald sh g_xi 81)) (g_node 82 (g_leaf 81 (o_aload 0 82)) (g_leaf 82 (o_getf sh 10 30 85))))))) (g_node 106 (g_node 93 (g_node 88 (g_node 87 (g_leaf 85 (o_iload 4 87)) (g_leaf 87 (o_iald sh g_xi 88))) (g_node 91 (g_leaf 88 (o_ic_le 96 91)) (g_leaf 91 (o_iload 5 93)))) (g_node 98 (g_node 96 (g_leaf 93 (o_goto 98)) (g_leaf 96 (o_iload 4 98))) (g_node 100 (g_leaf 98 (o_istore 4 100)) (g_node 103 (g_leaf 100 (o_iinc 5 1 103)) (g_leaf 103 (o_goto 68)))))) (g_node 112 (g_node 109 (g_node 107 (g_leaf 106 (o_push (.int 0) 107)) (g_leaf 107 (o_istore 5 109))) (g_node 110 (g_leaf 109 (o_push (.int 1) 110)) (g_leaf 110 (o_istore 6 112)))) (g_node 115 (g_node 114 (g_leaf 112 (o_iload 6 114)) (g_leaf 114 (o_aload 0 115))) (g_node 118 (g_leaf 115 (o_getf sh 10 33 118)) (g_node 121 (g_leaf 118 (o_ic_ge 153 121)) (g_leaf 121 (o_aload 0 122))))))))) (g_node 186 (g_node 159 (g_node 138 (g_node 129 (g_node 127 (g_node 125 (g_leaf 122 (o_getf sh 10 31 125)) (g_leaf 125 (o_iload 6 127))) (g_node 128 (g_leaf 127 (o_iald sh g_xi 128)) (g_leaf 128 (o_aload 0 129)))) (g_node 134 (g_node 132 (g_leaf 129 (o_getf sh 10 31 132)) (g_leaf 132 (o_iload 5 134))) (g_node 135 (g_leaf 134 (o_iald sh g_xi 135)) (g_leaf 135 (o_ic_ge 143 138))))) (g_node 147 (g_node 143 (g_node 140 (g_leaf 138 (o_iload 6 140)) (g_leaf 140 (o_goto 145))) (g_node 145 (g_leaf 143 (o_iload 5 145)) (g_leaf 145 (o_istore 5 147)))) (g_node 153 (g_node 150 (g_leaf 147 (o_iinc 6 1 150)) (g_leaf 150 (o_goto 112))) (g_node 154 (g_leaf 153 (o_aload 0 154)) (g_node 157 (g_leaf 154 (o_getf sh 10 32 157)) (g_leaf 157 (o_iload 4 159))))))) (g_node 170 (g_node 163 (g_node 161 (g_node 160 (g_leaf 159 (o_dup2 160)) (g_leaf 160 (o_iald sh g_xi 161))) (g_node 162 (g_leaf 161 (o_push (.int 1) 162)) (g_leaf 162 (o_iadd 163)))) (g_node 165 (g_node 164 (g_leaf 163 (o_iast sh 164)) (g_leaf 164 (o_push (.int 0) 165))) (g_node 167 (g_leaf 165 (o_istore 6 167)) (g_node 169 (g_leaf 167 (o_iload 6 169)) (g_leaf 169 (o_iload 1 170)))))) (g_node 179 (g_node 174 (g_node 173 (g_leaf 170 (o_ic_ge 201 173)) (g_leaf 173 (o_aload 0 174))) (g_node 177 (g_leaf 174 (o_getf sh 10 30 177)) (g_leaf 177 (o_iload 6 179)))) (g_node 181 (g_node 180 (g_leaf 179 (o_dup2 180)) (g_leaf 180 (o_iald sh g_xi 181))) (g_node 182 (g_leaf 181 (o_aload 0 182)) (g_node 185 (g_leaf 182 (o_getf sh 10 28 185)) (g_leaf 185 (o_push (.int 4) 186)))))))) (g_node 217 (g_node 198 (g_node 192 (g_node 189 (g_node 188 (g_leaf 186 (o_iload 5 188)) (g_leaf 188 (o_imul 189))) (g_node 191 (g_leaf 189 (o_iload 6 191)) (g_leaf 191 (o_iadd 192)))) (g_node 194 (g_node 193 (g_leaf 192 (o_iald sh g_xi 193)) (g_leaf 193 (o_iadd 194))) (g_node 195 (g_leaf 194 (o_iast sh 195)) (g_leaf 195 (o_iinc 6 1 198))))) (g_node 206 (g_node 202 (g_node 201 (g_leaf 198 (o_goto 167)) (g_leaf 201 (o_push (.int 0) 202))) (g_node 204 (g_leaf 202 (o_istore 6 204)) (g_leaf 204 (o_iload 6 206)))) (g_node 210 (g_node 207 (g_leaf 206 (o_aload 0 207)) (g_leaf 207 (o_getf sh 10 33 210))) (g_node 213 (g_leaf 210 (o_ic_ge 241 213)) (g_node 214 (g_leaf 213 (o_aload 0 214)) (g_leaf 214 (o_getf sh 10 31 217))))))) (g_node 231 (g_node 222 (g_node 220 (g_node 219 (g_leaf 217 (o_iload 6 219)) (g_leaf 219 (o_dup2 220))) (g_node 221 (g_leaf 220 (o_iald sh g_xi 221)) (g_leaf 221 (o_aload 0 222)))) (g_node 226 (g_node 225 (g_leaf 222 (o_getf sh 10 28 225)) (g_leaf 225 (o_push (.int 4) 226))) (g_node 228 (g_leaf 226 (o_iload 6 228)) (g_node 229 (g_leaf 228 (o_imul 229)) (g_leaf 229 (o_iload 4 231)))))) (g_node 235 (g_node 233 (g_node 232 (g_leaf 231 (o_iadd 232)) (g_leaf 232 (o_iald sh g_xi 233))) (g_node 234 (g_leaf 233 (o_iadd 234)) (g_leaf 234 (o_iast sh 235)))) (g_node 241 (g_node 238 (g_leaf 235 (o_iinc 6 1 238)) (g_leaf 238 (o_goto 204))) (g_node 244 (g_leaf 241 (o_iinc 3 1 244)) (g_node 247 (g_leaf 244 (o_goto 57)) (g_leaf 247 (o_vret))))))))))
def t_X10_wrongGame (sh : g_Sh) : Nat → Option g_Op := (g_node 28 (g_node 12 (g_node 5 (g_node 1 (g_leaf 0 (o_iload 1 1)) (g_node 2 (g_leaf 1 (o_push (.int 1) 2)) (g_leaf 2 (o_ic_lt 10 5)))) (g_node 7 (g_node 6 (g_leaf 5 (o_iload 2 6)) (g_leaf 6 (o_push (.int 1) 7))) (g_node 10 (g_leaf 7 (o_ic_ge 15 10)) (g_leaf 10 (o_push (.int (-4)) 12))))) (g_node 20 (g_node 16 (g_node 15 (g_leaf 12 (o_goto 32)) (g_leaf 15 (o_iload 1 16))) (g_node 17 (g_leaf 16 (o_push (.int 4) 17)) (g_leaf 17 (o_ic_gt 26 20)))) (g_node 23 (g_node 21 (g_leaf 20 (o_iload 2 21)) (g_leaf 21 (o_push (.int 60) 23))) (g_node 26 (g_leaf 23 (o_ic_le 31 26)) (g_leaf 26 (o_push (.int (-6)) 28)))))) (g_node 41 (g_node 33 (g_node 31 (g_leaf 28 (o_goto 32)) (g_node 32 (g_leaf 31 (o_push (.int 0) 32)) (g_leaf 32 (o_istore 3 33)))) (g_node 37 (g_node 34 (g_leaf 33 (o_iload 3 34)) (g_leaf 34 (o_if_eq 41 37))) (g_node 38 (g_leaf 37 (o_iload 3 38)) (g_leaf 38 (o_goto 55))))) (g_node 49 (g_node 43 (g_node 42 (g_leaf 41 (o_aload 0 42)) (g_leaf 42 (o_iload 1 43))) (g_node 46 (g_leaf 43 (o_callV sh 10 187 2 46)) (g_leaf 46 (o_if_eq 53 49)))) (g_node 53 (g_node 50 (g_leaf 49 (o_push (.int 0) 50)) (g_leaf 50 (o_goto 55))) (g_node 55 (g_leaf 53 (o_push (.int (-3)) 55)) (g_leaf 55 (o_iret)))))))
def t_X10_common (sh : g_Sh) : Nat → Option g_Op := (g_node 9 (g_node 4 (g_node 1 (g_leaf 0 (o_iload 1 1)) (g_leaf 1 (o_if_ne 8 4))) (g_node 5 (g_leaf 4 (o_iload 0 5)) (g_node 8 (g_leaf 5 (o_goto 15)) (g_leaf 8 (o_iload 1 9))))) (g_node 11 (g_node 10 (g_leaf 9 (o_iload 0 10)) (g_leaf 10 (o_iload 1 11))) (g_node 12 (g_leaf 11 (o_irem 12)) (g_node 15 (g_leaf 12 (o_callS 191 2 15)) (g_leaf 15 (o_iret))))))
def t_X10_game (sh : g_Sh) : Nat → Option g_Op := (g_node 91 (g_node 45 (g_node 24 (g_node 11 (g_node 5 (g_node 1 (g_leaf 0 (o_iload 3 1)) (g_node 2 (g_leaf 1 (o_push (.int 2) 2)) (g_leaf 2 (o_callS 120 2 5)))) (g_node 8 (g_leaf 5 (o_if_eq 17 8)) (g_node 10 (g_leaf 8 (o_iload 4 10)) (g_leaf 10 (o_push (.int 2) 11))))) (g_node 18 (g_node 14 (g_leaf 11 (o_callS 120 2 14)) (g_node 17 (g_leaf 14 (o_if_ne 24 17)) (g_leaf 17 (o_aload 0 18)))) (g_node 20 (g_leaf 18 (o_push (.int (-2)) 20)) (g_node 23 (g_leaf 20 (o_callV sh 10 119 2 23)) (g_leaf 23 (o_iret)))))) (g_node 34 (g_node 27 (g_node 25 (g_leaf 24 (o_aload 0 25)) (g_node 26 (g_leaf 25 (o_iload 1 26)) (g_leaf 26 (o_iload 2 27)))) (g_node 30 (g_leaf 27 (o_callV sh 10 190 3 30)) (g_node 32 (g_leaf 30 (o_istore 5 32)) (g_leaf 32 (o_iload 5 34))))) (g_node 40 (g_node 37 (g_leaf 34 (o_if_eq 44 37)) (g_node 38 (g_leaf 37 (o_aload 0 38)) (g_leaf 38 (o_iload 5 40)))) (g_node 43 (g_leaf 40 (o_callV sh 10 119 2 43)) (g_node 44 (g_leaf 43 (o_iret)) (g_leaf 44 (o_aload 0 45))))))) (g_node 67 (g_node 55 (g_node 50 (g_node 46 (g_leaf 45 (o_iload 1 46)) (g_node 47 (g_leaf 46 (o_iload 2 47)) (g_leaf 47 (o_callVv sh 10 189 3 50)))) (g_node 51 (g_leaf 50 (o_iload 3 51)) (g_node 54 (g_leaf 51 (o_if_ne 63 54)) (g_leaf 54 (o_aload 0 55))))) (g_node 60 (g_node 58 (g_leaf 55 (o_getf sh 10 31 58)) (g_node 59 (g_leaf 58 (o_push (.int 0) 59)) (g_leaf 59 (o_iald sh g_xi 60)))) (g_node 63 (g_leaf 60 (o_goto 69)) (g_node 64 (g_leaf 63 (o_aload 0 64)) (g_leaf 64 (o_getf sh 10 30 67)))))) (g_node 76 (g_node 71 (g_node 68 (g_leaf 67 (o_push (.int 0) 68)) (g_node 69 (g_leaf 68 (o_iald sh g_xi 69)) (g_leaf 69 (o_istore 6 71)))) (g_node 72 (g_leaf 71 (o_push (.int 1) 72)) (g_node 74 (g_leaf 72 (o_istore 7 74)) (g_leaf 74 (o_iload 7 76))))) (g_node 83 (g_node 77 (g_leaf 76 (o_aload 0 77)) (g_node 80 (g_leaf 77 (o_getf sh 10 33 80)) (g_leaf 80 (o_ic_ge 119 83)))) (g_node 87 (g_node 84 (g_leaf 83 (o_iload 3 84)) (g_leaf 84 (o_if_ne 119 87))) (g_node 88 (g_leaf 87 (o_aload 0 88)) (g_leaf 88 (o_getf sh 10 31 91)))))))) (g_node 140 (g_node 116 (g_node 103 (g_node 96 (g_node 93 (g_leaf 91 (o_iload 7 93)) (g_node 94 (g_leaf 93 (o_iald sh g_xi 94)) (g_leaf 94 (o_iload 6 96)))) (g_node 99 (g_leaf 96 (o_ic_ge 109 99)) (g_node 100 (g_leaf 99 (o_aload 0 100)) (g_leaf 100 (o_getf sh 10 31 103))))) (g_node 109 (g_node 105 (g_leaf 103 (o_iload 7 105)) (g_node 106 (g_leaf 105 (o_iald sh g_xi 106)) (g_leaf 106 (o_goto 111)))) (g_node 111 (g_leaf 109 (o_iload 6 111)) (g_node 113 (g_leaf 111 (o_istore 6 113)) (g_leaf 113 (o_iinc 7 1 116)))))) (g_node 128 (g_node 122 (g_node 119 (g_leaf 116 (o_goto 74)) (g_node 120 (g_leaf 119 (o_push (.int 1) 120)) (g_leaf 120 (o_istore 7 122)))) (g_node 124 (g_leaf 122 (o_iload 7 124)) (g_node 125 (g_leaf 124 (o_iload 1 125)) (g_leaf 125 (o_ic_ge 165 128))))) (g_node 133 (g_node 129 (g_leaf 128 (o_iload 3 129)) (g_node 130 (g_leaf 129 (o_push (.int 1) 130)) (g_leaf 130 (o_ic_ne 165 133)))) (g_node 137 (g_node 134 (g_leaf 133 (o_aload 0 134)) (g_leaf 134 (o_getf sh 10 30 137))) (g_node 139 (g_leaf 137 (o_iload 7 139)) (g_leaf 139 (o_iald sh g_xi 140))))))) (g_node 166 (g_node 152 (g_node 146 (g_node 142 (g_leaf 140 (o_iload 6 142)) (g_node 145 (g_leaf 142 (o_ic_le 155 145)) (g_leaf 145 (o_aload 0 146)))) (g_node 149 (g_leaf 146 (o_getf sh 10 30 149)) (g_node 151 (g_leaf 149 (o_iload 7 151)) (g_leaf 151 (o_iald sh g_xi 152))))) (g_node 159 (g_node 155 (g_leaf 152 (o_goto 157)) (g_node 157 (g_leaf 155 (o_iload 6 157)) (g_leaf 157 (o_istore 6 159)))) (g_node 162 (g_leaf 159 (o_iinc 7 1 162)) (g_node 165 (g_leaf 162 (o_goto 122)) (g_leaf 165 (o_iload 2 166)))))) (g_node 180 (g_node 173 (g_node 168 (g_leaf 166 (o_iload 6 168)) (g_node 171 (g_leaf 168 (o_callS 191 2 171)) (g_leaf 171 (o_istore 7 173)))) (g_node 175 (g_leaf 173 (o_iload 4 175)) (g_node 178 (g_leaf 175 (o_if_ne 186 178)) (g_leaf 178 (o_iload 6 180))))) (g_node 186 (g_node 182 (g_leaf 180 (o_iload 7 182)) (g_node 183 (g_leaf 182 (o_idiv 183)) (g_leaf 183 (o_goto 190)))) (g_node 189 (g_node 187 (g_leaf 186 (o_iload 2 187)) (g_leaf 187 (o_iload 7 189))) (g_node 190 (g_leaf 189 (o_idiv 190)) (g_leaf 190 (o_iret)))))))))
def t_X10_taken (sh : g_Sh) : Nat → Option g_Op := (g_node 28 (g_node 14 (g_node 6 (g_node 2 (g_node 1 (g_leaf 0 (o_aload 0 1)) (g_leaf 1 (o_iload 1 2))) (g_node 3 (g_leaf 2 (o_iload 2 3)) (g_leaf 3 (o_callV sh 10 190 3 6)))) (g_node 10 (g_node 8 (g_leaf 6 (o_istore 4 8)) (g_leaf 8 (o_iload 4 10))) (g_node 13 (g_leaf 10 (o_if_ne 26 13)) (g_leaf 13 (o_iload 3 14))))) (g_node 20 (g_node 16 (g_node 15 (g_leaf 14 (o_push (.int 1) 15)) (g_leaf 15 (o_isub 16))) (g_node 17 (g_leaf 16 (o_iload 1 17)) (g_leaf 17 (o_callS 120 2 20)))) (g_node 24 (g_node 23 (g_leaf 20 (o_if_ne 26 23)) (g_leaf 23 (o_push (.int (-1)) 24))) (g_node 26 (g_leaf 24 (o_istore 4 26)) (g_leaf 26 (o_iload 4 28)))))) (g_node 41 (g_node 37 (g_node 32 (g_node 31 (g_leaf 28 (o_if_eq 38 31)) (g_leaf 31 (o_aload 0 32))) (g_node 34 (g_leaf 32 (o_iload 4 34)) (g_leaf 34 (o_callV sh 10 119 2 37)))) (g_node 39 (g_node 38 (g_leaf 37 (o_iret)) (g_leaf 38 (o_aload 0 39))) (g_node 40 (g_leaf 39 (o_iload 1 40)) (g_leaf 40 (o_iload 2 41))))) (g_node 49 (g_node 45 (g_node 44 (g_leaf 41 (o_callVv sh 10 189 3 44)) (g_leaf 44 (o_aload 0 45))) (g_node 48 (g_leaf 45 (o_getf sh 10 32 48)) (g_leaf 48 (o_iload 3 49)))) (g_node 51 (g_node 50 (g_leaf 49 (o_push (.int 1) 50)) (g_leaf 50 (o_isub 51))) (g_node 52 (g_leaf 51 (o_iald sh g_xi 52)) (g_leaf 52 (o_iret)))))))
def t_X10_summer (sh : g_Sh) : Nat → Option g_Op := (g_node 45 (g_node 24 (g_node 10 (g_node 5 (g_node 1 (g_leaf 0 (o_aload 0 1)) (g_node 2 (g_leaf 1 (o_iload 1 2)) (g_leaf 2 (o_callV sh 10 123 2 5)))) (g_node 8 (g_leaf 5 (o_if_eq 18 8)) (g_node 9 (g_leaf 8 (o_iload 2 9)) (g_leaf 9 (o_push (.int 1) 10))))) (g_node 18 (g_node 12 (g_leaf 10 (o_push (.int 30) 12)) (g_node 15 (g_leaf 12 (o_callS 121 3 15)) (g_leaf 15 (o_goto 19)))) (g_node 20 (g_node 19 (g_leaf 18 (o_push (.int (-1)) 19)) (g_leaf 19 (o_istore 3 20))) (g_node 21 (g_leaf 20 (o_iload 3 21)) (g_leaf 21 (o_if_eq 30 24)))))) (g_node 33 (g_node 29 (g_node 25 (g_leaf 24 (o_aload 0 25)) (g_node 26 (g_leaf 25 (o_iload 3 26)) (g_leaf 26 (o_callV sh 10 119 2 29)))) (g_node 30 (g_leaf 29 (o_iret)) (g_node 31 (g_leaf 30 (o_push (.int 0) 31)) (g_leaf 31 (o_istore 4 33))))) (g_node 38 (g_node 34 (g_leaf 33 (o_push (.int 0) 34)) (g_node 36 (g_leaf 34 (o_istore 5 36)) (g_leaf 36 (o_iload 5 38)))) (g_node 42 (g_node 39 (g_leaf 38 (o_iload 2 39)) (g_leaf 39 (o_ic_ge 88 42))) (g_node 44 (g_leaf 42 (o_iload 4 44)) (g_leaf 44 (o_aload 0 45))))))) (g_node 67 (g_node 51 (g_node 48 (g_node 46 (g_leaf 45 (o_iload 1 46)) (g_node 47 (g_leaf 46 (o_push (.int 0) 47)) (g_leaf 47 (o_push (.int 1) 48)))) (g_node 49 (g_leaf 48 (o_aload 0 49)) (g_node 50 (g_leaf 49 (o_iload 1 50)) (g_leaf 50 (o_push (.int 3) 51))))) (g_node 57 (g_node 54 (g_leaf 51 (o_callV sh 10 125 3 54)) (g_node 56 (g_leaf 54 (o_iload 5 56)) (g_leaf 56 (o_iadd 57)))) (g_node 62 (g_node 59 (g_leaf 57 (o_push (.int 99) 59)) (g_leaf 59 (o_ic_le 67 62))) (g_node 64 (g_leaf 62 (o_push (.int 99) 64)) (g_leaf 64 (o_goto 76)))))) (g_node 76 (g_node 70 (g_node 68 (g_leaf 67 (o_aload 0 68)) (g_node 69 (g_leaf 68 (o_iload 1 69)) (g_leaf 69 (o_push (.int 3) 70)))) (g_node 73 (g_leaf 70 (o_callV sh 10 125 3 73)) (g_node 75 (g_leaf 73 (o_iload 5 75)) (g_leaf 75 (o_iadd 76))))) (g_node 82 (g_node 79 (g_leaf 76 (o_callV sh 10 155 5 79)) (g_node 80 (g_leaf 79 (o_iadd 80)) (g_leaf 80 (o_istore 4 82)))) (g_node 88 (g_node 85 (g_leaf 82 (o_iinc 5 1 85)) (g_leaf 85 (o_goto 36))) (g_node 90 (g_leaf 88 (o_iload 4 90)) (g_leaf 90 (o_iret))))))))
def t_X10_odds (sh : g_Sh) : Nat → Option g_Op := (g_node 60 (g_node 30 (g_node 14 (g_node 8 (g_node 2 (g_node 1 (g_leaf 0 (o_aload 0 1)) (g_leaf 1 (o_iload 1 2))) (g_node 5 (g_leaf 2 (o_callV sh 10 123 2 5)) (g_leaf 5 (o_if_ne 14 8)))) (g_node 10 (g_node 9 (g_leaf 8 (o_aload 0 9)) (g_leaf 9 (o_push (.int (-1)) 10))) (g_node 13 (g_leaf 10 (o_callV sh 10 119 2 13)) (g_leaf 13 (o_iret))))) (g_node 22 (g_node 16 (g_node 15 (g_leaf 14 (o_iload 3 15)) (g_leaf 15 (o_push (.int 2) 16))) (g_node 19 (g_leaf 16 (o_callS 120 2 19)) (g_leaf 19 (o_if_ne 29 22)))) (g_node 25 (g_node 23 (g_leaf 22 (o_aload 0 23)) (g_leaf 23 (o_push (.int (-2)) 25))) (g_node 28 (g_leaf 25 (o_callV sh 10 119 2 28)) (g_node 29 (g_leaf 28 (o_iret)) (g_leaf 29 (o_iload 2 30))))))) (g_node 45 (g_node 37 (g_node 32 (g_node 31 (g_leaf 30 (o_push (.int 0) 31)) (g_leaf 31 (o_push (.int 4) 32))) (g_node 35 (g_leaf 32 (o_callS 121 3 35)) (g_leaf 35 (o_istore 4 37)))) (g_node 42 (g_node 39 (g_leaf 37 (o_iload 4 39)) (g_leaf 39 (o_if_eq 49 42))) (g_node 43 (g_leaf 42 (o_aload 0 43)) (g_leaf 43 (o_iload 4 45))))) (g_node 52 (g_node 49 (g_node 48 (g_leaf 45 (o_callV sh 10 119 2 48)) (g_leaf 48 (o_iret))) (g_node 50 (g_leaf 49 (o_push (.int 1) 50)) (g_leaf 50 (o_istore 5 52)))) (g_node 55 (g_node 53 (g_leaf 52 (o_push (.int 1) 53)) (g_leaf 53 (o_istore 6 55))) (g_node 56 (g_leaf 55 (o_push (.int 0) 56)) (g_node 58 (g_leaf 56 (o_istore 7 58)) (g_leaf 58 (o_iload 7 60)))))))) (g_node 87 (g_node 71 (g_node 67 (g_node 64 (g_node 61 (g_leaf 60 (o_iload 2 61)) (g_leaf 61 (o_ic_ge 95 64))) (g_node 66 (g_leaf 64 (o_iload 5 66)) (g_leaf 66 (o_aload 0 67)))) (g_node 69 (g_node 68 (g_leaf 67 (o_iload 1 68)) (g_leaf 68 (o_push (.int 0) 69))) (g_node 70 (g_leaf 69 (o_push (.int 1) 70)) (g_leaf 70 (o_aload 0 71))))) (g_node 79 (g_node 73 (g_node 72 (g_leaf 71 (o_iload 1 72)) (g_leaf 72 (o_push (.int 3) 73))) (g_node 76 (g_leaf 73 (o_callV sh 10 125 3 76)) (g_leaf 76 (o_callV sh 10 155 5 79)))) (g_node 82 (g_node 80 (g_leaf 79 (o_imul 80)) (g_leaf 80 (o_istore 5 82))) (g_node 84 (g_leaf 82 (o_iload 6 84)) (g_node 86 (g_leaf 84 (o_push (.int 100) 86)) (g_leaf 86 (o_imul 87))))))) (g_node 105 (g_node 97 (g_node 92 (g_node 89 (g_leaf 87 (o_istore 6 89)) (g_leaf 89 (o_iinc 7 1 92))) (g_node 95 (g_leaf 92 (o_goto 58)) (g_leaf 95 (o_iload 6 97)))) (g_node 102 (g_node 99 (g_leaf 97 (o_iload 5 99)) (g_leaf 99 (o_callS 191 2 102))) (g_node 104 (g_leaf 102 (o_istore 7 104)) (g_leaf 104 (o_iload 3 105))))) (g_node 113 (g_node 110 (g_node 108 (g_leaf 105 (o_if_ne 116 108)) (g_leaf 108 (o_iload 5 110))) (g_node 112 (g_leaf 110 (o_iload 7 112)) (g_leaf 112 (o_idiv 113)))) (g_node 118 (g_node 116 (g_leaf 113 (o_goto 121)) (g_leaf 116 (o_iload 6 118))) (g_node 120 (g_leaf 118 (o_iload 7 120)) (g_node 121 (g_leaf 120 (o_idiv 121)) (g_leaf 121 (o_iret)))))))))
def t_X10_findsBy (sh : g_Sh) : Nat → Option g_Op := (g_node 16 (g_node 7 (g_node 2 (g_node 1 (g_leaf 0 (o_push (.int 0) 1)) (g_leaf 1 (o_istore 3 2))) (g_node 3 (g_leaf 2 (o_push (.int 0) 3)) (g_node 5 (g_leaf 3 (o_istore 4 5)) (g_leaf 5 (o_iload 4 7))))) (g_node 12 (g_node 8 (g_leaf 7 (o_iload 1 8)) (g_node 11 (g_leaf 8 (o_ic_ge 33 11)) (g_leaf 11 (o_aload 0 12)))) (g_node 13 (g_leaf 12 (o_iload 2 13)) (g_node 15 (g_leaf 13 (o_iload 4 15)) (g_leaf 15 (o_iadd 16)))))) (g_node 25 (g_node 20 (g_node 19 (g_leaf 16 (o_callVv sh 10 173 2 19)) (g_leaf 19 (o_iload 3 20))) (g_node 21 (g_leaf 20 (o_aload 0 21)) (g_node 22 (g_leaf 21 (o_push (.int 0) 22)) (g_leaf 22 (o_callV sh 10 174 2 25))))) (g_node 30 (g_node 26 (g_leaf 25 (o_iadd 26)) (g_node 27 (g_leaf 26 (o_istore 3 27)) (g_leaf 27 (o_iinc 4 1 30)))) (g_node 33 (g_leaf 30 (o_goto 5)) (g_node 34 (g_leaf 33 (o_iload 3 34)) (g_leaf 34 (o_iret)))))))
def t_X10_bestOrder (sh : g_Sh) : Nat → Option g_Op := (g_node 142 (g_node 70 (g_node 33 (g_node 16 (g_node 6 (g_node 2 (g_node 1 (g_leaf 0 (o_iload 1 1)) (g_leaf 1 (o_push (.int 1) 2))) (g_node 5 (g_leaf 2 (o_ic_lt 16 5)) (g_leaf 5 (o_iload 2 6)))) (g_node 10 (g_node 7 (g_leaf 6 (o_push (.int 1) 7)) (g_leaf 7 (o_ic_lt 16 10))) (g_node 12 (g_leaf 10 (o_iload 4 12)) (g_node 13 (g_leaf 12 (o_push (.int (-1)) 13)) (g_leaf 13 (o_ic_ge 21 16)))))) (g_node 23 (g_node 21 (g_node 18 (g_leaf 16 (o_push (.int (-4)) 18)) (g_leaf 18 (o_goto 37))) (g_node 22 (g_leaf 21 (o_iload 1 22)) (g_leaf 22 (o_push (.int 4) 23)))) (g_node 27 (g_node 26 (g_leaf 23 (o_ic_gt 31 26)) (g_leaf 26 (o_iload 2 27))) (g_node 28 (g_leaf 27 (o_push (.int 5) 28)) (g_node 31 (g_leaf 28 (o_ic_le 36 31)) (g_leaf 31 (o_push (.int (-6)) 33))))))) (g_node 52 (g_node 41 (g_node 37 (g_node 36 (g_leaf 33 (o_goto 37)) (g_leaf 36 (o_push (.int 0) 37))) (g_node 39 (g_leaf 37 (o_istore 5 39)) (g_leaf 39 (o_iload 5 41)))) (g_node 45 (g_node 44 (g_leaf 41 (o_if_ne 56 44)) (g_leaf 44 (o_aload 0 45))) (g_node 46 (g_leaf 45 (o_iload 1 46)) (g_node 49 (g_leaf 46 (o_callV sh 10 187 2 49)) (g_leaf 49 (o_if_ne 56 52)))))) (g_node 62 (g_node 56 (g_node 54 (g_leaf 52 (o_push (.int (-3)) 54)) (g_leaf 54 (o_istore 5 56))) (g_node 58 (g_leaf 56 (o_iload 5 58)) (g_node 61 (g_leaf 58 (o_if_eq 68 61)) (g_leaf 61 (o_aload 0 62))))) (g_node 67 (g_node 64 (g_leaf 62 (o_iload 5 64)) (g_leaf 64 (o_callV sh 10 119 2 67))) (g_node 68 (g_leaf 67 (o_iret)) (g_node 69 (g_leaf 68 (o_aload 0 69)) (g_leaf 69 (o_iload 1 70)))))))) (g_node 108 (g_node 90 (g_node 78 (g_node 74 (g_node 73 (g_leaf 70 (o_callVv sh 10 188 2 73)) (g_leaf 73 (o_push (.int 0) 74))) (g_node 76 (g_leaf 74 (o_istore 6 76)) (g_leaf 76 (o_iload 6 78)))) (g_node 84 (g_node 81 (g_leaf 78 (o_push (.int 154) 81)) (g_leaf 81 (o_ic_ge 104 84))) (g_node 85 (g_leaf 84 (o_aload 0 85)) (g_node 88 (g_leaf 85 (o_getf sh 10 34 88)) (g_leaf 88 (o_iload 6 90)))))) (g_node 97 (g_node 94 (g_node 91 (g_leaf 90 (o_aload 0 91)) (g_leaf 91 (o_getf sh 10 1 94))) (g_node 96 (g_leaf 94 (o_iload 6 96)) (g_leaf 96 (o_iald sh g_xi 97)))) (g_node 101 (g_node 98 (g_leaf 97 (o_iast sh 98)) (g_leaf 98 (o_iinc 6 1 101))) (g_node 104 (g_leaf 101 (o_goto 76)) (g_node 105 (g_leaf 104 (o_aload 0 105)) (g_leaf 105 (o_getf sh 10 1 108))))))) (g_node 121 (g_node 113 (g_node 110 (g_node 109 (g_leaf 108 (o_push (.int 3) 109)) (g_leaf 109 (o_iload 1 110))) (g_node 111 (g_leaf 110 (o_iast sh 111)) (g_leaf 111 (o_push (.int (-9)) 113)))) (g_node 116 (g_node 115 (g_leaf 113 (o_istore 6 115)) (g_leaf 115 (o_push (.int 0) 116))) (g_node 118 (g_leaf 116 (o_istore 7 118)) (g_node 120 (g_leaf 118 (o_iload 7 120)) (g_leaf 120 (o_aload 0 121)))))) (g_node 132 (g_node 127 (g_node 124 (g_leaf 121 (o_getf sh 10 33 124)) (g_leaf 124 (o_ic_ge 226 127))) (g_node 128 (g_leaf 127 (o_push (.int 0) 128)) (g_node 130 (g_leaf 128 (o_istore 8 130)) (g_leaf 130 (o_iload 8 132))))) (g_node 136 (g_node 133 (g_leaf 132 (o_iload 1 133)) (g_leaf 133 (o_ic_ge 164 136))) (g_node 137 (g_leaf 136 (o_aload 0 137)) (g_node 140 (g_leaf 137 (o_getf sh 10 1 140)) (g_leaf 140 (o_push (.int 114) 142))))))))) (g_node 209 (g_node 172 (g_node 156 (g_node 149 (g_node 145 (g_node 144 (g_leaf 142 (o_iload 8 144)) (g_leaf 144 (o_iadd 145))) (g_node 146 (g_leaf 145 (o_aload 0 146)) (g_leaf 146 (o_getf sh 10 29 149)))) (g_node 152 (g_node 150 (g_leaf 149 (o_push (.int 4) 150)) (g_leaf 150 (o_iload 7 152))) (g_node 153 (g_leaf 152 (o_imul 153)) (g_node 155 (g_leaf 153 (o_iload 8 155)) (g_leaf 155 (o_iadd 156)))))) (g_node 164 (g_node 158 (g_node 157 (g_leaf 156 (o_iald sh g_xi 157)) (g_leaf 157 (o_iast sh 158))) (g_node 161 (g_leaf 158 (o_iinc 8 1 161)) (g_leaf 161 (o_goto 130)))) (g_node 166 (g_node 165 (g_leaf 164 (o_aload 0 165)) (g_leaf 165 (o_iload 2 166))) (g_node 167 (g_leaf 166 (o_iload 3 167)) (g_node 170 (g_leaf 167 (o_callV sh 10 196 3 170)) (g_leaf 170 (o_istore 8 172))))))) (g_node 191 (g_node 182 (g_node 176 (g_node 174 (g_leaf 172 (o_iload 8 174)) (g_leaf 174 (o_iload 6 176))) (g_node 179 (g_leaf 176 (o_ic_gt 182 179)) (g_leaf 179 (o_goto 220)))) (g_node 186 (g_node 184 (g_leaf 182 (o_iload 8 184)) (g_leaf 184 (o_istore 6 186))) (g_node 187 (g_leaf 186 (o_push (.int 0) 187)) (g_node 189 (g_leaf 187 (o_istore 9 189)) (g_leaf 189 (o_iload 9 191)))))) (g_node 201 (g_node 195 (g_node 192 (g_leaf 191 (o_iload 1 192)) (g_leaf 192 (o_ic_ge 220 195))) (g_node 196 (g_leaf 195 (o_aload 0 196)) (g_node 199 (g_leaf 196 (o_getf sh 10 35 199)) (g_leaf 199 (o_iload 9 201))))) (g_node 205 (g_node 202 (g_leaf 201 (o_aload 0 202)) (g_leaf 202 (o_getf sh 10 29 205))) (g_node 206 (g_leaf 205 (o_push (.int 4) 206)) (g_node 208 (g_leaf 206 (o_iload 7 208)) (g_leaf 208 (o_imul 209)))))))) (g_node 247 (g_node 227 (g_node 214 (g_node 212 (g_node 211 (g_leaf 209 (o_iload 9 211)) (g_leaf 211 (o_iadd 212))) (g_node 213 (g_leaf 212 (o_iald sh g_xi 213)) (g_leaf 213 (o_iast sh 214)))) (g_node 220 (g_node 217 (g_leaf 214 (o_iinc 9 1 217)) (g_leaf 217 (o_goto 189))) (g_node 223 (g_leaf 220 (o_iinc 7 1 223)) (g_node 226 (g_leaf 223 (o_goto 118)) (g_leaf 226 (o_push (.int 0) 227)))))) (g_node 237 (g_node 231 (g_node 229 (g_leaf 227 (o_istore 7 229)) (g_leaf 229 (o_iload 7 231))) (g_node 234 (g_leaf 231 (o_push (.int 154) 234)) (g_leaf 234 (o_ic_ge 257 237)))) (g_node 241 (g_node 238 (g_leaf 237 (o_aload 0 238)) (g_leaf 238 (o_getf sh 10 1 241))) (g_node 243 (g_leaf 241 (o_iload 7 243)) (g_node 244 (g_leaf 243 (o_aload 0 244)) (g_leaf 244 (o_getf sh 10 34 247))))))) (g_node 267 (g_node 254 (g_node 250 (g_node 249 (g_leaf 247 (o_iload 7 249)) (g_leaf 249 (o_iald sh g_xi 250))) (g_node 251 (g_leaf 250 (o_iast sh 251)) (g_leaf 251 (o_iinc 7 1 254)))) (g_node 259 (g_node 257 (g_leaf 254 (o_goto 229)) (g_leaf 257 (o_iload 4 259))) (g_node 262 (g_leaf 259 (o_if_ge 267 262)) (g_node 264 (g_leaf 262 (o_iload 6 264)) (g_leaf 264 (o_goto 285)))))) (g_node 277 (g_node 270 (g_node 269 (g_leaf 267 (o_iload 4 269)) (g_leaf 269 (o_iload 1 270))) (g_node 273 (g_leaf 270 (o_ic_ge 283 273)) (g_node 274 (g_leaf 273 (o_aload 0 274)) (g_leaf 274 (o_getf sh 10 35 277))))) (g_node 280 (g_node 279 (g_leaf 277 (o_iload 4 279)) (g_leaf 279 (o_iald sh g_xi 280))) (g_node 283 (g_leaf 280 (o_goto 285)) (g_node 285 (g_leaf 283 (o_push (.int (-9)) 285)) (g_leaf 285 (o_iret))))))))))
def t_X10_bestRule (sh : g_Sh) : Nat → Option g_Op := (g_node 44 (g_node 19 (g_node 8 (g_node 3 (g_node 1 (g_leaf 0 (o_iload 1 1)) (g_node 2 (g_leaf 1 (o_push (.int 1) 2)) (g_leaf 2 (o_push (.int 5) 3)))) (g_node 6 (g_leaf 3 (o_callS 121 3 6)) (g_node 7 (g_leaf 6 (o_istore 3 7)) (g_leaf 7 (o_iload 3 8))))) (g_node 13 (g_node 11 (g_leaf 8 (o_if_eq 17 11)) (g_node 12 (g_leaf 11 (o_aload 0 12)) (g_leaf 12 (o_iload 3 13)))) (g_node 17 (g_node 16 (g_leaf 13 (o_callV sh 10 119 2 16)) (g_leaf 16 (o_iret))) (g_node 18 (g_leaf 17 (o_aload 0 18)) (g_leaf 18 (o_push (.int 3) 19)))))) (g_node 31 (g_node 26 (g_node 22 (g_leaf 19 (o_callV sh 10 126 2 22)) (g_node 24 (g_leaf 22 (o_istore 4 24)) (g_leaf 24 (o_push (.int (-9)) 26)))) (g_node 28 (g_leaf 26 (o_istore 5 28)) (g_node 29 (g_leaf 28 (o_push (.int 0) 29)) (g_leaf 29 (o_istore 6 31))))) (g_node 36 (g_node 32 (g_leaf 31 (o_push (.int 0) 32)) (g_node 34 (g_leaf 32 (o_istore 7 34)) (g_leaf 34 (o_iload 7 36)))) (g_node 40 (g_node 37 (g_leaf 36 (o_push (.int 5) 37)) (g_leaf 37 (o_ic_ge 86 40))) (g_node 41 (g_leaf 40 (o_aload 0 41)) (g_leaf 41 (o_getf sh 10 1 44))))))) (g_node 69 (g_node 52 (g_node 49 (g_node 46 (g_leaf 44 (o_push (.int 12) 46)) (g_node 48 (g_leaf 46 (o_iload 7 48)) (g_leaf 48 (o_iast sh 49)))) (g_node 50 (g_leaf 49 (o_aload 0 50)) (g_node 51 (g_leaf 50 (o_iload 1 51)) (g_leaf 51 (o_iload 2 52))))) (g_node 59 (g_node 55 (g_leaf 52 (o_callV sh 10 196 3 55)) (g_node 57 (g_leaf 55 (o_istore 8 57)) (g_leaf 57 (o_iload 5 59)))) (g_node 64 (g_node 62 (g_leaf 59 (o_if_lt 72 62)) (g_leaf 62 (o_iload 8 64))) (g_node 66 (g_leaf 64 (o_iload 6 66)) (g_leaf 66 (o_ic_lt 72 69)))))) (g_node 86 (g_node 76 (g_node 72 (g_leaf 69 (o_goto 80)) (g_node 74 (g_leaf 72 (o_iload 7 74)) (g_leaf 74 (o_istore 5 76)))) (g_node 80 (g_node 78 (g_leaf 76 (o_iload 8 78)) (g_leaf 78 (o_istore 6 80))) (g_node 83 (g_leaf 80 (o_iinc 7 1 83)) (g_leaf 83 (o_goto 34))))) (g_node 92 (g_node 87 (g_leaf 86 (o_aload 0 87)) (g_node 90 (g_leaf 87 (o_getf sh 10 1 90)) (g_leaf 90 (o_push (.int 12) 92)))) (g_node 95 (g_node 94 (g_leaf 92 (o_iload 4 94)) (g_leaf 94 (o_iast sh 95))) (g_node 97 (g_leaf 95 (o_iload 5 97)) (g_leaf 97 (o_iret))))))))
def t_X10_row (sh : g_Sh) : Nat → Option g_Op := (g_node 30 (g_node 13 (g_node 7 (g_node 2 (g_node 1 (g_leaf 0 (o_iload 1 1)) (g_leaf 1 (o_push (.int 0) 2))) (g_node 4 (g_leaf 2 (o_push (.int 9) 4)) (g_leaf 4 (o_callS 121 3 7)))) (g_node 9 (g_node 8 (g_leaf 7 (o_istore 2 8)) (g_leaf 8 (o_iload 2 9))) (g_node 12 (g_leaf 9 (o_if_ne 24 12)) (g_leaf 12 (o_aload 0 13))))) (g_node 23 (g_node 18 (g_node 16 (g_leaf 13 (o_getf sh 10 37 16)) (g_leaf 16 (o_push (.int 8) 18))) (g_node 21 (g_leaf 18 (o_ic_ne 24 21)) (g_leaf 21 (o_push (.int (-6)) 23)))) (g_node 25 (g_node 24 (g_leaf 23 (o_istore 2 24)) (g_leaf 24 (o_iload 2 25))) (g_node 28 (g_leaf 25 (o_if_eq 34 28)) (g_node 29 (g_leaf 28 (o_aload 0 29)) (g_leaf 29 (o_iload 2 30))))))) (g_node 44 (g_node 38 (g_node 34 (g_node 33 (g_leaf 30 (o_callV sh 10 119 2 33)) (g_leaf 33 (o_iret))) (g_node 35 (g_leaf 34 (o_aload 0 35)) (g_leaf 35 (o_getf sh 10 36 38)))) (g_node 42 (g_node 39 (g_leaf 38 (o_aload 0 39)) (g_leaf 39 (o_getf sh 10 37 42))) (g_node 43 (g_leaf 42 (o_iload 1 43)) (g_leaf 43 (o_iast sh 44))))) (g_node 50 (g_node 46 (g_node 45 (g_leaf 44 (o_aload 0 45)) (g_leaf 45 (o_dup 46))) (g_node 49 (g_leaf 46 (o_getf sh 10 37 49)) (g_leaf 49 (o_push (.int 1) 50)))) (g_node 54 (g_node 51 (g_leaf 50 (o_iadd 51)) (g_leaf 51 (o_putf sh 10 37 54))) (g_node 55 (g_leaf 54 (o_aload 0 55)) (g_node 58 (g_leaf 55 (o_getf sh 10 37 58)) (g_leaf 58 (o_iret))))))))
def t_X10_judge (sh : g_Sh) : Nat → Option g_Op := (g_node 46 (g_node 23 (g_node 12 (g_node 5 (g_node 1 (g_leaf 0 (o_aload 0 1)) (g_node 4 (g_leaf 1 (o_getf sh 10 1 4)) (g_leaf 4 (o_push (.int 4) 5)))) (g_node 9 (g_node 6 (g_leaf 5 (o_iald sh g_xi 6)) (g_leaf 6 (o_if_ne 16 9))) (g_node 10 (g_leaf 9 (o_aload 0 10)) (g_leaf 10 (o_push (.int (-3)) 12))))) (g_node 17 (g_node 15 (g_leaf 12 (o_callV sh 10 119 2 15)) (g_node 16 (g_leaf 15 (o_iret)) (g_leaf 16 (o_aload 0 17)))) (g_node 21 (g_node 20 (g_leaf 17 (o_getf sh 10 37 20)) (g_leaf 20 (o_istore 1 21))) (g_node 22 (g_leaf 21 (o_aload 0 22)) (g_leaf 22 (o_push (.int 0) 23)))))) (g_node 35 (g_node 28 (g_node 26 (g_leaf 23 (o_putf sh 10 37 26)) (g_node 27 (g_leaf 26 (o_push (.int 0) 27)) (g_leaf 27 (o_istore 2 28)))) (g_node 30 (g_node 29 (g_leaf 28 (o_iload 2 29)) (g_leaf 29 (o_aload 0 30))) (g_node 33 (g_leaf 30 (o_getf sh 10 1 33)) (g_leaf 33 (o_push (.int 6) 35))))) (g_node 40 (g_node 36 (g_leaf 35 (o_iald sh g_xi 36)) (g_node 39 (g_leaf 36 (o_ic_ge 73 39)) (g_leaf 39 (o_iload 2 40)))) (g_node 44 (g_node 41 (g_leaf 40 (o_iload 1 41)) (g_leaf 41 (o_ic_ne 46 44))) (g_node 45 (g_leaf 44 (o_iload 1 45)) (g_leaf 45 (o_iret))))))) (g_node 70 (g_node 59 (g_node 51 (g_node 47 (g_leaf 46 (o_aload 0 47)) (g_node 50 (g_leaf 47 (o_getf sh 10 36 50)) (g_leaf 50 (o_iload 2 51)))) (g_node 53 (g_node 52 (g_leaf 51 (o_iald sh g_xi 52)) (g_leaf 52 (o_aload 0 53))) (g_node 56 (g_leaf 53 (o_getf sh 10 1 56)) (g_leaf 56 (o_push (.int 146) 59))))) (g_node 62 (g_node 60 (g_leaf 59 (o_iload 2 60)) (g_node 61 (g_leaf 60 (o_iadd 61)) (g_leaf 61 (o_iald sh g_xi 62)))) (g_node 66 (g_node 65 (g_leaf 62 (o_ic_eq 67 65)) (g_leaf 65 (o_iload 2 66))) (g_node 67 (g_leaf 66 (o_iret)) (g_leaf 67 (o_iinc 2 1 70)))))) (g_node 84 (g_node 75 (g_node 73 (g_leaf 70 (o_goto 28)) (g_node 74 (g_leaf 73 (o_iload 1 74)) (g_leaf 74 (o_aload 0 75)))) (g_node 80 (g_node 78 (g_leaf 75 (o_getf sh 10 1 78)) (g_leaf 78 (o_push (.int 6) 80))) (g_node 81 (g_leaf 80 (o_iald sh g_xi 81)) (g_leaf 81 (o_ic_le 94 84))))) (g_node 90 (g_node 85 (g_leaf 84 (o_aload 0 85)) (g_node 88 (g_leaf 85 (o_getf sh 10 1 88)) (g_leaf 88 (o_push (.int 6) 90)))) (g_node 94 (g_node 91 (g_leaf 90 (o_iald sh g_xi 91)) (g_leaf 91 (o_goto 96))) (g_node 96 (g_leaf 94 (o_push (.int (-9)) 96)) (g_leaf 96 (o_iret))))))))
def t_X10_image (sh : g_Sh) : Nat → Option g_Op := (g_node 19 (g_node 9 (g_node 2 (g_node 1 (g_leaf 0 (o_push (.int 0) 1)) (g_leaf 1 (o_istore 1 2))) (g_node 3 (g_leaf 2 (o_iload 1 3)) (g_node 6 (g_leaf 3 (o_push (.int 154) 6)) (g_leaf 6 (o_ic_ge 27 9))))) (g_node 14 (g_node 10 (g_leaf 9 (o_aload 0 10)) (g_node 13 (g_leaf 10 (o_getf sh 10 2 13)) (g_leaf 13 (o_iload 1 14)))) (g_node 15 (g_leaf 14 (o_aload 0 15)) (g_node 18 (g_leaf 15 (o_getf sh 10 1 18)) (g_leaf 18 (o_iload 1 19)))))) (g_node 29 (g_node 24 (g_node 20 (g_leaf 19 (o_iald sh g_xi 20)) (g_node 21 (g_leaf 20 (o_iast sh 21)) (g_leaf 21 (o_iinc 1 1 24)))) (g_node 27 (g_leaf 24 (o_goto 2)) (g_node 28 (g_leaf 27 (o_aload 0 28)) (g_leaf 28 (o_push (.int 1) 29))))) (g_node 36 (g_node 32 (g_leaf 29 (o_putz sh 10 4 32)) (g_node 33 (g_leaf 32 (o_aload 0 33)) (g_leaf 33 (o_getf sh 10 1 36)))) (g_node 37 (g_leaf 36 (o_push (.int 0) 37)) (g_node 38 (g_leaf 37 (o_iald sh g_xi 38)) (g_leaf 38 (o_iret)))))))
def t_X10_on (sh : g_Sh) : Nat → Option g_Op := (g_node 24 (g_node 13 (g_node 7 (g_node 1 (g_leaf 0 (o_aload 0 1)) (g_node 4 (g_leaf 1 (o_getf sh 10 4 4)) (g_leaf 4 (o_if_ne 14 7)))) (g_node 8 (g_leaf 7 (o_aload 0 8)) (g_node 10 (g_leaf 8 (o_push (.int (-3)) 10)) (g_leaf 10 (o_callV sh 10 119 2 13))))) (g_node 16 (g_node 14 (g_leaf 13 (o_iret)) (g_node 15 (g_leaf 14 (o_push (.int 0) 15)) (g_leaf 15 (o_istore 1 16)))) (g_node 20 (g_node 17 (g_leaf 16 (o_iload 1 17)) (g_leaf 17 (o_push (.int 154) 20))) (g_node 23 (g_leaf 20 (o_ic_ge 41 23)) (g_leaf 23 (o_aload 0 24)))))) (g_node 35 (g_node 29 (g_node 27 (g_leaf 24 (o_getf sh 10 1 27)) (g_node 28 (g_leaf 27 (o_iload 1 28)) (g_leaf 28 (o_aload 0 29)))) (g_node 33 (g_node 32 (g_leaf 29 (o_getf sh 10 2 32)) (g_leaf 32 (o_iload 1 33))) (g_node 34 (g_leaf 33 (o_iald sh g_xi 34)) (g_leaf 34 (o_iast sh 35))))) (g_node 42 (g_node 38 (g_leaf 35 (o_iinc 1 1 38)) (g_node 41 (g_leaf 38 (o_goto 16)) (g_leaf 41 (o_aload 0 42)))) (g_node 46 (g_node 45 (g_leaf 42 (o_getf sh 10 1 45)) (g_leaf 45 (o_push (.int 0) 46))) (g_node 47 (g_leaf 46 (o_iald sh g_xi 47)) (g_leaf 47 (o_iret)))))))
def t_X10_count (sh : g_Sh) : Nat → Option g_Op := (g_node 88 (g_node 23 (g_node 13 (g_node 6 (g_node 1 (g_leaf 0 (o_iload 1 1)) (g_node 3 (g_leaf 1 (o_push (.int 10) 3)) (g_leaf 3 (o_ic_le 22 6)))) (g_node 9 (g_node 7 (g_leaf 6 (o_iload 1 7)) (g_leaf 7 (o_push (.int 17) 9))) (g_node 12 (g_leaf 9 (o_ic_ge 22 12)) (g_leaf 12 (o_aload 0 13))))) (g_node 19 (g_node 16 (g_leaf 13 (o_getf sh 10 0 16)) (g_node 17 (g_leaf 16 (o_iload 1 17)) (g_leaf 17 (o_push (.int 10) 19)))) (g_node 21 (g_node 20 (g_leaf 19 (o_isub 20)) (g_leaf 20 (o_iald sh g_xi 21))) (g_node 22 (g_leaf 21 (o_iret)) (g_leaf 22 (o_push (.int 0) 23)))))) (g_node 78 (g_node 72 (g_node 24 (g_leaf 23 (o_istore 2 24)) (g_node 25 (g_leaf 24 (o_iload 1 25)) (g_leaf 25 (o_sw [(0, 72), (1, 72), (2, 72), (3, 79), (4, 108), (5, 115), (6, 120), (7, 125)] 133)))) (g_node 76 (g_node 73 (g_leaf 72 (o_aload 0 73)) (g_leaf 73 (o_getf sh 10 1 76))) (g_node 77 (g_leaf 76 (o_iload 1 77)) (g_leaf 77 (o_iald sh g_xi 78))))) (g_node 82 (g_node 80 (g_node 79 (g_leaf 78 (o_iret)) (g_leaf 79 (o_push (.int 1) 80))) (g_node 81 (g_leaf 80 (o_istore 3 81)) (g_leaf 81 (o_iload 3 82)))) (g_node 86 (g_node 83 (g_leaf 82 (o_aload 0 83)) (g_leaf 83 (o_getf sh 10 1 86))) (g_node 87 (g_leaf 86 (o_push (.int 0) 87)) (g_leaf 87 (o_iald sh g_xi 88))))))) (g_node 113 (g_node 99 (g_node 93 (g_node 91 (g_leaf 88 (o_ic_ge 106 91)) (g_node 92 (g_leaf 91 (o_iload 2 92)) (g_leaf 92 (o_aload 0 93)))) (g_node 95 (g_node 94 (g_leaf 93 (o_iload 3 94)) (g_leaf 94 (o_push (.int 3) 95))) (g_node 98 (g_leaf 95 (o_callV sh 10 125 3 98)) (g_leaf 98 (o_iadd 99))))) (g_node 107 (g_node 103 (g_node 100 (g_leaf 99 (o_istore 2 100)) (g_leaf 100 (o_iinc 3 1 103))) (g_node 106 (g_leaf 103 (o_goto 81)) (g_leaf 106 (o_iload 2 107)))) (g_node 109 (g_node 108 (g_leaf 107 (o_iret)) (g_leaf 108 (o_aload 0 109))) (g_node 112 (g_leaf 109 (o_getf sh 10 1 112)) (g_leaf 112 (o_push (.int 3) 113)))))) (g_node 124 (g_node 116 (g_node 114 (g_leaf 113 (o_iald sh g_xi 114)) (g_node 115 (g_leaf 114 (o_iret)) (g_leaf 115 (o_aload 0 116)))) (g_node 120 (g_node 119 (g_leaf 116 (o_getf sh 10 37 119)) (g_leaf 119 (o_iret))) (g_node 121 (g_leaf 120 (o_aload 0 121)) (g_leaf 121 (o_getf sh 10 7 124))))) (g_node 131 (g_node 126 (g_node 125 (g_leaf 124 (o_iret)) (g_leaf 125 (o_aload 0 126))) (g_node 129 (g_leaf 126 (o_getf sh 10 1 129)) (g_leaf 129 (o_push (.int 8) 131)))) (g_node 133 (g_node 132 (g_leaf 131 (o_iald sh g_xi 132)) (g_leaf 132 (o_iret))) (g_node 135 (g_leaf 133 (o_push (.int (-9)) 135)) (g_leaf 135 (o_iret))))))))
def t_J6_bitCount (sh : g_Sh) : Nat → Option g_Op := (g_node 27 (g_node 14 (g_node 7 (g_node 2 (g_node 1 (g_leaf 0 (o_iload 0 1)) (g_leaf 1 (o_iload 0 2))) (g_node 3 (g_leaf 2 (o_push (.int 1) 3)) (g_node 4 (g_leaf 3 (o_iushr 4)) (g_leaf 4 (o_push (.int 1431655765) 7))))) (g_node 9 (g_node 8 (g_leaf 7 (o_iand 8)) (g_leaf 8 (o_isub 9))) (g_node 10 (g_leaf 9 (o_istore 0 10)) (g_node 11 (g_leaf 10 (o_iload 0 11)) (g_leaf 11 (o_push (.int 858993459) 14)))))) (g_node 21 (g_node 16 (g_node 15 (g_leaf 14 (o_iand 15)) (g_leaf 15 (o_iload 0 16))) (g_node 17 (g_leaf 16 (o_push (.int 2) 17)) (g_node 18 (g_leaf 17 (o_iushr 18)) (g_leaf 18 (o_push (.int 858993459) 21))))) (g_node 24 (g_node 22 (g_leaf 21 (o_iand 22)) (g_node 23 (g_leaf 22 (o_iadd 23)) (g_leaf 23 (o_istore 0 24)))) (g_node 25 (g_leaf 24 (o_iload 0 25)) (g_node 26 (g_leaf 25 (o_iload 0 26)) (g_leaf 26 (o_push (.int 4) 27))))))) (g_node 40 (g_node 34 (g_node 29 (g_node 28 (g_leaf 27 (o_iushr 28)) (g_leaf 28 (o_iadd 29))) (g_node 32 (g_leaf 29 (o_push (.int 252645135) 32)) (g_node 33 (g_leaf 32 (o_iand 33)) (g_leaf 33 (o_istore 0 34))))) (g_node 36 (g_node 35 (g_leaf 34 (o_iload 0 35)) (g_leaf 35 (o_iload 0 36))) (g_node 38 (g_leaf 36 (o_push (.int 8) 38)) (g_node 39 (g_leaf 38 (o_iushr 39)) (g_leaf 39 (o_iadd 40)))))) (g_node 46 (g_node 42 (g_node 41 (g_leaf 40 (o_istore 0 41)) (g_leaf 41 (o_iload 0 42))) (g_node 43 (g_leaf 42 (o_iload 0 43)) (g_node 45 (g_leaf 43 (o_push (.int 16) 45)) (g_leaf 45 (o_iushr 46))))) (g_node 49 (g_node 47 (g_leaf 46 (o_iadd 47)) (g_node 48 (g_leaf 47 (o_istore 0 48)) (g_leaf 48 (o_iload 0 49)))) (g_node 51 (g_leaf 49 (o_push (.int 63) 51)) (g_node 52 (g_leaf 51 (o_iand 52)) (g_leaf 52 (o_iret))))))))
def t_J7_fill (sh : g_Sh) : Nat → Option g_Op := (g_node 7 (g_node 3 (g_node 1 (g_leaf 0 (o_push (.int 0) 1)) (g_node 2 (g_leaf 1 (o_istore 2 2)) (g_leaf 2 (o_aload 0 3)))) (g_node 5 (g_node 4 (g_leaf 3 (o_alen sh g_x0 4)) (g_leaf 4 (o_istore 3 5))) (g_node 6 (g_leaf 5 (o_iload 2 6)) (g_leaf 6 (o_iload 3 7))))) (g_node 13 (g_node 11 (g_node 10 (g_leaf 7 (o_ic_ge 20 10)) (g_leaf 10 (o_aload 0 11))) (g_node 12 (g_leaf 11 (o_iload 2 12)) (g_leaf 12 (o_iload 1 13)))) (g_node 17 (g_node 14 (g_leaf 13 (o_iast sh 14)) (g_leaf 14 (o_iinc 2 1 17))) (g_node 20 (g_leaf 17 (o_goto 5)) (g_leaf 20 (o_vret))))))
def t_J0_length (sh : g_Sh) : Nat → Option g_Op := (g_node 5 (g_node 1 (g_leaf 0 (o_aload 0 1)) (g_node 4 (g_leaf 1 (o_xfld g_fval 4)) (g_leaf 4 (o_alen sh g_x0 5)))) (g_node 9 (g_node 6 (g_leaf 5 (o_aload 0 6)) (g_leaf 6 (o_callX 10 16 211 1 9))) (g_node 10 (g_leaf 9 (o_ishr 10)) (g_leaf 10 (o_iret)))))
def t_J0_isEmpty (sh : g_Sh) : Nat → Option g_Op := (g_node 8 (g_node 4 (g_node 1 (g_leaf 0 (o_aload 0 1)) (g_leaf 1 (o_xfld g_fval 4))) (g_node 5 (g_leaf 4 (o_alen sh g_x0 5)) (g_leaf 5 (o_if_ne 12 8)))) (g_node 12 (g_node 9 (g_leaf 8 (o_push (.int 1) 9)) (g_leaf 9 (o_goto 13))) (g_node 13 (g_leaf 12 (o_push (.int 0) 13)) (g_leaf 13 (o_nret .boolean)))))
def t_J0_charAt (sh : g_Sh) : Nat → Option g_Op := (g_node 12 (g_node 7 (g_node 1 (g_leaf 0 (o_aload 0 1)) (g_node 4 (g_leaf 1 (o_callX 10 16 212 1 4)) (g_leaf 4 (o_if_eq 16 7)))) (g_node 8 (g_leaf 7 (o_aload 0 8)) (g_node 11 (g_leaf 8 (o_xfld g_fval 11)) (g_leaf 11 (o_iload 1 12))))) (g_node 17 (g_node 15 (g_leaf 12 (o_callS 214 2 15)) (g_node 16 (g_leaf 15 (o_nret .char)) (g_leaf 16 (o_aload 0 17)))) (g_node 20 (g_leaf 17 (o_xfld g_fval 20)) (g_node 24 (g_leaf 20 (o_iload 1 21)) (g_leaf 24 (o_nret .char))))))
def t_J0_indexOf (sh : g_Sh) : Nat → Option g_Op := (g_node 2 (g_node 1 (g_leaf 0 (o_aload 0 1)) (g_leaf 1 (o_iload 1 2))) (g_node 3 (g_leaf 2 (o_push (.int 0) 3)) (g_node 6 (g_leaf 3 (o_callX 10 16 210 3 6)) (g_leaf 6 (o_iret)))))
def t_J0_indexOf2 (sh : g_Sh) : Nat → Option g_Op := (g_node 17 (g_node 8 (g_node 4 (g_node 1 (g_leaf 0 (o_aload 0 1)) (g_leaf 1 (o_callX 10 16 212 1 4))) (g_node 7 (g_leaf 4 (o_if_eq 23 7)) (g_leaf 7 (o_aload 0 8)))) (g_node 12 (g_node 11 (g_leaf 8 (o_xfld g_fval 11)) (g_leaf 11 (o_iload 1 12))) (g_node 13 (g_leaf 12 (o_iload 2 13)) (g_node 14 (g_leaf 13 (o_aload 0 14)) (g_leaf 14 (o_callX 10 16 206 1 17)))))) (g_node 27 (g_node 23 (g_node 20 (g_leaf 17 (o_callS 216 4 20)) (g_leaf 20 (o_goto 36))) (g_node 24 (g_leaf 23 (o_aload 0 24)) (g_leaf 24 (o_xfld g_fval 27)))) (g_node 29 (g_node 28 (g_leaf 27 (o_iload 1 28)) (g_leaf 28 (o_iload 2 29))) (g_node 30 (g_leaf 29 (o_aload 0 30)) (g_node 36 (g_leaf 30 (o_callX 10 16 206 1 33)) (g_leaf 36 (o_iret)))))))
def t_J0_coder (sh : g_Sh) : Nat → Option g_Op := (g_node 7 (g_node 3 (g_leaf 0 (o_push (.int 1) 3)) (g_node 6 (g_leaf 3 (o_if_eq 13 6)) (g_leaf 6 (o_aload 0 7)))) (g_node 13 (g_node 10 (g_leaf 7 (o_xfld g_fcod 10)) (g_leaf 10 (o_goto 14))) (g_node 14 (g_leaf 13 (o_push (.int 1) 14)) (g_leaf 14 (o_nret .byte)))))
def t_J0_isLatin1 (sh : g_Sh) : Nat → Option g_Op := (g_node 10 (g_node 6 (g_node 3 (g_leaf 0 (o_push (.int 1) 3)) (g_leaf 3 (o_if_eq 17 6))) (g_node 7 (g_leaf 6 (o_aload 0 7)) (g_leaf 7 (o_xfld g_fcod 10)))) (g_node 14 (g_node 13 (g_leaf 10 (o_if_ne 17 13)) (g_leaf 13 (o_push (.int 1) 14))) (g_node 17 (g_leaf 14 (o_goto 18)) (g_node 18 (g_leaf 17 (o_push (.int 0) 18)) (g_leaf 18 (o_nret .boolean))))))
def t_J0_checkIndex (sh : g_Sh) : Nat → Option g_Op := (g_node 5 (g_node 1 (g_leaf 0 (o_iload 0 1)) (g_node 2 (g_leaf 1 (o_iload 1 2)) (g_leaf 2 (o_pushQ 40 5)))) (g_node 8 (g_leaf 5 (o_callS 218 3 8)) (g_node 9 (g_leaf 8 (o_pop 9)) (g_leaf 9 (o_vret)))))
def t_J1_charAt (sh : g_Sh) : Nat → Option g_Op := (g_node 7 (g_node 2 (g_node 1 (g_leaf 0 (o_iload 1 1)) (g_leaf 1 (o_aload 0 2))) (g_node 3 (g_leaf 2 (o_alen sh g_x0 3)) (g_node 6 (g_leaf 3 (o_callSv 213 2 6)) (g_leaf 6 (o_aload 0 7))))) (g_node 12 (g_node 8 (g_leaf 7 (o_iload 1 8)) (g_node 9 (g_leaf 8 (o_bald g_xb 9)) (g_leaf 9 (o_push (.int 255) 12)))) (g_node 13 (g_leaf 12 (o_iand 13)) (g_node 14 (g_leaf 13 (o_i2c 14)) (g_leaf 14 (o_nret .char))))))
def t_J1_canEncode (sh : g_Sh) : Nat → Option g_Op := (g_node 8 (g_node 4 (g_node 1 (g_leaf 0 (o_iload 0 1)) (g_leaf 1 (o_if_lt 15 4))) (g_node 5 (g_leaf 4 (o_iload 0 5)) (g_leaf 5 (o_push (.int 255) 8)))) (g_node 12 (g_node 11 (g_leaf 8 (o_ic_gt 15 11)) (g_leaf 11 (o_push (.int 1) 12))) (g_node 15 (g_leaf 12 (o_goto 16)) (g_node 16 (g_leaf 15 (o_push (.int 0) 16)) (g_leaf 16 (o_nret .boolean))))))
def t_J1_indexOf (sh : g_Sh) : Nat → Option g_Op := (g_node 18 (g_node 10 (g_node 7 (g_node 1 (g_leaf 0 (o_iload 1 1)) (g_node 4 (g_leaf 1 (o_callS 215 1 4)) (g_leaf 4 (o_if_ne 9 7)))) (g_node 8 (g_leaf 7 (o_push (.int (-1)) 8)) (g_node 9 (g_leaf 8 (o_iret)) (g_leaf 9 (o_iload 2 10))))) (g_node 15 (g_node 11 (g_leaf 10 (o_push (.int 0) 11)) (g_node 14 (g_leaf 11 (o_max 14)) (g_leaf 14 (o_istore 2 15)))) (g_node 16 (g_leaf 15 (o_iload 3 16)) (g_node 17 (g_leaf 16 (o_aload 0 17)) (g_leaf 17 (o_alen sh g_x0 18)))))) (g_node 28 (g_node 23 (g_node 21 (g_leaf 18 (o_min 21)) (g_node 22 (g_leaf 21 (o_istore 3 22)) (g_leaf 22 (o_iload 2 23)))) (g_node 24 (g_leaf 23 (o_iload 3 24)) (g_node 27 (g_leaf 24 (o_ic_lt 29 27)) (g_leaf 27 (o_push (.int (-1)) 28))))) (g_node 31 (g_node 29 (g_leaf 28 (o_iret)) (g_node 30 (g_leaf 29 (o_aload 0 30)) (g_leaf 30 (o_iload 1 31)))) (g_node 33 (g_node 32 (g_leaf 31 (o_iload 2 32)) (g_leaf 32 (o_iload 3 33))) (g_node 36 (g_leaf 33 (o_callS 217 4 36)) (g_leaf 36 (o_iret)))))))
def t_J1_indexOfChar (sh : g_Sh) : Nat → Option g_Op := (g_node 14 (g_node 5 (g_node 2 (g_node 1 (g_leaf 0 (o_iload 1 1)) (g_leaf 1 (o_i2b 2))) (g_node 4 (g_leaf 2 (o_istore 4 4)) (g_leaf 4 (o_iload 2 5)))) (g_node 9 (g_node 7 (g_leaf 5 (o_istore 5 7)) (g_leaf 7 (o_iload 5 9))) (g_node 10 (g_leaf 9 (o_iload 3 10)) (g_node 13 (g_leaf 10 (o_ic_ge 31 13)) (g_leaf 13 (o_aload 0 14)))))) (g_node 24 (g_node 17 (g_node 16 (g_leaf 14 (o_iload 5 16)) (g_leaf 16 (o_bald g_xb 17))) (g_node 19 (g_leaf 17 (o_iload 4 19)) (g_node 22 (g_leaf 19 (o_ic_ne 25 22)) (g_leaf 22 (o_iload 5 24))))) (g_node 28 (g_node 25 (g_leaf 24 (o_iret)) (g_leaf 25 (o_iinc 5 1 28))) (g_node 31 (g_leaf 28 (o_goto 7)) (g_node 32 (g_leaf 31 (o_push (.int (-1)) 32)) (g_leaf 32 (o_iret)))))))
def t_J3_checkIndex (sh : g_Sh) : Nat → Option g_Op := (g_node 9 (g_node 4 (g_node 1 (g_leaf 0 (o_iload 0 1)) (g_leaf 1 (o_if_lt 9 4))) (g_node 5 (g_leaf 4 (o_iload 0 5)) (g_node 6 (g_leaf 5 (o_iload 1 6)) (g_leaf 6 (o_ic_lt 16 9))))) (g_node 11 (g_node 10 (g_leaf 9 (o_aload 2 10)) (g_leaf 10 (o_iload 0 11))) (g_node 16 (g_leaf 11 (o_iload 1 12)) (g_node 17 (g_leaf 16 (o_iload 0 17)) (g_leaf 17 (o_iret))))))
def g_kn {α : Type} (n : Nat) (f g : Nat → α) : Nat → α := fun a => cond (Nat.ble n a) (g a) (f a)
def g_mi : g_MI := (g_kn 109 (g_kn 54 (g_kn 27 (g_kn 13 (g_kn 6 (g_kn 3 (g_kn 1 (fun _ => (⟨"InTheGarden$Game", "play", "(LInTheGarden$Garden;LInTheGarden$Orders;II)V"⟩, prog_2_method_2_code, 8, none)) (g_kn 2 (fun _ => (⟨"InTheGarden$Game", "leastOverOrders", "()I"⟩, prog_2_method_3_code, 1, (some .int))) (fun _ => (⟨"InTheGarden$Game", "greatestOverPlaces", "()I"⟩, prog_2_method_4_code, 1, (some .int))))) (g_kn 4 (fun _ => (⟨"InTheGarden$Game", "tellAll", "(LInTheGarden$Garden;LInTheGarden$Orders;)V"⟩, prog_2_method_5_code, 7, none)) (g_kn 5 (fun _ => (⟨"InTheGarden$Game", "addTells", "(II)V"⟩, prog_2_method_6_code, 4, none)) (fun _ => (⟨"InTheGarden$Game", "indexOfGreatest", "([II)I"⟩, prog_2_method_7_code, 4, (some .int)))))) (g_kn 9 (g_kn 7 (fun _ => (⟨"InTheGarden$Game", "indexOfLeast", "([II)I"⟩, prog_2_method_8_code, 4, (some .int))) (g_kn 8 (fun _ => (⟨"InTheGarden$Garden", "copyFrom", "(LInTheGarden$Garden;)V"⟩, prog_3_method_2_code, 2, none)) (fun _ => (⟨"InTheGarden$Garden", "isPlace", "(I)Z"⟩, prog_3_method_3_code, 2, (some .boolean))))) (g_kn 11 (g_kn 10 (fun _ => (⟨"InTheGarden$Garden", "isHidingPlace", "(I)Z"⟩, prog_3_method_4_code, 2, (some .boolean))) (fun _ => (⟨"InTheGarden$Garden", "isHider", "(I)Z"⟩, prog_3_method_5_code, 2, (some .boolean)))) (g_kn 12 (fun _ => (⟨"InTheGarden$Garden", "addPlace", "(III)Z"⟩, prog_3_method_6_code, 4, (some .boolean))) (fun _ => (⟨"InTheGarden$Garden", "addWay", "(III)Z"⟩, prog_3_method_7_code, 4, (some .boolean))))))) (g_kn 20 (g_kn 16 (g_kn 14 (fun _ => (⟨"InTheGarden$Garden", "addView", "(II)Z"⟩, prog_3_method_8_code, 3, (some .boolean))) (g_kn 15 (fun _ => (⟨"InTheGarden$Garden", "addHider", "(II)Z"⟩, prog_3_method_9_code, 3, (some .boolean))) (fun _ => (⟨"InTheGarden$Garden", "measure", "()V"⟩, prog_3_method_10_code, 2, none)))) (g_kn 18 (g_kn 17 (fun _ => (⟨"InTheGarden$Garden", "measureWays", "()V"⟩, prog_3_method_11_code, 4, none)) (fun _ => (⟨"InTheGarden$Garden", "shortenFrom", "(II)V"⟩, prog_3_method_12_code, 7, none))) (g_kn 19 (fun _ => (⟨"InTheGarden$Garden", "measureRuns", "(I)V"⟩, prog_3_method_13_code, 6, none)) (fun _ => (⟨"InTheGarden$Garden", "wayBetween", "(II)I"⟩, prog_3_method_14_code, 3, (some .int)))))) (g_kn 23 (g_kn 21 (fun _ => (⟨"InTheGarden$Garden", "distance", "(II)I"⟩, prog_3_method_15_code, 3, (some .int))) (g_kn 22 (fun _ => (⟨"InTheGarden$Garden", "canComeToFirst", "(I)Z"⟩, prog_3_method_16_code, 3, (some .boolean))) (fun _ => (⟨"InTheGarden$Garden", "nextOn", "(II)I"⟩, prog_3_method_17_code, 7, (some .int))))) (g_kn 25 (g_kn 24 (fun _ => (⟨"InTheGarden$Garden", "coverAt", "(IIIII)I"⟩, prog_3_method_18_code, 7, (some .int))) (fun _ => (⟨"InTheGarden$Garden", "secondsToWalk", "(II)I"⟩, prog_3_method_19_code, 3, (some .int)))) (g_kn 26 (fun _ => (⟨"InTheGarden$Garden", "secondsToRun", "(II)I"⟩, prog_3_method_20_code, 3, (some .int))) (fun _ => (⟨"InTheGarden$Garden", "wouldRun", "(IIII)Z"⟩, prog_3_method_21_code, 6, (some .boolean)))))))) (g_kn 40 (g_kn 33 (g_kn 30 (g_kn 28 (fun _ => (⟨"InTheGarden$Garden", "allTimes", "()I"⟩, prog_3_method_22_code, 3, (some .int))) (g_kn 29 (fun _ => (⟨"InTheGarden$Orders", "begin", "(I)V"⟩, prog_4_method_2_code, 3, none)) (fun _ => (⟨"InTheGarden$Orders", "advance", "()Z"⟩, prog_4_method_3_code, 5, (some .boolean))))) (g_kn 31 (fun _ => (⟨"InTheGarden$Orders", "swap", "(II)V"⟩, prog_4_method_4_code, 4, none)) (g_kn 32 (fun _ => (⟨"InTheGarden$Reader", "append", "(IJ)V"⟩, prog_5_method_2_code, 5, none)) (fun _ => (⟨"InTheGarden$Reader", "readInto", "(LInTheGarden$Garden;)I"⟩, prog_5_method_3_code, 6, (some .int)))))) (g_kn 36 (g_kn 34 (fun _ => (⟨"InTheGarden$Reader", "countStatements", "()I"⟩, prog_5_method_4_code, 2, (some .int))) (g_kn 35 (fun _ => (⟨"InTheGarden$Reader", "sign", "()I"⟩, prog_5_method_5_code, 1, (some .int))) (fun _ => (⟨"InTheGarden$Reader", "readStatement", "()Z"⟩, prog_5_method_6_code, 6, (some .boolean))))) (g_kn 38 (g_kn 37 (fun _ => (⟨"InTheGarden$Reader", "formOf", "(I)Ljava/lang/String;"⟩, prog_5_method_7_code, 1, (some (.object "java/lang/String")))) (fun _ => (⟨"InTheGarden$Reader", "readMark", "(C)Z"⟩, prog_5_method_8_code, 2, (some .boolean)))) (g_kn 39 (fun _ => (⟨"InTheGarden$Reader", "readValue", "(CI)Z"⟩, prog_5_method_9_code, 3, (some .boolean))) (fun _ => (⟨"InTheGarden$Reader", "readKind", "(I)Z"⟩, prog_5_method_10_code, 4, (some .boolean))))))) (g_kn 47 (g_kn 43 (g_kn 41 (fun _ => (⟨"InTheGarden$Reader", "readNumber", "(III)Z"⟩, prog_5_method_11_code, 6, (some .boolean))) (g_kn 42 (fun _ => (⟨"InTheGarden$Reader", "keep", "(II)V"⟩, prog_5_method_12_code, 3, none)) (fun _ => (⟨"InTheGarden$Reader", "tell", "(ILInTheGarden$Garden;)Z"⟩, prog_5_method_13_code, 3, (some .boolean))))) (g_kn 45 (g_kn 44 (fun _ => (⟨"InTheGarden$Round", "copyFrom", "(LInTheGarden$Round;)V"⟩, prog_6_method_2_code, 2, none)) (fun _ => (⟨"InTheGarden$Round", "play", "(LInTheGarden$Garden;LInTheGarden$Told;LInTheGarden$Seeker;I)V"⟩, prog_6_method_3_code, 8, none))) (g_kn 46 (fun _ => (⟨"InTheGarden$Round", "howMany", "(I)I"⟩, prog_6_method_4_code, 4, (some .int))) (fun _ => (⟨"InTheGarden$Round", "growTimes", "(LInTheGarden$Garden;)V"⟩, prog_6_method_5_code, 4, none))))) (g_kn 50 (g_kn 48 (fun _ => (⟨"InTheGarden$Round", "begin", "(LInTheGarden$Garden;I)V"⟩, prog_6_method_6_code, 3, none)) (g_kn 49 (fun _ => (⟨"InTheGarden$Round", "drawBelow", "(I)I"⟩, prog_6_method_7_code, 2, (some .int))) (fun _ => (⟨"InTheGarden$Round", "hideAll", "(LInTheGarden$Garden;LInTheGarden$Told;)V"⟩, prog_6_method_8_code, 5, none)))) (g_kn 52 (g_kn 51 (fun _ => (⟨"InTheGarden$Round", "choose", "(LInTheGarden$Garden;LInTheGarden$Told;I)I"⟩, prog_6_method_9_code, 6, (some .int))) (fun _ => (⟨"InTheGarden$Round", "openPlaces", "(LInTheGarden$Garden;II)I"⟩, prog_6_method_10_code, 7, (some .int)))) (g_kn 53 (fun _ => (⟨"InTheGarden$Round", "deepest", "(LInTheGarden$Garden;I)I"⟩, prog_6_method_11_code, 4, (some .int))) (fun _ => (⟨"InTheGarden$Round", "outermost", "(LInTheGarden$Garden;I)I"⟩, prog_6_method_12_code, 4, (some .int))))))))) (g_kn 81 (g_kn 67 (g_kn 60 (g_kn 57 (g_kn 55 (fun _ => (⟨"InTheGarden$Round", "bitAt", "(II)I"⟩, prog_6_method_13_code, 4, (some .int))) (g_kn 56 (fun _ => (⟨"InTheGarden$Round", "comeAndLook", "(LInTheGarden$Garden;LInTheGarden$Told;LInTheGarden$Seeker;I)V"⟩, prog_6_method_14_code, 7, none)) (fun _ => (⟨"InTheGarden$Round", "coverOf", "(LInTheGarden$Garden;IIII)I"⟩, prog_6_method_15_code, 8, (some .int))))) (g_kn 58 (fun _ => (⟨"InTheGarden$Round", "hidingIn", "(I)I"⟩, prog_6_method_16_code, 4, (some .int))) (g_kn 59 (fun _ => (⟨"InTheGarden$Round", "find", "(II)V"⟩, prog_6_method_17_code, 3, none)) (fun _ => (⟨"InTheGarden$Round", "bringHome", "(IZZ)V"⟩, prog_6_method_18_code, 5, none))))) (g_kn 63 (g_kn 61 (fun _ => (⟨"InTheGarden$Round", "freeAll", "(I)V"⟩, prog_6_method_19_code, 3, none)) (g_kn 62 (fun _ => (⟨"InTheGarden$Round", "startRuns", "(LInTheGarden$Garden;III)V"⟩, prog_6_method_20_code, 6, none)) (fun _ => (⟨"InTheGarden$Round", "isOpen", "()Z"⟩, prog_6_method_21_code, 2, (some .boolean))))) (g_kn 65 (g_kn 64 (fun _ => (⟨"InTheGarden$Round", "nextMoment", "(LInTheGarden$Seeker;I)I"⟩, prog_6_method_22_code, 5, (some .int))) (fun _ => (⟨"InTheGarden$Round", "end", "(I)V"⟩, prog_6_method_23_code, 3, none))) (g_kn 66 (fun _ => (⟨"InTheGarden$Seeker", "begin", "()V"⟩, prog_7_method_2_code, 1, none)) (fun _ => (⟨"InTheGarden$Seeker", "comesAt", "(I)Z"⟩, prog_7_method_3_code, 2, (some .boolean))))))) (g_kn 74 (g_kn 70 (g_kn 68 (fun _ => (⟨"InTheGarden$Seeker", "come", "(II)V"⟩, prog_7_method_4_code, 3, none)) (g_kn 69 (fun _ => (⟨"InTheGarden$Seeker", "standsAtBase", "()Z"⟩, prog_7_method_5_code, 1, (some .boolean))) (fun _ => (⟨"InTheGarden$Seeker", "goOnAt", "(ILInTheGarden$Garden;LInTheGarden$Told;)V"⟩, prog_7_method_6_code, 4, none)))) (g_kn 72 (g_kn 71 (fun _ => (⟨"InTheGarden$Seeker", "nextTarget", "(LInTheGarden$Garden;LInTheGarden$Told;)I"⟩, prog_7_method_7_code, 4, (some .int))) (fun _ => (⟨"InTheGarden$Seeker", "secondsBack", "(ILInTheGarden$Garden;)I"⟩, prog_7_method_8_code, 3, (some .int)))) (g_kn 73 (fun _ => (⟨"InTheGarden$Sight", "leastWay", "(LInTheGarden$Garden;)I"⟩, prog_8_method_2_code, 8, (some .int))) (fun _ => (⟨"InTheGarden$Sight", "fewestPlaces", "(LInTheGarden$Garden;)I"⟩, prog_8_method_3_code, 5, (some .int)))))) (g_kn 77 (g_kn 75 (fun _ => (⟨"InTheGarden$Sight", "goFurther", "(LInTheGarden$Garden;III)V"⟩, prog_8_method_4_code, 8, none)) (g_kn 76 (fun _ => (⟨"InTheGarden$Sight", "slotOf", "(II)I"⟩, prog_8_method_5_code, 2, (some .int))) (fun _ => (⟨"InTheGarden$Sight", "placesToCome", "(LInTheGarden$Garden;)I"⟩, prog_8_method_6_code, 3, (some .int))))) (g_kn 79 (g_kn 78 (fun _ => (⟨"InTheGarden$Sight", "seenFrom", "(LInTheGarden$Garden;I)I"⟩, prog_8_method_7_code, 4, (some .int))) (fun _ => (⟨"InTheGarden$Told", "copyFrom", "(LInTheGarden$Told;)V"⟩, prog_9_method_2_code, 2, none))) (g_kn 80 (fun _ => (⟨"InTheGarden$Told", "takeDigits", "(IJ)V"⟩, prog_9_method_3_code, 7, none)) (fun _ => (⟨"InTheGarden$Told", "takeRow", "([II)V"⟩, prog_9_method_4_code, 3, none))))))) (g_kn 95 (g_kn 88 (g_kn 84 (g_kn 82 (fun _ => (⟨"InTheGarden$World", "copyFrom", "(LInTheGarden$World;)V"⟩, prog_10_method_2_code, 2, none)) (g_kn 83 (fun _ => (⟨"InTheGarden", "feed", "(IJ)I"⟩, prog_1_method_2_code, 4, (some .int))) (fun _ => (⟨"InTheGarden", "garden", "()I"⟩, prog_1_method_3_code, 2, (some .int))))) (g_kn 86 (g_kn 85 (fun _ => (⟨"InTheGarden", "place", "(II)I"⟩, prog_1_method_4_code, 4, (some .int))) (fun _ => (⟨"InTheGarden", "sees", "(II)I"⟩, prog_1_method_5_code, 4, (some .int)))) (g_kn 87 (fun _ => (⟨"InTheGarden", "far", "(II)I"⟩, prog_1_method_6_code, 4, (some .int))) (fun _ => (⟨"InTheGarden", "hider", "(II)I"⟩, prog_1_method_7_code, 4, (some .int)))))) (g_kn 91 (g_kn 89 (fun _ => (⟨"InTheGarden", "times", "(II)I"⟩, prog_1_method_8_code, 5, (some .int))) (g_kn 90 (fun _ => (⟨"InTheGarden", "set", "(II)I"⟩, prog_1_method_9_code, 4, (some .int))) (fun _ => (⟨"InTheGarden", "order", "(IJ)I"⟩, prog_1_method_10_code, 7, (some .int))))) (g_kn 93 (g_kn 92 (fun _ => (⟨"InTheGarden", "cover", "(III)I"⟩, prog_1_method_11_code, 4, (some .int))) (fun _ => (⟨"InTheGarden", "run", "(II)I"⟩, prog_1_method_12_code, 3, (some .int)))) (g_kn 94 (fun _ => (⟨"InTheGarden", "round", "(I)I"⟩, prog_1_method_13_code, 2, (some .int))) (fun _ => (⟨"InTheGarden", "mind", "(II)I"⟩, prog_1_method_14_code, 3, (some .int))))))) (g_kn 102 (g_kn 98 (g_kn 96 (fun _ => (⟨"InTheGarden", "of", "(II)I"⟩, prog_1_method_15_code, 3, (some .int))) (g_kn 97 (fun _ => (⟨"InTheGarden", "found", "(I)I"⟩, prog_1_method_16_code, 2, (some .int))) (fun _ => (⟨"InTheGarden", "table", "(II)I"⟩, prog_1_method_17_code, 8, (some .int))))) (g_kn 100 (g_kn 99 (fun _ => (⟨"InTheGarden", "mayGo", "()I"⟩, prog_1_method_18_code, 4, (some .int))) (fun _ => (⟨"InTheGarden", "allSeen", "()I"⟩, prog_1_method_19_code, 1, (some .int)))) (g_kn 101 (fun _ => (⟨"InTheGarden", "fewest", "()I"⟩, prog_1_method_20_code, 1, (some .int))) (fun _ => (⟨"InTheGarden", "game", "(IIII)I"⟩, prog_1_method_21_code, 7, (some .int)))))) (g_kn 105 (g_kn 103 (fun _ => (⟨"InTheGarden", "taken", "(III)I"⟩, prog_1_method_22_code, 5, (some .int))) (g_kn 104 (fun _ => (⟨"InTheGarden", "summer", "(II)I"⟩, prog_1_method_23_code, 7, (some .int))) (fun _ => (⟨"InTheGarden", "odds", "(III)I"⟩, prog_1_method_24_code, 9, (some .int))))) (g_kn 107 (g_kn 106 (fun _ => (⟨"InTheGarden", "bestOrder", "(IIII)I"⟩, prog_1_method_25_code, 9, (some .int))) (fun _ => (⟨"InTheGarden", "bestRule", "(II)I"⟩, prog_1_method_26_code, 7, (some .int)))) (g_kn 108 (fun _ => (⟨"InTheGarden", "row", "(I)I"⟩, prog_1_method_27_code, 2, (some .int))) (fun _ => (⟨"InTheGarden", "judge", "()I"⟩, prog_1_method_28_code, 4, (some .int)))))))))) (g_kn 164 (g_kn 136 (g_kn 122 (g_kn 115 (g_kn 112 (g_kn 110 (fun _ => (⟨"InTheGarden", "image", "()I"⟩, prog_1_method_29_code, 1, (some .int))) (g_kn 111 (fun _ => (⟨"InTheGarden", "on", "()I"⟩, prog_1_method_30_code, 1, (some .int))) (fun _ => (⟨"InTheGarden", "count", "(I)I"⟩, prog_1_method_31_code, 2, (some .int))))) (g_kn 113 (fun _ => (⟨"InTheGarden", "refuse", "(I)I"⟩, prog_1_method_32_code, 2, (some .int))) (g_kn 114 (fun _ => (⟨"InTheGarden", "refusalOfGame", "(III)I"⟩, prog_1_method_33_code, 4, (some .int))) (fun _ => (⟨"InTheGarden", "nobodyRuns", "(II)Z"⟩, prog_1_method_34_code, 7, (some .boolean)))))) (g_kn 118 (g_kn 116 (fun _ => (⟨"InTheGarden", "findsOfTrial", "(II)I"⟩, prog_1_method_35_code, 5, (some .int))) (g_kn 117 (fun _ => (⟨"InTheGarden", "hasBit", "(II)Z"⟩, prog_1_method_36_code, 2, (some .boolean))) (fun _ => (⟨"InTheGarden", "inLeastTerms", "(III)I"⟩, prog_1_method_37_code, 4, (some .int))))) (g_kn 120 (g_kn 119 (fun _ => (⟨"InTheGarden", "greatestCommon", "(II)I"⟩, prog_1_method_38_code, 6, (some .int))) (fun _ => (⟨"InTheGardenModel", "refuse", "(I)I"⟩, prog_12_method_2_code, 2, (some .int)))) (g_kn 121 (fun _ => (⟨"InTheGardenModel", "isIn", "(II)Z"⟩, prog_12_method_3_code, 2, (some .boolean))) (fun _ => (⟨"InTheGardenModel", "within", "(III)I"⟩, prog_12_method_4_code, 3, (some .int))))))) (g_kn 129 (g_kn 125 (g_kn 123 (fun _ => (⟨"InTheGardenModel", "isPlace", "(I)Z"⟩, prog_12_method_5_code, 2, (some .boolean))) (g_kn 124 (fun _ => (⟨"InTheGardenModel", "isRoom", "(I)Z"⟩, prog_12_method_6_code, 2, (some .boolean))) (fun _ => (⟨"InTheGardenModel", "isHider", "(I)Z"⟩, prog_12_method_7_code, 2, (some .boolean))))) (g_kn 127 (g_kn 126 (fun _ => (⟨"InTheGardenModel", "get", "(II)I"⟩, prog_12_method_8_code, 3, (some .int))) (fun _ => (⟨"InTheGardenModel", "setOf", "(I)I"⟩, prog_12_method_9_code, 2, (some .int)))) (g_kn 128 (fun _ => (⟨"InTheGardenModel", "feed", "(IJ)I"⟩, prog_12_method_10_code, 5, (some .int))) (fun _ => (⟨"InTheGardenModel", "sign", "()I"⟩, prog_12_method_11_code, 1, (some .int)))))) (g_kn 132 (g_kn 130 (fun _ => (⟨"InTheGardenModel", "isDigit", "()Z"⟩, prog_12_method_12_code, 1, (some .boolean))) (g_kn 131 (fun _ => (⟨"InTheGardenModel", "takes", "(I)Z"⟩, prog_12_method_13_code, 2, (some .boolean))) (fun _ => (⟨"InTheGardenModel", "readsNumber", "(III)Z"⟩, prog_12_method_14_code, 5, (some .boolean))))) (g_kn 134 (g_kn 133 (fun _ => (⟨"InTheGardenModel", "kindOf", "(I)I"⟩, prog_12_method_15_code, 1, (some .int))) (fun _ => (⟨"InTheGardenModel", "readsStatement", "()Z"⟩, prog_12_method_16_code, 2, (some .boolean)))) (g_kn 135 (fun _ => (⟨"InTheGardenModel", "isWay", "([III)Z"⟩, prog_12_method_17_code, 6, (some .boolean))) (fun _ => (⟨"InTheGardenModel", "comes", "(I)Z"⟩, prog_12_method_18_code, 7, (some .boolean)))))))) (g_kn 150 (g_kn 143 (g_kn 139 (g_kn 137 (fun _ => (⟨"InTheGardenModel", "reads", "()I"⟩, prog_12_method_19_code, 5, (some .int))) (g_kn 138 (fun _ => (⟨"InTheGardenModel", "garden", "()I"⟩, prog_12_method_20_code, 2, (some .int))) (fun _ => (⟨"InTheGardenModel", "findFar", "()V"⟩, prog_12_method_21_code, 5, none)))) (g_kn 141 (g_kn 140 (fun _ => (⟨"InTheGardenModel", "farOf", "(II)I"⟩, prog_12_method_22_code, 3, (some .int))) (fun _ => (⟨"InTheGardenModel", "isFar", "(II)Z"⟩, prog_12_method_23_code, 3, (some .boolean)))) (g_kn 142 (fun _ => (⟨"InTheGardenModel", "place", "(II)I"⟩, prog_12_method_24_code, 3, (some .int))) (fun _ => (⟨"InTheGardenModel", "seesOne", "(II)Z"⟩, prog_12_method_25_code, 3, (some .boolean)))))) (g_kn 146 (g_kn 144 (fun _ => (⟨"InTheGardenModel", "sees", "(II)I"⟩, prog_12_method_26_code, 3, (some .int))) (g_kn 145 (fun _ => (⟨"InTheGardenModel", "far", "(II)I"⟩, prog_12_method_27_code, 3, (some .int))) (fun _ => (⟨"InTheGardenModel", "ageOf", "(I)I"⟩, prog_12_method_28_code, 2, (some .int))))) (g_kn 148 (g_kn 147 (fun _ => (⟨"InTheGardenModel", "paceOf", "(I)I"⟩, prog_12_method_29_code, 2, (some .int))) (fun _ => (⟨"InTheGardenModel", "hider", "(II)I"⟩, prog_12_method_30_code, 3, (some .int)))) (g_kn 149 (fun _ => (⟨"InTheGardenModel", "becomes", "(II)I"⟩, prog_12_method_31_code, 4, (some .int))) (fun _ => (⟨"InTheGardenModel", "times", "(II)I"⟩, prog_12_method_32_code, 4, (some .int))))))) (g_kn 157 (g_kn 153 (g_kn 151 (fun _ => (⟨"InTheGardenModel", "least", "(I)I"⟩, prog_12_method_33_code, 1, (some .int))) (g_kn 152 (fun _ => (⟨"InTheGardenModel", "most", "(I)I"⟩, prog_12_method_34_code, 1, (some .int))) (fun _ => (⟨"InTheGardenModel", "set", "(II)I"⟩, prog_12_method_35_code, 4, (some .int))))) (g_kn 155 (g_kn 154 (fun _ => (⟨"InTheGardenModel", "order", "(IJ)I"⟩, prog_12_method_36_code, 9, (some .int))) (fun _ => (⟨"InTheGardenModel", "held", "(I)I"⟩, prog_12_method_37_code, 1, (some .int)))) (g_kn 156 (fun _ => (⟨"InTheGardenModel", "coverOf", "(IIII)I"⟩, prog_12_method_38_code, 6, (some .int))) (fun _ => (⟨"InTheGardenModel", "cover", "(III)I"⟩, prog_12_method_39_code, 5, (some .int)))))) (g_kn 160 (g_kn 158 (fun _ => (⟨"InTheGardenModel", "paced", "(II)I"⟩, prog_12_method_40_code, 3, (some .int))) (g_kn 159 (fun _ => (⟨"InTheGardenModel", "runOf", "(II)I"⟩, prog_12_method_41_code, 4, (some .int))) (fun _ => (⟨"InTheGardenModel", "run", "(II)I"⟩, prog_12_method_42_code, 3, (some .int))))) (g_kn 162 (g_kn 161 (fun _ => (⟨"InTheGardenModel", "draw", "(I)I"⟩, prog_12_method_43_code, 2, (some .int))) (fun _ => (⟨"InTheGardenModel", "hidingIn", "(I)I"⟩, prog_12_method_44_code, 4, (some .int)))) (g_kn 163 (fun _ => (⟨"InTheGardenModel", "may", "(II)Z"⟩, prog_12_method_45_code, 3, (some .boolean))) (fun _ => (⟨"InTheGardenModel", "chosen", "(I)I"⟩, prog_12_method_46_code, 6, (some .int))))))))) (g_kn 191 (g_kn 177 (g_kn 170 (g_kn 167 (g_kn 165 (fun _ => (⟨"InTheGardenModel", "catches", "(II)V"⟩, prog_12_method_47_code, 3, none)) (g_kn 166 (fun _ => (⟨"InTheGardenModel", "nextTo", "(II)I"⟩, prog_12_method_48_code, 4, (some .int))) (fun _ => (⟨"InTheGardenModel", "goalNow", "()I"⟩, prog_12_method_49_code, 1, (some .int))))) (g_kn 168 (fun _ => (⟨"InTheGardenModel", "goesOn", "(I)V"⟩, prog_12_method_50_code, 3, none)) (g_kn 169 (fun _ => (⟨"InTheGardenModel", "looks", "(I)V"⟩, prog_12_method_51_code, 5, none)) (fun _ => (⟨"InTheGardenModel", "back", "(I)I"⟩, prog_12_method_52_code, 2, (some .int)))))) (g_kn 173 (g_kn 171 (fun _ => (⟨"InTheGardenModel", "isOut", "()Z"⟩, prog_12_method_53_code, 3, (some .boolean))) (g_kn 172 (fun _ => (⟨"InTheGardenModel", "second", "(I)V"⟩, prog_12_method_54_code, 5, none)) (fun _ => (⟨"InTheGardenModel", "frees", "(I)V"⟩, prog_12_method_55_code, 3, none)))) (g_kn 175 (g_kn 174 (fun _ => (⟨"InTheGardenModel", "plays", "(I)V"⟩, prog_12_method_56_code, 4, none)) (fun _ => (⟨"InTheGardenModel", "howMany", "(I)I"⟩, prog_12_method_57_code, 4, (some .int)))) (g_kn 176 (fun _ => (⟨"InTheGardenModel", "round", "(I)I"⟩, prog_12_method_58_code, 4, (some .int))) (fun _ => (⟨"InTheGardenModel", "mind", "(II)I"⟩, prog_12_method_59_code, 3, (some .int))))))) (g_kn 184 (g_kn 180 (g_kn 178 (fun _ => (⟨"InTheGardenModel", "of", "(II)I"⟩, prog_12_method_60_code, 3, (some .int))) (g_kn 179 (fun _ => (⟨"InTheGardenModel", "found", "(I)I"⟩, prog_12_method_61_code, 2, (some .int))) (fun _ => (⟨"InTheGardenModel", "tableOf", "(II)I"⟩, prog_12_method_62_code, 5, (some .int))))) (g_kn 182 (g_kn 181 (fun _ => (⟨"InTheGardenModel", "table", "(II)I"⟩, prog_12_method_63_code, 3, (some .int))) (fun _ => (⟨"InTheGardenModel", "mayGoTo", "(I)Z"⟩, prog_12_method_64_code, 4, (some .boolean)))) (g_kn 183 (fun _ => (⟨"InTheGardenModel", "mayGo", "()I"⟩, prog_12_method_65_code, 3, (some .int))) (fun _ => (⟨"InTheGardenModel", "bits", "(I)I"⟩, prog_12_method_66_code, 3, (some .int)))))) (g_kn 187 (g_kn 185 (fun _ => (⟨"InTheGardenModel", "allSeen", "()I"⟩, prog_12_method_67_code, 7, (some .int))) (g_kn 186 (fun _ => (⟨"InTheGardenModel", "fewest", "()I"⟩, prog_12_method_68_code, 6, (some .int))) (fun _ => (⟨"InTheGardenModel", "findOrders", "(III)V"⟩, prog_12_method_69_code, 5, none)))) (g_kn 189 (g_kn 188 (fun _ => (⟨"InTheGardenModel", "isGame", "(I)Z"⟩, prog_12_method_70_code, 3, (some .boolean))) (fun _ => (⟨"InTheGardenModel", "findTells", "(I)V"⟩, prog_12_method_71_code, 7, none))) (g_kn 190 (fun _ => (⟨"InTheGardenModel", "goesGame", "(II)V"⟩, prog_12_method_72_code, 7, none)) (fun _ => (⟨"InTheGardenModel", "wrongGame", "(II)I"⟩, prog_12_method_73_code, 4, (some .int)))))))) (g_kn 205 (g_kn 198 (g_kn 194 (g_kn 192 (fun _ => (⟨"InTheGardenModel", "common", "(II)I"⟩, prog_12_method_74_code, 2, (some .int))) (g_kn 193 (fun _ => (⟨"InTheGardenModel", "game", "(IIII)I"⟩, prog_12_method_75_code, 8, (some .int))) (fun _ => (⟨"InTheGardenModel", "taken", "(III)I"⟩, prog_12_method_76_code, 5, (some .int))))) (g_kn 196 (g_kn 195 (fun _ => (⟨"InTheGardenModel", "summer", "(II)I"⟩, prog_12_method_77_code, 6, (some .int))) (fun _ => (⟨"InTheGardenModel", "odds", "(III)I"⟩, prog_12_method_78_code, 8, (some .int)))) (g_kn 197 (fun _ => (⟨"InTheGardenModel", "findsBy", "(II)I"⟩, prog_12_method_79_code, 5, (some .int))) (fun _ => (⟨"InTheGardenModel", "bestOrder", "(IIII)I"⟩, prog_12_method_80_code, 10, (some .int)))))) (g_kn 201 (g_kn 199 (fun _ => (⟨"InTheGardenModel", "bestRule", "(II)I"⟩, prog_12_method_81_code, 9, (some .int))) (g_kn 200 (fun _ => (⟨"InTheGardenModel", "row", "(I)I"⟩, prog_12_method_82_code, 3, (some .int))) (fun _ => (⟨"InTheGardenModel", "judge", "()I"⟩, prog_12_method_83_code, 3, (some .int))))) (g_kn 203 (g_kn 202 (fun _ => (⟨"InTheGardenModel", "image", "()I"⟩, prog_12_method_84_code, 2, (some .int))) (fun _ => (⟨"InTheGardenModel", "on", "()I"⟩, prog_12_method_85_code, 2, (some .int)))) (g_kn 204 (fun _ => (⟨"InTheGardenModel", "count", "(I)I"⟩, prog_12_method_86_code, 4, (some .int))) (fun _ => (⟨"java/lang/Integer", "bitCount", "(I)I"⟩, prog_14_method_49_code, 1, (some .int))))))) (g_kn 212 (g_kn 208 (g_kn 206 (fun _ => (⟨"java/util/Arrays", "fill", "([II)V"⟩, prog_20_method_103_code, 4, none)) (g_kn 207 (fun _ => (⟨"java/lang/String", "length", "()I"⟩, prog_16_method_54_code, 1, (some .int))) (fun _ => (⟨"java/lang/String", "isEmpty", "()Z"⟩, prog_16_method_55_code, 1, (some .boolean))))) (g_kn 210 (g_kn 209 (fun _ => (⟨"java/lang/String", "charAt", "(I)C"⟩, prog_16_method_56_code, 2, (some .char))) (fun _ => (⟨"java/lang/String", "indexOf", "(I)I"⟩, prog_16_method_79_code, 2, (some .int)))) (g_kn 211 (fun _ => (⟨"java/lang/String", "indexOf", "(II)I"⟩, prog_16_method_80_code, 3, (some .int))) (fun _ => (⟨"java/lang/String", "coder", "()B"⟩, prog_16_method_152_code, 1, (some .byte)))))) (g_kn 215 (g_kn 213 (fun _ => (⟨"java/lang/String", "isLatin1", "()Z"⟩, prog_16_method_154_code, 1, (some .boolean))) (g_kn 214 (fun _ => (⟨"java/lang/String", "checkIndex", "(II)V"⟩, prog_16_method_155_code, 2, none)) (fun _ => (⟨"java/lang/StringLatin1", "charAt", "([BI)C"⟩, prog_17_method_2_code, 2, (some .char))))) (g_kn 217 (g_kn 216 (fun _ => (⟨"java/lang/StringLatin1", "canEncode", "(I)Z"⟩, prog_17_method_4_code, 1, (some .boolean))) (fun _ => (⟨"java/lang/StringLatin1", "indexOf", "([BIII)I"⟩, prog_17_method_22_code, 4, (some .int)))) (g_kn 218 (fun _ => (⟨"java/lang/StringLatin1", "indexOfChar", "([BIII)I"⟩, prog_17_method_23_code, 6, (some .int))) (fun _ => (⟨"jdk/internal/util/Preconditions", "checkIndex", "(IILjava/util/function/BiFunction;)I"⟩, prog_21_method_11_code, 3, (some .int)))))))))))
def g_mt (sh : g_Sh) : Nat → Nat → Option g_Op := (g_kn 109 (g_kn 54 (g_kn 27 (g_kn 13 (g_kn 6 (g_kn 3 (g_kn 1 (fun _ => t_X0_play sh) (g_kn 2 (fun _ => t_X0_leastOverOrders sh) (fun _ => t_X0_greatestOverPlaces sh))) (g_kn 4 (fun _ => t_X0_tellAll sh) (g_kn 5 (fun _ => t_X0_addTells sh) (fun _ => t_X0_indexOfGreatest sh)))) (g_kn 9 (g_kn 7 (fun _ => t_X0_indexOfLeast sh) (g_kn 8 (fun _ => t_X1_copyFrom sh) (fun _ => t_X1_isPlace sh))) (g_kn 11 (g_kn 10 (fun _ => t_X1_isHidingPlace sh) (fun _ => t_X1_isHider sh)) (g_kn 12 (fun _ => t_X1_addPlace sh) (fun _ => t_X1_addWay sh))))) (g_kn 20 (g_kn 16 (g_kn 14 (fun _ => t_X1_addView sh) (g_kn 15 (fun _ => t_X1_addHider sh) (fun _ => t_X1_measure sh))) (g_kn 18 (g_kn 17 (fun _ => t_X1_measureWays sh) (fun _ => t_X1_shortenFrom sh)) (g_kn 19 (fun _ => t_X1_measureRuns sh) (fun _ => t_X1_wayBetween sh)))) (g_kn 23 (g_kn 21 (fun _ => t_X1_distance sh) (g_kn 22 (fun _ => t_X1_canComeToFirst sh) (fun _ => t_X1_nextOn sh))) (g_kn 25 (g_kn 24 (fun _ => t_X1_coverAt sh) (fun _ => t_X1_secondsToWalk sh)) (g_kn 26 (fun _ => t_X1_secondsToRun sh) (fun _ => t_X1_wouldRun sh)))))) (g_kn 40 (g_kn 33 (g_kn 30 (g_kn 28 (fun _ => t_X1_allTimes sh) (g_kn 29 (fun _ => t_X2_begin sh) (fun _ => t_X2_advance sh))) (g_kn 31 (fun _ => t_X2_swap sh) (g_kn 32 (fun _ => t_X3_append sh) (fun _ => t_X3_readInto sh)))) (g_kn 36 (g_kn 34 (fun _ => t_X3_countStatements sh) (g_kn 35 (fun _ => t_X3_sign sh) (fun _ => t_X3_readStatement sh))) (g_kn 38 (g_kn 37 (fun _ => t_X3_formOf sh) (fun _ => t_X3_readMark sh)) (g_kn 39 (fun _ => t_X3_readValue sh) (fun _ => t_X3_readKind sh))))) (g_kn 47 (g_kn 43 (g_kn 41 (fun _ => t_X3_readNumber sh) (g_kn 42 (fun _ => t_X3_keep sh) (fun _ => t_X3_tell sh))) (g_kn 45 (g_kn 44 (fun _ => t_X4_copyFrom sh) (fun _ => t_X4_play sh)) (g_kn 46 (fun _ => t_X4_howMany sh) (fun _ => t_X4_growTimes sh)))) (g_kn 50 (g_kn 48 (fun _ => t_X4_begin sh) (g_kn 49 (fun _ => t_X4_drawBelow sh) (fun _ => t_X4_hideAll sh))) (g_kn 52 (g_kn 51 (fun _ => t_X4_choose sh) (fun _ => t_X4_openPlaces sh)) (g_kn 53 (fun _ => t_X4_deepest sh) (fun _ => t_X4_outermost sh))))))) (g_kn 81 (g_kn 67 (g_kn 60 (g_kn 57 (g_kn 55 (fun _ => t_X4_bitAt sh) (g_kn 56 (fun _ => t_X4_comeAndLook sh) (fun _ => t_X4_coverOf sh))) (g_kn 58 (fun _ => t_X4_hidingIn sh) (g_kn 59 (fun _ => t_X4_find sh) (fun _ => t_X4_bringHome sh)))) (g_kn 63 (g_kn 61 (fun _ => t_X4_freeAll sh) (g_kn 62 (fun _ => t_X4_startRuns sh) (fun _ => t_X4_isOpen sh))) (g_kn 65 (g_kn 64 (fun _ => t_X4_nextMoment sh) (fun _ => t_X4_end sh)) (g_kn 66 (fun _ => t_X5_begin sh) (fun _ => t_X5_comesAt sh))))) (g_kn 74 (g_kn 70 (g_kn 68 (fun _ => t_X5_come sh) (g_kn 69 (fun _ => t_X5_standsAtBase sh) (fun _ => t_X5_goOnAt sh))) (g_kn 72 (g_kn 71 (fun _ => t_X5_nextTarget sh) (fun _ => t_X5_secondsBack sh)) (g_kn 73 (fun _ => t_X6_leastWay sh) (fun _ => t_X6_fewestPlaces sh)))) (g_kn 77 (g_kn 75 (fun _ => t_X6_goFurther sh) (g_kn 76 (fun _ => t_X6_slotOf sh) (fun _ => t_X6_placesToCome sh))) (g_kn 79 (g_kn 78 (fun _ => t_X6_seenFrom sh) (fun _ => t_X7_copyFrom sh)) (g_kn 80 (fun _ => t_X7_takeDigits sh) (fun _ => t_X7_takeRow sh)))))) (g_kn 95 (g_kn 88 (g_kn 84 (g_kn 82 (fun _ => t_X8_copyFrom sh) (g_kn 83 (fun _ => t_X9_feed sh) (fun _ => t_X9_garden sh))) (g_kn 86 (g_kn 85 (fun _ => t_X9_place sh) (fun _ => t_X9_sees sh)) (g_kn 87 (fun _ => t_X9_far sh) (fun _ => t_X9_hider sh)))) (g_kn 91 (g_kn 89 (fun _ => t_X9_times sh) (g_kn 90 (fun _ => t_X9_set sh) (fun _ => t_X9_order sh))) (g_kn 93 (g_kn 92 (fun _ => t_X9_cover sh) (fun _ => t_X9_run sh)) (g_kn 94 (fun _ => t_X9_round sh) (fun _ => t_X9_mind sh))))) (g_kn 102 (g_kn 98 (g_kn 96 (fun _ => t_X9_of sh) (g_kn 97 (fun _ => t_X9_found sh) (fun _ => t_X9_table sh))) (g_kn 100 (g_kn 99 (fun _ => t_X9_mayGo sh) (fun _ => t_X9_allSeen sh)) (g_kn 101 (fun _ => t_X9_fewest sh) (fun _ => t_X9_game sh)))) (g_kn 105 (g_kn 103 (fun _ => t_X9_taken sh) (g_kn 104 (fun _ => t_X9_summer sh) (fun _ => t_X9_odds sh))) (g_kn 107 (g_kn 106 (fun _ => t_X9_bestOrder sh) (fun _ => t_X9_bestRule sh)) (g_kn 108 (fun _ => t_X9_row sh) (fun _ => t_X9_judge sh)))))))) (g_kn 164 (g_kn 136 (g_kn 122 (g_kn 115 (g_kn 112 (g_kn 110 (fun _ => t_X9_image sh) (g_kn 111 (fun _ => t_X9_on sh) (fun _ => t_X9_count sh))) (g_kn 113 (fun _ => t_X9_refuse sh) (g_kn 114 (fun _ => t_X9_refusalOfGame sh) (fun _ => t_X9_nobodyRuns sh)))) (g_kn 118 (g_kn 116 (fun _ => t_X9_findsOfTrial sh) (g_kn 117 (fun _ => t_X9_hasBit sh) (fun _ => t_X9_inLeastTerms sh))) (g_kn 120 (g_kn 119 (fun _ => t_X9_greatestCommon sh) (fun _ => t_X10_refuse sh)) (g_kn 121 (fun _ => t_X10_isIn sh) (fun _ => t_X10_within sh))))) (g_kn 129 (g_kn 125 (g_kn 123 (fun _ => t_X10_isPlace sh) (g_kn 124 (fun _ => t_X10_isRoom sh) (fun _ => t_X10_isHider sh))) (g_kn 127 (g_kn 126 (fun _ => t_X10_get sh) (fun _ => t_X10_setOf sh)) (g_kn 128 (fun _ => t_X10_feed sh) (fun _ => t_X10_sign sh)))) (g_kn 132 (g_kn 130 (fun _ => t_X10_isDigit sh) (g_kn 131 (fun _ => t_X10_takes sh) (fun _ => t_X10_readsNumber sh))) (g_kn 134 (g_kn 133 (fun _ => t_X10_kindOf sh) (fun _ => t_X10_readsStatement sh)) (g_kn 135 (fun _ => t_X10_isWay sh) (fun _ => t_X10_comes sh)))))) (g_kn 150 (g_kn 143 (g_kn 139 (g_kn 137 (fun _ => t_X10_reads sh) (g_kn 138 (fun _ => t_X10_garden sh) (fun _ => t_X10_findFar sh))) (g_kn 141 (g_kn 140 (fun _ => t_X10_farOf sh) (fun _ => t_X10_isFar sh)) (g_kn 142 (fun _ => t_X10_place sh) (fun _ => t_X10_seesOne sh)))) (g_kn 146 (g_kn 144 (fun _ => t_X10_sees sh) (g_kn 145 (fun _ => t_X10_far sh) (fun _ => t_X10_ageOf sh))) (g_kn 148 (g_kn 147 (fun _ => t_X10_paceOf sh) (fun _ => t_X10_hider sh)) (g_kn 149 (fun _ => t_X10_becomes sh) (fun _ => t_X10_times sh))))) (g_kn 157 (g_kn 153 (g_kn 151 (fun _ => t_X10_least sh) (g_kn 152 (fun _ => t_X10_most sh) (fun _ => t_X10_set sh))) (g_kn 155 (g_kn 154 (fun _ => t_X10_order sh) (fun _ => t_X10_held sh)) (g_kn 156 (fun _ => t_X10_coverOf sh) (fun _ => t_X10_cover sh)))) (g_kn 160 (g_kn 158 (fun _ => t_X10_paced sh) (g_kn 159 (fun _ => t_X10_runOf sh) (fun _ => t_X10_run sh))) (g_kn 162 (g_kn 161 (fun _ => t_X10_draw sh) (fun _ => t_X10_hidingIn sh)) (g_kn 163 (fun _ => t_X10_may sh) (fun _ => t_X10_chosen sh))))))) (g_kn 191 (g_kn 177 (g_kn 170 (g_kn 167 (g_kn 165 (fun _ => t_X10_catches sh) (g_kn 166 (fun _ => t_X10_nextTo sh) (fun _ => t_X10_goalNow sh))) (g_kn 168 (fun _ => t_X10_goesOn sh) (g_kn 169 (fun _ => t_X10_looks sh) (fun _ => t_X10_back sh)))) (g_kn 173 (g_kn 171 (fun _ => t_X10_isOut sh) (g_kn 172 (fun _ => t_X10_second sh) (fun _ => t_X10_frees sh))) (g_kn 175 (g_kn 174 (fun _ => t_X10_plays sh) (fun _ => t_X10_howMany sh)) (g_kn 176 (fun _ => t_X10_round sh) (fun _ => t_X10_mind sh))))) (g_kn 184 (g_kn 180 (g_kn 178 (fun _ => t_X10_of sh) (g_kn 179 (fun _ => t_X10_found sh) (fun _ => t_X10_tableOf sh))) (g_kn 182 (g_kn 181 (fun _ => t_X10_table sh) (fun _ => t_X10_mayGoTo sh)) (g_kn 183 (fun _ => t_X10_mayGo sh) (fun _ => t_X10_bits sh)))) (g_kn 187 (g_kn 185 (fun _ => t_X10_allSeen sh) (g_kn 186 (fun _ => t_X10_fewest sh) (fun _ => t_X10_findOrders sh))) (g_kn 189 (g_kn 188 (fun _ => t_X10_isGame sh) (fun _ => t_X10_findTells sh)) (g_kn 190 (fun _ => t_X10_goesGame sh) (fun _ => t_X10_wrongGame sh)))))) (g_kn 205 (g_kn 198 (g_kn 194 (g_kn 192 (fun _ => t_X10_common sh) (g_kn 193 (fun _ => t_X10_game sh) (fun _ => t_X10_taken sh))) (g_kn 196 (g_kn 195 (fun _ => t_X10_summer sh) (fun _ => t_X10_odds sh)) (g_kn 197 (fun _ => t_X10_findsBy sh) (fun _ => t_X10_bestOrder sh)))) (g_kn 201 (g_kn 199 (fun _ => t_X10_bestRule sh) (g_kn 200 (fun _ => t_X10_row sh) (fun _ => t_X10_judge sh))) (g_kn 203 (g_kn 202 (fun _ => t_X10_image sh) (fun _ => t_X10_on sh)) (g_kn 204 (fun _ => t_X10_count sh) (fun _ => t_J6_bitCount sh))))) (g_kn 212 (g_kn 208 (g_kn 206 (fun _ => t_J7_fill sh) (g_kn 207 (fun _ => t_J0_length sh) (fun _ => t_J0_isEmpty sh))) (g_kn 210 (g_kn 209 (fun _ => t_J0_charAt sh) (fun _ => t_J0_indexOf sh)) (g_kn 211 (fun _ => t_J0_indexOf2 sh) (fun _ => t_J0_coder sh)))) (g_kn 215 (g_kn 213 (fun _ => t_J0_isLatin1 sh) (g_kn 214 (fun _ => t_J0_checkIndex sh) (fun _ => t_J1_charAt sh))) (g_kn 217 (g_kn 216 (fun _ => t_J1_canEncode sh) (fun _ => t_J1_indexOf sh)) (g_kn 218 (fun _ => t_J1_indexOfChar sh) (fun _ => t_J3_checkIndex sh)))))))))
def g_nl : Nat → Nat := (g_kn 109 (g_kn 54 (g_kn 27 (g_kn 13 (g_kn 6 (g_kn 3 (g_kn 1 (fun _ => 8) (g_kn 2 (fun _ => 1) (fun _ => 1))) (g_kn 4 (fun _ => 7) (g_kn 5 (fun _ => 4) (fun _ => 4)))) (g_kn 9 (g_kn 7 (fun _ => 4) (g_kn 8 (fun _ => 2) (fun _ => 2))) (g_kn 11 (g_kn 10 (fun _ => 2) (fun _ => 2)) (g_kn 12 (fun _ => 4) (fun _ => 4))))) (g_kn 20 (g_kn 16 (g_kn 14 (fun _ => 3) (g_kn 15 (fun _ => 3) (fun _ => 2))) (g_kn 18 (g_kn 17 (fun _ => 4) (fun _ => 7)) (g_kn 19 (fun _ => 6) (fun _ => 3)))) (g_kn 23 (g_kn 21 (fun _ => 3) (g_kn 22 (fun _ => 3) (fun _ => 7))) (g_kn 25 (g_kn 24 (fun _ => 7) (fun _ => 3)) (g_kn 26 (fun _ => 3) (fun _ => 6)))))) (g_kn 40 (g_kn 33 (g_kn 30 (g_kn 28 (fun _ => 3) (g_kn 29 (fun _ => 3) (fun _ => 5))) (g_kn 31 (fun _ => 4) (g_kn 32 (fun _ => 5) (fun _ => 6)))) (g_kn 36 (g_kn 34 (fun _ => 2) (g_kn 35 (fun _ => 1) (fun _ => 6))) (g_kn 38 (g_kn 37 (fun _ => 1) (fun _ => 2)) (g_kn 39 (fun _ => 3) (fun _ => 4))))) (g_kn 47 (g_kn 43 (g_kn 41 (fun _ => 6) (g_kn 42 (fun _ => 3) (fun _ => 3))) (g_kn 45 (g_kn 44 (fun _ => 2) (fun _ => 8)) (g_kn 46 (fun _ => 4) (fun _ => 4)))) (g_kn 50 (g_kn 48 (fun _ => 3) (g_kn 49 (fun _ => 2) (fun _ => 5))) (g_kn 52 (g_kn 51 (fun _ => 6) (fun _ => 7)) (g_kn 53 (fun _ => 4) (fun _ => 4))))))) (g_kn 81 (g_kn 67 (g_kn 60 (g_kn 57 (g_kn 55 (fun _ => 4) (g_kn 56 (fun _ => 7) (fun _ => 8))) (g_kn 58 (fun _ => 4) (g_kn 59 (fun _ => 3) (fun _ => 5)))) (g_kn 63 (g_kn 61 (fun _ => 3) (g_kn 62 (fun _ => 6) (fun _ => 2))) (g_kn 65 (g_kn 64 (fun _ => 5) (fun _ => 3)) (g_kn 66 (fun _ => 1) (fun _ => 2))))) (g_kn 74 (g_kn 70 (g_kn 68 (fun _ => 3) (g_kn 69 (fun _ => 1) (fun _ => 4))) (g_kn 72 (g_kn 71 (fun _ => 4) (fun _ => 3)) (g_kn 73 (fun _ => 8) (fun _ => 5)))) (g_kn 77 (g_kn 75 (fun _ => 8) (g_kn 76 (fun _ => 2) (fun _ => 3))) (g_kn 79 (g_kn 78 (fun _ => 4) (fun _ => 2)) (g_kn 80 (fun _ => 7) (fun _ => 3)))))) (g_kn 95 (g_kn 88 (g_kn 84 (g_kn 82 (fun _ => 2) (g_kn 83 (fun _ => 4) (fun _ => 2))) (g_kn 86 (g_kn 85 (fun _ => 4) (fun _ => 4)) (g_kn 87 (fun _ => 4) (fun _ => 4)))) (g_kn 91 (g_kn 89 (fun _ => 5) (g_kn 90 (fun _ => 4) (fun _ => 7))) (g_kn 93 (g_kn 92 (fun _ => 4) (fun _ => 3)) (g_kn 94 (fun _ => 2) (fun _ => 3))))) (g_kn 102 (g_kn 98 (g_kn 96 (fun _ => 3) (g_kn 97 (fun _ => 2) (fun _ => 8))) (g_kn 100 (g_kn 99 (fun _ => 4) (fun _ => 1)) (g_kn 101 (fun _ => 1) (fun _ => 7)))) (g_kn 105 (g_kn 103 (fun _ => 5) (g_kn 104 (fun _ => 7) (fun _ => 9))) (g_kn 107 (g_kn 106 (fun _ => 9) (fun _ => 7)) (g_kn 108 (fun _ => 2) (fun _ => 4)))))))) (g_kn 164 (g_kn 136 (g_kn 122 (g_kn 115 (g_kn 112 (g_kn 110 (fun _ => 1) (g_kn 111 (fun _ => 1) (fun _ => 2))) (g_kn 113 (fun _ => 2) (g_kn 114 (fun _ => 4) (fun _ => 7)))) (g_kn 118 (g_kn 116 (fun _ => 5) (g_kn 117 (fun _ => 2) (fun _ => 4))) (g_kn 120 (g_kn 119 (fun _ => 6) (fun _ => 2)) (g_kn 121 (fun _ => 2) (fun _ => 3))))) (g_kn 129 (g_kn 125 (g_kn 123 (fun _ => 2) (g_kn 124 (fun _ => 2) (fun _ => 2))) (g_kn 127 (g_kn 126 (fun _ => 3) (fun _ => 2)) (g_kn 128 (fun _ => 5) (fun _ => 1)))) (g_kn 132 (g_kn 130 (fun _ => 1) (g_kn 131 (fun _ => 2) (fun _ => 5))) (g_kn 134 (g_kn 133 (fun _ => 1) (fun _ => 2)) (g_kn 135 (fun _ => 6) (fun _ => 7)))))) (g_kn 150 (g_kn 143 (g_kn 139 (g_kn 137 (fun _ => 5) (g_kn 138 (fun _ => 2) (fun _ => 5))) (g_kn 141 (g_kn 140 (fun _ => 3) (fun _ => 3)) (g_kn 142 (fun _ => 3) (fun _ => 3)))) (g_kn 146 (g_kn 144 (fun _ => 3) (g_kn 145 (fun _ => 3) (fun _ => 2))) (g_kn 148 (g_kn 147 (fun _ => 2) (fun _ => 3)) (g_kn 149 (fun _ => 4) (fun _ => 4))))) (g_kn 157 (g_kn 153 (g_kn 151 (fun _ => 1) (g_kn 152 (fun _ => 1) (fun _ => 4))) (g_kn 155 (g_kn 154 (fun _ => 9) (fun _ => 1)) (g_kn 156 (fun _ => 6) (fun _ => 5)))) (g_kn 160 (g_kn 158 (fun _ => 3) (g_kn 159 (fun _ => 4) (fun _ => 3))) (g_kn 162 (g_kn 161 (fun _ => 2) (fun _ => 4)) (g_kn 163 (fun _ => 3) (fun _ => 6))))))) (g_kn 191 (g_kn 177 (g_kn 170 (g_kn 167 (g_kn 165 (fun _ => 3) (g_kn 166 (fun _ => 4) (fun _ => 1))) (g_kn 168 (fun _ => 3) (g_kn 169 (fun _ => 5) (fun _ => 2)))) (g_kn 173 (g_kn 171 (fun _ => 3) (g_kn 172 (fun _ => 5) (fun _ => 3))) (g_kn 175 (g_kn 174 (fun _ => 4) (fun _ => 4)) (g_kn 176 (fun _ => 4) (fun _ => 3))))) (g_kn 184 (g_kn 180 (g_kn 178 (fun _ => 3) (g_kn 179 (fun _ => 2) (fun _ => 5))) (g_kn 182 (g_kn 181 (fun _ => 3) (fun _ => 4)) (g_kn 183 (fun _ => 3) (fun _ => 3)))) (g_kn 187 (g_kn 185 (fun _ => 7) (g_kn 186 (fun _ => 6) (fun _ => 5))) (g_kn 189 (g_kn 188 (fun _ => 3) (fun _ => 7)) (g_kn 190 (fun _ => 7) (fun _ => 4)))))) (g_kn 205 (g_kn 198 (g_kn 194 (g_kn 192 (fun _ => 2) (g_kn 193 (fun _ => 8) (fun _ => 5))) (g_kn 196 (g_kn 195 (fun _ => 6) (fun _ => 8)) (g_kn 197 (fun _ => 5) (fun _ => 10)))) (g_kn 201 (g_kn 199 (fun _ => 9) (g_kn 200 (fun _ => 3) (fun _ => 3))) (g_kn 203 (g_kn 202 (fun _ => 2) (fun _ => 2)) (g_kn 204 (fun _ => 4) (fun _ => 1))))) (g_kn 212 (g_kn 208 (g_kn 206 (fun _ => 4) (g_kn 207 (fun _ => 1) (fun _ => 1))) (g_kn 210 (g_kn 209 (fun _ => 2) (fun _ => 2)) (g_kn 211 (fun _ => 3) (fun _ => 1)))) (g_kn 215 (g_kn 213 (fun _ => 1) (g_kn 214 (fun _ => 2) (fun _ => 2))) (g_kn 217 (g_kn 216 (fun _ => 1) (fun _ => 4)) (g_kn 218 (fun _ => 6) (fun _ => 3)))))))))
abbrev k_X0_play : Nat := 0
abbrev k_X0_leastOverOrders : Nat := 1
abbrev k_X0_greatestOverPlaces : Nat := 2
abbrev k_X0_tellAll : Nat := 3
abbrev k_X0_addTells : Nat := 4
abbrev k_X0_indexOfGreatest : Nat := 5
abbrev k_X0_indexOfLeast : Nat := 6
abbrev k_X1_copyFrom : Nat := 7
abbrev k_X1_isPlace : Nat := 8
abbrev k_X1_isHidingPlace : Nat := 9
abbrev k_X1_isHider : Nat := 10
abbrev k_X1_addPlace : Nat := 11
abbrev k_X1_addWay : Nat := 12
abbrev k_X1_addView : Nat := 13
abbrev k_X1_addHider : Nat := 14
abbrev k_X1_measure : Nat := 15
abbrev k_X1_measureWays : Nat := 16
abbrev k_X1_shortenFrom : Nat := 17
abbrev k_X1_measureRuns : Nat := 18
abbrev k_X1_wayBetween : Nat := 19
abbrev k_X1_distance : Nat := 20
abbrev k_X1_canComeToFirst : Nat := 21
abbrev k_X1_nextOn : Nat := 22
abbrev k_X1_coverAt : Nat := 23
abbrev k_X1_secondsToWalk : Nat := 24
abbrev k_X1_secondsToRun : Nat := 25
abbrev k_X1_wouldRun : Nat := 26
abbrev k_X1_allTimes : Nat := 27
abbrev k_X2_begin : Nat := 28
abbrev k_X2_advance : Nat := 29
abbrev k_X2_swap : Nat := 30
abbrev k_X3_append : Nat := 31
abbrev k_X3_readInto : Nat := 32
abbrev k_X3_countStatements : Nat := 33
abbrev k_X3_sign : Nat := 34
abbrev k_X3_readStatement : Nat := 35
abbrev k_X3_formOf : Nat := 36
abbrev k_X3_readMark : Nat := 37
abbrev k_X3_readValue : Nat := 38
abbrev k_X3_readKind : Nat := 39
abbrev k_X3_readNumber : Nat := 40
abbrev k_X3_keep : Nat := 41
abbrev k_X3_tell : Nat := 42
abbrev k_X4_copyFrom : Nat := 43
abbrev k_X4_play : Nat := 44
abbrev k_X4_howMany : Nat := 45
abbrev k_X4_growTimes : Nat := 46
abbrev k_X4_begin : Nat := 47
abbrev k_X4_drawBelow : Nat := 48
abbrev k_X4_hideAll : Nat := 49
abbrev k_X4_choose : Nat := 50
abbrev k_X4_openPlaces : Nat := 51
abbrev k_X4_deepest : Nat := 52
abbrev k_X4_outermost : Nat := 53
abbrev k_X4_bitAt : Nat := 54
abbrev k_X4_comeAndLook : Nat := 55
abbrev k_X4_coverOf : Nat := 56
abbrev k_X4_hidingIn : Nat := 57
abbrev k_X4_find : Nat := 58
abbrev k_X4_bringHome : Nat := 59
abbrev k_X4_freeAll : Nat := 60
abbrev k_X4_startRuns : Nat := 61
abbrev k_X4_isOpen : Nat := 62
abbrev k_X4_nextMoment : Nat := 63
abbrev k_X4_end : Nat := 64
abbrev k_X5_begin : Nat := 65
abbrev k_X5_comesAt : Nat := 66
abbrev k_X5_come : Nat := 67
abbrev k_X5_standsAtBase : Nat := 68
abbrev k_X5_goOnAt : Nat := 69
abbrev k_X5_nextTarget : Nat := 70
abbrev k_X5_secondsBack : Nat := 71
abbrev k_X6_leastWay : Nat := 72
abbrev k_X6_fewestPlaces : Nat := 73
abbrev k_X6_goFurther : Nat := 74
abbrev k_X6_slotOf : Nat := 75
abbrev k_X6_placesToCome : Nat := 76
abbrev k_X6_seenFrom : Nat := 77
abbrev k_X7_copyFrom : Nat := 78
abbrev k_X7_takeDigits : Nat := 79
abbrev k_X7_takeRow : Nat := 80
abbrev k_X8_copyFrom : Nat := 81
abbrev k_X9_feed : Nat := 82
abbrev k_X9_garden : Nat := 83
abbrev k_X9_place : Nat := 84
abbrev k_X9_sees : Nat := 85
abbrev k_X9_far : Nat := 86
abbrev k_X9_hider : Nat := 87
abbrev k_X9_times : Nat := 88
abbrev k_X9_set : Nat := 89
abbrev k_X9_order : Nat := 90
abbrev k_X9_cover : Nat := 91
abbrev k_X9_run : Nat := 92
abbrev k_X9_round : Nat := 93
abbrev k_X9_mind : Nat := 94
abbrev k_X9_of : Nat := 95
abbrev k_X9_found : Nat := 96
abbrev k_X9_table : Nat := 97
abbrev k_X9_mayGo : Nat := 98
abbrev k_X9_allSeen : Nat := 99
abbrev k_X9_fewest : Nat := 100
abbrev k_X9_game : Nat := 101
abbrev k_X9_taken : Nat := 102
abbrev k_X9_summer : Nat := 103
abbrev k_X9_odds : Nat := 104
abbrev k_X9_bestOrder : Nat := 105
abbrev k_X9_bestRule : Nat := 106
abbrev k_X9_row : Nat := 107
abbrev k_X9_judge : Nat := 108
abbrev k_X9_image : Nat := 109
abbrev k_X9_on : Nat := 110
abbrev k_X9_count : Nat := 111
abbrev k_X9_refuse : Nat := 112
abbrev k_X9_refusalOfGame : Nat := 113
abbrev k_X9_nobodyRuns : Nat := 114
abbrev k_X9_findsOfTrial : Nat := 115
abbrev k_X9_hasBit : Nat := 116
abbrev k_X9_inLeastTerms : Nat := 117
abbrev k_X9_greatestCommon : Nat := 118
abbrev k_X10_refuse : Nat := 119
abbrev k_X10_isIn : Nat := 120
abbrev k_X10_within : Nat := 121
abbrev k_X10_isPlace : Nat := 122
abbrev k_X10_isRoom : Nat := 123
abbrev k_X10_isHider : Nat := 124
abbrev k_X10_get : Nat := 125
abbrev k_X10_setOf : Nat := 126
abbrev k_X10_feed : Nat := 127
abbrev k_X10_sign : Nat := 128
abbrev k_X10_isDigit : Nat := 129
abbrev k_X10_takes : Nat := 130
abbrev k_X10_readsNumber : Nat := 131
abbrev k_X10_kindOf : Nat := 132
abbrev k_X10_readsStatement : Nat := 133
abbrev k_X10_isWay : Nat := 134
abbrev k_X10_comes : Nat := 135
abbrev k_X10_reads : Nat := 136
abbrev k_X10_garden : Nat := 137
abbrev k_X10_findFar : Nat := 138
abbrev k_X10_farOf : Nat := 139
abbrev k_X10_isFar : Nat := 140
abbrev k_X10_place : Nat := 141
abbrev k_X10_seesOne : Nat := 142
abbrev k_X10_sees : Nat := 143
abbrev k_X10_far : Nat := 144
abbrev k_X10_ageOf : Nat := 145
abbrev k_X10_paceOf : Nat := 146
abbrev k_X10_hider : Nat := 147
abbrev k_X10_becomes : Nat := 148
abbrev k_X10_times : Nat := 149
abbrev k_X10_least : Nat := 150
abbrev k_X10_most : Nat := 151
abbrev k_X10_set : Nat := 152
abbrev k_X10_order : Nat := 153
abbrev k_X10_held : Nat := 154
abbrev k_X10_coverOf : Nat := 155
abbrev k_X10_cover : Nat := 156
abbrev k_X10_paced : Nat := 157
abbrev k_X10_runOf : Nat := 158
abbrev k_X10_run : Nat := 159
abbrev k_X10_draw : Nat := 160
abbrev k_X10_hidingIn : Nat := 161
abbrev k_X10_may : Nat := 162
abbrev k_X10_chosen : Nat := 163
abbrev k_X10_catches : Nat := 164
abbrev k_X10_nextTo : Nat := 165
abbrev k_X10_goalNow : Nat := 166
abbrev k_X10_goesOn : Nat := 167
abbrev k_X10_looks : Nat := 168
abbrev k_X10_back : Nat := 169
abbrev k_X10_isOut : Nat := 170
abbrev k_X10_second : Nat := 171
abbrev k_X10_frees : Nat := 172
abbrev k_X10_plays : Nat := 173
abbrev k_X10_howMany : Nat := 174
abbrev k_X10_round : Nat := 175
abbrev k_X10_mind : Nat := 176
abbrev k_X10_of : Nat := 177
abbrev k_X10_found : Nat := 178
abbrev k_X10_tableOf : Nat := 179
abbrev k_X10_table : Nat := 180
abbrev k_X10_mayGoTo : Nat := 181
abbrev k_X10_mayGo : Nat := 182
abbrev k_X10_bits : Nat := 183
abbrev k_X10_allSeen : Nat := 184
abbrev k_X10_fewest : Nat := 185
abbrev k_X10_findOrders : Nat := 186
abbrev k_X10_isGame : Nat := 187
abbrev k_X10_findTells : Nat := 188
abbrev k_X10_goesGame : Nat := 189
abbrev k_X10_wrongGame : Nat := 190
abbrev k_X10_common : Nat := 191
abbrev k_X10_game : Nat := 192
abbrev k_X10_taken : Nat := 193
abbrev k_X10_summer : Nat := 194
abbrev k_X10_odds : Nat := 195
abbrev k_X10_findsBy : Nat := 196
abbrev k_X10_bestOrder : Nat := 197
abbrev k_X10_bestRule : Nat := 198
abbrev k_X10_row : Nat := 199
abbrev k_X10_judge : Nat := 200
abbrev k_X10_image : Nat := 201
abbrev k_X10_on : Nat := 202
abbrev k_X10_count : Nat := 203
abbrev k_J6_bitCount : Nat := 204
abbrev k_J7_fill : Nat := 205
abbrev k_J0_length : Nat := 206
abbrev k_J0_isEmpty : Nat := 207
abbrev k_J0_charAt : Nat := 208
abbrev k_J0_indexOf : Nat := 209
abbrev k_J0_indexOf2 : Nat := 210
abbrev k_J0_coder : Nat := 211
abbrev k_J0_isLatin1 : Nat := 212
abbrev k_J0_checkIndex : Nat := 213
abbrev k_J1_charAt : Nat := 214
abbrev k_J1_canEncode : Nat := 215
abbrev k_J1_indexOf : Nat := 216
abbrev k_J1_indexOfChar : Nat := 217
abbrev k_J3_checkIndex : Nat := 218
end
section
/-! ===== words by their places ===== -/
theorem lm_0_24 : Cond.methodLink "InTheGarden$Game" 24 ⟨"java/lang/Math", "min", "(II)I"⟩ ∈ g_tbl := g_in4 138 rfl rfl
theorem lf_0_30 : Cond.fieldLink "InTheGarden$Game" 30 "InTheGarden$Game" "placeCount" "I" ∈ g_tbl := g_in2 41 rfl rfl
theorem lf_0_15 : Cond.fieldLink "InTheGarden$Game" 15 "InTheGarden$Game" "placeSums" "[I" ∈ g_tbl := g_in2 37 rfl rfl
theorem lm_0_34 : Cond.methodLink "InTheGarden$Game" 34 ⟨"java/util/Arrays", "fill", "([II)V"⟩ ∈ g_tbl := g_in4 139 rfl rfl
theorem ls_J7_fill : Cond.static ⟨"java/util/Arrays", "fill", "([II)V"⟩ ∈ g_tbl := g_in4 104 rfl rfl
theorem lf_0_18 : Cond.fieldLink "InTheGarden$Game" 18 "InTheGarden$Game" "orderSums" "[I" ∈ g_tbl := g_in2 38 rfl rfl
theorem lf_0_21 : Cond.fieldLink "InTheGarden$Game" 21 "InTheGarden$Game" "takenPlaces" "[I" ∈ g_tbl := g_in2 39 rfl rfl
theorem li_X0_tellAll : Cond.instanceMethod ⟨"InTheGarden$Game", "tellAll", "(LInTheGarden$Garden;LInTheGarden$Orders;)V"⟩ ∈ g_tbl := g_in4 142 rfl rfl
theorem lsel_X0_tellAll : Cond.selects "InTheGarden$Game" ⟨"InTheGarden$Game", "tellAll", "(LInTheGarden$Garden;LInTheGarden$Orders;)V"⟩ ⟨"InTheGarden$Game", "tellAll", "(LInTheGarden$Garden;LInTheGarden$Orders;)V"⟩ ∈ g_tbl := g_in0 32 rfl rfl
theorem lm_0_40 : Cond.methodLink "InTheGarden$Game" 40 ⟨"InTheGarden$Game", "tellAll", "(LInTheGarden$Garden;LInTheGarden$Orders;)V"⟩ ∈ g_tbl := g_in4 140 rfl rfl
theorem lm_0_44 : Cond.methodLink "InTheGarden$Game" 44 ⟨"InTheGarden$Game", "indexOfGreatest", "([II)I"⟩ ∈ g_tbl := g_in4 158 rfl rfl
theorem ls_X0_indexOfGreatest : Cond.static ⟨"InTheGarden$Game", "indexOfGreatest", "([II)I"⟩ ∈ g_tbl := g_in4 159 rfl rfl
theorem lf_0_48 : Cond.fieldLink "InTheGarden$Game" 48 "InTheGarden$Game" "orderCount" "I" ∈ g_tbl := g_in2 42 rfl rfl
theorem lm_0_51 : Cond.methodLink "InTheGarden$Game" 51 ⟨"InTheGarden$Game", "indexOfLeast", "([II)I"⟩ ∈ g_tbl := g_in4 161 rfl rfl
theorem ls_X0_indexOfLeast : Cond.static ⟨"InTheGarden$Game", "indexOfLeast", "([II)I"⟩ ∈ g_tbl := g_in4 162 rfl rfl
theorem li_X0_addTells : Cond.instanceMethod ⟨"InTheGarden$Game", "addTells", "(II)V"⟩ ∈ g_tbl := g_in4 166 rfl rfl
theorem lsel_X0_addTells : Cond.selects "InTheGarden$Game" ⟨"InTheGarden$Game", "addTells", "(II)V"⟩ ⟨"InTheGarden$Game", "addTells", "(II)V"⟩ ∈ g_tbl := g_in0 34 rfl rfl
theorem lm_0_54 : Cond.methodLink "InTheGarden$Game" 54 ⟨"InTheGarden$Game", "addTells", "(II)V"⟩ ∈ g_tbl := g_in4 164 rfl rfl
theorem li_X2_begin : Cond.instanceMethod ⟨"InTheGarden$Orders", "begin", "(I)V"⟩ ∈ g_tbl := g_in4 145 rfl rfl
theorem lsel_X2_begin : Cond.selects "InTheGarden$Orders" ⟨"InTheGarden$Orders", "begin", "(I)V"⟩ ⟨"InTheGarden$Orders", "begin", "(I)V"⟩ ∈ g_tbl := g_in4 146 rfl rfl
theorem lm_0_58 : Cond.methodLink "InTheGarden$Game" 58 ⟨"InTheGarden$Orders", "begin", "(I)V"⟩ ∈ g_tbl := g_in4 144 rfl rfl
theorem lf_0_64 : Cond.fieldLink "InTheGarden$Game" 64 "InTheGarden$Orders" "row" "[I" ∈ g_tbl := g_in2 63 rfl rfl
theorem li_X1_distance : Cond.instanceMethod ⟨"InTheGarden$Garden", "distance", "(II)I"⟩ ∈ g_tbl := g_in3 101 rfl rfl
theorem lsel_X1_distance : Cond.selects "InTheGarden$Garden" ⟨"InTheGarden$Garden", "distance", "(II)I"⟩ ⟨"InTheGarden$Garden", "distance", "(II)I"⟩ ∈ g_tbl := g_in3 102 rfl rfl
theorem lm_0_67 : Cond.methodLink "InTheGarden$Game" 67 ⟨"InTheGarden$Garden", "distance", "(II)I"⟩ ∈ g_tbl := g_in4 149 rfl rfl
theorem lf_0_9 : Cond.fieldLink "InTheGarden$Game" 9 "InTheGarden$Game" "tells" "[I" ∈ g_tbl := g_in2 36 rfl rfl
theorem li_X2_advance : Cond.instanceMethod ⟨"InTheGarden$Orders", "advance", "()Z"⟩ ∈ g_tbl := g_in4 151 rfl rfl
theorem lsel_X2_advance : Cond.selects "InTheGarden$Orders" ⟨"InTheGarden$Orders", "advance", "()Z"⟩ ⟨"InTheGarden$Orders", "advance", "()Z"⟩ ∈ g_tbl := g_in4 152 rfl rfl
theorem lm_0_72 : Cond.methodLink "InTheGarden$Game" 72 ⟨"InTheGarden$Orders", "advance", "()Z"⟩ ∈ g_tbl := g_in4 150 rfl rfl
theorem lf_1_9 : Cond.fieldLink "InTheGarden$Garden" 9 "InTheGarden$Garden" "places" "I" ∈ g_tbl := g_in1 60 rfl rfl
theorem lf_1_52 : Cond.fieldLink "InTheGarden$Garden" 52 "InTheGarden$Garden" "ways" "I" ∈ g_tbl := g_in1 64 rfl rfl
theorem lf_1_55 : Cond.fieldLink "InTheGarden$Garden" 55 "InTheGarden$Garden" "hiders" "I" ∈ g_tbl := g_in1 66 rfl rfl
theorem lf_1_15 : Cond.fieldLink "InTheGarden$Garden" 15 "InTheGarden$Garden" "kind" "[I" ∈ g_tbl := g_in1 69 rfl rfl
theorem lm_1_58 : Cond.methodLink "InTheGarden$Garden" 58 ⟨"java/lang/System", "arraycopy", "(Ljava/lang/Object;ILjava/lang/Object;II)V"⟩ ∈ g_tbl := g_in2 138 rfl rfl
theorem lf_1_19 : Cond.fieldLink "InTheGarden$Garden" 19 "InTheGarden$Garden" "room" "[I" ∈ g_tbl := g_in1 71 rfl rfl
theorem lf_1_22 : Cond.fieldLink "InTheGarden$Garden" 22 "InTheGarden$Garden" "hidden" "[I" ∈ g_tbl := g_in1 74 rfl rfl
theorem lf_1_25 : Cond.fieldLink "InTheGarden$Garden" 25 "InTheGarden$Garden" "times" "[I" ∈ g_tbl := g_in1 77 rfl rfl
theorem lf_1_28 : Cond.fieldLink "InTheGarden$Garden" 28 "InTheGarden$Garden" "views" "[I" ∈ g_tbl := g_in1 80 rfl rfl
theorem lf_1_31 : Cond.fieldLink "InTheGarden$Garden" 31 "InTheGarden$Garden" "age" "[I" ∈ g_tbl := g_in1 84 rfl rfl
theorem lf_1_34 : Cond.fieldLink "InTheGarden$Garden" 34 "InTheGarden$Garden" "pace" "[I" ∈ g_tbl := g_in1 87 rfl rfl
theorem lf_1_37 : Cond.fieldLink "InTheGarden$Garden" 37 "InTheGarden$Garden" "way" "[I" ∈ g_tbl := g_in1 89 rfl rfl
theorem lf_1_40 : Cond.fieldLink "InTheGarden$Garden" 40 "InTheGarden$Garden" "far" "[I" ∈ g_tbl := g_in1 90 rfl rfl
theorem lf_1_43 : Cond.fieldLink "InTheGarden$Garden" 43 "InTheGarden$Garden" "walk" "[I" ∈ g_tbl := g_in1 91 rfl rfl
theorem lf_1_46 : Cond.fieldLink "InTheGarden$Garden" 46 "InTheGarden$Garden" "flight" "[I" ∈ g_tbl := g_in1 92 rfl rfl
theorem li_X1_isPlace : Cond.instanceMethod ⟨"InTheGarden$Garden", "isPlace", "(I)Z"⟩ ∈ g_tbl := g_in3 66 rfl rfl
theorem lsel_X1_isPlace : Cond.selects "InTheGarden$Garden" ⟨"InTheGarden$Garden", "isPlace", "(I)Z"⟩ ⟨"InTheGarden$Garden", "isPlace", "(I)Z"⟩ ∈ g_tbl := g_in3 67 rfl rfl
theorem lm_1_64 : Cond.methodLink "InTheGarden$Garden" 64 ⟨"InTheGarden$Garden", "isPlace", "(I)Z"⟩ ∈ g_tbl := g_in3 65 rfl rfl
theorem li_X1_wayBetween : Cond.instanceMethod ⟨"InTheGarden$Garden", "wayBetween", "(II)I"⟩ ∈ g_tbl := g_in3 70 rfl rfl
theorem lsel_X1_wayBetween : Cond.selects "InTheGarden$Garden" ⟨"InTheGarden$Garden", "wayBetween", "(II)I"⟩ ⟨"InTheGarden$Garden", "wayBetween", "(II)I"⟩ ∈ g_tbl := g_in3 71 rfl rfl
theorem lm_1_68 : Cond.methodLink "InTheGarden$Garden" 68 ⟨"InTheGarden$Garden", "wayBetween", "(II)I"⟩ ∈ g_tbl := g_in3 69 rfl rfl
theorem ls_X9_hasBit : Cond.static ⟨"InTheGarden", "hasBit", "(II)Z"⟩ ∈ g_tbl := g_in3 78 rfl rfl
theorem li_X1_measureWays : Cond.instanceMethod ⟨"InTheGarden$Garden", "measureWays", "()V"⟩ ∈ g_tbl := g_in1 47 rfl rfl
theorem lsel_X1_measureWays : Cond.selects "InTheGarden$Garden" ⟨"InTheGarden$Garden", "measureWays", "()V"⟩ ⟨"InTheGarden$Garden", "measureWays", "()V"⟩ ∈ g_tbl := g_in0 0 rfl rfl
theorem lm_1_76 : Cond.methodLink "InTheGarden$Garden" 76 ⟨"InTheGarden$Garden", "measureWays", "()V"⟩ ∈ g_tbl := g_in1 45 rfl rfl
theorem li_X1_measureRuns : Cond.instanceMethod ⟨"InTheGarden$Garden", "measureRuns", "(I)V"⟩ ∈ g_tbl := g_in1 55 rfl rfl
theorem lsel_X1_measureRuns : Cond.selects "InTheGarden$Garden" ⟨"InTheGarden$Garden", "measureRuns", "(I)V"⟩ ⟨"InTheGarden$Garden", "measureRuns", "(I)V"⟩ ∈ g_tbl := g_in0 2 rfl rfl
theorem lm_1_79 : Cond.methodLink "InTheGarden$Garden" 79 ⟨"InTheGarden$Garden", "measureRuns", "(I)V"⟩ ∈ g_tbl := g_in1 53 rfl rfl
theorem li_X1_shortenFrom : Cond.instanceMethod ⟨"InTheGarden$Garden", "shortenFrom", "(II)V"⟩ ∈ g_tbl := g_in1 51 rfl rfl
theorem lsel_X1_shortenFrom : Cond.selects "InTheGarden$Garden" ⟨"InTheGarden$Garden", "shortenFrom", "(II)V"⟩ ⟨"InTheGarden$Garden", "shortenFrom", "(II)V"⟩ ∈ g_tbl := g_in0 1 rfl rfl
theorem lm_1_83 : Cond.methodLink "InTheGarden$Garden" 83 ⟨"InTheGarden$Garden", "shortenFrom", "(II)V"⟩ ∈ g_tbl := g_in1 49 rfl rfl
theorem lm_1_87 : Cond.methodLink "InTheGarden$Garden" 87 ⟨"java/lang/Math", "max", "(II)I"⟩ ∈ g_tbl := g_in1 57 rfl rfl
theorem lm_1_92 : Cond.methodLink "InTheGarden$Garden" 92 ⟨"InTheGarden$Garden", "distance", "(II)I"⟩ ∈ g_tbl := g_in4 29 rfl rfl
theorem lm_1_95 : Cond.methodLink "InTheGarden$Garden" 95 ⟨"java/lang/Math", "min", "(II)I"⟩ ∈ g_tbl := g_in3 147 rfl rfl
theorem li_X1_secondsToRun : Cond.instanceMethod ⟨"InTheGarden$Garden", "secondsToRun", "(II)I"⟩ ∈ g_tbl := g_in3 153 rfl rfl
theorem lsel_X1_secondsToRun : Cond.selects "InTheGarden$Garden" ⟨"InTheGarden$Garden", "secondsToRun", "(II)I"⟩ ⟨"InTheGarden$Garden", "secondsToRun", "(II)I"⟩ ∈ g_tbl := g_in3 154 rfl rfl
theorem lm_1_98 : Cond.methodLink "InTheGarden$Garden" 98 ⟨"InTheGarden$Garden", "secondsToRun", "(II)I"⟩ ∈ g_tbl := g_in4 44 rfl rfl
theorem lm_2_15 : Cond.methodLink "InTheGarden$Orders" 15 ⟨"java/lang/Math", "min", "(II)I"⟩ ∈ g_tbl := g_in4 148 rfl rfl
theorem lf_2_21 : Cond.fieldLink "InTheGarden$Orders" 21 "InTheGarden$Orders" "length" "I" ∈ g_tbl := g_in2 65 rfl rfl
theorem lf_2_9 : Cond.fieldLink "InTheGarden$Orders" 9 "InTheGarden$Orders" "row" "[I" ∈ g_tbl := g_in2 62 rfl rfl
theorem li_X2_swap : Cond.instanceMethod ⟨"InTheGarden$Orders", "swap", "(II)V"⟩ ∈ g_tbl := g_in4 156 rfl rfl
theorem lsel_X2_swap : Cond.selects "InTheGarden$Orders" ⟨"InTheGarden$Orders", "swap", "(II)V"⟩ ⟨"InTheGarden$Orders", "swap", "(II)V"⟩ ∈ g_tbl := g_in0 33 rfl rfl
theorem lm_2_25 : Cond.methodLink "InTheGarden$Orders" 25 ⟨"InTheGarden$Orders", "swap", "(II)V"⟩ ∈ g_tbl := g_in4 154 rfl rfl
theorem lf_3_18 : Cond.fieldLink "InTheGarden$Reader" 18 "InTheGarden$Reader" "length" "I" ∈ g_tbl := g_in2 8 rfl rfl
theorem lf_3_9 : Cond.fieldLink "InTheGarden$Reader" 9 "InTheGarden$Reader" "tape" "[I" ∈ g_tbl := g_in2 6 rfl rfl
theorem lc_3_22 : Cond.constantLong "InTheGarden$Reader" 22 255 ∈ g_tbl := g_in2 129 rfl rfl
theorem li_X3_countStatements : Cond.instanceMethod ⟨"InTheGarden$Reader", "countStatements", "()I"⟩ ∈ g_tbl := g_in2 145 rfl rfl
theorem lsel_X3_countStatements : Cond.selects "InTheGarden$Reader" ⟨"InTheGarden$Reader", "countStatements", "()I"⟩ ⟨"InTheGarden$Reader", "countStatements", "()I"⟩ ∈ g_tbl := g_in0 4 rfl rfl
theorem lm_3_24 : Cond.methodLink "InTheGarden$Reader" 24 ⟨"InTheGarden$Reader", "countStatements", "()I"⟩ ∈ g_tbl := g_in2 143 rfl rfl
theorem lf_3_28 : Cond.fieldLink "InTheGarden$Reader" 28 "InTheGarden$Reader" "at" "I" ∈ g_tbl := g_in2 10 rfl rfl
theorem li_X3_sign : Cond.instanceMethod ⟨"InTheGarden$Reader", "sign", "()I"⟩ ∈ g_tbl := g_in2 153 rfl rfl
theorem lsel_X3_sign : Cond.selects "InTheGarden$Reader" ⟨"InTheGarden$Reader", "sign", "()I"⟩ ⟨"InTheGarden$Reader", "sign", "()I"⟩ ∈ g_tbl := g_in0 6 rfl rfl
theorem lm_3_31 : Cond.methodLink "InTheGarden$Reader" 31 ⟨"InTheGarden$Reader", "sign", "()I"⟩ ∈ g_tbl := g_in2 151 rfl rfl
theorem li_X3_readStatement : Cond.instanceMethod ⟨"InTheGarden$Reader", "readStatement", "()Z"⟩ ∈ g_tbl := g_in2 149 rfl rfl
theorem lsel_X3_readStatement : Cond.selects "InTheGarden$Reader" ⟨"InTheGarden$Reader", "readStatement", "()Z"⟩ ⟨"InTheGarden$Reader", "readStatement", "()Z"⟩ ∈ g_tbl := g_in0 5 rfl rfl
theorem lm_3_34 : Cond.methodLink "InTheGarden$Reader" 34 ⟨"InTheGarden$Reader", "readStatement", "()Z"⟩ ∈ g_tbl := g_in2 147 rfl rfl
theorem li_X3_tell : Cond.instanceMethod ⟨"InTheGarden$Reader", "tell", "(ILInTheGarden$Garden;)Z"⟩ ∈ g_tbl := g_in3 55 rfl rfl
theorem lsel_X3_tell : Cond.selects "InTheGarden$Reader" ⟨"InTheGarden$Reader", "tell", "(ILInTheGarden$Garden;)Z"⟩ ⟨"InTheGarden$Reader", "tell", "(ILInTheGarden$Garden;)Z"⟩ ∈ g_tbl := g_in0 12 rfl rfl
theorem lm_3_38 : Cond.methodLink "InTheGarden$Reader" 38 ⟨"InTheGarden$Reader", "tell", "(ILInTheGarden$Garden;)Z"⟩ ∈ g_tbl := g_in3 53 rfl rfl
theorem lm_3_42 : Cond.methodLink "InTheGarden$Reader" 42 ⟨"InTheGarden$Reader", "formOf", "(I)Ljava/lang/String;"⟩ ∈ g_tbl := g_in2 155 rfl rfl
theorem ls_X3_formOf : Cond.static ⟨"InTheGarden$Reader", "formOf", "(I)Ljava/lang/String;"⟩ ∈ g_tbl := g_in2 156 rfl rfl
theorem li_J0_isEmpty : Cond.instanceMethod ⟨"java/lang/String", "isEmpty", "()Z"⟩ ∈ g_tbl := g_in2 164 rfl rfl
theorem lsel_J0_isEmpty : Cond.selects "java/lang/String" ⟨"java/lang/String", "isEmpty", "()Z"⟩ ⟨"java/lang/String", "isEmpty", "()Z"⟩ ∈ g_tbl := g_in2 165 rfl rfl
theorem lm_3_46 : Cond.methodLink "InTheGarden$Reader" 46 ⟨"java/lang/String", "isEmpty", "()Z"⟩ ∈ g_tbl := g_in2 163 rfl rfl
theorem li_J0_length : Cond.instanceMethod ⟨"java/lang/String", "length", "()I"⟩ ∈ g_tbl := g_in2 168 rfl rfl
theorem lsel_J0_length : Cond.selects "java/lang/String" ⟨"java/lang/String", "length", "()I"⟩ ⟨"java/lang/String", "length", "()I"⟩ ∈ g_tbl := g_in2 169 rfl rfl
theorem lm_3_51 : Cond.methodLink "InTheGarden$Reader" 51 ⟨"java/lang/String", "length", "()I"⟩ ∈ g_tbl := g_in2 167 rfl rfl
theorem li_J0_charAt : Cond.instanceMethod ⟨"java/lang/String", "charAt", "(I)C"⟩ ∈ g_tbl := g_in2 178 rfl rfl
theorem lsel_J0_charAt : Cond.selects "java/lang/String" ⟨"java/lang/String", "charAt", "(I)C"⟩ ⟨"java/lang/String", "charAt", "(I)C"⟩ ∈ g_tbl := g_in2 179 rfl rfl
theorem lm_3_53 : Cond.methodLink "InTheGarden$Reader" 53 ⟨"java/lang/String", "charAt", "(I)C"⟩ ∈ g_tbl := g_in2 177 rfl rfl
theorem li_X3_readMark : Cond.instanceMethod ⟨"InTheGarden$Reader", "readMark", "(C)Z"⟩ ∈ g_tbl := g_in2 217 rfl rfl
theorem lsel_X3_readMark : Cond.selects "InTheGarden$Reader" ⟨"InTheGarden$Reader", "readMark", "(C)Z"⟩ ⟨"InTheGarden$Reader", "readMark", "(C)Z"⟩ ∈ g_tbl := g_in0 7 rfl rfl
theorem lm_3_57 : Cond.methodLink "InTheGarden$Reader" 57 ⟨"InTheGarden$Reader", "readMark", "(C)Z"⟩ ∈ g_tbl := g_in2 215 rfl rfl
theorem li_X3_readValue : Cond.instanceMethod ⟨"InTheGarden$Reader", "readValue", "(CI)Z"⟩ ∈ g_tbl := g_in2 221 rfl rfl
theorem lsel_X3_readValue : Cond.selects "InTheGarden$Reader" ⟨"InTheGarden$Reader", "readValue", "(CI)Z"⟩ ⟨"InTheGarden$Reader", "readValue", "(CI)Z"⟩ ∈ g_tbl := g_in0 8 rfl rfl
theorem lm_3_61 : Cond.methodLink "InTheGarden$Reader" 61 ⟨"InTheGarden$Reader", "readValue", "(CI)Z"⟩ ∈ g_tbl := g_in2 219 rfl rfl
theorem li_X3_readKind : Cond.instanceMethod ⟨"InTheGarden$Reader", "readKind", "(I)Z"⟩ ∈ g_tbl := g_in2 225 rfl rfl
theorem lsel_X3_readKind : Cond.selects "InTheGarden$Reader" ⟨"InTheGarden$Reader", "readKind", "(I)Z"⟩ ⟨"InTheGarden$Reader", "readKind", "(I)Z"⟩ ∈ g_tbl := g_in0 9 rfl rfl
theorem lm_3_75 : Cond.methodLink "InTheGarden$Reader" 75 ⟨"InTheGarden$Reader", "readKind", "(I)Z"⟩ ∈ g_tbl := g_in2 223 rfl rfl
theorem li_X3_readNumber : Cond.instanceMethod ⟨"InTheGarden$Reader", "readNumber", "(III)Z"⟩ ∈ g_tbl := g_in3 51 rfl rfl
theorem lsel_X3_readNumber : Cond.selects "InTheGarden$Reader" ⟨"InTheGarden$Reader", "readNumber", "(III)Z"⟩ ⟨"InTheGarden$Reader", "readNumber", "(III)Z"⟩ ∈ g_tbl := g_in0 11 rfl rfl
theorem lm_3_79 : Cond.methodLink "InTheGarden$Reader" 79 ⟨"InTheGarden$Reader", "readNumber", "(III)Z"⟩ ∈ g_tbl := g_in3 49 rfl rfl
theorem li_J0_indexOf : Cond.instanceMethod ⟨"java/lang/String", "indexOf", "(I)I"⟩ ∈ g_tbl := g_in2 229 rfl rfl
theorem lsel_J0_indexOf : Cond.selects "java/lang/String" ⟨"java/lang/String", "indexOf", "(I)I"⟩ ⟨"java/lang/String", "indexOf", "(I)I"⟩ ∈ g_tbl := g_in2 230 rfl rfl
theorem lm_3_85 : Cond.methodLink "InTheGarden$Reader" 85 ⟨"java/lang/String", "indexOf", "(I)I"⟩ ∈ g_tbl := g_in2 228 rfl rfl
theorem li_X3_keep : Cond.instanceMethod ⟨"InTheGarden$Reader", "keep", "(II)V"⟩ ∈ g_tbl := g_in3 47 rfl rfl
theorem lsel_X3_keep : Cond.selects "InTheGarden$Reader" ⟨"InTheGarden$Reader", "keep", "(II)V"⟩ ⟨"InTheGarden$Reader", "keep", "(II)V"⟩ ∈ g_tbl := g_in0 10 rfl rfl
theorem lm_3_89 : Cond.methodLink "InTheGarden$Reader" 89 ⟨"InTheGarden$Reader", "keep", "(II)V"⟩ ∈ g_tbl := g_in3 45 rfl rfl
theorem lf_3_15 : Cond.fieldLink "InTheGarden$Reader" 15 "InTheGarden$Reader" "value" "[I" ∈ g_tbl := g_in2 7 rfl rfl
theorem li_X1_addPlace : Cond.instanceMethod ⟨"InTheGarden$Garden", "addPlace", "(III)Z"⟩ ∈ g_tbl := g_in3 58 rfl rfl
theorem lsel_X1_addPlace : Cond.selects "InTheGarden$Garden" ⟨"InTheGarden$Garden", "addPlace", "(III)Z"⟩ ⟨"InTheGarden$Garden", "addPlace", "(III)Z"⟩ ∈ g_tbl := g_in3 59 rfl rfl
theorem lm_3_93 : Cond.methodLink "InTheGarden$Reader" 93 ⟨"InTheGarden$Garden", "addPlace", "(III)Z"⟩ ∈ g_tbl := g_in3 57 rfl rfl
theorem li_X1_addWay : Cond.instanceMethod ⟨"InTheGarden$Garden", "addWay", "(III)Z"⟩ ∈ g_tbl := g_in3 62 rfl rfl
theorem lsel_X1_addWay : Cond.selects "InTheGarden$Garden" ⟨"InTheGarden$Garden", "addWay", "(III)Z"⟩ ⟨"InTheGarden$Garden", "addWay", "(III)Z"⟩ ∈ g_tbl := g_in3 63 rfl rfl
theorem lm_3_98 : Cond.methodLink "InTheGarden$Reader" 98 ⟨"InTheGarden$Garden", "addWay", "(III)Z"⟩ ∈ g_tbl := g_in3 61 rfl rfl
theorem li_X1_addView : Cond.instanceMethod ⟨"InTheGarden$Garden", "addView", "(II)Z"⟩ ∈ g_tbl := g_in3 74 rfl rfl
theorem lsel_X1_addView : Cond.selects "InTheGarden$Garden" ⟨"InTheGarden$Garden", "addView", "(II)Z"⟩ ⟨"InTheGarden$Garden", "addView", "(II)Z"⟩ ∈ g_tbl := g_in3 75 rfl rfl
theorem lm_3_101 : Cond.methodLink "InTheGarden$Reader" 101 ⟨"InTheGarden$Garden", "addView", "(II)Z"⟩ ∈ g_tbl := g_in3 73 rfl rfl
theorem li_X1_addHider : Cond.instanceMethod ⟨"InTheGarden$Garden", "addHider", "(II)Z"⟩ ∈ g_tbl := g_in3 81 rfl rfl
theorem lsel_X1_addHider : Cond.selects "InTheGarden$Garden" ⟨"InTheGarden$Garden", "addHider", "(II)Z"⟩ ⟨"InTheGarden$Garden", "addHider", "(II)Z"⟩ ∈ g_tbl := g_in3 82 rfl rfl
theorem lm_3_105 : Cond.methodLink "InTheGarden$Reader" 105 ⟨"InTheGarden$Garden", "addHider", "(II)Z"⟩ ∈ g_tbl := g_in3 80 rfl rfl
theorem lf_4_9 : Cond.fieldLink "InTheGarden$Round" 9 "InTheGarden$Round" "spot" "[I" ∈ g_tbl := g_in1 155 rfl rfl
theorem lm_4_27 : Cond.methodLink "InTheGarden$Round" 27 ⟨"java/lang/System", "arraycopy", "(Ljava/lang/Object;ILjava/lang/Object;II)V"⟩ ∈ g_tbl := g_in3 168 rfl rfl
theorem lf_4_15 : Cond.fieldLink "InTheGarden$Round" 15 "InTheGarden$Round" "state" "[I" ∈ g_tbl := g_in1 157 rfl rfl
theorem lf_4_18 : Cond.fieldLink "InTheGarden$Round" 18 "InTheGarden$Round" "when" "[I" ∈ g_tbl := g_in1 159 rfl rfl
theorem lf_4_21 : Cond.fieldLink "InTheGarden$Round" 21 "InTheGarden$Round" "foundOnes" "[I" ∈ g_tbl := g_in1 161 rfl rfl
theorem lf_4_33 : Cond.fieldLink "InTheGarden$Round" 33 "InTheGarden$Round" "hiders" "I" ∈ g_tbl := g_in1 164 rfl rfl
theorem lf_4_37 : Cond.fieldLink "InTheGarden$Round" 37 "InTheGarden$Round" "findCount" "I" ∈ g_tbl := g_in1 166 rfl rfl
theorem lf_4_40 : Cond.fieldLink "InTheGarden$Round" 40 "InTheGarden$Round" "lastSecond" "I" ∈ g_tbl := g_in1 168 rfl rfl
theorem lf_4_43 : Cond.fieldLink "InTheGarden$Round" 43 "InTheGarden$Round" "lookedAt" "I" ∈ g_tbl := g_in1 170 rfl rfl
theorem li_X4_begin : Cond.instanceMethod ⟨"InTheGarden$Round", "begin", "(LInTheGarden$Garden;I)V"⟩ ∈ g_tbl := g_in3 166 rfl rfl
theorem lsel_X4_begin : Cond.selects "InTheGarden$Round" ⟨"InTheGarden$Round", "begin", "(LInTheGarden$Garden;I)V"⟩ ⟨"InTheGarden$Round", "begin", "(LInTheGarden$Garden;I)V"⟩ ∈ g_tbl := g_in0 13 rfl rfl
theorem lm_4_46 : Cond.methodLink "InTheGarden$Round" 46 ⟨"InTheGarden$Round", "begin", "(LInTheGarden$Garden;I)V"⟩ ∈ g_tbl := g_in3 164 rfl rfl
theorem li_X4_hideAll : Cond.instanceMethod ⟨"InTheGarden$Round", "hideAll", "(LInTheGarden$Garden;LInTheGarden$Told;)V"⟩ ∈ g_tbl := g_in3 171 rfl rfl
theorem lsel_X4_hideAll : Cond.selects "InTheGarden$Round" ⟨"InTheGarden$Round", "hideAll", "(LInTheGarden$Garden;LInTheGarden$Told;)V"⟩ ⟨"InTheGarden$Round", "hideAll", "(LInTheGarden$Garden;LInTheGarden$Told;)V"⟩ ∈ g_tbl := g_in0 14 rfl rfl
theorem lm_4_50 : Cond.methodLink "InTheGarden$Round" 50 ⟨"InTheGarden$Round", "hideAll", "(LInTheGarden$Garden;LInTheGarden$Told;)V"⟩ ∈ g_tbl := g_in3 169 rfl rfl
theorem li_X5_begin : Cond.instanceMethod ⟨"InTheGarden$Seeker", "begin", "()V"⟩ ∈ g_tbl := g_in3 214 rfl rfl
theorem lsel_X5_begin : Cond.selects "InTheGarden$Seeker" ⟨"InTheGarden$Seeker", "begin", "()V"⟩ ⟨"InTheGarden$Seeker", "begin", "()V"⟩ ∈ g_tbl := g_in3 215 rfl rfl
theorem lm_4_54 : Cond.methodLink "InTheGarden$Round" 54 ⟨"InTheGarden$Seeker", "begin", "()V"⟩ ∈ g_tbl := g_in3 213 rfl rfl
theorem lf_4_58 : Cond.fieldLink "InTheGarden$Round" 58 "InTheGarden$Told" "setting" "[I" ∈ g_tbl := g_in1 135 rfl rfl
theorem lm_4_63 : Cond.methodLink "InTheGarden$Round" 63 ⟨"java/lang/Math", "min", "(II)I"⟩ ∈ g_tbl := g_in3 217 rfl rfl
theorem li_X4_comeAndLook : Cond.instanceMethod ⟨"InTheGarden$Round", "comeAndLook", "(LInTheGarden$Garden;LInTheGarden$Told;LInTheGarden$Seeker;I)V"⟩ ∈ g_tbl := g_in3 220 rfl rfl
theorem lsel_X4_comeAndLook : Cond.selects "InTheGarden$Round" ⟨"InTheGarden$Round", "comeAndLook", "(LInTheGarden$Garden;LInTheGarden$Told;LInTheGarden$Seeker;I)V"⟩ ⟨"InTheGarden$Round", "comeAndLook", "(LInTheGarden$Garden;LInTheGarden$Told;LInTheGarden$Seeker;I)V"⟩ ∈ g_tbl := g_in0 19 rfl rfl
theorem lm_4_69 : Cond.methodLink "InTheGarden$Round" 69 ⟨"InTheGarden$Round", "comeAndLook", "(LInTheGarden$Garden;LInTheGarden$Told;LInTheGarden$Seeker;I)V"⟩ ∈ g_tbl := g_in3 218 rfl rfl
theorem li_X5_standsAtBase : Cond.instanceMethod ⟨"InTheGarden$Seeker", "standsAtBase", "()Z"⟩ ∈ g_tbl := g_in4 1 rfl rfl
theorem lsel_X5_standsAtBase : Cond.selects "InTheGarden$Seeker" ⟨"InTheGarden$Seeker", "standsAtBase", "()Z"⟩ ⟨"InTheGarden$Seeker", "standsAtBase", "()Z"⟩ ∈ g_tbl := g_in4 2 rfl rfl
theorem lm_4_73 : Cond.methodLink "InTheGarden$Round" 73 ⟨"InTheGarden$Seeker", "standsAtBase", "()Z"⟩ ∈ g_tbl := g_in4 0 rfl rfl
theorem li_X4_bringHome : Cond.instanceMethod ⟨"InTheGarden$Round", "bringHome", "(IZZ)V"⟩ ∈ g_tbl := g_in4 6 rfl rfl
theorem lsel_X4_bringHome : Cond.selects "InTheGarden$Round" ⟨"InTheGarden$Round", "bringHome", "(IZZ)V"⟩ ⟨"InTheGarden$Round", "bringHome", "(IZZ)V"⟩ ∈ g_tbl := g_in0 22 rfl rfl
theorem lm_4_77 : Cond.methodLink "InTheGarden$Round" 77 ⟨"InTheGarden$Round", "bringHome", "(IZZ)V"⟩ ∈ g_tbl := g_in4 4 rfl rfl
theorem li_X5_goOnAt : Cond.instanceMethod ⟨"InTheGarden$Seeker", "goOnAt", "(ILInTheGarden$Garden;LInTheGarden$Told;)V"⟩ ∈ g_tbl := g_in4 17 rfl rfl
theorem lsel_X5_goOnAt : Cond.selects "InTheGarden$Seeker" ⟨"InTheGarden$Seeker", "goOnAt", "(ILInTheGarden$Garden;LInTheGarden$Told;)V"⟩ ⟨"InTheGarden$Seeker", "goOnAt", "(ILInTheGarden$Garden;LInTheGarden$Told;)V"⟩ ∈ g_tbl := g_in4 18 rfl rfl
theorem lm_4_81 : Cond.methodLink "InTheGarden$Round" 81 ⟨"InTheGarden$Seeker", "goOnAt", "(ILInTheGarden$Garden;LInTheGarden$Told;)V"⟩ ∈ g_tbl := g_in4 16 rfl rfl
theorem li_X5_secondsBack : Cond.instanceMethod ⟨"InTheGarden$Seeker", "secondsBack", "(ILInTheGarden$Garden;)I"⟩ ∈ g_tbl := g_in4 33 rfl rfl
theorem lsel_X5_secondsBack : Cond.selects "InTheGarden$Seeker" ⟨"InTheGarden$Seeker", "secondsBack", "(ILInTheGarden$Garden;)I"⟩ ⟨"InTheGarden$Seeker", "secondsBack", "(ILInTheGarden$Garden;)I"⟩ ∈ g_tbl := g_in4 34 rfl rfl
theorem lm_4_85 : Cond.methodLink "InTheGarden$Round" 85 ⟨"InTheGarden$Seeker", "secondsBack", "(ILInTheGarden$Garden;)I"⟩ ∈ g_tbl := g_in4 32 rfl rfl
theorem li_X4_startRuns : Cond.instanceMethod ⟨"InTheGarden$Round", "startRuns", "(LInTheGarden$Garden;III)V"⟩ ∈ g_tbl := g_in4 38 rfl rfl
theorem lsel_X4_startRuns : Cond.selects "InTheGarden$Round" ⟨"InTheGarden$Round", "startRuns", "(LInTheGarden$Garden;III)V"⟩ ⟨"InTheGarden$Round", "startRuns", "(LInTheGarden$Garden;III)V"⟩ ∈ g_tbl := g_in0 26 rfl rfl
theorem lm_4_89 : Cond.methodLink "InTheGarden$Round" 89 ⟨"InTheGarden$Round", "startRuns", "(LInTheGarden$Garden;III)V"⟩ ∈ g_tbl := g_in4 36 rfl rfl
theorem li_X4_isOpen : Cond.instanceMethod ⟨"InTheGarden$Round", "isOpen", "()Z"⟩ ∈ g_tbl := g_in4 10 rfl rfl
theorem lsel_X4_isOpen : Cond.selects "InTheGarden$Round" ⟨"InTheGarden$Round", "isOpen", "()Z"⟩ ⟨"InTheGarden$Round", "isOpen", "()Z"⟩ ∈ g_tbl := g_in0 23 rfl rfl
theorem lm_4_93 : Cond.methodLink "InTheGarden$Round" 93 ⟨"InTheGarden$Round", "isOpen", "()Z"⟩ ∈ g_tbl := g_in4 8 rfl rfl
theorem li_X4_nextMoment : Cond.instanceMethod ⟨"InTheGarden$Round", "nextMoment", "(LInTheGarden$Seeker;I)I"⟩ ∈ g_tbl := g_in4 48 rfl rfl
theorem lsel_X4_nextMoment : Cond.selects "InTheGarden$Round" ⟨"InTheGarden$Round", "nextMoment", "(LInTheGarden$Seeker;I)I"⟩ ⟨"InTheGarden$Round", "nextMoment", "(LInTheGarden$Seeker;I)I"⟩ ∈ g_tbl := g_in0 27 rfl rfl
theorem lm_4_96 : Cond.methodLink "InTheGarden$Round" 96 ⟨"InTheGarden$Round", "nextMoment", "(LInTheGarden$Seeker;I)I"⟩ ∈ g_tbl := g_in4 46 rfl rfl
theorem li_X4_end : Cond.instanceMethod ⟨"InTheGarden$Round", "end", "(I)V"⟩ ∈ g_tbl := g_in4 52 rfl rfl
theorem lsel_X4_end : Cond.selects "InTheGarden$Round" ⟨"InTheGarden$Round", "end", "(I)V"⟩ ⟨"InTheGarden$Round", "end", "(I)V"⟩ ∈ g_tbl := g_in0 28 rfl rfl
theorem lm_4_100 : Cond.methodLink "InTheGarden$Round" 100 ⟨"InTheGarden$Round", "end", "(I)V"⟩ ∈ g_tbl := g_in4 50 rfl rfl
theorem lf_4_108 : Cond.fieldLink "InTheGarden$Round" 108 "InTheGarden$Garden" "times" "[I" ∈ g_tbl := g_in1 79 rfl rfl
theorem lf_4_113 : Cond.fieldLink "InTheGarden$Round" 113 "InTheGarden$Round" "seed" "I" ∈ g_tbl := g_in1 171 rfl rfl
theorem lf_4_116 : Cond.fieldLink "InTheGarden$Round" 116 "InTheGarden$Garden" "hiders" "I" ∈ g_tbl := g_in1 67 rfl rfl
theorem lf_4_117 : Cond.fieldLink "InTheGarden$Round" 117 "InTheGarden$Garden" "room" "[I" ∈ g_tbl := g_in1 73 rfl rfl
theorem lf_4_24 : Cond.fieldLink "InTheGarden$Round" 24 "InTheGarden$Round" "roomLeft" "[I" ∈ g_tbl := g_in1 163 rfl rfl
theorem lc_4_120 : Cond.constant "InTheGarden$Round" 120 1664525 ∈ g_tbl := g_in3 203 rfl rfl
theorem lc_4_121 : Cond.constant "InTheGarden$Round" 121 1013904223 ∈ g_tbl := g_in3 204 rfl rfl
theorem lc_4_122 : Cond.constant "InTheGarden$Round" 122 2147483647 ∈ g_tbl := g_in3 205 rfl rfl
theorem li_X4_choose : Cond.instanceMethod ⟨"InTheGarden$Round", "choose", "(LInTheGarden$Garden;LInTheGarden$Told;I)I"⟩ ∈ g_tbl := g_in3 175 rfl rfl
theorem lsel_X4_choose : Cond.selects "InTheGarden$Round" ⟨"InTheGarden$Round", "choose", "(LInTheGarden$Garden;LInTheGarden$Told;I)I"⟩ ⟨"InTheGarden$Round", "choose", "(LInTheGarden$Garden;LInTheGarden$Told;I)I"⟩ ∈ g_tbl := g_in0 15 rfl rfl
theorem lm_4_123 : Cond.methodLink "InTheGarden$Round" 123 ⟨"InTheGarden$Round", "choose", "(LInTheGarden$Garden;LInTheGarden$Told;I)I"⟩ ∈ g_tbl := g_in3 173 rfl rfl
theorem li_X4_find : Cond.instanceMethod ⟨"InTheGarden$Round", "find", "(II)V"⟩ ∈ g_tbl := g_in3 211 rfl rfl
theorem lsel_X4_find : Cond.selects "InTheGarden$Round" ⟨"InTheGarden$Round", "find", "(II)V"⟩ ⟨"InTheGarden$Round", "find", "(II)V"⟩ ∈ g_tbl := g_in0 18 rfl rfl
theorem lm_4_127 : Cond.methodLink "InTheGarden$Round" 127 ⟨"InTheGarden$Round", "find", "(II)V"⟩ ∈ g_tbl := g_in3 209 rfl rfl
theorem li_X4_openPlaces : Cond.instanceMethod ⟨"InTheGarden$Round", "openPlaces", "(LInTheGarden$Garden;II)I"⟩ ∈ g_tbl := g_in3 179 rfl rfl
theorem lsel_X4_openPlaces : Cond.selects "InTheGarden$Round" ⟨"InTheGarden$Round", "openPlaces", "(LInTheGarden$Garden;II)I"⟩ ⟨"InTheGarden$Round", "openPlaces", "(LInTheGarden$Garden;II)I"⟩ ∈ g_tbl := g_in0 16 rfl rfl
theorem lm_4_131 : Cond.methodLink "InTheGarden$Round" 131 ⟨"InTheGarden$Round", "openPlaces", "(LInTheGarden$Garden;II)I"⟩ ∈ g_tbl := g_in3 177 rfl rfl
theorem lm_4_135 : Cond.methodLink "InTheGarden$Round" 135 ⟨"InTheGarden$Round", "deepest", "(LInTheGarden$Garden;I)I"⟩ ∈ g_tbl := g_in3 185 rfl rfl
theorem ls_X4_deepest : Cond.static ⟨"InTheGarden$Round", "deepest", "(LInTheGarden$Garden;I)I"⟩ ∈ g_tbl := g_in3 186 rfl rfl
theorem lm_4_139 : Cond.methodLink "InTheGarden$Round" 139 ⟨"InTheGarden$Round", "outermost", "(LInTheGarden$Garden;I)I"⟩ ∈ g_tbl := g_in3 189 rfl rfl
theorem ls_X4_outermost : Cond.static ⟨"InTheGarden$Round", "outermost", "(LInTheGarden$Garden;I)I"⟩ ∈ g_tbl := g_in3 190 rfl rfl
theorem lm_4_142 : Cond.methodLink "InTheGarden$Round" 142 ⟨"java/lang/Integer", "bitCount", "(I)I"⟩ ∈ g_tbl := g_in3 193 rfl rfl
theorem ls_J6_bitCount : Cond.static ⟨"java/lang/Integer", "bitCount", "(I)I"⟩ ∈ g_tbl := g_in3 194 rfl rfl
theorem li_X4_drawBelow : Cond.instanceMethod ⟨"InTheGarden$Round", "drawBelow", "(I)I"⟩ ∈ g_tbl := g_in3 201 rfl rfl
theorem lsel_X4_drawBelow : Cond.selects "InTheGarden$Round" ⟨"InTheGarden$Round", "drawBelow", "(I)I"⟩ ⟨"InTheGarden$Round", "drawBelow", "(I)I"⟩ ∈ g_tbl := g_in0 17 rfl rfl
theorem lm_4_148 : Cond.methodLink "InTheGarden$Round" 148 ⟨"InTheGarden$Round", "drawBelow", "(I)I"⟩ ∈ g_tbl := g_in3 199 rfl rfl
theorem lm_4_151 : Cond.methodLink "InTheGarden$Round" 151 ⟨"InTheGarden$Round", "bitAt", "(II)I"⟩ ∈ g_tbl := g_in3 206 rfl rfl
theorem ls_X4_bitAt : Cond.static ⟨"InTheGarden$Round", "bitAt", "(II)I"⟩ ∈ g_tbl := g_in3 207 rfl rfl
theorem lf_4_154 : Cond.fieldLink "InTheGarden$Round" 154 "InTheGarden$Garden" "places" "I" ∈ g_tbl := g_in1 62 rfl rfl
theorem li_X1_secondsToWalk : Cond.instanceMethod ⟨"InTheGarden$Garden", "secondsToWalk", "(II)I"⟩ ∈ g_tbl := g_in3 182 rfl rfl
theorem lsel_X1_secondsToWalk : Cond.selects "InTheGarden$Garden" ⟨"InTheGarden$Garden", "secondsToWalk", "(II)I"⟩ ⟨"InTheGarden$Garden", "secondsToWalk", "(II)I"⟩ ∈ g_tbl := g_in3 183 rfl rfl
theorem lm_4_157 : Cond.methodLink "InTheGarden$Round" 157 ⟨"InTheGarden$Garden", "secondsToWalk", "(II)I"⟩ ∈ g_tbl := g_in3 181 rfl rfl
theorem lf_4_160 : Cond.fieldLink "InTheGarden$Round" 160 "InTheGarden$Garden" "hidden" "[I" ∈ g_tbl := g_in1 76 rfl rfl
theorem lm_4_163 : Cond.methodLink "InTheGarden$Round" 163 ⟨"InTheGarden$Garden", "distance", "(II)I"⟩ ∈ g_tbl := g_in3 192 rfl rfl
theorem li_X5_comesAt : Cond.instanceMethod ⟨"InTheGarden$Seeker", "comesAt", "(I)Z"⟩ ∈ g_tbl := g_in3 223 rfl rfl
theorem lsel_X5_comesAt : Cond.selects "InTheGarden$Seeker" ⟨"InTheGarden$Seeker", "comesAt", "(I)Z"⟩ ⟨"InTheGarden$Seeker", "comesAt", "(I)Z"⟩ ∈ g_tbl := g_in3 224 rfl rfl
theorem lm_4_166 : Cond.methodLink "InTheGarden$Round" 166 ⟨"InTheGarden$Seeker", "comesAt", "(I)Z"⟩ ∈ g_tbl := g_in3 222 rfl rfl
theorem li_X5_come : Cond.instanceMethod ⟨"InTheGarden$Seeker", "come", "(II)V"⟩ ∈ g_tbl := g_in3 227 rfl rfl
theorem lsel_X5_come : Cond.selects "InTheGarden$Seeker" ⟨"InTheGarden$Seeker", "come", "(II)V"⟩ ⟨"InTheGarden$Seeker", "come", "(II)V"⟩ ∈ g_tbl := g_in3 228 rfl rfl
theorem lm_4_170 : Cond.methodLink "InTheGarden$Round" 170 ⟨"InTheGarden$Seeker", "come", "(II)V"⟩ ∈ g_tbl := g_in3 226 rfl rfl
theorem lf_4_173 : Cond.fieldLink "InTheGarden$Round" 173 "InTheGarden$Garden" "views" "[I" ∈ g_tbl := g_in1 83 rfl rfl
theorem lf_4_176 : Cond.fieldLink "InTheGarden$Round" 176 "InTheGarden$Seeker" "at" "I" ∈ g_tbl := g_in1 223 rfl rfl
theorem li_X4_coverOf : Cond.instanceMethod ⟨"InTheGarden$Round", "coverOf", "(LInTheGarden$Garden;IIII)I"⟩ ∈ g_tbl := g_in3 232 rfl rfl
theorem lsel_X4_coverOf : Cond.selects "InTheGarden$Round" ⟨"InTheGarden$Round", "coverOf", "(LInTheGarden$Garden;IIII)I"⟩ ⟨"InTheGarden$Round", "coverOf", "(LInTheGarden$Garden;IIII)I"⟩ ∈ g_tbl := g_in0 20 rfl rfl
theorem lm_4_179 : Cond.methodLink "InTheGarden$Round" 179 ⟨"InTheGarden$Round", "coverOf", "(LInTheGarden$Garden;IIII)I"⟩ ∈ g_tbl := g_in3 230 rfl rfl
theorem li_X4_hidingIn : Cond.instanceMethod ⟨"InTheGarden$Round", "hidingIn", "(I)I"⟩ ∈ g_tbl := g_in3 236 rfl rfl
theorem lsel_X4_hidingIn : Cond.selects "InTheGarden$Round" ⟨"InTheGarden$Round", "hidingIn", "(I)I"⟩ ⟨"InTheGarden$Round", "hidingIn", "(I)I"⟩ ∈ g_tbl := g_in0 21 rfl rfl
theorem lm_4_183 : Cond.methodLink "InTheGarden$Round" 183 ⟨"InTheGarden$Round", "hidingIn", "(I)I"⟩ ∈ g_tbl := g_in3 234 rfl rfl
theorem li_X1_coverAt : Cond.instanceMethod ⟨"InTheGarden$Garden", "coverAt", "(IIIII)I"⟩ ∈ g_tbl := g_in3 144 rfl rfl
theorem lsel_X1_coverAt : Cond.selects "InTheGarden$Garden" ⟨"InTheGarden$Garden", "coverAt", "(IIIII)I"⟩ ⟨"InTheGarden$Garden", "coverAt", "(IIIII)I"⟩ ∈ g_tbl := g_in3 145 rfl rfl
theorem lm_4_186 : Cond.methodLink "InTheGarden$Round" 186 ⟨"InTheGarden$Garden", "coverAt", "(IIIII)I"⟩ ∈ g_tbl := g_in3 238 rfl rfl
theorem lf_4_190 : Cond.fieldLink "InTheGarden$Round" 190 "InTheGarden$Garden" "age" "[I" ∈ g_tbl := g_in1 86 rfl rfl
theorem lm_4_193 : Cond.methodLink "InTheGarden$Round" 193 ⟨"java/lang/Math", "max", "(II)I"⟩ ∈ g_tbl := g_in3 239 rfl rfl
theorem li_X4_freeAll : Cond.instanceMethod ⟨"InTheGarden$Round", "freeAll", "(I)V"⟩ ∈ g_tbl := g_in4 14 rfl rfl
theorem lsel_X4_freeAll : Cond.selects "InTheGarden$Round" ⟨"InTheGarden$Round", "freeAll", "(I)V"⟩ ⟨"InTheGarden$Round", "freeAll", "(I)V"⟩ ∈ g_tbl := g_in0 24 rfl rfl
theorem lm_4_196 : Cond.methodLink "InTheGarden$Round" 196 ⟨"InTheGarden$Round", "freeAll", "(I)V"⟩ ∈ g_tbl := g_in4 12 rfl rfl
theorem li_X1_wouldRun : Cond.instanceMethod ⟨"InTheGarden$Garden", "wouldRun", "(IIII)Z"⟩ ∈ g_tbl := g_in4 41 rfl rfl
theorem lsel_X1_wouldRun : Cond.selects "InTheGarden$Garden" ⟨"InTheGarden$Garden", "wouldRun", "(IIII)Z"⟩ ⟨"InTheGarden$Garden", "wouldRun", "(IIII)Z"⟩ ∈ g_tbl := g_in4 42 rfl rfl
theorem lm_4_199 : Cond.methodLink "InTheGarden$Round" 199 ⟨"InTheGarden$Garden", "wouldRun", "(IIII)Z"⟩ ∈ g_tbl := g_in4 40 rfl rfl
theorem lm_4_203 : Cond.methodLink "InTheGarden$Round" 203 ⟨"InTheGarden$Garden", "secondsToRun", "(II)I"⟩ ∈ g_tbl := g_in4 45 rfl rfl
theorem lf_4_206 : Cond.fieldLink "InTheGarden$Round" 206 "InTheGarden$Seeker" "moment" "I" ∈ g_tbl := g_in1 227 rfl rfl
theorem lf_5_9 : Cond.fieldLink "InTheGarden$Seeker" 9 "InTheGarden$Seeker" "at" "I" ∈ g_tbl := g_in1 222 rfl rfl
theorem lf_5_15 : Cond.fieldLink "InTheGarden$Seeker" 15 "InTheGarden$Seeker" "next" "I" ∈ g_tbl := g_in1 224 rfl rfl
theorem lf_5_18 : Cond.fieldLink "InTheGarden$Seeker" 18 "InTheGarden$Seeker" "passed" "I" ∈ g_tbl := g_in1 225 rfl rfl
theorem lf_5_21 : Cond.fieldLink "InTheGarden$Seeker" 21 "InTheGarden$Seeker" "moment" "I" ∈ g_tbl := g_in1 226 rfl rfl
theorem lf_5_24 : Cond.fieldLink "InTheGarden$Seeker" 24 "InTheGarden$Seeker" "walks" "Z" ∈ g_tbl := g_in1 228 rfl rfl
theorem li_X5_nextTarget : Cond.instanceMethod ⟨"InTheGarden$Seeker", "nextTarget", "(LInTheGarden$Garden;LInTheGarden$Told;)I"⟩ ∈ g_tbl := g_in4 22 rfl rfl
theorem lsel_X5_nextTarget : Cond.selects "InTheGarden$Seeker" ⟨"InTheGarden$Seeker", "nextTarget", "(LInTheGarden$Garden;LInTheGarden$Told;)I"⟩ ⟨"InTheGarden$Seeker", "nextTarget", "(LInTheGarden$Garden;LInTheGarden$Told;)I"⟩ ∈ g_tbl := g_in0 25 rfl rfl
theorem lm_5_28 : Cond.methodLink "InTheGarden$Seeker" 28 ⟨"InTheGarden$Seeker", "nextTarget", "(LInTheGarden$Garden;LInTheGarden$Told;)I"⟩ ∈ g_tbl := g_in4 20 rfl rfl
theorem li_X1_nextOn : Cond.instanceMethod ⟨"InTheGarden$Garden", "nextOn", "(II)I"⟩ ∈ g_tbl := g_in4 26 rfl rfl
theorem lsel_X1_nextOn : Cond.selects "InTheGarden$Garden" ⟨"InTheGarden$Garden", "nextOn", "(II)I"⟩ ⟨"InTheGarden$Garden", "nextOn", "(II)I"⟩ ∈ g_tbl := g_in4 27 rfl rfl
theorem lm_5_32 : Cond.methodLink "InTheGarden$Seeker" 32 ⟨"InTheGarden$Garden", "nextOn", "(II)I"⟩ ∈ g_tbl := g_in4 25 rfl rfl
theorem lc_5_38 : Cond.constant "InTheGarden$Seeker" 38 2147483647 ∈ g_tbl := g_in4 30 rfl rfl
theorem lm_5_39 : Cond.methodLink "InTheGarden$Seeker" 39 ⟨"InTheGarden$Garden", "wayBetween", "(II)I"⟩ ∈ g_tbl := g_in4 31 rfl rfl
theorem lf_5_42 : Cond.fieldLink "InTheGarden$Seeker" 42 "InTheGarden$Told" "length" "I" ∈ g_tbl := g_in1 140 rfl rfl
theorem lf_5_47 : Cond.fieldLink "InTheGarden$Seeker" 47 "InTheGarden$Told" "places" "[I" ∈ g_tbl := g_in1 138 rfl rfl
theorem lm_5_51 : Cond.methodLink "InTheGarden$Seeker" 51 ⟨"InTheGarden$Garden", "distance", "(II)I"⟩ ∈ g_tbl := g_in4 24 rfl rfl
theorem lm_6_15 : Cond.methodLink "InTheGarden$Sight" 15 ⟨"InTheGarden$Sight", "placesToCome", "(LInTheGarden$Garden;)I"⟩ ∈ g_tbl := g_in4 95 rfl rfl
theorem ls_X6_placesToCome : Cond.static ⟨"InTheGarden$Sight", "placesToCome", "(LInTheGarden$Garden;)I"⟩ ∈ g_tbl := g_in4 96 rfl rfl
theorem lm_6_19 : Cond.methodLink "InTheGarden$Sight" 19 ⟨"InTheGarden$Sight", "seenFrom", "(LInTheGarden$Garden;I)I"⟩ ∈ g_tbl := g_in4 99 rfl rfl
theorem ls_X6_seenFrom : Cond.static ⟨"InTheGarden$Sight", "seenFrom", "(LInTheGarden$Garden;I)I"⟩ ∈ g_tbl := g_in4 100 rfl rfl
theorem lf_6_11 : Cond.fieldLink "InTheGarden$Sight" 11 "InTheGarden$Sight" "cost" "[I" ∈ g_tbl := g_in2 26 rfl rfl
theorem lm_6_23 : Cond.methodLink "InTheGarden$Sight" 23 ⟨"java/util/Arrays", "fill", "([II)V"⟩ ∈ g_tbl := g_in4 103 rfl rfl
theorem lf_6_29 : Cond.fieldLink "InTheGarden$Sight" 29 "InTheGarden$Garden" "places" "I" ∈ g_tbl := g_in1 61 rfl rfl
theorem lm_6_35 : Cond.methodLink "InTheGarden$Sight" 35 ⟨"InTheGarden$Sight", "slotOf", "(II)I"⟩ ∈ g_tbl := g_in4 106 rfl rfl
theorem ls_X6_slotOf : Cond.static ⟨"InTheGarden$Sight", "slotOf", "(II)I"⟩ ∈ g_tbl := g_in4 107 rfl rfl
theorem li_X6_goFurther : Cond.instanceMethod ⟨"InTheGarden$Sight", "goFurther", "(LInTheGarden$Garden;III)V"⟩ ∈ g_tbl := g_in4 111 rfl rfl
theorem lsel_X6_goFurther : Cond.selects "InTheGarden$Sight" ⟨"InTheGarden$Sight", "goFurther", "(LInTheGarden$Garden;III)V"⟩ ⟨"InTheGarden$Sight", "goFurther", "(LInTheGarden$Garden;III)V"⟩ ∈ g_tbl := g_in0 30 rfl rfl
theorem lm_6_39 : Cond.methodLink "InTheGarden$Sight" 39 ⟨"InTheGarden$Sight", "goFurther", "(LInTheGarden$Garden;III)V"⟩ ∈ g_tbl := g_in4 109 rfl rfl
theorem lm_6_43 : Cond.methodLink "InTheGarden$Sight" 43 ⟨"java/lang/Integer", "bitCount", "(I)I"⟩ ∈ g_tbl := g_in4 121 rfl rfl
theorem lm_6_49 : Cond.methodLink "InTheGarden$Sight" 49 ⟨"InTheGarden$Garden", "distance", "(II)I"⟩ ∈ g_tbl := g_in4 98 rfl rfl
theorem lf_6_56 : Cond.fieldLink "InTheGarden$Sight" 56 "InTheGarden$Garden" "views" "[I" ∈ g_tbl := g_in1 82 rfl rfl
theorem lf_7_9 : Cond.fieldLink "InTheGarden$Told" 9 "InTheGarden$Told" "setting" "[I" ∈ g_tbl := g_in1 134 rfl rfl
theorem lm_7_21 : Cond.methodLink "InTheGarden$Told" 21 ⟨"java/lang/System", "arraycopy", "(Ljava/lang/Object;ILjava/lang/Object;II)V"⟩ ∈ g_tbl := g_in1 131 rfl rfl
theorem lf_7_15 : Cond.fieldLink "InTheGarden$Told" 15 "InTheGarden$Told" "places" "[I" ∈ g_tbl := g_in1 137 rfl rfl
theorem lf_7_27 : Cond.fieldLink "InTheGarden$Told" 27 "InTheGarden$Told" "length" "I" ∈ g_tbl := g_in1 139 rfl rfl
theorem lm_7_31 : Cond.methodLink "InTheGarden$Told" 31 ⟨"java/lang/Math", "min", "(II)I"⟩ ∈ g_tbl := g_in3 137 rfl rfl
theorem lc_7_37 : Cond.constantLong "InTheGarden$Told" 37 10 ∈ g_tbl := g_in3 138 rfl rfl
theorem lf_8_10 : Cond.fieldLink "InTheGarden$World" 10 "InTheGarden$World" "garden" "LInTheGarden$Garden;" ∈ g_tbl := g_in1 193 rfl rfl
theorem li_X1_copyFrom : Cond.instanceMethod ⟨"InTheGarden$Garden", "copyFrom", "(LInTheGarden$Garden;)V"⟩ ∈ g_tbl := g_in2 135 rfl rfl
theorem lsel_X1_copyFrom : Cond.selects "InTheGarden$Garden" ⟨"InTheGarden$Garden", "copyFrom", "(LInTheGarden$Garden;)V"⟩ ⟨"InTheGarden$Garden", "copyFrom", "(LInTheGarden$Garden;)V"⟩ ∈ g_tbl := g_in2 136 rfl rfl
theorem lm_8_30 : Cond.methodLink "InTheGarden$World" 30 ⟨"InTheGarden$Garden", "copyFrom", "(LInTheGarden$Garden;)V"⟩ ∈ g_tbl := g_in4 235 rfl rfl
theorem lf_8_19 : Cond.fieldLink "InTheGarden$World" 19 "InTheGarden$World" "told" "LInTheGarden$Told;" ∈ g_tbl := g_in1 195 rfl rfl
theorem li_X7_copyFrom : Cond.instanceMethod ⟨"InTheGarden$Told", "copyFrom", "(LInTheGarden$Told;)V"⟩ ∈ g_tbl := g_in4 200 rfl rfl
theorem lsel_X7_copyFrom : Cond.selects "InTheGarden$Told" ⟨"InTheGarden$Told", "copyFrom", "(LInTheGarden$Told;)V"⟩ ⟨"InTheGarden$Told", "copyFrom", "(LInTheGarden$Told;)V"⟩ ∈ g_tbl := g_in4 201 rfl rfl
theorem lm_8_34 : Cond.methodLink "InTheGarden$World" 34 ⟨"InTheGarden$Told", "copyFrom", "(LInTheGarden$Told;)V"⟩ ∈ g_tbl := g_in4 236 rfl rfl
theorem lf_8_26 : Cond.fieldLink "InTheGarden$World" 26 "InTheGarden$World" "latest" "LInTheGarden$Round;" ∈ g_tbl := g_in1 197 rfl rfl
theorem li_X4_copyFrom : Cond.instanceMethod ⟨"InTheGarden$Round", "copyFrom", "(LInTheGarden$Round;)V"⟩ ∈ g_tbl := g_in4 238 rfl rfl
theorem lsel_X4_copyFrom : Cond.selects "InTheGarden$Round" ⟨"InTheGarden$Round", "copyFrom", "(LInTheGarden$Round;)V"⟩ ⟨"InTheGarden$Round", "copyFrom", "(LInTheGarden$Round;)V"⟩ ∈ g_tbl := g_in4 239 rfl rfl
theorem lm_8_37 : Cond.methodLink "InTheGarden$World" 37 ⟨"InTheGarden$Round", "copyFrom", "(LInTheGarden$Round;)V"⟩ ∈ g_tbl := g_in4 237 rfl rfl
theorem lf_8_40 : Cond.fieldLink "InTheGarden$World" 40 "InTheGarden$World" "played" "I" ∈ g_tbl := g_in1 199 rfl rfl
theorem li_X9_refuse : Cond.instanceMethod ⟨"InTheGarden", "refuse", "(I)I"⟩ ∈ g_tbl := g_in2 123 rfl rfl
theorem lsel_X9_refuse : Cond.selects "InTheGarden" ⟨"InTheGarden", "refuse", "(I)I"⟩ ⟨"InTheGarden", "refuse", "(I)I"⟩ ∈ g_tbl := g_in0 3 rfl rfl
theorem lm_9_85 : Cond.methodLink "InTheGarden" 85 ⟨"InTheGarden", "refuse", "(I)I"⟩ ∈ g_tbl := g_in2 121 rfl rfl
theorem lf_9_50 : Cond.fieldLink "InTheGarden" 50 "InTheGarden" "reader" "LInTheGarden$Reader;" ∈ g_tbl := g_in2 77 rfl rfl
theorem lf_9_89 : Cond.fieldLink "InTheGarden" 89 "InTheGarden$Reader" "length" "I" ∈ g_tbl := g_in2 9 rfl rfl
theorem li_X3_append : Cond.instanceMethod ⟨"InTheGarden$Reader", "append", "(IJ)V"⟩ ∈ g_tbl := g_in2 126 rfl rfl
theorem lsel_X3_append : Cond.selects "InTheGarden$Reader" ⟨"InTheGarden$Reader", "append", "(IJ)V"⟩ ⟨"InTheGarden$Reader", "append", "(IJ)V"⟩ ∈ g_tbl := g_in2 127 rfl rfl
theorem lm_9_93 : Cond.methodLink "InTheGarden" 93 ⟨"InTheGarden$Reader", "append", "(IJ)V"⟩ ∈ g_tbl := g_in2 125 rfl rfl
theorem lf_9_22 : Cond.fieldLink "InTheGarden" 22 "InTheGarden" "draft" "LInTheGarden$Garden;" ∈ g_tbl := g_in2 73 rfl rfl
theorem lf_9_10 : Cond.fieldLink "InTheGarden" 10 "InTheGarden" "now" "LInTheGarden$World;" ∈ g_tbl := g_in2 71 rfl rfl
theorem lf_9_97 : Cond.fieldLink "InTheGarden" 97 "InTheGarden$World" "garden" "LInTheGarden$Garden;" ∈ g_tbl := g_in1 194 rfl rfl
theorem lm_9_100 : Cond.methodLink "InTheGarden" 100 ⟨"InTheGarden$Garden", "copyFrom", "(LInTheGarden$Garden;)V"⟩ ∈ g_tbl := g_in2 134 rfl rfl
theorem li_X3_readInto : Cond.instanceMethod ⟨"InTheGarden$Reader", "readInto", "(LInTheGarden$Garden;)I"⟩ ∈ g_tbl := g_in2 140 rfl rfl
theorem lsel_X3_readInto : Cond.selects "InTheGarden$Reader" ⟨"InTheGarden$Reader", "readInto", "(LInTheGarden$Garden;)I"⟩ ⟨"InTheGarden$Reader", "readInto", "(LInTheGarden$Garden;)I"⟩ ∈ g_tbl := g_in2 141 rfl rfl
theorem lm_9_104 : Cond.methodLink "InTheGarden" 104 ⟨"InTheGarden$Reader", "readInto", "(LInTheGarden$Garden;)I"⟩ ∈ g_tbl := g_in2 139 rfl rfl
theorem li_X1_measure : Cond.instanceMethod ⟨"InTheGarden$Garden", "measure", "()V"⟩ ∈ g_tbl := g_in1 42 rfl rfl
theorem lsel_X1_measure : Cond.selects "InTheGarden$Garden" ⟨"InTheGarden$Garden", "measure", "()V"⟩ ⟨"InTheGarden$Garden", "measure", "()V"⟩ ∈ g_tbl := g_in1 43 rfl rfl
theorem lm_9_108 : Cond.methodLink "InTheGarden" 108 ⟨"InTheGarden$Garden", "measure", "()V"⟩ ∈ g_tbl := g_in3 84 rfl rfl
theorem lm_9_111 : Cond.methodLink "InTheGarden" 111 ⟨"InTheGarden$Garden", "isPlace", "(I)Z"⟩ ∈ g_tbl := g_in3 90 rfl rfl
theorem lf_9_115 : Cond.fieldLink "InTheGarden" 115 "InTheGarden$Garden" "kind" "[I" ∈ g_tbl := g_in1 70 rfl rfl
theorem lf_9_118 : Cond.fieldLink "InTheGarden" 118 "InTheGarden$Garden" "room" "[I" ∈ g_tbl := g_in1 72 rfl rfl
theorem lf_9_121 : Cond.fieldLink "InTheGarden" 121 "InTheGarden$Garden" "hidden" "[I" ∈ g_tbl := g_in1 75 rfl rfl
theorem lf_9_124 : Cond.fieldLink "InTheGarden" 124 "InTheGarden$Garden" "times" "[I" ∈ g_tbl := g_in1 78 rfl rfl
theorem lf_9_127 : Cond.fieldLink "InTheGarden" 127 "InTheGarden$Garden" "views" "[I" ∈ g_tbl := g_in1 81 rfl rfl
theorem lm_9_130 : Cond.methodLink "InTheGarden" 130 ⟨"InTheGarden", "hasBit", "(II)Z"⟩ ∈ g_tbl := g_in3 95 rfl rfl
theorem lm_9_134 : Cond.methodLink "InTheGarden" 134 ⟨"InTheGarden$Garden", "distance", "(II)I"⟩ ∈ g_tbl := g_in3 100 rfl rfl
theorem li_X1_isHider : Cond.instanceMethod ⟨"InTheGarden$Garden", "isHider", "(I)Z"⟩ ∈ g_tbl := g_in3 109 rfl rfl
theorem lsel_X1_isHider : Cond.selects "InTheGarden$Garden" ⟨"InTheGarden$Garden", "isHider", "(I)Z"⟩ ⟨"InTheGarden$Garden", "isHider", "(I)Z"⟩ ∈ g_tbl := g_in3 110 rfl rfl
theorem lm_9_138 : Cond.methodLink "InTheGarden" 138 ⟨"InTheGarden$Garden", "isHider", "(I)Z"⟩ ∈ g_tbl := g_in3 108 rfl rfl
theorem lf_9_141 : Cond.fieldLink "InTheGarden" 141 "InTheGarden$Garden" "age" "[I" ∈ g_tbl := g_in1 85 rfl rfl
theorem lf_9_144 : Cond.fieldLink "InTheGarden" 144 "InTheGarden$Garden" "pace" "[I" ∈ g_tbl := g_in1 88 rfl rfl
theorem li_X1_isHidingPlace : Cond.instanceMethod ⟨"InTheGarden$Garden", "isHidingPlace", "(I)Z"⟩ ∈ g_tbl := g_in3 117 rfl rfl
theorem lsel_X1_isHidingPlace : Cond.selects "InTheGarden$Garden" ⟨"InTheGarden$Garden", "isHidingPlace", "(I)Z"⟩ ⟨"InTheGarden$Garden", "isHidingPlace", "(I)Z"⟩ ∈ g_tbl := g_in3 118 rfl rfl
theorem lm_9_147 : Cond.methodLink "InTheGarden" 147 ⟨"InTheGarden$Garden", "isHidingPlace", "(I)Z"⟩ ∈ g_tbl := g_in3 116 rfl rfl
theorem lf_9_150 : Cond.fieldLink "InTheGarden" 150 "InTheGarden" "SETTING_LEAST" "[I" ∈ g_tbl := g_in3 124 rfl rfl
theorem lf_9_153 : Cond.fieldLink "InTheGarden" 153 "InTheGarden" "SETTING_MOST" "[I" ∈ g_tbl := g_in3 126 rfl rfl
theorem lf_9_156 : Cond.fieldLink "InTheGarden" 156 "InTheGarden$World" "told" "LInTheGarden$Told;" ∈ g_tbl := g_in1 196 rfl rfl
theorem lf_9_159 : Cond.fieldLink "InTheGarden" 159 "InTheGarden$Told" "setting" "[I" ∈ g_tbl := g_in1 136 rfl rfl
theorem lc_9_162 : Cond.constantLong "InTheGarden" 162 10 ∈ g_tbl := g_in3 132 rfl rfl
theorem lf_9_164 : Cond.fieldLink "InTheGarden" 164 "InTheGarden$Told" "length" "I" ∈ g_tbl := g_in1 141 rfl rfl
theorem li_X7_takeDigits : Cond.instanceMethod ⟨"InTheGarden$Told", "takeDigits", "(IJ)V"⟩ ∈ g_tbl := g_in3 134 rfl rfl
theorem lsel_X7_takeDigits : Cond.selects "InTheGarden$Told" ⟨"InTheGarden$Told", "takeDigits", "(IJ)V"⟩ ⟨"InTheGarden$Told", "takeDigits", "(IJ)V"⟩ ∈ g_tbl := g_in3 135 rfl rfl
theorem lm_9_165 : Cond.methodLink "InTheGarden" 165 ⟨"InTheGarden$Told", "takeDigits", "(IJ)V"⟩ ∈ g_tbl := g_in3 133 rfl rfl
theorem lm_9_168 : Cond.methodLink "InTheGarden" 168 ⟨"InTheGarden$Garden", "coverAt", "(IIIII)I"⟩ ∈ g_tbl := g_in3 143 rfl rfl
theorem lm_9_172 : Cond.methodLink "InTheGarden" 172 ⟨"InTheGarden$Garden", "secondsToRun", "(II)I"⟩ ∈ g_tbl := g_in3 152 rfl rfl
theorem lf_9_175 : Cond.fieldLink "InTheGarden" 175 "InTheGarden$World" "latest" "LInTheGarden$Round;" ∈ g_tbl := g_in1 198 rfl rfl
theorem lf_9_43 : Cond.fieldLink "InTheGarden" 43 "InTheGarden" "seeker" "LInTheGarden$Seeker;" ∈ g_tbl := g_in2 76 rfl rfl
theorem li_X4_play : Cond.instanceMethod ⟨"InTheGarden$Round", "play", "(LInTheGarden$Garden;LInTheGarden$Told;LInTheGarden$Seeker;I)V"⟩ ∈ g_tbl := g_in3 161 rfl rfl
theorem lsel_X4_play : Cond.selects "InTheGarden$Round" ⟨"InTheGarden$Round", "play", "(LInTheGarden$Garden;LInTheGarden$Told;LInTheGarden$Seeker;I)V"⟩ ⟨"InTheGarden$Round", "play", "(LInTheGarden$Garden;LInTheGarden$Told;LInTheGarden$Seeker;I)V"⟩ ∈ g_tbl := g_in3 162 rfl rfl
theorem lm_9_178 : Cond.methodLink "InTheGarden" 178 ⟨"InTheGarden$Round", "play", "(LInTheGarden$Garden;LInTheGarden$Told;LInTheGarden$Seeker;I)V"⟩ ∈ g_tbl := g_in3 160 rfl rfl
theorem li_X4_growTimes : Cond.instanceMethod ⟨"InTheGarden$Round", "growTimes", "(LInTheGarden$Garden;)V"⟩ ∈ g_tbl := g_in4 55 rfl rfl
theorem lsel_X4_growTimes : Cond.selects "InTheGarden$Round" ⟨"InTheGarden$Round", "growTimes", "(LInTheGarden$Garden;)V"⟩ ⟨"InTheGarden$Round", "growTimes", "(LInTheGarden$Garden;)V"⟩ ∈ g_tbl := g_in4 56 rfl rfl
theorem lm_9_182 : Cond.methodLink "InTheGarden" 182 ⟨"InTheGarden$Round", "growTimes", "(LInTheGarden$Garden;)V"⟩ ∈ g_tbl := g_in4 54 rfl rfl
theorem lf_9_185 : Cond.fieldLink "InTheGarden" 185 "InTheGarden$World" "played" "I" ∈ g_tbl := g_in1 200 rfl rfl
theorem li_X4_howMany : Cond.instanceMethod ⟨"InTheGarden$Round", "howMany", "(I)I"⟩ ∈ g_tbl := g_in4 59 rfl rfl
theorem lsel_X4_howMany : Cond.selects "InTheGarden$Round" ⟨"InTheGarden$Round", "howMany", "(I)I"⟩ ⟨"InTheGarden$Round", "howMany", "(I)I"⟩ ∈ g_tbl := g_in4 60 rfl rfl
theorem lm_9_188 : Cond.methodLink "InTheGarden" 188 ⟨"InTheGarden$Round", "howMany", "(I)I"⟩ ∈ g_tbl := g_in4 58 rfl rfl
theorem lf_9_36 : Cond.fieldLink "InTheGarden" 36 "InTheGarden" "thought" "LInTheGarden$Round;" ∈ g_tbl := g_in2 75 rfl rfl
theorem lf_9_191 : Cond.fieldLink "InTheGarden" 191 "InTheGarden$Round" "lastSecond" "I" ∈ g_tbl := g_in1 169 rfl rfl
theorem lf_9_194 : Cond.fieldLink "InTheGarden" 194 "InTheGarden$Round" "hiders" "I" ∈ g_tbl := g_in1 165 rfl rfl
theorem lf_9_197 : Cond.fieldLink "InTheGarden" 197 "InTheGarden$Round" "spot" "[I" ∈ g_tbl := g_in1 156 rfl rfl
theorem lf_9_200 : Cond.fieldLink "InTheGarden" 200 "InTheGarden$Round" "state" "[I" ∈ g_tbl := g_in1 158 rfl rfl
theorem lf_9_203 : Cond.fieldLink "InTheGarden" 203 "InTheGarden$Round" "when" "[I" ∈ g_tbl := g_in1 160 rfl rfl
theorem lf_9_206 : Cond.fieldLink "InTheGarden" 206 "InTheGarden$Round" "findCount" "I" ∈ g_tbl := g_in1 167 rfl rfl
theorem lf_9_209 : Cond.fieldLink "InTheGarden" 209 "InTheGarden$Round" "foundOnes" "[I" ∈ g_tbl := g_in1 162 rfl rfl
theorem lf_9_212 : Cond.fieldLink "InTheGarden" 212 "InTheGarden$Garden" "places" "I" ∈ g_tbl := g_in1 63 rfl rfl
theorem lm_9_215 : Cond.methodLink "InTheGarden" 215 ⟨"InTheGarden$Garden", "wouldRun", "(IIII)Z"⟩ ∈ g_tbl := g_in4 78 rfl rfl
theorem li_X9_nobodyRuns : Cond.instanceMethod ⟨"InTheGarden", "nobodyRuns", "(II)Z"⟩ ∈ g_tbl := g_in4 85 rfl rfl
theorem lsel_X9_nobodyRuns : Cond.selects "InTheGarden" ⟨"InTheGarden", "nobodyRuns", "(II)Z"⟩ ⟨"InTheGarden", "nobodyRuns", "(II)Z"⟩ ∈ g_tbl := g_in0 29 rfl rfl
theorem lm_9_219 : Cond.methodLink "InTheGarden" 219 ⟨"InTheGarden", "nobodyRuns", "(II)Z"⟩ ∈ g_tbl := g_in4 83 rfl rfl
theorem lf_9_57 : Cond.fieldLink "InTheGarden" 57 "InTheGarden" "sight" "LInTheGarden$Sight;" ∈ g_tbl := g_in2 78 rfl rfl
theorem li_X6_leastWay : Cond.instanceMethod ⟨"InTheGarden$Sight", "leastWay", "(LInTheGarden$Garden;)I"⟩ ∈ g_tbl := g_in4 92 rfl rfl
theorem lsel_X6_leastWay : Cond.selects "InTheGarden$Sight" ⟨"InTheGarden$Sight", "leastWay", "(LInTheGarden$Garden;)I"⟩ ⟨"InTheGarden$Sight", "leastWay", "(LInTheGarden$Garden;)I"⟩ ∈ g_tbl := g_in4 93 rfl rfl
theorem lm_9_222 : Cond.methodLink "InTheGarden" 222 ⟨"InTheGarden$Sight", "leastWay", "(LInTheGarden$Garden;)I"⟩ ∈ g_tbl := g_in4 91 rfl rfl
theorem li_X6_fewestPlaces : Cond.instanceMethod ⟨"InTheGarden$Sight", "fewestPlaces", "(LInTheGarden$Garden;)I"⟩ ∈ g_tbl := g_in4 118 rfl rfl
theorem lsel_X6_fewestPlaces : Cond.selects "InTheGarden$Sight" ⟨"InTheGarden$Sight", "fewestPlaces", "(LInTheGarden$Garden;)I"⟩ ⟨"InTheGarden$Sight", "fewestPlaces", "(LInTheGarden$Garden;)I"⟩ ∈ g_tbl := g_in4 119 rfl rfl
theorem lm_9_225 : Cond.methodLink "InTheGarden" 225 ⟨"InTheGarden$Sight", "fewestPlaces", "(LInTheGarden$Garden;)I"⟩ ∈ g_tbl := g_in4 117 rfl rfl
theorem li_X9_refusalOfGame : Cond.instanceMethod ⟨"InTheGarden", "refusalOfGame", "(III)I"⟩ ∈ g_tbl := g_in4 128 rfl rfl
theorem lsel_X9_refusalOfGame : Cond.selects "InTheGarden" ⟨"InTheGarden", "refusalOfGame", "(III)I"⟩ ⟨"InTheGarden", "refusalOfGame", "(III)I"⟩ ∈ g_tbl := g_in0 31 rfl rfl
theorem lm_9_228 : Cond.methodLink "InTheGarden" 228 ⟨"InTheGarden", "refusalOfGame", "(III)I"⟩ ∈ g_tbl := g_in4 126 rfl rfl
theorem lf_9_64 : Cond.fieldLink "InTheGarden" 64 "InTheGarden" "contest" "LInTheGarden$Game;" ∈ g_tbl := g_in2 79 rfl rfl
theorem lf_9_71 : Cond.fieldLink "InTheGarden" 71 "InTheGarden" "orders" "LInTheGarden$Orders;" ∈ g_tbl := g_in2 80 rfl rfl
theorem li_X0_play : Cond.instanceMethod ⟨"InTheGarden$Game", "play", "(LInTheGarden$Garden;LInTheGarden$Orders;II)V"⟩ ∈ g_tbl := g_in4 135 rfl rfl
theorem lsel_X0_play : Cond.selects "InTheGarden$Game" ⟨"InTheGarden$Game", "play", "(LInTheGarden$Garden;LInTheGarden$Orders;II)V"⟩ ⟨"InTheGarden$Game", "play", "(LInTheGarden$Garden;LInTheGarden$Orders;II)V"⟩ ∈ g_tbl := g_in4 136 rfl rfl
theorem lm_9_232 : Cond.methodLink "InTheGarden" 232 ⟨"InTheGarden$Game", "play", "(LInTheGarden$Garden;LInTheGarden$Orders;II)V"⟩ ∈ g_tbl := g_in4 134 rfl rfl
theorem li_X0_leastOverOrders : Cond.instanceMethod ⟨"InTheGarden$Game", "leastOverOrders", "()I"⟩ ∈ g_tbl := g_in4 169 rfl rfl
theorem lsel_X0_leastOverOrders : Cond.selects "InTheGarden$Game" ⟨"InTheGarden$Game", "leastOverOrders", "()I"⟩ ⟨"InTheGarden$Game", "leastOverOrders", "()I"⟩ ∈ g_tbl := g_in4 170 rfl rfl
theorem lm_9_235 : Cond.methodLink "InTheGarden" 235 ⟨"InTheGarden$Game", "leastOverOrders", "()I"⟩ ∈ g_tbl := g_in4 168 rfl rfl
theorem li_X0_greatestOverPlaces : Cond.instanceMethod ⟨"InTheGarden$Game", "greatestOverPlaces", "()I"⟩ ∈ g_tbl := g_in4 173 rfl rfl
theorem lsel_X0_greatestOverPlaces : Cond.selects "InTheGarden$Game" ⟨"InTheGarden$Game", "greatestOverPlaces", "()I"⟩ ⟨"InTheGarden$Game", "greatestOverPlaces", "()I"⟩ ∈ g_tbl := g_in4 174 rfl rfl
theorem lm_9_239 : Cond.methodLink "InTheGarden" 239 ⟨"InTheGarden$Game", "greatestOverPlaces", "()I"⟩ ∈ g_tbl := g_in4 172 rfl rfl
theorem lm_9_242 : Cond.methodLink "InTheGarden" 242 ⟨"InTheGarden", "inLeastTerms", "(III)I"⟩ ∈ g_tbl := g_in4 176 rfl rfl
theorem ls_X9_inLeastTerms : Cond.static ⟨"InTheGarden", "inLeastTerms", "(III)I"⟩ ∈ g_tbl := g_in4 177 rfl rfl
theorem lf_9_245 : Cond.fieldLink "InTheGarden" 245 "InTheGarden$Game" "takenPlaces" "[I" ∈ g_tbl := g_in2 40 rfl rfl
theorem lm_9_248 : Cond.methodLink "InTheGarden" 248 ⟨"java/lang/Math", "min", "(II)I"⟩ ∈ g_tbl := g_in4 190 rfl rfl
theorem lf_9_29 : Cond.fieldLink "InTheGarden" 29 "InTheGarden" "trial" "LInTheGarden$Told;" ∈ g_tbl := g_in2 74 rfl rfl
theorem lm_9_253 : Cond.methodLink "InTheGarden" 253 ⟨"InTheGarden$Told", "copyFrom", "(LInTheGarden$Told;)V"⟩ ∈ g_tbl := g_in4 199 rfl rfl
theorem lm_9_256 : Cond.methodLink "InTheGarden" 256 ⟨"InTheGarden$Orders", "begin", "(I)V"⟩ ∈ g_tbl := g_in4 203 rfl rfl
theorem lf_9_260 : Cond.fieldLink "InTheGarden" 260 "InTheGarden$Orders" "row" "[I" ∈ g_tbl := g_in2 64 rfl rfl
theorem li_X7_takeRow : Cond.instanceMethod ⟨"InTheGarden$Told", "takeRow", "([II)V"⟩ ∈ g_tbl := g_in4 205 rfl rfl
theorem lsel_X7_takeRow : Cond.selects "InTheGarden$Told" ⟨"InTheGarden$Told", "takeRow", "([II)V"⟩ ⟨"InTheGarden$Told", "takeRow", "([II)V"⟩ ∈ g_tbl := g_in4 206 rfl rfl
theorem lm_9_263 : Cond.methodLink "InTheGarden" 263 ⟨"InTheGarden$Told", "takeRow", "([II)V"⟩ ∈ g_tbl := g_in4 204 rfl rfl
theorem li_X9_findsOfTrial : Cond.instanceMethod ⟨"InTheGarden", "findsOfTrial", "(II)I"⟩ ∈ g_tbl := g_in4 210 rfl rfl
theorem lsel_X9_findsOfTrial : Cond.selects "InTheGarden" ⟨"InTheGarden", "findsOfTrial", "(II)I"⟩ ⟨"InTheGarden", "findsOfTrial", "(II)I"⟩ ∈ g_tbl := g_in0 35 rfl rfl
theorem lm_9_267 : Cond.methodLink "InTheGarden" 267 ⟨"InTheGarden", "findsOfTrial", "(II)I"⟩ ∈ g_tbl := g_in4 208 rfl rfl
theorem lf_9_75 : Cond.fieldLink "InTheGarden" 75 "InTheGarden" "bestPlaces" "[I" ∈ g_tbl := g_in2 81 rfl rfl
theorem lm_9_270 : Cond.methodLink "InTheGarden" 270 ⟨"java/lang/System", "arraycopy", "(Ljava/lang/Object;ILjava/lang/Object;II)V"⟩ ∈ g_tbl := g_in4 212 rfl rfl
theorem lm_9_276 : Cond.methodLink "InTheGarden" 276 ⟨"InTheGarden$Orders", "advance", "()Z"⟩ ∈ g_tbl := g_in4 213 rfl rfl
theorem lc_9_280 : Cond.constant "InTheGarden" 280 2147483647 ∈ g_tbl := g_in4 218 rfl rfl
theorem lf_9_281 : Cond.fieldLink "InTheGarden" 281 "InTheGarden" "toldCount" "I" ∈ g_tbl := g_in2 84 rfl rfl
theorem lf_9_79 : Cond.fieldLink "InTheGarden" 79 "InTheGarden" "toldFinds" "[I" ∈ g_tbl := g_in2 82 rfl rfl
theorem lf_9_16 : Cond.fieldLink "InTheGarden" 16 "InTheGarden" "kept" "LInTheGarden$World;" ∈ g_tbl := g_in2 72 rfl rfl
theorem li_X8_copyFrom : Cond.instanceMethod ⟨"InTheGarden$World", "copyFrom", "(LInTheGarden$World;)V"⟩ ∈ g_tbl := g_in4 232 rfl rfl
theorem lsel_X8_copyFrom : Cond.selects "InTheGarden$World" ⟨"InTheGarden$World", "copyFrom", "(LInTheGarden$World;)V"⟩ ⟨"InTheGarden$World", "copyFrom", "(LInTheGarden$World;)V"⟩ ∈ g_tbl := g_in4 233 rfl rfl
theorem lm_9_284 : Cond.methodLink "InTheGarden" 284 ⟨"InTheGarden$World", "copyFrom", "(LInTheGarden$World;)V"⟩ ∈ g_tbl := g_in4 231 rfl rfl
theorem lf_9_287 : Cond.fieldLink "InTheGarden" 287 "InTheGarden" "hasImage" "Z" ∈ g_tbl := g_in2 85 rfl rfl
theorem lf_9_291 : Cond.fieldLink "InTheGarden" 291 "InTheGarden$Garden" "ways" "I" ∈ g_tbl := g_in1 65 rfl rfl
theorem lf_9_294 : Cond.fieldLink "InTheGarden" 294 "InTheGarden$Garden" "hiders" "I" ∈ g_tbl := g_in1 68 rfl rfl
theorem li_X1_allTimes : Cond.instanceMethod ⟨"InTheGarden$Garden", "allTimes", "()I"⟩ ∈ g_tbl := g_in5 10 rfl rfl
theorem lsel_X1_allTimes : Cond.selects "InTheGarden$Garden" ⟨"InTheGarden$Garden", "allTimes", "()I"⟩ ⟨"InTheGarden$Garden", "allTimes", "()I"⟩ ∈ g_tbl := g_in5 11 rfl rfl
theorem lm_9_295 : Cond.methodLink "InTheGarden" 295 ⟨"InTheGarden$Garden", "allTimes", "()I"⟩ ∈ g_tbl := g_in5 9 rfl rfl
theorem lf_9_82 : Cond.fieldLink "InTheGarden" 82 "InTheGarden" "refusals" "[I" ∈ g_tbl := g_in2 83 rfl rfl
theorem li_X1_canComeToFirst : Cond.instanceMethod ⟨"InTheGarden$Garden", "canComeToFirst", "(I)Z"⟩ ∈ g_tbl := g_in4 131 rfl rfl
theorem lsel_X1_canComeToFirst : Cond.selects "InTheGarden$Garden" ⟨"InTheGarden$Garden", "canComeToFirst", "(I)Z"⟩ ⟨"InTheGarden$Garden", "canComeToFirst", "(I)Z"⟩ ∈ g_tbl := g_in4 132 rfl rfl
theorem lm_9_298 : Cond.methodLink "InTheGarden" 298 ⟨"InTheGarden$Garden", "canComeToFirst", "(I)Z"⟩ ∈ g_tbl := g_in4 130 rfl rfl
theorem lm_9_301 : Cond.methodLink "InTheGarden" 301 ⟨"InTheGarden", "greatestCommon", "(II)I"⟩ ∈ g_tbl := g_in4 179 rfl rfl
theorem ls_X9_greatestCommon : Cond.static ⟨"InTheGarden", "greatestCommon", "(II)I"⟩ ∈ g_tbl := g_in4 180 rfl rfl
theorem lf_10_7 : Cond.fieldLink "InTheGardenModel" 7 "InTheGardenModel" "refusals" "[I" ∈ g_tbl := g_in5 19 rfl rfl
theorem lf_10_13 : Cond.fieldLink "InTheGardenModel" 13 "InTheGardenModel" "s" "[I" ∈ g_tbl := g_in5 20 rfl rfl
theorem lm_10_83 : Cond.methodLink "InTheGardenModel" 83 ⟨"InTheGardenModel", "isIn", "(II)Z"⟩ ∈ g_tbl := g_in5 190 rfl rfl
theorem ls_X10_isIn : Cond.static ⟨"InTheGardenModel", "isIn", "(II)Z"⟩ ∈ g_tbl := g_in5 191 rfl rfl
theorem li_X10_isPlace : Cond.instanceMethod ⟨"InTheGardenModel", "isPlace", "(I)Z"⟩ ∈ g_tbl := g_in5 188 rfl rfl
theorem lsel_X10_isPlace : Cond.selects "InTheGardenModel" ⟨"InTheGardenModel", "isPlace", "(I)Z"⟩ ⟨"InTheGardenModel", "isPlace", "(I)Z"⟩ ∈ g_tbl := g_in0 44 rfl rfl
theorem lm_10_87 : Cond.methodLink "InTheGardenModel" 87 ⟨"InTheGardenModel", "isPlace", "(I)Z"⟩ ∈ g_tbl := g_in5 186 rfl rfl
theorem li_X10_refuse : Cond.instanceMethod ⟨"InTheGardenModel", "refuse", "(I)I"⟩ ∈ g_tbl := g_in5 141 rfl rfl
theorem lsel_X10_refuse : Cond.selects "InTheGardenModel" ⟨"InTheGardenModel", "refuse", "(I)I"⟩ ⟨"InTheGardenModel", "refuse", "(I)I"⟩ ∈ g_tbl := g_in0 36 rfl rfl
theorem lm_10_91 : Cond.methodLink "InTheGardenModel" 91 ⟨"InTheGardenModel", "refuse", "(I)I"⟩ ∈ g_tbl := g_in5 139 rfl rfl
theorem lf_10_95 : Cond.fieldLink "InTheGardenModel" 95 "InTheGardenModel" "taped" "I" ∈ g_tbl := g_in5 26 rfl rfl
theorem lf_10_22 : Cond.fieldLink "InTheGardenModel" 22 "InTheGardenModel" "tape" "[I" ∈ g_tbl := g_in5 24 rfl rfl
theorem lc_10_99 : Cond.constantLong "InTheGardenModel" 99 255 ∈ g_tbl := g_in5 143 rfl rfl
theorem lf_10_101 : Cond.fieldLink "InTheGardenModel" 101 "InTheGardenModel" "at" "I" ∈ g_tbl := g_in5 27 rfl rfl
theorem li_X10_sign : Cond.instanceMethod ⟨"InTheGardenModel", "sign", "()I"⟩ ∈ g_tbl := g_in5 158 rfl rfl
theorem lsel_X10_sign : Cond.selects "InTheGardenModel" ⟨"InTheGardenModel", "sign", "()I"⟩ ⟨"InTheGardenModel", "sign", "()I"⟩ ∈ g_tbl := g_in0 39 rfl rfl
theorem lm_10_104 : Cond.methodLink "InTheGardenModel" 104 ⟨"InTheGardenModel", "sign", "()I"⟩ ∈ g_tbl := g_in5 156 rfl rfl
theorem lf_10_25 : Cond.fieldLink "InTheGardenModel" 25 "InTheGardenModel" "told" "[I" ∈ g_tbl := g_in5 25 rfl rfl
theorem li_X10_isDigit : Cond.instanceMethod ⟨"InTheGardenModel", "isDigit", "()Z"⟩ ∈ g_tbl := g_in5 169 rfl rfl
theorem lsel_X10_isDigit : Cond.selects "InTheGardenModel" ⟨"InTheGardenModel", "isDigit", "()Z"⟩ ⟨"InTheGardenModel", "isDigit", "()Z"⟩ ∈ g_tbl := g_in0 41 rfl rfl
theorem lm_10_108 : Cond.methodLink "InTheGardenModel" 108 ⟨"InTheGardenModel", "isDigit", "()Z"⟩ ∈ g_tbl := g_in5 167 rfl rfl
theorem lm_10_112 : Cond.methodLink "InTheGardenModel" 112 ⟨"InTheGardenModel", "kindOf", "(I)I"⟩ ∈ g_tbl := g_in5 160 rfl rfl
theorem ls_X10_kindOf : Cond.static ⟨"InTheGardenModel", "kindOf", "(I)I"⟩ ∈ g_tbl := g_in5 161 rfl rfl
theorem li_X10_readsNumber : Cond.instanceMethod ⟨"InTheGardenModel", "readsNumber", "(III)Z"⟩ ∈ g_tbl := g_in5 165 rfl rfl
theorem lsel_X10_readsNumber : Cond.selects "InTheGardenModel" ⟨"InTheGardenModel", "readsNumber", "(III)Z"⟩ ⟨"InTheGardenModel", "readsNumber", "(III)Z"⟩ ∈ g_tbl := g_in0 40 rfl rfl
theorem lm_10_115 : Cond.methodLink "InTheGardenModel" 115 ⟨"InTheGardenModel", "readsNumber", "(III)Z"⟩ ∈ g_tbl := g_in5 163 rfl rfl
theorem li_X10_takes : Cond.instanceMethod ⟨"InTheGardenModel", "takes", "(I)Z"⟩ ∈ g_tbl := g_in5 173 rfl rfl
theorem lsel_X10_takes : Cond.selects "InTheGardenModel" ⟨"InTheGardenModel", "takes", "(I)Z"⟩ ⟨"InTheGardenModel", "takes", "(I)Z"⟩ ∈ g_tbl := g_in0 42 rfl rfl
theorem lm_10_119 : Cond.methodLink "InTheGardenModel" 119 ⟨"InTheGardenModel", "takes", "(I)Z"⟩ ∈ g_tbl := g_in5 171 rfl rfl
theorem lf_10_19 : Cond.fieldLink "InTheGardenModel" 19 "InTheGardenModel" "read" "[I" ∈ g_tbl := g_in5 22 rfl rfl
theorem lm_10_122 : Cond.methodLink "InTheGardenModel" 122 ⟨"InTheGardenModel", "isWay", "([III)Z"⟩ ∈ g_tbl := g_in5 179 rfl rfl
theorem ls_X10_isWay : Cond.static ⟨"InTheGardenModel", "isWay", "([III)Z"⟩ ∈ g_tbl := g_in5 180 rfl rfl
theorem li_X10_readsStatement : Cond.instanceMethod ⟨"InTheGardenModel", "readsStatement", "()Z"⟩ ∈ g_tbl := g_in5 154 rfl rfl
theorem lsel_X10_readsStatement : Cond.selects "InTheGardenModel" ⟨"InTheGardenModel", "readsStatement", "()Z"⟩ ⟨"InTheGardenModel", "readsStatement", "()Z"⟩ ∈ g_tbl := g_in0 38 rfl rfl
theorem lm_10_126 : Cond.methodLink "InTheGardenModel" 126 ⟨"InTheGardenModel", "readsStatement", "()Z"⟩ ∈ g_tbl := g_in5 152 rfl rfl
theorem li_X10_comes : Cond.instanceMethod ⟨"InTheGardenModel", "comes", "(I)Z"⟩ ∈ g_tbl := g_in5 177 rfl rfl
theorem lsel_X10_comes : Cond.selects "InTheGardenModel" ⟨"InTheGardenModel", "comes", "(I)Z"⟩ ⟨"InTheGardenModel", "comes", "(I)Z"⟩ ∈ g_tbl := g_in0 43 rfl rfl
theorem lm_10_129 : Cond.methodLink "InTheGardenModel" 129 ⟨"InTheGardenModel", "comes", "(I)Z"⟩ ∈ g_tbl := g_in5 175 rfl rfl
theorem li_X10_reads : Cond.instanceMethod ⟨"InTheGardenModel", "reads", "()I"⟩ ∈ g_tbl := g_in5 150 rfl rfl
theorem lsel_X10_reads : Cond.selects "InTheGardenModel" ⟨"InTheGardenModel", "reads", "()I"⟩ ⟨"InTheGardenModel", "reads", "()I"⟩ ∈ g_tbl := g_in0 37 rfl rfl
theorem lm_10_132 : Cond.methodLink "InTheGardenModel" 132 ⟨"InTheGardenModel", "reads", "()I"⟩ ∈ g_tbl := g_in5 148 rfl rfl
theorem lf_10_31 : Cond.fieldLink "InTheGardenModel" 31 "InTheGardenModel" "direct" "[I" ∈ g_tbl := g_in5 29 rfl rfl
theorem lc_10_135 : Cond.constant "InTheGardenModel" 135 100000 ∈ g_tbl := g_in5 213 rfl rfl
theorem lf_10_28 : Cond.fieldLink "InTheGardenModel" 28 "InTheGardenModel" "far" "[I" ∈ g_tbl := g_in5 28 rfl rfl
theorem li_X10_farOf : Cond.instanceMethod ⟨"InTheGardenModel", "farOf", "(II)I"⟩ ∈ g_tbl := g_in5 220 rfl rfl
theorem lsel_X10_farOf : Cond.selects "InTheGardenModel" ⟨"InTheGardenModel", "farOf", "(II)I"⟩ ⟨"InTheGardenModel", "farOf", "(II)I"⟩ ∈ g_tbl := g_in0 49 rfl rfl
theorem lm_10_136 : Cond.methodLink "InTheGardenModel" 136 ⟨"InTheGardenModel", "farOf", "(II)I"⟩ ∈ g_tbl := g_in5 218 rfl rfl
theorem li_X10_get : Cond.instanceMethod ⟨"InTheGardenModel", "get", "(II)I"⟩ ∈ g_tbl := g_in5 195 rfl rfl
theorem lsel_X10_get : Cond.selects "InTheGardenModel" ⟨"InTheGardenModel", "get", "(II)I"⟩ ⟨"InTheGardenModel", "get", "(II)I"⟩ ∈ g_tbl := g_in0 45 rfl rfl
theorem lm_10_140 : Cond.methodLink "InTheGardenModel" 140 ⟨"InTheGardenModel", "get", "(II)I"⟩ ∈ g_tbl := g_in5 193 rfl rfl
theorem li_X10_seesOne : Cond.instanceMethod ⟨"InTheGardenModel", "seesOne", "(II)Z"⟩ ∈ g_tbl := g_in5 203 rfl rfl
theorem lsel_X10_seesOne : Cond.selects "InTheGardenModel" ⟨"InTheGardenModel", "seesOne", "(II)Z"⟩ ⟨"InTheGardenModel", "seesOne", "(II)Z"⟩ ∈ g_tbl := g_in0 46 rfl rfl
theorem lm_10_143 : Cond.methodLink "InTheGardenModel" 143 ⟨"InTheGardenModel", "seesOne", "(II)Z"⟩ ∈ g_tbl := g_in5 201 rfl rfl
theorem li_X10_findFar : Cond.instanceMethod ⟨"InTheGardenModel", "findFar", "()V"⟩ ∈ g_tbl := g_in5 211 rfl rfl
theorem lsel_X10_findFar : Cond.selects "InTheGardenModel" ⟨"InTheGardenModel", "findFar", "()V"⟩ ⟨"InTheGardenModel", "findFar", "()V"⟩ ∈ g_tbl := g_in0 47 rfl rfl
theorem lm_10_146 : Cond.methodLink "InTheGardenModel" 146 ⟨"InTheGardenModel", "findFar", "()V"⟩ ∈ g_tbl := g_in5 209 rfl rfl
theorem li_X10_isFar : Cond.instanceMethod ⟨"InTheGardenModel", "isFar", "(II)Z"⟩ ∈ g_tbl := g_in5 216 rfl rfl
theorem lsel_X10_isFar : Cond.selects "InTheGardenModel" ⟨"InTheGardenModel", "isFar", "(II)Z"⟩ ⟨"InTheGardenModel", "isFar", "(II)Z"⟩ ∈ g_tbl := g_in0 48 rfl rfl
theorem lm_10_149 : Cond.methodLink "InTheGardenModel" 149 ⟨"InTheGardenModel", "isFar", "(II)Z"⟩ ∈ g_tbl := g_in5 214 rfl rfl
theorem li_X10_isHider : Cond.instanceMethod ⟨"InTheGardenModel", "isHider", "(I)Z"⟩ ∈ g_tbl := g_in5 228 rfl rfl
theorem lsel_X10_isHider : Cond.selects "InTheGardenModel" ⟨"InTheGardenModel", "isHider", "(I)Z"⟩ ⟨"InTheGardenModel", "isHider", "(I)Z"⟩ ∈ g_tbl := g_in0 50 rfl rfl
theorem lm_10_152 : Cond.methodLink "InTheGardenModel" 152 ⟨"InTheGardenModel", "isHider", "(I)Z"⟩ ∈ g_tbl := g_in5 226 rfl rfl
theorem li_X10_isRoom : Cond.instanceMethod ⟨"InTheGardenModel", "isRoom", "(I)Z"⟩ ∈ g_tbl := g_in5 236 rfl rfl
theorem lsel_X10_isRoom : Cond.selects "InTheGardenModel" ⟨"InTheGardenModel", "isRoom", "(I)Z"⟩ ⟨"InTheGardenModel", "isRoom", "(I)Z"⟩ ∈ g_tbl := g_in0 51 rfl rfl
theorem lm_10_155 : Cond.methodLink "InTheGardenModel" 155 ⟨"InTheGardenModel", "isRoom", "(I)Z"⟩ ∈ g_tbl := g_in5 234 rfl rfl
theorem lm_10_158 : Cond.methodLink "InTheGardenModel" 158 ⟨"InTheGardenModel", "within", "(III)I"⟩ ∈ g_tbl := g_in5 238 rfl rfl
theorem ls_X10_within : Cond.static ⟨"InTheGardenModel", "within", "(III)I"⟩ ∈ g_tbl := g_in5 239 rfl rfl
theorem li_X10_becomes : Cond.instanceMethod ⟨"InTheGardenModel", "becomes", "(II)I"⟩ ∈ g_tbl := g_in6 3 rfl rfl
theorem lsel_X10_becomes : Cond.selects "InTheGardenModel" ⟨"InTheGardenModel", "becomes", "(II)I"⟩ ⟨"InTheGardenModel", "becomes", "(II)I"⟩ ∈ g_tbl := g_in0 52 rfl rfl
theorem lm_10_162 : Cond.methodLink "InTheGardenModel" 162 ⟨"InTheGardenModel", "becomes", "(II)I"⟩ ∈ g_tbl := g_in6 1 rfl rfl
theorem lm_10_165 : Cond.methodLink "InTheGardenModel" 165 ⟨"InTheGardenModel", "least", "(I)I"⟩ ∈ g_tbl := g_in6 9 rfl rfl
theorem ls_X10_least : Cond.static ⟨"InTheGardenModel", "least", "(I)I"⟩ ∈ g_tbl := g_in6 10 rfl rfl
theorem lm_10_167 : Cond.methodLink "InTheGardenModel" 167 ⟨"InTheGardenModel", "most", "(I)I"⟩ ∈ g_tbl := g_in6 12 rfl rfl
theorem ls_X10_most : Cond.static ⟨"InTheGardenModel", "most", "(I)I"⟩ ∈ g_tbl := g_in6 13 rfl rfl
theorem lc_10_170 : Cond.constantLong "InTheGardenModel" 170 10 ∈ g_tbl := g_in6 19 rfl rfl
theorem lm_10_172 : Cond.methodLink "InTheGardenModel" 172 ⟨"InTheGardenModel", "held", "(I)I"⟩ ∈ g_tbl := g_in6 28 rfl rfl
theorem ls_X10_held : Cond.static ⟨"InTheGardenModel", "held", "(I)I"⟩ ∈ g_tbl := g_in6 29 rfl rfl
theorem li_X10_setOf : Cond.instanceMethod ⟨"InTheGardenModel", "setOf", "(I)I"⟩ ∈ g_tbl := g_in6 33 rfl rfl
theorem lsel_X10_setOf : Cond.selects "InTheGardenModel" ⟨"InTheGardenModel", "setOf", "(I)I"⟩ ⟨"InTheGardenModel", "setOf", "(I)I"⟩ ∈ g_tbl := g_in0 54 rfl rfl
theorem lm_10_175 : Cond.methodLink "InTheGardenModel" 175 ⟨"InTheGardenModel", "setOf", "(I)I"⟩ ∈ g_tbl := g_in6 31 rfl rfl
theorem li_X10_coverOf : Cond.instanceMethod ⟨"InTheGardenModel", "coverOf", "(IIII)I"⟩ ∈ g_tbl := g_in6 26 rfl rfl
theorem lsel_X10_coverOf : Cond.selects "InTheGardenModel" ⟨"InTheGardenModel", "coverOf", "(IIII)I"⟩ ⟨"InTheGardenModel", "coverOf", "(IIII)I"⟩ ∈ g_tbl := g_in0 53 rfl rfl
theorem lm_10_178 : Cond.methodLink "InTheGardenModel" 178 ⟨"InTheGardenModel", "coverOf", "(IIII)I"⟩ ∈ g_tbl := g_in6 24 rfl rfl
theorem li_X10_paceOf : Cond.instanceMethod ⟨"InTheGardenModel", "paceOf", "(I)I"⟩ ∈ g_tbl := g_in6 49 rfl rfl
theorem lsel_X10_paceOf : Cond.selects "InTheGardenModel" ⟨"InTheGardenModel", "paceOf", "(I)I"⟩ ⟨"InTheGardenModel", "paceOf", "(I)I"⟩ ∈ g_tbl := g_in0 57 rfl rfl
theorem lm_10_182 : Cond.methodLink "InTheGardenModel" 182 ⟨"InTheGardenModel", "paceOf", "(I)I"⟩ ∈ g_tbl := g_in6 47 rfl rfl
theorem li_X10_paced : Cond.instanceMethod ⟨"InTheGardenModel", "paced", "(II)I"⟩ ∈ g_tbl := g_in6 45 rfl rfl
theorem lsel_X10_paced : Cond.selects "InTheGardenModel" ⟨"InTheGardenModel", "paced", "(II)I"⟩ ⟨"InTheGardenModel", "paced", "(II)I"⟩ ∈ g_tbl := g_in0 56 rfl rfl
theorem lm_10_185 : Cond.methodLink "InTheGardenModel" 185 ⟨"InTheGardenModel", "paced", "(II)I"⟩ ∈ g_tbl := g_in6 43 rfl rfl
theorem li_X10_runOf : Cond.instanceMethod ⟨"InTheGardenModel", "runOf", "(II)I"⟩ ∈ g_tbl := g_in6 41 rfl rfl
theorem lsel_X10_runOf : Cond.selects "InTheGardenModel" ⟨"InTheGardenModel", "runOf", "(II)I"⟩ ⟨"InTheGardenModel", "runOf", "(II)I"⟩ ∈ g_tbl := g_in0 55 rfl rfl
theorem lm_10_188 : Cond.methodLink "InTheGardenModel" 188 ⟨"InTheGardenModel", "runOf", "(II)I"⟩ ∈ g_tbl := g_in6 39 rfl rfl
theorem lf_10_191 : Cond.fieldLink "InTheGardenModel" 191 "InTheGardenModel" "seed" "I" ∈ g_tbl := g_in5 36 rfl rfl
theorem lc_10_194 : Cond.constant "InTheGardenModel" 194 1664525 ∈ g_tbl := g_in6 75 rfl rfl
theorem lc_10_195 : Cond.constant "InTheGardenModel" 195 1013904223 ∈ g_tbl := g_in6 76 rfl rfl
theorem lc_10_196 : Cond.constant "InTheGardenModel" 196 2147483647 ∈ g_tbl := g_in6 77 rfl rfl
theorem lf_10_37 : Cond.fieldLink "InTheGardenModel" 37 "InTheGardenModel" "how" "[I" ∈ g_tbl := g_in5 31 rfl rfl
theorem lf_10_34 : Cond.fieldLink "InTheGardenModel" 34 "InTheGardenModel" "where" "[I" ∈ g_tbl := g_in5 30 rfl rfl
theorem li_X10_hidingIn : Cond.instanceMethod ⟨"InTheGardenModel", "hidingIn", "(I)I"⟩ ∈ g_tbl := g_in6 69 rfl rfl
theorem lsel_X10_hidingIn : Cond.selects "InTheGardenModel" ⟨"InTheGardenModel", "hidingIn", "(I)I"⟩ ⟨"InTheGardenModel", "hidingIn", "(I)I"⟩ ∈ g_tbl := g_in0 61 rfl rfl
theorem lm_10_197 : Cond.methodLink "InTheGardenModel" 197 ⟨"InTheGardenModel", "hidingIn", "(I)I"⟩ ∈ g_tbl := g_in6 67 rfl rfl
theorem li_X10_may : Cond.instanceMethod ⟨"InTheGardenModel", "may", "(II)Z"⟩ ∈ g_tbl := g_in6 65 rfl rfl
theorem lsel_X10_may : Cond.selects "InTheGardenModel" ⟨"InTheGardenModel", "may", "(II)Z"⟩ ⟨"InTheGardenModel", "may", "(II)Z"⟩ ∈ g_tbl := g_in0 60 rfl rfl
theorem lm_10_200 : Cond.methodLink "InTheGardenModel" 200 ⟨"InTheGardenModel", "may", "(II)Z"⟩ ∈ g_tbl := g_in6 63 rfl rfl
theorem li_X10_draw : Cond.instanceMethod ⟨"InTheGardenModel", "draw", "(I)I"⟩ ∈ g_tbl := g_in6 73 rfl rfl
theorem lsel_X10_draw : Cond.selects "InTheGardenModel" ⟨"InTheGardenModel", "draw", "(I)I"⟩ ⟨"InTheGardenModel", "draw", "(I)I"⟩ ∈ g_tbl := g_in0 62 rfl rfl
theorem lm_10_203 : Cond.methodLink "InTheGardenModel" 203 ⟨"InTheGardenModel", "draw", "(I)I"⟩ ∈ g_tbl := g_in6 71 rfl rfl
theorem lf_10_40 : Cond.fieldLink "InTheGardenModel" 40 "InTheGardenModel" "when" "[I" ∈ g_tbl := g_in5 32 rfl rfl
theorem lf_10_46 : Cond.fieldLink "InTheGardenModel" 46 "InTheGardenModel" "caught" "[I" ∈ g_tbl := g_in5 34 rfl rfl
theorem lf_10_206 : Cond.fieldLink "InTheGardenModel" 206 "InTheGardenModel" "caughtMany" "I" ∈ g_tbl := g_in5 37 rfl rfl
theorem lf_10_209 : Cond.fieldLink "InTheGardenModel" 209 "InTheGardenModel" "inOrder" "I" ∈ g_tbl := g_in5 43 rfl rfl
theorem lf_10_212 : Cond.fieldLink "InTheGardenModel" 212 "InTheGardenModel" "spot" "I" ∈ g_tbl := g_in5 39 rfl rfl
theorem li_X10_goalNow : Cond.instanceMethod ⟨"InTheGardenModel", "goalNow", "()I"⟩ ∈ g_tbl := g_in6 108 rfl rfl
theorem lsel_X10_goalNow : Cond.selects "InTheGardenModel" ⟨"InTheGardenModel", "goalNow", "()I"⟩ ⟨"InTheGardenModel", "goalNow", "()I"⟩ ∈ g_tbl := g_in0 70 rfl rfl
theorem lm_10_215 : Cond.methodLink "InTheGardenModel" 215 ⟨"InTheGardenModel", "goalNow", "()I"⟩ ∈ g_tbl := g_in6 106 rfl rfl
theorem lf_10_218 : Cond.fieldLink "InTheGardenModel" 218 "InTheGardenModel" "goesNext" "I" ∈ g_tbl := g_in5 42 rfl rfl
theorem li_X10_nextTo : Cond.instanceMethod ⟨"InTheGardenModel", "nextTo", "(II)I"⟩ ∈ g_tbl := g_in6 112 rfl rfl
theorem lsel_X10_nextTo : Cond.selects "InTheGardenModel" ⟨"InTheGardenModel", "nextTo", "(II)I"⟩ ⟨"InTheGardenModel", "nextTo", "(II)I"⟩ ∈ g_tbl := g_in0 71 rfl rfl
theorem lm_10_221 : Cond.methodLink "InTheGardenModel" 221 ⟨"InTheGardenModel", "nextTo", "(II)I"⟩ ∈ g_tbl := g_in6 110 rfl rfl
theorem lf_10_224 : Cond.fieldLink "InTheGardenModel" 224 "InTheGardenModel" "to" "I" ∈ g_tbl := g_in5 40 rfl rfl
theorem lf_10_227 : Cond.fieldLink "InTheGardenModel" 227 "InTheGardenModel" "isOnWay" "Z" ∈ g_tbl := g_in5 44 rfl rfl
theorem lf_10_231 : Cond.fieldLink "InTheGardenModel" 231 "InTheGardenModel" "comesNext" "I" ∈ g_tbl := g_in5 41 rfl rfl
theorem li_X10_ageOf : Cond.instanceMethod ⟨"InTheGardenModel", "ageOf", "(I)I"⟩ ∈ g_tbl := g_in6 92 rfl rfl
theorem lsel_X10_ageOf : Cond.selects "InTheGardenModel" ⟨"InTheGardenModel", "ageOf", "(I)I"⟩ ⟨"InTheGardenModel", "ageOf", "(I)I"⟩ ∈ g_tbl := g_in0 66 rfl rfl
theorem lm_10_234 : Cond.methodLink "InTheGardenModel" 234 ⟨"InTheGardenModel", "ageOf", "(I)I"⟩ ∈ g_tbl := g_in6 90 rfl rfl
theorem li_X10_catches : Cond.instanceMethod ⟨"InTheGardenModel", "catches", "(II)V"⟩ ∈ g_tbl := g_in6 80 rfl rfl
theorem lsel_X10_catches : Cond.selects "InTheGardenModel" ⟨"InTheGardenModel", "catches", "(II)V"⟩ ⟨"InTheGardenModel", "catches", "(II)V"⟩ ∈ g_tbl := g_in0 63 rfl rfl
theorem lm_10_237 : Cond.methodLink "InTheGardenModel" 237 ⟨"InTheGardenModel", "catches", "(II)V"⟩ ∈ g_tbl := g_in6 78 rfl rfl
theorem lf_10_49 : Cond.fieldLink "InTheGardenModel" 49 "InTheGardenModel" "caughtAt" "[I" ∈ g_tbl := g_in5 35 rfl rfl
theorem li_X10_looks : Cond.instanceMethod ⟨"InTheGardenModel", "looks", "(I)V"⟩ ∈ g_tbl := g_in6 88 rfl rfl
theorem lsel_X10_looks : Cond.selects "InTheGardenModel" ⟨"InTheGardenModel", "looks", "(I)V"⟩ ⟨"InTheGardenModel", "looks", "(I)V"⟩ ∈ g_tbl := g_in0 65 rfl rfl
theorem lm_10_241 : Cond.methodLink "InTheGardenModel" 241 ⟨"InTheGardenModel", "looks", "(I)V"⟩ ∈ g_tbl := g_in6 86 rfl rfl
theorem lf_10_43 : Cond.fieldLink "InTheGardenModel" 43 "InTheGardenModel" "comesAt" "[I" ∈ g_tbl := g_in5 33 rfl rfl
theorem li_X10_isOut : Cond.instanceMethod ⟨"InTheGardenModel", "isOut", "()Z"⟩ ∈ g_tbl := g_in6 96 rfl rfl
theorem lsel_X10_isOut : Cond.selects "InTheGardenModel" ⟨"InTheGardenModel", "isOut", "()Z"⟩ ⟨"InTheGardenModel", "isOut", "()Z"⟩ ∈ g_tbl := g_in0 67 rfl rfl
theorem lm_10_245 : Cond.methodLink "InTheGardenModel" 245 ⟨"InTheGardenModel", "isOut", "()Z"⟩ ∈ g_tbl := g_in6 94 rfl rfl
theorem li_X10_frees : Cond.instanceMethod ⟨"InTheGardenModel", "frees", "(I)V"⟩ ∈ g_tbl := g_in6 100 rfl rfl
theorem lsel_X10_frees : Cond.selects "InTheGardenModel" ⟨"InTheGardenModel", "frees", "(I)V"⟩ ⟨"InTheGardenModel", "frees", "(I)V"⟩ ∈ g_tbl := g_in0 68 rfl rfl
theorem lm_10_248 : Cond.methodLink "InTheGardenModel" 248 ⟨"InTheGardenModel", "frees", "(I)V"⟩ ∈ g_tbl := g_in6 98 rfl rfl
theorem li_X10_goesOn : Cond.instanceMethod ⟨"InTheGardenModel", "goesOn", "(I)V"⟩ ∈ g_tbl := g_in6 104 rfl rfl
theorem lsel_X10_goesOn : Cond.selects "InTheGardenModel" ⟨"InTheGardenModel", "goesOn", "(I)V"⟩ ⟨"InTheGardenModel", "goesOn", "(I)V"⟩ ∈ g_tbl := g_in0 69 rfl rfl
theorem lm_10_251 : Cond.methodLink "InTheGardenModel" 251 ⟨"InTheGardenModel", "goesOn", "(I)V"⟩ ∈ g_tbl := g_in6 102 rfl rfl
theorem li_X10_back : Cond.instanceMethod ⟨"InTheGardenModel", "back", "(I)I"⟩ ∈ g_tbl := g_in6 116 rfl rfl
theorem lsel_X10_back : Cond.selects "InTheGardenModel" ⟨"InTheGardenModel", "back", "(I)I"⟩ ⟨"InTheGardenModel", "back", "(I)I"⟩ ∈ g_tbl := g_in0 72 rfl rfl
theorem lm_10_254 : Cond.methodLink "InTheGardenModel" 254 ⟨"InTheGardenModel", "back", "(I)I"⟩ ∈ g_tbl := g_in6 114 rfl rfl
theorem li_X10_chosen : Cond.instanceMethod ⟨"InTheGardenModel", "chosen", "(I)I"⟩ ∈ g_tbl := g_in6 61 rfl rfl
theorem lsel_X10_chosen : Cond.selects "InTheGardenModel" ⟨"InTheGardenModel", "chosen", "(I)I"⟩ ⟨"InTheGardenModel", "chosen", "(I)I"⟩ ∈ g_tbl := g_in0 59 rfl rfl
theorem lm_10_257 : Cond.methodLink "InTheGardenModel" 257 ⟨"InTheGardenModel", "chosen", "(I)I"⟩ ∈ g_tbl := g_in6 59 rfl rfl
theorem li_X10_second : Cond.instanceMethod ⟨"InTheGardenModel", "second", "(I)V"⟩ ∈ g_tbl := g_in6 84 rfl rfl
theorem lsel_X10_second : Cond.selects "InTheGardenModel" ⟨"InTheGardenModel", "second", "(I)V"⟩ ⟨"InTheGardenModel", "second", "(I)V"⟩ ∈ g_tbl := g_in0 64 rfl rfl
theorem lm_10_260 : Cond.methodLink "InTheGardenModel" 260 ⟨"InTheGardenModel", "second", "(I)V"⟩ ∈ g_tbl := g_in6 82 rfl rfl
theorem lf_10_263 : Cond.fieldLink "InTheGardenModel" 263 "InTheGardenModel" "last" "I" ∈ g_tbl := g_in5 38 rfl rfl
theorem li_X10_plays : Cond.instanceMethod ⟨"InTheGardenModel", "plays", "(I)V"⟩ ∈ g_tbl := g_in6 57 rfl rfl
theorem lsel_X10_plays : Cond.selects "InTheGardenModel" ⟨"InTheGardenModel", "plays", "(I)V"⟩ ⟨"InTheGardenModel", "plays", "(I)V"⟩ ∈ g_tbl := g_in0 58 rfl rfl
theorem lm_10_266 : Cond.methodLink "InTheGardenModel" 266 ⟨"InTheGardenModel", "plays", "(I)V"⟩ ∈ g_tbl := g_in6 55 rfl rfl
theorem li_X10_howMany : Cond.instanceMethod ⟨"InTheGardenModel", "howMany", "(I)I"⟩ ∈ g_tbl := g_in6 120 rfl rfl
theorem lsel_X10_howMany : Cond.selects "InTheGardenModel" ⟨"InTheGardenModel", "howMany", "(I)I"⟩ ⟨"InTheGardenModel", "howMany", "(I)I"⟩ ∈ g_tbl := g_in0 73 rfl rfl
theorem lm_10_269 : Cond.methodLink "InTheGardenModel" 269 ⟨"InTheGardenModel", "howMany", "(I)I"⟩ ∈ g_tbl := g_in6 118 rfl rfl
theorem li_X10_tableOf : Cond.instanceMethod ⟨"InTheGardenModel", "tableOf", "(II)I"⟩ ∈ g_tbl := g_in6 140 rfl rfl
theorem lsel_X10_tableOf : Cond.selects "InTheGardenModel" ⟨"InTheGardenModel", "tableOf", "(II)I"⟩ ⟨"InTheGardenModel", "tableOf", "(II)I"⟩ ∈ g_tbl := g_in0 74 rfl rfl
theorem lm_10_272 : Cond.methodLink "InTheGardenModel" 272 ⟨"InTheGardenModel", "tableOf", "(II)I"⟩ ∈ g_tbl := g_in6 138 rfl rfl
theorem li_X10_mayGoTo : Cond.instanceMethod ⟨"InTheGardenModel", "mayGoTo", "(I)Z"⟩ ∈ g_tbl := g_in6 148 rfl rfl
theorem lsel_X10_mayGoTo : Cond.selects "InTheGardenModel" ⟨"InTheGardenModel", "mayGoTo", "(I)Z"⟩ ⟨"InTheGardenModel", "mayGoTo", "(I)Z"⟩ ∈ g_tbl := g_in0 75 rfl rfl
theorem lm_10_275 : Cond.methodLink "InTheGardenModel" 275 ⟨"InTheGardenModel", "mayGoTo", "(I)Z"⟩ ∈ g_tbl := g_in6 146 rfl rfl
theorem lf_10_52 : Cond.fieldLink "InTheGardenModel" 52 "InTheGardenModel" "least" "[I" ∈ g_tbl := g_in5 45 rfl rfl
theorem lf_10_55 : Cond.fieldLink "InTheGardenModel" 55 "InTheGardenModel" "settled" "[Z" ∈ g_tbl := g_in5 46 rfl rfl
theorem lm_10_278 : Cond.methodLink "InTheGardenModel" 278 ⟨"InTheGardenModel", "bits", "(I)I"⟩ ∈ g_tbl := g_in6 158 rfl rfl
theorem ls_X10_bits : Cond.static ⟨"InTheGardenModel", "bits", "(I)I"⟩ ∈ g_tbl := g_in6 159 rfl rfl
theorem lf_10_281 : Cond.fieldLink "InTheGardenModel" 281 "InTheGardenModel" "orderMany" "I" ∈ g_tbl := g_in5 52 rfl rfl
theorem lf_10_62 : Cond.fieldLink "InTheGardenModel" 62 "InTheGardenModel" "orders" "[I" ∈ g_tbl := g_in5 48 rfl rfl
theorem li_X10_findOrders : Cond.instanceMethod ⟨"InTheGardenModel", "findOrders", "(III)V"⟩ ∈ g_tbl := g_in6 183 rfl rfl
theorem lsel_X10_findOrders : Cond.selects "InTheGardenModel" ⟨"InTheGardenModel", "findOrders", "(III)V"⟩ ⟨"InTheGardenModel", "findOrders", "(III)V"⟩ ∈ g_tbl := g_in0 80 rfl rfl
theorem lm_10_284 : Cond.methodLink "InTheGardenModel" 284 ⟨"InTheGardenModel", "findOrders", "(III)V"⟩ ∈ g_tbl := g_in6 181 rfl rfl
theorem lf_10_59 : Cond.fieldLink "InTheGardenModel" 59 "InTheGardenModel" "tells" "[I" ∈ g_tbl := g_in5 47 rfl rfl
theorem li_X10_findTells : Cond.instanceMethod ⟨"InTheGardenModel", "findTells", "(I)V"⟩ ∈ g_tbl := g_in6 179 rfl rfl
theorem lsel_X10_findTells : Cond.selects "InTheGardenModel" ⟨"InTheGardenModel", "findTells", "(I)V"⟩ ⟨"InTheGardenModel", "findTells", "(I)V"⟩ ∈ g_tbl := g_in0 79 rfl rfl
theorem lm_10_288 : Cond.methodLink "InTheGardenModel" 288 ⟨"InTheGardenModel", "findTells", "(I)V"⟩ ∈ g_tbl := g_in6 177 rfl rfl
theorem lf_10_65 : Cond.fieldLink "InTheGardenModel" 65 "InTheGardenModel" "placeSum" "[I" ∈ g_tbl := g_in5 49 rfl rfl
theorem lf_10_71 : Cond.fieldLink "InTheGardenModel" 71 "InTheGardenModel" "takenOf" "[I" ∈ g_tbl := g_in5 51 rfl rfl
theorem lf_10_68 : Cond.fieldLink "InTheGardenModel" 68 "InTheGardenModel" "orderSum" "[I" ∈ g_tbl := g_in5 50 rfl rfl
theorem li_X10_isGame : Cond.instanceMethod ⟨"InTheGardenModel", "isGame", "(I)Z"⟩ ∈ g_tbl := g_in6 171 rfl rfl
theorem lsel_X10_isGame : Cond.selects "InTheGardenModel" ⟨"InTheGardenModel", "isGame", "(I)Z"⟩ ⟨"InTheGardenModel", "isGame", "(I)Z"⟩ ∈ g_tbl := g_in0 77 rfl rfl
theorem lm_10_291 : Cond.methodLink "InTheGardenModel" 291 ⟨"InTheGardenModel", "isGame", "(I)Z"⟩ ∈ g_tbl := g_in6 169 rfl rfl
theorem lm_10_294 : Cond.methodLink "InTheGardenModel" 294 ⟨"InTheGardenModel", "common", "(II)I"⟩ ∈ g_tbl := g_in6 185 rfl rfl
theorem ls_X10_common : Cond.static ⟨"InTheGardenModel", "common", "(II)I"⟩ ∈ g_tbl := g_in6 186 rfl rfl
theorem li_X10_wrongGame : Cond.instanceMethod ⟨"InTheGardenModel", "wrongGame", "(II)I"⟩ ∈ g_tbl := g_in6 167 rfl rfl
theorem lsel_X10_wrongGame : Cond.selects "InTheGardenModel" ⟨"InTheGardenModel", "wrongGame", "(II)I"⟩ ⟨"InTheGardenModel", "wrongGame", "(II)I"⟩ ∈ g_tbl := g_in0 76 rfl rfl
theorem lm_10_297 : Cond.methodLink "InTheGardenModel" 297 ⟨"InTheGardenModel", "wrongGame", "(II)I"⟩ ∈ g_tbl := g_in6 165 rfl rfl
theorem li_X10_goesGame : Cond.instanceMethod ⟨"InTheGardenModel", "goesGame", "(II)V"⟩ ∈ g_tbl := g_in6 175 rfl rfl
theorem lsel_X10_goesGame : Cond.selects "InTheGardenModel" ⟨"InTheGardenModel", "goesGame", "(II)V"⟩ ⟨"InTheGardenModel", "goesGame", "(II)V"⟩ ∈ g_tbl := g_in0 78 rfl rfl
theorem lm_10_300 : Cond.methodLink "InTheGardenModel" 300 ⟨"InTheGardenModel", "goesGame", "(II)V"⟩ ∈ g_tbl := g_in6 173 rfl rfl
theorem lf_10_74 : Cond.fieldLink "InTheGardenModel" 74 "InTheGardenModel" "kept" "[I" ∈ g_tbl := g_in5 53 rfl rfl
theorem li_X10_findsBy : Cond.instanceMethod ⟨"InTheGardenModel", "findsBy", "(II)I"⟩ ∈ g_tbl := g_in6 206 rfl rfl
theorem lsel_X10_findsBy : Cond.selects "InTheGardenModel" ⟨"InTheGardenModel", "findsBy", "(II)I"⟩ ⟨"InTheGardenModel", "findsBy", "(II)I"⟩ ∈ g_tbl := g_in0 81 rfl rfl
theorem lm_10_303 : Cond.methodLink "InTheGardenModel" 303 ⟨"InTheGardenModel", "findsBy", "(II)I"⟩ ∈ g_tbl := g_in6 204 rfl rfl
theorem lf_10_77 : Cond.fieldLink "InTheGardenModel" 77 "InTheGardenModel" "bestOrder" "[I" ∈ g_tbl := g_in5 54 rfl rfl
theorem lf_10_306 : Cond.fieldLink "InTheGardenModel" 306 "InTheGardenModel" "rowed" "I" ∈ g_tbl := g_in5 56 rfl rfl
theorem lf_10_80 : Cond.fieldLink "InTheGardenModel" 80 "InTheGardenModel" "row" "[I" ∈ g_tbl := g_in5 55 rfl rfl
theorem lf_10_16 : Cond.fieldLink "InTheGardenModel" 16 "InTheGardenModel" "image" "[I" ∈ g_tbl := g_in5 21 rfl rfl
theorem lf_10_309 : Cond.fieldLink "InTheGardenModel" 309 "InTheGardenModel" "isImage" "Z" ∈ g_tbl := g_in5 23 rfl rfl
theorem lc_JInteger_265 : Cond.constant "java/lang/Integer" 265 1431655765 ∈ g_tbl := g_in3 196 rfl rfl
theorem lc_JInteger_266 : Cond.constant "java/lang/Integer" 266 858993459 ∈ g_tbl := g_in3 197 rfl rfl
theorem lc_JInteger_267 : Cond.constant "java/lang/Integer" 267 252645135 ∈ g_tbl := g_in3 198 rfl rfl
theorem lf_JString_9 : Cond.fieldLink "java/lang/String" 9 "java/lang/String" "value" "[B" ∈ g_tbl := g_in6 233 rfl rfl
theorem li_J0_coder : Cond.instanceMethod ⟨"java/lang/String", "coder", "()B"⟩ ∈ g_tbl := g_in2 172 rfl rfl
theorem lsel_J0_coder : Cond.selects "java/lang/String" ⟨"java/lang/String", "coder", "()B"⟩ ⟨"java/lang/String", "coder", "()B"⟩ ∈ g_tbl := g_in2 173 rfl rfl
theorem lm_JString_335 : Cond.methodLink "java/lang/String" 335 ⟨"java/lang/String", "coder", "()B"⟩ ∈ g_tbl := g_in2 171 rfl rfl
theorem li_J0_isLatin1 : Cond.instanceMethod ⟨"java/lang/String", "isLatin1", "()Z"⟩ ∈ g_tbl := g_in2 182 rfl rfl
theorem lsel_J0_isLatin1 : Cond.selects "java/lang/String" ⟨"java/lang/String", "isLatin1", "()Z"⟩ ⟨"java/lang/String", "isLatin1", "()Z"⟩ ∈ g_tbl := g_in2 183 rfl rfl
theorem lm_JString_492 : Cond.methodLink "java/lang/String" 492 ⟨"java/lang/String", "isLatin1", "()Z"⟩ ∈ g_tbl := g_in2 181 rfl rfl
theorem lm_JString_495 : Cond.methodLink "java/lang/String" 495 ⟨"java/lang/StringLatin1", "charAt", "([BI)C"⟩ ∈ g_tbl := g_in2 185 rfl rfl
theorem ls_J1_charAt : Cond.static ⟨"java/lang/StringLatin1", "charAt", "([BI)C"⟩ ∈ g_tbl := g_in2 186 rfl rfl
theorem li_J0_indexOf2 : Cond.instanceMethod ⟨"java/lang/String", "indexOf", "(II)I"⟩ ∈ g_tbl := g_in2 233 rfl rfl
theorem lsel_J0_indexOf2 : Cond.selects "java/lang/String" ⟨"java/lang/String", "indexOf", "(II)I"⟩ ⟨"java/lang/String", "indexOf", "(II)I"⟩ ∈ g_tbl := g_in2 234 rfl rfl
theorem lm_JString_633 : Cond.methodLink "java/lang/String" 633 ⟨"java/lang/String", "indexOf", "(II)I"⟩ ∈ g_tbl := g_in2 232 rfl rfl
theorem lm_JString_505 : Cond.methodLink "java/lang/String" 505 ⟨"java/lang/String", "length", "()I"⟩ ∈ g_tbl := g_in2 236 rfl rfl
theorem lm_JString_637 : Cond.methodLink "java/lang/String" 637 ⟨"java/lang/StringLatin1", "indexOf", "([BIII)I"⟩ ∈ g_tbl := g_in2 237 rfl rfl
theorem ls_J1_indexOf : Cond.static ⟨"java/lang/StringLatin1", "indexOf", "([BIII)I"⟩ ∈ g_tbl := g_in2 238 rfl rfl
theorem lf_JString_38 : Cond.fieldLink "java/lang/String" 38 "java/lang/String" "COMPACT_STRINGS" "Z" ∈ g_tbl := g_in2 175 rfl rfl
theorem lf_JString_15 : Cond.fieldLink "java/lang/String" 15 "java/lang/String" "coder" "B" ∈ g_tbl := g_in6 234 rfl rfl
theorem lf_JString_1053 : Cond.fieldLink "java/lang/String" 1053 "jdk/internal/util/Preconditions" "SIOOBE_FORMATTER" "Ljava/util/function/BiFunction;" ∈ g_tbl := g_in2 191 rfl rfl
theorem lm_JString_1059 : Cond.methodLink "java/lang/String" 1059 ⟨"jdk/internal/util/Preconditions", "checkIndex", "(IILjava/util/function/BiFunction;)I"⟩ ∈ g_tbl := g_in2 193 rfl rfl
theorem ls_J3_checkIndex : Cond.static ⟨"jdk/internal/util/Preconditions", "checkIndex", "(IILjava/util/function/BiFunction;)I"⟩ ∈ g_tbl := g_in2 194 rfl rfl
theorem lm_JStringLatin1_9 : Cond.methodLink "java/lang/StringLatin1" 9 ⟨"java/lang/String", "checkIndex", "(II)V"⟩ ∈ g_tbl := g_in2 188 rfl rfl
theorem ls_J0_checkIndex : Cond.static ⟨"java/lang/String", "checkIndex", "(II)V"⟩ ∈ g_tbl := g_in2 189 rfl rfl
theorem lm_JStringLatin1_88 : Cond.methodLink "java/lang/StringLatin1" 88 ⟨"java/lang/StringLatin1", "canEncode", "(I)Z"⟩ ∈ g_tbl := g_in3 0 rfl rfl
theorem ls_J1_canEncode : Cond.static ⟨"java/lang/StringLatin1", "canEncode", "(I)Z"⟩ ∈ g_tbl := g_in3 1 rfl rfl
theorem lm_JStringLatin1_92 : Cond.methodLink "java/lang/StringLatin1" 92 ⟨"java/lang/Math", "max", "(II)I"⟩ ∈ g_tbl := g_in3 3 rfl rfl
theorem lm_JStringLatin1_38 : Cond.methodLink "java/lang/StringLatin1" 38 ⟨"java/lang/Math", "min", "(II)I"⟩ ∈ g_tbl := g_in3 4 rfl rfl
theorem lm_JStringLatin1_95 : Cond.methodLink "java/lang/StringLatin1" 95 ⟨"java/lang/StringLatin1", "indexOfChar", "([BIII)I"⟩ ∈ g_tbl := g_in3 7 rfl rfl
theorem ls_J1_indexOfChar : Cond.static ⟨"java/lang/StringLatin1", "indexOfChar", "([BIII)I"⟩ ∈ g_tbl := g_in3 8 rfl rfl
theorem lcode_X0_play : Cond.code ⟨"InTheGarden$Game", "play", "(LInTheGarden$Garden;LInTheGarden$Orders;II)V"⟩ prog_2_method_2_code 8 none ∈ g_tbl := g_in4 137 rfl rfl
theorem lcode_X0_leastOverOrders : Cond.code ⟨"InTheGarden$Game", "leastOverOrders", "()I"⟩ prog_2_method_3_code 1 (some .int) ∈ g_tbl := g_in4 171 rfl rfl
theorem lcode_X0_greatestOverPlaces : Cond.code ⟨"InTheGarden$Game", "greatestOverPlaces", "()I"⟩ prog_2_method_4_code 1 (some .int) ∈ g_tbl := g_in4 175 rfl rfl
theorem lcode_X0_tellAll : Cond.code ⟨"InTheGarden$Game", "tellAll", "(LInTheGarden$Garden;LInTheGarden$Orders;)V"⟩ prog_2_method_5_code 7 none ∈ g_tbl := g_in4 143 rfl rfl
theorem lcode_X0_addTells : Cond.code ⟨"InTheGarden$Game", "addTells", "(II)V"⟩ prog_2_method_6_code 4 none ∈ g_tbl := g_in4 167 rfl rfl
theorem lcode_X0_indexOfGreatest : Cond.code ⟨"InTheGarden$Game", "indexOfGreatest", "([II)I"⟩ prog_2_method_7_code 4 (some .int) ∈ g_tbl := g_in4 160 rfl rfl
theorem lcode_X0_indexOfLeast : Cond.code ⟨"InTheGarden$Game", "indexOfLeast", "([II)I"⟩ prog_2_method_8_code 4 (some .int) ∈ g_tbl := g_in4 163 rfl rfl
theorem lcode_X1_copyFrom : Cond.code ⟨"InTheGarden$Garden", "copyFrom", "(LInTheGarden$Garden;)V"⟩ prog_3_method_2_code 2 none ∈ g_tbl := g_in2 137 rfl rfl
theorem lcode_X1_isPlace : Cond.code ⟨"InTheGarden$Garden", "isPlace", "(I)Z"⟩ prog_3_method_3_code 2 (some .boolean) ∈ g_tbl := g_in3 68 rfl rfl
theorem lcode_X1_isHidingPlace : Cond.code ⟨"InTheGarden$Garden", "isHidingPlace", "(I)Z"⟩ prog_3_method_4_code 2 (some .boolean) ∈ g_tbl := g_in3 119 rfl rfl
theorem lcode_X1_isHider : Cond.code ⟨"InTheGarden$Garden", "isHider", "(I)Z"⟩ prog_3_method_5_code 2 (some .boolean) ∈ g_tbl := g_in3 111 rfl rfl
theorem lcode_X1_addPlace : Cond.code ⟨"InTheGarden$Garden", "addPlace", "(III)Z"⟩ prog_3_method_6_code 4 (some .boolean) ∈ g_tbl := g_in3 60 rfl rfl
theorem lcode_X1_addWay : Cond.code ⟨"InTheGarden$Garden", "addWay", "(III)Z"⟩ prog_3_method_7_code 4 (some .boolean) ∈ g_tbl := g_in3 64 rfl rfl
theorem lcode_X1_addView : Cond.code ⟨"InTheGarden$Garden", "addView", "(II)Z"⟩ prog_3_method_8_code 3 (some .boolean) ∈ g_tbl := g_in3 76 rfl rfl
theorem lcode_X1_addHider : Cond.code ⟨"InTheGarden$Garden", "addHider", "(II)Z"⟩ prog_3_method_9_code 3 (some .boolean) ∈ g_tbl := g_in3 83 rfl rfl
theorem lcode_X1_measure : Cond.code ⟨"InTheGarden$Garden", "measure", "()V"⟩ prog_3_method_10_code 2 none ∈ g_tbl := g_in1 44 rfl rfl
theorem lcode_X1_measureWays : Cond.code ⟨"InTheGarden$Garden", "measureWays", "()V"⟩ prog_3_method_11_code 4 none ∈ g_tbl := g_in1 48 rfl rfl
theorem lcode_X1_shortenFrom : Cond.code ⟨"InTheGarden$Garden", "shortenFrom", "(II)V"⟩ prog_3_method_12_code 7 none ∈ g_tbl := g_in1 52 rfl rfl
theorem lcode_X1_measureRuns : Cond.code ⟨"InTheGarden$Garden", "measureRuns", "(I)V"⟩ prog_3_method_13_code 6 none ∈ g_tbl := g_in1 56 rfl rfl
theorem lcode_X1_wayBetween : Cond.code ⟨"InTheGarden$Garden", "wayBetween", "(II)I"⟩ prog_3_method_14_code 3 (some .int) ∈ g_tbl := g_in3 72 rfl rfl
theorem lcode_X1_distance : Cond.code ⟨"InTheGarden$Garden", "distance", "(II)I"⟩ prog_3_method_15_code 3 (some .int) ∈ g_tbl := g_in3 103 rfl rfl
theorem lcode_X1_canComeToFirst : Cond.code ⟨"InTheGarden$Garden", "canComeToFirst", "(I)Z"⟩ prog_3_method_16_code 3 (some .boolean) ∈ g_tbl := g_in4 133 rfl rfl
theorem lcode_X1_nextOn : Cond.code ⟨"InTheGarden$Garden", "nextOn", "(II)I"⟩ prog_3_method_17_code 7 (some .int) ∈ g_tbl := g_in4 28 rfl rfl
theorem lcode_X1_coverAt : Cond.code ⟨"InTheGarden$Garden", "coverAt", "(IIIII)I"⟩ prog_3_method_18_code 7 (some .int) ∈ g_tbl := g_in3 146 rfl rfl
theorem lcode_X1_secondsToWalk : Cond.code ⟨"InTheGarden$Garden", "secondsToWalk", "(II)I"⟩ prog_3_method_19_code 3 (some .int) ∈ g_tbl := g_in3 184 rfl rfl
theorem lcode_X1_secondsToRun : Cond.code ⟨"InTheGarden$Garden", "secondsToRun", "(II)I"⟩ prog_3_method_20_code 3 (some .int) ∈ g_tbl := g_in3 155 rfl rfl
theorem lcode_X1_wouldRun : Cond.code ⟨"InTheGarden$Garden", "wouldRun", "(IIII)Z"⟩ prog_3_method_21_code 6 (some .boolean) ∈ g_tbl := g_in4 43 rfl rfl
theorem lcode_X1_allTimes : Cond.code ⟨"InTheGarden$Garden", "allTimes", "()I"⟩ prog_3_method_22_code 3 (some .int) ∈ g_tbl := g_in5 12 rfl rfl
theorem lcode_X2_begin : Cond.code ⟨"InTheGarden$Orders", "begin", "(I)V"⟩ prog_4_method_2_code 3 none ∈ g_tbl := g_in4 147 rfl rfl
theorem lcode_X2_advance : Cond.code ⟨"InTheGarden$Orders", "advance", "()Z"⟩ prog_4_method_3_code 5 (some .boolean) ∈ g_tbl := g_in4 153 rfl rfl
theorem lcode_X2_swap : Cond.code ⟨"InTheGarden$Orders", "swap", "(II)V"⟩ prog_4_method_4_code 4 none ∈ g_tbl := g_in4 157 rfl rfl
theorem lcode_X3_append : Cond.code ⟨"InTheGarden$Reader", "append", "(IJ)V"⟩ prog_5_method_2_code 5 none ∈ g_tbl := g_in2 128 rfl rfl
theorem lcode_X3_readInto : Cond.code ⟨"InTheGarden$Reader", "readInto", "(LInTheGarden$Garden;)I"⟩ prog_5_method_3_code 6 (some .int) ∈ g_tbl := g_in2 142 rfl rfl
theorem lcode_X3_countStatements : Cond.code ⟨"InTheGarden$Reader", "countStatements", "()I"⟩ prog_5_method_4_code 2 (some .int) ∈ g_tbl := g_in2 146 rfl rfl
theorem lcode_X3_sign : Cond.code ⟨"InTheGarden$Reader", "sign", "()I"⟩ prog_5_method_5_code 1 (some .int) ∈ g_tbl := g_in2 154 rfl rfl
theorem lcode_X3_readStatement : Cond.code ⟨"InTheGarden$Reader", "readStatement", "()Z"⟩ prog_5_method_6_code 6 (some .boolean) ∈ g_tbl := g_in2 150 rfl rfl
theorem lcode_X3_formOf : Cond.code ⟨"InTheGarden$Reader", "formOf", "(I)Ljava/lang/String;"⟩ prog_5_method_7_code 1 (some (.object "java/lang/String")) ∈ g_tbl := g_in2 157 rfl rfl
theorem lcode_X3_readMark : Cond.code ⟨"InTheGarden$Reader", "readMark", "(C)Z"⟩ prog_5_method_8_code 2 (some .boolean) ∈ g_tbl := g_in2 218 rfl rfl
theorem lcode_X3_readValue : Cond.code ⟨"InTheGarden$Reader", "readValue", "(CI)Z"⟩ prog_5_method_9_code 3 (some .boolean) ∈ g_tbl := g_in2 222 rfl rfl
theorem lcode_X3_readKind : Cond.code ⟨"InTheGarden$Reader", "readKind", "(I)Z"⟩ prog_5_method_10_code 4 (some .boolean) ∈ g_tbl := g_in2 226 rfl rfl
theorem lcode_X3_readNumber : Cond.code ⟨"InTheGarden$Reader", "readNumber", "(III)Z"⟩ prog_5_method_11_code 6 (some .boolean) ∈ g_tbl := g_in3 52 rfl rfl
theorem lcode_X3_keep : Cond.code ⟨"InTheGarden$Reader", "keep", "(II)V"⟩ prog_5_method_12_code 3 none ∈ g_tbl := g_in3 48 rfl rfl
theorem lcode_X3_tell : Cond.code ⟨"InTheGarden$Reader", "tell", "(ILInTheGarden$Garden;)Z"⟩ prog_5_method_13_code 3 (some .boolean) ∈ g_tbl := g_in3 56 rfl rfl
theorem lcode_X4_copyFrom : Cond.code ⟨"InTheGarden$Round", "copyFrom", "(LInTheGarden$Round;)V"⟩ prog_6_method_2_code 2 none ∈ g_tbl := g_in5 0 rfl rfl
theorem lcode_X4_play : Cond.code ⟨"InTheGarden$Round", "play", "(LInTheGarden$Garden;LInTheGarden$Told;LInTheGarden$Seeker;I)V"⟩ prog_6_method_3_code 8 none ∈ g_tbl := g_in3 163 rfl rfl
theorem lcode_X4_howMany : Cond.code ⟨"InTheGarden$Round", "howMany", "(I)I"⟩ prog_6_method_4_code 4 (some .int) ∈ g_tbl := g_in4 61 rfl rfl
theorem lcode_X4_growTimes : Cond.code ⟨"InTheGarden$Round", "growTimes", "(LInTheGarden$Garden;)V"⟩ prog_6_method_5_code 4 none ∈ g_tbl := g_in4 57 rfl rfl
theorem lcode_X4_begin : Cond.code ⟨"InTheGarden$Round", "begin", "(LInTheGarden$Garden;I)V"⟩ prog_6_method_6_code 3 none ∈ g_tbl := g_in3 167 rfl rfl
theorem lcode_X4_drawBelow : Cond.code ⟨"InTheGarden$Round", "drawBelow", "(I)I"⟩ prog_6_method_7_code 2 (some .int) ∈ g_tbl := g_in3 202 rfl rfl
theorem lcode_X4_hideAll : Cond.code ⟨"InTheGarden$Round", "hideAll", "(LInTheGarden$Garden;LInTheGarden$Told;)V"⟩ prog_6_method_8_code 5 none ∈ g_tbl := g_in3 172 rfl rfl
theorem lcode_X4_choose : Cond.code ⟨"InTheGarden$Round", "choose", "(LInTheGarden$Garden;LInTheGarden$Told;I)I"⟩ prog_6_method_9_code 6 (some .int) ∈ g_tbl := g_in3 176 rfl rfl
theorem lcode_X4_openPlaces : Cond.code ⟨"InTheGarden$Round", "openPlaces", "(LInTheGarden$Garden;II)I"⟩ prog_6_method_10_code 7 (some .int) ∈ g_tbl := g_in3 180 rfl rfl
theorem lcode_X4_deepest : Cond.code ⟨"InTheGarden$Round", "deepest", "(LInTheGarden$Garden;I)I"⟩ prog_6_method_11_code 4 (some .int) ∈ g_tbl := g_in3 187 rfl rfl
theorem lcode_X4_outermost : Cond.code ⟨"InTheGarden$Round", "outermost", "(LInTheGarden$Garden;I)I"⟩ prog_6_method_12_code 4 (some .int) ∈ g_tbl := g_in3 191 rfl rfl
theorem lcode_X4_bitAt : Cond.code ⟨"InTheGarden$Round", "bitAt", "(II)I"⟩ prog_6_method_13_code 4 (some .int) ∈ g_tbl := g_in3 208 rfl rfl
theorem lcode_X4_comeAndLook : Cond.code ⟨"InTheGarden$Round", "comeAndLook", "(LInTheGarden$Garden;LInTheGarden$Told;LInTheGarden$Seeker;I)V"⟩ prog_6_method_14_code 7 none ∈ g_tbl := g_in3 221 rfl rfl
theorem lcode_X4_coverOf : Cond.code ⟨"InTheGarden$Round", "coverOf", "(LInTheGarden$Garden;IIII)I"⟩ prog_6_method_15_code 8 (some .int) ∈ g_tbl := g_in3 233 rfl rfl
theorem lcode_X4_hidingIn : Cond.code ⟨"InTheGarden$Round", "hidingIn", "(I)I"⟩ prog_6_method_16_code 4 (some .int) ∈ g_tbl := g_in3 237 rfl rfl
theorem lcode_X4_find : Cond.code ⟨"InTheGarden$Round", "find", "(II)V"⟩ prog_6_method_17_code 3 none ∈ g_tbl := g_in3 212 rfl rfl
theorem lcode_X4_bringHome : Cond.code ⟨"InTheGarden$Round", "bringHome", "(IZZ)V"⟩ prog_6_method_18_code 5 none ∈ g_tbl := g_in4 7 rfl rfl
theorem lcode_X4_freeAll : Cond.code ⟨"InTheGarden$Round", "freeAll", "(I)V"⟩ prog_6_method_19_code 3 none ∈ g_tbl := g_in4 15 rfl rfl
theorem lcode_X4_startRuns : Cond.code ⟨"InTheGarden$Round", "startRuns", "(LInTheGarden$Garden;III)V"⟩ prog_6_method_20_code 6 none ∈ g_tbl := g_in4 39 rfl rfl
theorem lcode_X4_isOpen : Cond.code ⟨"InTheGarden$Round", "isOpen", "()Z"⟩ prog_6_method_21_code 2 (some .boolean) ∈ g_tbl := g_in4 11 rfl rfl
theorem lcode_X4_nextMoment : Cond.code ⟨"InTheGarden$Round", "nextMoment", "(LInTheGarden$Seeker;I)I"⟩ prog_6_method_22_code 5 (some .int) ∈ g_tbl := g_in4 49 rfl rfl
theorem lcode_X4_end : Cond.code ⟨"InTheGarden$Round", "end", "(I)V"⟩ prog_6_method_23_code 3 none ∈ g_tbl := g_in4 53 rfl rfl
theorem lcode_X5_begin : Cond.code ⟨"InTheGarden$Seeker", "begin", "()V"⟩ prog_7_method_2_code 1 none ∈ g_tbl := g_in3 216 rfl rfl
theorem lcode_X5_comesAt : Cond.code ⟨"InTheGarden$Seeker", "comesAt", "(I)Z"⟩ prog_7_method_3_code 2 (some .boolean) ∈ g_tbl := g_in3 225 rfl rfl
theorem lcode_X5_come : Cond.code ⟨"InTheGarden$Seeker", "come", "(II)V"⟩ prog_7_method_4_code 3 none ∈ g_tbl := g_in3 229 rfl rfl
theorem lcode_X5_standsAtBase : Cond.code ⟨"InTheGarden$Seeker", "standsAtBase", "()Z"⟩ prog_7_method_5_code 1 (some .boolean) ∈ g_tbl := g_in4 3 rfl rfl
theorem lcode_X5_goOnAt : Cond.code ⟨"InTheGarden$Seeker", "goOnAt", "(ILInTheGarden$Garden;LInTheGarden$Told;)V"⟩ prog_7_method_6_code 4 none ∈ g_tbl := g_in4 19 rfl rfl
theorem lcode_X5_nextTarget : Cond.code ⟨"InTheGarden$Seeker", "nextTarget", "(LInTheGarden$Garden;LInTheGarden$Told;)I"⟩ prog_7_method_7_code 4 (some .int) ∈ g_tbl := g_in4 23 rfl rfl
theorem lcode_X5_secondsBack : Cond.code ⟨"InTheGarden$Seeker", "secondsBack", "(ILInTheGarden$Garden;)I"⟩ prog_7_method_8_code 3 (some .int) ∈ g_tbl := g_in4 35 rfl rfl
theorem lcode_X6_leastWay : Cond.code ⟨"InTheGarden$Sight", "leastWay", "(LInTheGarden$Garden;)I"⟩ prog_8_method_2_code 8 (some .int) ∈ g_tbl := g_in4 94 rfl rfl
theorem lcode_X6_fewestPlaces : Cond.code ⟨"InTheGarden$Sight", "fewestPlaces", "(LInTheGarden$Garden;)I"⟩ prog_8_method_3_code 5 (some .int) ∈ g_tbl := g_in4 120 rfl rfl
theorem lcode_X6_goFurther : Cond.code ⟨"InTheGarden$Sight", "goFurther", "(LInTheGarden$Garden;III)V"⟩ prog_8_method_4_code 8 none ∈ g_tbl := g_in4 112 rfl rfl
theorem lcode_X6_slotOf : Cond.code ⟨"InTheGarden$Sight", "slotOf", "(II)I"⟩ prog_8_method_5_code 2 (some .int) ∈ g_tbl := g_in4 108 rfl rfl
theorem lcode_X6_placesToCome : Cond.code ⟨"InTheGarden$Sight", "placesToCome", "(LInTheGarden$Garden;)I"⟩ prog_8_method_6_code 3 (some .int) ∈ g_tbl := g_in4 97 rfl rfl
theorem lcode_X6_seenFrom : Cond.code ⟨"InTheGarden$Sight", "seenFrom", "(LInTheGarden$Garden;I)I"⟩ prog_8_method_7_code 4 (some .int) ∈ g_tbl := g_in4 101 rfl rfl
theorem lcode_X7_copyFrom : Cond.code ⟨"InTheGarden$Told", "copyFrom", "(LInTheGarden$Told;)V"⟩ prog_9_method_2_code 2 none ∈ g_tbl := g_in4 202 rfl rfl
theorem lcode_X7_takeDigits : Cond.code ⟨"InTheGarden$Told", "takeDigits", "(IJ)V"⟩ prog_9_method_3_code 7 none ∈ g_tbl := g_in3 136 rfl rfl
theorem lcode_X7_takeRow : Cond.code ⟨"InTheGarden$Told", "takeRow", "([II)V"⟩ prog_9_method_4_code 3 none ∈ g_tbl := g_in4 207 rfl rfl
theorem lcode_X8_copyFrom : Cond.code ⟨"InTheGarden$World", "copyFrom", "(LInTheGarden$World;)V"⟩ prog_10_method_2_code 2 none ∈ g_tbl := g_in4 234 rfl rfl
theorem lcode_X9_feed : Cond.code ⟨"InTheGarden", "feed", "(IJ)I"⟩ prog_1_method_2_code 4 (some .int) ∈ g_tbl := g_in2 120 rfl rfl
theorem lcode_X9_garden : Cond.code ⟨"InTheGarden", "garden", "()I"⟩ prog_1_method_3_code 2 (some .int) ∈ g_tbl := g_in2 133 rfl rfl
theorem lcode_X9_place : Cond.code ⟨"InTheGarden", "place", "(II)I"⟩ prog_1_method_4_code 4 (some .int) ∈ g_tbl := g_in3 89 rfl rfl
theorem lcode_X9_sees : Cond.code ⟨"InTheGarden", "sees", "(II)I"⟩ prog_1_method_5_code 4 (some .int) ∈ g_tbl := g_in3 94 rfl rfl
theorem lcode_X9_far : Cond.code ⟨"InTheGarden", "far", "(II)I"⟩ prog_1_method_6_code 4 (some .int) ∈ g_tbl := g_in3 99 rfl rfl
theorem lcode_X9_hider : Cond.code ⟨"InTheGarden", "hider", "(II)I"⟩ prog_1_method_7_code 4 (some .int) ∈ g_tbl := g_in3 107 rfl rfl
theorem lcode_X9_times : Cond.code ⟨"InTheGarden", "times", "(II)I"⟩ prog_1_method_8_code 5 (some .int) ∈ g_tbl := g_in3 115 rfl rfl
theorem lcode_X9_set : Cond.code ⟨"InTheGarden", "set", "(II)I"⟩ prog_1_method_9_code 4 (some .int) ∈ g_tbl := g_in3 123 rfl rfl
theorem lcode_X9_order : Cond.code ⟨"InTheGarden", "order", "(IJ)I"⟩ prog_1_method_10_code 7 (some .int) ∈ g_tbl := g_in3 131 rfl rfl
theorem lcode_X9_cover : Cond.code ⟨"InTheGarden", "cover", "(III)I"⟩ prog_1_method_11_code 4 (some .int) ∈ g_tbl := g_in3 142 rfl rfl
theorem lcode_X9_run : Cond.code ⟨"InTheGarden", "run", "(II)I"⟩ prog_1_method_12_code 3 (some .int) ∈ g_tbl := g_in3 151 rfl rfl
theorem lcode_X9_round : Cond.code ⟨"InTheGarden", "round", "(I)I"⟩ prog_1_method_13_code 2 (some .int) ∈ g_tbl := g_in3 159 rfl rfl
theorem lcode_X9_mind : Cond.code ⟨"InTheGarden", "mind", "(II)I"⟩ prog_1_method_14_code 3 (some .int) ∈ g_tbl := g_in4 65 rfl rfl
theorem lcode_X9_of : Cond.code ⟨"InTheGarden", "of", "(II)I"⟩ prog_1_method_15_code 3 (some .int) ∈ g_tbl := g_in4 69 rfl rfl
theorem lcode_X9_found : Cond.code ⟨"InTheGarden", "found", "(I)I"⟩ prog_1_method_16_code 2 (some .int) ∈ g_tbl := g_in4 73 rfl rfl
theorem lcode_X9_table : Cond.code ⟨"InTheGarden", "table", "(II)I"⟩ prog_1_method_17_code 8 (some .int) ∈ g_tbl := g_in4 77 rfl rfl
theorem lcode_X9_mayGo : Cond.code ⟨"InTheGarden", "mayGo", "()I"⟩ prog_1_method_18_code 4 (some .int) ∈ g_tbl := g_in4 82 rfl rfl
theorem lcode_X9_allSeen : Cond.code ⟨"InTheGarden", "allSeen", "()I"⟩ prog_1_method_19_code 1 (some .int) ∈ g_tbl := g_in4 90 rfl rfl
theorem lcode_X9_fewest : Cond.code ⟨"InTheGarden", "fewest", "()I"⟩ prog_1_method_20_code 1 (some .int) ∈ g_tbl := g_in4 116 rfl rfl
theorem lcode_X9_game : Cond.code ⟨"InTheGarden", "game", "(IIII)I"⟩ prog_1_method_21_code 7 (some .int) ∈ g_tbl := g_in4 125 rfl rfl
theorem lcode_X9_taken : Cond.code ⟨"InTheGarden", "taken", "(III)I"⟩ prog_1_method_22_code 5 (some .int) ∈ g_tbl := g_in4 185 rfl rfl
theorem lcode_X9_summer : Cond.code ⟨"InTheGarden", "summer", "(II)I"⟩ prog_1_method_23_code 7 (some .int) ∈ g_tbl := g_in4 189 rfl rfl
theorem lcode_X9_odds : Cond.code ⟨"InTheGarden", "odds", "(III)I"⟩ prog_1_method_24_code 9 (some .int) ∈ g_tbl := g_in4 194 rfl rfl
theorem lcode_X9_bestOrder : Cond.code ⟨"InTheGarden", "bestOrder", "(IIII)I"⟩ prog_1_method_25_code 9 (some .int) ∈ g_tbl := g_in4 198 rfl rfl
theorem lcode_X9_bestRule : Cond.code ⟨"InTheGarden", "bestRule", "(II)I"⟩ prog_1_method_26_code 7 (some .int) ∈ g_tbl := g_in4 217 rfl rfl
theorem lcode_X9_row : Cond.code ⟨"InTheGarden", "row", "(I)I"⟩ prog_1_method_27_code 2 (some .int) ∈ g_tbl := g_in4 222 rfl rfl
theorem lcode_X9_judge : Cond.code ⟨"InTheGarden", "judge", "()I"⟩ prog_1_method_28_code 4 (some .int) ∈ g_tbl := g_in4 226 rfl rfl
theorem lcode_X9_image : Cond.code ⟨"InTheGarden", "image", "()I"⟩ prog_1_method_29_code 1 (some .int) ∈ g_tbl := g_in4 230 rfl rfl
theorem lcode_X9_on : Cond.code ⟨"InTheGarden", "on", "()I"⟩ prog_1_method_30_code 1 (some .int) ∈ g_tbl := g_in5 4 rfl rfl
theorem lcode_X9_count : Cond.code ⟨"InTheGarden", "count", "(I)I"⟩ prog_1_method_31_code 2 (some .int) ∈ g_tbl := g_in5 8 rfl rfl
theorem lcode_X9_refuse : Cond.code ⟨"InTheGarden", "refuse", "(I)I"⟩ prog_1_method_32_code 2 (some .int) ∈ g_tbl := g_in2 124 rfl rfl
theorem lcode_X9_refusalOfGame : Cond.code ⟨"InTheGarden", "refusalOfGame", "(III)I"⟩ prog_1_method_33_code 4 (some .int) ∈ g_tbl := g_in4 129 rfl rfl
theorem lcode_X9_nobodyRuns : Cond.code ⟨"InTheGarden", "nobodyRuns", "(II)Z"⟩ prog_1_method_34_code 7 (some .boolean) ∈ g_tbl := g_in4 86 rfl rfl
theorem lcode_X9_findsOfTrial : Cond.code ⟨"InTheGarden", "findsOfTrial", "(II)I"⟩ prog_1_method_35_code 5 (some .int) ∈ g_tbl := g_in4 211 rfl rfl
theorem lcode_X9_hasBit : Cond.code ⟨"InTheGarden", "hasBit", "(II)Z"⟩ prog_1_method_36_code 2 (some .boolean) ∈ g_tbl := g_in3 79 rfl rfl
theorem lcode_X9_inLeastTerms : Cond.code ⟨"InTheGarden", "inLeastTerms", "(III)I"⟩ prog_1_method_37_code 4 (some .int) ∈ g_tbl := g_in4 178 rfl rfl
theorem lcode_X9_greatestCommon : Cond.code ⟨"InTheGarden", "greatestCommon", "(II)I"⟩ prog_1_method_38_code 6 (some .int) ∈ g_tbl := g_in4 181 rfl rfl
theorem lcode_X10_refuse : Cond.code ⟨"InTheGardenModel", "refuse", "(I)I"⟩ prog_12_method_2_code 2 (some .int) ∈ g_tbl := g_in5 142 rfl rfl
theorem lcode_X10_isIn : Cond.code ⟨"InTheGardenModel", "isIn", "(II)Z"⟩ prog_12_method_3_code 2 (some .boolean) ∈ g_tbl := g_in5 192 rfl rfl
theorem lcode_X10_within : Cond.code ⟨"InTheGardenModel", "within", "(III)I"⟩ prog_12_method_4_code 3 (some .int) ∈ g_tbl := g_in6 0 rfl rfl
theorem lcode_X10_isPlace : Cond.code ⟨"InTheGardenModel", "isPlace", "(I)Z"⟩ prog_12_method_5_code 2 (some .boolean) ∈ g_tbl := g_in5 189 rfl rfl
theorem lcode_X10_isRoom : Cond.code ⟨"InTheGardenModel", "isRoom", "(I)Z"⟩ prog_12_method_6_code 2 (some .boolean) ∈ g_tbl := g_in5 237 rfl rfl
theorem lcode_X10_isHider : Cond.code ⟨"InTheGardenModel", "isHider", "(I)Z"⟩ prog_12_method_7_code 2 (some .boolean) ∈ g_tbl := g_in5 229 rfl rfl
theorem lcode_X10_get : Cond.code ⟨"InTheGardenModel", "get", "(II)I"⟩ prog_12_method_8_code 3 (some .int) ∈ g_tbl := g_in5 196 rfl rfl
theorem lcode_X10_setOf : Cond.code ⟨"InTheGardenModel", "setOf", "(I)I"⟩ prog_12_method_9_code 2 (some .int) ∈ g_tbl := g_in6 34 rfl rfl
theorem lcode_X10_feed : Cond.code ⟨"InTheGardenModel", "feed", "(IJ)I"⟩ prog_12_method_10_code 5 (some .int) ∈ g_tbl := g_in5 138 rfl rfl
theorem lcode_X10_sign : Cond.code ⟨"InTheGardenModel", "sign", "()I"⟩ prog_12_method_11_code 1 (some .int) ∈ g_tbl := g_in5 159 rfl rfl
theorem lcode_X10_isDigit : Cond.code ⟨"InTheGardenModel", "isDigit", "()Z"⟩ prog_12_method_12_code 1 (some .boolean) ∈ g_tbl := g_in5 170 rfl rfl
theorem lcode_X10_takes : Cond.code ⟨"InTheGardenModel", "takes", "(I)Z"⟩ prog_12_method_13_code 2 (some .boolean) ∈ g_tbl := g_in5 174 rfl rfl
theorem lcode_X10_readsNumber : Cond.code ⟨"InTheGardenModel", "readsNumber", "(III)Z"⟩ prog_12_method_14_code 5 (some .boolean) ∈ g_tbl := g_in5 166 rfl rfl
theorem lcode_X10_kindOf : Cond.code ⟨"InTheGardenModel", "kindOf", "(I)I"⟩ prog_12_method_15_code 1 (some .int) ∈ g_tbl := g_in5 162 rfl rfl
theorem lcode_X10_readsStatement : Cond.code ⟨"InTheGardenModel", "readsStatement", "()Z"⟩ prog_12_method_16_code 2 (some .boolean) ∈ g_tbl := g_in5 155 rfl rfl
theorem lcode_X10_isWay : Cond.code ⟨"InTheGardenModel", "isWay", "([III)Z"⟩ prog_12_method_17_code 6 (some .boolean) ∈ g_tbl := g_in5 181 rfl rfl
theorem lcode_X10_comes : Cond.code ⟨"InTheGardenModel", "comes", "(I)Z"⟩ prog_12_method_18_code 7 (some .boolean) ∈ g_tbl := g_in5 178 rfl rfl
theorem lcode_X10_reads : Cond.code ⟨"InTheGardenModel", "reads", "()I"⟩ prog_12_method_19_code 5 (some .int) ∈ g_tbl := g_in5 151 rfl rfl
theorem lcode_X10_garden : Cond.code ⟨"InTheGardenModel", "garden", "()I"⟩ prog_12_method_20_code 2 (some .int) ∈ g_tbl := g_in5 147 rfl rfl
theorem lcode_X10_findFar : Cond.code ⟨"InTheGardenModel", "findFar", "()V"⟩ prog_12_method_21_code 5 none ∈ g_tbl := g_in5 212 rfl rfl
theorem lcode_X10_farOf : Cond.code ⟨"InTheGardenModel", "farOf", "(II)I"⟩ prog_12_method_22_code 3 (some .int) ∈ g_tbl := g_in5 221 rfl rfl
theorem lcode_X10_isFar : Cond.code ⟨"InTheGardenModel", "isFar", "(II)Z"⟩ prog_12_method_23_code 3 (some .boolean) ∈ g_tbl := g_in5 217 rfl rfl
theorem lcode_X10_place : Cond.code ⟨"InTheGardenModel", "place", "(II)I"⟩ prog_12_method_24_code 3 (some .int) ∈ g_tbl := g_in5 185 rfl rfl
theorem lcode_X10_seesOne : Cond.code ⟨"InTheGardenModel", "seesOne", "(II)Z"⟩ prog_12_method_25_code 3 (some .boolean) ∈ g_tbl := g_in5 204 rfl rfl
theorem lcode_X10_sees : Cond.code ⟨"InTheGardenModel", "sees", "(II)I"⟩ prog_12_method_26_code 3 (some .int) ∈ g_tbl := g_in5 200 rfl rfl
theorem lcode_X10_far : Cond.code ⟨"InTheGardenModel", "far", "(II)I"⟩ prog_12_method_27_code 3 (some .int) ∈ g_tbl := g_in5 208 rfl rfl
theorem lcode_X10_ageOf : Cond.code ⟨"InTheGardenModel", "ageOf", "(I)I"⟩ prog_12_method_28_code 2 (some .int) ∈ g_tbl := g_in6 93 rfl rfl
theorem lcode_X10_paceOf : Cond.code ⟨"InTheGardenModel", "paceOf", "(I)I"⟩ prog_12_method_29_code 2 (some .int) ∈ g_tbl := g_in6 50 rfl rfl
theorem lcode_X10_hider : Cond.code ⟨"InTheGardenModel", "hider", "(II)I"⟩ prog_12_method_30_code 3 (some .int) ∈ g_tbl := g_in5 225 rfl rfl
theorem lcode_X10_becomes : Cond.code ⟨"InTheGardenModel", "becomes", "(II)I"⟩ prog_12_method_31_code 4 (some .int) ∈ g_tbl := g_in6 4 rfl rfl
theorem lcode_X10_times : Cond.code ⟨"InTheGardenModel", "times", "(II)I"⟩ prog_12_method_32_code 4 (some .int) ∈ g_tbl := g_in5 233 rfl rfl
theorem lcode_X10_least : Cond.code ⟨"InTheGardenModel", "least", "(I)I"⟩ prog_12_method_33_code 1 (some .int) ∈ g_tbl := g_in6 11 rfl rfl
theorem lcode_X10_most : Cond.code ⟨"InTheGardenModel", "most", "(I)I"⟩ prog_12_method_34_code 1 (some .int) ∈ g_tbl := g_in6 14 rfl rfl
theorem lcode_X10_set : Cond.code ⟨"InTheGardenModel", "set", "(II)I"⟩ prog_12_method_35_code 4 (some .int) ∈ g_tbl := g_in6 8 rfl rfl
theorem lcode_X10_order : Cond.code ⟨"InTheGardenModel", "order", "(IJ)I"⟩ prog_12_method_36_code 9 (some .int) ∈ g_tbl := g_in6 18 rfl rfl
theorem lcode_X10_held : Cond.code ⟨"InTheGardenModel", "held", "(I)I"⟩ prog_12_method_37_code 1 (some .int) ∈ g_tbl := g_in6 30 rfl rfl
theorem lcode_X10_coverOf : Cond.code ⟨"InTheGardenModel", "coverOf", "(IIII)I"⟩ prog_12_method_38_code 6 (some .int) ∈ g_tbl := g_in6 27 rfl rfl
theorem lcode_X10_cover : Cond.code ⟨"InTheGardenModel", "cover", "(III)I"⟩ prog_12_method_39_code 5 (some .int) ∈ g_tbl := g_in6 23 rfl rfl
theorem lcode_X10_paced : Cond.code ⟨"InTheGardenModel", "paced", "(II)I"⟩ prog_12_method_40_code 3 (some .int) ∈ g_tbl := g_in6 46 rfl rfl
theorem lcode_X10_runOf : Cond.code ⟨"InTheGardenModel", "runOf", "(II)I"⟩ prog_12_method_41_code 4 (some .int) ∈ g_tbl := g_in6 42 rfl rfl
theorem lcode_X10_run : Cond.code ⟨"InTheGardenModel", "run", "(II)I"⟩ prog_12_method_42_code 3 (some .int) ∈ g_tbl := g_in6 38 rfl rfl
theorem lcode_X10_draw : Cond.code ⟨"InTheGardenModel", "draw", "(I)I"⟩ prog_12_method_43_code 2 (some .int) ∈ g_tbl := g_in6 74 rfl rfl
theorem lcode_X10_hidingIn : Cond.code ⟨"InTheGardenModel", "hidingIn", "(I)I"⟩ prog_12_method_44_code 4 (some .int) ∈ g_tbl := g_in6 70 rfl rfl
theorem lcode_X10_may : Cond.code ⟨"InTheGardenModel", "may", "(II)Z"⟩ prog_12_method_45_code 3 (some .boolean) ∈ g_tbl := g_in6 66 rfl rfl
theorem lcode_X10_chosen : Cond.code ⟨"InTheGardenModel", "chosen", "(I)I"⟩ prog_12_method_46_code 6 (some .int) ∈ g_tbl := g_in6 62 rfl rfl
theorem lcode_X10_catches : Cond.code ⟨"InTheGardenModel", "catches", "(II)V"⟩ prog_12_method_47_code 3 none ∈ g_tbl := g_in6 81 rfl rfl
theorem lcode_X10_nextTo : Cond.code ⟨"InTheGardenModel", "nextTo", "(II)I"⟩ prog_12_method_48_code 4 (some .int) ∈ g_tbl := g_in6 113 rfl rfl
theorem lcode_X10_goalNow : Cond.code ⟨"InTheGardenModel", "goalNow", "()I"⟩ prog_12_method_49_code 1 (some .int) ∈ g_tbl := g_in6 109 rfl rfl
theorem lcode_X10_goesOn : Cond.code ⟨"InTheGardenModel", "goesOn", "(I)V"⟩ prog_12_method_50_code 3 none ∈ g_tbl := g_in6 105 rfl rfl
theorem lcode_X10_looks : Cond.code ⟨"InTheGardenModel", "looks", "(I)V"⟩ prog_12_method_51_code 5 none ∈ g_tbl := g_in6 89 rfl rfl
theorem lcode_X10_back : Cond.code ⟨"InTheGardenModel", "back", "(I)I"⟩ prog_12_method_52_code 2 (some .int) ∈ g_tbl := g_in6 117 rfl rfl
theorem lcode_X10_isOut : Cond.code ⟨"InTheGardenModel", "isOut", "()Z"⟩ prog_12_method_53_code 3 (some .boolean) ∈ g_tbl := g_in6 97 rfl rfl
theorem lcode_X10_second : Cond.code ⟨"InTheGardenModel", "second", "(I)V"⟩ prog_12_method_54_code 5 none ∈ g_tbl := g_in6 85 rfl rfl
theorem lcode_X10_frees : Cond.code ⟨"InTheGardenModel", "frees", "(I)V"⟩ prog_12_method_55_code 3 none ∈ g_tbl := g_in6 101 rfl rfl
theorem lcode_X10_plays : Cond.code ⟨"InTheGardenModel", "plays", "(I)V"⟩ prog_12_method_56_code 4 none ∈ g_tbl := g_in6 58 rfl rfl
theorem lcode_X10_howMany : Cond.code ⟨"InTheGardenModel", "howMany", "(I)I"⟩ prog_12_method_57_code 4 (some .int) ∈ g_tbl := g_in6 121 rfl rfl
theorem lcode_X10_round : Cond.code ⟨"InTheGardenModel", "round", "(I)I"⟩ prog_12_method_58_code 4 (some .int) ∈ g_tbl := g_in6 54 rfl rfl
theorem lcode_X10_mind : Cond.code ⟨"InTheGardenModel", "mind", "(II)I"⟩ prog_12_method_59_code 3 (some .int) ∈ g_tbl := g_in6 125 rfl rfl
theorem lcode_X10_of : Cond.code ⟨"InTheGardenModel", "of", "(II)I"⟩ prog_12_method_60_code 3 (some .int) ∈ g_tbl := g_in6 129 rfl rfl
theorem lcode_X10_found : Cond.code ⟨"InTheGardenModel", "found", "(I)I"⟩ prog_12_method_61_code 2 (some .int) ∈ g_tbl := g_in6 133 rfl rfl
theorem lcode_X10_tableOf : Cond.code ⟨"InTheGardenModel", "tableOf", "(II)I"⟩ prog_12_method_62_code 5 (some .int) ∈ g_tbl := g_in6 141 rfl rfl
theorem lcode_X10_table : Cond.code ⟨"InTheGardenModel", "table", "(II)I"⟩ prog_12_method_63_code 3 (some .int) ∈ g_tbl := g_in6 137 rfl rfl
theorem lcode_X10_mayGoTo : Cond.code ⟨"InTheGardenModel", "mayGoTo", "(I)Z"⟩ prog_12_method_64_code 4 (some .boolean) ∈ g_tbl := g_in6 149 rfl rfl
theorem lcode_X10_mayGo : Cond.code ⟨"InTheGardenModel", "mayGo", "()I"⟩ prog_12_method_65_code 3 (some .int) ∈ g_tbl := g_in6 145 rfl rfl
theorem lcode_X10_bits : Cond.code ⟨"InTheGardenModel", "bits", "(I)I"⟩ prog_12_method_66_code 3 (some .int) ∈ g_tbl := g_in6 160 rfl rfl
theorem lcode_X10_allSeen : Cond.code ⟨"InTheGardenModel", "allSeen", "()I"⟩ prog_12_method_67_code 7 (some .int) ∈ g_tbl := g_in6 153 rfl rfl
theorem lcode_X10_fewest : Cond.code ⟨"InTheGardenModel", "fewest", "()I"⟩ prog_12_method_68_code 6 (some .int) ∈ g_tbl := g_in6 157 rfl rfl
theorem lcode_X10_findOrders : Cond.code ⟨"InTheGardenModel", "findOrders", "(III)V"⟩ prog_12_method_69_code 5 none ∈ g_tbl := g_in6 184 rfl rfl
theorem lcode_X10_isGame : Cond.code ⟨"InTheGardenModel", "isGame", "(I)Z"⟩ prog_12_method_70_code 3 (some .boolean) ∈ g_tbl := g_in6 172 rfl rfl
theorem lcode_X10_findTells : Cond.code ⟨"InTheGardenModel", "findTells", "(I)V"⟩ prog_12_method_71_code 7 none ∈ g_tbl := g_in6 180 rfl rfl
theorem lcode_X10_goesGame : Cond.code ⟨"InTheGardenModel", "goesGame", "(II)V"⟩ prog_12_method_72_code 7 none ∈ g_tbl := g_in6 176 rfl rfl
theorem lcode_X10_wrongGame : Cond.code ⟨"InTheGardenModel", "wrongGame", "(II)I"⟩ prog_12_method_73_code 4 (some .int) ∈ g_tbl := g_in6 168 rfl rfl
theorem lcode_X10_common : Cond.code ⟨"InTheGardenModel", "common", "(II)I"⟩ prog_12_method_74_code 2 (some .int) ∈ g_tbl := g_in6 187 rfl rfl
theorem lcode_X10_game : Cond.code ⟨"InTheGardenModel", "game", "(IIII)I"⟩ prog_12_method_75_code 8 (some .int) ∈ g_tbl := g_in6 164 rfl rfl
theorem lcode_X10_taken : Cond.code ⟨"InTheGardenModel", "taken", "(III)I"⟩ prog_12_method_76_code 5 (some .int) ∈ g_tbl := g_in6 191 rfl rfl
theorem lcode_X10_summer : Cond.code ⟨"InTheGardenModel", "summer", "(II)I"⟩ prog_12_method_77_code 6 (some .int) ∈ g_tbl := g_in6 195 rfl rfl
theorem lcode_X10_odds : Cond.code ⟨"InTheGardenModel", "odds", "(III)I"⟩ prog_12_method_78_code 8 (some .int) ∈ g_tbl := g_in6 199 rfl rfl
theorem lcode_X10_findsBy : Cond.code ⟨"InTheGardenModel", "findsBy", "(II)I"⟩ prog_12_method_79_code 5 (some .int) ∈ g_tbl := g_in6 207 rfl rfl
theorem lcode_X10_bestOrder : Cond.code ⟨"InTheGardenModel", "bestOrder", "(IIII)I"⟩ prog_12_method_80_code 10 (some .int) ∈ g_tbl := g_in6 203 rfl rfl
theorem lcode_X10_bestRule : Cond.code ⟨"InTheGardenModel", "bestRule", "(II)I"⟩ prog_12_method_81_code 9 (some .int) ∈ g_tbl := g_in6 211 rfl rfl
theorem lcode_X10_row : Cond.code ⟨"InTheGardenModel", "row", "(I)I"⟩ prog_12_method_82_code 3 (some .int) ∈ g_tbl := g_in6 215 rfl rfl
theorem lcode_X10_judge : Cond.code ⟨"InTheGardenModel", "judge", "()I"⟩ prog_12_method_83_code 3 (some .int) ∈ g_tbl := g_in6 219 rfl rfl
theorem lcode_X10_image : Cond.code ⟨"InTheGardenModel", "image", "()I"⟩ prog_12_method_84_code 2 (some .int) ∈ g_tbl := g_in6 223 rfl rfl
theorem lcode_X10_on : Cond.code ⟨"InTheGardenModel", "on", "()I"⟩ prog_12_method_85_code 2 (some .int) ∈ g_tbl := g_in6 227 rfl rfl
theorem lcode_X10_count : Cond.code ⟨"InTheGardenModel", "count", "(I)I"⟩ prog_12_method_86_code 4 (some .int) ∈ g_tbl := g_in6 231 rfl rfl
theorem lcode_J6_bitCount : Cond.code ⟨"java/lang/Integer", "bitCount", "(I)I"⟩ prog_14_method_49_code 1 (some .int) ∈ g_tbl := g_in3 195 rfl rfl
theorem lcode_J7_fill : Cond.code ⟨"java/util/Arrays", "fill", "([II)V"⟩ prog_20_method_103_code 4 none ∈ g_tbl := g_in4 105 rfl rfl
theorem lcode_J0_length : Cond.code ⟨"java/lang/String", "length", "()I"⟩ prog_16_method_54_code 1 (some .int) ∈ g_tbl := g_in2 170 rfl rfl
theorem lcode_J0_isEmpty : Cond.code ⟨"java/lang/String", "isEmpty", "()Z"⟩ prog_16_method_55_code 1 (some .boolean) ∈ g_tbl := g_in2 166 rfl rfl
theorem lcode_J0_charAt : Cond.code ⟨"java/lang/String", "charAt", "(I)C"⟩ prog_16_method_56_code 2 (some .char) ∈ g_tbl := g_in2 180 rfl rfl
theorem lcode_J0_indexOf : Cond.code ⟨"java/lang/String", "indexOf", "(I)I"⟩ prog_16_method_79_code 2 (some .int) ∈ g_tbl := g_in2 231 rfl rfl
theorem lcode_J0_indexOf2 : Cond.code ⟨"java/lang/String", "indexOf", "(II)I"⟩ prog_16_method_80_code 3 (some .int) ∈ g_tbl := g_in2 235 rfl rfl
theorem lcode_J0_coder : Cond.code ⟨"java/lang/String", "coder", "()B"⟩ prog_16_method_152_code 1 (some .byte) ∈ g_tbl := g_in2 174 rfl rfl
theorem lcode_J0_isLatin1 : Cond.code ⟨"java/lang/String", "isLatin1", "()Z"⟩ prog_16_method_154_code 1 (some .boolean) ∈ g_tbl := g_in2 184 rfl rfl
theorem lcode_J0_checkIndex : Cond.code ⟨"java/lang/String", "checkIndex", "(II)V"⟩ prog_16_method_155_code 2 none ∈ g_tbl := g_in2 190 rfl rfl
theorem lcode_J1_charAt : Cond.code ⟨"java/lang/StringLatin1", "charAt", "([BI)C"⟩ prog_17_method_2_code 2 (some .char) ∈ g_tbl := g_in2 187 rfl rfl
theorem lcode_J1_canEncode : Cond.code ⟨"java/lang/StringLatin1", "canEncode", "(I)Z"⟩ prog_17_method_4_code 1 (some .boolean) ∈ g_tbl := g_in3 2 rfl rfl
theorem lcode_J1_indexOf : Cond.code ⟨"java/lang/StringLatin1", "indexOf", "([BIII)I"⟩ prog_17_method_22_code 4 (some .int) ∈ g_tbl := g_in2 239 rfl rfl
theorem lcode_J1_indexOfChar : Cond.code ⟨"java/lang/StringLatin1", "indexOfChar", "([BIII)I"⟩ prog_17_method_23_code 6 (some .int) ∈ g_tbl := g_in3 9 rfl rfl
theorem lcode_J3_checkIndex : Cond.code ⟨"jdk/internal/util/Preconditions", "checkIndex", "(IILjava/util/function/BiFunction;)I"⟩ prog_21_method_11_code 3 (some .int) ∈ g_tbl := g_in2 195 rfl rfl
theorem lw_ini_9 : Cond.initialized "InTheGarden" ∈ g_tbl := g_in1 1 rfl rfl
theorem lw_ini_0 : Cond.initialized "InTheGarden$Game" ∈ g_tbl := g_in1 11 rfl rfl
theorem lw_ini_1 : Cond.initialized "InTheGarden$Garden" ∈ g_tbl := g_in1 3 rfl rfl
theorem lw_ini_2 : Cond.initialized "InTheGarden$Orders" ∈ g_tbl := g_in1 12 rfl rfl
theorem lw_ini_3 : Cond.initialized "InTheGarden$Reader" ∈ g_tbl := g_in1 9 rfl rfl
theorem lw_ini_4 : Cond.initialized "InTheGarden$Round" ∈ g_tbl := g_in1 7 rfl rfl
theorem lw_ini_5 : Cond.initialized "InTheGarden$Seeker" ∈ g_tbl := g_in1 8 rfl rfl
theorem lw_ini_6 : Cond.initialized "InTheGarden$Sight" ∈ g_tbl := g_in1 10 rfl rfl
theorem lw_ini_7 : Cond.initialized "InTheGarden$Told" ∈ g_tbl := g_in1 5 rfl rfl
theorem lw_ini_8 : Cond.initialized "InTheGarden$World" ∈ g_tbl := g_in1 2 rfl rfl
theorem lw_ini_10 : Cond.initialized "InTheGardenModel" ∈ g_tbl := g_in1 13 rfl rfl
theorem lw_ini_Integer : Cond.initialized "java/lang/Integer" ∈ g_tbl := g_in1 19 rfl rfl
theorem lw_ini_Math : Cond.initialized "java/lang/Math" ∈ g_tbl := g_in1 4 rfl rfl
theorem lw_ini_String : Cond.initialized "java/lang/String" ∈ g_tbl := g_in1 14 rfl rfl
theorem lw_ini_StringLatin1 : Cond.initialized "java/lang/StringLatin1" ∈ g_tbl := g_in1 15 rfl rfl
theorem lw_ini_System : Cond.initialized "java/lang/System" ∈ g_tbl := g_in1 6 rfl rfl
theorem lw_ini_Arrays : Cond.initialized "java/util/Arrays" ∈ g_tbl := g_in1 20 rfl rfl
theorem lw_ini_Preconditions : Cond.initialized "jdk/internal/util/Preconditions" ∈ g_tbl := g_in1 16 rfl rfl
theorem lw_native : Cond.native arraycopyName ∈ g_tbl := g_in1 133 rfl rfl
theorem lw_static_copy : Cond.static arraycopyName ∈ g_tbl := g_in1 132 rfl rfl
theorem lw_static_max : Cond.static Lib.Math.max.name ∈ g_tbl := g_in1 58 rfl rfl
theorem lw_code_max : Cond.code Lib.Math.max.name Lib.Math.max.code 2 (some .int) ∈ g_tbl := g_in1 59 rfl rfl
theorem lw_static_min : Cond.static Lib.Math.min.name ∈ g_tbl := g_in3 5 rfl rfl
theorem lw_code_min : Cond.code Lib.Math.min.name Lib.Math.min.code 2 (some .int) ∈ g_tbl := g_in3 6 rfl rfl
theorem cw_X0_play : g_cw g_mi 0 4 := ⟨lcode_X0_play, lw_ini_0, ⟨by decide +kernel, by decide +kernel, by decide +kernel⟩, by decide +kernel⟩
theorem cw_X0_leastOverOrders : g_cw g_mi 1 0 := ⟨lcode_X0_leastOverOrders, lw_ini_0, ⟨by decide +kernel, by decide +kernel, by decide +kernel⟩, by decide +kernel⟩
theorem cw_X0_greatestOverPlaces : g_cw g_mi 2 0 := ⟨lcode_X0_greatestOverPlaces, lw_ini_0, ⟨by decide +kernel, by decide +kernel, by decide +kernel⟩, by decide +kernel⟩
theorem cw_X0_tellAll : g_cw g_mi 3 2 := ⟨lcode_X0_tellAll, lw_ini_0, ⟨by decide +kernel, by decide +kernel, by decide +kernel⟩, by decide +kernel⟩
theorem cw_X0_addTells : g_cw g_mi 4 2 := ⟨lcode_X0_addTells, lw_ini_0, ⟨by decide +kernel, by decide +kernel, by decide +kernel⟩, by decide +kernel⟩
theorem cw_X0_indexOfGreatest : g_cw g_mi 5 2 := ⟨lcode_X0_indexOfGreatest, lw_ini_0, ⟨by decide +kernel, by decide +kernel, by decide +kernel⟩, by decide +kernel⟩
theorem cw_X0_indexOfLeast : g_cw g_mi 6 2 := ⟨lcode_X0_indexOfLeast, lw_ini_0, ⟨by decide +kernel, by decide +kernel, by decide +kernel⟩, by decide +kernel⟩
theorem cw_X1_copyFrom : g_cw g_mi 7 1 := ⟨lcode_X1_copyFrom, lw_ini_1, ⟨by decide +kernel, by decide +kernel, by decide +kernel⟩, by decide +kernel⟩
theorem cw_X1_isPlace : g_cw g_mi 8 1 := ⟨lcode_X1_isPlace, lw_ini_1, ⟨by decide +kernel, by decide +kernel, by decide +kernel⟩, by decide +kernel⟩
theorem cw_X1_isHidingPlace : g_cw g_mi 9 1 := ⟨lcode_X1_isHidingPlace, lw_ini_1, ⟨by decide +kernel, by decide +kernel, by decide +kernel⟩, by decide +kernel⟩
theorem cw_X1_isHider : g_cw g_mi 10 1 := ⟨lcode_X1_isHider, lw_ini_1, ⟨by decide +kernel, by decide +kernel, by decide +kernel⟩, by decide +kernel⟩
theorem cw_X1_addPlace : g_cw g_mi 11 3 := ⟨lcode_X1_addPlace, lw_ini_1, ⟨by decide +kernel, by decide +kernel, by decide +kernel⟩, by decide +kernel⟩
theorem cw_X1_addWay : g_cw g_mi 12 3 := ⟨lcode_X1_addWay, lw_ini_1, ⟨by decide +kernel, by decide +kernel, by decide +kernel⟩, by decide +kernel⟩
theorem cw_X1_addView : g_cw g_mi 13 2 := ⟨lcode_X1_addView, lw_ini_1, ⟨by decide +kernel, by decide +kernel, by decide +kernel⟩, by decide +kernel⟩
theorem cw_X1_addHider : g_cw g_mi 14 2 := ⟨lcode_X1_addHider, lw_ini_1, ⟨by decide +kernel, by decide +kernel, by decide +kernel⟩, by decide +kernel⟩
theorem cw_X1_measure : g_cw g_mi 15 0 := ⟨lcode_X1_measure, lw_ini_1, ⟨by decide +kernel, by decide +kernel, by decide +kernel⟩, by decide +kernel⟩
theorem cw_X1_measureWays : g_cw g_mi 16 0 := ⟨lcode_X1_measureWays, lw_ini_1, ⟨by decide +kernel, by decide +kernel, by decide +kernel⟩, by decide +kernel⟩
theorem cw_X1_shortenFrom : g_cw g_mi 17 2 := ⟨lcode_X1_shortenFrom, lw_ini_1, ⟨by decide +kernel, by decide +kernel, by decide +kernel⟩, by decide +kernel⟩
theorem cw_X1_measureRuns : g_cw g_mi 18 1 := ⟨lcode_X1_measureRuns, lw_ini_1, ⟨by decide +kernel, by decide +kernel, by decide +kernel⟩, by decide +kernel⟩
theorem cw_X1_wayBetween : g_cw g_mi 19 2 := ⟨lcode_X1_wayBetween, lw_ini_1, ⟨by decide +kernel, by decide +kernel, by decide +kernel⟩, by decide +kernel⟩
theorem cw_X1_distance : g_cw g_mi 20 2 := ⟨lcode_X1_distance, lw_ini_1, ⟨by decide +kernel, by decide +kernel, by decide +kernel⟩, by decide +kernel⟩
theorem cw_X1_canComeToFirst : g_cw g_mi 21 1 := ⟨lcode_X1_canComeToFirst, lw_ini_1, ⟨by decide +kernel, by decide +kernel, by decide +kernel⟩, by decide +kernel⟩
theorem cw_X1_nextOn : g_cw g_mi 22 2 := ⟨lcode_X1_nextOn, lw_ini_1, ⟨by decide +kernel, by decide +kernel, by decide +kernel⟩, by decide +kernel⟩
theorem cw_X1_coverAt : g_cw g_mi 23 5 := ⟨lcode_X1_coverAt, lw_ini_1, ⟨by decide +kernel, by decide +kernel, by decide +kernel⟩, by decide +kernel⟩
theorem cw_X1_secondsToWalk : g_cw g_mi 24 2 := ⟨lcode_X1_secondsToWalk, lw_ini_1, ⟨by decide +kernel, by decide +kernel, by decide +kernel⟩, by decide +kernel⟩
theorem cw_X1_secondsToRun : g_cw g_mi 25 2 := ⟨lcode_X1_secondsToRun, lw_ini_1, ⟨by decide +kernel, by decide +kernel, by decide +kernel⟩, by decide +kernel⟩
theorem cw_X1_wouldRun : g_cw g_mi 26 4 := ⟨lcode_X1_wouldRun, lw_ini_1, ⟨by decide +kernel, by decide +kernel, by decide +kernel⟩, by decide +kernel⟩
theorem cw_X1_allTimes : g_cw g_mi 27 0 := ⟨lcode_X1_allTimes, lw_ini_1, ⟨by decide +kernel, by decide +kernel, by decide +kernel⟩, by decide +kernel⟩
theorem cw_X2_begin : g_cw g_mi 28 1 := ⟨lcode_X2_begin, lw_ini_2, ⟨by decide +kernel, by decide +kernel, by decide +kernel⟩, by decide +kernel⟩
theorem cw_X2_advance : g_cw g_mi 29 0 := ⟨lcode_X2_advance, lw_ini_2, ⟨by decide +kernel, by decide +kernel, by decide +kernel⟩, by decide +kernel⟩
theorem cw_X2_swap : g_cw g_mi 30 2 := ⟨lcode_X2_swap, lw_ini_2, ⟨by decide +kernel, by decide +kernel, by decide +kernel⟩, by decide +kernel⟩
theorem cw_X3_append : g_cw g_mi 31 2 := ⟨lcode_X3_append, lw_ini_3, ⟨by decide +kernel, by decide +kernel, by decide +kernel⟩, by decide +kernel⟩
theorem cw_X3_readInto : g_cw g_mi 32 1 := ⟨lcode_X3_readInto, lw_ini_3, ⟨by decide +kernel, by decide +kernel, by decide +kernel⟩, by decide +kernel⟩
theorem cw_X3_countStatements : g_cw g_mi 33 0 := ⟨lcode_X3_countStatements, lw_ini_3, ⟨by decide +kernel, by decide +kernel, by decide +kernel⟩, by decide +kernel⟩
theorem cw_X3_sign : g_cw g_mi 34 0 := ⟨lcode_X3_sign, lw_ini_3, ⟨by decide +kernel, by decide +kernel, by decide +kernel⟩, by decide +kernel⟩
theorem cw_X3_readStatement : g_cw g_mi 35 0 := ⟨lcode_X3_readStatement, lw_ini_3, ⟨by decide +kernel, by decide +kernel, by decide +kernel⟩, by decide +kernel⟩
theorem cw_X3_formOf : g_cw g_mi 36 1 := ⟨lcode_X3_formOf, lw_ini_3, ⟨by decide +kernel, by decide +kernel, by decide +kernel⟩, by decide +kernel⟩
theorem cw_X3_readMark : g_cw g_mi 37 1 := ⟨lcode_X3_readMark, lw_ini_3, ⟨by decide +kernel, by decide +kernel, by decide +kernel⟩, by decide +kernel⟩
theorem cw_X3_readValue : g_cw g_mi 38 2 := ⟨lcode_X3_readValue, lw_ini_3, ⟨by decide +kernel, by decide +kernel, by decide +kernel⟩, by decide +kernel⟩
theorem cw_X3_readKind : g_cw g_mi 39 1 := ⟨lcode_X3_readKind, lw_ini_3, ⟨by decide +kernel, by decide +kernel, by decide +kernel⟩, by decide +kernel⟩
theorem cw_X3_readNumber : g_cw g_mi 40 3 := ⟨lcode_X3_readNumber, lw_ini_3, ⟨by decide +kernel, by decide +kernel, by decide +kernel⟩, by decide +kernel⟩
theorem cw_X3_keep : g_cw g_mi 41 2 := ⟨lcode_X3_keep, lw_ini_3, ⟨by decide +kernel, by decide +kernel, by decide +kernel⟩, by decide +kernel⟩
theorem cw_X3_tell : g_cw g_mi 42 2 := ⟨lcode_X3_tell, lw_ini_3, ⟨by decide +kernel, by decide +kernel, by decide +kernel⟩, by decide +kernel⟩
theorem cw_X4_copyFrom : g_cw g_mi 43 1 := ⟨lcode_X4_copyFrom, lw_ini_4, ⟨by decide +kernel, by decide +kernel, by decide +kernel⟩, by decide +kernel⟩
theorem cw_X4_play : g_cw g_mi 44 4 := ⟨lcode_X4_play, lw_ini_4, ⟨by decide +kernel, by decide +kernel, by decide +kernel⟩, by decide +kernel⟩
theorem cw_X4_howMany : g_cw g_mi 45 1 := ⟨lcode_X4_howMany, lw_ini_4, ⟨by decide +kernel, by decide +kernel, by decide +kernel⟩, by decide +kernel⟩
theorem cw_X4_growTimes : g_cw g_mi 46 1 := ⟨lcode_X4_growTimes, lw_ini_4, ⟨by decide +kernel, by decide +kernel, by decide +kernel⟩, by decide +kernel⟩
theorem cw_X4_begin : g_cw g_mi 47 2 := ⟨lcode_X4_begin, lw_ini_4, ⟨by decide +kernel, by decide +kernel, by decide +kernel⟩, by decide +kernel⟩
theorem cw_X4_drawBelow : g_cw g_mi 48 1 := ⟨lcode_X4_drawBelow, lw_ini_4, ⟨by decide +kernel, by decide +kernel, by decide +kernel⟩, by decide +kernel⟩
theorem cw_X4_hideAll : g_cw g_mi 49 2 := ⟨lcode_X4_hideAll, lw_ini_4, ⟨by decide +kernel, by decide +kernel, by decide +kernel⟩, by decide +kernel⟩
theorem cw_X4_choose : g_cw g_mi 50 3 := ⟨lcode_X4_choose, lw_ini_4, ⟨by decide +kernel, by decide +kernel, by decide +kernel⟩, by decide +kernel⟩
theorem cw_X4_openPlaces : g_cw g_mi 51 3 := ⟨lcode_X4_openPlaces, lw_ini_4, ⟨by decide +kernel, by decide +kernel, by decide +kernel⟩, by decide +kernel⟩
theorem cw_X4_deepest : g_cw g_mi 52 2 := ⟨lcode_X4_deepest, lw_ini_4, ⟨by decide +kernel, by decide +kernel, by decide +kernel⟩, by decide +kernel⟩
theorem cw_X4_outermost : g_cw g_mi 53 2 := ⟨lcode_X4_outermost, lw_ini_4, ⟨by decide +kernel, by decide +kernel, by decide +kernel⟩, by decide +kernel⟩
theorem cw_X4_bitAt : g_cw g_mi 54 2 := ⟨lcode_X4_bitAt, lw_ini_4, ⟨by decide +kernel, by decide +kernel, by decide +kernel⟩, by decide +kernel⟩
theorem cw_X4_comeAndLook : g_cw g_mi 55 4 := ⟨lcode_X4_comeAndLook, lw_ini_4, ⟨by decide +kernel, by decide +kernel, by decide +kernel⟩, by decide +kernel⟩
theorem cw_X4_coverOf : g_cw g_mi 56 5 := ⟨lcode_X4_coverOf, lw_ini_4, ⟨by decide +kernel, by decide +kernel, by decide +kernel⟩, by decide +kernel⟩
theorem cw_X4_hidingIn : g_cw g_mi 57 1 := ⟨lcode_X4_hidingIn, lw_ini_4, ⟨by decide +kernel, by decide +kernel, by decide +kernel⟩, by decide +kernel⟩
theorem cw_X4_find : g_cw g_mi 58 2 := ⟨lcode_X4_find, lw_ini_4, ⟨by decide +kernel, by decide +kernel, by decide +kernel⟩, by decide +kernel⟩
theorem cw_X4_bringHome : g_cw g_mi 59 3 := ⟨lcode_X4_bringHome, lw_ini_4, ⟨by decide +kernel, by decide +kernel, by decide +kernel⟩, by decide +kernel⟩
theorem cw_X4_freeAll : g_cw g_mi 60 1 := ⟨lcode_X4_freeAll, lw_ini_4, ⟨by decide +kernel, by decide +kernel, by decide +kernel⟩, by decide +kernel⟩
theorem cw_X4_startRuns : g_cw g_mi 61 4 := ⟨lcode_X4_startRuns, lw_ini_4, ⟨by decide +kernel, by decide +kernel, by decide +kernel⟩, by decide +kernel⟩
theorem cw_X4_isOpen : g_cw g_mi 62 0 := ⟨lcode_X4_isOpen, lw_ini_4, ⟨by decide +kernel, by decide +kernel, by decide +kernel⟩, by decide +kernel⟩
theorem cw_X4_nextMoment : g_cw g_mi 63 2 := ⟨lcode_X4_nextMoment, lw_ini_4, ⟨by decide +kernel, by decide +kernel, by decide +kernel⟩, by decide +kernel⟩
theorem cw_X4_end : g_cw g_mi 64 1 := ⟨lcode_X4_end, lw_ini_4, ⟨by decide +kernel, by decide +kernel, by decide +kernel⟩, by decide +kernel⟩
theorem cw_X5_begin : g_cw g_mi 65 0 := ⟨lcode_X5_begin, lw_ini_5, ⟨by decide +kernel, by decide +kernel, by decide +kernel⟩, by decide +kernel⟩
theorem cw_X5_comesAt : g_cw g_mi 66 1 := ⟨lcode_X5_comesAt, lw_ini_5, ⟨by decide +kernel, by decide +kernel, by decide +kernel⟩, by decide +kernel⟩
theorem cw_X5_come : g_cw g_mi 67 2 := ⟨lcode_X5_come, lw_ini_5, ⟨by decide +kernel, by decide +kernel, by decide +kernel⟩, by decide +kernel⟩
theorem cw_X5_standsAtBase : g_cw g_mi 68 0 := ⟨lcode_X5_standsAtBase, lw_ini_5, ⟨by decide +kernel, by decide +kernel, by decide +kernel⟩, by decide +kernel⟩
theorem cw_X5_goOnAt : g_cw g_mi 69 3 := ⟨lcode_X5_goOnAt, lw_ini_5, ⟨by decide +kernel, by decide +kernel, by decide +kernel⟩, by decide +kernel⟩
theorem cw_X5_nextTarget : g_cw g_mi 70 2 := ⟨lcode_X5_nextTarget, lw_ini_5, ⟨by decide +kernel, by decide +kernel, by decide +kernel⟩, by decide +kernel⟩
theorem cw_X5_secondsBack : g_cw g_mi 71 2 := ⟨lcode_X5_secondsBack, lw_ini_5, ⟨by decide +kernel, by decide +kernel, by decide +kernel⟩, by decide +kernel⟩
theorem cw_X6_leastWay : g_cw g_mi 72 1 := ⟨lcode_X6_leastWay, lw_ini_6, ⟨by decide +kernel, by decide +kernel, by decide +kernel⟩, by decide +kernel⟩
theorem cw_X6_fewestPlaces : g_cw g_mi 73 1 := ⟨lcode_X6_fewestPlaces, lw_ini_6, ⟨by decide +kernel, by decide +kernel, by decide +kernel⟩, by decide +kernel⟩
theorem cw_X6_goFurther : g_cw g_mi 74 4 := ⟨lcode_X6_goFurther, lw_ini_6, ⟨by decide +kernel, by decide +kernel, by decide +kernel⟩, by decide +kernel⟩
theorem cw_X6_slotOf : g_cw g_mi 75 2 := ⟨lcode_X6_slotOf, lw_ini_6, ⟨by decide +kernel, by decide +kernel, by decide +kernel⟩, by decide +kernel⟩
theorem cw_X6_placesToCome : g_cw g_mi 76 1 := ⟨lcode_X6_placesToCome, lw_ini_6, ⟨by decide +kernel, by decide +kernel, by decide +kernel⟩, by decide +kernel⟩
theorem cw_X6_seenFrom : g_cw g_mi 77 2 := ⟨lcode_X6_seenFrom, lw_ini_6, ⟨by decide +kernel, by decide +kernel, by decide +kernel⟩, by decide +kernel⟩
theorem cw_X7_copyFrom : g_cw g_mi 78 1 := ⟨lcode_X7_copyFrom, lw_ini_7, ⟨by decide +kernel, by decide +kernel, by decide +kernel⟩, by decide +kernel⟩
theorem cw_X7_takeDigits : g_cw g_mi 79 2 := ⟨lcode_X7_takeDigits, lw_ini_7, ⟨by decide +kernel, by decide +kernel, by decide +kernel⟩, by decide +kernel⟩
theorem cw_X7_takeRow : g_cw g_mi 80 2 := ⟨lcode_X7_takeRow, lw_ini_7, ⟨by decide +kernel, by decide +kernel, by decide +kernel⟩, by decide +kernel⟩
theorem cw_X8_copyFrom : g_cw g_mi 81 1 := ⟨lcode_X8_copyFrom, lw_ini_8, ⟨by decide +kernel, by decide +kernel, by decide +kernel⟩, by decide +kernel⟩
theorem cw_X9_feed : g_cw g_mi 82 2 := ⟨lcode_X9_feed, lw_ini_9, ⟨by decide +kernel, by decide +kernel, by decide +kernel⟩, by decide +kernel⟩
theorem cw_X9_garden : g_cw g_mi 83 0 := ⟨lcode_X9_garden, lw_ini_9, ⟨by decide +kernel, by decide +kernel, by decide +kernel⟩, by decide +kernel⟩
theorem cw_X9_place : g_cw g_mi 84 2 := ⟨lcode_X9_place, lw_ini_9, ⟨by decide +kernel, by decide +kernel, by decide +kernel⟩, by decide +kernel⟩
theorem cw_X9_sees : g_cw g_mi 85 2 := ⟨lcode_X9_sees, lw_ini_9, ⟨by decide +kernel, by decide +kernel, by decide +kernel⟩, by decide +kernel⟩
theorem cw_X9_far : g_cw g_mi 86 2 := ⟨lcode_X9_far, lw_ini_9, ⟨by decide +kernel, by decide +kernel, by decide +kernel⟩, by decide +kernel⟩
theorem cw_X9_hider : g_cw g_mi 87 2 := ⟨lcode_X9_hider, lw_ini_9, ⟨by decide +kernel, by decide +kernel, by decide +kernel⟩, by decide +kernel⟩
theorem cw_X9_times : g_cw g_mi 88 2 := ⟨lcode_X9_times, lw_ini_9, ⟨by decide +kernel, by decide +kernel, by decide +kernel⟩, by decide +kernel⟩
theorem cw_X9_set : g_cw g_mi 89 2 := ⟨lcode_X9_set, lw_ini_9, ⟨by decide +kernel, by decide +kernel, by decide +kernel⟩, by decide +kernel⟩
theorem cw_X9_order : g_cw g_mi 90 2 := ⟨lcode_X9_order, lw_ini_9, ⟨by decide +kernel, by decide +kernel, by decide +kernel⟩, by decide +kernel⟩
theorem cw_X9_cover : g_cw g_mi 91 3 := ⟨lcode_X9_cover, lw_ini_9, ⟨by decide +kernel, by decide +kernel, by decide +kernel⟩, by decide +kernel⟩
theorem cw_X9_run : g_cw g_mi 92 2 := ⟨lcode_X9_run, lw_ini_9, ⟨by decide +kernel, by decide +kernel, by decide +kernel⟩, by decide +kernel⟩
theorem cw_X9_round : g_cw g_mi 93 1 := ⟨lcode_X9_round, lw_ini_9, ⟨by decide +kernel, by decide +kernel, by decide +kernel⟩, by decide +kernel⟩
theorem cw_X9_mind : g_cw g_mi 94 2 := ⟨lcode_X9_mind, lw_ini_9, ⟨by decide +kernel, by decide +kernel, by decide +kernel⟩, by decide +kernel⟩
theorem cw_X9_of : g_cw g_mi 95 2 := ⟨lcode_X9_of, lw_ini_9, ⟨by decide +kernel, by decide +kernel, by decide +kernel⟩, by decide +kernel⟩
theorem cw_X9_found : g_cw g_mi 96 1 := ⟨lcode_X9_found, lw_ini_9, ⟨by decide +kernel, by decide +kernel, by decide +kernel⟩, by decide +kernel⟩
theorem cw_X9_table : g_cw g_mi 97 2 := ⟨lcode_X9_table, lw_ini_9, ⟨by decide +kernel, by decide +kernel, by decide +kernel⟩, by decide +kernel⟩
theorem cw_X9_mayGo : g_cw g_mi 98 0 := ⟨lcode_X9_mayGo, lw_ini_9, ⟨by decide +kernel, by decide +kernel, by decide +kernel⟩, by decide +kernel⟩
theorem cw_X9_allSeen : g_cw g_mi 99 0 := ⟨lcode_X9_allSeen, lw_ini_9, ⟨by decide +kernel, by decide +kernel, by decide +kernel⟩, by decide +kernel⟩
theorem cw_X9_fewest : g_cw g_mi 100 0 := ⟨lcode_X9_fewest, lw_ini_9, ⟨by decide +kernel, by decide +kernel, by decide +kernel⟩, by decide +kernel⟩
theorem cw_X9_game : g_cw g_mi 101 4 := ⟨lcode_X9_game, lw_ini_9, ⟨by decide +kernel, by decide +kernel, by decide +kernel⟩, by decide +kernel⟩
theorem cw_X9_taken : g_cw g_mi 102 3 := ⟨lcode_X9_taken, lw_ini_9, ⟨by decide +kernel, by decide +kernel, by decide +kernel⟩, by decide +kernel⟩
theorem cw_X9_summer : g_cw g_mi 103 2 := ⟨lcode_X9_summer, lw_ini_9, ⟨by decide +kernel, by decide +kernel, by decide +kernel⟩, by decide +kernel⟩
theorem cw_X9_odds : g_cw g_mi 104 3 := ⟨lcode_X9_odds, lw_ini_9, ⟨by decide +kernel, by decide +kernel, by decide +kernel⟩, by decide +kernel⟩
theorem cw_X9_bestOrder : g_cw g_mi 105 4 := ⟨lcode_X9_bestOrder, lw_ini_9, ⟨by decide +kernel, by decide +kernel, by decide +kernel⟩, by decide +kernel⟩
theorem cw_X9_bestRule : g_cw g_mi 106 2 := ⟨lcode_X9_bestRule, lw_ini_9, ⟨by decide +kernel, by decide +kernel, by decide +kernel⟩, by decide +kernel⟩
theorem cw_X9_row : g_cw g_mi 107 1 := ⟨lcode_X9_row, lw_ini_9, ⟨by decide +kernel, by decide +kernel, by decide +kernel⟩, by decide +kernel⟩
theorem cw_X9_judge : g_cw g_mi 108 0 := ⟨lcode_X9_judge, lw_ini_9, ⟨by decide +kernel, by decide +kernel, by decide +kernel⟩, by decide +kernel⟩
theorem cw_X9_image : g_cw g_mi 109 0 := ⟨lcode_X9_image, lw_ini_9, ⟨by decide +kernel, by decide +kernel, by decide +kernel⟩, by decide +kernel⟩
theorem cw_X9_on : g_cw g_mi 110 0 := ⟨lcode_X9_on, lw_ini_9, ⟨by decide +kernel, by decide +kernel, by decide +kernel⟩, by decide +kernel⟩
theorem cw_X9_count : g_cw g_mi 111 1 := ⟨lcode_X9_count, lw_ini_9, ⟨by decide +kernel, by decide +kernel, by decide +kernel⟩, by decide +kernel⟩
theorem cw_X9_refuse : g_cw g_mi 112 1 := ⟨lcode_X9_refuse, lw_ini_9, ⟨by decide +kernel, by decide +kernel, by decide +kernel⟩, by decide +kernel⟩
theorem cw_X9_refusalOfGame : g_cw g_mi 113 3 := ⟨lcode_X9_refusalOfGame, lw_ini_9, ⟨by decide +kernel, by decide +kernel, by decide +kernel⟩, by decide +kernel⟩
theorem cw_X9_nobodyRuns : g_cw g_mi 114 2 := ⟨lcode_X9_nobodyRuns, lw_ini_9, ⟨by decide +kernel, by decide +kernel, by decide +kernel⟩, by decide +kernel⟩
theorem cw_X9_findsOfTrial : g_cw g_mi 115 2 := ⟨lcode_X9_findsOfTrial, lw_ini_9, ⟨by decide +kernel, by decide +kernel, by decide +kernel⟩, by decide +kernel⟩
theorem cw_X9_hasBit : g_cw g_mi 116 2 := ⟨lcode_X9_hasBit, lw_ini_9, ⟨by decide +kernel, by decide +kernel, by decide +kernel⟩, by decide +kernel⟩
theorem cw_X9_inLeastTerms : g_cw g_mi 117 3 := ⟨lcode_X9_inLeastTerms, lw_ini_9, ⟨by decide +kernel, by decide +kernel, by decide +kernel⟩, by decide +kernel⟩
theorem cw_X9_greatestCommon : g_cw g_mi 118 2 := ⟨lcode_X9_greatestCommon, lw_ini_9, ⟨by decide +kernel, by decide +kernel, by decide +kernel⟩, by decide +kernel⟩
theorem cw_X10_refuse : g_cw g_mi 119 1 := ⟨lcode_X10_refuse, lw_ini_10, ⟨by decide +kernel, by decide +kernel, by decide +kernel⟩, by decide +kernel⟩
theorem cw_X10_isIn : g_cw g_mi 120 2 := ⟨lcode_X10_isIn, lw_ini_10, ⟨by decide +kernel, by decide +kernel, by decide +kernel⟩, by decide +kernel⟩
theorem cw_X10_within : g_cw g_mi 121 3 := ⟨lcode_X10_within, lw_ini_10, ⟨by decide +kernel, by decide +kernel, by decide +kernel⟩, by decide +kernel⟩
theorem cw_X10_isPlace : g_cw g_mi 122 1 := ⟨lcode_X10_isPlace, lw_ini_10, ⟨by decide +kernel, by decide +kernel, by decide +kernel⟩, by decide +kernel⟩
theorem cw_X10_isRoom : g_cw g_mi 123 1 := ⟨lcode_X10_isRoom, lw_ini_10, ⟨by decide +kernel, by decide +kernel, by decide +kernel⟩, by decide +kernel⟩
theorem cw_X10_isHider : g_cw g_mi 124 1 := ⟨lcode_X10_isHider, lw_ini_10, ⟨by decide +kernel, by decide +kernel, by decide +kernel⟩, by decide +kernel⟩
theorem cw_X10_get : g_cw g_mi 125 2 := ⟨lcode_X10_get, lw_ini_10, ⟨by decide +kernel, by decide +kernel, by decide +kernel⟩, by decide +kernel⟩
theorem cw_X10_setOf : g_cw g_mi 126 1 := ⟨lcode_X10_setOf, lw_ini_10, ⟨by decide +kernel, by decide +kernel, by decide +kernel⟩, by decide +kernel⟩
theorem cw_X10_feed : g_cw g_mi 127 2 := ⟨lcode_X10_feed, lw_ini_10, ⟨by decide +kernel, by decide +kernel, by decide +kernel⟩, by decide +kernel⟩
theorem cw_X10_sign : g_cw g_mi 128 0 := ⟨lcode_X10_sign, lw_ini_10, ⟨by decide +kernel, by decide +kernel, by decide +kernel⟩, by decide +kernel⟩
theorem cw_X10_isDigit : g_cw g_mi 129 0 := ⟨lcode_X10_isDigit, lw_ini_10, ⟨by decide +kernel, by decide +kernel, by decide +kernel⟩, by decide +kernel⟩
theorem cw_X10_takes : g_cw g_mi 130 1 := ⟨lcode_X10_takes, lw_ini_10, ⟨by decide +kernel, by decide +kernel, by decide +kernel⟩, by decide +kernel⟩
theorem cw_X10_readsNumber : g_cw g_mi 131 3 := ⟨lcode_X10_readsNumber, lw_ini_10, ⟨by decide +kernel, by decide +kernel, by decide +kernel⟩, by decide +kernel⟩
theorem cw_X10_kindOf : g_cw g_mi 132 1 := ⟨lcode_X10_kindOf, lw_ini_10, ⟨by decide +kernel, by decide +kernel, by decide +kernel⟩, by decide +kernel⟩
theorem cw_X10_readsStatement : g_cw g_mi 133 0 := ⟨lcode_X10_readsStatement, lw_ini_10, ⟨by decide +kernel, by decide +kernel, by decide +kernel⟩, by decide +kernel⟩
theorem cw_X10_isWay : g_cw g_mi 134 3 := ⟨lcode_X10_isWay, lw_ini_10, ⟨by decide +kernel, by decide +kernel, by decide +kernel⟩, by decide +kernel⟩
theorem cw_X10_comes : g_cw g_mi 135 1 := ⟨lcode_X10_comes, lw_ini_10, ⟨by decide +kernel, by decide +kernel, by decide +kernel⟩, by decide +kernel⟩
theorem cw_X10_reads : g_cw g_mi 136 0 := ⟨lcode_X10_reads, lw_ini_10, ⟨by decide +kernel, by decide +kernel, by decide +kernel⟩, by decide +kernel⟩
theorem cw_X10_garden : g_cw g_mi 137 0 := ⟨lcode_X10_garden, lw_ini_10, ⟨by decide +kernel, by decide +kernel, by decide +kernel⟩, by decide +kernel⟩
theorem cw_X10_findFar : g_cw g_mi 138 0 := ⟨lcode_X10_findFar, lw_ini_10, ⟨by decide +kernel, by decide +kernel, by decide +kernel⟩, by decide +kernel⟩
theorem cw_X10_farOf : g_cw g_mi 139 2 := ⟨lcode_X10_farOf, lw_ini_10, ⟨by decide +kernel, by decide +kernel, by decide +kernel⟩, by decide +kernel⟩
theorem cw_X10_isFar : g_cw g_mi 140 2 := ⟨lcode_X10_isFar, lw_ini_10, ⟨by decide +kernel, by decide +kernel, by decide +kernel⟩, by decide +kernel⟩
theorem cw_X10_place : g_cw g_mi 141 2 := ⟨lcode_X10_place, lw_ini_10, ⟨by decide +kernel, by decide +kernel, by decide +kernel⟩, by decide +kernel⟩
theorem cw_X10_seesOne : g_cw g_mi 142 2 := ⟨lcode_X10_seesOne, lw_ini_10, ⟨by decide +kernel, by decide +kernel, by decide +kernel⟩, by decide +kernel⟩
theorem cw_X10_sees : g_cw g_mi 143 2 := ⟨lcode_X10_sees, lw_ini_10, ⟨by decide +kernel, by decide +kernel, by decide +kernel⟩, by decide +kernel⟩
theorem cw_X10_far : g_cw g_mi 144 2 := ⟨lcode_X10_far, lw_ini_10, ⟨by decide +kernel, by decide +kernel, by decide +kernel⟩, by decide +kernel⟩
theorem cw_X10_ageOf : g_cw g_mi 145 1 := ⟨lcode_X10_ageOf, lw_ini_10, ⟨by decide +kernel, by decide +kernel, by decide +kernel⟩, by decide +kernel⟩
theorem cw_X10_paceOf : g_cw g_mi 146 1 := ⟨lcode_X10_paceOf, lw_ini_10, ⟨by decide +kernel, by decide +kernel, by decide +kernel⟩, by decide +kernel⟩
theorem cw_X10_hider : g_cw g_mi 147 2 := ⟨lcode_X10_hider, lw_ini_10, ⟨by decide +kernel, by decide +kernel, by decide +kernel⟩, by decide +kernel⟩
theorem cw_X10_becomes : g_cw g_mi 148 2 := ⟨lcode_X10_becomes, lw_ini_10, ⟨by decide +kernel, by decide +kernel, by decide +kernel⟩, by decide +kernel⟩
theorem cw_X10_times : g_cw g_mi 149 2 := ⟨lcode_X10_times, lw_ini_10, ⟨by decide +kernel, by decide +kernel, by decide +kernel⟩, by decide +kernel⟩
theorem cw_X10_least : g_cw g_mi 150 1 := ⟨lcode_X10_least, lw_ini_10, ⟨by decide +kernel, by decide +kernel, by decide +kernel⟩, by decide +kernel⟩
theorem cw_X10_most : g_cw g_mi 151 1 := ⟨lcode_X10_most, lw_ini_10, ⟨by decide +kernel, by decide +kernel, by decide +kernel⟩, by decide +kernel⟩
theorem cw_X10_set : g_cw g_mi 152 2 := ⟨lcode_X10_set, lw_ini_10, ⟨by decide +kernel, by decide +kernel, by decide +kernel⟩, by decide +kernel⟩
theorem cw_X10_order : g_cw g_mi 153 2 := ⟨lcode_X10_order, lw_ini_10, ⟨by decide +kernel, by decide +kernel, by decide +kernel⟩, by decide +kernel⟩
theorem cw_X10_held : g_cw g_mi 154 1 := ⟨lcode_X10_held, lw_ini_10, ⟨by decide +kernel, by decide +kernel, by decide +kernel⟩, by decide +kernel⟩
theorem cw_X10_coverOf : g_cw g_mi 155 4 := ⟨lcode_X10_coverOf, lw_ini_10, ⟨by decide +kernel, by decide +kernel, by decide +kernel⟩, by decide +kernel⟩
theorem cw_X10_cover : g_cw g_mi 156 3 := ⟨lcode_X10_cover, lw_ini_10, ⟨by decide +kernel, by decide +kernel, by decide +kernel⟩, by decide +kernel⟩
theorem cw_X10_paced : g_cw g_mi 157 2 := ⟨lcode_X10_paced, lw_ini_10, ⟨by decide +kernel, by decide +kernel, by decide +kernel⟩, by decide +kernel⟩
theorem cw_X10_runOf : g_cw g_mi 158 2 := ⟨lcode_X10_runOf, lw_ini_10, ⟨by decide +kernel, by decide +kernel, by decide +kernel⟩, by decide +kernel⟩
theorem cw_X10_run : g_cw g_mi 159 2 := ⟨lcode_X10_run, lw_ini_10, ⟨by decide +kernel, by decide +kernel, by decide +kernel⟩, by decide +kernel⟩
theorem cw_X10_draw : g_cw g_mi 160 1 := ⟨lcode_X10_draw, lw_ini_10, ⟨by decide +kernel, by decide +kernel, by decide +kernel⟩, by decide +kernel⟩
theorem cw_X10_hidingIn : g_cw g_mi 161 1 := ⟨lcode_X10_hidingIn, lw_ini_10, ⟨by decide +kernel, by decide +kernel, by decide +kernel⟩, by decide +kernel⟩
theorem cw_X10_may : g_cw g_mi 162 2 := ⟨lcode_X10_may, lw_ini_10, ⟨by decide +kernel, by decide +kernel, by decide +kernel⟩, by decide +kernel⟩
theorem cw_X10_chosen : g_cw g_mi 163 1 := ⟨lcode_X10_chosen, lw_ini_10, ⟨by decide +kernel, by decide +kernel, by decide +kernel⟩, by decide +kernel⟩
theorem cw_X10_catches : g_cw g_mi 164 2 := ⟨lcode_X10_catches, lw_ini_10, ⟨by decide +kernel, by decide +kernel, by decide +kernel⟩, by decide +kernel⟩
theorem cw_X10_nextTo : g_cw g_mi 165 2 := ⟨lcode_X10_nextTo, lw_ini_10, ⟨by decide +kernel, by decide +kernel, by decide +kernel⟩, by decide +kernel⟩
theorem cw_X10_goalNow : g_cw g_mi 166 0 := ⟨lcode_X10_goalNow, lw_ini_10, ⟨by decide +kernel, by decide +kernel, by decide +kernel⟩, by decide +kernel⟩
theorem cw_X10_goesOn : g_cw g_mi 167 1 := ⟨lcode_X10_goesOn, lw_ini_10, ⟨by decide +kernel, by decide +kernel, by decide +kernel⟩, by decide +kernel⟩
theorem cw_X10_looks : g_cw g_mi 168 1 := ⟨lcode_X10_looks, lw_ini_10, ⟨by decide +kernel, by decide +kernel, by decide +kernel⟩, by decide +kernel⟩
theorem cw_X10_back : g_cw g_mi 169 1 := ⟨lcode_X10_back, lw_ini_10, ⟨by decide +kernel, by decide +kernel, by decide +kernel⟩, by decide +kernel⟩
theorem cw_X10_isOut : g_cw g_mi 170 0 := ⟨lcode_X10_isOut, lw_ini_10, ⟨by decide +kernel, by decide +kernel, by decide +kernel⟩, by decide +kernel⟩
theorem cw_X10_second : g_cw g_mi 171 1 := ⟨lcode_X10_second, lw_ini_10, ⟨by decide +kernel, by decide +kernel, by decide +kernel⟩, by decide +kernel⟩
theorem cw_X10_frees : g_cw g_mi 172 1 := ⟨lcode_X10_frees, lw_ini_10, ⟨by decide +kernel, by decide +kernel, by decide +kernel⟩, by decide +kernel⟩
theorem cw_X10_plays : g_cw g_mi 173 1 := ⟨lcode_X10_plays, lw_ini_10, ⟨by decide +kernel, by decide +kernel, by decide +kernel⟩, by decide +kernel⟩
theorem cw_X10_howMany : g_cw g_mi 174 1 := ⟨lcode_X10_howMany, lw_ini_10, ⟨by decide +kernel, by decide +kernel, by decide +kernel⟩, by decide +kernel⟩
theorem cw_X10_round : g_cw g_mi 175 1 := ⟨lcode_X10_round, lw_ini_10, ⟨by decide +kernel, by decide +kernel, by decide +kernel⟩, by decide +kernel⟩
theorem cw_X10_mind : g_cw g_mi 176 2 := ⟨lcode_X10_mind, lw_ini_10, ⟨by decide +kernel, by decide +kernel, by decide +kernel⟩, by decide +kernel⟩
theorem cw_X10_of : g_cw g_mi 177 2 := ⟨lcode_X10_of, lw_ini_10, ⟨by decide +kernel, by decide +kernel, by decide +kernel⟩, by decide +kernel⟩
theorem cw_X10_found : g_cw g_mi 178 1 := ⟨lcode_X10_found, lw_ini_10, ⟨by decide +kernel, by decide +kernel, by decide +kernel⟩, by decide +kernel⟩
theorem cw_X10_tableOf : g_cw g_mi 179 2 := ⟨lcode_X10_tableOf, lw_ini_10, ⟨by decide +kernel, by decide +kernel, by decide +kernel⟩, by decide +kernel⟩
theorem cw_X10_table : g_cw g_mi 180 2 := ⟨lcode_X10_table, lw_ini_10, ⟨by decide +kernel, by decide +kernel, by decide +kernel⟩, by decide +kernel⟩
theorem cw_X10_mayGoTo : g_cw g_mi 181 1 := ⟨lcode_X10_mayGoTo, lw_ini_10, ⟨by decide +kernel, by decide +kernel, by decide +kernel⟩, by decide +kernel⟩
theorem cw_X10_mayGo : g_cw g_mi 182 0 := ⟨lcode_X10_mayGo, lw_ini_10, ⟨by decide +kernel, by decide +kernel, by decide +kernel⟩, by decide +kernel⟩
theorem cw_X10_bits : g_cw g_mi 183 1 := ⟨lcode_X10_bits, lw_ini_10, ⟨by decide +kernel, by decide +kernel, by decide +kernel⟩, by decide +kernel⟩
theorem cw_X10_allSeen : g_cw g_mi 184 0 := ⟨lcode_X10_allSeen, lw_ini_10, ⟨by decide +kernel, by decide +kernel, by decide +kernel⟩, by decide +kernel⟩
theorem cw_X10_fewest : g_cw g_mi 185 0 := ⟨lcode_X10_fewest, lw_ini_10, ⟨by decide +kernel, by decide +kernel, by decide +kernel⟩, by decide +kernel⟩
theorem cw_X10_findOrders : g_cw g_mi 186 3 := ⟨lcode_X10_findOrders, lw_ini_10, ⟨by decide +kernel, by decide +kernel, by decide +kernel⟩, by decide +kernel⟩
theorem cw_X10_isGame : g_cw g_mi 187 1 := ⟨lcode_X10_isGame, lw_ini_10, ⟨by decide +kernel, by decide +kernel, by decide +kernel⟩, by decide +kernel⟩
theorem cw_X10_findTells : g_cw g_mi 188 1 := ⟨lcode_X10_findTells, lw_ini_10, ⟨by decide +kernel, by decide +kernel, by decide +kernel⟩, by decide +kernel⟩
theorem cw_X10_goesGame : g_cw g_mi 189 2 := ⟨lcode_X10_goesGame, lw_ini_10, ⟨by decide +kernel, by decide +kernel, by decide +kernel⟩, by decide +kernel⟩
theorem cw_X10_wrongGame : g_cw g_mi 190 2 := ⟨lcode_X10_wrongGame, lw_ini_10, ⟨by decide +kernel, by decide +kernel, by decide +kernel⟩, by decide +kernel⟩
theorem cw_X10_common : g_cw g_mi 191 2 := ⟨lcode_X10_common, lw_ini_10, ⟨by decide +kernel, by decide +kernel, by decide +kernel⟩, by decide +kernel⟩
theorem cw_X10_game : g_cw g_mi 192 4 := ⟨lcode_X10_game, lw_ini_10, ⟨by decide +kernel, by decide +kernel, by decide +kernel⟩, by decide +kernel⟩
theorem cw_X10_taken : g_cw g_mi 193 3 := ⟨lcode_X10_taken, lw_ini_10, ⟨by decide +kernel, by decide +kernel, by decide +kernel⟩, by decide +kernel⟩
theorem cw_X10_summer : g_cw g_mi 194 2 := ⟨lcode_X10_summer, lw_ini_10, ⟨by decide +kernel, by decide +kernel, by decide +kernel⟩, by decide +kernel⟩
theorem cw_X10_odds : g_cw g_mi 195 3 := ⟨lcode_X10_odds, lw_ini_10, ⟨by decide +kernel, by decide +kernel, by decide +kernel⟩, by decide +kernel⟩
theorem cw_X10_findsBy : g_cw g_mi 196 2 := ⟨lcode_X10_findsBy, lw_ini_10, ⟨by decide +kernel, by decide +kernel, by decide +kernel⟩, by decide +kernel⟩
theorem cw_X10_bestOrder : g_cw g_mi 197 4 := ⟨lcode_X10_bestOrder, lw_ini_10, ⟨by decide +kernel, by decide +kernel, by decide +kernel⟩, by decide +kernel⟩
theorem cw_X10_bestRule : g_cw g_mi 198 2 := ⟨lcode_X10_bestRule, lw_ini_10, ⟨by decide +kernel, by decide +kernel, by decide +kernel⟩, by decide +kernel⟩
theorem cw_X10_row : g_cw g_mi 199 1 := ⟨lcode_X10_row, lw_ini_10, ⟨by decide +kernel, by decide +kernel, by decide +kernel⟩, by decide +kernel⟩
theorem cw_X10_judge : g_cw g_mi 200 0 := ⟨lcode_X10_judge, lw_ini_10, ⟨by decide +kernel, by decide +kernel, by decide +kernel⟩, by decide +kernel⟩
theorem cw_X10_image : g_cw g_mi 201 0 := ⟨lcode_X10_image, lw_ini_10, ⟨by decide +kernel, by decide +kernel, by decide +kernel⟩, by decide +kernel⟩
theorem cw_X10_on : g_cw g_mi 202 0 := ⟨lcode_X10_on, lw_ini_10, ⟨by decide +kernel, by decide +kernel, by decide +kernel⟩, by decide +kernel⟩
theorem cw_X10_count : g_cw g_mi 203 1 := ⟨lcode_X10_count, lw_ini_10, ⟨by decide +kernel, by decide +kernel, by decide +kernel⟩, by decide +kernel⟩
theorem cw_J6_bitCount : g_cw g_mi 204 1 := ⟨lcode_J6_bitCount, lw_ini_Integer, ⟨by decide +kernel, by decide +kernel, by decide +kernel⟩, by decide +kernel⟩
theorem cw_J7_fill : g_cw g_mi 205 2 := ⟨lcode_J7_fill, lw_ini_Arrays, ⟨by decide +kernel, by decide +kernel, by decide +kernel⟩, by decide +kernel⟩
theorem cw_J0_length : g_cw g_mi 206 0 := ⟨lcode_J0_length, lw_ini_String, ⟨by decide +kernel, by decide +kernel, by decide +kernel⟩, by decide +kernel⟩
theorem cw_J0_isEmpty : g_cw g_mi 207 0 := ⟨lcode_J0_isEmpty, lw_ini_String, ⟨by decide +kernel, by decide +kernel, by decide +kernel⟩, by decide +kernel⟩
theorem cw_J0_charAt : g_cw g_mi 208 1 := ⟨lcode_J0_charAt, lw_ini_String, ⟨by decide +kernel, by decide +kernel, by decide +kernel⟩, by decide +kernel⟩
theorem cw_J0_indexOf : g_cw g_mi 209 1 := ⟨lcode_J0_indexOf, lw_ini_String, ⟨by decide +kernel, by decide +kernel, by decide +kernel⟩, by decide +kernel⟩
theorem cw_J0_indexOf2 : g_cw g_mi 210 2 := ⟨lcode_J0_indexOf2, lw_ini_String, ⟨by decide +kernel, by decide +kernel, by decide +kernel⟩, by decide +kernel⟩
theorem cw_J0_coder : g_cw g_mi 211 0 := ⟨lcode_J0_coder, lw_ini_String, ⟨by decide +kernel, by decide +kernel, by decide +kernel⟩, by decide +kernel⟩
theorem cw_J0_isLatin1 : g_cw g_mi 212 0 := ⟨lcode_J0_isLatin1, lw_ini_String, ⟨by decide +kernel, by decide +kernel, by decide +kernel⟩, by decide +kernel⟩
theorem cw_J0_checkIndex : g_cw g_mi 213 2 := ⟨lcode_J0_checkIndex, lw_ini_String, ⟨by decide +kernel, by decide +kernel, by decide +kernel⟩, by decide +kernel⟩
theorem cw_J1_charAt : g_cw g_mi 214 2 := ⟨lcode_J1_charAt, lw_ini_StringLatin1, ⟨by decide +kernel, by decide +kernel, by decide +kernel⟩, by decide +kernel⟩
theorem cw_J1_canEncode : g_cw g_mi 215 1 := ⟨lcode_J1_canEncode, lw_ini_StringLatin1, ⟨by decide +kernel, by decide +kernel, by decide +kernel⟩, by decide +kernel⟩
theorem cw_J1_indexOf : g_cw g_mi 216 4 := ⟨lcode_J1_indexOf, lw_ini_StringLatin1, ⟨by decide +kernel, by decide +kernel, by decide +kernel⟩, by decide +kernel⟩
theorem cw_J1_indexOfChar : g_cw g_mi 217 4 := ⟨lcode_J1_indexOfChar, lw_ini_StringLatin1, ⟨by decide +kernel, by decide +kernel, by decide +kernel⟩, by decide +kernel⟩
theorem cw_J3_checkIndex : g_cw g_mi 218 3 := ⟨lcode_J3_checkIndex, lw_ini_Preconditions, ⟨by decide +kernel, by decide +kernel, by decide +kernel⟩, by decide +kernel⟩
theorem ok_ldcw {sh : g_Sh} {mi : g_MI} {own : String} {cc : ByteArray} {nL : Nat} {rt : Option FieldType} {pc : Nat} {i : Nat} {v : Int32} (hd : decode cc pc = .ok (.ldc_w i, 3)) (hw : Cond.constant own i v ∈ g_tbl) : g_ok sh mi own cc nL rt pc (o_push (.int v) (pc + 3)) := by
  refine ⟨fun cal P P' Q Q' L st M hc hP hQ h => hP _ _ _ _ h, ?_⟩
  intro p l e R s m args below meth c D cA μ ξ A d cal Q K C hK L st M H locs ls h hP hD hS hl
  obtain ⟨hx, hb, hml, hown, hts, hr, hlk, hKk, hA, hE, rfl, hSn⟩ := C
  exact lv_ldcw hx hb hown (hts _ hw) hd (hK _ _ _ _ _ _ _ h hP hD hS hl)
end
