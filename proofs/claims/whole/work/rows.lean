section
-- ===== PART A: goes FIRST, ahead of the names: the tables' words, and 'selects' of the private methods out of them =====
/-- a private method of a class that the tables say can be made, by its rows of tables_1 -/
def lw_okq (q : MethodName × Nat) : Prop := (q.1.cls ≠ "java/lang/invoke/MethodHandle" ∧ q.1.cls ≠ "java/lang/invoke/VarHandle") ∧ Cond.instantiable q.1.cls q.2 ∈ tables_1 ∧ Cond.privateMethod q.1 ∈ tables_1 ∧ Cond.instanceMethod q.1 ∈ tables_1
theorem lw_p0 : lw_okq (⟨"InTheGarden$Garden", "measureWays", "()V"⟩, 14) := ⟨⟨by decide +kernel, by decide +kernel⟩, List.mem_of_getElem? (i := 36) (by decide +kernel), List.mem_of_getElem? (i := 46) (by decide +kernel), List.mem_of_getElem? (i := 47) (by decide +kernel)⟩
theorem lw_p1 : lw_okq (⟨"InTheGarden$Garden", "shortenFrom", "(II)V"⟩, 14) := ⟨⟨by decide +kernel, by decide +kernel⟩, List.mem_of_getElem? (i := 36) (by decide +kernel), List.mem_of_getElem? (i := 50) (by decide +kernel), List.mem_of_getElem? (i := 51) (by decide +kernel)⟩
theorem lw_p2 : lw_okq (⟨"InTheGarden$Garden", "measureRuns", "(I)V"⟩, 14) := ⟨⟨by decide +kernel, by decide +kernel⟩, List.mem_of_getElem? (i := 36) (by decide +kernel), List.mem_of_getElem? (i := 54) (by decide +kernel), List.mem_of_getElem? (i := 55) (by decide +kernel)⟩
theorem lw_p3 : lw_okq (⟨"InTheGarden", "refuse", "(I)I"⟩, 15) := ⟨⟨by decide +kernel, by decide +kernel⟩, List.mem_of_getElem? (i := 22) (by decide +kernel), List.mem_of_getElem? (i := 362) (by decide +kernel), List.mem_of_getElem? (i := 363) (by decide +kernel)⟩
theorem lw_p4 : lw_okq (⟨"InTheGarden$Reader", "countStatements", "()I"⟩, 4) := ⟨⟨by decide +kernel, by decide +kernel⟩, List.mem_of_getElem? (i := 241) (by decide +kernel), List.mem_of_getElem? (i := 384) (by decide +kernel), List.mem_of_getElem? (i := 385) (by decide +kernel)⟩
theorem lw_p5 : lw_okq (⟨"InTheGarden$Reader", "readStatement", "()Z"⟩, 4) := ⟨⟨by decide +kernel, by decide +kernel⟩, List.mem_of_getElem? (i := 241) (by decide +kernel), List.mem_of_getElem? (i := 388) (by decide +kernel), List.mem_of_getElem? (i := 389) (by decide +kernel)⟩
theorem lw_p6 : lw_okq (⟨"InTheGarden$Reader", "sign", "()I"⟩, 4) := ⟨⟨by decide +kernel, by decide +kernel⟩, List.mem_of_getElem? (i := 241) (by decide +kernel), List.mem_of_getElem? (i := 392) (by decide +kernel), List.mem_of_getElem? (i := 393) (by decide +kernel)⟩
theorem lw_p7 : lw_okq (⟨"InTheGarden$Reader", "readMark", "(C)Z"⟩, 4) := ⟨⟨by decide +kernel, by decide +kernel⟩, List.mem_of_getElem? (i := 241) (by decide +kernel), List.mem_of_getElem? (i := 456) (by decide +kernel), List.mem_of_getElem? (i := 457) (by decide +kernel)⟩
theorem lw_p8 : lw_okq (⟨"InTheGarden$Reader", "readValue", "(CI)Z"⟩, 4) := ⟨⟨by decide +kernel, by decide +kernel⟩, List.mem_of_getElem? (i := 241) (by decide +kernel), List.mem_of_getElem? (i := 460) (by decide +kernel), List.mem_of_getElem? (i := 461) (by decide +kernel)⟩
theorem lw_p9 : lw_okq (⟨"InTheGarden$Reader", "readKind", "(I)Z"⟩, 4) := ⟨⟨by decide +kernel, by decide +kernel⟩, List.mem_of_getElem? (i := 241) (by decide +kernel), List.mem_of_getElem? (i := 464) (by decide +kernel), List.mem_of_getElem? (i := 465) (by decide +kernel)⟩
theorem lw_p10 : lw_okq (⟨"InTheGarden$Reader", "keep", "(II)V"⟩, 4) := ⟨⟨by decide +kernel, by decide +kernel⟩, List.mem_of_getElem? (i := 241) (by decide +kernel), List.mem_of_getElem? (i := 526) (by decide +kernel), List.mem_of_getElem? (i := 527) (by decide +kernel)⟩
theorem lw_p11 : lw_okq (⟨"InTheGarden$Reader", "readNumber", "(III)Z"⟩, 4) := ⟨⟨by decide +kernel, by decide +kernel⟩, List.mem_of_getElem? (i := 241) (by decide +kernel), List.mem_of_getElem? (i := 530) (by decide +kernel), List.mem_of_getElem? (i := 531) (by decide +kernel)⟩
theorem lw_p12 : lw_okq (⟨"InTheGarden$Reader", "tell", "(ILInTheGarden$Garden;)Z"⟩, 4) := ⟨⟨by decide +kernel, by decide +kernel⟩, List.mem_of_getElem? (i := 241) (by decide +kernel), List.mem_of_getElem? (i := 534) (by decide +kernel), List.mem_of_getElem? (i := 535) (by decide +kernel)⟩
theorem lw_p13 : lw_okq (⟨"InTheGarden$Round", "begin", "(LInTheGarden$Garden;I)V"⟩, 10) := ⟨⟨by decide +kernel, by decide +kernel⟩, List.mem_of_getElem? (i := 150) (by decide +kernel), List.mem_of_getElem? (i := 645) (by decide +kernel), List.mem_of_getElem? (i := 646) (by decide +kernel)⟩
theorem lw_p14 : lw_okq (⟨"InTheGarden$Round", "hideAll", "(LInTheGarden$Garden;LInTheGarden$Told;)V"⟩, 10) := ⟨⟨by decide +kernel, by decide +kernel⟩, List.mem_of_getElem? (i := 150) (by decide +kernel), List.mem_of_getElem? (i := 650) (by decide +kernel), List.mem_of_getElem? (i := 651) (by decide +kernel)⟩
theorem lw_p15 : lw_okq (⟨"InTheGarden$Round", "choose", "(LInTheGarden$Garden;LInTheGarden$Told;I)I"⟩, 10) := ⟨⟨by decide +kernel, by decide +kernel⟩, List.mem_of_getElem? (i := 150) (by decide +kernel), List.mem_of_getElem? (i := 654) (by decide +kernel), List.mem_of_getElem? (i := 655) (by decide +kernel)⟩
def lw_privs_1 : List (MethodName × Nat) := [(⟨"InTheGarden$Garden", "measureWays", "()V"⟩, 14), (⟨"InTheGarden$Garden", "shortenFrom", "(II)V"⟩, 14), (⟨"InTheGarden$Garden", "measureRuns", "(I)V"⟩, 14), (⟨"InTheGarden", "refuse", "(I)I"⟩, 15), (⟨"InTheGarden$Reader", "countStatements", "()I"⟩, 4), (⟨"InTheGarden$Reader", "readStatement", "()Z"⟩, 4), (⟨"InTheGarden$Reader", "sign", "()I"⟩, 4), (⟨"InTheGarden$Reader", "readMark", "(C)Z"⟩, 4), (⟨"InTheGarden$Reader", "readValue", "(CI)Z"⟩, 4), (⟨"InTheGarden$Reader", "readKind", "(I)Z"⟩, 4), (⟨"InTheGarden$Reader", "keep", "(II)V"⟩, 4), (⟨"InTheGarden$Reader", "readNumber", "(III)Z"⟩, 4), (⟨"InTheGarden$Reader", "tell", "(ILInTheGarden$Garden;)Z"⟩, 4), (⟨"InTheGarden$Round", "begin", "(LInTheGarden$Garden;I)V"⟩, 10), (⟨"InTheGarden$Round", "hideAll", "(LInTheGarden$Garden;LInTheGarden$Told;)V"⟩, 10), (⟨"InTheGarden$Round", "choose", "(LInTheGarden$Garden;LInTheGarden$Told;I)I"⟩, 10)]
theorem lw_r1 : ∀ q ∈ lw_privs_1, lw_okq q := List.forall_mem_cons.mpr ⟨lw_p0, List.forall_mem_cons.mpr ⟨lw_p1, List.forall_mem_cons.mpr ⟨lw_p2, List.forall_mem_cons.mpr ⟨lw_p3, List.forall_mem_cons.mpr ⟨lw_p4, List.forall_mem_cons.mpr ⟨lw_p5, List.forall_mem_cons.mpr ⟨lw_p6, List.forall_mem_cons.mpr ⟨lw_p7, List.forall_mem_cons.mpr ⟨lw_p8, List.forall_mem_cons.mpr ⟨lw_p9, List.forall_mem_cons.mpr ⟨lw_p10, List.forall_mem_cons.mpr ⟨lw_p11, List.forall_mem_cons.mpr ⟨lw_p12, List.forall_mem_cons.mpr ⟨lw_p13, List.forall_mem_cons.mpr ⟨lw_p14, List.forall_mem_cons.mpr ⟨lw_p15, fun _ h => absurd h List.not_mem_nil⟩⟩⟩⟩⟩⟩⟩⟩⟩⟩⟩⟩⟩⟩⟩⟩
theorem lw_p16 : lw_okq (⟨"InTheGarden$Round", "openPlaces", "(LInTheGarden$Garden;II)I"⟩, 10) := ⟨⟨by decide +kernel, by decide +kernel⟩, List.mem_of_getElem? (i := 150) (by decide +kernel), List.mem_of_getElem? (i := 658) (by decide +kernel), List.mem_of_getElem? (i := 659) (by decide +kernel)⟩
theorem lw_p17 : lw_okq (⟨"InTheGarden$Round", "drawBelow", "(I)I"⟩, 10) := ⟨⟨by decide +kernel, by decide +kernel⟩, List.mem_of_getElem? (i := 150) (by decide +kernel), List.mem_of_getElem? (i := 680) (by decide +kernel), List.mem_of_getElem? (i := 681) (by decide +kernel)⟩
theorem lw_p18 : lw_okq (⟨"InTheGarden$Round", "find", "(II)V"⟩, 10) := ⟨⟨by decide +kernel, by decide +kernel⟩, List.mem_of_getElem? (i := 150) (by decide +kernel), List.mem_of_getElem? (i := 690) (by decide +kernel), List.mem_of_getElem? (i := 691) (by decide +kernel)⟩
theorem lw_p19 : lw_okq (⟨"InTheGarden$Round", "comeAndLook", "(LInTheGarden$Garden;LInTheGarden$Told;LInTheGarden$Seeker;I)V"⟩, 10) := ⟨⟨by decide +kernel, by decide +kernel⟩, List.mem_of_getElem? (i := 150) (by decide +kernel), List.mem_of_getElem? (i := 699) (by decide +kernel), List.mem_of_getElem? (i := 700) (by decide +kernel)⟩
theorem lw_p20 : lw_okq (⟨"InTheGarden$Round", "coverOf", "(LInTheGarden$Garden;IIII)I"⟩, 10) := ⟨⟨by decide +kernel, by decide +kernel⟩, List.mem_of_getElem? (i := 150) (by decide +kernel), List.mem_of_getElem? (i := 711) (by decide +kernel), List.mem_of_getElem? (i := 712) (by decide +kernel)⟩
theorem lw_p21 : lw_okq (⟨"InTheGarden$Round", "hidingIn", "(I)I"⟩, 10) := ⟨⟨by decide +kernel, by decide +kernel⟩, List.mem_of_getElem? (i := 150) (by decide +kernel), List.mem_of_getElem? (i := 715) (by decide +kernel), List.mem_of_getElem? (i := 716) (by decide +kernel)⟩
theorem lw_p22 : lw_okq (⟨"InTheGarden$Round", "bringHome", "(IZZ)V"⟩, 10) := ⟨⟨by decide +kernel, by decide +kernel⟩, List.mem_of_getElem? (i := 150) (by decide +kernel), List.mem_of_getElem? (i := 725) (by decide +kernel), List.mem_of_getElem? (i := 726) (by decide +kernel)⟩
theorem lw_p23 : lw_okq (⟨"InTheGarden$Round", "isOpen", "()Z"⟩, 10) := ⟨⟨by decide +kernel, by decide +kernel⟩, List.mem_of_getElem? (i := 150) (by decide +kernel), List.mem_of_getElem? (i := 729) (by decide +kernel), List.mem_of_getElem? (i := 730) (by decide +kernel)⟩
theorem lw_p24 : lw_okq (⟨"InTheGarden$Round", "freeAll", "(I)V"⟩, 10) := ⟨⟨by decide +kernel, by decide +kernel⟩, List.mem_of_getElem? (i := 150) (by decide +kernel), List.mem_of_getElem? (i := 733) (by decide +kernel), List.mem_of_getElem? (i := 734) (by decide +kernel)⟩
theorem lw_p25 : lw_okq (⟨"InTheGarden$Seeker", "nextTarget", "(LInTheGarden$Garden;LInTheGarden$Told;)I"⟩, 5) := ⟨⟨by decide +kernel, by decide +kernel⟩, List.mem_of_getElem? (i := 217) (by decide +kernel), List.mem_of_getElem? (i := 741) (by decide +kernel), List.mem_of_getElem? (i := 742) (by decide +kernel)⟩
theorem lw_p26 : lw_okq (⟨"InTheGarden$Round", "startRuns", "(LInTheGarden$Garden;III)V"⟩, 10) := ⟨⟨by decide +kernel, by decide +kernel⟩, List.mem_of_getElem? (i := 150) (by decide +kernel), List.mem_of_getElem? (i := 757) (by decide +kernel), List.mem_of_getElem? (i := 758) (by decide +kernel)⟩
theorem lw_p27 : lw_okq (⟨"InTheGarden$Round", "nextMoment", "(LInTheGarden$Seeker;I)I"⟩, 10) := ⟨⟨by decide +kernel, by decide +kernel⟩, List.mem_of_getElem? (i := 150) (by decide +kernel), List.mem_of_getElem? (i := 767) (by decide +kernel), List.mem_of_getElem? (i := 768) (by decide +kernel)⟩
theorem lw_p28 : lw_okq (⟨"InTheGarden$Round", "end", "(I)V"⟩, 10) := ⟨⟨by decide +kernel, by decide +kernel⟩, List.mem_of_getElem? (i := 150) (by decide +kernel), List.mem_of_getElem? (i := 771) (by decide +kernel), List.mem_of_getElem? (i := 772) (by decide +kernel)⟩
theorem lw_p29 : lw_okq (⟨"InTheGarden", "nobodyRuns", "(II)Z"⟩, 15) := ⟨⟨by decide +kernel, by decide +kernel⟩, List.mem_of_getElem? (i := 22) (by decide +kernel), List.mem_of_getElem? (i := 804) (by decide +kernel), List.mem_of_getElem? (i := 805) (by decide +kernel)⟩
theorem lw_p30 : lw_okq (⟨"InTheGarden$Sight", "goFurther", "(LInTheGarden$Garden;III)V"⟩, 1) := ⟨⟨by decide +kernel, by decide +kernel⟩, List.mem_of_getElem? (i := 261) (by decide +kernel), List.mem_of_getElem? (i := 830) (by decide +kernel), List.mem_of_getElem? (i := 831) (by decide +kernel)⟩
theorem lw_p31 : lw_okq (⟨"InTheGarden", "refusalOfGame", "(III)I"⟩, 15) := ⟨⟨by decide +kernel, by decide +kernel⟩, List.mem_of_getElem? (i := 22) (by decide +kernel), List.mem_of_getElem? (i := 847) (by decide +kernel), List.mem_of_getElem? (i := 848) (by decide +kernel)⟩
def lw_privs_2 : List (MethodName × Nat) := [(⟨"InTheGarden$Round", "openPlaces", "(LInTheGarden$Garden;II)I"⟩, 10), (⟨"InTheGarden$Round", "drawBelow", "(I)I"⟩, 10), (⟨"InTheGarden$Round", "find", "(II)V"⟩, 10), (⟨"InTheGarden$Round", "comeAndLook", "(LInTheGarden$Garden;LInTheGarden$Told;LInTheGarden$Seeker;I)V"⟩, 10), (⟨"InTheGarden$Round", "coverOf", "(LInTheGarden$Garden;IIII)I"⟩, 10), (⟨"InTheGarden$Round", "hidingIn", "(I)I"⟩, 10), (⟨"InTheGarden$Round", "bringHome", "(IZZ)V"⟩, 10), (⟨"InTheGarden$Round", "isOpen", "()Z"⟩, 10), (⟨"InTheGarden$Round", "freeAll", "(I)V"⟩, 10), (⟨"InTheGarden$Seeker", "nextTarget", "(LInTheGarden$Garden;LInTheGarden$Told;)I"⟩, 5), (⟨"InTheGarden$Round", "startRuns", "(LInTheGarden$Garden;III)V"⟩, 10), (⟨"InTheGarden$Round", "nextMoment", "(LInTheGarden$Seeker;I)I"⟩, 10), (⟨"InTheGarden$Round", "end", "(I)V"⟩, 10), (⟨"InTheGarden", "nobodyRuns", "(II)Z"⟩, 15), (⟨"InTheGarden$Sight", "goFurther", "(LInTheGarden$Garden;III)V"⟩, 1), (⟨"InTheGarden", "refusalOfGame", "(III)I"⟩, 15)]
theorem lw_r2 : ∀ q ∈ lw_privs_2, lw_okq q := List.forall_mem_cons.mpr ⟨lw_p16, List.forall_mem_cons.mpr ⟨lw_p17, List.forall_mem_cons.mpr ⟨lw_p18, List.forall_mem_cons.mpr ⟨lw_p19, List.forall_mem_cons.mpr ⟨lw_p20, List.forall_mem_cons.mpr ⟨lw_p21, List.forall_mem_cons.mpr ⟨lw_p22, List.forall_mem_cons.mpr ⟨lw_p23, List.forall_mem_cons.mpr ⟨lw_p24, List.forall_mem_cons.mpr ⟨lw_p25, List.forall_mem_cons.mpr ⟨lw_p26, List.forall_mem_cons.mpr ⟨lw_p27, List.forall_mem_cons.mpr ⟨lw_p28, List.forall_mem_cons.mpr ⟨lw_p29, List.forall_mem_cons.mpr ⟨lw_p30, List.forall_mem_cons.mpr ⟨lw_p31, fun _ h => absurd h List.not_mem_nil⟩⟩⟩⟩⟩⟩⟩⟩⟩⟩⟩⟩⟩⟩⟩⟩
theorem lw_p32 : lw_okq (⟨"InTheGarden$Game", "tellAll", "(LInTheGarden$Garden;LInTheGarden$Orders;)V"⟩, 6) := ⟨⟨by decide +kernel, by decide +kernel⟩, List.mem_of_getElem? (i := 271) (by decide +kernel), List.mem_of_getElem? (i := 861) (by decide +kernel), List.mem_of_getElem? (i := 862) (by decide +kernel)⟩
theorem lw_p33 : lw_okq (⟨"InTheGarden$Orders", "swap", "(II)V"⟩, 2) := ⟨⟨by decide +kernel, by decide +kernel⟩, List.mem_of_getElem? (i := 297) (by decide +kernel), List.mem_of_getElem? (i := 875) (by decide +kernel), List.mem_of_getElem? (i := 876) (by decide +kernel)⟩
theorem lw_p34 : lw_okq (⟨"InTheGarden$Game", "addTells", "(II)V"⟩, 6) := ⟨⟨by decide +kernel, by decide +kernel⟩, List.mem_of_getElem? (i := 271) (by decide +kernel), List.mem_of_getElem? (i := 885) (by decide +kernel), List.mem_of_getElem? (i := 886) (by decide +kernel)⟩
theorem lw_p35 : lw_okq (⟨"InTheGarden", "findsOfTrial", "(II)I"⟩, 15) := ⟨⟨by decide +kernel, by decide +kernel⟩, List.mem_of_getElem? (i := 22) (by decide +kernel), List.mem_of_getElem? (i := 929) (by decide +kernel), List.mem_of_getElem? (i := 930) (by decide +kernel)⟩
theorem lw_p36 : lw_okq (⟨"InTheGardenModel", "refuse", "(I)I"⟩, 38) := ⟨⟨by decide +kernel, by decide +kernel⟩, List.mem_of_getElem? (i := 974) (by decide +kernel), List.mem_of_getElem? (i := 1100) (by decide +kernel), List.mem_of_getElem? (i := 1101) (by decide +kernel)⟩
theorem lw_p37 : lw_okq (⟨"InTheGardenModel", "reads", "()I"⟩, 38) := ⟨⟨by decide +kernel, by decide +kernel⟩, List.mem_of_getElem? (i := 974) (by decide +kernel), List.mem_of_getElem? (i := 1109) (by decide +kernel), List.mem_of_getElem? (i := 1110) (by decide +kernel)⟩
theorem lw_p38 : lw_okq (⟨"InTheGardenModel", "readsStatement", "()Z"⟩, 38) := ⟨⟨by decide +kernel, by decide +kernel⟩, List.mem_of_getElem? (i := 974) (by decide +kernel), List.mem_of_getElem? (i := 1113) (by decide +kernel), List.mem_of_getElem? (i := 1114) (by decide +kernel)⟩
theorem lw_p39 : lw_okq (⟨"InTheGardenModel", "sign", "()I"⟩, 38) := ⟨⟨by decide +kernel, by decide +kernel⟩, List.mem_of_getElem? (i := 974) (by decide +kernel), List.mem_of_getElem? (i := 1117) (by decide +kernel), List.mem_of_getElem? (i := 1118) (by decide +kernel)⟩
theorem lw_p40 : lw_okq (⟨"InTheGardenModel", "readsNumber", "(III)Z"⟩, 38) := ⟨⟨by decide +kernel, by decide +kernel⟩, List.mem_of_getElem? (i := 974) (by decide +kernel), List.mem_of_getElem? (i := 1124) (by decide +kernel), List.mem_of_getElem? (i := 1125) (by decide +kernel)⟩
theorem lw_p41 : lw_okq (⟨"InTheGardenModel", "isDigit", "()Z"⟩, 38) := ⟨⟨by decide +kernel, by decide +kernel⟩, List.mem_of_getElem? (i := 974) (by decide +kernel), List.mem_of_getElem? (i := 1128) (by decide +kernel), List.mem_of_getElem? (i := 1129) (by decide +kernel)⟩
theorem lw_p42 : lw_okq (⟨"InTheGardenModel", "takes", "(I)Z"⟩, 38) := ⟨⟨by decide +kernel, by decide +kernel⟩, List.mem_of_getElem? (i := 974) (by decide +kernel), List.mem_of_getElem? (i := 1132) (by decide +kernel), List.mem_of_getElem? (i := 1133) (by decide +kernel)⟩
theorem lw_p43 : lw_okq (⟨"InTheGardenModel", "comes", "(I)Z"⟩, 38) := ⟨⟨by decide +kernel, by decide +kernel⟩, List.mem_of_getElem? (i := 974) (by decide +kernel), List.mem_of_getElem? (i := 1136) (by decide +kernel), List.mem_of_getElem? (i := 1137) (by decide +kernel)⟩
theorem lw_p44 : lw_okq (⟨"InTheGardenModel", "isPlace", "(I)Z"⟩, 38) := ⟨⟨by decide +kernel, by decide +kernel⟩, List.mem_of_getElem? (i := 974) (by decide +kernel), List.mem_of_getElem? (i := 1147) (by decide +kernel), List.mem_of_getElem? (i := 1148) (by decide +kernel)⟩
theorem lw_p45 : lw_okq (⟨"InTheGardenModel", "get", "(II)I"⟩, 38) := ⟨⟨by decide +kernel, by decide +kernel⟩, List.mem_of_getElem? (i := 974) (by decide +kernel), List.mem_of_getElem? (i := 1154) (by decide +kernel), List.mem_of_getElem? (i := 1155) (by decide +kernel)⟩
theorem lw_p46 : lw_okq (⟨"InTheGardenModel", "seesOne", "(II)Z"⟩, 38) := ⟨⟨by decide +kernel, by decide +kernel⟩, List.mem_of_getElem? (i := 974) (by decide +kernel), List.mem_of_getElem? (i := 1162) (by decide +kernel), List.mem_of_getElem? (i := 1163) (by decide +kernel)⟩
theorem lw_p47 : lw_okq (⟨"InTheGardenModel", "findFar", "()V"⟩, 38) := ⟨⟨by decide +kernel, by decide +kernel⟩, List.mem_of_getElem? (i := 974) (by decide +kernel), List.mem_of_getElem? (i := 1170) (by decide +kernel), List.mem_of_getElem? (i := 1171) (by decide +kernel)⟩
def lw_privs_3 : List (MethodName × Nat) := [(⟨"InTheGarden$Game", "tellAll", "(LInTheGarden$Garden;LInTheGarden$Orders;)V"⟩, 6), (⟨"InTheGarden$Orders", "swap", "(II)V"⟩, 2), (⟨"InTheGarden$Game", "addTells", "(II)V"⟩, 6), (⟨"InTheGarden", "findsOfTrial", "(II)I"⟩, 15), (⟨"InTheGardenModel", "refuse", "(I)I"⟩, 38), (⟨"InTheGardenModel", "reads", "()I"⟩, 38), (⟨"InTheGardenModel", "readsStatement", "()Z"⟩, 38), (⟨"InTheGardenModel", "sign", "()I"⟩, 38), (⟨"InTheGardenModel", "readsNumber", "(III)Z"⟩, 38), (⟨"InTheGardenModel", "isDigit", "()Z"⟩, 38), (⟨"InTheGardenModel", "takes", "(I)Z"⟩, 38), (⟨"InTheGardenModel", "comes", "(I)Z"⟩, 38), (⟨"InTheGardenModel", "isPlace", "(I)Z"⟩, 38), (⟨"InTheGardenModel", "get", "(II)I"⟩, 38), (⟨"InTheGardenModel", "seesOne", "(II)Z"⟩, 38), (⟨"InTheGardenModel", "findFar", "()V"⟩, 38)]
theorem lw_r3 : ∀ q ∈ lw_privs_3, lw_okq q := List.forall_mem_cons.mpr ⟨lw_p32, List.forall_mem_cons.mpr ⟨lw_p33, List.forall_mem_cons.mpr ⟨lw_p34, List.forall_mem_cons.mpr ⟨lw_p35, List.forall_mem_cons.mpr ⟨lw_p36, List.forall_mem_cons.mpr ⟨lw_p37, List.forall_mem_cons.mpr ⟨lw_p38, List.forall_mem_cons.mpr ⟨lw_p39, List.forall_mem_cons.mpr ⟨lw_p40, List.forall_mem_cons.mpr ⟨lw_p41, List.forall_mem_cons.mpr ⟨lw_p42, List.forall_mem_cons.mpr ⟨lw_p43, List.forall_mem_cons.mpr ⟨lw_p44, List.forall_mem_cons.mpr ⟨lw_p45, List.forall_mem_cons.mpr ⟨lw_p46, List.forall_mem_cons.mpr ⟨lw_p47, fun _ h => absurd h List.not_mem_nil⟩⟩⟩⟩⟩⟩⟩⟩⟩⟩⟩⟩⟩⟩⟩⟩
theorem lw_p48 : lw_okq (⟨"InTheGardenModel", "isFar", "(II)Z"⟩, 38) := ⟨⟨by decide +kernel, by decide +kernel⟩, List.mem_of_getElem? (i := 974) (by decide +kernel), List.mem_of_getElem? (i := 1175) (by decide +kernel), List.mem_of_getElem? (i := 1176) (by decide +kernel)⟩
theorem lw_p49 : lw_okq (⟨"InTheGardenModel", "farOf", "(II)I"⟩, 38) := ⟨⟨by decide +kernel, by decide +kernel⟩, List.mem_of_getElem? (i := 974) (by decide +kernel), List.mem_of_getElem? (i := 1179) (by decide +kernel), List.mem_of_getElem? (i := 1180) (by decide +kernel)⟩
theorem lw_p50 : lw_okq (⟨"InTheGardenModel", "isHider", "(I)Z"⟩, 38) := ⟨⟨by decide +kernel, by decide +kernel⟩, List.mem_of_getElem? (i := 974) (by decide +kernel), List.mem_of_getElem? (i := 1187) (by decide +kernel), List.mem_of_getElem? (i := 1188) (by decide +kernel)⟩
theorem lw_p51 : lw_okq (⟨"InTheGardenModel", "isRoom", "(I)Z"⟩, 38) := ⟨⟨by decide +kernel, by decide +kernel⟩, List.mem_of_getElem? (i := 974) (by decide +kernel), List.mem_of_getElem? (i := 1195) (by decide +kernel), List.mem_of_getElem? (i := 1196) (by decide +kernel)⟩
theorem lw_p52 : lw_okq (⟨"InTheGardenModel", "becomes", "(II)I"⟩, 38) := ⟨⟨by decide +kernel, by decide +kernel⟩, List.mem_of_getElem? (i := 974) (by decide +kernel), List.mem_of_getElem? (i := 1202) (by decide +kernel), List.mem_of_getElem? (i := 1203) (by decide +kernel)⟩
theorem lw_p53 : lw_okq (⟨"InTheGardenModel", "coverOf", "(IIII)I"⟩, 38) := ⟨⟨by decide +kernel, by decide +kernel⟩, List.mem_of_getElem? (i := 974) (by decide +kernel), List.mem_of_getElem? (i := 1225) (by decide +kernel), List.mem_of_getElem? (i := 1226) (by decide +kernel)⟩
theorem lw_p54 : lw_okq (⟨"InTheGardenModel", "setOf", "(I)I"⟩, 38) := ⟨⟨by decide +kernel, by decide +kernel⟩, List.mem_of_getElem? (i := 974) (by decide +kernel), List.mem_of_getElem? (i := 1232) (by decide +kernel), List.mem_of_getElem? (i := 1233) (by decide +kernel)⟩
theorem lw_p55 : lw_okq (⟨"InTheGardenModel", "runOf", "(II)I"⟩, 38) := ⟨⟨by decide +kernel, by decide +kernel⟩, List.mem_of_getElem? (i := 974) (by decide +kernel), List.mem_of_getElem? (i := 1240) (by decide +kernel), List.mem_of_getElem? (i := 1241) (by decide +kernel)⟩
theorem lw_p56 : lw_okq (⟨"InTheGardenModel", "paced", "(II)I"⟩, 38) := ⟨⟨by decide +kernel, by decide +kernel⟩, List.mem_of_getElem? (i := 974) (by decide +kernel), List.mem_of_getElem? (i := 1244) (by decide +kernel), List.mem_of_getElem? (i := 1245) (by decide +kernel)⟩
theorem lw_p57 : lw_okq (⟨"InTheGardenModel", "paceOf", "(I)I"⟩, 38) := ⟨⟨by decide +kernel, by decide +kernel⟩, List.mem_of_getElem? (i := 974) (by decide +kernel), List.mem_of_getElem? (i := 1248) (by decide +kernel), List.mem_of_getElem? (i := 1249) (by decide +kernel)⟩
theorem lw_p58 : lw_okq (⟨"InTheGardenModel", "plays", "(I)V"⟩, 38) := ⟨⟨by decide +kernel, by decide +kernel⟩, List.mem_of_getElem? (i := 974) (by decide +kernel), List.mem_of_getElem? (i := 1256) (by decide +kernel), List.mem_of_getElem? (i := 1257) (by decide +kernel)⟩
theorem lw_p59 : lw_okq (⟨"InTheGardenModel", "chosen", "(I)I"⟩, 38) := ⟨⟨by decide +kernel, by decide +kernel⟩, List.mem_of_getElem? (i := 974) (by decide +kernel), List.mem_of_getElem? (i := 1260) (by decide +kernel), List.mem_of_getElem? (i := 1261) (by decide +kernel)⟩
theorem lw_p60 : lw_okq (⟨"InTheGardenModel", "may", "(II)Z"⟩, 38) := ⟨⟨by decide +kernel, by decide +kernel⟩, List.mem_of_getElem? (i := 974) (by decide +kernel), List.mem_of_getElem? (i := 1264) (by decide +kernel), List.mem_of_getElem? (i := 1265) (by decide +kernel)⟩
theorem lw_p61 : lw_okq (⟨"InTheGardenModel", "hidingIn", "(I)I"⟩, 38) := ⟨⟨by decide +kernel, by decide +kernel⟩, List.mem_of_getElem? (i := 974) (by decide +kernel), List.mem_of_getElem? (i := 1268) (by decide +kernel), List.mem_of_getElem? (i := 1269) (by decide +kernel)⟩
theorem lw_p62 : lw_okq (⟨"InTheGardenModel", "draw", "(I)I"⟩, 38) := ⟨⟨by decide +kernel, by decide +kernel⟩, List.mem_of_getElem? (i := 974) (by decide +kernel), List.mem_of_getElem? (i := 1272) (by decide +kernel), List.mem_of_getElem? (i := 1273) (by decide +kernel)⟩
theorem lw_p63 : lw_okq (⟨"InTheGardenModel", "catches", "(II)V"⟩, 38) := ⟨⟨by decide +kernel, by decide +kernel⟩, List.mem_of_getElem? (i := 974) (by decide +kernel), List.mem_of_getElem? (i := 1279) (by decide +kernel), List.mem_of_getElem? (i := 1280) (by decide +kernel)⟩
def lw_privs_4 : List (MethodName × Nat) := [(⟨"InTheGardenModel", "isFar", "(II)Z"⟩, 38), (⟨"InTheGardenModel", "farOf", "(II)I"⟩, 38), (⟨"InTheGardenModel", "isHider", "(I)Z"⟩, 38), (⟨"InTheGardenModel", "isRoom", "(I)Z"⟩, 38), (⟨"InTheGardenModel", "becomes", "(II)I"⟩, 38), (⟨"InTheGardenModel", "coverOf", "(IIII)I"⟩, 38), (⟨"InTheGardenModel", "setOf", "(I)I"⟩, 38), (⟨"InTheGardenModel", "runOf", "(II)I"⟩, 38), (⟨"InTheGardenModel", "paced", "(II)I"⟩, 38), (⟨"InTheGardenModel", "paceOf", "(I)I"⟩, 38), (⟨"InTheGardenModel", "plays", "(I)V"⟩, 38), (⟨"InTheGardenModel", "chosen", "(I)I"⟩, 38), (⟨"InTheGardenModel", "may", "(II)Z"⟩, 38), (⟨"InTheGardenModel", "hidingIn", "(I)I"⟩, 38), (⟨"InTheGardenModel", "draw", "(I)I"⟩, 38), (⟨"InTheGardenModel", "catches", "(II)V"⟩, 38)]
theorem lw_r4 : ∀ q ∈ lw_privs_4, lw_okq q := List.forall_mem_cons.mpr ⟨lw_p48, List.forall_mem_cons.mpr ⟨lw_p49, List.forall_mem_cons.mpr ⟨lw_p50, List.forall_mem_cons.mpr ⟨lw_p51, List.forall_mem_cons.mpr ⟨lw_p52, List.forall_mem_cons.mpr ⟨lw_p53, List.forall_mem_cons.mpr ⟨lw_p54, List.forall_mem_cons.mpr ⟨lw_p55, List.forall_mem_cons.mpr ⟨lw_p56, List.forall_mem_cons.mpr ⟨lw_p57, List.forall_mem_cons.mpr ⟨lw_p58, List.forall_mem_cons.mpr ⟨lw_p59, List.forall_mem_cons.mpr ⟨lw_p60, List.forall_mem_cons.mpr ⟨lw_p61, List.forall_mem_cons.mpr ⟨lw_p62, List.forall_mem_cons.mpr ⟨lw_p63, fun _ h => absurd h List.not_mem_nil⟩⟩⟩⟩⟩⟩⟩⟩⟩⟩⟩⟩⟩⟩⟩⟩
theorem lw_p64 : lw_okq (⟨"InTheGardenModel", "second", "(I)V"⟩, 38) := ⟨⟨by decide +kernel, by decide +kernel⟩, List.mem_of_getElem? (i := 974) (by decide +kernel), List.mem_of_getElem? (i := 1283) (by decide +kernel), List.mem_of_getElem? (i := 1284) (by decide +kernel)⟩
theorem lw_p65 : lw_okq (⟨"InTheGardenModel", "looks", "(I)V"⟩, 38) := ⟨⟨by decide +kernel, by decide +kernel⟩, List.mem_of_getElem? (i := 974) (by decide +kernel), List.mem_of_getElem? (i := 1287) (by decide +kernel), List.mem_of_getElem? (i := 1288) (by decide +kernel)⟩
theorem lw_p66 : lw_okq (⟨"InTheGardenModel", "ageOf", "(I)I"⟩, 38) := ⟨⟨by decide +kernel, by decide +kernel⟩, List.mem_of_getElem? (i := 974) (by decide +kernel), List.mem_of_getElem? (i := 1291) (by decide +kernel), List.mem_of_getElem? (i := 1292) (by decide +kernel)⟩
theorem lw_p67 : lw_okq (⟨"InTheGardenModel", "isOut", "()Z"⟩, 38) := ⟨⟨by decide +kernel, by decide +kernel⟩, List.mem_of_getElem? (i := 974) (by decide +kernel), List.mem_of_getElem? (i := 1295) (by decide +kernel), List.mem_of_getElem? (i := 1296) (by decide +kernel)⟩
theorem lw_p68 : lw_okq (⟨"InTheGardenModel", "frees", "(I)V"⟩, 38) := ⟨⟨by decide +kernel, by decide +kernel⟩, List.mem_of_getElem? (i := 974) (by decide +kernel), List.mem_of_getElem? (i := 1299) (by decide +kernel), List.mem_of_getElem? (i := 1300) (by decide +kernel)⟩
theorem lw_p69 : lw_okq (⟨"InTheGardenModel", "goesOn", "(I)V"⟩, 38) := ⟨⟨by decide +kernel, by decide +kernel⟩, List.mem_of_getElem? (i := 974) (by decide +kernel), List.mem_of_getElem? (i := 1303) (by decide +kernel), List.mem_of_getElem? (i := 1304) (by decide +kernel)⟩
theorem lw_p70 : lw_okq (⟨"InTheGardenModel", "goalNow", "()I"⟩, 38) := ⟨⟨by decide +kernel, by decide +kernel⟩, List.mem_of_getElem? (i := 974) (by decide +kernel), List.mem_of_getElem? (i := 1307) (by decide +kernel), List.mem_of_getElem? (i := 1308) (by decide +kernel)⟩
theorem lw_p71 : lw_okq (⟨"InTheGardenModel", "nextTo", "(II)I"⟩, 38) := ⟨⟨by decide +kernel, by decide +kernel⟩, List.mem_of_getElem? (i := 974) (by decide +kernel), List.mem_of_getElem? (i := 1311) (by decide +kernel), List.mem_of_getElem? (i := 1312) (by decide +kernel)⟩
theorem lw_p72 : lw_okq (⟨"InTheGardenModel", "back", "(I)I"⟩, 38) := ⟨⟨by decide +kernel, by decide +kernel⟩, List.mem_of_getElem? (i := 974) (by decide +kernel), List.mem_of_getElem? (i := 1315) (by decide +kernel), List.mem_of_getElem? (i := 1316) (by decide +kernel)⟩
theorem lw_p73 : lw_okq (⟨"InTheGardenModel", "howMany", "(I)I"⟩, 38) := ⟨⟨by decide +kernel, by decide +kernel⟩, List.mem_of_getElem? (i := 974) (by decide +kernel), List.mem_of_getElem? (i := 1319) (by decide +kernel), List.mem_of_getElem? (i := 1320) (by decide +kernel)⟩
theorem lw_p74 : lw_okq (⟨"InTheGardenModel", "tableOf", "(II)I"⟩, 38) := ⟨⟨by decide +kernel, by decide +kernel⟩, List.mem_of_getElem? (i := 974) (by decide +kernel), List.mem_of_getElem? (i := 1339) (by decide +kernel), List.mem_of_getElem? (i := 1340) (by decide +kernel)⟩
theorem lw_p75 : lw_okq (⟨"InTheGardenModel", "mayGoTo", "(I)Z"⟩, 38) := ⟨⟨by decide +kernel, by decide +kernel⟩, List.mem_of_getElem? (i := 974) (by decide +kernel), List.mem_of_getElem? (i := 1347) (by decide +kernel), List.mem_of_getElem? (i := 1348) (by decide +kernel)⟩
theorem lw_p76 : lw_okq (⟨"InTheGardenModel", "wrongGame", "(II)I"⟩, 38) := ⟨⟨by decide +kernel, by decide +kernel⟩, List.mem_of_getElem? (i := 974) (by decide +kernel), List.mem_of_getElem? (i := 1366) (by decide +kernel), List.mem_of_getElem? (i := 1367) (by decide +kernel)⟩
theorem lw_p77 : lw_okq (⟨"InTheGardenModel", "isGame", "(I)Z"⟩, 38) := ⟨⟨by decide +kernel, by decide +kernel⟩, List.mem_of_getElem? (i := 974) (by decide +kernel), List.mem_of_getElem? (i := 1370) (by decide +kernel), List.mem_of_getElem? (i := 1371) (by decide +kernel)⟩
theorem lw_p78 : lw_okq (⟨"InTheGardenModel", "goesGame", "(II)V"⟩, 38) := ⟨⟨by decide +kernel, by decide +kernel⟩, List.mem_of_getElem? (i := 974) (by decide +kernel), List.mem_of_getElem? (i := 1374) (by decide +kernel), List.mem_of_getElem? (i := 1375) (by decide +kernel)⟩
theorem lw_p79 : lw_okq (⟨"InTheGardenModel", "findTells", "(I)V"⟩, 38) := ⟨⟨by decide +kernel, by decide +kernel⟩, List.mem_of_getElem? (i := 974) (by decide +kernel), List.mem_of_getElem? (i := 1378) (by decide +kernel), List.mem_of_getElem? (i := 1379) (by decide +kernel)⟩
def lw_privs_5 : List (MethodName × Nat) := [(⟨"InTheGardenModel", "second", "(I)V"⟩, 38), (⟨"InTheGardenModel", "looks", "(I)V"⟩, 38), (⟨"InTheGardenModel", "ageOf", "(I)I"⟩, 38), (⟨"InTheGardenModel", "isOut", "()Z"⟩, 38), (⟨"InTheGardenModel", "frees", "(I)V"⟩, 38), (⟨"InTheGardenModel", "goesOn", "(I)V"⟩, 38), (⟨"InTheGardenModel", "goalNow", "()I"⟩, 38), (⟨"InTheGardenModel", "nextTo", "(II)I"⟩, 38), (⟨"InTheGardenModel", "back", "(I)I"⟩, 38), (⟨"InTheGardenModel", "howMany", "(I)I"⟩, 38), (⟨"InTheGardenModel", "tableOf", "(II)I"⟩, 38), (⟨"InTheGardenModel", "mayGoTo", "(I)Z"⟩, 38), (⟨"InTheGardenModel", "wrongGame", "(II)I"⟩, 38), (⟨"InTheGardenModel", "isGame", "(I)Z"⟩, 38), (⟨"InTheGardenModel", "goesGame", "(II)V"⟩, 38), (⟨"InTheGardenModel", "findTells", "(I)V"⟩, 38)]
theorem lw_r5 : ∀ q ∈ lw_privs_5, lw_okq q := List.forall_mem_cons.mpr ⟨lw_p64, List.forall_mem_cons.mpr ⟨lw_p65, List.forall_mem_cons.mpr ⟨lw_p66, List.forall_mem_cons.mpr ⟨lw_p67, List.forall_mem_cons.mpr ⟨lw_p68, List.forall_mem_cons.mpr ⟨lw_p69, List.forall_mem_cons.mpr ⟨lw_p70, List.forall_mem_cons.mpr ⟨lw_p71, List.forall_mem_cons.mpr ⟨lw_p72, List.forall_mem_cons.mpr ⟨lw_p73, List.forall_mem_cons.mpr ⟨lw_p74, List.forall_mem_cons.mpr ⟨lw_p75, List.forall_mem_cons.mpr ⟨lw_p76, List.forall_mem_cons.mpr ⟨lw_p77, List.forall_mem_cons.mpr ⟨lw_p78, List.forall_mem_cons.mpr ⟨lw_p79, fun _ h => absurd h List.not_mem_nil⟩⟩⟩⟩⟩⟩⟩⟩⟩⟩⟩⟩⟩⟩⟩⟩
theorem lw_p80 : lw_okq (⟨"InTheGardenModel", "findOrders", "(III)V"⟩, 38) := ⟨⟨by decide +kernel, by decide +kernel⟩, List.mem_of_getElem? (i := 974) (by decide +kernel), List.mem_of_getElem? (i := 1382) (by decide +kernel), List.mem_of_getElem? (i := 1383) (by decide +kernel)⟩
theorem lw_p81 : lw_okq (⟨"InTheGardenModel", "findsBy", "(II)I"⟩, 38) := ⟨⟨by decide +kernel, by decide +kernel⟩, List.mem_of_getElem? (i := 974) (by decide +kernel), List.mem_of_getElem? (i := 1405) (by decide +kernel), List.mem_of_getElem? (i := 1406) (by decide +kernel)⟩
def lw_privs_6 : List (MethodName × Nat) := [(⟨"InTheGardenModel", "findOrders", "(III)V"⟩, 38), (⟨"InTheGardenModel", "findsBy", "(II)I"⟩, 38)]
theorem lw_r6 : ∀ q ∈ lw_privs_6, lw_okq q := List.forall_mem_cons.mpr ⟨lw_p80, List.forall_mem_cons.mpr ⟨lw_p81, fun _ h => absurd h List.not_mem_nil⟩⟩
def lw_privs : List (MethodName × Nat) := lw_privs_1 ++ (lw_privs_2 ++ (lw_privs_3 ++ (lw_privs_4 ++ (lw_privs_5 ++ (lw_privs_6)))))
def lw_tbl : List Cond := k2_sels lw_privs ++ tables_1
theorem lw_privs_ok : ∀ q ∈ lw_privs, lw_okq q := by
  show ∀ q ∈ lw_privs_1 ++ (lw_privs_2 ++ (lw_privs_3 ++ (lw_privs_4 ++ (lw_privs_5 ++ (lw_privs_6))))), lw_okq q
  exact List.forall_mem_append.mpr ⟨lw_r1, List.forall_mem_append.mpr ⟨lw_r2, List.forall_mem_append.mpr ⟨lw_r3, List.forall_mem_append.mpr ⟨lw_r4, List.forall_mem_append.mpr ⟨lw_r5, lw_r6⟩⟩⟩⟩⟩
end
section
/-! ===== the small machine: shapes of cells, ops, runs ===== -/
abbrev g_SC : Type := (Nat × Nat) ⊕ (Nat × List (Option Nat))
abbrev g_Sh : Type := Nat × (Nat → g_SC)
abbrev g_M : Type := Nat → Nat → Int32
abbrev g_K : Type := Nat → List Value → List Value → g_M → Prop
abbrev g_R : Type := Option Value → g_M → Prop
abbrev g_C : Type := Nat → List Value → g_M → g_R → Prop
abbrev g_Op : Type := g_C → g_K → g_R → List Value → List Value → g_M → Prop
abbrev g_X : Type := Nat → Option (Nat × (Nat → Int32))
def g_cv (μ ξ : Nat → Nat) : Value → Value
  | .ref i => .ref (μ i)
  | .retAddr k => .ref (ξ k)
  | v => v
def g_at : List Value → Nat → Option Value
  | [], _ => none
  | v :: _, 0 => some v
  | _ :: r, n + 1 => g_at r n
def g_nth : List (Option Nat) → Nat → Option (Option Nat)
  | [], _ => none
  | v :: _, 0 => some v
  | _ :: r, n + 1 => g_nth r n
def g_set : Nat → Value → List Value → (List Value → Prop) → Prop
  | 0, v, _ :: r, k => k (v :: r)
  | 1, v, x :: _ :: r, k => (match x with | .long _ => k (.null :: v :: r) | .double _ => False | _ => k (x :: v :: r))
  | n + 2, v, x :: y :: r, k => g_set (n + 1) v (y :: r) (fun q => k (x :: q))
  | _, _, _, _ => False
def g_set2 : Nat → Value → List Value → (List Value → Prop) → Prop
  | 0, v, _ :: _ :: r, k => k (v :: .null :: r)
  | 1, v, x :: _ :: _ :: r, k => (match x with | .long _ => k (.null :: v :: .null :: r) | .double _ => False | _ => k (x :: v :: .null :: r))
  | n + 2, v, x :: y :: r, k => g_set2 (n + 1) v (y :: r) (fun q => k (x :: q))
  | _, _, _, _ => False
def g_ms (M : g_M) (a : Nat) (f : Nat → Int32) : g_M := fun c => if c = a then f else M c
/-- words of an operand stack -/
def g_wd : List Value → Nat
  | [] => 0
  | .long _ :: r => g_wd r + 2
  | .double _ :: r => g_wd r + 2
  | _ :: r => g_wd r + 1
def g_pop : Nat → List Value → List Value → (List Value → List Value → Prop) → Prop
  | 0, st, as, k => k as st
  | n + 1, v :: st, as, k => g_pop n st (v :: as) k
  | _ + 1, [], _, _ => False
/-- an object of class ci, its field k: a pointer or a number -/
def g_fv (sh : g_Sh) (ci k a : Nat) (M : g_M) (K : Value → Prop) : Prop :=
  cond (Nat.ble (a + 1) sh.1) (match sh.2 a with
    | .inr (cj, ps) => cond (Nat.beq ci cj) (match g_nth ps k with | some (some q) => K (.ref q) | some none => K (.int (M a k)) | none => False) False
    | .inl _ => False) False
/-- an object of class ci whose field k is a number -/
def g_fn (sh : g_Sh) (ci k a : Nat) (K : Prop) : Prop :=
  cond (Nat.ble (a + 1) sh.1) (match sh.2 a with
    | .inr (cj, ps) => cond (Nat.beq ci cj) (match g_nth ps k with | some none => K | _ => False) False
    | .inl _ => False) False
/-- an object of class ci -/
def g_ob (sh : g_Sh) (ci a : Nat) (K : Prop) : Prop :=
  cond (Nat.ble (a + 1) sh.1) (match sh.2 a with | .inr (cj, _) => cond (Nat.beq ci cj) K False | .inl _ => False) False
/-- an array of kind kd, of length n -/
def g_ar (sh : g_Sh) (kd a : Nat) (K : Nat → Prop) : Prop :=
  cond (Nat.ble (a + 1) sh.1) (match sh.2 a with | .inl (kj, n) => cond (Nat.beq kd kj) (K n) False | .inr _ => False) False
def g_xa (X : g_X) (k : Nat) (K : Nat → (Nat → Int32) → Prop) : Prop := match X k with | some (n, f) => K n f | none => False
/-! ops -/
def o_push (v : Value) (nx : Nat) : g_Op := fun _ K _ L st M => K nx L (v :: st) M
def o_iload (i nx : Nat) : g_Op := fun _ K _ L st M => match g_at L i with | some (.int x) => K nx L (.int x :: st) M | _ => False
def o_lload (i nx : Nat) : g_Op := fun _ K _ L st M => match g_at L i with | some (.long x) => K nx L (.long x :: st) M | _ => False
def o_aload (i nx : Nat) : g_Op := fun _ K _ L st M => match g_at L i with | some (.ref x) => K nx L (.ref x :: st) M | some (.retAddr x) => K nx L (.retAddr x :: st) M | _ => False
def o_istore (i nx : Nat) : g_Op := fun _ K _ L st M => match st with | .int x :: r => g_set i (.int x) L (fun q => K nx q r M) | _ => False
def o_astore (i nx : Nat) : g_Op := fun _ K _ L st M => match st with | .ref x :: r => g_set i (.ref x) L (fun q => K nx q r M) | .retAddr x :: r => g_set i (.retAddr x) L (fun q => K nx q r M) | _ => False
def o_lstore (i nx : Nat) : g_Op := fun _ K _ L st M => match st with | .long x :: r => g_set2 i (.long x) L (fun q => K nx q r M) | _ => False
def o_iinc (i : Nat) (c : Int32) (nx : Nat) : g_Op := fun _ K _ L st M => match g_at L i with | some (.int x) => g_set i (.int (x + c)) L (fun q => K nx q st M) | _ => False
def o_iadd (nx : Nat) : g_Op := fun _ K _ L st M => match st with | .int y :: .int x :: r => K nx L (.int (x + y) :: r) M | _ => False
def o_isub (nx : Nat) : g_Op := fun _ K _ L st M => match st with | .int y :: .int x :: r => K nx L (.int (x - y) :: r) M | _ => False
def o_imul (nx : Nat) : g_Op := fun _ K _ L st M => match st with | .int y :: .int x :: r => K nx L (.int (x * y) :: r) M | _ => False
def o_iand (nx : Nat) : g_Op := fun _ K _ L st M => match st with | .int y :: .int x :: r => K nx L (.int (x &&& y) :: r) M | _ => False
def o_ior (nx : Nat) : g_Op := fun _ K _ L st M => match st with | .int y :: .int x :: r => K nx L (.int (x ||| y) :: r) M | _ => False
def o_ixor (nx : Nat) : g_Op := fun _ K _ L st M => match st with | .int y :: .int x :: r => K nx L (.int (x ^^^ y) :: r) M | _ => False
def o_ishl (nx : Nat) : g_Op := fun _ K _ L st M => match st with | .int y :: .int x :: r => K nx L (.int (x <<< (y &&& 31)) :: r) M | _ => False
def o_ishr (nx : Nat) : g_Op := fun _ K _ L st M => match st with | .int y :: .int x :: r => K nx L (.int (x >>> (y &&& 31)) :: r) M | _ => False
def o_iushr (nx : Nat) : g_Op := fun _ K _ L st M => match st with | .int y :: .int x :: r => K nx L (.int ((x.toUInt32 >>> (y.toUInt32 &&& Int32.toUInt32 31)).toInt32) :: r) M | _ => False
def o_idiv (nx : Nat) : g_Op := fun _ K _ L st M => match st with | .int y :: .int x :: r => ¬ y = 0 ∧ K nx L (.int (x / y) :: r) M | _ => False
def o_irem (nx : Nat) : g_Op := fun _ K _ L st M => match st with | .int y :: .int x :: r => ¬ y = 0 ∧ K nx L (.int (x - x / y * y) :: r) M | _ => False
def o_max (nx : Nat) : g_Op := fun _ K _ L st M => match st with | .int y :: .int x :: r => cond (Nat.ble (g_wd r) 8) (K nx L (.int (if x < y then y else x) :: r) M) False | _ => False
def o_min (nx : Nat) : g_Op := fun _ K _ L st M => match st with | .int y :: .int x :: r => cond (Nat.ble (g_wd r) 8) (K nx L (.int (if y < x then y else x) :: r) M) False | _ => False
def o_land (nx : Nat) : g_Op := fun _ K _ L st M => match st with | .long y :: .long x :: r => K nx L (.long (x &&& y) :: r) M | _ => False
def o_lor (nx : Nat) : g_Op := fun _ K _ L st M => match st with | .long y :: .long x :: r => K nx L (.long (x ||| y) :: r) M | _ => False
def o_ldiv (nx : Nat) : g_Op := fun _ K _ L st M => match st with | .long y :: .long x :: r => ¬ y = 0 ∧ K nx L (.long (x / y) :: r) M | _ => False
def o_lrem (nx : Nat) : g_Op := fun _ K _ L st M => match st with | .long y :: .long x :: r => ¬ y = 0 ∧ K nx L (.long (x - x / y * y) :: r) M | _ => False
def o_lshl (nx : Nat) : g_Op := fun _ K _ L st M => match st with | .int y :: .long x :: r => K nx L (.long (x <<< (y.toInt64 &&& 63)) :: r) M | _ => False
def o_lshr (nx : Nat) : g_Op := fun _ K _ L st M => match st with | .int y :: .long x :: r => K nx L (.long (x >>> (y.toInt64 &&& 63)) :: r) M | _ => False
def o_lushr (nx : Nat) : g_Op := fun _ K _ L st M => match st with | .int y :: .long x :: r => K nx L (.long ((x.toUInt64 >>> (y.toInt64.toUInt64 &&& Int64.toUInt64 63)).toInt64) :: r) M | _ => False
def o_ineg (nx : Nat) : g_Op := fun _ K _ L st M => match st with | .int x :: r => K nx L (.int (-x) :: r) M | _ => False
def o_i2l (nx : Nat) : g_Op := fun _ K _ L st M => match st with | .int x :: r => K nx L (.long (x.toInt64) :: r) M | _ => False
def o_l2i (nx : Nat) : g_Op := fun _ K _ L st M => match st with | .long x :: r => K nx L (.int (x.toInt32) :: r) M | _ => False
def o_i2c (nx : Nat) : g_Op := fun _ K _ L st M => match st with | .int x :: r => K nx L (.int ((x.toUInt32 % 65536).toInt32) :: r) M | _ => False
def o_i2b (nx : Nat) : g_Op := fun _ K _ L st M => match st with | .int x :: r => K nx L (.int (x.toInt8.toInt32) :: r) M | _ => False
def o_dup (nx : Nat) : g_Op := fun _ K _ L st M => match st with | v :: r => (match v with | .long _ => False | .double _ => False | _ => K nx L (v :: v :: r) M) | _ => False
def o_dup2 (nx : Nat) : g_Op := fun _ K _ L st M => match st with | .int i :: .ref a :: r => K nx L (.int i :: .ref a :: .int i :: .ref a :: r) M | _ => False
def o_pushQ (k nx : Nat) : g_Op := fun _ K _ L st M => K nx L (.null :: st) M ∧ K nx L (.retAddr k :: st) M
def o_pop (nx : Nat) : g_Op := fun _ K _ L st M => match st with | .int _ :: r => K nx L r M | _ => False
def o_ic_eq (t nx : Nat) : g_Op := fun _ K _ L st M => match st with | .int y :: .int x :: r => (x = y → K t L r M) ∧ (¬ x = y → K nx L r M) | _ => False
def o_ic_ne (t nx : Nat) : g_Op := fun _ K _ L st M => match st with | .int y :: .int x :: r => (¬ x = y → K t L r M) ∧ (x = y → K nx L r M) | _ => False
def o_ic_lt (t nx : Nat) : g_Op := fun _ K _ L st M => match st with | .int y :: .int x :: r => (x < y → K t L r M) ∧ (¬ x < y → K nx L r M) | _ => False
def o_ic_ge (t nx : Nat) : g_Op := fun _ K _ L st M => match st with | .int y :: .int x :: r => (y ≤ x → K t L r M) ∧ (¬ y ≤ x → K nx L r M) | _ => False
def o_ic_gt (t nx : Nat) : g_Op := fun _ K _ L st M => match st with | .int y :: .int x :: r => (y < x → K t L r M) ∧ (¬ y < x → K nx L r M) | _ => False
def o_ic_le (t nx : Nat) : g_Op := fun _ K _ L st M => match st with | .int y :: .int x :: r => (x ≤ y → K t L r M) ∧ (¬ x ≤ y → K nx L r M) | _ => False
def o_if_eq (t nx : Nat) : g_Op := fun _ K _ L st M => match st with | .int x :: r => (x = 0 → K t L r M) ∧ (¬ x = 0 → K nx L r M) | _ => False
def o_if_ne (t nx : Nat) : g_Op := fun _ K _ L st M => match st with | .int x :: r => (¬ x = 0 → K t L r M) ∧ (x = 0 → K nx L r M) | _ => False
def o_if_lt (t nx : Nat) : g_Op := fun _ K _ L st M => match st with | .int x :: r => (x < 0 → K t L r M) ∧ (¬ x < 0 → K nx L r M) | _ => False
def o_if_ge (t nx : Nat) : g_Op := fun _ K _ L st M => match st with | .int x :: r => (0 ≤ x → K t L r M) ∧ (¬ 0 ≤ x → K nx L r M) | _ => False
def o_if_gt (t nx : Nat) : g_Op := fun _ K _ L st M => match st with | .int x :: r => (0 < x → K t L r M) ∧ (¬ 0 < x → K nx L r M) | _ => False
def o_if_le (t nx : Nat) : g_Op := fun _ K _ L st M => match st with | .int x :: r => (x ≤ 0 → K t L r M) ∧ (¬ x ≤ 0 → K nx L r M) | _ => False
def o_goto (t : Nat) : g_Op := fun _ K _ L st M => K t L st M
def g_sw : List (Int32 × Nat) → Nat → Int32 → (Nat → Prop) → Prop
  | [], d, _, k => k d
  | (c, t) :: r, d, x, k => (x = c → k t) ∧ (¬ x = c → g_sw r d x k)
def o_sw (ps : List (Int32 × Nat)) (d : Nat) : g_Op := fun _ K _ L st M => match st with | .int x :: r => g_sw ps d x (fun t => K t L r M) | _ => False
def o_getf (sh : g_Sh) (ci k nx : Nat) : g_Op := fun _ K _ L st M => match st with | .ref a :: r => g_fv sh ci k a M (fun v => K nx L (v :: r) M) | _ => False
def o_putf (sh : g_Sh) (ci k nx : Nat) : g_Op := fun _ K _ L st M => match st with | .int v :: .ref a :: r => g_fn sh ci k a (K nx L r (g_ms M a (upd (M a) k v))) | _ => False
def o_putz (sh : g_Sh) (ci k nx : Nat) : g_Op := fun _ K _ L st M => match st with | .int v :: .ref a :: r => g_fn sh ci k a ((v = 0 ∨ v = 1) ∧ K nx L r (g_ms M a (upd (M a) k v))) | _ => False
def o_xfld (f : Nat → Option Value) (nx : Nat) : g_Op := fun _ K _ L st M => match st with | .retAddr k :: r => (match f k with | some v => K nx L (v :: r) M | none => False) | _ => False
def o_iald (sh : g_Sh) (X : g_X) (nx : Nat) : g_Op := fun _ K _ L st M => match st with
  | .int i :: .ref a :: r => g_ar sh 0 a (fun n => vp_in i n ∧ K nx L (.int (M a i.toNatClampNeg) :: r) M)
  | .int i :: .retAddr k :: r => g_xa X k (fun n f => vp_in i n ∧ K nx L (.int (f i.toNatClampNeg) :: r) M)
  | _ => False
def o_iast (sh : g_Sh) (nx : Nat) : g_Op := fun _ K _ L st M => match st with
  | .int v :: .int i :: .ref a :: r => g_ar sh 0 a (fun n => vp_in i n ∧ K nx L r (g_ms M a (upd (M a) i.toNatClampNeg v)))
  | _ => False
def o_zald (sh : g_Sh) (nx : Nat) : g_Op := fun _ K _ L st M => match st with
  | .int i :: .ref a :: r => g_ar sh 1 a (fun n => vp_in i n ∧ K nx L (.int (M a i.toNatClampNeg) :: r) M)
  | _ => False
def o_zast (sh : g_Sh) (nx : Nat) : g_Op := fun _ K _ L st M => match st with
  | .int v :: .int i :: .ref a :: r => g_ar sh 1 a (fun n => vp_in i n ∧ (v = 0 ∨ v = 1) ∧ K nx L r (g_ms M a (upd (M a) i.toNatClampNeg v)))
  | _ => False
def o_bald (X : g_X) (nx : Nat) : g_Op := fun _ K _ L st M => match st with
  | .int i :: .retAddr k :: r => g_xa X k (fun n f => vp_in i n ∧ K nx L (.int (f i.toNatClampNeg) :: r) M)
  | _ => False
def o_alen (sh : g_Sh) (X : g_X) (nx : Nat) : g_Op := fun _ K _ L st M => match st with
  | .ref a :: r => g_ar sh 0 a (fun n => K nx L (.int (Int32.ofNat n) :: r) M)
  | .retAddr k :: r => g_xa X k (fun n _ => K nx L (.int (Int32.ofNat n) :: r) M)
  | _ => False
def g_cpok (sp dp n : Int32) (n0 n1 : Nat) : Prop := ¬ sp < 0 ∧ ¬ dp < 0 ∧ ¬ n < 0 ∧ sp.toNatClampNeg + n.toNatClampNeg ≤ n0 ∧ dp.toNatClampNeg + n.toNatClampNeg ≤ n1
def o_copy (sh : g_Sh) (nx : Nat) : g_Op := fun _ K _ L st M => match st with
  | .int n :: .int dp :: .ref a :: .int sp :: .ref b :: r => g_ar sh 0 b (fun n0 => g_ar sh 0 a (fun n1 => g_cpok sp dp n n0 n1 ∧ cond (Nat.ble (g_wd r) 8) (K nx L r (g_ms M a (va_cpy (M b) (M a) sp.toNatClampNeg dp.toNatClampNeg n.toNatClampNeg))) False))
  | _ => False
/-- a call with an answer: method k, n values taken; the receiver is of class ci -/
def o_callV (sh : g_Sh) (ci k n nx : Nat) : g_Op := fun cal K _ L st M => g_pop n st [] (fun as r => match as with
  | .ref a :: _ => g_ob sh ci a (cond (Nat.ble (g_wd r) 8) (cal k as M (fun v M' => match v with | some x => K nx L (x :: r) M' | none => False)) False)
  | _ => False)
def o_callVv (sh : g_Sh) (ci k n nx : Nat) : g_Op := fun cal K _ L st M => g_pop n st [] (fun as r => match as with
  | .ref a :: _ => g_ob sh ci a (cond (Nat.ble (g_wd r) 8) (cal k as M (fun v M' => match v with | some _ => False | none => K nx L r M')) False)
  | _ => False)
def o_callS (k n nx : Nat) : g_Op := fun cal K _ L st M => g_pop n st [] (fun as r => cond (Nat.ble (g_wd r) 8) (cal k as M (fun v M' => match v with | some x => K nx L (x :: r) M' | none => False)) False)
def o_callSv (k n nx : Nat) : g_Op := fun cal K _ L st M => g_pop n st [] (fun as r => cond (Nat.ble (g_wd r) 8) (cal k as M (fun v M' => match v with | some _ => False | none => K nx L r M')) False)
/-- a call on an external receiver (a String) -/
def o_callX (lo hi k n nx : Nat) : g_Op := fun cal K _ L st M => g_pop n st [] (fun as r => match as with
  | .retAddr a :: _ => cond (Nat.ble lo a) (cond (Nat.ble (a + 1) hi) (cond (Nat.ble (g_wd r) 8) (cal k as M (fun v M' => match v with | some x => K nx L (x :: r) M' | none => False)) False) False) False
  | _ => False)
def o_iret : g_Op := fun _ _ Q _ st M => match st with | [.int v] => Q (some (.int v)) M | _ => False
def o_nret (ty : FieldType) : g_Op := fun _ _ Q _ st M => match st with | [.int v] => narrow ty (.int v) = .int v ∧ Q (some (.int v)) M | _ => False
def o_aret : g_Op := fun _ _ Q _ st M => match st with | [.retAddr v] => Q (some (.retAddr v)) M | _ => False
def o_vret : g_Op := fun _ _ Q _ st M => match st with | [] => Q none M | _ => False
/-! code tables -/
def g_node (n : Nat) (f g : Nat → Option g_Op) : Nat → Option g_Op := fun pc => cond (Nat.ble n pc) (g pc) (f pc)
def g_leaf (p : Nat) (op : g_Op) : Nat → Option g_Op := fun pc => cond (Nat.beq pc p) (some op) none
/-! runs: the least predicate closed under the ops -/
def g_F (cal : g_C) (tb : Nat → Option g_Op) (Q : g_R) (P : g_K) : g_K := fun pc L st M => match tb pc with | some op => op cal P Q L st M | none => False
def g_Run (cal : g_C) (tb : Nat → Option g_Op) (Q : g_R) : g_K := fun pc L st M => ∀ P : g_K, (∀ pc L st M, g_F cal tb Q P pc L st M → P pc L st M) → P pc L st M
def g_wp (cal : g_C) (tb : Nat → Option g_Op) (Q : g_R) : Nat → Nat → List Value → List Value → g_M → Prop
  | 0, pc, L, st, M => g_Run cal tb Q pc L st M
  | n + 1, pc, L, st, M => match tb pc with | some op => op cal (g_wp cal tb Q n) Q L st M | none => False
def g_cmono (cal : g_C) : Prop := ∀ k as M (R R' : g_R), (∀ v N, R v N → R' v N) → cal k as M R → cal k as M R'
def g_mono (op : g_Op) : Prop := ∀ cal (P P' : g_K) (Q Q' : g_R) L st M, g_cmono cal → (∀ pc L st M, P pc L st M → P' pc L st M) → (∀ v N, Q v N → Q' v N) → op cal P Q L st M → op cal P' Q' L st M
def g_tbm (tb : Nat → Option g_Op) : Prop := ∀ pc op, tb pc = some op → g_mono op
theorem g_F_mono {cal : g_C} {tb : Nat → Option g_Op} {Q Q' : g_R} {P P' : g_K} (hc : g_cmono cal) (ht : g_tbm tb) (hP : ∀ pc L st M, P pc L st M → P' pc L st M) (hQ : ∀ v N, Q v N → Q' v N) {pc : Nat} {L st : List Value} {M : g_M} (h : g_F cal tb Q P pc L st M) : g_F cal tb Q' P' pc L st M := by
  unfold g_F at h ⊢
  cases e : tb pc with
  | none => rw [e] at h; exact h
  | some op => rw [e] at h; exact ht pc op e cal P P' Q Q' L st M hc hP hQ h
theorem g_fold {cal : g_C} {tb : Nat → Option g_Op} {Q : g_R} (hc : g_cmono cal) (ht : g_tbm tb) {pc : Nat} {L st : List Value} {M : g_M} (h : g_F cal tb Q (g_Run cal tb Q) pc L st M) : g_Run cal tb Q pc L st M := by
  intro P hP
  exact hP pc L st M (g_F_mono hc ht (fun pc L st M h => h P hP) (fun _ _ h => h) h)
theorem g_unfold {cal : g_C} {tb : Nat → Option g_Op} {Q : g_R} (hc : g_cmono cal) (ht : g_tbm tb) {pc : Nat} {L st : List Value} {M : g_M} (h : g_Run cal tb Q pc L st M) : g_F cal tb Q (g_Run cal tb Q) pc L st M :=
  h (fun pc L st M => g_F cal tb Q (g_Run cal tb Q) pc L st M) (fun pc L st M h => g_F_mono hc ht (fun pc L st M h => g_fold hc ht h) (fun _ _ h => h) h)
theorem g_Run_mono {cal : g_C} {tb : Nat → Option g_Op} {Q Q' : g_R} (hc : g_cmono cal) (ht : g_tbm tb) (hQ : ∀ v N, Q v N → Q' v N) {pc : Nat} {L st : List Value} {M : g_M} (h : g_Run cal tb Q pc L st M) : g_Run cal tb Q' pc L st M :=
  h (g_Run cal tb Q') (fun pc L st M h => g_fold hc ht (g_F_mono hc ht (fun _ _ _ _ h => h) hQ h))
theorem g_wp_iff {cal : g_C} {tb : Nat → Option g_Op} {Q : g_R} (hc : g_cmono cal) (ht : g_tbm tb) : ∀ (n pc : Nat) (L st : List Value) (M : g_M), g_wp cal tb Q n pc L st M ↔ g_Run cal tb Q pc L st M := by
  intro n
  induction n with
  | zero => intro pc L st M; exact Iff.rfl
  | succ n ih =>
    intro pc L st M
    constructor
    · intro h
      exact g_fold hc ht (g_F_mono hc ht (fun pc L st M h => (ih pc L st M).mp h) (fun _ _ h => h) (show g_F cal tb Q (g_wp cal tb Q n) pc L st M from h))
    · intro h
      exact (show g_F cal tb Q (g_wp cal tb Q n) pc L st M from g_F_mono hc ht (fun pc L st M h => (ih pc L st M).mpr h) (fun _ _ h => h) (g_unfold hc ht h))
/-! calls: by depth -/
def g_ent : List Value → Nat → (List Value → Prop) → Prop
  | [], 0, k => k []
  | [], n + 1, k => g_ent [] n (fun r => k (.null :: r))
  | .long x :: vs, n + 2, k => g_ent vs n (fun r => k (.long x :: .null :: r))
  | .int x :: vs, n + 1, k => g_ent vs n (fun r => k (.int x :: r))
  | .ref x :: vs, n + 1, k => g_ent vs n (fun r => k (.ref x :: r))
  | .retAddr x :: vs, n + 1, k => g_ent vs n (fun r => k (.retAddr x :: r))
  | .null :: vs, n + 1, k => g_ent vs n (fun r => k (.null :: r))
  | _, _, _ => False
theorem g_ent_mono : ∀ (as : List Value) (n : Nat) (k k' : List Value → Prop), (∀ L, k L → k' L) → g_ent as n k → g_ent as n k' := by
  intro as
  induction as with
  | nil =>
    intro n
    induction n with
    | zero => intro k k' h; exact h []
    | succ n ih => intro k k' h; exact ih _ _ (fun r => h _)
  | cons v vs ih =>
    intro n k k' h
    cases v with
    | int x => cases n with
      | zero => exact id
      | succ n => exact ih n _ _ (fun r => h _)
    | ref x => cases n with
      | zero => exact id
      | succ n => exact ih n _ _ (fun r => h _)
    | retAddr x => cases n with
      | zero => exact id
      | succ n => exact ih n _ _ (fun r => h _)
    | long x => match n with
      | 0 => exact id
      | 1 => exact id
      | n + 2 => exact ih n _ _ (fun r => h _)
    | float x => rcases n with _ | _ | n <;> exact id
    | double x => rcases n with _ | _ | n <;> exact id
    | null => cases n with
      | zero => exact id
      | succ n => exact ih n _ _ (fun r => h _)
def g_Cal (mt : Nat → Nat → Option g_Op) (nl : Nat → Nat) : Nat → g_C
  | 0, _, _, _, _ => False
  | d + 1, k, as, M, Q => g_ent as (nl k) (fun L => g_Run (g_Cal mt nl d) (mt k) Q 0 L [] M)
theorem g_Cal_mono {mt : Nat → Nat → Option g_Op} {nl : Nat → Nat} (ht : ∀ k, g_tbm (mt k)) : ∀ d, g_cmono (g_Cal mt nl d) := by
  intro d
  induction d with
  | zero => intro k as M R R' _ h; exact h
  | succ d ih => intro k as M R R' hR h; exact g_ent_mono _ _ _ _ (fun L h => g_Run_mono ih (ht k) hR h) h
theorem g_enter {mt : Nat → Nat → Option g_Op} {nl : Nat → Nat} (ht : ∀ k, g_tbm (mt k)) {d k : Nat} {as : List Value} {M : g_M} {Q : g_R} (n : Nat) {tb : Nat → Option g_Op} {m : Nat} (hb : mt k = tb) (hn : nl k = m) (h : g_ent as m (fun L => g_wp (g_Cal mt nl d) tb Q n 0 L [] M)) : g_Cal mt nl (d + 1) k as M Q := by
  subst hb; subst hn
  exact g_ent_mono _ _ _ _ (fun L h => (g_wp_iff (g_Cal_mono ht d) (ht k) n 0 L [] M).mp h) h
end
section
/-! ===== names: classes, fields, methods; words by their places ===== -/
def g_tbl : List Cond := lw_tbl.filter goodWord
theorem g_in {w : Cond} (i : Nat) (h : lw_tbl[i]? = some w) (hg : goodWord w = true) : w ∈ g_tbl := List.mem_filter.mpr ⟨List.mem_of_getElem? h, hg⟩
theorem g_tbl_good : GoodIn g_tbl g_tbl := fun w hw => ⟨hw, good_of_word (List.mem_filter.mp hw).2⟩
def gR0 : String := "InTheGarden$Game"
def gT0 : u_T := fun k => match k with
  | 0 => ("InTheGarden$Game", "tells", "[I", true)
  | 1 => ("InTheGarden$Game", "placeSums", "[I", true)
  | 2 => ("InTheGarden$Game", "orderSums", "[I", true)
  | 3 => ("InTheGarden$Game", "takenPlaces", "[I", true)
  | 4 => ("InTheGarden$Game", "placeCount", "I", false)
  | _ => ("InTheGarden$Game", "orderCount", "I", false)
def gY0 : Nat → FieldType := fun k => match k with
  | 0 => .array .int
  | 1 => .array .int
  | 2 => .array .int
  | 3 => .array .int
  | 4 => .int
  | _ => .int
theorem gN0 : ∀ a, a < 6 → ∀ b, b < 6 → a ≠ b → (gT0 a).2.1 ≠ (gT0 b).2.1 := by decide +kernel
theorem gYok0 : ∀ k, k < 6 → parseFieldDescriptor (gT0 k).2.2.1 = some (gY0 k) := by decide +kernel
theorem gI0_0 : u_lay gR0 gT0 0 ∈ g_tbl := g_in 365 (by decide +kernel) (by decide +kernel)
theorem gI0_1 : u_lay gR0 gT0 1 ∈ g_tbl := g_in 367 (by decide +kernel) (by decide +kernel)
theorem gI0_2 : u_lay gR0 gT0 2 ∈ g_tbl := g_in 369 (by decide +kernel) (by decide +kernel)
theorem gI0_3 : u_lay gR0 gT0 3 ∈ g_tbl := g_in 371 (by decide +kernel) (by decide +kernel)
theorem gI0_4 : u_lay gR0 gT0 4 ∈ g_tbl := g_in 373 (by decide +kernel) (by decide +kernel)
theorem gI0_5 : u_lay gR0 gT0 5 ∈ g_tbl := g_in 375 (by decide +kernel) (by decide +kernel)
theorem gI0 : ∀ w ∈ u_ws gR0 gT0 6, w ∈ g_tbl := by
  intro w hw
  obtain ⟨k, hk, rfl⟩ := List.mem_map.mp hw
  have hk := List.mem_range.mp hk
  match k, hk with
  | 0, _ => exact gI0_0
  | 1, _ => exact gI0_1
  | 2, _ => exact gI0_2
  | 3, _ => exact gI0_3
  | 4, _ => exact gI0_4
  | 5, _ => exact gI0_5
  | k + 6, h => exact absurd h (by omega)
def gR1 : String := "InTheGarden$Garden"
def gT1 : u_T := fun k => match k with
  | 0 => ("InTheGarden$Garden", "places", "I", false)
  | 1 => ("InTheGarden$Garden", "ways", "I", false)
  | 2 => ("InTheGarden$Garden", "hiders", "I", false)
  | 3 => ("InTheGarden$Garden", "kind", "[I", true)
  | 4 => ("InTheGarden$Garden", "room", "[I", true)
  | 5 => ("InTheGarden$Garden", "hidden", "[I", true)
  | 6 => ("InTheGarden$Garden", "times", "[I", true)
  | 7 => ("InTheGarden$Garden", "views", "[I", true)
  | 8 => ("InTheGarden$Garden", "age", "[I", true)
  | 9 => ("InTheGarden$Garden", "pace", "[I", true)
  | 10 => ("InTheGarden$Garden", "way", "[I", true)
  | 11 => ("InTheGarden$Garden", "far", "[I", true)
  | 12 => ("InTheGarden$Garden", "walk", "[I", true)
  | _ => ("InTheGarden$Garden", "flight", "[I", true)
def gY1 : Nat → FieldType := fun k => match k with
  | 0 => .int
  | 1 => .int
  | 2 => .int
  | 3 => .array .int
  | 4 => .array .int
  | 5 => .array .int
  | 6 => .array .int
  | 7 => .array .int
  | 8 => .array .int
  | 9 => .array .int
  | 10 => .array .int
  | 11 => .array .int
  | 12 => .array .int
  | _ => .array .int
theorem gN1 : ∀ a, a < 14 → ∀ b, b < 14 → a ≠ b → (gT1 a).2.1 ≠ (gT1 b).2.1 := by decide +kernel
theorem gYok1 : ∀ k, k < 14 → parseFieldDescriptor (gT1 k).2.2.1 = some (gY1 k) := by decide +kernel
theorem gI1_0 : u_lay gR1 gT1 0 ∈ g_tbl := g_in 175 (by decide +kernel) (by decide +kernel)
theorem gI1_1 : u_lay gR1 gT1 1 ∈ g_tbl := g_in 177 (by decide +kernel) (by decide +kernel)
theorem gI1_2 : u_lay gR1 gT1 2 ∈ g_tbl := g_in 179 (by decide +kernel) (by decide +kernel)
theorem gI1_3 : u_lay gR1 gT1 3 ∈ g_tbl := g_in 181 (by decide +kernel) (by decide +kernel)
theorem gI1_4 : u_lay gR1 gT1 4 ∈ g_tbl := g_in 183 (by decide +kernel) (by decide +kernel)
theorem gI1_5 : u_lay gR1 gT1 5 ∈ g_tbl := g_in 185 (by decide +kernel) (by decide +kernel)
theorem gI1_6 : u_lay gR1 gT1 6 ∈ g_tbl := g_in 187 (by decide +kernel) (by decide +kernel)
theorem gI1_7 : u_lay gR1 gT1 7 ∈ g_tbl := g_in 189 (by decide +kernel) (by decide +kernel)
theorem gI1_8 : u_lay gR1 gT1 8 ∈ g_tbl := g_in 191 (by decide +kernel) (by decide +kernel)
theorem gI1_9 : u_lay gR1 gT1 9 ∈ g_tbl := g_in 193 (by decide +kernel) (by decide +kernel)
theorem gI1_10 : u_lay gR1 gT1 10 ∈ g_tbl := g_in 195 (by decide +kernel) (by decide +kernel)
theorem gI1_11 : u_lay gR1 gT1 11 ∈ g_tbl := g_in 197 (by decide +kernel) (by decide +kernel)
theorem gI1_12 : u_lay gR1 gT1 12 ∈ g_tbl := g_in 199 (by decide +kernel) (by decide +kernel)
theorem gI1_13 : u_lay gR1 gT1 13 ∈ g_tbl := g_in 201 (by decide +kernel) (by decide +kernel)
theorem gI1 : ∀ w ∈ u_ws gR1 gT1 14, w ∈ g_tbl := by
  intro w hw
  obtain ⟨k, hk, rfl⟩ := List.mem_map.mp hw
  have hk := List.mem_range.mp hk
  match k, hk with
  | 0, _ => exact gI1_0
  | 1, _ => exact gI1_1
  | 2, _ => exact gI1_2
  | 3, _ => exact gI1_3
  | 4, _ => exact gI1_4
  | 5, _ => exact gI1_5
  | 6, _ => exact gI1_6
  | 7, _ => exact gI1_7
  | 8, _ => exact gI1_8
  | 9, _ => exact gI1_9
  | 10, _ => exact gI1_10
  | 11, _ => exact gI1_11
  | 12, _ => exact gI1_12
  | 13, _ => exact gI1_13
  | k + 14, h => exact absurd h (by omega)
def gR2 : String := "InTheGarden$Orders"
def gT2 : u_T := fun k => match k with
  | 0 => ("InTheGarden$Orders", "row", "[I", true)
  | _ => ("InTheGarden$Orders", "length", "I", false)
def gY2 : Nat → FieldType := fun k => match k with
  | 0 => .array .int
  | _ => .int
theorem gN2 : ∀ a, a < 2 → ∀ b, b < 2 → a ≠ b → (gT2 a).2.1 ≠ (gT2 b).2.1 := by decide +kernel
theorem gYok2 : ∀ k, k < 2 → parseFieldDescriptor (gT2 k).2.2.1 = some (gY2 k) := by decide +kernel
theorem gI2_0 : u_lay gR2 gT2 0 ∈ g_tbl := g_in 388 (by decide +kernel) (by decide +kernel)
theorem gI2_1 : u_lay gR2 gT2 1 ∈ g_tbl := g_in 390 (by decide +kernel) (by decide +kernel)
theorem gI2 : ∀ w ∈ u_ws gR2 gT2 2, w ∈ g_tbl := by
  intro w hw
  obtain ⟨k, hk, rfl⟩ := List.mem_map.mp hw
  have hk := List.mem_range.mp hk
  match k, hk with
  | 0, _ => exact gI2_0
  | 1, _ => exact gI2_1
  | k + 2, h => exact absurd h (by omega)
def gR3 : String := "InTheGarden$Reader"
def gT3 : u_T := fun k => match k with
  | 0 => ("InTheGarden$Reader", "tape", "[I", true)
  | 1 => ("InTheGarden$Reader", "value", "[I", true)
  | 2 => ("InTheGarden$Reader", "length", "I", false)
  | _ => ("InTheGarden$Reader", "at", "I", false)
def gY3 : Nat → FieldType := fun k => match k with
  | 0 => .array .int
  | 1 => .array .int
  | 2 => .int
  | _ => .int
theorem gN3 : ∀ a, a < 4 → ∀ b, b < 4 → a ≠ b → (gT3 a).2.1 ≠ (gT3 b).2.1 := by decide +kernel
theorem gYok3 : ∀ k, k < 4 → parseFieldDescriptor (gT3 k).2.2.1 = some (gY3 k) := by decide +kernel
theorem gI3_0 : u_lay gR3 gT3 0 ∈ g_tbl := g_in 333 (by decide +kernel) (by decide +kernel)
theorem gI3_1 : u_lay gR3 gT3 1 ∈ g_tbl := g_in 335 (by decide +kernel) (by decide +kernel)
theorem gI3_2 : u_lay gR3 gT3 2 ∈ g_tbl := g_in 337 (by decide +kernel) (by decide +kernel)
theorem gI3_3 : u_lay gR3 gT3 3 ∈ g_tbl := g_in 339 (by decide +kernel) (by decide +kernel)
theorem gI3 : ∀ w ∈ u_ws gR3 gT3 4, w ∈ g_tbl := by
  intro w hw
  obtain ⟨k, hk, rfl⟩ := List.mem_map.mp hw
  have hk := List.mem_range.mp hk
  match k, hk with
  | 0, _ => exact gI3_0
  | 1, _ => exact gI3_1
  | 2, _ => exact gI3_2
  | 3, _ => exact gI3_3
  | k + 4, h => exact absurd h (by omega)
def gR4 : String := "InTheGarden$Round"
def gT4 : u_T := fun k => match k with
  | 0 => ("InTheGarden$Round", "spot", "[I", true)
  | 1 => ("InTheGarden$Round", "state", "[I", true)
  | 2 => ("InTheGarden$Round", "when", "[I", true)
  | 3 => ("InTheGarden$Round", "foundOnes", "[I", true)
  | 4 => ("InTheGarden$Round", "roomLeft", "[I", true)
  | 5 => ("InTheGarden$Round", "hiders", "I", false)
  | 6 => ("InTheGarden$Round", "findCount", "I", false)
  | 7 => ("InTheGarden$Round", "lastSecond", "I", false)
  | 8 => ("InTheGarden$Round", "lookedAt", "I", false)
  | _ => ("InTheGarden$Round", "seed", "I", false)
def gY4 : Nat → FieldType := fun k => match k with
  | 0 => .array .int
  | 1 => .array .int
  | 2 => .array .int
  | 3 => .array .int
  | 4 => .array .int
  | 5 => .int
  | 6 => .int
  | 7 => .int
  | 8 => .int
  | _ => .int
theorem gN4 : ∀ a, a < 10 → ∀ b, b < 10 → a ≠ b → (gT4 a).2.1 ≠ (gT4 b).2.1 := by decide +kernel
theorem gYok4 : ∀ k, k < 10 → parseFieldDescriptor (gT4 k).2.2.1 = some (gY4 k) := by decide +kernel
theorem gI4_0 : u_lay gR4 gT4 0 ∈ g_tbl := g_in 254 (by decide +kernel) (by decide +kernel)
theorem gI4_1 : u_lay gR4 gT4 1 ∈ g_tbl := g_in 256 (by decide +kernel) (by decide +kernel)
theorem gI4_2 : u_lay gR4 gT4 2 ∈ g_tbl := g_in 258 (by decide +kernel) (by decide +kernel)
theorem gI4_3 : u_lay gR4 gT4 3 ∈ g_tbl := g_in 260 (by decide +kernel) (by decide +kernel)
theorem gI4_4 : u_lay gR4 gT4 4 ∈ g_tbl := g_in 262 (by decide +kernel) (by decide +kernel)
theorem gI4_5 : u_lay gR4 gT4 5 ∈ g_tbl := g_in 264 (by decide +kernel) (by decide +kernel)
theorem gI4_6 : u_lay gR4 gT4 6 ∈ g_tbl := g_in 266 (by decide +kernel) (by decide +kernel)
theorem gI4_7 : u_lay gR4 gT4 7 ∈ g_tbl := g_in 268 (by decide +kernel) (by decide +kernel)
theorem gI4_8 : u_lay gR4 gT4 8 ∈ g_tbl := g_in 270 (by decide +kernel) (by decide +kernel)
theorem gI4_9 : u_lay gR4 gT4 9 ∈ g_tbl := g_in 272 (by decide +kernel) (by decide +kernel)
theorem gI4 : ∀ w ∈ u_ws gR4 gT4 10, w ∈ g_tbl := by
  intro w hw
  obtain ⟨k, hk, rfl⟩ := List.mem_map.mp hw
  have hk := List.mem_range.mp hk
  match k, hk with
  | 0, _ => exact gI4_0
  | 1, _ => exact gI4_1
  | 2, _ => exact gI4_2
  | 3, _ => exact gI4_3
  | 4, _ => exact gI4_4
  | 5, _ => exact gI4_5
  | 6, _ => exact gI4_6
  | 7, _ => exact gI4_7
  | 8, _ => exact gI4_8
  | 9, _ => exact gI4_9
  | k + 10, h => exact absurd h (by omega)
def gR5 : String := "InTheGarden$Seeker"
def gT5 : u_T := fun k => match k with
  | 0 => ("InTheGarden$Seeker", "at", "I", false)
  | 1 => ("InTheGarden$Seeker", "next", "I", false)
  | 2 => ("InTheGarden$Seeker", "passed", "I", false)
  | 3 => ("InTheGarden$Seeker", "moment", "I", false)
  | _ => ("InTheGarden$Seeker", "walks", "Z", false)
def gY5 : Nat → FieldType := fun k => match k with
  | 0 => .int
  | 1 => .int
  | 2 => .int
  | 3 => .int
  | _ => .boolean
theorem gN5 : ∀ a, a < 5 → ∀ b, b < 5 → a ≠ b → (gT5 a).2.1 ≠ (gT5 b).2.1 := by decide +kernel
theorem gYok5 : ∀ k, k < 5 → parseFieldDescriptor (gT5 k).2.2.1 = some (gY5 k) := by decide +kernel
theorem gI5_0 : u_lay gR5 gT5 0 ∈ g_tbl := g_in 311 (by decide +kernel) (by decide +kernel)
theorem gI5_1 : u_lay gR5 gT5 1 ∈ g_tbl := g_in 313 (by decide +kernel) (by decide +kernel)
theorem gI5_2 : u_lay gR5 gT5 2 ∈ g_tbl := g_in 315 (by decide +kernel) (by decide +kernel)
theorem gI5_3 : u_lay gR5 gT5 3 ∈ g_tbl := g_in 317 (by decide +kernel) (by decide +kernel)
theorem gI5_4 : u_lay gR5 gT5 4 ∈ g_tbl := g_in 319 (by decide +kernel) (by decide +kernel)
theorem gI5 : ∀ w ∈ u_ws gR5 gT5 5, w ∈ g_tbl := by
  intro w hw
  obtain ⟨k, hk, rfl⟩ := List.mem_map.mp hw
  have hk := List.mem_range.mp hk
  match k, hk with
  | 0, _ => exact gI5_0
  | 1, _ => exact gI5_1
  | 2, _ => exact gI5_2
  | 3, _ => exact gI5_3
  | 4, _ => exact gI5_4
  | k + 5, h => exact absurd h (by omega)
def gR6 : String := "InTheGarden$Sight"
def gT6 : u_T := fun k => match k with
  | _ => ("InTheGarden$Sight", "cost", "[I", true)
def gY6 : Nat → FieldType := fun k => match k with
  | _ => .array .int
theorem gN6 : ∀ a, a < 1 → ∀ b, b < 1 → a ≠ b → (gT6 a).2.1 ≠ (gT6 b).2.1 := by decide +kernel
theorem gYok6 : ∀ k, k < 1 → parseFieldDescriptor (gT6 k).2.2.1 = some (gY6 k) := by decide +kernel
theorem gI6_0 : u_lay gR6 gT6 0 ∈ g_tbl := g_in 349 (by decide +kernel) (by decide +kernel)
theorem gI6 : ∀ w ∈ u_ws gR6 gT6 1, w ∈ g_tbl := by
  intro w hw
  obtain ⟨k, hk, rfl⟩ := List.mem_map.mp hw
  have hk := List.mem_range.mp hk
  match k, hk with
  | 0, _ => exact gI6_0
  | k + 1, h => exact absurd h (by omega)
def gR7 : String := "InTheGarden$Told"
def gT7 : u_T := fun k => match k with
  | 0 => ("InTheGarden$Told", "setting", "[I", true)
  | 1 => ("InTheGarden$Told", "places", "[I", true)
  | _ => ("InTheGarden$Told", "length", "I", false)
def gY7 : Nat → FieldType := fun k => match k with
  | 0 => .array .int
  | 1 => .array .int
  | _ => .int
theorem gN7 : ∀ a, a < 3 → ∀ b, b < 3 → a ≠ b → (gT7 a).2.1 ≠ (gT7 b).2.1 := by decide +kernel
theorem gYok7 : ∀ k, k < 3 → parseFieldDescriptor (gT7 k).2.2.1 = some (gY7 k) := by decide +kernel
theorem gI7_0 : u_lay gR7 gT7 0 ∈ g_tbl := g_in 224 (by decide +kernel) (by decide +kernel)
theorem gI7_1 : u_lay gR7 gT7 1 ∈ g_tbl := g_in 226 (by decide +kernel) (by decide +kernel)
theorem gI7_2 : u_lay gR7 gT7 2 ∈ g_tbl := g_in 228 (by decide +kernel) (by decide +kernel)
theorem gI7 : ∀ w ∈ u_ws gR7 gT7 3, w ∈ g_tbl := by
  intro w hw
  obtain ⟨k, hk, rfl⟩ := List.mem_map.mp hw
  have hk := List.mem_range.mp hk
  match k, hk with
  | 0, _ => exact gI7_0
  | 1, _ => exact gI7_1
  | 2, _ => exact gI7_2
  | k + 3, h => exact absurd h (by omega)
def gR8 : String := "InTheGarden$World"
def gT8 : u_T := fun k => match k with
  | 0 => ("InTheGarden$World", "garden", "LInTheGarden$Garden;", true)
  | 1 => ("InTheGarden$World", "told", "LInTheGarden$Told;", true)
  | 2 => ("InTheGarden$World", "latest", "LInTheGarden$Round;", true)
  | _ => ("InTheGarden$World", "played", "I", false)
def gY8 : Nat → FieldType := fun k => match k with
  | 0 => .object "InTheGarden$Garden"
  | 1 => .object "InTheGarden$Told"
  | 2 => .object "InTheGarden$Round"
  | _ => .int
theorem gN8 : ∀ a, a < 4 → ∀ b, b < 4 → a ≠ b → (gT8 a).2.1 ≠ (gT8 b).2.1 := by decide +kernel
theorem gYok8 : ∀ k, k < 4 → parseFieldDescriptor (gT8 k).2.2.1 = some (gY8 k) := by decide +kernel
theorem gI8_0 : u_lay gR8 gT8 0 ∈ g_tbl := g_in 283 (by decide +kernel) (by decide +kernel)
theorem gI8_1 : u_lay gR8 gT8 1 ∈ g_tbl := g_in 285 (by decide +kernel) (by decide +kernel)
theorem gI8_2 : u_lay gR8 gT8 2 ∈ g_tbl := g_in 287 (by decide +kernel) (by decide +kernel)
theorem gI8_3 : u_lay gR8 gT8 3 ∈ g_tbl := g_in 289 (by decide +kernel) (by decide +kernel)
theorem gI8 : ∀ w ∈ u_ws gR8 gT8 4, w ∈ g_tbl := by
  intro w hw
  obtain ⟨k, hk, rfl⟩ := List.mem_map.mp hw
  have hk := List.mem_range.mp hk
  match k, hk with
  | 0, _ => exact gI8_0
  | 1, _ => exact gI8_1
  | 2, _ => exact gI8_2
  | 3, _ => exact gI8_3
  | k + 4, h => exact absurd h (by omega)
def gR9 : String := "InTheGarden"
def gT9 : u_T := fun k => match k with
  | 0 => ("InTheGarden", "now", "LInTheGarden$World;", true)
  | 1 => ("InTheGarden", "kept", "LInTheGarden$World;", true)
  | 2 => ("InTheGarden", "draft", "LInTheGarden$Garden;", true)
  | 3 => ("InTheGarden", "trial", "LInTheGarden$Told;", true)
  | 4 => ("InTheGarden", "thought", "LInTheGarden$Round;", true)
  | 5 => ("InTheGarden", "seeker", "LInTheGarden$Seeker;", true)
  | 6 => ("InTheGarden", "reader", "LInTheGarden$Reader;", true)
  | 7 => ("InTheGarden", "sight", "LInTheGarden$Sight;", true)
  | 8 => ("InTheGarden", "contest", "LInTheGarden$Game;", true)
  | 9 => ("InTheGarden", "orders", "LInTheGarden$Orders;", true)
  | 10 => ("InTheGarden", "bestPlaces", "[I", true)
  | 11 => ("InTheGarden", "toldFinds", "[I", true)
  | 12 => ("InTheGarden", "refusals", "[I", true)
  | 13 => ("InTheGarden", "toldCount", "I", false)
  | _ => ("InTheGarden", "hasImage", "Z", false)
def gY9 : Nat → FieldType := fun k => match k with
  | 0 => .object "InTheGarden$World"
  | 1 => .object "InTheGarden$World"
  | 2 => .object "InTheGarden$Garden"
  | 3 => .object "InTheGarden$Told"
  | 4 => .object "InTheGarden$Round"
  | 5 => .object "InTheGarden$Seeker"
  | 6 => .object "InTheGarden$Reader"
  | 7 => .object "InTheGarden$Sight"
  | 8 => .object "InTheGarden$Game"
  | 9 => .object "InTheGarden$Orders"
  | 10 => .array .int
  | 11 => .array .int
  | 12 => .array .int
  | 13 => .int
  | _ => .boolean
theorem gN9 : ∀ a, a < 15 → ∀ b, b < 15 → a ≠ b → (gT9 a).2.1 ≠ (gT9 b).2.1 := by decide +kernel
theorem gYok9 : ∀ k, k < 15 → parseFieldDescriptor (gT9 k).2.2.1 = some (gY9 k) := by decide +kernel
theorem gI9_0 : u_lay gR9 gT9 0 ∈ g_tbl := g_in 408 (by decide +kernel) (by decide +kernel)
theorem gI9_1 : u_lay gR9 gT9 1 ∈ g_tbl := g_in 410 (by decide +kernel) (by decide +kernel)
theorem gI9_2 : u_lay gR9 gT9 2 ∈ g_tbl := g_in 412 (by decide +kernel) (by decide +kernel)
theorem gI9_3 : u_lay gR9 gT9 3 ∈ g_tbl := g_in 414 (by decide +kernel) (by decide +kernel)
theorem gI9_4 : u_lay gR9 gT9 4 ∈ g_tbl := g_in 416 (by decide +kernel) (by decide +kernel)
theorem gI9_5 : u_lay gR9 gT9 5 ∈ g_tbl := g_in 418 (by decide +kernel) (by decide +kernel)
theorem gI9_6 : u_lay gR9 gT9 6 ∈ g_tbl := g_in 420 (by decide +kernel) (by decide +kernel)
theorem gI9_7 : u_lay gR9 gT9 7 ∈ g_tbl := g_in 422 (by decide +kernel) (by decide +kernel)
theorem gI9_8 : u_lay gR9 gT9 8 ∈ g_tbl := g_in 424 (by decide +kernel) (by decide +kernel)
theorem gI9_9 : u_lay gR9 gT9 9 ∈ g_tbl := g_in 426 (by decide +kernel) (by decide +kernel)
theorem gI9_10 : u_lay gR9 gT9 10 ∈ g_tbl := g_in 428 (by decide +kernel) (by decide +kernel)
theorem gI9_11 : u_lay gR9 gT9 11 ∈ g_tbl := g_in 430 (by decide +kernel) (by decide +kernel)
theorem gI9_12 : u_lay gR9 gT9 12 ∈ g_tbl := g_in 432 (by decide +kernel) (by decide +kernel)
theorem gI9_13 : u_lay gR9 gT9 13 ∈ g_tbl := g_in 434 (by decide +kernel) (by decide +kernel)
theorem gI9_14 : u_lay gR9 gT9 14 ∈ g_tbl := g_in 436 (by decide +kernel) (by decide +kernel)
theorem gI9 : ∀ w ∈ u_ws gR9 gT9 15, w ∈ g_tbl := by
  intro w hw
  obtain ⟨k, hk, rfl⟩ := List.mem_map.mp hw
  have hk := List.mem_range.mp hk
  match k, hk with
  | 0, _ => exact gI9_0
  | 1, _ => exact gI9_1
  | 2, _ => exact gI9_2
  | 3, _ => exact gI9_3
  | 4, _ => exact gI9_4
  | 5, _ => exact gI9_5
  | 6, _ => exact gI9_6
  | 7, _ => exact gI9_7
  | 8, _ => exact gI9_8
  | 9, _ => exact gI9_9
  | 10, _ => exact gI9_10
  | 11, _ => exact gI9_11
  | 12, _ => exact gI9_12
  | 13, _ => exact gI9_13
  | 14, _ => exact gI9_14
  | k + 15, h => exact absurd h (by omega)
def gR10 : String := "InTheGardenModel"
def gT10 : u_T := fun k => match k with
  | 0 => ("InTheGardenModel", "refusals", "[I", true)
  | 1 => ("InTheGardenModel", "s", "[I", true)
  | 2 => ("InTheGardenModel", "image", "[I", true)
  | 3 => ("InTheGardenModel", "read", "[I", true)
  | 4 => ("InTheGardenModel", "isImage", "Z", false)
  | 5 => ("InTheGardenModel", "tape", "[I", true)
  | 6 => ("InTheGardenModel", "told", "[I", true)
  | 7 => ("InTheGardenModel", "taped", "I", false)
  | 8 => ("InTheGardenModel", "at", "I", false)
  | 9 => ("InTheGardenModel", "far", "[I", true)
  | 10 => ("InTheGardenModel", "direct", "[I", true)
  | 11 => ("InTheGardenModel", "where", "[I", true)
  | 12 => ("InTheGardenModel", "how", "[I", true)
  | 13 => ("InTheGardenModel", "when", "[I", true)
  | 14 => ("InTheGardenModel", "comesAt", "[I", true)
  | 15 => ("InTheGardenModel", "caught", "[I", true)
  | 16 => ("InTheGardenModel", "caughtAt", "[I", true)
  | 17 => ("InTheGardenModel", "seed", "I", false)
  | 18 => ("InTheGardenModel", "caughtMany", "I", false)
  | 19 => ("InTheGardenModel", "last", "I", false)
  | 20 => ("InTheGardenModel", "spot", "I", false)
  | 21 => ("InTheGardenModel", "to", "I", false)
  | 22 => ("InTheGardenModel", "comesNext", "I", false)
  | 23 => ("InTheGardenModel", "goesNext", "I", false)
  | 24 => ("InTheGardenModel", "inOrder", "I", false)
  | 25 => ("InTheGardenModel", "isOnWay", "Z", false)
  | 26 => ("InTheGardenModel", "least", "[I", true)
  | 27 => ("InTheGardenModel", "settled", "[Z", true)
  | 28 => ("InTheGardenModel", "tells", "[I", true)
  | 29 => ("InTheGardenModel", "orders", "[I", true)
  | 30 => ("InTheGardenModel", "placeSum", "[I", true)
  | 31 => ("InTheGardenModel", "orderSum", "[I", true)
  | 32 => ("InTheGardenModel", "takenOf", "[I", true)
  | 33 => ("InTheGardenModel", "orderMany", "I", false)
  | 34 => ("InTheGardenModel", "kept", "[I", true)
  | 35 => ("InTheGardenModel", "bestOrder", "[I", true)
  | 36 => ("InTheGardenModel", "row", "[I", true)
  | _ => ("InTheGardenModel", "rowed", "I", false)
def gY10 : Nat → FieldType := fun k => match k with
  | 0 => .array .int
  | 1 => .array .int
  | 2 => .array .int
  | 3 => .array .int
  | 4 => .boolean
  | 5 => .array .int
  | 6 => .array .int
  | 7 => .int
  | 8 => .int
  | 9 => .array .int
  | 10 => .array .int
  | 11 => .array .int
  | 12 => .array .int
  | 13 => .array .int
  | 14 => .array .int
  | 15 => .array .int
  | 16 => .array .int
  | 17 => .int
  | 18 => .int
  | 19 => .int
  | 20 => .int
  | 21 => .int
  | 22 => .int
  | 23 => .int
  | 24 => .int
  | 25 => .boolean
  | 26 => .array .int
  | 27 => .array .boolean
  | 28 => .array .int
  | 29 => .array .int
  | 30 => .array .int
  | 31 => .array .int
  | 32 => .array .int
  | 33 => .int
  | 34 => .array .int
  | 35 => .array .int
  | 36 => .array .int
  | _ => .int
theorem gN10 : ∀ a, a < 38 → ∀ b, b < 38 → a ≠ b → (gT10 a).2.1 ≠ (gT10 b).2.1 := by decide +kernel
theorem gYok10 : ∀ k, k < 38 → parseFieldDescriptor (gT10 k).2.2.1 = some (gY10 k) := by decide +kernel
theorem gI10_0 : u_lay gR10 gT10 0 ∈ g_tbl := g_in 1099 (by decide +kernel) (by decide +kernel)
theorem gI10_1 : u_lay gR10 gT10 1 ∈ g_tbl := g_in 1101 (by decide +kernel) (by decide +kernel)
theorem gI10_2 : u_lay gR10 gT10 2 ∈ g_tbl := g_in 1103 (by decide +kernel) (by decide +kernel)
theorem gI10_3 : u_lay gR10 gT10 3 ∈ g_tbl := g_in 1105 (by decide +kernel) (by decide +kernel)
theorem gI10_4 : u_lay gR10 gT10 4 ∈ g_tbl := g_in 1107 (by decide +kernel) (by decide +kernel)
theorem gI10_5 : u_lay gR10 gT10 5 ∈ g_tbl := g_in 1109 (by decide +kernel) (by decide +kernel)
theorem gI10_6 : u_lay gR10 gT10 6 ∈ g_tbl := g_in 1111 (by decide +kernel) (by decide +kernel)
theorem gI10_7 : u_lay gR10 gT10 7 ∈ g_tbl := g_in 1113 (by decide +kernel) (by decide +kernel)
theorem gI10_8 : u_lay gR10 gT10 8 ∈ g_tbl := g_in 1115 (by decide +kernel) (by decide +kernel)
theorem gI10_9 : u_lay gR10 gT10 9 ∈ g_tbl := g_in 1117 (by decide +kernel) (by decide +kernel)
theorem gI10_10 : u_lay gR10 gT10 10 ∈ g_tbl := g_in 1119 (by decide +kernel) (by decide +kernel)
theorem gI10_11 : u_lay gR10 gT10 11 ∈ g_tbl := g_in 1121 (by decide +kernel) (by decide +kernel)
theorem gI10_12 : u_lay gR10 gT10 12 ∈ g_tbl := g_in 1123 (by decide +kernel) (by decide +kernel)
theorem gI10_13 : u_lay gR10 gT10 13 ∈ g_tbl := g_in 1125 (by decide +kernel) (by decide +kernel)
theorem gI10_14 : u_lay gR10 gT10 14 ∈ g_tbl := g_in 1127 (by decide +kernel) (by decide +kernel)
theorem gI10_15 : u_lay gR10 gT10 15 ∈ g_tbl := g_in 1129 (by decide +kernel) (by decide +kernel)
theorem gI10_16 : u_lay gR10 gT10 16 ∈ g_tbl := g_in 1131 (by decide +kernel) (by decide +kernel)
theorem gI10_17 : u_lay gR10 gT10 17 ∈ g_tbl := g_in 1133 (by decide +kernel) (by decide +kernel)
theorem gI10_18 : u_lay gR10 gT10 18 ∈ g_tbl := g_in 1135 (by decide +kernel) (by decide +kernel)
theorem gI10_19 : u_lay gR10 gT10 19 ∈ g_tbl := g_in 1137 (by decide +kernel) (by decide +kernel)
theorem gI10_20 : u_lay gR10 gT10 20 ∈ g_tbl := g_in 1139 (by decide +kernel) (by decide +kernel)
theorem gI10_21 : u_lay gR10 gT10 21 ∈ g_tbl := g_in 1141 (by decide +kernel) (by decide +kernel)
theorem gI10_22 : u_lay gR10 gT10 22 ∈ g_tbl := g_in 1143 (by decide +kernel) (by decide +kernel)
theorem gI10_23 : u_lay gR10 gT10 23 ∈ g_tbl := g_in 1145 (by decide +kernel) (by decide +kernel)
theorem gI10_24 : u_lay gR10 gT10 24 ∈ g_tbl := g_in 1147 (by decide +kernel) (by decide +kernel)
theorem gI10_25 : u_lay gR10 gT10 25 ∈ g_tbl := g_in 1149 (by decide +kernel) (by decide +kernel)
theorem gI10_26 : u_lay gR10 gT10 26 ∈ g_tbl := g_in 1151 (by decide +kernel) (by decide +kernel)
theorem gI10_27 : u_lay gR10 gT10 27 ∈ g_tbl := g_in 1153 (by decide +kernel) (by decide +kernel)
theorem gI10_28 : u_lay gR10 gT10 28 ∈ g_tbl := g_in 1155 (by decide +kernel) (by decide +kernel)
theorem gI10_29 : u_lay gR10 gT10 29 ∈ g_tbl := g_in 1157 (by decide +kernel) (by decide +kernel)
theorem gI10_30 : u_lay gR10 gT10 30 ∈ g_tbl := g_in 1159 (by decide +kernel) (by decide +kernel)
theorem gI10_31 : u_lay gR10 gT10 31 ∈ g_tbl := g_in 1161 (by decide +kernel) (by decide +kernel)
theorem gI10_32 : u_lay gR10 gT10 32 ∈ g_tbl := g_in 1163 (by decide +kernel) (by decide +kernel)
theorem gI10_33 : u_lay gR10 gT10 33 ∈ g_tbl := g_in 1165 (by decide +kernel) (by decide +kernel)
theorem gI10_34 : u_lay gR10 gT10 34 ∈ g_tbl := g_in 1167 (by decide +kernel) (by decide +kernel)
theorem gI10_35 : u_lay gR10 gT10 35 ∈ g_tbl := g_in 1169 (by decide +kernel) (by decide +kernel)
theorem gI10_36 : u_lay gR10 gT10 36 ∈ g_tbl := g_in 1171 (by decide +kernel) (by decide +kernel)
theorem gI10_37 : u_lay gR10 gT10 37 ∈ g_tbl := g_in 1173 (by decide +kernel) (by decide +kernel)
theorem gI10 : ∀ w ∈ u_ws gR10 gT10 38, w ∈ g_tbl := by
  intro w hw
  obtain ⟨k, hk, rfl⟩ := List.mem_map.mp hw
  have hk := List.mem_range.mp hk
  match k, hk with
  | 0, _ => exact gI10_0
  | 1, _ => exact gI10_1
  | 2, _ => exact gI10_2
  | 3, _ => exact gI10_3
  | 4, _ => exact gI10_4
  | 5, _ => exact gI10_5
  | 6, _ => exact gI10_6
  | 7, _ => exact gI10_7
  | 8, _ => exact gI10_8
  | 9, _ => exact gI10_9
  | 10, _ => exact gI10_10
  | 11, _ => exact gI10_11
  | 12, _ => exact gI10_12
  | 13, _ => exact gI10_13
  | 14, _ => exact gI10_14
  | 15, _ => exact gI10_15
  | 16, _ => exact gI10_16
  | 17, _ => exact gI10_17
  | 18, _ => exact gI10_18
  | 19, _ => exact gI10_19
  | 20, _ => exact gI10_20
  | 21, _ => exact gI10_21
  | 22, _ => exact gI10_22
  | 23, _ => exact gI10_23
  | 24, _ => exact gI10_24
  | 25, _ => exact gI10_25
  | 26, _ => exact gI10_26
  | 27, _ => exact gI10_27
  | 28, _ => exact gI10_28
  | 29, _ => exact gI10_29
  | 30, _ => exact gI10_30
  | 31, _ => exact gI10_31
  | 32, _ => exact gI10_32
  | 33, _ => exact gI10_33
  | 34, _ => exact gI10_34
  | 35, _ => exact gI10_35
  | 36, _ => exact gI10_36
  | 37, _ => exact gI10_37
  | k + 38, h => exact absurd h (by omega)
def g_cls : List vw_C := [(gR0, gT0, 6), (gR1, gT1, 14), (gR2, gT2, 2), (gR3, gT3, 4), (gR4, gT4, 10), (gR5, gT5, 5), (gR6, gT6, 1), (gR7, gT7, 3), (gR8, gT8, 4), (gR9, gT9, 15), (gR10, gT10, 38)]
end
section
/-! ===== the small machine over the JVM: the world of a shape, the locals, contracts ===== -/
theorem g_cat (μ ξ : Nat → Nat) (v : Value) : (g_cv μ ξ v).category = v.category := by cases v <;> rfl
theorem g_wd_eq (μ ξ : Nat → Nat) : ∀ st : List Value, ((st.map (g_cv μ ξ)).map fun v => v.category).sum = g_wd st := by
  intro st
  induction st with
  | nil => rfl
  | cons v r ih =>
    rw [List.map_cons, List.map_cons, List.sum_cons, ih, g_cat]
    cases v <;> simp [g_wd, Value.category] <;> omega
def g_tys (cA : Nat → ClassId) : List (ClassId × FieldType) := [(cA 0, .int), (cA 1, .boolean)]
def g_fl (μ : Nat → Nat) (f : Nat → Int32) (k : Nat) (p : Option Nat) : Value := match p with
  | some q => .ref (μ q)
  | none => .int (f k)
def g_cell (cA : Nat → ClassId) (μ : Nat → Nat) (f : Nat → Int32) : g_SC → va_E
  | .inl (kd, n) => .inl (cA kd, (n, .inl f))
  | .inr (ci, ps) => .inr (ci, ps.mapIdx (g_fl μ f))
def g_wld (cA : Nat → ClassId) (μ : Nat → Nat) (M : g_M) (sh : g_Sh) : va_W := (List.range sh.1).map (fun a => (μ a, g_cell cA μ (M a) (sh.2 a)))
theorem g_wld_at {cA : Nat → ClassId} {μ : Nat → Nat} {M : g_M} {sh : g_Sh} {a : Nat} (h : a < sh.1) : (g_wld cA μ M sh)[a]? = some (μ a, g_cell cA μ (M a) (sh.2 a)) := by
  simp [g_wld, h]
theorem g_wld_set {cA : Nat → ClassId} {μ : Nat → Nat} {M : g_M} {sh : g_Sh} {a : Nat} (h : a < sh.1) (f : Nat → Int32) : (g_wld cA μ M sh).set a (μ a, g_cell cA μ f (sh.2 a)) = g_wld cA μ (g_ms M a f) sh := by
  apply List.ext_getElem?
  intro i
  by_cases hi : i = a
  · subst hi
    rw [List.getElem?_set_self (by simp [g_wld, h]), g_wld_at h]
    simp [g_ms]
  · rw [List.getElem?_set_ne (Ne.symm hi)]
    by_cases hl : i < sh.1
    · rw [g_wld_at hl, g_wld_at hl]
      simp [g_ms, hi]
    · simp [g_wld, hl]
theorem g_nth_eq : ∀ (ps : List (Option Nat)) (k : Nat), g_nth ps k = ps[k]? := by
  intro ps
  induction ps with
  | nil => intro k; simp [g_nth]
  | cons p r ih => intro k; cases k with
    | zero => simp [g_nth]
    | succ k => simp [g_nth, ih]
theorem g_fl_at {μ : Nat → Nat} {f : Nat → Int32} {ps : List (Option Nat)} {k : Nat} {p : Option Nat} (h : g_nth ps k = some p) : (ps.mapIdx (g_fl μ f))[k]? = some (g_fl μ f k p) := by
  rw [g_nth_eq] at h
  rw [List.getElem?_mapIdx, h]
  rfl
theorem g_fl_set {μ : Nat → Nat} {f : Nat → Int32} {ps : List (Option Nat)} {k : Nat} (h : g_nth ps k = some none) (v : Int32) : (ps.mapIdx (g_fl μ f)).set k (.int v) = ps.mapIdx (g_fl μ (upd f k v)) := by
  rw [g_nth_eq] at h
  have hl := (List.getElem?_eq_some_iff.mp h).1
  apply List.ext_getElem?
  intro i
  by_cases hi : i = k
  · subst hi
    rw [List.getElem?_set_self (by rw [List.length_mapIdx]; exact hl), List.getElem?_mapIdx, h]
    simp [g_fl, upd]
  · rw [List.getElem?_set_ne (Ne.symm hi), List.getElem?_mapIdx, List.getElem?_mapIdx]
    cases ps[i]? with
    | none => rfl
    | some p => cases p <;> simp [g_fl, upd, hi]
/-- the locals -/
def g_lr (μ ξ : Nat → Nat) (ls : Array Slot) (n : Nat) (L : List Value) : Prop := ls.size = n ∧ lv_wf ls ∧ L.length ≤ n ∧ ∀ i v, g_at L i = some v → v ≠ .null → ls[i]? = some (.val (g_cv μ ξ v))
theorem g_at_eq : ∀ (L : List Value) (k : Nat), g_at L k = L[k]? := by
  intro L
  induction L with
  | nil => intro k; simp [g_at]
  | cons p r ih => intro k; cases k with
    | zero => simp [g_at]
    | succ k => simp [g_at, ih]
/-- the listed form of the locals -/
def g_as (μ ξ : Nat → Nat) (L : List Value) : List (Nat × Value) := (List.range L.length).filterMap (fun i => match L[i]? with | some v => if v = .null then none else some (i, g_cv μ ξ v) | none => none)
theorem g_as_mem {μ ξ : Nat → Nat} {L : List Value} {j : Nat} {w : Value} : (j, w) ∈ g_as μ ξ L ↔ ∃ v, g_at L j = some v ∧ v ≠ .null ∧ w = g_cv μ ξ v := by
  simp only [g_as, List.mem_filterMap, List.mem_range, g_at_eq]
  constructor
  · rintro ⟨i, hi, h⟩
    cases e : L[i]? with
    | none => rw [e] at h; cases h
    | some v =>
      rw [e] at h
      by_cases hv : v = .null
      · simp [hv] at h
      · simp only [hv, if_false, Option.some.injEq, Prod.mk.injEq] at h
        obtain ⟨rfl, rfl⟩ := h
        exact ⟨v, e, hv, rfl⟩
  · rintro ⟨v, e, hv, rfl⟩
    refine ⟨j, (List.getElem?_eq_some_iff.mp e).1, ?_⟩
    rw [e]
    simp [hv]
theorem g_lr.has {μ ξ : Nat → Nat} {ls : Array Slot} {n : Nat} {L : List Value} (h : g_lr μ ξ ls n L) : lv_has ls n (g_as μ ξ L) := by
  refine ⟨h.1, h.2.1, fun q hq => ?_⟩
  obtain ⟨j, w⟩ := q
  obtain ⟨v, e, hv, rfl⟩ := g_as_mem.mp hq
  exact h.2.2.2 j v e hv
theorem g_lr.of {μ ξ : Nat → Nat} {ls : Array Slot} {n : Nat} {L : List Value} {l : List (Nat × Value)} (h : lv_has ls n l) (hl : L.length ≤ n) (hm : ∀ i v, g_at L i = some v → v ≠ .null → (i, g_cv μ ξ v) ∈ l) : g_lr μ ξ ls n L :=
  ⟨h.1, h.2.1, hl, fun i v e hv => h.2.2 (i, g_cv μ ξ v) (hm i v e hv)⟩
/-- what g_set does -/
theorem g_set_spec : ∀ (i : Nat) (v : Value) (L : List Value) (k : List Value → Prop), g_set i v L k → ∃ L', k L' ∧ L'.length = L.length ∧ i < L.length ∧ ∀ j w, g_at L' j = some w → w ≠ .null → (j = i ∧ w = v) ∨ (j ≠ i ∧ g_at L j = some w ∧ ¬ (j + 1 = i ∧ w.category = 2)) := by
  intro i
  induction i with
  | zero =>
    intro v L k h
    cases L with
    | nil => exact False.elim h
    | cons x r =>
      refine ⟨v :: r, h, rfl, by simp, fun j w e hw => ?_⟩
      cases j with
      | zero => left; exact ⟨rfl, (Option.some.inj e).symm⟩
      | succ j => right; exact ⟨by omega, e, by omega⟩
  | succ i ih =>
    intro v L k h
    cases i with
    | zero =>
      match L, h with
      | [], h => exact False.elim h
      | [x], h => exact False.elim h
      | x :: y :: r, h =>
        have key : ∀ x', k (x' :: v :: r) → (x' = .null ∨ (x' = x ∧ x.category = 1)) → ∃ L', k L' ∧ L'.length = (x :: y :: r).length ∧ 0 + 1 < (x :: y :: r).length ∧ ∀ j w, g_at L' j = some w → w ≠ .null → (j = 0 + 1 ∧ w = v) ∨ (j ≠ 0 + 1 ∧ g_at (x :: y :: r) j = some w ∧ ¬ (j + 1 = 0 + 1 ∧ w.category = 2)) := by
          intro x' hk hx
          refine ⟨x' :: v :: r, hk, rfl, by simp, fun j w e hw => ?_⟩
          match j, e with
          | 0, e =>
            have ew : x' = w := Option.some.inj e
            rcases hx with hx | ⟨hx, hc⟩
            · exact absurd (ew.symm.trans hx) hw
            · right
              rw [← ew, hx]
              exact ⟨by omega, rfl, fun z => by omega⟩
          | 1, e => left; exact ⟨rfl, (Option.some.inj e).symm⟩
          | j + 2, e => right; exact ⟨by omega, e, by omega⟩
        cases x with
        | long a => exact key _ h (Or.inl rfl)
        | double a => exact False.elim h
        | int a => exact key _ h (Or.inr ⟨rfl, rfl⟩)
        | float a => exact key _ h (Or.inr ⟨rfl, rfl⟩)
        | null => exact key _ h (Or.inr ⟨rfl, rfl⟩)
        | ref a => exact key _ h (Or.inr ⟨rfl, rfl⟩)
        | retAddr a => exact key _ h (Or.inr ⟨rfl, rfl⟩)
    | succ i =>
      match L, h with
      | [], h => exact False.elim h
      | [x], h => exact False.elim h
      | x :: y :: r, h =>
        obtain ⟨L', h1, h2, h3, h4⟩ := ih v (y :: r) (fun q => k (x :: q)) h
        refine ⟨x :: L', h1, by simp [h2], by simp at h3 ⊢; omega, fun j w e hw => ?_⟩
        cases j with
        | zero => right; exact ⟨by omega, e, by omega⟩
        | succ j =>
          rcases h4 j w e hw with ⟨a, b⟩ | ⟨a, b, c⟩
          · left; exact ⟨by omega, b⟩
          · right; exact ⟨by omega, b, fun z => c ⟨by omega, z.2⟩⟩
theorem g_set2_spec : ∀ (i : Nat) (v : Value) (L : List Value) (k : List Value → Prop), g_set2 i v L k → ∃ L', k L' ∧ L'.length = L.length ∧ i + 1 < L.length ∧ ∀ j w, g_at L' j = some w → w ≠ .null → (j = i ∧ w = v) ∨ (j ≠ i ∧ j ≠ i + 1 ∧ g_at L j = some w ∧ ¬ (j + 1 = i ∧ w.category = 2)) := by
  intro i
  induction i with
  | zero =>
    intro v L k h
    match L, h with
    | [], h => exact False.elim h
    | [x], h => exact False.elim h
    | x :: y :: r, h =>
      refine ⟨v :: .null :: r, h, rfl, by simp, fun j w e hw => ?_⟩
      match j, e with
      | 0, e => left; exact ⟨rfl, (Option.some.inj e).symm⟩
      | 1, e => exact absurd (Option.some.inj e).symm hw
      | j + 2, e => right; exact ⟨by omega, by omega, e, by omega⟩
  | succ i ih =>
    intro v L k h
    cases i with
    | zero =>
      match L, h with
      | [], h => exact False.elim h
      | [x], h => exact False.elim h
      | [x, y], h => exact False.elim h
      | x :: y :: z :: r, h =>
        have key : ∀ x', k (x' :: v :: .null :: r) → (x' = .null ∨ (x' = x ∧ x.category = 1)) → ∃ L', k L' ∧ L'.length = (x :: y :: z :: r).length ∧ 0 + 1 + 1 < (x :: y :: z :: r).length ∧ ∀ j w, g_at L' j = some w → w ≠ .null → (j = 0 + 1 ∧ w = v) ∨ (j ≠ 0 + 1 ∧ j ≠ 0 + 1 + 1 ∧ g_at (x :: y :: z :: r) j = some w ∧ ¬ (j + 1 = 0 + 1 ∧ w.category = 2)) := by
          intro x' hk hx
          refine ⟨x' :: v :: .null :: r, hk, rfl, by simp, fun j w e hw => ?_⟩
          match j, e with
          | 0, e =>
            have ew : x' = w := Option.some.inj e
            rcases hx with hx | ⟨hx, hc⟩
            · exact absurd (ew.symm.trans hx) hw
            · right
              rw [← ew, hx]
              exact ⟨by omega, by omega, rfl, fun z => by omega⟩
          | 1, e => left; exact ⟨rfl, (Option.some.inj e).symm⟩
          | 2, e => exact absurd (Option.some.inj e).symm hw
          | j + 3, e => right; exact ⟨by omega, by omega, e, by omega⟩
        cases x with
        | long a => exact key _ h (Or.inl rfl)
        | double a => exact False.elim h
        | int a => exact key _ h (Or.inr ⟨rfl, rfl⟩)
        | float a => exact key _ h (Or.inr ⟨rfl, rfl⟩)
        | null => exact key _ h (Or.inr ⟨rfl, rfl⟩)
        | ref a => exact key _ h (Or.inr ⟨rfl, rfl⟩)
        | retAddr a => exact key _ h (Or.inr ⟨rfl, rfl⟩)
    | succ i =>
      match L, h with
      | [], h => exact False.elim h
      | [x], h => exact False.elim h
      | x :: y :: r, h =>
        obtain ⟨L', h1, h2, h3, h4⟩ := ih v (y :: r) (fun q => k (x :: q)) h
        refine ⟨x :: L', h1, by simp [h2], by simp at h3 ⊢; omega, fun j w e hw => ?_⟩
        cases j with
        | zero => right; exact ⟨by omega, by omega, e, by omega⟩
        | succ j =>
          rcases h4 j w e hw with ⟨a, b⟩ | ⟨a, b, c, d⟩
          · left; exact ⟨by omega, b⟩
          · right; exact ⟨by omega, by omega, c, fun z => d ⟨by omega, z.2⟩⟩
/-- the locals behind a store of one slot, as the kit lists them -/
theorem g_lr.st1 {μ ξ : Nat → Nat} {ls : Array Slot} {n i : Nat} {v : Value} {L L' : List Value} (hl : L.length ≤ n) (hL : L'.length = L.length) (hs : ∀ j w, g_at L' j = some w → w ≠ .null → (j = i ∧ w = v) ∨ (j ≠ i ∧ g_at L j = some w ∧ ¬ (j + 1 = i ∧ w.category = 2)))
    (h : lv_has ls n ((i, g_cv μ ξ v) :: (g_as μ ξ L).filter (fun q => !(q.1 == i) && !(q.1 + 1 == i && q.2.category == 2)))) : g_lr μ ξ ls n L' := by
  refine g_lr.of h (by omega) (fun j w e hw => ?_)
  rcases hs j w e hw with ⟨rfl, rfl⟩ | ⟨a, b, c⟩
  · exact List.mem_cons_self
  · refine List.mem_cons_of_mem _ (List.mem_filter.mpr ⟨g_as_mem.mpr ⟨w, b, hw, rfl⟩, ?_⟩)
    rw [g_cat]
    simp only [Bool.and_eq_true, Bool.not_eq_true', beq_eq_false_iff_ne, ne_eq, Bool.and_eq_false_iff]
    refine ⟨a, ?_⟩
    by_cases z : j + 1 = i
    · right; exact fun z2 => c ⟨z, z2⟩
    · left; exact z
theorem g_lr.st2 {μ ξ : Nat → Nat} {ls : Array Slot} {n i : Nat} {v : Value} {L L' : List Value} (hl : L.length ≤ n) (hL : L'.length = L.length) (hs : ∀ j w, g_at L' j = some w → w ≠ .null → (j = i ∧ w = v) ∨ (j ≠ i ∧ j ≠ i + 1 ∧ g_at L j = some w ∧ ¬ (j + 1 = i ∧ w.category = 2)))
    (h : lv_has ls n ((i, g_cv μ ξ v) :: (g_as μ ξ L).filter (fun q => !(q.1 == i) && (!(q.1 == i + 1) && !(q.1 + 1 == i && q.2.category == 2))))) : g_lr μ ξ ls n L' := by
  refine g_lr.of h (by omega) (fun j w e hw => ?_)
  rcases hs j w e hw with ⟨rfl, rfl⟩ | ⟨a, b, c, d⟩
  · exact List.mem_cons_self
  · refine List.mem_cons_of_mem _ (List.mem_filter.mpr ⟨g_as_mem.mpr ⟨w, c, hw, rfl⟩, ?_⟩)
    rw [g_cat]
    simp only [Bool.and_eq_true, Bool.not_eq_true', beq_eq_false_iff_ne, ne_eq, Bool.and_eq_false_iff]
    refine ⟨a, b, ?_⟩
    by_cases z : j + 1 = i
    · right; exact fun z2 => d ⟨z, z2⟩
    · left; exact z
/-- the locals at a method's entry -/
theorem g_ent_spec : ∀ (as : List Value) (n : Nat) (k : List Value → Prop), g_ent as n k → ∃ L, k L ∧ L.length = n ∧ (lg_sl as).length ≤ n ∧ ∀ (b i : Nat) (w : Value) (μ ξ : Nat → Nat), g_at L i = some w → w ≠ .null → (b + i, g_cv μ ξ w) ∈ lv_args b (as.map (g_cv μ ξ)) := by
  intro as
  induction as with
  | nil =>
    intro n
    induction n with
    | zero => intro k h; exact ⟨[], h, rfl, by simp [lg_sl], fun b i w μ ξ e => by simp [g_at] at e⟩
    | succ n ih =>
      intro k h
      obtain ⟨L, h1, h2, h3, h4⟩ := ih (fun r => k (.null :: r)) h
      refine ⟨.null :: L, h1, by simp [h2], by simp [lg_sl], fun b i w μ ξ e hw => ?_⟩
      cases i with
      | zero => exact absurd (Option.some.inj e).symm hw
      | succ i =>
        have h5 := h4 b i w μ ξ e hw
        simp [lv_args] at h5
  | cons v vs ih =>
    intro n k h
    have one : ∀ (n' : Nat), n = n' + 1 → v.category = 1 → g_ent vs n' (fun r => k (v :: r)) → ∃ L, k L ∧ L.length = n ∧ (lg_sl (v :: vs)).length ≤ n ∧ ∀ (b i : Nat) (w : Value) (μ ξ : Nat → Nat), g_at L i = some w → w ≠ .null → (b + i, g_cv μ ξ w) ∈ lv_args b ((v :: vs).map (g_cv μ ξ)) := by
      intro n' hn hc h
      obtain ⟨L, h1, h2, h3, h4⟩ := ih n' (fun r => k (v :: r)) h
      have e1 : (lg_sl (v :: vs)).length = 1 + (lg_sl vs).length := by simp [lg_sl, hc]; omega
      refine ⟨v :: L, h1, by simp [h2, hn], by omega, fun b i w μ ξ e hw => ?_⟩
      simp only [List.map_cons, lv_args, g_cat, hc]
      cases i with
      | zero =>
        have : v = w := Option.some.inj e
        subst this
        simp
      | succ i =>
        refine List.mem_cons_of_mem _ ?_
        have h5 := h4 (b + 1) i w μ ξ e hw
        rw [show b + (i + 1) = b + 1 + i by omega]
        simpa using h5
    cases v with
    | int x => cases n with
      | zero => exact False.elim h
      | succ n => exact one n rfl rfl h
    | ref x => cases n with
      | zero => exact False.elim h
      | succ n => exact one n rfl rfl h
    | retAddr x => cases n with
      | zero => exact False.elim h
      | succ n => exact one n rfl rfl h
    | long x => match n, h with
      | 0, h => exact False.elim h
      | 1, h => exact False.elim h
      | n + 2, h =>
        obtain ⟨L, h1, h2, h3, h4⟩ := ih n (fun r => k (.long x :: .null :: r)) h
        have e1 : (lg_sl (.long x :: vs)).length = 2 + (lg_sl vs).length := by simp [lg_sl, Value.category]; omega
        refine ⟨.long x :: .null :: L, h1, by simp [h2], by omega, fun b i w μ ξ e hw => ?_⟩
        have hc : (Value.long x).category = 2 := rfl
        simp only [List.map_cons, lv_args, g_cat, hc, if_true]
        match i, e with
        | 0, e =>
          have : Value.long x = w := Option.some.inj e
          subst this
          simp
        | 1, e => exact absurd (Option.some.inj e).symm hw
        | i + 2, e =>
          refine List.mem_cons_of_mem _ ?_
          have h5 := h4 (b + 2) i w μ ξ e hw
          rw [show b + (i + 2) = b + 2 + i by omega]
          exact h5
    | float x => rcases n with _ | _ | n <;> exact False.elim h
    | double x => rcases n with _ | _ | n <;> exact False.elim h
    | null => cases n with
      | zero => exact False.elim h
      | succ n => exact one n rfl rfl h
end
section
/-! ===== contracts of the small machine, and what holds within a method ===== -/
def g_len : List Nat := [4, 5, 3, 4, 0, 8]
def g_byt : List (List Int32) := [[75, 68, 84, 59], [68, 68, 44, 78, 59], [68, 68, 59], [78, 44, 68, 59], [], [112, 107, 115, 103, 109, 110, 104, 100]]
def g_st (i : Nat) : List Int32 := match i with
  | 1 => [40, 0, 5, 0, 0, 300, 1]
  | 2 => [1, 0, 0, 0, 0, 10, 0]
  | _ => [99, 50, 60, 4, 1, 900, 9]
/-- the external arrays: 1, 2, 3 the tables of settings; 20 .. 25 the bytes of the texts -/
def g_x0 : g_X := fun k => cond (Nat.ble 20 k) (cond (Nat.ble 26 k) none (some (g_len.getD (k - 20) 0, fun j => (g_byt.getD (k - 20) []).getD j 0))) (cond (Nat.ble 1 k) (cond (Nat.ble k 3) (some (7, fun j => (g_st k).getD j 0)) none) none)
def g_ext (ξ : Nat → Nat) (A : Nat → Prop) (U : State) (H : Heap) : Prop :=
  va_T .int (ξ 1) 7 (fun j => .int ((g_st 1).getD j 0)) A U H ∧ va_T .int (ξ 2) 7 (fun j => .int ((g_st 2).getD j 0)) A U H ∧ va_T .int (ξ 3) 7 (fun j => .int ((g_st 3).getD j 0)) A U H ∧
  va_Z "InTheGarden" "SETTING_FIRST" "[I" (.ref (ξ 1)) A U H ∧ va_Z "InTheGarden" "SETTING_LEAST" "[I" (.ref (ξ 2)) A U H ∧ va_Z "InTheGarden" "SETTING_MOST" "[I" (.ref (ξ 3)) A U H ∧
  va_Z "java/lang/String" "COMPACT_STRINGS" "Z" (.int 1) A U H ∧ (va_Z "jdk/internal/util/Preconditions" "SIOOBE_FORMATTER" "Ljava/util/function/BiFunction;" .null A U H ∨ va_Z "jdk/internal/util/Preconditions" "SIOOBE_FORMATTER" "Ljava/util/function/BiFunction;" (.ref (ξ 40)) A U H) ∧
  vk_S 6 g_len g_byt (fun i => ξ (10 + i)) (fun i => ξ (20 + i)) A U H ∧
  vk_R "InTheGarden$Reader" 65 "KDT;" (ξ 10) U ∧ vk_R "InTheGarden$Reader" 67 "DD,N;" (ξ 11) U ∧ vk_R "InTheGarden$Reader" 69 "DD;" (ξ 12) U ∧ vk_R "InTheGarden$Reader" 71 "N,D;" (ξ 13) U ∧ vk_R "InTheGarden$Reader" 73 "" (ξ 14) U ∧ vk_R "InTheGarden$Reader" 83 "pksgmnhd" (ξ 15) U
theorem g_ext.warm {ξ : Nat → Nat} {A : Nat → Prop} {u U : State} {H : Heap} (hW : u.WarmedH U.vm) (h : g_ext ξ A u H) : g_ext ξ A U H := by
  obtain ⟨h1, h2, h3, h4, h5, h6, h7, h8, h9, r1, r2, r3, r4, r5, r6⟩ := h
  refine ⟨va_T.moved hW.alike h1, va_T.moved hW.alike h2, va_T.moved hW.alike h3, va_Z.moved hW.alike h4, va_Z.moved hW.alike h5, va_Z.moved hW.alike h6, va_Z.moved hW.alike h7, ?_, vk_S.moved hW.alike h9, vk_R.warm hW r1, vk_R.warm hW r2, vk_R.warm hW r3, vk_R.warm hW r4, vk_R.warm hW r5, vk_R.warm hW r6⟩
  rcases h8 with h | h
  · exact Or.inl (va_Z.moved hW.alike h)
  · exact Or.inr (va_Z.moved hW.alike h)
theorem g_ext.same {ξ : Nat → Nat} {A : Nat → Prop} {u U : State} {H : Heap} (hv : U.vm = u.vm) (h : g_ext ξ A u H) : g_ext ξ A U H := by
  obtain ⟨h1, h2, h3, h4, h5, h6, h7, h8, h9, r1, r2, r3, r4, r5, r6⟩ := h
  have al : u.vm.Alike U.vm := by rw [hv]; exact Vm.Alike.refl u.vm
  refine ⟨va_T.moved al h1, va_T.moved al h2, va_T.moved al h3, va_Z.moved al h4, va_Z.moved al h5, va_Z.moved al h6, va_Z.moved al h7, ?_, vk_S.moved al h9, vk_R.same hv r1, vk_R.same hv r2, vk_R.same hv r3, vk_R.same hv r4, vk_R.same hv r5, vk_R.same hv r6⟩
  rcases h8 with h | h
  · exact Or.inl (va_Z.moved al h)
  · exact Or.inr (va_Z.moved al h)
theorem g_ext.kept {ξ : Nat → Nat} {A : Nat → Prop} {U : State} {H H1 : Heap} (h : g_ext ξ A U H) (hq : ∀ a : Nat, a < H.size → ¬ A a → H1[a]? = H[a]?) : g_ext ξ A U H1 := by
  obtain ⟨h1, h2, h3, h4, h5, h6, h7, h8, h9, r⟩ := h
  refine ⟨h1.kept hq, h2.kept hq, h3.kept hq, h4.kept hq, h5.kept hq, h6.kept hq, h7.kept hq, ?_, h9.kept hq, r⟩
  rcases h8 with h | h
  · exact Or.inl (h.kept hq)
  · exact Or.inr (h.kept hq)
theorem g_ext.narrow {ξ : Nat → Nat} {A B : Nat → Prop} {U : State} {H : Heap} (h : g_ext ξ A U H) (hAB : ∀ q, B q → A q) : g_ext ξ B U H := by
  obtain ⟨h1, h2, h3, h4, h5, h6, h7, h8, h9, r⟩ := h
  refine ⟨h1.narrow hAB, h2.narrow hAB, h3.narrow hAB, h4.narrow hAB, h5.narrow hAB, h6.narrow hAB, h7.narrow hAB, ?_, h9.narrow hAB, r⟩
  rcases h8 with h | h
  · exact Or.inl (h.narrow hAB)
  · exact Or.inr (h.narrow hAB)
/-- room for d calls one in another, and one frame for what the JDK does by itself -/
def g_rm (d : Nat) : Room := { frames := d + 1, cells := 0, slots := 0, locals := 50 * d + 50 }
abbrev g_MI : Type := Nat → MethodName × ByteArray × Nat × Option FieldType
def g_ws (mi : g_MI) (k : Nat) : List Cond := .code (mi k).1 (mi k).2.1 (mi k).2.2.1 (mi k).2.2.2 :: g_tbl
def g_pre (sh : g_Sh) (D : va_G) (cA : Nat → ClassId) (μ ξ : Nat → Nat) (as : List Value) (M : g_M) (sz : Nat) : Array Value → State → Prop :=
  va_Pc (as.map (g_cv μ ξ)) (fun U => U.heap.size = sz ∧ va_P D g_cls (g_wld cA μ M sh) U.heap ∧ va_K D g_cls (g_tys cA) U ∧ va_D (fun _ => True) (g_wld cA μ M sh) ∧ g_ext ξ (va_A (g_wld cA μ M sh) sz) U U.heap)
def g_post (sh : g_Sh) (D : va_G) (cA : Nat → ClassId) (μ ξ : Nat → Nat) (Q : g_R) (A : Nat → Prop) : Array Value → State → Outcome → State → Prop := fun _ st oc t =>
  (∃ (v : Option Value) (M' : g_M), oc = .returned (v.map (g_cv μ ξ)) ∧ Q v M' ∧ va_P D g_cls (g_wld cA μ M' sh) t.heap ∧ va_K D g_cls (g_tys cA) t ∧ va_D A (g_wld cA μ M' sh)) ∧ va_F A st t
def g_Snd (sh : g_Sh) (mi : g_MI) (l : Launch) (D : va_G) (cA : Nat → ClassId) (μ ξ : Nat → Nat) (cal : g_C) (d : Nat) : Prop :=
  ∀ k as M Q, cal k as M Q → ∃ d', d = d' + 1 ∧ ∀ sz, Met l (mi k).1 (g_ws mi k) (g_rm d') (g_pre sh D cA μ ξ as M sz) (g_post sh D cA μ ξ Q (va_A (g_wld cA μ M sh) sz)) 0 0 (va_A (g_wld cA μ M sh) sz)
def g_Cx (sh : g_Sh) (mi : g_MI) (own : String) (cc : ByteArray) (nL : Nat) (rt : Option FieldType) (p : Program) (l : Launch) (R : Room) (s : State) (m : MethodId) (args : Array Value) (meth : Method) (c : Code) (D : va_G) (cA : Nat → ClassId) (μ ξ : Nat → Nat) (A : Nat → Prop) (d : Nat) (cal : g_C) : Prop :=
  p.tables.exec = Jvm.exec ∧ c.code = cc ∧ c.maxLocals = nL ∧ s.vm.findClass own = some m.cls ∧ (∀ w ∈ g_tbl, w.before args s = true) ∧ meth.sig.returnType = rt ∧ meth.locks = false ∧ va_K D g_cls (g_tys cA) s ∧ (∀ q, s.heap.size ≤ q → A q) ∧ g_ext ξ A s s.heap ∧ R = g_rm d ∧ g_Snd sh mi l D cA μ ξ cal d
/-- the machine comes to the method's end from each state that K allows -/
def g_Wk (sh : g_Sh) (nL : Nat) (p : Program) (l : Launch) (e : Env) (R : Room) (s : State) (m : MethodId) (args : Array Value) (below : List Frame) (meth : Method) (c : Code) (D : va_G) (cA : Nat → ClassId) (μ ξ : Nat → Nat) (A : Nat → Prop) (Q : g_R) (pc : Nat) (P : List Value → List Value → g_M → Prop) : Prop :=
  ∀ (L st : List Value) (M : g_M) (H : Heap) (locs : List Loc) (ls : Array Slot), P L st M → va_P D g_cls (g_wld cA μ M sh) H → va_D A (g_wld cA μ M sh) → va_S A s.heap H locs → g_lr μ ξ ls nL L →
    W p l e R s m args below meth c H locs 0 0 (MQ below (g_post sh D cA μ ξ Q A) args s 0 0 A) (F0 m pc ls (st.map (g_cv μ ξ)))
def g_ok (sh : g_Sh) (mi : g_MI) (own : String) (cc : ByteArray) (nL : Nat) (rt : Option FieldType) (pc : Nat) (op : g_Op) : Prop :=
  g_mono op ∧ ∀ (p : Program) (l : Launch) (e : Env) (R : Room) (s : State) (m : MethodId) (args : Array Value) (below : List Frame) (meth : Method) (c : Code) (D : va_G) (cA : Nat → ClassId) (μ ξ : Nat → Nat) (A : Nat → Prop) (d : Nat) (cal : g_C) (Q : g_R) (K : g_K),
    g_Cx sh mi own cc nL rt p l R s m args meth c D cA μ ξ A d cal → (∀ pc, g_Wk sh nL p l e R s m args below meth c D cA μ ξ A Q pc (K pc)) → g_Wk sh nL p l e R s m args below meth c D cA μ ξ A Q pc (op cal K Q)
def g_tok (sh : g_Sh) (mi : g_MI) (own : String) (cc : ByteArray) (nL : Nat) (rt : Option FieldType) (tb : Nat → Option g_Op) : Prop := ∀ pc op, tb pc = some op → g_ok sh mi own cc nL rt pc op
theorem g_tok.node {sh : g_Sh} {mi : g_MI} {own : String} {cc : ByteArray} {nL : Nat} {rt : Option FieldType} {n : Nat} {f g : Nat → Option g_Op} (hf : g_tok sh mi own cc nL rt f) (hg : g_tok sh mi own cc nL rt g) : g_tok sh mi own cc nL rt (g_node n f g) := by
  intro pc op h
  unfold g_node at h
  cases e : Nat.ble n pc with
  | true => rw [e] at h; exact hg pc op h
  | false => rw [e] at h; exact hf pc op h
theorem g_tok.leaf {sh : g_Sh} {mi : g_MI} {own : String} {cc : ByteArray} {nL : Nat} {rt : Option FieldType} {q : Nat} {op : g_Op} (h : g_ok sh mi own cc nL rt q op) : g_tok sh mi own cc nL rt (g_leaf q op) := by
  intro pc op' h'
  unfold g_leaf at h'
  cases e : Nat.beq pc q with
  | true =>
    rw [e] at h'
    have e1 : pc = q := Nat.eq_of_beq_eq_true e
    have e2 : op = op' := Option.some.inj h'
    rw [e1, ← e2]
    exact h
  | false => rw [e] at h'; cases h'
theorem g_tok.mono {sh : g_Sh} {mi : g_MI} {own : String} {cc : ByteArray} {nL : Nat} {rt : Option FieldType} {tb : Nat → Option g_Op} (h : g_tok sh mi own cc nL rt tb) : g_tbm tb := fun pc op e => (h pc op e).1
/-- a method's body: from its run, its contract -/
theorem g_body {sh : g_Sh} {mi : g_MI} {own : String} {cc : ByteArray} {nL : Nat} {rt : Option FieldType} {tb : Nat → Option g_Op} (ht : g_tok sh mi own cc nL rt tb)
    {p : Program} {l : Launch} {e : Env} {R : Room} {s : State} {m : MethodId} {args : Array Value} {below : List Frame} {meth : Method} {c : Code} {D : va_G} {cA : Nat → ClassId} {μ ξ : Nat → Nat} {A : Nat → Prop} {d : Nat} {cal : g_C} {Q : g_R}
    (C : g_Cx sh mi own cc nL rt p l R s m args meth c D cA μ ξ A d cal) (pc : Nat) : g_Wk sh nL p l e R s m args below meth c D cA μ ξ A Q pc (g_Run cal tb Q pc) := by
  intro L st M H locs ls h hP hD hS hl
  refine h (fun pc L st M => ∀ (H : Heap) (locs : List Loc) (ls : Array Slot), va_P D g_cls (g_wld cA μ M sh) H → va_D A (g_wld cA μ M sh) → va_S A s.heap H locs → g_lr μ ξ ls nL L → W p l e R s m args below meth c H locs 0 0 (MQ below (g_post sh D cA μ ξ Q A) args s 0 0 A) (F0 m pc ls (st.map (g_cv μ ξ)))) ?_ H locs ls hP hD hS hl
  intro pc L st M h
  unfold g_F at h
  cases e1 : tb pc with
  | none => rw [e1] at h; exact False.elim h
  | some op =>
    rw [e1] at h
    intro H locs ls hP hD hS hl
    exact (ht pc op e1).2 p l e R s m args below meth c D cA μ ξ A d cal Q _ C (fun pc L st M H locs ls hk hP hD hS hl => hk H locs ls hP hD hS hl) L st M H locs ls h hP hD hS hl
/-- the whole program: every method's table keeps to its code -/
def g_prog (sh : g_Sh) (mi : g_MI) (mt : Nat → Nat → Option g_Op) (nl : Nat → Nat) : Prop :=
  ∀ k, g_tok sh mi (mi k).1.cls (mi k).2.1 (mi k).2.2.1 (mi k).2.2.2 (mt k) ∧ nl k = (mi k).2.2.1 ∧ plainName (mi k).1.cls = true
theorem g_prog.mono {sh : g_Sh} {mi : g_MI} {mt : Nat → Nat → Option g_Op} {nl : Nat → Nat} (h : g_prog sh mi mt nl) : ∀ k, g_tbm (mt k) := fun k => (h k).1.mono
theorem g_sound {sh : g_Sh} {mi : g_MI} {mt : Nat → Nat → Option g_Op} {nl : Nat → Nat} (hp : g_prog sh mi mt nl) (l : Launch) (D : va_G) (cA : Nat → ClassId) (μ ξ : Nat → Nat) : ∀ d, g_Snd sh mi l D cA μ ξ (g_Cal mt nl d) d := by
  intro d
  induction d with
  | zero => intro k as M Q h; exact False.elim h
  | succ d ih =>
    intro k as M Q h
    refine ⟨d, rfl, fun sz => ?_⟩
    obtain ⟨ht, hn, hpl⟩ := hp k
    refine Met.ofW (cc := (mi k).2.1) (maxL := (mi k).2.2.1) (ret := (mi k).2.2.2) hpl rfl ?_
    intro p e s m args below meth c s₁ B hml hv
    obtain ⟨rfl, hsz, hP, hK, hD0, hE⟩ := hv
    have hts := atoms_spec (ws := g_ws mi k) B.pre
    subst hsz
    have hD := hD0.self (sz := s.heap.size)
    obtain ⟨L, h1, h2, h3, h4⟩ := g_ent_spec as (nl k) _ h
    rw [lg_entry_eq]
    have h3' : (lg_sl (as.map (g_cv μ ξ))).length ≤ (mi k).2.2.1 := by
      have e1 : ∀ vs : List Value, (lg_sl (vs.map (g_cv μ ξ))).length = (lg_sl vs).length := by
        intro vs
        induction vs with
        | nil => rfl
        | cons v vs ih =>
          simp only [lg_sl, List.map_cons, List.flatMap_cons, List.length_append] at ih ⊢
          rw [ih, g_cat]
          split <;> rfl
      rw [e1, ← hn]; exact h3
    have hl := lv_entry (as.map (g_cv μ ξ)) (n := (mi k).2.2.1) h3'
    have hlr : g_lr μ ξ _ (mi k).2.2.1 L := g_lr.of hl (by omega) (fun i v e hv => by have := h4 0 i v μ ξ e hv; rwa [Nat.zero_add] at this)
    exact g_body ht (d := d) (cal := g_Cal mt nl d) ⟨B.exec, B.bytes, hml, findClass_of_methodNamed B.named, fun w hw => hts w (List.mem_cons_of_mem _ hw), B.returns, B.notSynchronized, hK, fun q h => Or.inr h, hE, rfl, ih⟩ 0 L [] M s.heap [] _ h1 hP hD va_S.rf hlr
end
section
/-! ===== each op keeps to its instruction ===== -/
theorem ok_iconst {sh : g_Sh} {mi : g_MI} {own : String} {cc : ByteArray} {nL : Nat} {rt : Option FieldType} {pc : Nat} {n : Int} {v : Int32} (hd : decode cc pc = .ok (.iconst n, 1)) (hv : Int32.ofInt n = v) : g_ok sh mi own cc nL rt pc (o_push (.int v) (pc + 1)) := by
  refine ⟨?_, ?_⟩
  · intro cal P P' Q Q' L st M hc hP hQ h
    unfold o_push at h ⊢
    exact hP _ _ _ _ h
  · intro p l e R s m args below meth c D cA μ ξ A d cal Q K C hK L st M H locs ls h hP hD hS hl
    obtain ⟨hx, hb, hml, hown, hts, hr, hlk, hKk, hA, hE, rfl, hSn⟩ := C
    unfold o_push at h
    exact lv_iconst hx hb hd hv (hK _ _ _ _ _ _ _ (h) hP hD hS hl)
theorem ok_bipush {sh : g_Sh} {mi : g_MI} {own : String} {cc : ByteArray} {nL : Nat} {rt : Option FieldType} {pc : Nat} {n : Int} {v : Int32} (hd : decode cc pc = .ok (.bipush n, 2)) (hv : (Int8.ofInt n).toInt32 = v) : g_ok sh mi own cc nL rt pc (o_push (.int v) (pc + 2)) := by
  refine ⟨?_, ?_⟩
  · intro cal P P' Q Q' L st M hc hP hQ h
    unfold o_push at h ⊢
    exact hP _ _ _ _ h
  · intro p l e R s m args below meth c D cA μ ξ A d cal Q K C hK L st M H locs ls h hP hD hS hl
    obtain ⟨hx, hb, hml, hown, hts, hr, hlk, hKk, hA, hE, rfl, hSn⟩ := C
    unfold o_push at h
    exact lv_bipush hx hb hd hv (hK _ _ _ _ _ _ _ (h) hP hD hS hl)
theorem ok_sipush {sh : g_Sh} {mi : g_MI} {own : String} {cc : ByteArray} {nL : Nat} {rt : Option FieldType} {pc : Nat} {n : Int} {v : Int32} (hd : decode cc pc = .ok (.sipush n, 3)) (hv : (Int16.ofInt n).toInt32 = v) : g_ok sh mi own cc nL rt pc (o_push (.int v) (pc + 3)) := by
  refine ⟨?_, ?_⟩
  · intro cal P P' Q Q' L st M hc hP hQ h
    unfold o_push at h ⊢
    exact hP _ _ _ _ h
  · intro p l e R s m args below meth c D cA μ ξ A d cal Q K C hK L st M H locs ls h hP hD hS hl
    obtain ⟨hx, hb, hml, hown, hts, hr, hlk, hKk, hA, hE, rfl, hSn⟩ := C
    unfold o_push at h
    exact lv_sipush hx hb hd hv (hK _ _ _ _ _ _ _ (h) hP hD hS hl)
theorem ok_ldc {sh : g_Sh} {mi : g_MI} {own : String} {cc : ByteArray} {nL : Nat} {rt : Option FieldType} {pc : Nat} {i : Nat} {v : Int32} (hd : decode cc pc = .ok (.ldc i, 2)) (hw : Cond.constant own i v ∈ g_tbl) : g_ok sh mi own cc nL rt pc (o_push (.int v) (pc + 2)) := by
  refine ⟨?_, ?_⟩
  · intro cal P P' Q Q' L st M hc hP hQ h
    unfold o_push at h ⊢
    exact hP _ _ _ _ h
  · intro p l e R s m args below meth c D cA μ ξ A d cal Q K C hK L st M H locs ls h hP hD hS hl
    obtain ⟨hx, hb, hml, hown, hts, hr, hlk, hKk, hA, hE, rfl, hSn⟩ := C
    unfold o_push at h
    exact lv_ldc hx hb hown (hts _ hw) hd (hK _ _ _ _ _ _ _ (h) hP hD hS hl)
theorem ok_ldc2 {sh : g_Sh} {mi : g_MI} {own : String} {cc : ByteArray} {nL : Nat} {rt : Option FieldType} {pc : Nat} {i : Nat} {v : Int64} (hd : decode cc pc = .ok (.ldc2_w i, 3)) (hw : Cond.constantLong own i v ∈ g_tbl) : g_ok sh mi own cc nL rt pc (o_push (.long v) (pc + 3)) := by
  refine ⟨?_, ?_⟩
  · intro cal P P' Q Q' L st M hc hP hQ h
    unfold o_push at h ⊢
    exact hP _ _ _ _ h
  · intro p l e R s m args below meth c D cA μ ξ A d cal Q K C hK L st M H locs ls h hP hD hS hl
    obtain ⟨hx, hb, hml, hown, hts, hr, hlk, hKk, hA, hE, rfl, hSn⟩ := C
    unfold o_push at h
    exact lv_ldc2 hx hb hown (hts _ hw) hd (hK _ _ _ _ _ _ _ (h) hP hD hS hl)
theorem ok_iload_n {sh : g_Sh} {mi : g_MI} {own : String} {cc : ByteArray} {nL : Nat} {rt : Option FieldType} {pc : Nat} {k : Fin 4} {i : Nat} (hd : decode cc pc = .ok (.iload_n k, 1)) (hi : (k : Nat) = i) : g_ok sh mi own cc nL rt pc (o_iload i (pc + 1)) := by
  refine ⟨?_, ?_⟩
  · intro cal P P' Q Q' L st M hc hP hQ h
    unfold o_iload at h ⊢
    split at h
    · exact hP _ _ _ _ h
    · exact h.elim
  · intro p l e R s m args below meth c D cA μ ξ A d cal Q K C hK L st M H locs ls h hP hD hS hl
    obtain ⟨hx, hb, hml, hown, hts, hr, hlk, hKk, hA, hE, rfl, hSn⟩ := C
    unfold o_iload at h
    split at h
    · rename_i x e
      exact lv_iload_n hx hb hd hi (hl.2.2.2 _ _ e (by simp)) (hK _ _ _ _ _ _ _ (h) hP hD hS hl)
    · exact h.elim
theorem ok_iload {sh : g_Sh} {mi : g_MI} {own : String} {cc : ByteArray} {nL : Nat} {rt : Option FieldType} {pc : Nat} {i : Nat} (hd : decode cc pc = .ok (.iload i, 2)) : g_ok sh mi own cc nL rt pc (o_iload i (pc + 2)) := by
  refine ⟨?_, ?_⟩
  · intro cal P P' Q Q' L st M hc hP hQ h
    unfold o_iload at h ⊢
    split at h
    · exact hP _ _ _ _ h
    · exact h.elim
  · intro p l e R s m args below meth c D cA μ ξ A d cal Q K C hK L st M H locs ls h hP hD hS hl
    obtain ⟨hx, hb, hml, hown, hts, hr, hlk, hKk, hA, hE, rfl, hSn⟩ := C
    unfold o_iload at h
    split at h
    · rename_i x e
      exact lv_iload hx hb hd (hl.2.2.2 _ _ e (by simp)) (hK _ _ _ _ _ _ _ (h) hP hD hS hl)
    · exact h.elim
theorem ok_lload_n {sh : g_Sh} {mi : g_MI} {own : String} {cc : ByteArray} {nL : Nat} {rt : Option FieldType} {pc : Nat} {k : Fin 4} {i : Nat} (hd : decode cc pc = .ok (.lload_n k, 1)) (hi : (k : Nat) = i) : g_ok sh mi own cc nL rt pc (o_lload i (pc + 1)) := by
  refine ⟨?_, ?_⟩
  · intro cal P P' Q Q' L st M hc hP hQ h
    unfold o_lload at h ⊢
    split at h
    · exact hP _ _ _ _ h
    · exact h.elim
  · intro p l e R s m args below meth c D cA μ ξ A d cal Q K C hK L st M H locs ls h hP hD hS hl
    obtain ⟨hx, hb, hml, hown, hts, hr, hlk, hKk, hA, hE, rfl, hSn⟩ := C
    unfold o_lload at h
    split at h
    · rename_i x e
      exact lv_lload_n hx hb hd hi (hl.2.2.2 _ _ e (by simp)) (hK _ _ _ _ _ _ _ (h) hP hD hS hl)
    · exact h.elim
theorem ok_lload {sh : g_Sh} {mi : g_MI} {own : String} {cc : ByteArray} {nL : Nat} {rt : Option FieldType} {pc : Nat} {i : Nat} (hd : decode cc pc = .ok (.lload i, 2)) : g_ok sh mi own cc nL rt pc (o_lload i (pc + 2)) := by
  refine ⟨?_, ?_⟩
  · intro cal P P' Q Q' L st M hc hP hQ h
    unfold o_lload at h ⊢
    split at h
    · exact hP _ _ _ _ h
    · exact h.elim
  · intro p l e R s m args below meth c D cA μ ξ A d cal Q K C hK L st M H locs ls h hP hD hS hl
    obtain ⟨hx, hb, hml, hown, hts, hr, hlk, hKk, hA, hE, rfl, hSn⟩ := C
    unfold o_lload at h
    split at h
    · rename_i x e
      exact lv_lload hx hb hd (hl.2.2.2 _ _ e (by simp)) (hK _ _ _ _ _ _ _ (h) hP hD hS hl)
    · exact h.elim
theorem ok_aload_n {sh : g_Sh} {mi : g_MI} {own : String} {cc : ByteArray} {nL : Nat} {rt : Option FieldType} {pc : Nat} {k : Fin 4} {i : Nat} (hd : decode cc pc = .ok (.aload_n k, 1)) (hi : (k : Nat) = i) : g_ok sh mi own cc nL rt pc (o_aload i (pc + 1)) := by
  refine ⟨?_, ?_⟩
  · intro cal P P' Q Q' L st M hc hP hQ h
    unfold o_aload at h ⊢
    split at h
    · exact hP _ _ _ _ h
    · exact hP _ _ _ _ h
    · exact h.elim
  · intro p l e R s m args below meth c D cA μ ξ A d cal Q K C hK L st M H locs ls h hP hD hS hl
    obtain ⟨hx, hb, hml, hown, hts, hr, hlk, hKk, hA, hE, rfl, hSn⟩ := C
    unfold o_aload at h
    split at h
    · rename_i x e
      exact lv_aload_n hx hb hd hi (hl.2.2.2 _ _ e (by simp)) (hK _ _ _ _ _ _ _ (h) hP hD hS hl)
    · rename_i x e
      exact lv_aload_n hx hb hd hi (hl.2.2.2 _ _ e (by simp)) (hK _ _ _ _ _ _ _ (h) hP hD hS hl)
    · exact h.elim
theorem ok_aload {sh : g_Sh} {mi : g_MI} {own : String} {cc : ByteArray} {nL : Nat} {rt : Option FieldType} {pc : Nat} {i : Nat} (hd : decode cc pc = .ok (.aload i, 2)) : g_ok sh mi own cc nL rt pc (o_aload i (pc + 2)) := by
  refine ⟨?_, ?_⟩
  · intro cal P P' Q Q' L st M hc hP hQ h
    unfold o_aload at h ⊢
    split at h
    · exact hP _ _ _ _ h
    · exact hP _ _ _ _ h
    · exact h.elim
  · intro p l e R s m args below meth c D cA μ ξ A d cal Q K C hK L st M H locs ls h hP hD hS hl
    obtain ⟨hx, hb, hml, hown, hts, hr, hlk, hKk, hA, hE, rfl, hSn⟩ := C
    unfold o_aload at h
    split at h
    · rename_i x e
      exact lv_aload hx hb hd (hl.2.2.2 _ _ e (by simp)) (hK _ _ _ _ _ _ _ (h) hP hD hS hl)
    · rename_i x e
      exact lv_aload hx hb hd (hl.2.2.2 _ _ e (by simp)) (hK _ _ _ _ _ _ _ (h) hP hD hS hl)
    · exact h.elim
theorem g_set_mono {i : Nat} {v : Value} {L : List Value} {k k' : List Value → Prop} (hk : ∀ q, k q → k' q) (h : g_set i v L k) : g_set i v L k' := by
  induction i generalizing L k k' with
  | zero => cases L with
    | nil => exact h
    | cons x r => exact hk _ h
  | succ i ih => cases i with
    | zero => match L, h with
      | [], h => exact h
      | [x], h => exact h
      | x :: y :: r, h => cases x <;> first | exact hk _ h | exact h
    | succ i => match L, h with
      | [], h => exact h
      | [x], h => exact h
      | x :: y :: r, h => exact ih (fun q => hk (x :: q)) h
theorem g_set2_mono {i : Nat} {v : Value} {L : List Value} {k k' : List Value → Prop} (hk : ∀ q, k q → k' q) (h : g_set2 i v L k) : g_set2 i v L k' := by
  induction i generalizing L k k' with
  | zero => match L, h with
    | [], h => exact h
    | [x], h => exact h
    | x :: y :: r, h => exact hk _ h
  | succ i ih => cases i with
    | zero => match L, h with
      | [], h => exact h
      | [x], h => exact h
      | [x, y], h => exact h
      | x :: y :: z :: r, h => cases x <;> first | exact hk _ h | exact h
    | succ i => match L, h with
      | [], h => exact h
      | [x], h => exact h
      | x :: y :: r, h => exact ih (fun q => hk (x :: q)) h
theorem ok_istore_n {sh : g_Sh} {mi : g_MI} {own : String} {cc : ByteArray} {nL : Nat} {rt : Option FieldType} {pc : Nat} {k : Fin 4} {i : Nat} (hd : decode cc pc = .ok (.istore_n k, 1)) (hi : (k : Nat) = i) : g_ok sh mi own cc nL rt pc (o_istore i (pc + 1)) := by
  refine ⟨?_, ?_⟩
  · intro cal P P' Q Q' L st M hc hP hQ h
    unfold o_istore at h ⊢
    split at h
    · exact g_set_mono (fun q => hP _ _ _ _) h
    · exact h.elim
  · intro p l e R s m args below meth c D cA μ ξ A d cal Q K C hK L st M H locs ls h hP hD hS hl
    obtain ⟨hx, hb, hml, hown, hts, hr, hlk, hKk, hA, hE, rfl, hSn⟩ := C
    unfold o_istore at h
    split at h
    · obtain ⟨L', h1, h2, h3, h4⟩ := g_set_spec _ _ _ _ h
      exact lv_istore_n hx hb hd hi hl.has (by have := hl.2.2.1; omega) rfl (fun ls' hl' => hK _ _ _ _ _ _ _ h1 hP hD hS (g_lr.st1 hl.2.2.1 h2 h4 hl'))
    · exact h.elim
theorem ok_istore {sh : g_Sh} {mi : g_MI} {own : String} {cc : ByteArray} {nL : Nat} {rt : Option FieldType} {pc : Nat} {i : Nat} (hd : decode cc pc = .ok (.istore i, 2)) : g_ok sh mi own cc nL rt pc (o_istore i (pc + 2)) := by
  refine ⟨?_, ?_⟩
  · intro cal P P' Q Q' L st M hc hP hQ h
    unfold o_istore at h ⊢
    split at h
    · exact g_set_mono (fun q => hP _ _ _ _) h
    · exact h.elim
  · intro p l e R s m args below meth c D cA μ ξ A d cal Q K C hK L st M H locs ls h hP hD hS hl
    obtain ⟨hx, hb, hml, hown, hts, hr, hlk, hKk, hA, hE, rfl, hSn⟩ := C
    unfold o_istore at h
    split at h
    · obtain ⟨L', h1, h2, h3, h4⟩ := g_set_spec _ _ _ _ h
      exact lv_istore hx hb hd  hl.has (by have := hl.2.2.1; omega) rfl (fun ls' hl' => hK _ _ _ _ _ _ _ h1 hP hD hS (g_lr.st1 hl.2.2.1 h2 h4 hl'))
    · exact h.elim
theorem ok_astore_n {sh : g_Sh} {mi : g_MI} {own : String} {cc : ByteArray} {nL : Nat} {rt : Option FieldType} {pc : Nat} {k : Fin 4} {i : Nat} (hd : decode cc pc = .ok (.astore_n k, 1)) (hi : (k : Nat) = i) : g_ok sh mi own cc nL rt pc (o_astore i (pc + 1)) := by
  refine ⟨?_, ?_⟩
  · intro cal P P' Q Q' L st M hc hP hQ h
    unfold o_astore at h ⊢
    split at h
    · exact g_set_mono (fun q => hP _ _ _ _) h
    · exact g_set_mono (fun q => hP _ _ _ _) h
    · exact h.elim
  · intro p l e R s m args below meth c D cA μ ξ A d cal Q K C hK L st M H locs ls h hP hD hS hl
    obtain ⟨hx, hb, hml, hown, hts, hr, hlk, hKk, hA, hE, rfl, hSn⟩ := C
    unfold o_astore at h
    split at h
    · obtain ⟨L', h1, h2, h3, h4⟩ := g_set_spec _ _ _ _ h
      exact lv_astore_n hx hb hd hi hl.has (by have := hl.2.2.1; omega) rfl (fun ls' hl' => hK _ _ _ _ _ _ _ h1 hP hD hS (g_lr.st1 hl.2.2.1 h2 h4 hl'))
    · obtain ⟨L', h1, h2, h3, h4⟩ := g_set_spec _ _ _ _ h
      exact lv_astore_n hx hb hd hi hl.has (by have := hl.2.2.1; omega) rfl (fun ls' hl' => hK _ _ _ _ _ _ _ h1 hP hD hS (g_lr.st1 hl.2.2.1 h2 h4 hl'))
    · exact h.elim
theorem ok_astore {sh : g_Sh} {mi : g_MI} {own : String} {cc : ByteArray} {nL : Nat} {rt : Option FieldType} {pc : Nat} {i : Nat} (hd : decode cc pc = .ok (.astore i, 2)) : g_ok sh mi own cc nL rt pc (o_astore i (pc + 2)) := by
  refine ⟨?_, ?_⟩
  · intro cal P P' Q Q' L st M hc hP hQ h
    unfold o_astore at h ⊢
    split at h
    · exact g_set_mono (fun q => hP _ _ _ _) h
    · exact g_set_mono (fun q => hP _ _ _ _) h
    · exact h.elim
  · intro p l e R s m args below meth c D cA μ ξ A d cal Q K C hK L st M H locs ls h hP hD hS hl
    obtain ⟨hx, hb, hml, hown, hts, hr, hlk, hKk, hA, hE, rfl, hSn⟩ := C
    unfold o_astore at h
    split at h
    · obtain ⟨L', h1, h2, h3, h4⟩ := g_set_spec _ _ _ _ h
      exact lv_astore hx hb hd  hl.has (by have := hl.2.2.1; omega) rfl (fun ls' hl' => hK _ _ _ _ _ _ _ h1 hP hD hS (g_lr.st1 hl.2.2.1 h2 h4 hl'))
    · obtain ⟨L', h1, h2, h3, h4⟩ := g_set_spec _ _ _ _ h
      exact lv_astore hx hb hd  hl.has (by have := hl.2.2.1; omega) rfl (fun ls' hl' => hK _ _ _ _ _ _ _ h1 hP hD hS (g_lr.st1 hl.2.2.1 h2 h4 hl'))
    · exact h.elim
theorem ok_lstore_n {sh : g_Sh} {mi : g_MI} {own : String} {cc : ByteArray} {nL : Nat} {rt : Option FieldType} {pc : Nat} {k : Fin 4} {i : Nat} (hd : decode cc pc = .ok (.lstore_n k, 1)) (hi : (k : Nat) = i) : g_ok sh mi own cc nL rt pc (o_lstore i (pc + 1)) := by
  refine ⟨?_, ?_⟩
  · intro cal P P' Q Q' L st M hc hP hQ h
    unfold o_lstore at h ⊢
    split at h
    · exact g_set2_mono (fun q => hP _ _ _ _) h
    · exact h.elim
  · intro p l e R s m args below meth c D cA μ ξ A d cal Q K C hK L st M H locs ls h hP hD hS hl
    obtain ⟨hx, hb, hml, hown, hts, hr, hlk, hKk, hA, hE, rfl, hSn⟩ := C
    unfold o_lstore at h
    split at h
    · obtain ⟨L', h1, h2, h3, h4⟩ := g_set2_spec _ _ _ _ h
      exact lv_lstore_n hx hb hd hi hl.has (by have := hl.2.2.1; omega) rfl (fun ls' hl' => hK _ _ _ _ _ _ _ h1 hP hD hS (g_lr.st2 hl.2.2.1 h2 h4 hl'))
    · exact h.elim
theorem ok_lstore {sh : g_Sh} {mi : g_MI} {own : String} {cc : ByteArray} {nL : Nat} {rt : Option FieldType} {pc : Nat} {i : Nat} (hd : decode cc pc = .ok (.lstore i, 2)) : g_ok sh mi own cc nL rt pc (o_lstore i (pc + 2)) := by
  refine ⟨?_, ?_⟩
  · intro cal P P' Q Q' L st M hc hP hQ h
    unfold o_lstore at h ⊢
    split at h
    · exact g_set2_mono (fun q => hP _ _ _ _) h
    · exact h.elim
  · intro p l e R s m args below meth c D cA μ ξ A d cal Q K C hK L st M H locs ls h hP hD hS hl
    obtain ⟨hx, hb, hml, hown, hts, hr, hlk, hKk, hA, hE, rfl, hSn⟩ := C
    unfold o_lstore at h
    split at h
    · obtain ⟨L', h1, h2, h3, h4⟩ := g_set2_spec _ _ _ _ h
      exact lv_lstore hx hb hd  hl.has (by have := hl.2.2.1; omega) rfl (fun ls' hl' => hK _ _ _ _ _ _ _ h1 hP hD hS (g_lr.st2 hl.2.2.1 h2 h4 hl'))
    · exact h.elim
theorem ok_iinc {sh : g_Sh} {mi : g_MI} {own : String} {cc : ByteArray} {nL : Nat} {rt : Option FieldType} {pc : Nat} {i : Nat} {n : Int} {v : Int32} (hd : decode cc pc = .ok (.iinc i n, 3)) (hv : Int32.ofInt n = v) : g_ok sh mi own cc nL rt pc (o_iinc i v (pc + 3)) := by
  refine ⟨?_, ?_⟩
  · intro cal P P' Q Q' L st M hc hP hQ h
    unfold o_iinc at h ⊢
    split at h
    · exact g_set_mono (fun q => hP _ _ _ _) h
    · exact h.elim
  · intro p l e R s m args below meth c D cA μ ξ A d cal Q K C hK L st M H locs ls h hP hD hS hl
    obtain ⟨hx, hb, hml, hown, hts, hr, hlk, hKk, hA, hE, rfl, hSn⟩ := C
    unfold o_iinc at h
    split at h
    · rename_i x e
      subst hv
      obtain ⟨L', h1, h2, h3, h4⟩ := g_set_spec _ _ _ _ h
      obtain ⟨k, hk⟩ := List.getElem?_of_mem (g_as_mem (μ := μ) (ξ := ξ).mpr ⟨_, e, by simp, rfl⟩)
      exact lv_iinc hx hb hd hl.has hk rfl (by have := hl.2.2.1; omega) rfl (fun ls' hl' => hK _ _ _ _ _ _ _ h1 hP hD hS (g_lr.st1 hl.2.2.1 h2 h4 hl'))
    · exact h.elim
theorem ok_iadd {sh : g_Sh} {mi : g_MI} {own : String} {cc : ByteArray} {nL : Nat} {rt : Option FieldType} {pc : Nat} (hd : decode cc pc = .ok (.iadd, 1)) : g_ok sh mi own cc nL rt pc (o_iadd (pc + 1)) := by
  refine ⟨?_, ?_⟩
  · intro cal P P' Q Q' L st M hc hP hQ h
    unfold o_iadd at h ⊢
    split at h
    · exact hP _ _ _ _ h
    · exact h.elim
  · intro p l e R s m args below meth c D cA μ ξ A d cal Q K C hK L st M H locs ls h hP hD hS hl
    obtain ⟨hx, hb, hml, hown, hts, hr, hlk, hKk, hA, hE, rfl, hSn⟩ := C
    unfold o_iadd at h
    split at h
    · exact lv_iadd hx hb hd (hK _ _ _ _ _ _ _ (h) hP hD hS hl)
    · exact h.elim
theorem ok_isub {sh : g_Sh} {mi : g_MI} {own : String} {cc : ByteArray} {nL : Nat} {rt : Option FieldType} {pc : Nat} (hd : decode cc pc = .ok (.isub, 1)) : g_ok sh mi own cc nL rt pc (o_isub (pc + 1)) := by
  refine ⟨?_, ?_⟩
  · intro cal P P' Q Q' L st M hc hP hQ h
    unfold o_isub at h ⊢
    split at h
    · exact hP _ _ _ _ h
    · exact h.elim
  · intro p l e R s m args below meth c D cA μ ξ A d cal Q K C hK L st M H locs ls h hP hD hS hl
    obtain ⟨hx, hb, hml, hown, hts, hr, hlk, hKk, hA, hE, rfl, hSn⟩ := C
    unfold o_isub at h
    split at h
    · exact lv_isub hx hb hd (hK _ _ _ _ _ _ _ (h) hP hD hS hl)
    · exact h.elim
theorem ok_imul {sh : g_Sh} {mi : g_MI} {own : String} {cc : ByteArray} {nL : Nat} {rt : Option FieldType} {pc : Nat} (hd : decode cc pc = .ok (.imul, 1)) : g_ok sh mi own cc nL rt pc (o_imul (pc + 1)) := by
  refine ⟨?_, ?_⟩
  · intro cal P P' Q Q' L st M hc hP hQ h
    unfold o_imul at h ⊢
    split at h
    · exact hP _ _ _ _ h
    · exact h.elim
  · intro p l e R s m args below meth c D cA μ ξ A d cal Q K C hK L st M H locs ls h hP hD hS hl
    obtain ⟨hx, hb, hml, hown, hts, hr, hlk, hKk, hA, hE, rfl, hSn⟩ := C
    unfold o_imul at h
    split at h
    · exact lv_imul hx hb hd (hK _ _ _ _ _ _ _ (h) hP hD hS hl)
    · exact h.elim
theorem ok_iand {sh : g_Sh} {mi : g_MI} {own : String} {cc : ByteArray} {nL : Nat} {rt : Option FieldType} {pc : Nat} (hd : decode cc pc = .ok (.iand, 1)) : g_ok sh mi own cc nL rt pc (o_iand (pc + 1)) := by
  refine ⟨?_, ?_⟩
  · intro cal P P' Q Q' L st M hc hP hQ h
    unfold o_iand at h ⊢
    split at h
    · exact hP _ _ _ _ h
    · exact h.elim
  · intro p l e R s m args below meth c D cA μ ξ A d cal Q K C hK L st M H locs ls h hP hD hS hl
    obtain ⟨hx, hb, hml, hown, hts, hr, hlk, hKk, hA, hE, rfl, hSn⟩ := C
    unfold o_iand at h
    split at h
    · exact lv_iand hx hb hd (hK _ _ _ _ _ _ _ (h) hP hD hS hl)
    · exact h.elim
theorem ok_ior {sh : g_Sh} {mi : g_MI} {own : String} {cc : ByteArray} {nL : Nat} {rt : Option FieldType} {pc : Nat} (hd : decode cc pc = .ok (.ior, 1)) : g_ok sh mi own cc nL rt pc (o_ior (pc + 1)) := by
  refine ⟨?_, ?_⟩
  · intro cal P P' Q Q' L st M hc hP hQ h
    unfold o_ior at h ⊢
    split at h
    · exact hP _ _ _ _ h
    · exact h.elim
  · intro p l e R s m args below meth c D cA μ ξ A d cal Q K C hK L st M H locs ls h hP hD hS hl
    obtain ⟨hx, hb, hml, hown, hts, hr, hlk, hKk, hA, hE, rfl, hSn⟩ := C
    unfold o_ior at h
    split at h
    · exact lv_ior hx hb hd (hK _ _ _ _ _ _ _ (h) hP hD hS hl)
    · exact h.elim
theorem ok_ixor {sh : g_Sh} {mi : g_MI} {own : String} {cc : ByteArray} {nL : Nat} {rt : Option FieldType} {pc : Nat} (hd : decode cc pc = .ok (.ixor, 1)) : g_ok sh mi own cc nL rt pc (o_ixor (pc + 1)) := by
  refine ⟨?_, ?_⟩
  · intro cal P P' Q Q' L st M hc hP hQ h
    unfold o_ixor at h ⊢
    split at h
    · exact hP _ _ _ _ h
    · exact h.elim
  · intro p l e R s m args below meth c D cA μ ξ A d cal Q K C hK L st M H locs ls h hP hD hS hl
    obtain ⟨hx, hb, hml, hown, hts, hr, hlk, hKk, hA, hE, rfl, hSn⟩ := C
    unfold o_ixor at h
    split at h
    · exact lv_ixor hx hb hd (hK _ _ _ _ _ _ _ (h) hP hD hS hl)
    · exact h.elim
theorem ok_ishl {sh : g_Sh} {mi : g_MI} {own : String} {cc : ByteArray} {nL : Nat} {rt : Option FieldType} {pc : Nat} (hd : decode cc pc = .ok (.ishl, 1)) : g_ok sh mi own cc nL rt pc (o_ishl (pc + 1)) := by
  refine ⟨?_, ?_⟩
  · intro cal P P' Q Q' L st M hc hP hQ h
    unfold o_ishl at h ⊢
    split at h
    · exact hP _ _ _ _ h
    · exact h.elim
  · intro p l e R s m args below meth c D cA μ ξ A d cal Q K C hK L st M H locs ls h hP hD hS hl
    obtain ⟨hx, hb, hml, hown, hts, hr, hlk, hKk, hA, hE, rfl, hSn⟩ := C
    unfold o_ishl at h
    split at h
    · exact lv_ishl hx hb hd (hK _ _ _ _ _ _ _ (h) hP hD hS hl)
    · exact h.elim
theorem ok_ishr {sh : g_Sh} {mi : g_MI} {own : String} {cc : ByteArray} {nL : Nat} {rt : Option FieldType} {pc : Nat} (hd : decode cc pc = .ok (.ishr, 1)) : g_ok sh mi own cc nL rt pc (o_ishr (pc + 1)) := by
  refine ⟨?_, ?_⟩
  · intro cal P P' Q Q' L st M hc hP hQ h
    unfold o_ishr at h ⊢
    split at h
    · exact hP _ _ _ _ h
    · exact h.elim
  · intro p l e R s m args below meth c D cA μ ξ A d cal Q K C hK L st M H locs ls h hP hD hS hl
    obtain ⟨hx, hb, hml, hown, hts, hr, hlk, hKk, hA, hE, rfl, hSn⟩ := C
    unfold o_ishr at h
    split at h
    · exact lv_ishr hx hb hd (hK _ _ _ _ _ _ _ (h) hP hD hS hl)
    · exact h.elim
theorem ok_land {sh : g_Sh} {mi : g_MI} {own : String} {cc : ByteArray} {nL : Nat} {rt : Option FieldType} {pc : Nat} (hd : decode cc pc = .ok (.land, 1)) : g_ok sh mi own cc nL rt pc (o_land (pc + 1)) := by
  refine ⟨?_, ?_⟩
  · intro cal P P' Q Q' L st M hc hP hQ h
    unfold o_land at h ⊢
    split at h
    · exact hP _ _ _ _ h
    · exact h.elim
  · intro p l e R s m args below meth c D cA μ ξ A d cal Q K C hK L st M H locs ls h hP hD hS hl
    obtain ⟨hx, hb, hml, hown, hts, hr, hlk, hKk, hA, hE, rfl, hSn⟩ := C
    unfold o_land at h
    split at h
    · exact lv_land hx hb hd (hK _ _ _ _ _ _ _ (h) hP hD hS hl)
    · exact h.elim
theorem ok_lor {sh : g_Sh} {mi : g_MI} {own : String} {cc : ByteArray} {nL : Nat} {rt : Option FieldType} {pc : Nat} (hd : decode cc pc = .ok (.lor, 1)) : g_ok sh mi own cc nL rt pc (o_lor (pc + 1)) := by
  refine ⟨?_, ?_⟩
  · intro cal P P' Q Q' L st M hc hP hQ h
    unfold o_lor at h ⊢
    split at h
    · exact hP _ _ _ _ h
    · exact h.elim
  · intro p l e R s m args below meth c D cA μ ξ A d cal Q K C hK L st M H locs ls h hP hD hS hl
    obtain ⟨hx, hb, hml, hown, hts, hr, hlk, hKk, hA, hE, rfl, hSn⟩ := C
    unfold o_lor at h
    split at h
    · exact lv_lor hx hb hd (hK _ _ _ _ _ _ _ (h) hP hD hS hl)
    · exact h.elim
theorem ok_iushr {sh : g_Sh} {mi : g_MI} {own : String} {cc : ByteArray} {nL : Nat} {rt : Option FieldType} {pc : Nat} (hd : decode cc pc = .ok (.iushr, 1)) : g_ok sh mi own cc nL rt pc (o_iushr (pc + 1)) := by
  refine ⟨?_, ?_⟩
  · intro cal P P' Q Q' L st M hc hP hQ h
    unfold o_iushr at h ⊢
    split at h
    · exact hP _ _ _ _ h
    · exact h.elim
  · intro p l e R s m args below meth c D cA μ ξ A d cal Q K C hK L st M H locs ls h hP hD hS hl
    obtain ⟨hx, hb, hml, hown, hts, hr, hlk, hKk, hA, hE, rfl, hSn⟩ := C
    unfold o_iushr at h
    split at h
    · exact lv_iushr hx hb hd rfl (hK _ _ _ _ _ _ _ (h) hP hD hS hl)
    · exact h.elim
theorem ok_lshl {sh : g_Sh} {mi : g_MI} {own : String} {cc : ByteArray} {nL : Nat} {rt : Option FieldType} {pc : Nat} (hd : decode cc pc = .ok (.lshl, 1)) : g_ok sh mi own cc nL rt pc (o_lshl (pc + 1)) := by
  refine ⟨?_, ?_⟩
  · intro cal P P' Q Q' L st M hc hP hQ h
    unfold o_lshl at h ⊢
    split at h
    · exact hP _ _ _ _ h
    · exact h.elim
  · intro p l e R s m args below meth c D cA μ ξ A d cal Q K C hK L st M H locs ls h hP hD hS hl
    obtain ⟨hx, hb, hml, hown, hts, hr, hlk, hKk, hA, hE, rfl, hSn⟩ := C
    unfold o_lshl at h
    split at h
    · exact lv_lshl hx hb hd rfl (hK _ _ _ _ _ _ _ (h) hP hD hS hl)
    · exact h.elim
theorem ok_lshr {sh : g_Sh} {mi : g_MI} {own : String} {cc : ByteArray} {nL : Nat} {rt : Option FieldType} {pc : Nat} (hd : decode cc pc = .ok (.lshr, 1)) : g_ok sh mi own cc nL rt pc (o_lshr (pc + 1)) := by
  refine ⟨?_, ?_⟩
  · intro cal P P' Q Q' L st M hc hP hQ h
    unfold o_lshr at h ⊢
    split at h
    · exact hP _ _ _ _ h
    · exact h.elim
  · intro p l e R s m args below meth c D cA μ ξ A d cal Q K C hK L st M H locs ls h hP hD hS hl
    obtain ⟨hx, hb, hml, hown, hts, hr, hlk, hKk, hA, hE, rfl, hSn⟩ := C
    unfold o_lshr at h
    split at h
    · exact lv_lshr hx hb hd rfl (hK _ _ _ _ _ _ _ (h) hP hD hS hl)
    · exact h.elim
theorem ok_lushr {sh : g_Sh} {mi : g_MI} {own : String} {cc : ByteArray} {nL : Nat} {rt : Option FieldType} {pc : Nat} (hd : decode cc pc = .ok (.lushr, 1)) : g_ok sh mi own cc nL rt pc (o_lushr (pc + 1)) := by
  refine ⟨?_, ?_⟩
  · intro cal P P' Q Q' L st M hc hP hQ h
    unfold o_lushr at h ⊢
    split at h
    · exact hP _ _ _ _ h
    · exact h.elim
  · intro p l e R s m args below meth c D cA μ ξ A d cal Q K C hK L st M H locs ls h hP hD hS hl
    obtain ⟨hx, hb, hml, hown, hts, hr, hlk, hKk, hA, hE, rfl, hSn⟩ := C
    unfold o_lushr at h
    split at h
    · exact lv_lushr hx hb hd rfl (hK _ _ _ _ _ _ _ (h) hP hD hS hl)
    · exact h.elim
theorem ok_i2l {sh : g_Sh} {mi : g_MI} {own : String} {cc : ByteArray} {nL : Nat} {rt : Option FieldType} {pc : Nat} (hd : decode cc pc = .ok (.i2l, 1)) : g_ok sh mi own cc nL rt pc (o_i2l (pc + 1)) := by
  refine ⟨?_, ?_⟩
  · intro cal P P' Q Q' L st M hc hP hQ h
    unfold o_i2l at h ⊢
    split at h
    · exact hP _ _ _ _ h
    · exact h.elim
  · intro p l e R s m args below meth c D cA μ ξ A d cal Q K C hK L st M H locs ls h hP hD hS hl
    obtain ⟨hx, hb, hml, hown, hts, hr, hlk, hKk, hA, hE, rfl, hSn⟩ := C
    unfold o_i2l at h
    split at h
    · exact lv_i2l hx hb hd rfl (hK _ _ _ _ _ _ _ (h) hP hD hS hl)
    · exact h.elim
theorem ok_l2i {sh : g_Sh} {mi : g_MI} {own : String} {cc : ByteArray} {nL : Nat} {rt : Option FieldType} {pc : Nat} (hd : decode cc pc = .ok (.l2i, 1)) : g_ok sh mi own cc nL rt pc (o_l2i (pc + 1)) := by
  refine ⟨?_, ?_⟩
  · intro cal P P' Q Q' L st M hc hP hQ h
    unfold o_l2i at h ⊢
    split at h
    · exact hP _ _ _ _ h
    · exact h.elim
  · intro p l e R s m args below meth c D cA μ ξ A d cal Q K C hK L st M H locs ls h hP hD hS hl
    obtain ⟨hx, hb, hml, hown, hts, hr, hlk, hKk, hA, hE, rfl, hSn⟩ := C
    unfold o_l2i at h
    split at h
    · exact lv_l2i hx hb hd rfl (hK _ _ _ _ _ _ _ (h) hP hD hS hl)
    · exact h.elim
theorem ok_i2c {sh : g_Sh} {mi : g_MI} {own : String} {cc : ByteArray} {nL : Nat} {rt : Option FieldType} {pc : Nat} (hd : decode cc pc = .ok (.i2c, 1)) : g_ok sh mi own cc nL rt pc (o_i2c (pc + 1)) := by
  refine ⟨?_, ?_⟩
  · intro cal P P' Q Q' L st M hc hP hQ h
    unfold o_i2c at h ⊢
    split at h
    · exact hP _ _ _ _ h
    · exact h.elim
  · intro p l e R s m args below meth c D cA μ ξ A d cal Q K C hK L st M H locs ls h hP hD hS hl
    obtain ⟨hx, hb, hml, hown, hts, hr, hlk, hKk, hA, hE, rfl, hSn⟩ := C
    unfold o_i2c at h
    split at h
    · exact lv_i2c hx hb hd rfl (hK _ _ _ _ _ _ _ (h) hP hD hS hl)
    · exact h.elim
theorem ok_i2b {sh : g_Sh} {mi : g_MI} {own : String} {cc : ByteArray} {nL : Nat} {rt : Option FieldType} {pc : Nat} (hd : decode cc pc = .ok (.i2b, 1)) : g_ok sh mi own cc nL rt pc (o_i2b (pc + 1)) := by
  refine ⟨?_, ?_⟩
  · intro cal P P' Q Q' L st M hc hP hQ h
    unfold o_i2b at h ⊢
    split at h
    · exact hP _ _ _ _ h
    · exact h.elim
  · intro p l e R s m args below meth c D cA μ ξ A d cal Q K C hK L st M H locs ls h hP hD hS hl
    obtain ⟨hx, hb, hml, hown, hts, hr, hlk, hKk, hA, hE, rfl, hSn⟩ := C
    unfold o_i2b at h
    split at h
    · exact lv_i2b hx hb hd rfl (hK _ _ _ _ _ _ _ (h) hP hD hS hl)
    · exact h.elim
theorem ok_ineg {sh : g_Sh} {mi : g_MI} {own : String} {cc : ByteArray} {nL : Nat} {rt : Option FieldType} {pc : Nat} (hd : decode cc pc = .ok (.ineg, 1)) : g_ok sh mi own cc nL rt pc (o_ineg (pc + 1)) := by
  refine ⟨?_, ?_⟩
  · intro cal P P' Q Q' L st M hc hP hQ h
    unfold o_ineg at h ⊢
    split at h
    · exact hP _ _ _ _ h
    · exact h.elim
  · intro p l e R s m args below meth c D cA μ ξ A d cal Q K C hK L st M H locs ls h hP hD hS hl
    obtain ⟨hx, hb, hml, hown, hts, hr, hlk, hKk, hA, hE, rfl, hSn⟩ := C
    unfold o_ineg at h
    split at h
    · exact lv_ineg hx hb hd (hK _ _ _ _ _ _ _ (h) hP hD hS hl)
    · exact h.elim
theorem ok_idiv {sh : g_Sh} {mi : g_MI} {own : String} {cc : ByteArray} {nL : Nat} {rt : Option FieldType} {pc : Nat} (hd : decode cc pc = .ok (.idiv, 1)) : g_ok sh mi own cc nL rt pc (o_idiv (pc + 1)) := by
  refine ⟨?_, ?_⟩
  · intro cal P P' Q Q' L st M hc hP hQ h
    unfold o_idiv at h ⊢
    split at h
    · exact ⟨h.1, hP _ _ _ _ h.2⟩
    · exact h.elim
  · intro p l e R s m args below meth c D cA μ ξ A d cal Q K C hK L st M H locs ls h hP hD hS hl
    obtain ⟨hx, hb, hml, hown, hts, hr, hlk, hKk, hA, hE, rfl, hSn⟩ := C
    unfold o_idiv at h
    split at h
    · exact lv_idiv hx hb hd h.1 (hK _ _ _ _ _ _ _ (h.2) hP hD hS hl)
    · exact h.elim
theorem ok_irem {sh : g_Sh} {mi : g_MI} {own : String} {cc : ByteArray} {nL : Nat} {rt : Option FieldType} {pc : Nat} (hd : decode cc pc = .ok (.irem, 1)) : g_ok sh mi own cc nL rt pc (o_irem (pc + 1)) := by
  refine ⟨?_, ?_⟩
  · intro cal P P' Q Q' L st M hc hP hQ h
    unfold o_irem at h ⊢
    split at h
    · exact ⟨h.1, hP _ _ _ _ h.2⟩
    · exact h.elim
  · intro p l e R s m args below meth c D cA μ ξ A d cal Q K C hK L st M H locs ls h hP hD hS hl
    obtain ⟨hx, hb, hml, hown, hts, hr, hlk, hKk, hA, hE, rfl, hSn⟩ := C
    unfold o_irem at h
    split at h
    · exact lv_irem hx hb hd h.1 (hK _ _ _ _ _ _ _ (h.2) hP hD hS hl)
    · exact h.elim
theorem ok_ldiv {sh : g_Sh} {mi : g_MI} {own : String} {cc : ByteArray} {nL : Nat} {rt : Option FieldType} {pc : Nat} (hd : decode cc pc = .ok (.ldiv, 1)) : g_ok sh mi own cc nL rt pc (o_ldiv (pc + 1)) := by
  refine ⟨?_, ?_⟩
  · intro cal P P' Q Q' L st M hc hP hQ h
    unfold o_ldiv at h ⊢
    split at h
    · exact ⟨h.1, hP _ _ _ _ h.2⟩
    · exact h.elim
  · intro p l e R s m args below meth c D cA μ ξ A d cal Q K C hK L st M H locs ls h hP hD hS hl
    obtain ⟨hx, hb, hml, hown, hts, hr, hlk, hKk, hA, hE, rfl, hSn⟩ := C
    unfold o_ldiv at h
    split at h
    · exact lv_ldiv hx hb hd h.1 (hK _ _ _ _ _ _ _ (h.2) hP hD hS hl)
    · exact h.elim
theorem ok_lrem {sh : g_Sh} {mi : g_MI} {own : String} {cc : ByteArray} {nL : Nat} {rt : Option FieldType} {pc : Nat} (hd : decode cc pc = .ok (.lrem, 1)) : g_ok sh mi own cc nL rt pc (o_lrem (pc + 1)) := by
  refine ⟨?_, ?_⟩
  · intro cal P P' Q Q' L st M hc hP hQ h
    unfold o_lrem at h ⊢
    split at h
    · exact ⟨h.1, hP _ _ _ _ h.2⟩
    · exact h.elim
  · intro p l e R s m args below meth c D cA μ ξ A d cal Q K C hK L st M H locs ls h hP hD hS hl
    obtain ⟨hx, hb, hml, hown, hts, hr, hlk, hKk, hA, hE, rfl, hSn⟩ := C
    unfold o_lrem at h
    split at h
    · exact lv_lrem hx hb hd h.1 (hK _ _ _ _ _ _ _ (h.2) hP hD hS hl)
    · exact h.elim
theorem ok_dup {sh : g_Sh} {mi : g_MI} {own : String} {cc : ByteArray} {nL : Nat} {rt : Option FieldType} {pc : Nat} (hd : decode cc pc = .ok (.dup, 1)) : g_ok sh mi own cc nL rt pc (o_dup (pc + 1)) := by
  refine ⟨?_, ?_⟩
  · intro cal P P' Q Q' L st M hc hP hQ h
    cases st with
    | nil => exact h
    | cons v r => cases v <;> first | exact hP _ _ _ _ h | exact h
  · intro p l e R s m args below meth c D cA μ ξ A d cal Q K C hK L st M H locs ls h hP hD hS hl
    obtain ⟨hx, hb, hml, hown, hts, hr, hlk, hKk, hA, hE, rfl, hSn⟩ := C
    cases st with
    | nil => exact False.elim h
    | cons v r => cases v <;> first | exact False.elim h | exact lv_dup hx hb hd rfl (hK _ _ _ _ _ _ _ (h) hP hD hS hl)
theorem ok_dup2 {sh : g_Sh} {mi : g_MI} {own : String} {cc : ByteArray} {nL : Nat} {rt : Option FieldType} {pc : Nat} (hd : decode cc pc = .ok (.dup2, 1)) : g_ok sh mi own cc nL rt pc (o_dup2 (pc + 1)) := by
  refine ⟨?_, ?_⟩
  · intro cal P P' Q Q' L st M hc hP hQ h
    unfold o_dup2 at h ⊢
    split at h
    · exact hP _ _ _ _ h
    · exact h.elim
  · intro p l e R s m args below meth c D cA μ ξ A d cal Q K C hK L st M H locs ls h hP hD hS hl
    obtain ⟨hx, hb, hml, hown, hts, hr, hlk, hKk, hA, hE, rfl, hSn⟩ := C
    unfold o_dup2 at h
    split at h
    · exact lv_dup2_11 hx hb hd rfl rfl (hK _ _ _ _ _ _ _ (h) hP hD hS hl)
    · exact h.elim
theorem ok_pop {sh : g_Sh} {mi : g_MI} {own : String} {cc : ByteArray} {nL : Nat} {rt : Option FieldType} {pc : Nat} (hd : decode cc pc = .ok (.pop, 1)) : g_ok sh mi own cc nL rt pc (o_pop (pc + 1)) := by
  refine ⟨?_, ?_⟩
  · intro cal P P' Q Q' L st M hc hP hQ h
    unfold o_pop at h ⊢
    split at h
    · exact hP _ _ _ _ h
    · exact h.elim
  · intro p l e R s m args below meth c D cA μ ξ A d cal Q K C hK L st M H locs ls h hP hD hS hl
    obtain ⟨hx, hb, hml, hown, hts, hr, hlk, hKk, hA, hE, rfl, hSn⟩ := C
    unfold o_pop at h
    split at h
    · exact lv_pop hx hb hd rfl (hK _ _ _ _ _ _ _ (h) hP hD hS hl)
    · exact h.elim
theorem ok_ic_eq {sh : g_Sh} {mi : g_MI} {own : String} {cc : ByteArray} {nL : Nat} {rt : Option FieldType} {pc : Nat} {off : Int} {t : Nat} (hd : decode cc pc = .ok (.if_icmp .eq off, 3)) (ht : (pc : Int) + off = (t : Int)) : g_ok sh mi own cc nL rt pc (o_ic_eq t (pc + 3)) := by
  refine ⟨?_, ?_⟩
  · intro cal P P' Q Q' L st M hc hP hQ h
    unfold o_ic_eq at h ⊢
    split at h
    · exact ⟨fun z => hP _ _ _ _ (h.1 z), fun z => hP _ _ _ _ (h.2 z)⟩
    · exact h.elim
  · intro p l e R s m args below meth c D cA μ ξ A d cal Q K C hK L st M H locs ls h hP hD hS hl
    obtain ⟨hx, hb, hml, hown, hts, hr, hlk, hKk, hA, hE, rfl, hSn⟩ := C
    unfold o_ic_eq at h
    split at h
    · exact lv_icmp_eq hx hb hd ht (fun z => hK _ _ _ _ _ _ _ (h.1 z) hP hD hS hl) (fun z => hK _ _ _ _ _ _ _ (h.2 z) hP hD hS hl)
    · exact h.elim
theorem ok_if_eq {sh : g_Sh} {mi : g_MI} {own : String} {cc : ByteArray} {nL : Nat} {rt : Option FieldType} {pc : Nat} {off : Int} {t : Nat} (hd : decode cc pc = .ok (.ifCond .eq off, 3)) (ht : (pc : Int) + off = (t : Int)) : g_ok sh mi own cc nL rt pc (o_if_eq t (pc + 3)) := by
  refine ⟨?_, ?_⟩
  · intro cal P P' Q Q' L st M hc hP hQ h
    unfold o_if_eq at h ⊢
    split at h
    · exact ⟨fun z => hP _ _ _ _ (h.1 z), fun z => hP _ _ _ _ (h.2 z)⟩
    · exact h.elim
  · intro p l e R s m args below meth c D cA μ ξ A d cal Q K C hK L st M H locs ls h hP hD hS hl
    obtain ⟨hx, hb, hml, hown, hts, hr, hlk, hKk, hA, hE, rfl, hSn⟩ := C
    unfold o_if_eq at h
    split at h
    · exact lv_if_eq hx hb hd ht (fun z => hK _ _ _ _ _ _ _ (h.1 z) hP hD hS hl) (fun z => hK _ _ _ _ _ _ _ (h.2 z) hP hD hS hl)
    · exact h.elim
theorem ok_ic_ne {sh : g_Sh} {mi : g_MI} {own : String} {cc : ByteArray} {nL : Nat} {rt : Option FieldType} {pc : Nat} {off : Int} {t : Nat} (hd : decode cc pc = .ok (.if_icmp .ne off, 3)) (ht : (pc : Int) + off = (t : Int)) : g_ok sh mi own cc nL rt pc (o_ic_ne t (pc + 3)) := by
  refine ⟨?_, ?_⟩
  · intro cal P P' Q Q' L st M hc hP hQ h
    unfold o_ic_ne at h ⊢
    split at h
    · exact ⟨fun z => hP _ _ _ _ (h.1 z), fun z => hP _ _ _ _ (h.2 z)⟩
    · exact h.elim
  · intro p l e R s m args below meth c D cA μ ξ A d cal Q K C hK L st M H locs ls h hP hD hS hl
    obtain ⟨hx, hb, hml, hown, hts, hr, hlk, hKk, hA, hE, rfl, hSn⟩ := C
    unfold o_ic_ne at h
    split at h
    · exact lv_icmp_ne hx hb hd ht (fun z => hK _ _ _ _ _ _ _ (h.1 z) hP hD hS hl) (fun z => hK _ _ _ _ _ _ _ (h.2 z) hP hD hS hl)
    · exact h.elim
theorem ok_if_ne {sh : g_Sh} {mi : g_MI} {own : String} {cc : ByteArray} {nL : Nat} {rt : Option FieldType} {pc : Nat} {off : Int} {t : Nat} (hd : decode cc pc = .ok (.ifCond .ne off, 3)) (ht : (pc : Int) + off = (t : Int)) : g_ok sh mi own cc nL rt pc (o_if_ne t (pc + 3)) := by
  refine ⟨?_, ?_⟩
  · intro cal P P' Q Q' L st M hc hP hQ h
    unfold o_if_ne at h ⊢
    split at h
    · exact ⟨fun z => hP _ _ _ _ (h.1 z), fun z => hP _ _ _ _ (h.2 z)⟩
    · exact h.elim
  · intro p l e R s m args below meth c D cA μ ξ A d cal Q K C hK L st M H locs ls h hP hD hS hl
    obtain ⟨hx, hb, hml, hown, hts, hr, hlk, hKk, hA, hE, rfl, hSn⟩ := C
    unfold o_if_ne at h
    split at h
    · exact lv_if_ne hx hb hd ht (fun z => hK _ _ _ _ _ _ _ (h.1 z) hP hD hS hl) (fun z => hK _ _ _ _ _ _ _ (h.2 z) hP hD hS hl)
    · exact h.elim
theorem ok_ic_lt {sh : g_Sh} {mi : g_MI} {own : String} {cc : ByteArray} {nL : Nat} {rt : Option FieldType} {pc : Nat} {off : Int} {t : Nat} (hd : decode cc pc = .ok (.if_icmp .lt off, 3)) (ht : (pc : Int) + off = (t : Int)) : g_ok sh mi own cc nL rt pc (o_ic_lt t (pc + 3)) := by
  refine ⟨?_, ?_⟩
  · intro cal P P' Q Q' L st M hc hP hQ h
    unfold o_ic_lt at h ⊢
    split at h
    · exact ⟨fun z => hP _ _ _ _ (h.1 z), fun z => hP _ _ _ _ (h.2 z)⟩
    · exact h.elim
  · intro p l e R s m args below meth c D cA μ ξ A d cal Q K C hK L st M H locs ls h hP hD hS hl
    obtain ⟨hx, hb, hml, hown, hts, hr, hlk, hKk, hA, hE, rfl, hSn⟩ := C
    unfold o_ic_lt at h
    split at h
    · exact lv_icmp_lt hx hb hd ht (fun z => hK _ _ _ _ _ _ _ (h.1 z) hP hD hS hl) (fun z => hK _ _ _ _ _ _ _ (h.2 z) hP hD hS hl)
    · exact h.elim
theorem ok_if_lt {sh : g_Sh} {mi : g_MI} {own : String} {cc : ByteArray} {nL : Nat} {rt : Option FieldType} {pc : Nat} {off : Int} {t : Nat} (hd : decode cc pc = .ok (.ifCond .lt off, 3)) (ht : (pc : Int) + off = (t : Int)) : g_ok sh mi own cc nL rt pc (o_if_lt t (pc + 3)) := by
  refine ⟨?_, ?_⟩
  · intro cal P P' Q Q' L st M hc hP hQ h
    unfold o_if_lt at h ⊢
    split at h
    · exact ⟨fun z => hP _ _ _ _ (h.1 z), fun z => hP _ _ _ _ (h.2 z)⟩
    · exact h.elim
  · intro p l e R s m args below meth c D cA μ ξ A d cal Q K C hK L st M H locs ls h hP hD hS hl
    obtain ⟨hx, hb, hml, hown, hts, hr, hlk, hKk, hA, hE, rfl, hSn⟩ := C
    unfold o_if_lt at h
    split at h
    · exact lv_if_lt hx hb hd ht (fun z => hK _ _ _ _ _ _ _ (h.1 z) hP hD hS hl) (fun z => hK _ _ _ _ _ _ _ (h.2 z) hP hD hS hl)
    · exact h.elim
theorem ok_ic_ge {sh : g_Sh} {mi : g_MI} {own : String} {cc : ByteArray} {nL : Nat} {rt : Option FieldType} {pc : Nat} {off : Int} {t : Nat} (hd : decode cc pc = .ok (.if_icmp .ge off, 3)) (ht : (pc : Int) + off = (t : Int)) : g_ok sh mi own cc nL rt pc (o_ic_ge t (pc + 3)) := by
  refine ⟨?_, ?_⟩
  · intro cal P P' Q Q' L st M hc hP hQ h
    unfold o_ic_ge at h ⊢
    split at h
    · exact ⟨fun z => hP _ _ _ _ (h.1 z), fun z => hP _ _ _ _ (h.2 z)⟩
    · exact h.elim
  · intro p l e R s m args below meth c D cA μ ξ A d cal Q K C hK L st M H locs ls h hP hD hS hl
    obtain ⟨hx, hb, hml, hown, hts, hr, hlk, hKk, hA, hE, rfl, hSn⟩ := C
    unfold o_ic_ge at h
    split at h
    · exact lv_icmp_ge hx hb hd ht (fun z => hK _ _ _ _ _ _ _ (h.1 z) hP hD hS hl) (fun z => hK _ _ _ _ _ _ _ (h.2 z) hP hD hS hl)
    · exact h.elim
theorem ok_if_ge {sh : g_Sh} {mi : g_MI} {own : String} {cc : ByteArray} {nL : Nat} {rt : Option FieldType} {pc : Nat} {off : Int} {t : Nat} (hd : decode cc pc = .ok (.ifCond .ge off, 3)) (ht : (pc : Int) + off = (t : Int)) : g_ok sh mi own cc nL rt pc (o_if_ge t (pc + 3)) := by
  refine ⟨?_, ?_⟩
  · intro cal P P' Q Q' L st M hc hP hQ h
    unfold o_if_ge at h ⊢
    split at h
    · exact ⟨fun z => hP _ _ _ _ (h.1 z), fun z => hP _ _ _ _ (h.2 z)⟩
    · exact h.elim
  · intro p l e R s m args below meth c D cA μ ξ A d cal Q K C hK L st M H locs ls h hP hD hS hl
    obtain ⟨hx, hb, hml, hown, hts, hr, hlk, hKk, hA, hE, rfl, hSn⟩ := C
    unfold o_if_ge at h
    split at h
    · exact lv_if_ge hx hb hd ht (fun z => hK _ _ _ _ _ _ _ (h.1 z) hP hD hS hl) (fun z => hK _ _ _ _ _ _ _ (h.2 z) hP hD hS hl)
    · exact h.elim
theorem ok_ic_gt {sh : g_Sh} {mi : g_MI} {own : String} {cc : ByteArray} {nL : Nat} {rt : Option FieldType} {pc : Nat} {off : Int} {t : Nat} (hd : decode cc pc = .ok (.if_icmp .gt off, 3)) (ht : (pc : Int) + off = (t : Int)) : g_ok sh mi own cc nL rt pc (o_ic_gt t (pc + 3)) := by
  refine ⟨?_, ?_⟩
  · intro cal P P' Q Q' L st M hc hP hQ h
    unfold o_ic_gt at h ⊢
    split at h
    · exact ⟨fun z => hP _ _ _ _ (h.1 z), fun z => hP _ _ _ _ (h.2 z)⟩
    · exact h.elim
  · intro p l e R s m args below meth c D cA μ ξ A d cal Q K C hK L st M H locs ls h hP hD hS hl
    obtain ⟨hx, hb, hml, hown, hts, hr, hlk, hKk, hA, hE, rfl, hSn⟩ := C
    unfold o_ic_gt at h
    split at h
    · exact lv_icmp_gt hx hb hd ht (fun z => hK _ _ _ _ _ _ _ (h.1 z) hP hD hS hl) (fun z => hK _ _ _ _ _ _ _ (h.2 z) hP hD hS hl)
    · exact h.elim
theorem ok_if_gt {sh : g_Sh} {mi : g_MI} {own : String} {cc : ByteArray} {nL : Nat} {rt : Option FieldType} {pc : Nat} {off : Int} {t : Nat} (hd : decode cc pc = .ok (.ifCond .gt off, 3)) (ht : (pc : Int) + off = (t : Int)) : g_ok sh mi own cc nL rt pc (o_if_gt t (pc + 3)) := by
  refine ⟨?_, ?_⟩
  · intro cal P P' Q Q' L st M hc hP hQ h
    unfold o_if_gt at h ⊢
    split at h
    · exact ⟨fun z => hP _ _ _ _ (h.1 z), fun z => hP _ _ _ _ (h.2 z)⟩
    · exact h.elim
  · intro p l e R s m args below meth c D cA μ ξ A d cal Q K C hK L st M H locs ls h hP hD hS hl
    obtain ⟨hx, hb, hml, hown, hts, hr, hlk, hKk, hA, hE, rfl, hSn⟩ := C
    unfold o_if_gt at h
    split at h
    · exact lv_if_gt hx hb hd ht (fun z => hK _ _ _ _ _ _ _ (h.1 z) hP hD hS hl) (fun z => hK _ _ _ _ _ _ _ (h.2 z) hP hD hS hl)
    · exact h.elim
theorem ok_ic_le {sh : g_Sh} {mi : g_MI} {own : String} {cc : ByteArray} {nL : Nat} {rt : Option FieldType} {pc : Nat} {off : Int} {t : Nat} (hd : decode cc pc = .ok (.if_icmp .le off, 3)) (ht : (pc : Int) + off = (t : Int)) : g_ok sh mi own cc nL rt pc (o_ic_le t (pc + 3)) := by
  refine ⟨?_, ?_⟩
  · intro cal P P' Q Q' L st M hc hP hQ h
    unfold o_ic_le at h ⊢
    split at h
    · exact ⟨fun z => hP _ _ _ _ (h.1 z), fun z => hP _ _ _ _ (h.2 z)⟩
    · exact h.elim
  · intro p l e R s m args below meth c D cA μ ξ A d cal Q K C hK L st M H locs ls h hP hD hS hl
    obtain ⟨hx, hb, hml, hown, hts, hr, hlk, hKk, hA, hE, rfl, hSn⟩ := C
    unfold o_ic_le at h
    split at h
    · exact lv_icmp_le hx hb hd ht (fun z => hK _ _ _ _ _ _ _ (h.1 z) hP hD hS hl) (fun z => hK _ _ _ _ _ _ _ (h.2 z) hP hD hS hl)
    · exact h.elim
theorem ok_if_le {sh : g_Sh} {mi : g_MI} {own : String} {cc : ByteArray} {nL : Nat} {rt : Option FieldType} {pc : Nat} {off : Int} {t : Nat} (hd : decode cc pc = .ok (.ifCond .le off, 3)) (ht : (pc : Int) + off = (t : Int)) : g_ok sh mi own cc nL rt pc (o_if_le t (pc + 3)) := by
  refine ⟨?_, ?_⟩
  · intro cal P P' Q Q' L st M hc hP hQ h
    unfold o_if_le at h ⊢
    split at h
    · exact ⟨fun z => hP _ _ _ _ (h.1 z), fun z => hP _ _ _ _ (h.2 z)⟩
    · exact h.elim
  · intro p l e R s m args below meth c D cA μ ξ A d cal Q K C hK L st M H locs ls h hP hD hS hl
    obtain ⟨hx, hb, hml, hown, hts, hr, hlk, hKk, hA, hE, rfl, hSn⟩ := C
    unfold o_if_le at h
    split at h
    · exact lv_if_le hx hb hd ht (fun z => hK _ _ _ _ _ _ _ (h.1 z) hP hD hS hl) (fun z => hK _ _ _ _ _ _ _ (h.2 z) hP hD hS hl)
    · exact h.elim
theorem ok_goto {sh : g_Sh} {mi : g_MI} {own : String} {cc : ByteArray} {nL : Nat} {rt : Option FieldType} {pc : Nat} {off : Int} {t : Nat} (hd : decode cc pc = .ok (.goto off, 3)) (ht : (pc : Int) + off = (t : Int)) : g_ok sh mi own cc nL rt pc (o_goto t) := by
  refine ⟨?_, ?_⟩
  · intro cal P P' Q Q' L st M hc hP hQ h
    unfold o_goto at h ⊢
    exact hP _ _ _ _ h
  · intro p l e R s m args below meth c D cA μ ξ A d cal Q K C hK L st M H locs ls h hP hD hS hl
    obtain ⟨hx, hb, hml, hown, hts, hr, hlk, hKk, hA, hE, rfl, hSn⟩ := C
    unfold o_goto at h
    exact lv_goto hx hb hd ht (hK _ _ _ _ _ _ _ (h) hP hD hS hl)
theorem g_sw_mono {d : Nat} {x : Int32} {k k' : Nat → Prop} (hk : ∀ t, k t → k' t) : ∀ ps : List (Int32 × Nat), g_sw ps d x k → g_sw ps d x k'
  | [], h => hk _ h
  | (c, t) :: r, h => ⟨fun z => hk _ (h.1 z), fun z => g_sw_mono hk r (h.2 z)⟩
def g_lsok (pc : Nat) : List (Int32 × Nat) → List (Int × Int) → Bool
  | [], [] => true
  | (c, t) :: ps, (a, o) :: l => decide (c.toInt = a) && decide ((pc : Int) + o = (t : Int)) && g_lsok pc ps l
  | _, _ => false
theorem g_ls_spec {pc d : Nat} {df : Int} (hdf : (pc : Int) + df = (d : Int)) {x : Int32} {k : Nat → Prop} : ∀ (ps : List (Int32 × Nat)) (l : List (Int × Int)), g_lsok pc ps l = true → g_sw ps d x k → ∃ off tgt, Op.lookupswitch.offset l df x.toInt = off ∧ (pc : Int) + off = ((tgt : Nat) : Int) ∧ k tgt
  | [], [], _, h => ⟨df, d, rfl, hdf, h⟩
  | [], _ :: _, e, _ => by cases e
  | _ :: _, [], e, _ => by cases e
  | (c, t) :: ps, (a, o) :: l, e, h => by
    simp only [g_lsok, Bool.and_eq_true, decide_eq_true_eq] at e
    by_cases z : x = c
    · refine ⟨o, t, ?_, e.1.2, h.1 z⟩
      rw [Op.lookupswitch.offset_cons, if_pos (by rw [z]; exact e.1.1.symm)]
    · obtain ⟨off, tgt, h1, h2, h3⟩ := g_ls_spec hdf ps l e.2 (h.2 z)
      exact ⟨off, tgt, by rw [lv_osw z e.1.1]; exact h1, h2, h3⟩
def g_tsok (pc : Nat) : Int → List (Int32 × Nat) → List Int → Bool
  | _, [], [] => true
  | lo, (c, t) :: ps, o :: l => decide (c.toInt = lo) && decide ((pc : Int) + o = (t : Int)) && g_tsok pc (lo + 1) ps l
  | _, _, _ => false
theorem g_ts_spec {pc d : Nat} {x : Int32} {k : Nat → Prop} : ∀ (ps : List (Int32 × Nat)) (lo : Int) (l : List Int), g_tsok pc lo ps l = true → g_sw ps d x k → (∃ (i : Nat) (o : Int) (t : Nat), x.toInt = lo + i ∧ l[i]? = some o ∧ (pc : Int) + o = (t : Int) ∧ k t) ∨ ((x.toInt < lo ∨ lo + l.length ≤ x.toInt) ∧ k d)
  | [], lo, [], _, h => Or.inr ⟨by simp; omega, h⟩
  | [], _, _ :: _, e, _ => by cases e
  | _ :: _, _, [], e, _ => by cases e
  | (c, t) :: ps, lo, o :: l, e, h => by
    simp only [g_tsok, Bool.and_eq_true, decide_eq_true_eq] at e
    by_cases z : x = c
    · exact Or.inl ⟨0, o, t, by rw [z, e.1.1]; simp, rfl, e.1.2, h.1 z⟩
    · have zz : ¬ x.toInt = lo := lv_neT z e.1.1
      rcases g_ts_spec ps (lo + 1) l e.2 (h.2 z) with ⟨i, o', t', h1, h2, h3, h4⟩ | ⟨h1, h2⟩
      · exact Or.inl ⟨i + 1, o', t', by rw [h1]; push_cast; omega, h2, h3, h4⟩
      · refine Or.inr ⟨?_, h2⟩
        simp only [List.length_cons]
        push_cast
        omega
theorem ok_lookup {sh : g_Sh} {mi : g_MI} {own : String} {cc : ByteArray} {nL : Nat} {rt : Option FieldType} {pc : Nat} {df : Int} {arr : Array (Int × Int)} {len d : Nat} {ps : List (Int32 × Nat)} (hd : decode cc pc = .ok (.lookupswitch df arr, len)) (hs : (arr.toList.zip (arr.toList.drop 1)).all (fun (a, next) => a.1 < next.1) = true) (hps : g_lsok pc ps arr.toList = true) (hdf : (pc : Int) + df = (d : Int)) : g_ok sh mi own cc nL rt pc (o_sw ps d) := by
  refine ⟨?_, ?_⟩
  · intro cal P P' Q Q' L st M hc hP hQ h
    unfold o_sw at h ⊢
    split at h
    · exact g_sw_mono (fun t => hP _ _ _ _) _ h
    · exact h.elim
  · intro p l e R s m args below meth c D cA μ ξ A d cal Q K C hK L st M H locs ls h hP hD hS hl
    obtain ⟨hx, hb, hml, hown, hts, hr, hlk, hKk, hA, hE, rfl, hSn⟩ := C
    unfold o_sw at h
    split at h
    · obtain ⟨off, tgt, h1, h2, h3⟩ := g_ls_spec hdf ps arr.toList hps h
      exact lv_lookup hx hb hd hs h1 h2 (hK _ _ _ _ _ _ _ (h3) hP hD hS hl)
    · exact h.elim
theorem ok_table {sh : g_Sh} {mi : g_MI} {own : String} {cc : ByteArray} {nL : Nat} {rt : Option FieldType} {pc : Nat} {df lo hi : Int} {offs : Array Int} {len d : Nat} {ps : List (Int32 × Nat)} (hd : decode cc pc = .ok (.tableswitch df lo hi offs, len)) (hps : g_tsok pc lo ps offs.toList = true) (hhi : lo + (offs.toList.length : Int) = hi + 1) (hdf : (pc : Int) + df = (d : Int)) : g_ok sh mi own cc nL rt pc (o_sw ps d) := by
  refine ⟨?_, ?_⟩
  · intro cal P P' Q Q' L st M hc hP hQ h
    unfold o_sw at h ⊢
    split at h
    · exact g_sw_mono (fun t => hP _ _ _ _) _ h
    · exact h.elim
  · intro p l e R s m args below meth c D cA μ ξ A d cal Q K C hK L st M H locs ls h hP hD hS hl
    obtain ⟨hx, hb, hml, hown, hts, hr, hlk, hKk, hA, hE, rfl, hSn⟩ := C
    unfold o_sw at h
    split at h
    · rcases g_ts_spec ps lo offs.toList hps h with ⟨i, o, t, h1, h2, h3, h4⟩ | ⟨h1, h2⟩
      · have hi2 : i < offs.toList.length := (List.getElem?_eq_some_iff.mp h2).1
        exact lv_tableIn hx hb hd (by omega) (by omega) (by rw [show (Int32.toInt _ - lo).toNat = i by omega, ← Array.getElem?_toList]; exact h2) h3 (hK _ _ _ _ _ _ _ (h4) hP hD hS hl)
      · exact lv_tableOut hx hb hd (by omega) hdf (hK _ _ _ _ _ _ _ (h2) hP hD hS hl)
    · exact h.elim
end
section
/-! ===== ops on cells, calls, returns ===== -/
theorem g_fv_spec {sh : g_Sh} {ci k a : Nat} {M : g_M} {K : Value → Prop} (h : g_fv sh ci k a M K) : ∃ ps p, a < sh.1 ∧ sh.2 a = .inr (ci, ps) ∧ g_nth ps k = some p ∧ K (match p with | some q => .ref q | none => .int (M a k)) := by
  unfold g_fv at h
  cases e : Nat.ble (a + 1) sh.1 with
  | false => rw [e] at h; exact False.elim h
  | true =>
    rw [e] at h
    have ha : a < sh.1 := Nat.le_of_ble_eq_true e
    cases es : sh.2 a with
    | inl x => rw [es] at h; exact False.elim h
    | inr x =>
      obtain ⟨cj, ps⟩ := x
      rw [es] at h
      cases ec : Nat.beq ci cj with
      | false => simp only [cond, ec] at h
      | true =>
        simp only [cond, ec] at h
        have hc : ci = cj := Nat.eq_of_beq_eq_true ec
        subst hc
        cases en : g_nth ps k with
        | none => rw [en] at h; exact False.elim h
        | some p =>
          rw [en] at h
          refine ⟨ps, p, ha, rfl, en, ?_⟩
          cases p with
          | none => exact h
          | some q => exact h
theorem g_fn_spec {sh : g_Sh} {ci k a : Nat} {K : Prop} (h : g_fn sh ci k a K) : ∃ ps, a < sh.1 ∧ sh.2 a = .inr (ci, ps) ∧ g_nth ps k = some none ∧ K := by
  unfold g_fn at h
  cases e : Nat.ble (a + 1) sh.1 with
  | false => rw [e] at h; exact False.elim h
  | true =>
    rw [e] at h
    have ha : a < sh.1 := Nat.le_of_ble_eq_true e
    cases es : sh.2 a with
    | inl x => rw [es] at h; exact False.elim h
    | inr x =>
      obtain ⟨cj, ps⟩ := x
      rw [es] at h
      cases ec : Nat.beq ci cj with
      | false => simp only [cond, ec] at h
      | true =>
        simp only [cond, ec] at h
        have hc : ci = cj := Nat.eq_of_beq_eq_true ec
        subst hc
        cases en : g_nth ps k with
        | none => rw [en] at h; exact False.elim h
        | some p =>
          rw [en] at h
          cases p with
          | some q => exact False.elim h
          | none => exact ⟨ps, ha, rfl, en, h⟩
theorem g_ob_spec {sh : g_Sh} {ci a : Nat} {K : Prop} (h : g_ob sh ci a K) : ∃ ps, a < sh.1 ∧ sh.2 a = .inr (ci, ps) ∧ K := by
  unfold g_ob at h
  cases e : Nat.ble (a + 1) sh.1 with
  | false => rw [e] at h; exact False.elim h
  | true =>
    rw [e] at h
    have ha : a < sh.1 := Nat.le_of_ble_eq_true e
    cases es : sh.2 a with
    | inl x => rw [es] at h; exact False.elim h
    | inr x =>
      obtain ⟨cj, ps⟩ := x
      rw [es] at h
      cases ec : Nat.beq ci cj with
      | false => simp only [cond, ec] at h
      | true =>
        simp only [cond, ec] at h
        have hc : ci = cj := Nat.eq_of_beq_eq_true ec
        subst hc
        exact ⟨ps, ha, rfl, h⟩
theorem g_ar_spec {sh : g_Sh} {kd a : Nat} {K : Nat → Prop} (h : g_ar sh kd a K) : ∃ n, a < sh.1 ∧ sh.2 a = .inl (kd, n) ∧ K n := by
  unfold g_ar at h
  cases e : Nat.ble (a + 1) sh.1 with
  | false => rw [e] at h; exact False.elim h
  | true =>
    rw [e] at h
    have ha : a < sh.1 := Nat.le_of_ble_eq_true e
    cases es : sh.2 a with
    | inr x => rw [es] at h; exact False.elim h
    | inl x =>
      obtain ⟨cj, n⟩ := x
      rw [es] at h
      cases ec : Nat.beq kd cj with
      | false => simp only [cond, ec] at h
      | true =>
        simp only [cond, ec] at h
        have hc : kd = cj := Nat.eq_of_beq_eq_true ec
        subst hc
        exact ⟨n, ha, rfl, h⟩
theorem g_fv_mono {sh : g_Sh} {ci k a : Nat} {M : g_M} {K K' : Value → Prop} (hk : ∀ v, K v → K' v) (h : g_fv sh ci k a M K) : g_fv sh ci k a M K' := by
  obtain ⟨ps, p, h1, h2, h3, h4⟩ := g_fv_spec h
  have e1 : Nat.ble (a + 1) sh.1 = true := Nat.ble_eq_true_of_le h1
  have e2 : Nat.beq ci ci = true := Nat.beq_refl ci
  unfold g_fv
  rw [e1, h2]
  simp only [cond, e2, h3]
  cases p with
  | none => exact hk _ h4
  | some q => exact hk _ h4
theorem g_fn_mono {sh : g_Sh} {ci k a : Nat} {K K' : Prop} (hk : K → K') (h : g_fn sh ci k a K) : g_fn sh ci k a K' := by
  obtain ⟨ps, h1, h2, h3, h4⟩ := g_fn_spec h
  have e1 : Nat.ble (a + 1) sh.1 = true := Nat.ble_eq_true_of_le h1
  have e2 : Nat.beq ci ci = true := Nat.beq_refl ci
  unfold g_fn
  rw [e1, h2]
  simp only [cond, e2, h3]
  exact hk h4
theorem g_ob_mono {sh : g_Sh} {ci a : Nat} {K K' : Prop} (hk : K → K') (h : g_ob sh ci a K) : g_ob sh ci a K' := by
  obtain ⟨ps, h1, h2, h4⟩ := g_ob_spec h
  have e1 : Nat.ble (a + 1) sh.1 = true := Nat.ble_eq_true_of_le h1
  have e2 : Nat.beq ci ci = true := Nat.beq_refl ci
  unfold g_ob
  rw [e1, h2]
  simp only [cond, e2]
  exact hk h4
theorem g_ar_mono {sh : g_Sh} {kd a : Nat} {K K' : Nat → Prop} (hk : ∀ n, K n → K' n) (h : g_ar sh kd a K) : g_ar sh kd a K' := by
  obtain ⟨n, h1, h2, h4⟩ := g_ar_spec h
  have e1 : Nat.ble (a + 1) sh.1 = true := Nat.ble_eq_true_of_le h1
  have e2 : Nat.beq kd kd = true := Nat.beq_refl kd
  unfold g_ar
  rw [e1, h2]
  simp only [cond, e2]
  exact hk n h4
theorem g_xa_spec {X : g_X} {k : Nat} {K : Nat → (Nat → Int32) → Prop} (h : g_xa X k K) : ∃ n f, X k = some (n, f) ∧ K n f := by
  unfold g_xa at h
  cases e : X k with
  | none => rw [e] at h; exact False.elim h
  | some x => rw [e] at h; exact ⟨x.1, x.2, rfl, h⟩
theorem g_xa_mono {X : g_X} {k : Nat} {K K' : Nat → (Nat → Int32) → Prop} (hk : ∀ n f, K n f → K' n f) (h : g_xa X k K) : g_xa X k K' := by
  obtain ⟨n, f, h1, h2⟩ := g_xa_spec h
  unfold g_xa
  rw [h1]
  exact hk n f h2
theorem g_cond_spec {b : Bool} {K : Prop} (h : cond b K False) : b = true ∧ K := by cases b with
  | true => exact ⟨rfl, h⟩
  | false => exact False.elim h
theorem g_cond_mono {b : Bool} {K K' : Prop} (hk : K → K') (h : cond b K False) : cond b K' False := by cases b with
  | true => exact hk h
  | false => exact h
theorem g_pop_spec : ∀ (n : Nat) (st as : List Value) (k : List Value → List Value → Prop), g_pop n st as k → ∃ vs r, st = vs ++ r ∧ vs.length = n ∧ k (vs.reverse ++ as) r := by
  intro n
  induction n with
  | zero => intro st as k h; exact ⟨[], st, rfl, rfl, h⟩
  | succ n ih =>
    intro st as k h
    cases st with
    | nil => exact False.elim h
    | cons v st =>
      obtain ⟨vs, r, h1, h2, h3⟩ := ih st (v :: as) k h
      exact ⟨v :: vs, r, by rw [h1]; rfl, by simp [h2], by simpa using h3⟩
theorem g_pop_mono : ∀ (n : Nat) (st as : List Value) (k k' : List Value → List Value → Prop), (∀ as r, k as r → k' as r) → g_pop n st as k → g_pop n st as k' := by
  intro n
  induction n with
  | zero => intro st as k k' hk h; exact hk _ _ h
  | succ n ih =>
    intro st as k k' hk h
    cases st with
    | nil => exact h
    | cons v st => exact ih st (v :: as) k k' hk h
/-- the world behind a store -/
theorem g_put_P {D : va_G} {cA : Nat → ClassId} {μ : Nat → Nat} {M : g_M} {sh : g_Sh} {a : Nat} {H : Heap} {f : Nat → Int32} {e : va_E} (ha : a < sh.1) (he : e = g_cell cA μ f (sh.2 a)) (h : va_P D g_cls ((g_wld cA μ M sh).set a (μ a, e)) H) : va_P D g_cls (g_wld cA μ (g_ms M a f) sh) H := by
  rw [he, g_wld_set ha] at h
  exact h
theorem g_put_D {A : Nat → Prop} {cA : Nat → ClassId} {μ : Nat → Nat} {M : g_M} {sh : g_Sh} {a : Nat} {f : Nat → Int32} {e : va_E} (ha : a < sh.1) (he : e = g_cell cA μ f (sh.2 a)) (h : va_D A ((g_wld cA μ M sh).set a (μ a, e))) : va_D A (g_wld cA μ (g_ms M a f) sh) := by
  rw [he, g_wld_set ha] at h
  exact h
section OKH
variable {sh : g_Sh} {mi : g_MI} {own : String} {cc : ByteArray} {nL : Nat} {rt : Option FieldType} {pc : Nat}
theorem ok_getf {ci k idx N : Nat} {C : String} {T : u_T} (hd : decode cc pc = .ok (.getfield idx, 3)) (hc : g_cls[ci]? = some (C, T, N)) (hin : ∀ w ∈ u_ws C T N, w ∈ g_tbl) (hk : k < N) (hw : Cond.fieldLink own idx (T k).1 (T k).2.1 (T k).2.2.1 ∈ g_tbl) : g_ok sh mi own cc nL rt pc (o_getf sh ci k (pc + 3)) := by
  refine ⟨?_, ?_⟩
  · intro cal P P' Q Q' L st M hc hP hQ h
    unfold o_getf at h ⊢
    split at h
    · exact g_fv_mono (fun v => hP _ _ _ _) h
    · exact h.elim
  · intro p l e R s m args below meth c D cA μ ξ A d cal Q K C hK L st M H locs ls h hP hD hS hl
    obtain ⟨hx, hb, hml, hown, hts, hr, hlk, hKk, hA, hE, rfl, hSn⟩ := C
    unfold o_getf at h
    split at h
    · rename_i a r
      obtain ⟨ps, p, h1, h2, h3, h4⟩ := g_fv_spec h
      have he := g_wld_at (cA := cA) (μ := μ) (M := M) h1
      rw [h2] at he
      refine va_get (D := D) (ci := ci) (v := g_fl μ (M a) k p) hx hb hts hin hown hKk hP a he hc k hk (hts _ hw) (fun _ h => h) (g_fl_at h3) hd ?_
      have h5 := hK _ _ _ _ _ _ _ h4 hP hD hS hl
      cases p with
      | none => exact h5
      | some q => exact h5
    · exact h.elim
theorem ok_putf {ci k idx N : Nat} {C : String} {T : u_T} {ty0 : Nat → FieldType} (hd : decode cc pc = .ok (.putfield idx, 3)) (hc : g_cls[ci]? = some (C, T, N)) (hin : ∀ w ∈ u_ws C T N, w ∈ g_tbl) (hty : ∀ k, k < N → parseFieldDescriptor (T k).2.2.1 = some (ty0 k)) (hnm : ∀ a, a < N → ∀ b, b < N → a ≠ b → (T a).2.1 ≠ (T b).2.1) (hk : k < N) (hw : Cond.fieldLink own idx (T k).1 (T k).2.1 (T k).2.2.1 ∈ g_tbl) (hfin : (T k).2.2.2 = false) (ht : ty0 k = .int) : g_ok sh mi own cc nL rt pc (o_putf sh ci k (pc + 3)) := by
  refine ⟨?_, ?_⟩
  · intro cal P P' Q Q' L st M hc hP hQ h
    unfold o_putf at h ⊢
    split at h
    · exact g_fn_mono (hP _ _ _ _) h
    · exact h.elim
  · intro p l e R s m args below meth c D cA μ ξ A d cal Q K C hK L st M H locs ls h hP hD hS hl
    obtain ⟨hx, hb, hml, hown, hts, hr, hlk, hKk, hA, hE, rfl, hSn⟩ := C
    unfold o_putf at h
    split at h
    · rename_i v a r
      obtain ⟨ps, h1, h2, h3, h4⟩ := g_fn_spec h
      have he := g_wld_at (cA := cA) (μ := μ) (M := M) h1
      rw [h2] at he
      have hl2 : k < (ps.mapIdx (g_fl μ (M a))).length := by
        rw [List.length_mapIdx]
        rw [g_nth_eq] at h3
        exact (List.getElem?_eq_some_iff.mp h3).1
      have eq : (Sum.inr (ci, (ps.mapIdx (g_fl μ (M a))).set k (.int v)) : va_E) = g_cell cA μ (upd (M a) k v) (sh.2 a) := by
        rw [h2, g_fl_set h3]
        rfl
      refine va_put (D := D) (ci := ci) (v := .int v) (ty := .int) hx hb hts hin ty0 hty hnm hown hKk hP hD hS a he hc k hk (hts _ hw) (fun _ h => h) hfin (by rw [hty k hk, ht]) (vp_nar_int v) rfl hl2 hd (fun H1 locs1 hP1 hD1 hS1 => ?_)
      exact hK _ _ _ _ _ _ _ h4 (g_put_P h1 eq hP1) (g_put_D h1 eq hD1) hS1 hl
    · exact h.elim
theorem ok_putz {ci k idx N : Nat} {C : String} {T : u_T} {ty0 : Nat → FieldType} (hd : decode cc pc = .ok (.putfield idx, 3)) (hc : g_cls[ci]? = some (C, T, N)) (hin : ∀ w ∈ u_ws C T N, w ∈ g_tbl) (hty : ∀ k, k < N → parseFieldDescriptor (T k).2.2.1 = some (ty0 k)) (hnm : ∀ a, a < N → ∀ b, b < N → a ≠ b → (T a).2.1 ≠ (T b).2.1) (hk : k < N) (hw : Cond.fieldLink own idx (T k).1 (T k).2.1 (T k).2.2.1 ∈ g_tbl) (hfin : (T k).2.2.2 = false) (ht : ty0 k = .boolean) : g_ok sh mi own cc nL rt pc (o_putz sh ci k (pc + 3)) := by
  refine ⟨?_, ?_⟩
  · intro cal P P' Q Q' L st M hc hP hQ h
    unfold o_putz at h ⊢
    split at h
    · exact g_fn_mono (fun z => ⟨z.1, hP _ _ _ _ z.2⟩) h
    · exact h.elim
  · intro p l e R s m args below meth c D cA μ ξ A d cal Q K C hK L st M H locs ls h hP hD hS hl
    obtain ⟨hx, hb, hml, hown, hts, hr, hlk, hKk, hA, hE, rfl, hSn⟩ := C
    unfold o_putz at h
    split at h
    · rename_i v a r
      obtain ⟨ps, h1, h2, h3, h4⟩ := g_fn_spec h
      have he := g_wld_at (cA := cA) (μ := μ) (M := M) h1
      rw [h2] at he
      have hl2 : k < (ps.mapIdx (g_fl μ (M a))).length := by
        rw [List.length_mapIdx]
        rw [g_nth_eq] at h3
        exact (List.getElem?_eq_some_iff.mp h3).1
      have eq : (Sum.inr (ci, (ps.mapIdx (g_fl μ (M a))).set k (.int v)) : va_E) = g_cell cA μ (upd (M a) k v) (sh.2 a) := by
        rw [h2, g_fl_set h3]
        rfl
      have hn : narrow .boolean (.int v) = .int v ∧ fits .boolean (.int v) = true := by
        rcases h4.1 with rfl | rfl <;> exact ⟨by decide, by decide⟩
      refine va_put (D := D) (ci := ci) (v := .int v) (ty := .boolean) hx hb hts hin ty0 hty hnm hown hKk hP hD hS a he hc k hk (hts _ hw) (fun _ h => h) hfin (by rw [hty k hk, ht]) hn.1 hn.2 hl2 hd (fun H1 locs1 hP1 hD1 hS1 => ?_)
      exact hK _ _ _ _ _ _ _ h4.2 (g_put_P h1 eq hP1) (g_put_D h1 eq hD1) hS1 hl
    · exact h.elim
theorem g_x0_int {k n : Nat} {f : Nat → Int32} (h : g_x0 k = some (n, f)) (hk : k < 20) {ξ : Nat → Nat} {A : Nat → Prop} {U : State} {H : Heap} (hE : g_ext ξ A U H) : va_T .int (ξ k) n (fun j => .int (f j)) A U H := by
  obtain ⟨h1, h2, h3, -⟩ := hE
  have hb : Nat.ble 20 k = false := by
    cases e : Nat.ble 20 k with
    | false => rfl
    | true => have := Nat.le_of_ble_eq_true e; omega
  unfold g_x0 at h
  rw [hb] at h
  by_cases k1 : k = 1
  · subst k1; cases h; exact h1
  · by_cases k2 : k = 2
    · subst k2; cases h; exact h2
    · by_cases k3 : k = 3
      · subst k3; cases h; exact h3
      · exfalso
        cases e1 : Nat.ble 1 k with
        | false => rw [e1] at h; cases h
        | true =>
          cases e2 : Nat.ble k 3 with
          | false => rw [e1, e2] at h; cases h
          | true =>
            have := Nat.le_of_ble_eq_true e1
            have := Nat.le_of_ble_eq_true e2
            omega
theorem g_x0_byte {k n : Nat} {f : Nat → Int32} (h : g_x0 k = some (n, f)) (hk : ¬ k < 20) {ξ : Nat → Nat} {A : Nat → Prop} {U : State} {H : Heap} (hE : g_ext ξ A U H) : va_T .byte (ξ k) n (fun j => .int (f j)) A U H := by
  obtain ⟨-, -, -, -, -, -, -, -, h1, -⟩ := hE
  have hb : Nat.ble 20 k = true := Nat.ble_eq_true_of_le (by omega)
  unfold g_x0 at h
  rw [hb] at h
  cases e : Nat.ble 26 k with
  | true => rw [e] at h; cases h
  | false =>
    rw [e] at h
    cases h
    have hk2 : k - 20 < 6 := by
      rcases Nat.lt_or_ge k 26 with q | q
      · omega
      · rw [Nat.ble_eq_true_of_le q] at e; cases e
    have h2 := (h1.1 (k - 20) hk2).2.2.2
    dsimp only at h2
    rw [show 20 + (k - 20) = k by omega] at h2
    exact h2
theorem ok_iald (hd : decode cc pc = .ok (.iaload, 1)) : g_ok sh mi own cc nL rt pc (o_iald sh (fun k => cond (Nat.ble 20 k) none (g_x0 k)) (pc + 1)) := by
  refine ⟨?_, ?_⟩
  · intro cal P P' Q Q' L st M hc hP hQ h
    unfold o_iald at h ⊢
    split at h
    · exact g_ar_mono (fun n z => ⟨z.1, hP _ _ _ _ z.2⟩) h
    · exact g_xa_mono (fun n f z => ⟨z.1, hP _ _ _ _ z.2⟩) h
    · exact h.elim
  · intro p l e R s m args below meth c D cA μ ξ A d cal Q K C hK L st M H locs ls h hP hD hS hl
    obtain ⟨hx, hb, hml, hown, hts, hr, hlk, hKk, hA, hE, rfl, hSn⟩ := C
    unfold o_iald at h
    split at h
    · rename_i i a r
      obtain ⟨n, h1, h2, h3, h4⟩ := g_ar_spec h
      have he := g_wld_at (cA := cA) (μ := μ) (M := M) h1
      rw [h2] at he
      exact va_iald hx hb hKk hP a 0 he rfl h3 hd (hK _ _ _ _ _ _ _ h4 hP hD hS hl)
    · rename_i i k r
      obtain ⟨n, f, h2, h3, h4⟩ := g_xa_spec h
      cases e : Nat.ble 20 k with
      | true => simp only [e] at h2; cases h2
      | false =>
        simp only [e, cond] at h2
        have hk : k < 20 := by
          rcases Nat.lt_or_ge k 20 with q | q
          · exact q
          · rw [Nat.ble_eq_true_of_le q] at e; cases e
        exact va_ti hx hb (g_x0_int h2 hk hE) hS h3 rfl hd (hK _ _ _ _ _ _ _ h4 hP hD hS hl)
    · exact h.elim
theorem ok_bald (hd : decode cc pc = .ok (.baload, 1)) : g_ok sh mi own cc nL rt pc (o_bald (fun k => cond (Nat.ble 20 k) (g_x0 k) none) (pc + 1)) := by
  refine ⟨?_, ?_⟩
  · intro cal P P' Q Q' L st M hc hP hQ h
    unfold o_bald at h ⊢
    split at h
    · exact g_xa_mono (fun n f z => ⟨z.1, hP _ _ _ _ z.2⟩) h
    · exact h.elim
  · intro p l e R s m args below meth c D cA μ ξ A d cal Q K C hK L st M H locs ls h hP hD hS hl
    obtain ⟨hx, hb, hml, hown, hts, hr, hlk, hKk, hA, hE, rfl, hSn⟩ := C
    unfold o_bald at h
    split at h
    · rename_i i k r
      obtain ⟨n, f, h2, h3, h4⟩ := g_xa_spec h
      cases e : Nat.ble 20 k with
      | false => simp only [e] at h2; cases h2
      | true =>
        simp only [e, cond] at h2
        have hk : ¬ k < 20 := by have := Nat.le_of_ble_eq_true e; omega
        exact va_tb hx hb (g_x0_byte h2 hk hE) hS h3 rfl hd (hK _ _ _ _ _ _ _ h4 hP hD hS hl)
    · exact h.elim
theorem ok_alen (hd : decode cc pc = .ok (.arraylength, 1)) : g_ok sh mi own cc nL rt pc (o_alen sh g_x0 (pc + 1)) := by
  refine ⟨?_, ?_⟩
  · intro cal P P' Q Q' L st M hc hP hQ h
    unfold o_alen at h ⊢
    split at h
    · exact g_ar_mono (fun n z => hP _ _ _ _ z) h
    · exact g_xa_mono (fun n f z => hP _ _ _ _ z) h
    · exact h.elim
  · intro p l e R s m args below meth c D cA μ ξ A d cal Q K C hK L st M H locs ls h hP hD hS hl
    obtain ⟨hx, hb, hml, hown, hts, hr, hlk, hKk, hA, hE, rfl, hSn⟩ := C
    unfold o_alen at h
    split at h
    · rename_i a r
      obtain ⟨n, h1, h2, h4⟩ := g_ar_spec h
      have he := g_wld_at (cA := cA) (μ := μ) (M := M) h1
      rw [h2] at he
      exact va_alen (ty := .int) hx hb hKk hP a 0 he rfl rfl hd (hK _ _ _ _ _ _ _ h4 hP hD hS hl)
    · rename_i k r
      obtain ⟨n, f, h2, h4⟩ := g_xa_spec h
      by_cases hk : k < 20
      · exact va_tlen hx hb (g_x0_int h2 hk hE) hS rfl hd (hK _ _ _ _ _ _ _ h4 hP hD hS hl)
      · exact va_tlen hx hb (g_x0_byte h2 hk hE) hS rfl hd (hK _ _ _ _ _ _ _ h4 hP hD hS hl)
    · exact h.elim
theorem ok_iast (hd : decode cc pc = .ok (.iastore, 1)) : g_ok sh mi own cc nL rt pc (o_iast sh (pc + 1)) := by
  refine ⟨?_, ?_⟩
  · intro cal P P' Q Q' L st M hc hP hQ h
    unfold o_iast at h ⊢
    split at h
    · exact g_ar_mono (fun n z => ⟨z.1, hP _ _ _ _ z.2⟩) h
    · exact h.elim
  · intro p l e R s m args below meth c D cA μ ξ A d cal Q K C hK L st M H locs ls h hP hD hS hl
    obtain ⟨hx, hb, hml, hown, hts, hr, hlk, hKk, hA, hE, rfl, hSn⟩ := C
    unfold o_iast at h
    split at h
    · rename_i v i a r
      obtain ⟨n, h1, h2, h3, h4⟩ := g_ar_spec h
      have he := g_wld_at (cA := cA) (μ := μ) (M := M) h1
      rw [h2] at he
      have eq : (Sum.inl (cA 0, n, .inl (upd (M a) i.toNatClampNeg v)) : va_E) = g_cell cA μ (upd (M a) i.toNatClampNeg v) (sh.2 a) := by
        rw [h2]
        rfl
      exact va_iast hx hb hKk hP hD hS a 0 he rfl h3 hd (fun H1 locs1 hP1 hD1 hS1 => hK _ _ _ _ _ _ _ h4 (g_put_P h1 eq hP1) (g_put_D h1 eq hD1) hS1 hl)
    · exact h.elim
theorem ok_zald (hd : decode cc pc = .ok (.baload, 1)) : g_ok sh mi own cc nL rt pc (o_zald sh (pc + 1)) := by
  refine ⟨?_, ?_⟩
  · intro cal P P' Q Q' L st M hc hP hQ h
    unfold o_zald at h ⊢
    split at h
    · exact g_ar_mono (fun n z => ⟨z.1, hP _ _ _ _ z.2⟩) h
    · exact h.elim
  · intro p l e R s m args below meth c D cA μ ξ A d cal Q K C hK L st M H locs ls h hP hD hS hl
    obtain ⟨hx, hb, hml, hown, hts, hr, hlk, hKk, hA, hE, rfl, hSn⟩ := C
    unfold o_zald at h
    split at h
    · rename_i i a r
      obtain ⟨n, h1, h2, h3, h4⟩ := g_ar_spec h
      have he := g_wld_at (cA := cA) (μ := μ) (M := M) h1
      rw [h2] at he
      exact va_zald hx hb hKk hP a 1 he rfl h3 hd (hK _ _ _ _ _ _ _ h4 hP hD hS hl)
    · exact h.elim
theorem ok_zast (hd : decode cc pc = .ok (.bastore, 1)) : g_ok sh mi own cc nL rt pc (o_zast sh (pc + 1)) := by
  refine ⟨?_, ?_⟩
  · intro cal P P' Q Q' L st M hc hP hQ h
    unfold o_zast at h ⊢
    split at h
    · exact g_ar_mono (fun n z => ⟨z.1, z.2.1, hP _ _ _ _ z.2.2⟩) h
    · exact h.elim
  · intro p l e R s m args below meth c D cA μ ξ A d cal Q K C hK L st M H locs ls h hP hD hS hl
    obtain ⟨hx, hb, hml, hown, hts, hr, hlk, hKk, hA, hE, rfl, hSn⟩ := C
    unfold o_zast at h
    split at h
    · rename_i v i a r
      obtain ⟨n, h1, h2, h3, h5, h4⟩ := g_ar_spec h
      have he := g_wld_at (cA := cA) (μ := μ) (M := M) h1
      rw [h2] at he
      have hn : vp_nar .boolean v = v := by rcases h5 with rfl | rfl <;> decide
      have eq : (Sum.inl (cA 1, n, .inl (upd (M a) i.toNatClampNeg (vp_nar .boolean v))) : va_E) = g_cell cA μ (upd (M a) i.toNatClampNeg v) (sh.2 a) := by
        rw [h2, hn]
        rfl
      exact va_zast hx hb hKk hP hD hS a 1 he rfl h3 hd (fun H1 locs1 hP1 hD1 hS1 => hK _ _ _ _ _ _ _ h4 (g_put_P h1 eq hP1) (g_put_D h1 eq hD1) hS1 hl)
    · exact h.elim
theorem ok_iret (hd : decode cc pc = .ok (.ireturn, 1)) (hrt : rt = some .int) : g_ok sh mi own cc nL rt pc o_iret := by
  refine ⟨?_, ?_⟩
  · intro cal P P' Q Q' L st M hc hP hQ h
    unfold o_iret at h ⊢
    split at h
    · exact hQ _ _ h
    · exact h.elim
  · intro p l e R s m args below meth c D cA μ ξ A d cal Q K C hK L st M H locs ls h hP hD hS hl
    obtain ⟨hx, hb, hml, hown, hts, hr, hlk, hKk, hA, hE, rfl, hSn⟩ := C
    unfold o_iret at h
    split at h
    · rename_i v
      exact W.iret (v := v) hx hb (hr.trans hrt) (fun t ht hW => ⟨⟨some (.int v), M, rfl, h, by rw [ht]; exact hP, va_K.moved hW.alike hKk, hD⟩, hS.F ht⟩) hS.2.2 hd hlk
    · exact h.elim
theorem ok_nret {ty : FieldType} (hd : decode cc pc = .ok (.ireturn, 1)) (hrt : rt = some ty) : g_ok sh mi own cc nL rt pc (o_nret ty) := by
  refine ⟨?_, ?_⟩
  · intro cal P P' Q Q' L st M hc hP hQ h
    unfold o_nret at h ⊢
    split at h
    · exact ⟨h.1, hQ _ _ h.2⟩
    · exact h.elim
  · intro p l e R s m args below meth c D cA μ ξ A d cal Q K C hK L st M H locs ls h hP hD hS hl
    obtain ⟨hx, hb, hml, hown, hts, hr, hlk, hKk, hA, hE, rfl, hSn⟩ := C
    unfold o_nret at h
    split at h
    · rename_i v
      exact W.zret (v := v) hx hb (hr.trans hrt) h.1 (fun t ht hW => ⟨⟨some (.int v), M, rfl, h.2, by rw [ht]; exact hP, va_K.moved hW.alike hKk, hD⟩, hS.F ht⟩) hS.2.2 hd hlk
    · exact h.elim
theorem ok_aret {n : String} (hd : decode cc pc = .ok (.areturn, 1)) (hrt : rt = some (.object n)) : g_ok sh mi own cc nL rt pc o_aret := by
  refine ⟨?_, ?_⟩
  · intro cal P P' Q Q' L st M hc hP hQ h
    unfold o_aret at h ⊢
    split at h
    · exact hQ _ _ h
    · exact h.elim
  · intro p l e R s m args below meth c D cA μ ξ A d cal Q K C hK L st M H locs ls h hP hD hS hl
    obtain ⟨hx, hb, hml, hown, hts, hr, hlk, hKk, hA, hE, rfl, hSn⟩ := C
    unfold o_aret at h
    split at h
    · rename_i v
      exact W.aret (v := .ref (ξ v)) hx hb (hr.trans hrt) (Or.inl ⟨n, rfl⟩) (Or.inr ⟨_, rfl⟩) (fun t ht hW => ⟨⟨some (.retAddr v), M, rfl, h, by rw [ht]; exact hP, va_K.moved hW.alike hKk, hD⟩, hS.F ht⟩) hS.2.2 hd hlk
    · exact h.elim
theorem ok_vret (hd : decode cc pc = .ok (.return_, 1)) (hrt : rt = none) : g_ok sh mi own cc nL rt pc o_vret := by
  refine ⟨?_, ?_⟩
  · intro cal P P' Q Q' L st M hc hP hQ h
    unfold o_vret at h ⊢
    split at h
    · exact hQ _ _ h
    · exact h.elim
  · intro p l e R s m args below meth c D cA μ ξ A d cal Q K C hK L st M H locs ls h hP hD hS hl
    obtain ⟨hx, hb, hml, hown, hts, hr, hlk, hKk, hA, hE, rfl, hSn⟩ := C
    unfold o_vret at h
    split at h
    · exact W.vret hx hb (hr.trans hrt) (fun t ht hW => ⟨⟨none, M, rfl, h, by rw [ht]; exact hP, va_K.moved hW.alike hKk, hD⟩, hS.F ht⟩) hS.2.2 hd hlk
    · exact h.elim
end OKH
end
section
/-! ===== calls, statics, what the JDK does by itself ===== -/
section GCALL
variable {p : Program} {l : Launch} {e : Env} {R : Room} {s : State} {m : MethodId} {args : Array Value} {below : List Frame} {meth : Method} {c : Code} {H : Heap} {locs : List Loc} {Q : State → Prop}
variable {sh : g_Sh} {D : va_G} {cA : Nat → ClassId} {μ ξ : Nat → Nat} {A : Nat → Prop}
/-- behind a call: what came back holds, the rest is as it was -/
theorem g_call {M : g_M} {Q1 : g_R} {pc : Nat} {ls : Array Slot} {st0 rest : List Value} {a : Array Value} (hr : va_Run p l e R s m args below meth c H locs 0 0 0 0 (F0 m pc ls st0) rest (g_post sh D cA μ ξ Q1 (va_A (g_wld cA μ M sh) H.size) a) (va_A (g_wld cA μ M sh) H.size))
    (hS : va_S A s.heap H locs) (hf : ∀ q, va_A (g_wld cA μ M sh) H.size q → A q)
    (kk : ∀ (v : Option Value) (M' : g_M) (H1 : Heap) (locs1 : List Loc), Q1 v M' → va_P D g_cls (g_wld cA μ M' sh) H1 → va_D A (g_wld cA μ M' sh) → va_S A s.heap H1 locs1 → W p l e R s m args below meth c H1 locs1 0 0 Q (F0 m (pc + 3) ls ((v.map (g_cv μ ξ)).toList ++ rest))) :
    W p l e R s m args below meth c H locs 0 0 Q (F0 m pc ls st0) := by
  intro T hT X
  obtain ⟨v, st₀, t, T', L, h0, X', hL, e1, e2, ⟨⟨v', M', hv, hp, hPt, hKt, hDt⟩, hz, hk⟩, st⟩ := hr T hT X
  cases hv
  rw [h0] at hz hk
  obtain ⟨t2, a1, b1⟩ := kk v' M' T'.heap (locs ++ L) hp (by rw [e1]; exact hPt) (hDt.weaken (fun _ q _ h => hf q.1 h))
    ⟨Nat.le_trans hS.1 (by rw [e1]; exact hz), fun q h1 h2 => by rw [e1, hk q (Nat.lt_of_lt_of_le h1 hS.1) (fun z => h2 (hf q z))]; exact hS.2.1 q h1 h2, fun q hq => by
      rcases List.mem_append.mp hq with h | h
      · exact hS.2.2 q h
      · exact hf _ (hL q h)⟩ T' rfl X'
  exact ⟨t2, st t2 a1, b1⟩
theorem g_free {M : g_M} {A0 : Nat → Prop} (hD : va_D A0 (g_wld cA μ M sh)) (hS : va_S A0 s.heap H locs) (hA : ∀ q, s.heap.size ≤ q → A0 q) : ∀ q, va_A (g_wld cA μ M sh) H.size q → A0 q := by
  intro q h
  rcases h with ⟨k, e, h⟩ | h
  · exact hD.2 k (q, e) h
  · exact hA q (Nat.le_trans hS.1 h)
theorem g_blind {as : List Value} {M : g_M} {sz : Nat} : FrameBlind (g_pre sh D cA μ ξ as M sz) := by
  intro a U g mk q
  obtain ⟨q0, q1, qP, qK, qD, qE⟩ := q
  exact ⟨q0, q1, qP, va_K.moved (u := U) (U := U.calling g mk a) (Vm.Alike.refl U.vm) qK, qD, g_ext.same (u := U) (U := U.calling g mk a) rfl qE⟩
theorem g_preAt {as : List Value} {M : g_M} (hKk : va_K D g_cls (g_tys cA) s) (hP : va_P D g_cls (g_wld cA μ M sh) H) (hD : va_D A (g_wld cA μ M sh)) (hS : va_S A s.heap H locs) (hA : ∀ q, s.heap.size ≤ q → A q) (hE : g_ext ξ A s s.heap) (U : State) (hU : U.heap = H) (hW : s.WarmedH U.vm) : g_pre sh D cA μ ξ as M H.size (as.map (g_cv μ ξ)).toArray U :=
  ⟨rfl, by rw [hU], by rw [hU]; exact hP, va_K.moved hW.alike hKk, hD.weaken (fun _ _ _ _ => trivial), by rw [hU]; exact ((hE.kept hS.2.1).warm hW).narrow (g_free hD hS hA)⟩
end GCALL
section OKC
variable {sh : g_Sh} {mi : g_MI} {own : String} {cc : ByteArray} {nL : Nat} {rt : Option FieldType} {pc : Nat}
/-- what is known of a callee's words -/
def g_cw (mi : g_MI) (k n : Nat) : Prop := Cond.code (mi k).1 (mi k).2.1 (mi k).2.2.1 (mi k).2.2.2 ∈ g_tbl ∧ Cond.initialized (mi k).1.cls ∈ g_tbl ∧ ((mi k).1.cls ≠ "java/lang/invoke/MethodHandle" ∧ (mi k).1.cls ≠ "java/lang/invoke/VarHandle" ∧ (parseMethodDescriptor (mi k).1.desc).map (fun d => d.parameters.length) = some n) ∧ (mi k).2.2.1 ≤ 31
theorem g_good {k n : Nat} (h : g_cw mi k n) : GoodIn g_tbl (g_ws mi k) := by
  intro w hw
  rcases List.mem_cons.mp hw with rfl | hw
  · exact g_tbl_good _ h.1
  · exact g_tbl_good _ hw
theorem g_callB {k n idx d' : Nat} {s : State} {args : Array Value} (h : g_cw mi k n) (hts : ∀ w ∈ g_tbl, w.before args s = true) (hw : Cond.methodLink own idx (mi k).1 ∈ g_tbl) : CallB (g_rm (d' + 1)) s args own idx (mi k).1 (mi k).2.1 (mi k).2.2.1 (mi k).2.2.2 (g_ws mi k) (g_rm d') 0 0 n :=
  callB_of n hts (g_good h) rfl rfl rfl (hts _ h.2.1) (hts _ hw) h.2.2.1 ⟨by show d' + 1 + 1 ≤ d' + 1 + 1; omega, by show 8 + ((mi k).2.2.1 + 11) + (50 * d' + 50) ≤ 50 * (d' + 1) + 50; have := h.2.2.2; omega⟩
theorem ok_callV_core {ci k n idx N : Nat} {C : String} {T : u_T} (hd : decode cc pc = .ok (.invokevirtual idx, 3)) (hc : g_cls[ci]? = some (C, T, N)) (hcw : g_cw mi k n) (hw : Cond.methodLink own idx (mi k).1 ∈ g_tbl) (hi : Cond.instanceMethod (mi k).1 ∈ g_tbl) (hs : Cond.selects C (mi k).1 (mi k).1 ∈ g_tbl)
    {p : Program} {l : Launch} {e : Env} {R : Room} {s : State} {m : MethodId} {args : Array Value} {below : List Frame} {meth : Method} {c : Code} {D : va_G} {cA : Nat → ClassId} {μ ξ : Nat → Nat} {A : Nat → Prop} {d : Nat} {cal : g_C} {Q : g_R} {F : Option Value → g_M → Prop} (hC : g_Cx sh mi own cc nL rt p l R s m args meth c D cA μ ξ A d cal)
    {L st : List Value} {M : g_M} {H : Heap} {locs : List Loc} {ls : Array Slot} {vs r : List Value} {a : Nat} {bs : List Value} (e1 : st = vs ++ r) (e2 : vs.length = n + 1) (e3 : vs.reverse ++ [] = .ref a :: bs) (ho : ∃ ps, a < sh.1 ∧ sh.2 a = .inr (ci, ps)) (hwd : Nat.ble (g_wd r) 8 = true) (h : cal k (vs.reverse ++ []) M F)
    (hP : va_P D g_cls (g_wld cA μ M sh) H) (hD : va_D A (g_wld cA μ M sh)) (hS : va_S A s.heap H locs) (hl : g_lr μ ξ ls nL L)
    (kk : ∀ (v : Option Value) (M' : g_M) (H1 : Heap) (locs1 : List Loc), F v M' → va_P D g_cls (g_wld cA μ M' sh) H1 → va_D A (g_wld cA μ M' sh) → va_S A s.heap H1 locs1 → W p l e R s m args below meth c H1 locs1 0 0 (MQ below (g_post sh D cA μ ξ Q A) args s 0 0 A) (F0 m (pc + 3) ls ((v.map (g_cv μ ξ)).toList ++ r.map (g_cv μ ξ)))) :
    W p l e R s m args below meth c H locs 0 0 (MQ below (g_post sh D cA μ ξ Q A) args s 0 0 A) (F0 m pc ls (st.map (g_cv μ ξ))) := by
  obtain ⟨hx, hb, hml, hown, hts, hr, hlk, hKk, hA, hE, rfl, hSn⟩ := hC
  obtain ⟨d', rfl, hM⟩ := hSn k _ M _ h
  obtain ⟨ps, ho1, ho2⟩ := ho
  have he := g_wld_at (cA := cA) (μ := μ) (M := M) ho1
  rw [ho2] at he
  rw [List.append_nil] at e3 h hM
  have e4 : (vs.map (g_cv μ ξ)) = (bs.map (g_cv μ ξ)).reverse ++ [.ref (μ a)] := by
    have : vs = bs.reverse ++ [.ref a] := by
      have := congrArg List.reverse e3
      simpa using this
    rw [this]
    simp [g_cv]
  have hM := hM H.size
  rw [e3] at hM
  refine g_call (va_runV (As := bs.map (g_cv μ ξ)) (b := μ a) (rest := r.map (g_cv μ ξ)) ⟨hx, hb, hml, hown, hts⟩ hM ⟨g_callB hcw hts hw, hts _ hi, hts _ hs⟩ ⟨g_blind, va_recv hKk hP hc he, fun U hU hW => g_preAt hKk hP hD hS hA hE U hU hW⟩ rfl ?_ hl.1 ?_ (lv_room ?_) hd ⟨Nat.zero_le _, Nat.zero_le _⟩) hS (g_free hD hS hA) kk
  · have := congrArg List.length e3
    simp at this
    simp; omega
  · show st.map (g_cv μ ξ) = _
    rw [e1, List.map_append, e4]
    simp
  · rw [g_wd_eq]
    exact Nat.le_of_ble_eq_true hwd
theorem ok_callS_core {k n idx : Nat} (hd : decode cc pc = .ok (.invokestatic idx, 3)) (hcw : g_cw mi k n)
    (hw : Cond.methodLink own idx (mi k).1 ∈ g_tbl ∨ ∃ host, Cond.methodLinkNest own idx (mi k).1 host ∈ g_tbl) (hi : Cond.static (mi k).1 ∈ g_tbl)
    {p : Program} {l : Launch} {e : Env} {R : Room} {s : State} {m : MethodId} {args : Array Value} {below : List Frame} {meth : Method} {c : Code} {D : va_G} {cA : Nat → ClassId} {μ ξ : Nat → Nat} {A : Nat → Prop} {d : Nat} {cal : g_C} {Q : g_R} {F : Option Value → g_M → Prop} (hC : g_Cx sh mi own cc nL rt p l R s m args meth c D cA μ ξ A d cal)
    {L st : List Value} {M : g_M} {H : Heap} {locs : List Loc} {ls : Array Slot} {vs r : List Value} (e1 : st = vs ++ r) (e2 : vs.length = n) (hwd : Nat.ble (g_wd r) 8 = true) (h : cal k (vs.reverse ++ []) M F)
    (hP : va_P D g_cls (g_wld cA μ M sh) H) (hD : va_D A (g_wld cA μ M sh)) (hS : va_S A s.heap H locs) (hl : g_lr μ ξ ls nL L)
    (kk : ∀ (v : Option Value) (M' : g_M) (H1 : Heap) (locs1 : List Loc), F v M' → va_P D g_cls (g_wld cA μ M' sh) H1 → va_D A (g_wld cA μ M' sh) → va_S A s.heap H1 locs1 → W p l e R s m args below meth c H1 locs1 0 0 (MQ below (g_post sh D cA μ ξ Q A) args s 0 0 A) (F0 m (pc + 3) ls ((v.map (g_cv μ ξ)).toList ++ r.map (g_cv μ ξ)))) :
    W p l e R s m args below meth c H locs 0 0 (MQ below (g_post sh D cA μ ξ Q A) args s 0 0 A) (F0 m pc ls (st.map (g_cv μ ξ))) := by
  obtain ⟨hx, hb, hml, hown, hts, hr, hlk, hKk, hA, hE, rfl, hSn⟩ := hC
  obtain ⟨d', rfl, hM⟩ := hSn k _ M _ h
  rw [List.append_nil] at h hM
  have hM := hM H.size
  have q1 : ((vs.reverse).map (g_cv μ ξ)).length = n := by simp [e2]
  have q2 : (F0 m pc ls (st.map (g_cv μ ξ))).stack = ((vs.reverse).map (g_cv μ ξ)).reverse ++ r.map (g_cv μ ξ) := by
    show st.map (g_cv μ ξ) = _
    rw [e1, List.map_append]
    simp
  have q3 : 2 * (F0 m pc ls (st.map (g_cv μ ξ))).monitorRoom + ((r.map (g_cv μ ξ)).map fun v => v.category).sum ≤ 8 := lv_room (by rw [g_wd_eq]; exact Nat.le_of_ble_eq_true hwd)
  rcases hw with hw | ⟨host, hw⟩
  · exact g_call (va_runS (As := (vs.reverse).map (g_cv μ ξ)) (rest := r.map (g_cv μ ξ)) ⟨hx, hb, hml, hown, hts⟩ hM ⟨g_callB hcw hts hw, hts _ hi⟩ ⟨g_blind, fun U hU hW => g_preAt hKk hP hD hS hA hE U hU hW⟩ rfl q1 hl.1 q2 q3 hd ⟨Nat.zero_le _, Nat.zero_le _⟩) hS (g_free hD hS hA) kk
  · have hcn : va_CN (g_rm (d' + 1)) s args own idx (mi k).1 host (mi k).2.1 (mi k).2.2.1 (mi k).2.2.2 (g_ws mi k) (g_rm d') 0 0 n :=
      va_cnB n hts (g_good hcw) rfl rfl rfl (va_tabs rfl rfl (hts _ hw)) (hts _ hcw.2.1) hcw.2.2.1 ⟨by show d' + 1 + 1 ≤ d' + 1 + 1; omega, by show 8 + ((mi k).2.2.1 + 11) + (50 * d' + 50) ≤ 50 * (d' + 1) + 50; have := hcw.2.2.2; omega⟩
    exact g_call (va_runSN (As := (vs.reverse).map (g_cv μ ξ)) (rest := r.map (g_cv μ ξ)) ⟨hx, hb, hml, hown, hts⟩ hM ⟨hcn, hts _ hi, trivial⟩ ⟨g_blind, fun U hU hW => g_preAt hKk hP hD hS hA hE U hU hW⟩ rfl q1 hl.1 q2 q3 hd ⟨Nat.zero_le _, Nat.zero_le _⟩) hS (g_free hD hS hA) kk
theorem ok_callV {ci k n idx N : Nat} {C : String} {T : u_T} (hd : decode cc pc = .ok (.invokevirtual idx, 3)) (hc : g_cls[ci]? = some (C, T, N)) (hcw : g_cw mi k n) (hw : Cond.methodLink own idx (mi k).1 ∈ g_tbl) (hi : Cond.instanceMethod (mi k).1 ∈ g_tbl) (hs : Cond.selects C (mi k).1 (mi k).1 ∈ g_tbl) : g_ok sh mi own cc nL rt pc (o_callV sh ci k (n + 1) (pc + 3)) := by
  refine ⟨?_, ?_⟩
  · intro cal P P' Q Q' L st M hcm hP hQ h
    refine g_pop_mono _ _ _ _ _ (fun as r z => ?_) h
    split at z
    · exact g_ob_mono (g_cond_mono (fun z => hcm _ _ _ _ _ (fun v N z => by cases v with
        | none => exact z
        | some x => exact hP _ _ _ _ z) z)) z
    · exact z.elim
  · intro p l e R s m args below meth c D cA μ ξ A d cal Q K C hK L st M H locs ls h hP hD hS hl
    obtain ⟨vs, r, e1, e2, h⟩ := g_pop_spec _ _ _ _ h
    split at h
    · rename_i a bs e3
      obtain ⟨ps, o1, o2, h⟩ := g_ob_spec h
      obtain ⟨h1, h⟩ := g_cond_spec h
      refine ok_callV_core hd hc hcw hw hi hs C e1 e2 e3 ⟨ps, o1, o2⟩ h1 h hP hD hS hl (fun v M' H1 locs1 hF hP1 hD1 hS1 => ?_)
      cases v with
      | none => exact False.elim hF
      | some x => exact hK _ _ _ _ _ _ _ hF hP1 hD1 hS1 hl
    · exact h.elim
theorem ok_callVv {ci k n idx N : Nat} {C : String} {T : u_T} (hd : decode cc pc = .ok (.invokevirtual idx, 3)) (hc : g_cls[ci]? = some (C, T, N)) (hcw : g_cw mi k n) (hw : Cond.methodLink own idx (mi k).1 ∈ g_tbl) (hi : Cond.instanceMethod (mi k).1 ∈ g_tbl) (hs : Cond.selects C (mi k).1 (mi k).1 ∈ g_tbl) : g_ok sh mi own cc nL rt pc (o_callVv sh ci k (n + 1) (pc + 3)) := by
  refine ⟨?_, ?_⟩
  · intro cal P P' Q Q' L st M hcm hP hQ h
    refine g_pop_mono _ _ _ _ _ (fun as r z => ?_) h
    split at z
    · exact g_ob_mono (g_cond_mono (fun z => hcm _ _ _ _ _ (fun v N z => by cases v with
        | none => exact hP _ _ _ _ z
        | some x => exact z) z)) z
    · exact z.elim
  · intro p l e R s m args below meth c D cA μ ξ A d cal Q K C hK L st M H locs ls h hP hD hS hl
    obtain ⟨vs, r, e1, e2, h⟩ := g_pop_spec _ _ _ _ h
    split at h
    · rename_i a bs e3
      obtain ⟨ps, o1, o2, h⟩ := g_ob_spec h
      obtain ⟨h1, h⟩ := g_cond_spec h
      refine ok_callV_core hd hc hcw hw hi hs C e1 e2 e3 ⟨ps, o1, o2⟩ h1 h hP hD hS hl (fun v M' H1 locs1 hF hP1 hD1 hS1 => ?_)
      cases v with
      | none => exact hK _ _ _ _ _ _ _ hF hP1 hD1 hS1 hl
      | some x => exact False.elim hF
    · exact h.elim
theorem ok_callS {k n idx : Nat} (hd : decode cc pc = .ok (.invokestatic idx, 3)) (hcw : g_cw mi k n) (hw : Cond.methodLink own idx (mi k).1 ∈ g_tbl ∨ ∃ host, Cond.methodLinkNest own idx (mi k).1 host ∈ g_tbl) (hi : Cond.static (mi k).1 ∈ g_tbl) : g_ok sh mi own cc nL rt pc (o_callS k n (pc + 3)) := by
  refine ⟨?_, ?_⟩
  · intro cal P P' Q Q' L st M hcm hP hQ h
    refine g_pop_mono _ _ _ _ _ (fun as r z => ?_) h
    exact g_cond_mono (fun z => hcm _ _ _ _ _ (fun v N z => by cases v with
        | none => exact z
        | some x => exact hP _ _ _ _ z) z) z
  · intro p l e R s m args below meth c D cA μ ξ A d cal Q K C hK L st M H locs ls h hP hD hS hl
    obtain ⟨vs, r, e1, e2, h⟩ := g_pop_spec _ _ _ _ h
    obtain ⟨h1, h⟩ := g_cond_spec h
    refine ok_callS_core hd hcw hw hi C e1 e2 h1 h hP hD hS hl (fun v M' H1 locs1 hF hP1 hD1 hS1 => ?_)
    cases v with
    | none => exact False.elim hF
    | some x => exact hK _ _ _ _ _ _ _ hF hP1 hD1 hS1 hl
theorem ok_callSv {k n idx : Nat} (hd : decode cc pc = .ok (.invokestatic idx, 3)) (hcw : g_cw mi k n) (hw : Cond.methodLink own idx (mi k).1 ∈ g_tbl ∨ ∃ host, Cond.methodLinkNest own idx (mi k).1 host ∈ g_tbl) (hi : Cond.static (mi k).1 ∈ g_tbl) : g_ok sh mi own cc nL rt pc (o_callSv k n (pc + 3)) := by
  refine ⟨?_, ?_⟩
  · intro cal P P' Q Q' L st M hcm hP hQ h
    refine g_pop_mono _ _ _ _ _ (fun as r z => ?_) h
    exact g_cond_mono (fun z => hcm _ _ _ _ _ (fun v N z => by cases v with
        | none => exact hP _ _ _ _ z
        | some x => exact z) z) z
  · intro p l e R s m args below meth c D cA μ ξ A d cal Q K C hK L st M H locs ls h hP hD hS hl
    obtain ⟨vs, r, e1, e2, h⟩ := g_pop_spec _ _ _ _ h
    obtain ⟨h1, h⟩ := g_cond_spec h
    refine ok_callS_core hd hcw hw hi C e1 e2 h1 h hP hD hS hl (fun v M' H1 locs1 hF hP1 hD1 hS1 => ?_)
    cases v with
    | none => exact hK _ _ _ _ _ _ _ hF hP1 hD1 hS1 hl
    | some x => exact False.elim hF
theorem ok_callX {k n idx : Nat} (hd : decode cc pc = .ok (.invokevirtual idx, 3)) (hcw : g_cw mi k n) (hw : Cond.methodLink own idx (mi k).1 ∈ g_tbl) (hi : Cond.instanceMethod (mi k).1 ∈ g_tbl) (hs : Cond.selects "java/lang/String" (mi k).1 (mi k).1 ∈ g_tbl) : g_ok sh mi own cc nL rt pc (o_callX 10 16 k (n + 1) (pc + 3)) := by
  refine ⟨?_, ?_⟩
  · intro cal P P' Q Q' L st M hcm hP hQ h
    refine g_pop_mono _ _ _ _ _ (fun as r z => ?_) h
    split at z
    · exact g_cond_mono (g_cond_mono (g_cond_mono (fun z => hcm _ _ _ _ _ (fun v N z => by cases v with
        | none => exact z
        | some x => exact hP _ _ _ _ z) z))) z
    · exact z.elim
  · intro p l e R s m args below meth c D cA μ ξ A d cal Q K C hK L st M H locs ls h hP hD hS hl
    obtain ⟨vs, r, e1, e2, h⟩ := g_pop_spec _ _ _ _ h
    split at h
    · rename_i a bs e3
      obtain ⟨o1, h⟩ := g_cond_spec h
      obtain ⟨o2, h⟩ := g_cond_spec h
      obtain ⟨hwd, h⟩ := g_cond_spec h
      obtain ⟨hx, hb, hml, hown, hts, hr, hlk, hKk, hA, hE, rfl, hSn⟩ := C
      obtain ⟨d', rfl, hM⟩ := hSn k _ M _ h
      have o1 := Nat.le_of_ble_eq_true o1
      have o2 := Nat.le_of_ble_eq_true o2
      rw [List.append_nil] at e3 h hM
      have e4 : (vs.map (g_cv μ ξ)) = (bs.map (g_cv μ ξ)).reverse ++ [.ref (ξ a)] := by
        have : vs = bs.reverse ++ [.retAddr a] := by
          have := congrArg List.reverse e3
          simpa using this
        rw [this]
        simp [g_cv]
      have hM := hM H.size
      rw [e3] at hM
      have hrecv : ∃ cell : Cell, H[ξ a]? = some cell ∧ cell.vm.isStatics = false ∧ s.vm.findClass "java/lang/String" = some cell.cls := by
        have := vk_recv (i := a - 10) hE.2.2.2.2.2.2.2.2.1 (by omega) hS
        rw [show 10 + (a - 10) = a by omega] at this
        exact this
      refine g_call (va_runV (C := "java/lang/String") (As := bs.map (g_cv μ ξ)) (b := ξ a) (rest := r.map (g_cv μ ξ)) ⟨hx, hb, hml, hown, hts⟩ hM ⟨g_callB hcw hts hw, hts _ hi, hts _ hs⟩ ⟨g_blind, hrecv, fun U hU hW => g_preAt hKk hP hD hS hA hE U hU hW⟩ rfl ?_ hl.1 ?_ (lv_room ?_) hd ⟨Nat.zero_le _, Nat.zero_le _⟩) hS (g_free hD hS hA) (fun v M' H1 locs1 hF hP1 hD1 hS1 => ?_)
      · have := congrArg List.length e3
        simp at this
        simp; omega
      · show st.map (g_cv μ ξ) = _
        rw [e1, List.map_append, e4]
        simp
      · rw [g_wd_eq]
        exact Nat.le_of_ble_eq_true hwd
      · cases v with
        | none => exact False.elim hF
        | some x => exact hK _ _ _ _ _ _ _ hF hP1 hD1 hS1 hl
    · exact h.elim
/-! what the JDK does by itself: copies, the greater, the less; statics -/
theorem ok_copy {idx : Nat} (hd : decode cc pc = .ok (.invokestatic idx, 3)) (h1 : Cond.methodLink own idx arraycopyName ∈ g_tbl) (h2 : Cond.native arraycopyName ∈ g_tbl) (h3 : Cond.static arraycopyName ∈ g_tbl) (h4 : Cond.initialized "java/lang/System" ∈ g_tbl) : g_ok sh mi own cc nL rt pc (o_copy sh (pc + 3)) := by
  refine ⟨?_, ?_⟩
  · intro cal P P' Q Q' L st M hc hP hQ h
    unfold o_copy at h ⊢
    split at h
    · exact g_ar_mono (fun n z => g_ar_mono (fun n z => ⟨z.1, g_cond_mono (hP _ _ _ _) z.2⟩) z) h
    · exact h.elim
  · intro p l e R s m args below meth c D cA μ ξ A d cal Q K C hK L st M H locs ls h hP hD hS hl
    obtain ⟨hx, hb, hml, hown, hts, hr, hlk, hKk, hA, hE, rfl, hSn⟩ := C
    unfold o_copy at h
    split at h
    · rename_i n dp a sp b r
      obtain ⟨n0, b1, b2, h⟩ := g_ar_spec h
      obtain ⟨n1, a1, a2, ⟨c1, c2, c3, c4, c5⟩, h⟩ := g_ar_spec h
      obtain ⟨hwd, h⟩ := g_cond_spec h
      have hb1 := g_wld_at (cA := cA) (μ := μ) (M := M) b1
      rw [b2] at hb1
      have ha1 := g_wld_at (cA := cA) (μ := μ) (M := M) a1
      rw [a2] at ha1
      have eq : (Sum.inl (cA 0, n1, .inl (va_cpy (M b) (M a) sp.toNatClampNeg dp.toNatClampNeg n.toNatClampNeg)) : va_E) = g_cell cA μ (va_cpy (M b) (M a) sp.toNatClampNeg dp.toNatClampNeg n.toNatClampNeg) (sh.2 a) := by
        rw [a2]
        rfl
      refine va_copyi hx hb (hml.trans hl.1.symm) hown (hts _ h1) (hts _ h2) (hts _ h3) (hts _ h4) hKk hP hD hS b a 0 0 hb1 ha1 rfl rfl rfl c1 c2 c3 c4 c5 (fun i _ => rfl) (by show 1 ≤ d + 1; omega) ?_ hd (fun H1 locs1 hP1 hD1 hS1 => hK _ _ _ _ _ _ _ h (g_put_P a1 eq hP1) (g_put_D a1 eq hD1) hS1 hl)
      have hn : nativeFrameWords "java/lang/System" "arraycopy" 5 + 11 ≤ 40 := by decide +kernel
      show _ ≤ 50 * d + 50
      have hw := Nat.le_of_ble_eq_true hwd
      rw [← g_wd_eq μ ξ] at hw
      omega
    · exact h.elim
theorem ok_max {idx : Nat} (hd : decode cc pc = .ok (.invokestatic idx, 3)) (h1 : Cond.methodLink own idx Lib.Math.max.name ∈ g_tbl) (h2 : Cond.static Lib.Math.max.name ∈ g_tbl) (h3 : Cond.initialized "java/lang/Math" ∈ g_tbl) (h4 : Cond.code Lib.Math.max.name Lib.Math.max.code 2 (some .int) ∈ g_tbl) : g_ok sh mi own cc nL rt pc (o_max (pc + 3)) := by
  refine ⟨?_, ?_⟩
  · intro cal P P' Q Q' L st M hc hP hQ h
    unfold o_max at h ⊢
    split at h
    · exact g_cond_mono (hP _ _ _ _) h
    · exact h.elim
  · intro p l e R s m args below meth c D cA μ ξ A d cal Q K C hK L st M H locs ls h hP hD hS hl
    obtain ⟨hx, hb, hml, hown, hts, hr, hlk, hKk, hA, hE, rfl, hSn⟩ := C
    unfold o_max at h
    split at h
    · obtain ⟨hwd, h⟩ := g_cond_spec h
      refine va_mmax hx hb (hml.trans hl.1.symm) hown (hts _ h1) (hts _ h2) (hts _ h3) (hts _ h4) (by show 1 ≤ d + 1; omega) ?_ (Nat.zero_le _) (Nat.zero_le _) hd (hK _ _ _ _ _ _ _ h hP hD hS hl)
      show _ ≤ 50 * d + 50
      have hw := Nat.le_of_ble_eq_true hwd
      rw [← g_wd_eq μ ξ] at hw
      omega
    · exact h.elim
theorem ok_min {idx : Nat} (hd : decode cc pc = .ok (.invokestatic idx, 3)) (h1 : Cond.methodLink own idx Lib.Math.min.name ∈ g_tbl) (h2 : Cond.static Lib.Math.min.name ∈ g_tbl) (h3 : Cond.initialized "java/lang/Math" ∈ g_tbl) (h4 : Cond.code Lib.Math.min.name Lib.Math.min.code 2 (some .int) ∈ g_tbl) : g_ok sh mi own cc nL rt pc (o_min (pc + 3)) := by
  refine ⟨?_, ?_⟩
  · intro cal P P' Q Q' L st M hc hP hQ h
    unfold o_min at h ⊢
    split at h
    · exact g_cond_mono (hP _ _ _ _) h
    · exact h.elim
  · intro p l e R s m args below meth c D cA μ ξ A d cal Q K C hK L st M H locs ls h hP hD hS hl
    obtain ⟨hx, hb, hml, hown, hts, hr, hlk, hKk, hA, hE, rfl, hSn⟩ := C
    unfold o_min at h
    split at h
    · obtain ⟨hwd, h⟩ := g_cond_spec h
      refine va_mmin hx hb (hml.trans hl.1.symm) hown (hts _ h1) (hts _ h2) (hts _ h3) (hts _ h4) (by show 1 ≤ d + 1; omega) ?_ (Nat.zero_le _) (Nat.zero_le _) hd (hK _ _ _ _ _ _ _ h hP hD hS hl)
      show _ ≤ 50 * d + 50
      have hw := Nat.le_of_ble_eq_true hwd
      rw [← g_wd_eq μ ξ] at hw
      omega
    · exact h.elim
/-- a static whose value the start gives -/
theorem ok_gets {idx : Nat} {C n dd : String} {v : Value} (hd : decode cc pc = .ok (.getstatic idx, 3)) (hw : Cond.fieldLink own idx C n dd ∈ g_tbl) (hv : ∀ (ξ : Nat → Nat) (A : Nat → Prop) (U : State) (H : Heap), g_ext ξ A U H → ∀ μ, va_Z C n dd (g_cv μ ξ v) A U H) : g_ok sh mi own cc nL rt pc (o_push v (pc + 3)) := by
  refine ⟨?_, ?_⟩
  · intro cal P P' Q Q' L st M hc hP hQ h
    exact hP _ _ _ _ h
  · intro p l e R s m args below meth c D cA μ ξ A d cal Q K C hK L st M H locs ls h hP hD hS hl
    obtain ⟨hx, hb, hml, hown, hts, hr, hlk, hKk, hA, hE, rfl, hSn⟩ := C
    exact va_gets hx hb (hv ξ A s s.heap hE μ) hS hown (hts _ hw) (fun _ h => h) hd (hK _ _ _ _ _ _ _ h hP hD hS hl)
theorem ok_getsQ {idx : Nat} (hd : decode cc pc = .ok (.getstatic idx, 3)) (hw : Cond.fieldLink own idx "jdk/internal/util/Preconditions" "SIOOBE_FORMATTER" "Ljava/util/function/BiFunction;" ∈ g_tbl) : g_ok sh mi own cc nL rt pc (o_pushQ 40 (pc + 3)) := by
  refine ⟨?_, ?_⟩
  · intro cal P P' Q Q' L st M hc hP hQ h
    exact ⟨hP _ _ _ _ h.1, hP _ _ _ _ h.2⟩
  · intro p l e R s m args below meth c D cA μ ξ A d cal Q K C hK L st M H locs ls h hP hD hS hl
    obtain ⟨hx, hb, hml, hown, hts, hr, hlk, hKk, hA, hE, rfl, hSn⟩ := C
    rcases hE.2.2.2.2.2.2.2.1 with z | z
    · exact va_gets hx hb z hS hown (hts _ hw) (fun _ h => h) hd (hK _ _ _ _ _ _ _ h.1 hP hD hS hl)
    · exact va_gets hx hb z hS hown (hts _ hw) (fun _ h => h) hd (hK _ _ _ _ _ _ _ h.2 hP hD hS hl)
theorem ok_ldcS {idx k : Nat} {tx : String} (hd : decode cc pc = .ok (.ldc idx, 2)) (hv : ∀ (ξ : Nat → Nat) (A : Nat → Prop) (U : State) (H : Heap), g_ext ξ A U H → vk_R own idx tx (ξ k) U) : g_ok sh mi own cc nL rt pc (o_push (.retAddr k) (pc + 2)) := by
  refine ⟨?_, ?_⟩
  · intro cal P P' Q Q' L st M hc hP hQ h
    exact hP _ _ _ _ h
  · intro p l e R s m args below meth c D cA μ ξ A d cal Q K C hK L st M H locs ls h hP hD hS hl
    obtain ⟨hx, hb, hml, hown, hts, hr, hlk, hKk, hA, hE, rfl, hSn⟩ := C
    exact va_ldcS hx hb hown (hv ξ A s s.heap hE) hd (hK _ _ _ _ _ _ _ h hP hD hS hl)
def g_fval : Nat → Option Value := fun k => cond (Nat.ble 10 k) (cond (Nat.ble 16 k) none (some (.retAddr (k + 10)))) none
def g_fcod : Nat → Option Value := fun k => cond (Nat.ble 10 k) (cond (Nat.ble 16 k) none (some (.int 0))) none
theorem g_xfld_spec {f : Nat → Option Value} {nx : Nat} {cal : g_C} {K : g_K} {Q : g_R} {L st : List Value} {M : g_M} (h : o_xfld f nx cal K Q L st M) : ∃ k r v, st = .retAddr k :: r ∧ f k = some v ∧ K nx L (v :: r) M := by
  unfold o_xfld at h
  cases st with
  | nil => exact False.elim h
  | cons x r =>
    cases x with
    | retAddr k =>
      cases e : f k with
      | none => simp only [e] at h
      | some v => simp only [e] at h; exact ⟨k, r, v, rfl, e, h⟩
    | _ => exact False.elim h
theorem g_xfld_mono {f : Nat → Option Value} {nx : Nat} : g_mono (o_xfld f nx) := by
  intro cal P P' Q Q' L st M hc hP hQ h
  obtain ⟨k, r, v, rfl, e, h⟩ := g_xfld_spec h
  show (match f k with | some v => P' nx L (v :: r) M | none => False)
  rw [e]
  exact hP _ _ _ _ h
theorem ok_fval {idx : Nat} (hd : decode cc pc = .ok (.getfield idx, 3)) (hw : Cond.fieldLink own idx "java/lang/String" "value" "[B" ∈ g_tbl) : g_ok sh mi own cc nL rt pc (o_xfld g_fval (pc + 3)) := by
  refine ⟨g_xfld_mono, ?_⟩
  intro p l e R s m args below meth c D cA μ ξ A d cal Q K C hK L st M H locs ls h hP hD hS hl
  obtain ⟨hx, hb, hml, hown, hts, hr, hlk, hKk, hA, hE, rfl, hSn⟩ := C
  obtain ⟨k, r, v, rfl, e1, h⟩ := g_xfld_spec h
  unfold g_fval at e1
  cases e2 : Nat.ble 10 k with
  | false => rw [e2] at e1; cases e1
  | true =>
    cases e3 : Nat.ble 16 k with
    | true => rw [e2, e3] at e1; cases e1
    | false =>
      rw [e2, e3] at e1
      cases e1
      have g1 := Nat.le_of_ble_eq_true e2
      have g2 : k < 16 := by
        rcases Nat.lt_or_ge k 16 with q | q
        · exact q
        · rw [Nat.ble_eq_true_of_le q] at e3; cases e3
      have g3 := (hE.2.2.2.2.2.2.2.2.1.1 (k - 10) (by omega)).2.2.1
      dsimp only at g3
      rw [show 10 + (k - 10) = k by omega, show 20 + (k - 10) = k + 10 by omega] at g3
      exact vk_getf hx hb g3 hS hown (hts _ hw) (fun _ h => h) hd (hK _ _ _ _ _ _ _ h hP hD hS hl)
theorem ok_fcod {idx : Nat} (hd : decode cc pc = .ok (.getfield idx, 3)) (hw : Cond.fieldLink own idx "java/lang/String" "coder" "B" ∈ g_tbl) : g_ok sh mi own cc nL rt pc (o_xfld g_fcod (pc + 3)) := by
  refine ⟨g_xfld_mono, ?_⟩
  intro p l e R s m args below meth c D cA μ ξ A d cal Q K C hK L st M H locs ls h hP hD hS hl
  obtain ⟨hx, hb, hml, hown, hts, hr, hlk, hKk, hA, hE, rfl, hSn⟩ := C
  obtain ⟨k, r, v, rfl, e1, h⟩ := g_xfld_spec h
  unfold g_fcod at e1
  cases e2 : Nat.ble 10 k with
  | false => rw [e2] at e1; cases e1
  | true =>
    cases e3 : Nat.ble 16 k with
    | true => rw [e2, e3] at e1; cases e1
    | false =>
      rw [e2, e3] at e1
      cases e1
      have g1 := Nat.le_of_ble_eq_true e2
      have g2 : k < 16 := by
        rcases Nat.lt_or_ge k 16 with q | q
        · exact q
        · rw [Nat.ble_eq_true_of_le q] at e3; cases e3
      have g3 := (hE.2.2.2.2.2.2.2.2.1.1 (k - 10) (by omega)).2.1
      dsimp only at g3
      rw [show 10 + (k - 10) = k by omega] at g3
      exact vk_getf hx hb g3 hS hown (hts _ hw) (fun _ h => h) hd (hK _ _ _ _ _ _ _ h hP hD hS hl)
end OKC
end
