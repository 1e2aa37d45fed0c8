-- ===== PART A: goes FIRST, ahead of the names: the tables' words, and 'selects' of the private methods out of them =====
/-- a private method of a class that the tables say can be made, by its rows of tables_1 -/
def lw_okq (q : MethodName × Nat) : Prop := (q.1.cls ≠ "java/lang/invoke/MethodHandle" ∧ q.1.cls ≠ "java/lang/invoke/VarHandle") ∧ Cond.instantiable q.1.cls q.2 ∈ tables_1 ∧ Cond.privateMethod q.1 ∈ tables_1 ∧ Cond.instanceMethod q.1 ∈ tables_1
theorem lw_p0 : lw_okq (⟨"NeckWorlds", "error", "(I)I"⟩, 12) := ⟨⟨by decide +kernel, by decide +kernel⟩, List.mem_of_getElem? (i := 22) (by decide +kernel), List.mem_of_getElem? (i := 344) (by decide +kernel), List.mem_of_getElem? (i := 345) (by decide +kernel)⟩
theorem lw_p1 : lw_okq (⟨"NeckWorlds", "isGood", "(I)Z"⟩, 12) := ⟨⟨by decide +kernel, by decide +kernel⟩, List.mem_of_getElem? (i := 22) (by decide +kernel), List.mem_of_getElem? (i := 361) (by decide +kernel), List.mem_of_getElem? (i := 362) (by decide +kernel)⟩
theorem lw_p2 : lw_okq (⟨"NeckWorlds$Law", "worked", "(III)I"⟩, 4) := ⟨⟨by decide +kernel, by decide +kernel⟩, List.mem_of_getElem? (i := 98) (by decide +kernel), List.mem_of_getElem? (i := 378) (by decide +kernel), List.mem_of_getElem? (i := 379) (by decide +kernel)⟩
theorem lw_p3 : lw_okq (⟨"NeckWorlds$Thought", "goesOn", "()Z"⟩, 2) := ⟨⟨by decide +kernel, by decide +kernel⟩, List.mem_of_getElem? (i := 167) (by decide +kernel), List.mem_of_getElem? (i := 417) (by decide +kernel), List.mem_of_getElem? (i := 418) (by decide +kernel)⟩
theorem lw_p4 : lw_okq (⟨"NeckWorlds", "isDoor", "(I)Z"⟩, 12) := ⟨⟨by decide +kernel, by decide +kernel⟩, List.mem_of_getElem? (i := 22) (by decide +kernel), List.mem_of_getElem? (i := 475) (by decide +kernel), List.mem_of_getElem? (i := 476) (by decide +kernel)⟩
theorem lw_p5 : lw_okq (⟨"NeckWorlds$Reader", "readJoined", "(II)Z"⟩, 6) := ⟨⟨by decide +kernel, by decide +kernel⟩, List.mem_of_getElem? (i := 183) (by decide +kernel), List.mem_of_getElem? (i := 508) (by decide +kernel), List.mem_of_getElem? (i := 509) (by decide +kernel)⟩
theorem lw_p6 : lw_okq (⟨"NeckWorlds$Reader", "readPart", "(I)Z"⟩, 6) := ⟨⟨by decide +kernel, by decide +kernel⟩, List.mem_of_getElem? (i := 183) (by decide +kernel), List.mem_of_getElem? (i := 512) (by decide +kernel), List.mem_of_getElem? (i := 513) (by decide +kernel)⟩
theorem lw_p7 : lw_okq (⟨"NeckWorlds$Reader", "readNumber", "()Z"⟩, 6) := ⟨⟨by decide +kernel, by decide +kernel⟩, List.mem_of_getElem? (i := 183) (by decide +kernel), List.mem_of_getElem? (i := 520) (by decide +kernel), List.mem_of_getElem? (i := 521) (by decide +kernel)⟩
theorem lw_p8 : lw_okq (⟨"NeckWorlds$Reader", "keep", "(I)V"⟩, 6) := ⟨⟨by decide +kernel, by decide +kernel⟩, List.mem_of_getElem? (i := 183) (by decide +kernel), List.mem_of_getElem? (i := 524) (by decide +kernel), List.mem_of_getElem? (i := 525) (by decide +kernel)⟩
theorem lw_p9 : lw_okq (⟨"NeckWorlds$Reader", "readNegated", "(I)Z"⟩, 6) := ⟨⟨by decide +kernel, by decide +kernel⟩, List.mem_of_getElem? (i := 183) (by decide +kernel), List.mem_of_getElem? (i := 610) (by decide +kernel), List.mem_of_getElem? (i := 611) (by decide +kernel)⟩
theorem lw_p10 : lw_okq (⟨"NeckWorlds$Reader", "readEnclosed", "(I)Z"⟩, 6) := ⟨⟨by decide +kernel, by decide +kernel⟩, List.mem_of_getElem? (i := 183) (by decide +kernel), List.mem_of_getElem? (i := 614) (by decide +kernel), List.mem_of_getElem? (i := 615) (by decide +kernel)⟩
theorem lw_p11 : lw_okq (⟨"NeckWorlds", "howManyRest", "()I"⟩, 12) := ⟨⟨by decide +kernel, by decide +kernel⟩, List.mem_of_getElem? (i := 22) (by decide +kernel), List.mem_of_getElem? (i := 653) (by decide +kernel), List.mem_of_getElem? (i := 654) (by decide +kernel)⟩
theorem lw_p12 : lw_okq (⟨"NeckWorlds$Pairs", "pairFrom", "(III)V"⟩, 9) := ⟨⟨by decide +kernel, by decide +kernel⟩, List.mem_of_getElem? (i := 211) (by decide +kernel), List.mem_of_getElem? (i := 725) (by decide +kernel), List.mem_of_getElem? (i := 726) (by decide +kernel)⟩
theorem lw_p13 : lw_okq (⟨"NeckWorlds$Pairs", "keepIfBetter", "(I)V"⟩, 9) := ⟨⟨by decide +kernel, by decide +kernel⟩, List.mem_of_getElem? (i := 211) (by decide +kernel), List.mem_of_getElem? (i := 729) (by decide +kernel), List.mem_of_getElem? (i := 730) (by decide +kernel)⟩
theorem lw_p14 : lw_okq (⟨"NeckWorlds$Thought", "goesSo", "(LNeckWorlds$Sheet;)Z"⟩, 2) := ⟨⟨by decide +kernel, by decide +kernel⟩, List.mem_of_getElem? (i := 167) (by decide +kernel), List.mem_of_getElem? (i := 760) (by decide +kernel), List.mem_of_getElem? (i := 761) (by decide +kernel)⟩
theorem lw_p15 : lw_okq (⟨"NeckWorlds$Thought", "goThroughQuakes", "(II)V"⟩, 2) := ⟨⟨by decide +kernel, by decide +kernel⟩, List.mem_of_getElem? (i := 167) (by decide +kernel), List.mem_of_getElem? (i := 780) (by decide +kernel), List.mem_of_getElem? (i := 781) (by decide +kernel)⟩
def lw_privs_1 : List (MethodName × Nat) := [(⟨"NeckWorlds", "error", "(I)I"⟩, 12), (⟨"NeckWorlds", "isGood", "(I)Z"⟩, 12), (⟨"NeckWorlds$Law", "worked", "(III)I"⟩, 4), (⟨"NeckWorlds$Thought", "goesOn", "()Z"⟩, 2), (⟨"NeckWorlds", "isDoor", "(I)Z"⟩, 12), (⟨"NeckWorlds$Reader", "readJoined", "(II)Z"⟩, 6), (⟨"NeckWorlds$Reader", "readPart", "(I)Z"⟩, 6), (⟨"NeckWorlds$Reader", "readNumber", "()Z"⟩, 6), (⟨"NeckWorlds$Reader", "keep", "(I)V"⟩, 6), (⟨"NeckWorlds$Reader", "readNegated", "(I)Z"⟩, 6), (⟨"NeckWorlds$Reader", "readEnclosed", "(I)Z"⟩, 6), (⟨"NeckWorlds", "howManyRest", "()I"⟩, 12), (⟨"NeckWorlds$Pairs", "pairFrom", "(III)V"⟩, 9), (⟨"NeckWorlds$Pairs", "keepIfBetter", "(I)V"⟩, 9), (⟨"NeckWorlds$Thought", "goesSo", "(LNeckWorlds$Sheet;)Z"⟩, 2), (⟨"NeckWorlds$Thought", "goThroughQuakes", "(II)V"⟩, 2)]
theorem lw_r1 : ∀ q ∈ lw_privs_1, lw_okq q := List.forall_mem_cons.mpr ⟨lw_p0, List.forall_mem_cons.mpr ⟨lw_p1, List.forall_mem_cons.mpr ⟨lw_p2, List.forall_mem_cons.mpr ⟨lw_p3, List.forall_mem_cons.mpr ⟨lw_p4, List.forall_mem_cons.mpr ⟨lw_p5, List.forall_mem_cons.mpr ⟨lw_p6, List.forall_mem_cons.mpr ⟨lw_p7, List.forall_mem_cons.mpr ⟨lw_p8, List.forall_mem_cons.mpr ⟨lw_p9, List.forall_mem_cons.mpr ⟨lw_p10, List.forall_mem_cons.mpr ⟨lw_p11, List.forall_mem_cons.mpr ⟨lw_p12, List.forall_mem_cons.mpr ⟨lw_p13, List.forall_mem_cons.mpr ⟨lw_p14, List.forall_mem_cons.mpr ⟨lw_p15, fun _ h => absurd h List.not_mem_nil⟩⟩⟩⟩⟩⟩⟩⟩⟩⟩⟩⟩⟩⟩⟩⟩
theorem lw_p16 : lw_okq (⟨"NeckWorlds$Voices", "own", "(III)I"⟩, 5) := ⟨⟨by decide +kernel, by decide +kernel⟩, List.mem_of_getElem? (i := 248) (by decide +kernel), List.mem_of_getElem? (i := 796) (by decide +kernel), List.mem_of_getElem? (i := 797) (by decide +kernel)⟩
theorem lw_p17 : lw_okq (⟨"NeckWorlds$Voices", "from", "(IIII)I"⟩, 5) := ⟨⟨by decide +kernel, by decide +kernel⟩, List.mem_of_getElem? (i := 248) (by decide +kernel), List.mem_of_getElem? (i := 800) (by decide +kernel), List.mem_of_getElem? (i := 801) (by decide +kernel)⟩
theorem lw_p18 : lw_okq (⟨"NeckWorlds$Voices", "note", "(I)V"⟩, 5) := ⟨⟨by decide +kernel, by decide +kernel⟩, List.mem_of_getElem? (i := 248) (by decide +kernel), List.mem_of_getElem? (i := 810) (by decide +kernel), List.mem_of_getElem? (i := 811) (by decide +kernel)⟩
theorem lw_p19 : lw_okq (⟨"NeckWorldsModel", "error", "(I)I"⟩, 29) := ⟨⟨by decide +kernel, by decide +kernel⟩, List.mem_of_getElem? (i := 891) (by decide +kernel), List.mem_of_getElem? (i := 994) (by decide +kernel), List.mem_of_getElem? (i := 995) (by decide +kernel)⟩
theorem lw_p20 : lw_okq (⟨"NeckWorldsModel", "sets", "(III)V"⟩, 29) := ⟨⟨by decide +kernel, by decide +kernel⟩, List.mem_of_getElem? (i := 891) (by decide +kernel), List.mem_of_getElem? (i := 999) (by decide +kernel), List.mem_of_getElem? (i := 1000) (by decide +kernel)⟩
theorem lw_p21 : lw_okq (⟨"NeckWorldsModel", "isGood", "(I)Z"⟩, 29) := ⟨⟨by decide +kernel, by decide +kernel⟩, List.mem_of_getElem? (i := 891) (by decide +kernel), List.mem_of_getElem? (i := 1007) (by decide +kernel), List.mem_of_getElem? (i := 1008) (by decide +kernel)⟩
theorem lw_p22 : lw_okq (⟨"NeckWorldsModel", "of", "(II)I"⟩, 29) := ⟨⟨by decide +kernel, by decide +kernel⟩, List.mem_of_getElem? (i := 891) (by decide +kernel), List.mem_of_getElem? (i := 1011) (by decide +kernel), List.mem_of_getElem? (i := 1012) (by decide +kernel)⟩
theorem lw_p23 : lw_okq (⟨"NeckWorldsModel", "loadOf", "(I)I"⟩, 29) := ⟨⟨by decide +kernel, by decide +kernel⟩, List.mem_of_getElem? (i := 891) (by decide +kernel), List.mem_of_getElem? (i := 1015) (by decide +kernel), List.mem_of_getElem? (i := 1016) (by decide +kernel)⟩
theorem lw_p24 : lw_okq (⟨"NeckWorldsModel", "pulledNow", "(I)I"⟩, 29) := ⟨⟨by decide +kernel, by decide +kernel⟩, List.mem_of_getElem? (i := 891) (by decide +kernel), List.mem_of_getElem? (i := 1022) (by decide +kernel), List.mem_of_getElem? (i := 1023) (by decide +kernel)⟩
theorem lw_p25 : lw_okq (⟨"NeckWorldsModel", "gives", "(IIII)I"⟩, 29) := ⟨⟨by decide +kernel, by decide +kernel⟩, List.mem_of_getElem? (i := 891) (by decide +kernel), List.mem_of_getElem? (i := 1026) (by decide +kernel), List.mem_of_getElem? (i := 1027) (by decide +kernel)⟩
theorem lw_p26 : lw_okq (⟨"NeckWorldsModel", "worksOut", "(I)I"⟩, 29) := ⟨⟨by decide +kernel, by decide +kernel⟩, List.mem_of_getElem? (i := 891) (by decide +kernel), List.mem_of_getElem? (i := 1030) (by decide +kernel), List.mem_of_getElem? (i := 1031) (by decide +kernel)⟩
theorem lw_p27 : lw_okq (⟨"NeckWorldsModel", "isAtRest", "(I)Z"⟩, 29) := ⟨⟨by decide +kernel, by decide +kernel⟩, List.mem_of_getElem? (i := 891) (by decide +kernel), List.mem_of_getElem? (i := 1049) (by decide +kernel), List.mem_of_getElem? (i := 1050) (by decide +kernel)⟩
theorem lw_p28 : lw_okq (⟨"NeckWorldsModel", "looksAhead", "(I)V"⟩, 29) := ⟨⟨by decide +kernel, by decide +kernel⟩, List.mem_of_getElem? (i := 891) (by decide +kernel), List.mem_of_getElem? (i := 1053) (by decide +kernel), List.mem_of_getElem? (i := 1054) (by decide +kernel)⟩
theorem lw_p29 : lw_okq (⟨"NeckWorldsModel", "pushed", "(II)I"⟩, 29) := ⟨⟨by decide +kernel, by decide +kernel⟩, List.mem_of_getElem? (i := 891) (by decide +kernel), List.mem_of_getElem? (i := 1082) (by decide +kernel), List.mem_of_getElem? (i := 1083) (by decide +kernel)⟩
theorem lw_p30 : lw_okq (⟨"NeckWorldsModel", "isDoor", "(I)Z"⟩, 29) := ⟨⟨by decide +kernel, by decide +kernel⟩, List.mem_of_getElem? (i := 891) (by decide +kernel), List.mem_of_getElem? (i := 1103) (by decide +kernel), List.mem_of_getElem? (i := 1104) (by decide +kernel)⟩
theorem lw_p31 : lw_okq (⟨"NeckWorldsModel", "stands", "(III)I"⟩, 29) := ⟨⟨by decide +kernel, by decide +kernel⟩, List.mem_of_getElem? (i := 891) (by decide +kernel), List.mem_of_getElem? (i := 1107) (by decide +kernel), List.mem_of_getElem? (i := 1108) (by decide +kernel)⟩
def lw_privs_2 : List (MethodName × Nat) := [(⟨"NeckWorlds$Voices", "own", "(III)I"⟩, 5), (⟨"NeckWorlds$Voices", "from", "(IIII)I"⟩, 5), (⟨"NeckWorlds$Voices", "note", "(I)V"⟩, 5), (⟨"NeckWorldsModel", "error", "(I)I"⟩, 29), (⟨"NeckWorldsModel", "sets", "(III)V"⟩, 29), (⟨"NeckWorldsModel", "isGood", "(I)Z"⟩, 29), (⟨"NeckWorldsModel", "of", "(II)I"⟩, 29), (⟨"NeckWorldsModel", "loadOf", "(I)I"⟩, 29), (⟨"NeckWorldsModel", "pulledNow", "(I)I"⟩, 29), (⟨"NeckWorldsModel", "gives", "(IIII)I"⟩, 29), (⟨"NeckWorldsModel", "worksOut", "(I)I"⟩, 29), (⟨"NeckWorldsModel", "isAtRest", "(I)Z"⟩, 29), (⟨"NeckWorldsModel", "looksAhead", "(I)V"⟩, 29), (⟨"NeckWorldsModel", "pushed", "(II)I"⟩, 29), (⟨"NeckWorldsModel", "isDoor", "(I)Z"⟩, 29), (⟨"NeckWorldsModel", "stands", "(III)I"⟩, 29)]
theorem lw_r2 : ∀ q ∈ lw_privs_2, lw_okq q := List.forall_mem_cons.mpr ⟨lw_p16, List.forall_mem_cons.mpr ⟨lw_p17, List.forall_mem_cons.mpr ⟨lw_p18, List.forall_mem_cons.mpr ⟨lw_p19, List.forall_mem_cons.mpr ⟨lw_p20, List.forall_mem_cons.mpr ⟨lw_p21, List.forall_mem_cons.mpr ⟨lw_p22, List.forall_mem_cons.mpr ⟨lw_p23, List.forall_mem_cons.mpr ⟨lw_p24, List.forall_mem_cons.mpr ⟨lw_p25, List.forall_mem_cons.mpr ⟨lw_p26, List.forall_mem_cons.mpr ⟨lw_p27, List.forall_mem_cons.mpr ⟨lw_p28, List.forall_mem_cons.mpr ⟨lw_p29, List.forall_mem_cons.mpr ⟨lw_p30, List.forall_mem_cons.mpr ⟨lw_p31, fun _ h => absurd h List.not_mem_nil⟩⟩⟩⟩⟩⟩⟩⟩⟩⟩⟩⟩⟩⟩⟩⟩
theorem lw_p32 : lw_okq (⟨"NeckWorldsModel", "readsT", "()Z"⟩, 29) := ⟨⟨by decide +kernel, by decide +kernel⟩, List.mem_of_getElem? (i := 891) (by decide +kernel), List.mem_of_getElem? (i := 1125) (by decide +kernel), List.mem_of_getElem? (i := 1126) (by decide +kernel)⟩
theorem lw_p33 : lw_okq (⟨"NeckWorldsModel", "reads", "(I)Z"⟩, 29) := ⟨⟨by decide +kernel, by decide +kernel⟩, List.mem_of_getElem? (i := 891) (by decide +kernel), List.mem_of_getElem? (i := 1129) (by decide +kernel), List.mem_of_getElem? (i := 1130) (by decide +kernel)⟩
theorem lw_p34 : lw_okq (⟨"NeckWorldsModel", "readsQ", "()Z"⟩, 29) := ⟨⟨by decide +kernel, by decide +kernel⟩, List.mem_of_getElem? (i := 891) (by decide +kernel), List.mem_of_getElem? (i := 1133) (by decide +kernel), List.mem_of_getElem? (i := 1134) (by decide +kernel)⟩
theorem lw_p35 : lw_okq (⟨"NeckWorldsModel", "isDigit", "()Z"⟩, 29) := ⟨⟨by decide +kernel, by decide +kernel⟩, List.mem_of_getElem? (i := 891) (by decide +kernel), List.mem_of_getElem? (i := 1137) (by decide +kernel), List.mem_of_getElem? (i := 1138) (by decide +kernel)⟩
theorem lw_p36 : lw_okq (⟨"NeckWorldsModel", "here", "()I"⟩, 29) := ⟨⟨by decide +kernel, by decide +kernel⟩, List.mem_of_getElem? (i := 891) (by decide +kernel), List.mem_of_getElem? (i := 1141) (by decide +kernel), List.mem_of_getElem? (i := 1142) (by decide +kernel)⟩
theorem lw_p37 : lw_okq (⟨"NeckWorldsModel", "readsNumber", "()Z"⟩, 29) := ⟨⟨by decide +kernel, by decide +kernel⟩, List.mem_of_getElem? (i := 891) (by decide +kernel), List.mem_of_getElem? (i := 1147) (by decide +kernel), List.mem_of_getElem? (i := 1148) (by decide +kernel)⟩
theorem lw_p38 : lw_okq (⟨"NeckWorldsModel", "lays", "(II)V"⟩, 29) := ⟨⟨by decide +kernel, by decide +kernel⟩, List.mem_of_getElem? (i := 891) (by decide +kernel), List.mem_of_getElem? (i := 1151) (by decide +kernel), List.mem_of_getElem? (i := 1152) (by decide +kernel)⟩
theorem lw_p39 : lw_okq (⟨"NeckWorldsModel", "nameHere", "()I"⟩, 29) := ⟨⟨by decide +kernel, by decide +kernel⟩, List.mem_of_getElem? (i := 891) (by decide +kernel), List.mem_of_getElem? (i := 1155) (by decide +kernel), List.mem_of_getElem? (i := 1156) (by decide +kernel)⟩
theorem lw_p40 : lw_okq (⟨"NeckWorldsModel", "takes", "(I)Z"⟩, 29) := ⟨⟨by decide +kernel, by decide +kernel⟩, List.mem_of_getElem? (i := 891) (by decide +kernel), List.mem_of_getElem? (i := 1159) (by decide +kernel), List.mem_of_getElem? (i := 1160) (by decide +kernel)⟩
theorem lw_p41 : lw_okq (⟨"NeckWorldsModel", "isSign", "(I)Z"⟩, 29) := ⟨⟨by decide +kernel, by decide +kernel⟩, List.mem_of_getElem? (i := 891) (by decide +kernel), List.mem_of_getElem? (i := 1163) (by decide +kernel), List.mem_of_getElem? (i := 1164) (by decide +kernel)⟩
theorem lw_p42 : lw_okq (⟨"NeckWorldsModel", "goOn", "(IZ)I"⟩, 29) := ⟨⟨by decide +kernel, by decide +kernel⟩, List.mem_of_getElem? (i := 891) (by decide +kernel), List.mem_of_getElem? (i := 1175) (by decide +kernel), List.mem_of_getElem? (i := 1176) (by decide +kernel)⟩
theorem lw_p43 : lw_okq (⟨"NeckWorldsModel", "draw", "()I"⟩, 29) := ⟨⟨by decide +kernel, by decide +kernel⟩, List.mem_of_getElem? (i := 891) (by decide +kernel), List.mem_of_getElem? (i := 1180) (by decide +kernel), List.mem_of_getElem? (i := 1181) (by decide +kernel)⟩
theorem lw_p44 : lw_okq (⟨"NeckWorldsModel", "step", "()V"⟩, 29) := ⟨⟨by decide +kernel, by decide +kernel⟩, List.mem_of_getElem? (i := 891) (by decide +kernel), List.mem_of_getElem? (i := 1185) (by decide +kernel), List.mem_of_getElem? (i := 1186) (by decide +kernel)⟩
theorem lw_p45 : lw_okq (⟨"NeckWorldsModel", "goes", "(I)V"⟩, 29) := ⟨⟨by decide +kernel, by decide +kernel⟩, List.mem_of_getElem? (i := 891) (by decide +kernel), List.mem_of_getElem? (i := 1189) (by decide +kernel), List.mem_of_getElem? (i := 1190) (by decide +kernel)⟩
theorem lw_p46 : lw_okq (⟨"NeckWorldsModel", "resting", "()I"⟩, 29) := ⟨⟨by decide +kernel, by decide +kernel⟩, List.mem_of_getElem? (i := 891) (by decide +kernel), List.mem_of_getElem? (i := 1195) (by decide +kernel), List.mem_of_getElem? (i := 1196) (by decide +kernel)⟩
theorem lw_p47 : lw_okq (⟨"NeckWorldsModel", "saves", "()V"⟩, 29) := ⟨⟨by decide +kernel, by decide +kernel⟩, List.mem_of_getElem? (i := 891) (by decide +kernel), List.mem_of_getElem? (i := 1207) (by decide +kernel), List.mem_of_getElem? (i := 1208) (by decide +kernel)⟩
def lw_privs_3 : List (MethodName × Nat) := [(⟨"NeckWorldsModel", "readsT", "()Z"⟩, 29), (⟨"NeckWorldsModel", "reads", "(I)Z"⟩, 29), (⟨"NeckWorldsModel", "readsQ", "()Z"⟩, 29), (⟨"NeckWorldsModel", "isDigit", "()Z"⟩, 29), (⟨"NeckWorldsModel", "here", "()I"⟩, 29), (⟨"NeckWorldsModel", "readsNumber", "()Z"⟩, 29), (⟨"NeckWorldsModel", "lays", "(II)V"⟩, 29), (⟨"NeckWorldsModel", "nameHere", "()I"⟩, 29), (⟨"NeckWorldsModel", "takes", "(I)Z"⟩, 29), (⟨"NeckWorldsModel", "isSign", "(I)Z"⟩, 29), (⟨"NeckWorldsModel", "goOn", "(IZ)I"⟩, 29), (⟨"NeckWorldsModel", "draw", "()I"⟩, 29), (⟨"NeckWorldsModel", "step", "()V"⟩, 29), (⟨"NeckWorldsModel", "goes", "(I)V"⟩, 29), (⟨"NeckWorldsModel", "resting", "()I"⟩, 29), (⟨"NeckWorldsModel", "saves", "()V"⟩, 29)]
theorem lw_r3 : ∀ q ∈ lw_privs_3, lw_okq q := List.forall_mem_cons.mpr ⟨lw_p32, List.forall_mem_cons.mpr ⟨lw_p33, List.forall_mem_cons.mpr ⟨lw_p34, List.forall_mem_cons.mpr ⟨lw_p35, List.forall_mem_cons.mpr ⟨lw_p36, List.forall_mem_cons.mpr ⟨lw_p37, List.forall_mem_cons.mpr ⟨lw_p38, List.forall_mem_cons.mpr ⟨lw_p39, List.forall_mem_cons.mpr ⟨lw_p40, List.forall_mem_cons.mpr ⟨lw_p41, List.forall_mem_cons.mpr ⟨lw_p42, List.forall_mem_cons.mpr ⟨lw_p43, List.forall_mem_cons.mpr ⟨lw_p44, List.forall_mem_cons.mpr ⟨lw_p45, List.forall_mem_cons.mpr ⟨lw_p46, List.forall_mem_cons.mpr ⟨lw_p47, fun _ h => absurd h List.not_mem_nil⟩⟩⟩⟩⟩⟩⟩⟩⟩⟩⟩⟩⟩⟩⟩⟩
theorem lw_p48 : lw_okq (⟨"NeckWorldsModel", "putsBack", "()V"⟩, 29) := ⟨⟨by decide +kernel, by decide +kernel⟩, List.mem_of_getElem? (i := 891) (by decide +kernel), List.mem_of_getElem? (i := 1211) (by decide +kernel), List.mem_of_getElem? (i := 1212) (by decide +kernel)⟩
theorem lw_p49 : lw_okq (⟨"NeckWorldsModel", "restOf", "(I)I"⟩, 29) := ⟨⟨by decide +kernel, by decide +kernel⟩, List.mem_of_getElem? (i := 891) (by decide +kernel), List.mem_of_getElem? (i := 1219) (by decide +kernel), List.mem_of_getElem? (i := 1220) (by decide +kernel)⟩
theorem lw_p50 : lw_okq (⟨"NeckWorldsModel", "overBy", "(III)I"⟩, 29) := ⟨⟨by decide +kernel, by decide +kernel⟩, List.mem_of_getElem? (i := 891) (by decide +kernel), List.mem_of_getElem? (i := 1232) (by decide +kernel), List.mem_of_getElem? (i := 1233) (by decide +kernel)⟩
theorem lw_p51 : lw_okq (⟨"NeckWorldsModel", "pairs", "(IIII)V"⟩, 29) := ⟨⟨by decide +kernel, by decide +kernel⟩, List.mem_of_getElem? (i := 891) (by decide +kernel), List.mem_of_getElem? (i := 1252) (by decide +kernel), List.mem_of_getElem? (i := 1253) (by decide +kernel)⟩
theorem lw_p52 : lw_okq (⟨"NeckWorldsModel", "mateOf", "(I)I"⟩, 29) := ⟨⟨by decide +kernel, by decide +kernel⟩, List.mem_of_getElem? (i := 891) (by decide +kernel), List.mem_of_getElem? (i := 1259) (by decide +kernel), List.mem_of_getElem? (i := 1260) (by decide +kernel)⟩
theorem lw_p53 : lw_okq (⟨"NeckWorldsModel", "goesSo", "(II)Z"⟩, 29) := ⟨⟨by decide +kernel, by decide +kernel⟩, List.mem_of_getElem? (i := 891) (by decide +kernel), List.mem_of_getElem? (i := 1271) (by decide +kernel), List.mem_of_getElem? (i := 1272) (by decide +kernel)⟩
theorem lw_p54 : lw_okq (⟨"NeckWorldsModel", "manyOver", "(IIII)I"⟩, 29) := ⟨⟨by decide +kernel, by decide +kernel⟩, List.mem_of_getElem? (i := 891) (by decide +kernel), List.mem_of_getElem? (i := 1284) (by decide +kernel), List.mem_of_getElem? (i := 1285) (by decide +kernel)⟩
theorem lw_p55 : lw_okq (⟨"NeckWorldsModel", "floats", "(II)I"⟩, 29) := ⟨⟨by decide +kernel, by decide +kernel⟩, List.mem_of_getElem? (i := 891) (by decide +kernel), List.mem_of_getElem? (i := 1296) (by decide +kernel), List.mem_of_getElem? (i := 1297) (by decide +kernel)⟩
theorem lw_p56 : lw_okq (⟨"NeckWorldsModel", "begins", "(I)V"⟩, 29) := ⟨⟨by decide +kernel, by decide +kernel⟩, List.mem_of_getElem? (i := 891) (by decide +kernel), List.mem_of_getElem? (i := 1300) (by decide +kernel), List.mem_of_getElem? (i := 1301) (by decide +kernel)⟩
theorem lw_p57 : lw_okq (⟨"NeckWorldsModel", "falls", "(II)I"⟩, 29) := ⟨⟨by decide +kernel, by decide +kernel⟩, List.mem_of_getElem? (i := 891) (by decide +kernel), List.mem_of_getElem? (i := 1307) (by decide +kernel), List.mem_of_getElem? (i := 1308) (by decide +kernel)⟩
theorem lw_p58 : lw_okq (⟨"NeckWorldsModel", "hangs", "(II)I"⟩, 29) := ⟨⟨by decide +kernel, by decide +kernel⟩, List.mem_of_getElem? (i := 891) (by decide +kernel), List.mem_of_getElem? (i := 1311) (by decide +kernel), List.mem_of_getElem? (i := 1312) (by decide +kernel)⟩
theorem lw_p59 : lw_okq (⟨"NeckWorldsModel", "tells", "(II)I"⟩, 29) := ⟨⟨by decide +kernel, by decide +kernel⟩, List.mem_of_getElem? (i := 891) (by decide +kernel), List.mem_of_getElem? (i := 1315) (by decide +kernel), List.mem_of_getElem? (i := 1316) (by decide +kernel)⟩
theorem lw_p60 : lw_okq (⟨"NeckWorldsModel", "noSheet", "(I)I"⟩, 29) := ⟨⟨by decide +kernel, by decide +kernel⟩, List.mem_of_getElem? (i := 891) (by decide +kernel), List.mem_of_getElem? (i := 1331) (by decide +kernel), List.mem_of_getElem? (i := 1332) (by decide +kernel)⟩
theorem lw_p61 : lw_okq (⟨"NeckWorldsModel", "floors", "()I"⟩, 29) := ⟨⟨by decide +kernel, by decide +kernel⟩, List.mem_of_getElem? (i := 891) (by decide +kernel), List.mem_of_getElem? (i := 1366) (by decide +kernel), List.mem_of_getElem? (i := 1367) (by decide +kernel)⟩
theorem lw_p62 : lw_okq (⟨"NeckWorldsModel", "between", "(II)I"⟩, 29) := ⟨⟨by decide +kernel, by decide +kernel⟩, List.mem_of_getElem? (i := 891) (by decide +kernel), List.mem_of_getElem? (i := 1374) (by decide +kernel), List.mem_of_getElem? (i := 1375) (by decide +kernel)⟩
def lw_privs_4 : List (MethodName × Nat) := [(⟨"NeckWorldsModel", "putsBack", "()V"⟩, 29), (⟨"NeckWorldsModel", "restOf", "(I)I"⟩, 29), (⟨"NeckWorldsModel", "overBy", "(III)I"⟩, 29), (⟨"NeckWorldsModel", "pairs", "(IIII)V"⟩, 29), (⟨"NeckWorldsModel", "mateOf", "(I)I"⟩, 29), (⟨"NeckWorldsModel", "goesSo", "(II)Z"⟩, 29), (⟨"NeckWorldsModel", "manyOver", "(IIII)I"⟩, 29), (⟨"NeckWorldsModel", "floats", "(II)I"⟩, 29), (⟨"NeckWorldsModel", "begins", "(I)V"⟩, 29), (⟨"NeckWorldsModel", "falls", "(II)I"⟩, 29), (⟨"NeckWorldsModel", "hangs", "(II)I"⟩, 29), (⟨"NeckWorldsModel", "tells", "(II)I"⟩, 29), (⟨"NeckWorldsModel", "noSheet", "(I)I"⟩, 29), (⟨"NeckWorldsModel", "floors", "()I"⟩, 29), (⟨"NeckWorldsModel", "between", "(II)I"⟩, 29)]
theorem lw_r4 : ∀ q ∈ lw_privs_4, lw_okq q := List.forall_mem_cons.mpr ⟨lw_p48, List.forall_mem_cons.mpr ⟨lw_p49, List.forall_mem_cons.mpr ⟨lw_p50, List.forall_mem_cons.mpr ⟨lw_p51, List.forall_mem_cons.mpr ⟨lw_p52, List.forall_mem_cons.mpr ⟨lw_p53, List.forall_mem_cons.mpr ⟨lw_p54, List.forall_mem_cons.mpr ⟨lw_p55, List.forall_mem_cons.mpr ⟨lw_p56, List.forall_mem_cons.mpr ⟨lw_p57, List.forall_mem_cons.mpr ⟨lw_p58, List.forall_mem_cons.mpr ⟨lw_p59, List.forall_mem_cons.mpr ⟨lw_p60, List.forall_mem_cons.mpr ⟨lw_p61, List.forall_mem_cons.mpr ⟨lw_p62, fun _ h => absurd h List.not_mem_nil⟩⟩⟩⟩⟩⟩⟩⟩⟩⟩⟩⟩⟩⟩⟩
def lw_privs : List (MethodName × Nat) := lw_privs_1 ++ (lw_privs_2 ++ (lw_privs_3 ++ (lw_privs_4)))
def lw_tbl : List Cond := k2_sels lw_privs ++ tables_1
theorem lw_privs_ok : ∀ q ∈ lw_privs, lw_okq q := by
  show ∀ q ∈ lw_privs_1 ++ (lw_privs_2 ++ (lw_privs_3 ++ (lw_privs_4))), lw_okq q
  exact List.forall_mem_append.mpr ⟨lw_r1, List.forall_mem_append.mpr ⟨lw_r2, List.forall_mem_append.mpr ⟨lw_r3, lw_r4⟩⟩⟩
def RX0 : String := "NeckWorlds$Course"
def TX0 : u_T := fun k => match k with
  | 0 => ("NeckWorlds$Course", "goods", "[LNeckWorlds$Good;", true)
  | 1 => ("NeckWorlds$Course", "count", "I", false)
  | 2 => ("NeckWorlds$Course", "step", "I", false)
  | _ => ("NeckWorlds$Course", "takings", "I", false)
def tyX0 : Nat → FieldType := fun k => match k with
  | 0 => .array (.object "NeckWorlds$Good")
  | 1 => .int
  | 2 => .int
  | _ => .int
abbrev wsX00 : List Cond := u_ws RX0 TX0 4
theorem nmX0 : ∀ a, a < 4 → ∀ b, b < 4 → a ≠ b → (TX0 a).2.1 ≠ (TX0 b).2.1 := by decide +kernel
theorem tyX0_ok : ∀ k, k < 4 → parseFieldDescriptor (TX0 k).2.2.1 = some (tyX0 k) := by decide +kernel
abbrev cX0_init : ByteArray := prog_2_method_1_code
def yX0_init : MethodName := ⟨RX0, "<init>", "()V"⟩
abbrev cX0_copyFrom : ByteArray := prog_2_method_2_code
def yX0_copyFrom : MethodName := ⟨RX0, "copyFrom", "(LNeckWorlds$Course;)V"⟩
abbrev cX0_goOn : ByteArray := prog_2_method_3_code
def yX0_goOn : MethodName := ⟨RX0, "goOn", "(LNeckWorlds$Setting;)V"⟩
abbrev cX0_quake : ByteArray := prog_2_method_4_code
def yX0_quake : MethodName := ⟨RX0, "quake", "(LNeckWorlds$Setting;)V"⟩
abbrev cX0_floorsTogether : ByteArray := prog_2_method_5_code
def yX0_floorsTogether : MethodName := ⟨RX0, "floorsTogether", "()I"⟩
abbrev cX0_howManyWithin : ByteArray := prog_2_method_6_code
def yX0_howManyWithin : MethodName := ⟨RX0, "howManyWithin", "(II)I"⟩
def RX1 : String := "NeckWorlds$Good"
def TX1 : u_T := fun k => match k with
  | 0 => ("NeckWorlds$Good", "kind", "I", false)
  | 1 => ("NeckWorlds$Good", "m", "I", false)
  | 2 => ("NeckWorlds$Good", "floor", "I", false)
  | 3 => ("NeckWorlds$Good", "speed", "I", false)
  | _ => ("NeckWorlds$Good", "home", "I", false)
def tyX1 : Nat → FieldType := fun k => match k with
  | 0 => .int
  | 1 => .int
  | 2 => .int
  | 3 => .int
  | _ => .int
abbrev wsX10 : List Cond := u_ws RX1 TX1 5
theorem nmX1 : ∀ a, a < 5 → ∀ b, b < 5 → a ≠ b → (TX1 a).2.1 ≠ (TX1 b).2.1 := by decide +kernel
theorem tyX1_ok : ∀ k, k < 5 → parseFieldDescriptor (TX1 k).2.2.1 = some (tyX1 k) := by decide +kernel
abbrev cX1_init : ByteArray := prog_3_method_1_code
def yX1_init : MethodName := ⟨RX1, "<init>", "()V"⟩
abbrev cX1_copyFrom : ByteArray := prog_3_method_2_code
def yX1_copyFrom : MethodName := ⟨RX1, "copyFrom", "(LNeckWorlds$Good;)V"⟩
abbrev cX1_turnInto : ByteArray := prog_3_method_3_code
def yX1_turnInto : MethodName := ⟨RX1, "turnInto", "(I)V"⟩
abbrev cX1_standAt : ByteArray := prog_3_method_4_code
def yX1_standAt : MethodName := ⟨RX1, "standAt", "(I)V"⟩
abbrev cX1_shove : ByteArray := prog_3_method_5_code
def yX1_shove : MethodName := ⟨RX1, "shove", "(I)V"⟩
abbrev cX1_load : ByteArray := prog_3_method_6_code
def yX1_load : MethodName := ⟨RX1, "load", "()I"⟩
abbrev cX1_pulled : ByteArray := prog_3_method_7_code
def yX1_pulled : MethodName := ⟨RX1, "pulled", "(I)I"⟩
abbrev cX1_drag : ByteArray := prog_3_method_8_code
def yX1_drag : MethodName := ⟨RX1, "drag", "()I"⟩
abbrev cX1_reach : ByteArray := prog_3_method_9_code
def yX1_reach : MethodName := ⟨RX1, "reach", "()I"⟩
abbrev cX1_stride : ByteArray := prog_3_method_10_code
def yX1_stride : MethodName := ⟨RX1, "stride", "(I)Z"⟩
def RX2 : String := "NeckWorlds$Law"
def TX2 : u_T := fun k => match k with
  | 0 => ("NeckWorlds$Law", "use", "I", true)
  | 1 => ("NeckWorlds$Law", "words", "[I", true)
  | 2 => ("NeckWorlds$Law", "length", "I", false)
  | _ => ("NeckWorlds$Law", "stack", "[I", true)
def tyX2 : Nat → FieldType := fun k => match k with
  | 0 => .int
  | 1 => .array .int
  | 2 => .int
  | _ => .array .int
abbrev wsX20 : List Cond := u_ws RX2 TX2 4
theorem nmX2 : ∀ a, a < 4 → ∀ b, b < 4 → a ≠ b → (TX2 a).2.1 ≠ (TX2 b).2.1 := by decide +kernel
theorem tyX2_ok : ∀ k, k < 4 → parseFieldDescriptor (TX2 k).2.2.1 = some (tyX2 k) := by decide +kernel
abbrev cX2_init : ByteArray := prog_4_method_1_code
def yX2_init : MethodName := ⟨RX2, "<init>", "(I)V"⟩
abbrev cX2_hold : ByteArray := prog_4_method_2_code
def yX2_hold : MethodName := ⟨RX2, "hold", "([II)V"⟩
abbrev cX2_give : ByteArray := prog_4_method_3_code
def yX2_give : MethodName := ⟨RX2, "give", "(III)I"⟩
abbrev cX2_worked : ByteArray := prog_4_method_4_code
def yX2_worked : MethodName := ⟨RX2, "worked", "(III)I"⟩
abbrev cX2_leaf : ByteArray := prog_4_method_5_code
def yX2_leaf : MethodName := ⟨RX2, "leaf", "(IIII)I"⟩
abbrev cX2_joined : ByteArray := prog_4_method_6_code
def yX2_joined : MethodName := ⟨RX2, "joined", "(III)I"⟩
def RX3 : String := "NeckWorlds$Pairs"
def TX3 : u_T := fun k => match k with
  | 0 => ("NeckWorlds$Pairs", "lower", "[I", true)
  | 1 => ("NeckWorlds$Pairs", "upper", "[I", true)
  | 2 => ("NeckWorlds$Pairs", "trial", "[I", true)
  | 3 => ("NeckWorlds$Pairs", "loads", "[I", true)
  | 4 => ("NeckWorlds$Pairs", "lowers", "I", false)
  | 5 => ("NeckWorlds$Pairs", "uppers", "I", false)
  | 6 => ("NeckWorlds$Pairs", "most", "I", false)
  | 7 => ("NeckWorlds$Pairs", "bestSum", "I", false)
  | _ => ("NeckWorlds$Pairs", "mate", "[I", true)
def tyX3 : Nat → FieldType := fun k => match k with
  | 0 => .array .int
  | 1 => .array .int
  | 2 => .array .int
  | 3 => .array .int
  | 4 => .int
  | 5 => .int
  | 6 => .int
  | 7 => .int
  | _ => .array .int
abbrev wsX30 : List Cond := u_ws RX3 TX3 9
theorem nmX3 : ∀ a, a < 9 → ∀ b, b < 9 → a ≠ b → (TX3 a).2.1 ≠ (TX3 b).2.1 := by decide +kernel
theorem tyX3_ok : ∀ k, k < 9 → parseFieldDescriptor (TX3 k).2.2.1 = some (tyX3 k) := by decide +kernel
abbrev cX3_init : ByteArray := prog_5_method_1_code
def yX3_init : MethodName := ⟨RX3, "<init>", "()V"⟩
abbrev cX3_balance : ByteArray := prog_5_method_2_code
def yX3_balance : MethodName := ⟨RX3, "balance", "(LNeckWorlds$Course;)V"⟩
abbrev cX3_pairFrom : ByteArray := prog_5_method_3_code
def yX3_pairFrom : MethodName := ⟨RX3, "pairFrom", "(III)V"⟩
abbrev cX3_keepIfBetter : ByteArray := prog_5_method_4_code
def yX3_keepIfBetter : MethodName := ⟨RX3, "keepIfBetter", "(I)V"⟩
def RX4 : String := "NeckWorlds$Reader"
def TX4 : u_T := fun k => match k with
  | 0 => ("NeckWorlds$Reader", "words", "[I", true)
  | 1 => ("NeckWorlds$Reader", "count", "I", false)
  | 2 => ("NeckWorlds$Reader", "tape", "[B", false)
  | 3 => ("NeckWorlds$Reader", "length", "I", false)
  | 4 => ("NeckWorlds$Reader", "at", "I", false)
  | _ => ("NeckWorlds$Reader", "names", "Ljava/lang/String;", false)
def tyX4 : Nat → FieldType := fun k => match k with
  | 0 => .array .int
  | 1 => .int
  | 2 => .array .byte
  | 3 => .int
  | 4 => .int
  | _ => .object "java/lang/String"
abbrev wsX40 : List Cond := u_ws RX4 TX4 6
theorem nmX4 : ∀ a, a < 6 → ∀ b, b < 6 → a ≠ b → (TX4 a).2.1 ≠ (TX4 b).2.1 := by decide +kernel
theorem tyX4_ok : ∀ k, k < 6 → parseFieldDescriptor (TX4 k).2.2.1 = some (tyX4 k) := by decide +kernel
abbrev cX4_init : ByteArray := prog_6_method_1_code
def yX4_init : MethodName := ⟨RX4, "<init>", "()V"⟩
abbrev cX4_fault : ByteArray := prog_6_method_2_code
def yX4_fault : MethodName := ⟨RX4, "fault", "([BII)I"⟩
abbrev cX4_readJoined : ByteArray := prog_6_method_3_code
def yX4_readJoined : MethodName := ⟨RX4, "readJoined", "(II)Z"⟩
abbrev cX4_readPart : ByteArray := prog_6_method_4_code
def yX4_readPart : MethodName := ⟨RX4, "readPart", "(I)Z"⟩
abbrev cX4_readNegated : ByteArray := prog_6_method_5_code
def yX4_readNegated : MethodName := ⟨RX4, "readNegated", "(I)Z"⟩
abbrev cX4_readEnclosed : ByteArray := prog_6_method_6_code
def yX4_readEnclosed : MethodName := ⟨RX4, "readEnclosed", "(I)Z"⟩
abbrev cX4_readNumber : ByteArray := prog_6_method_7_code
def yX4_readNumber : MethodName := ⟨RX4, "readNumber", "()Z"⟩
abbrev cX4_keep : ByteArray := prog_6_method_8_code
def yX4_keep : MethodName := ⟨RX4, "keep", "(I)V"⟩
abbrev cX4_isDigit : ByteArray := prog_6_method_9_code
def yX4_isDigit : MethodName := ⟨RX4, "isDigit", "(I)Z"⟩
abbrev cX4_levelOf : ByteArray := prog_6_method_10_code
def yX4_levelOf : MethodName := ⟨RX4, "levelOf", "(I)I"⟩
def RX5 : String := "NeckWorlds$Setting"
def TX5 : u_T := fun k => match k with
  | 0 => ("NeckWorlds$Setting", "ring", "I", false)
  | 1 => ("NeckWorlds$Setting", "shears", "[I", true)
  | 2 => ("NeckWorlds$Setting", "z", "I", false)
  | 3 => ("NeckWorlds$Setting", "tape", "[B", true)
  | 4 => ("NeckWorlds$Setting", "tapeLength", "I", false)
  | 5 => ("NeckWorlds$Setting", "waiting", "[I", true)
  | 6 => ("NeckWorlds$Setting", "waitingCount", "I", false)
  | 7 => ("NeckWorlds$Setting", "pull", "LNeckWorlds$Law;", true)
  | 8 => ("NeckWorlds$Setting", "tax", "LNeckWorlds$Law;", true)
  | _ => ("NeckWorlds$Setting", "pulls", "[B", true)
def tyX5 : Nat → FieldType := fun k => match k with
  | 0 => .int
  | 1 => .array .int
  | 2 => .int
  | 3 => .array .byte
  | 4 => .int
  | 5 => .array .int
  | 6 => .int
  | 7 => .object "NeckWorlds$Law"
  | 8 => .object "NeckWorlds$Law"
  | _ => .array .byte
abbrev wsX50 : List Cond := u_ws RX5 TX5 10
theorem nmX5 : ∀ a, a < 10 → ∀ b, b < 10 → a ≠ b → (TX5 a).2.1 ≠ (TX5 b).2.1 := by decide +kernel
theorem tyX5_ok : ∀ k, k < 10 → parseFieldDescriptor (TX5 k).2.2.1 = some (tyX5 k) := by decide +kernel
abbrev cX5_init : ByteArray := prog_7_method_1_code
def yX5_init : MethodName := ⟨RX5, "<init>", "()V"⟩
abbrev cX5_copyFrom : ByteArray := prog_7_method_2_code
def yX5_copyFrom : MethodName := ⟨RX5, "copyFrom", "(LNeckWorlds$Setting;)V"⟩
abbrev cX5_lawOf : ByteArray := prog_7_method_3_code
def yX5_lawOf : MethodName := ⟨RX5, "lawOf", "(I)LNeckWorlds$Law;"⟩
abbrev cX5_forgetPulls : ByteArray := prog_7_method_4_code
def yX5_forgetPulls : MethodName := ⟨RX5, "forgetPulls", "()V"⟩
abbrev cX5_pullOf : ByteArray := prog_7_method_5_code
def yX5_pullOf : MethodName := ⟨RX5, "pullOf", "(LNeckWorlds$Good;)I"⟩
abbrev cX5_doorPlace : ByteArray := prog_7_method_6_code
def yX5_doorPlace : MethodName := ⟨RX5, "doorPlace", "(III)I"⟩
abbrev cX5_nextDraw : ByteArray := prog_7_method_7_code
def yX5_nextDraw : MethodName := ⟨RX5, "nextDraw", "()I"⟩
def RX6 : String := "NeckWorlds$Sheet"
def TX6 : u_T := fun k => match k with
  | 0 => ("NeckWorlds$Sheet", "bits", "I", false)
  | 1 => ("NeckWorlds$Sheet", "length", "I", false)
  | _ => ("NeckWorlds$Sheet", "numbers", "[I", true)
def tyX6 : Nat → FieldType := fun k => match k with
  | 0 => .int
  | 1 => .int
  | _ => .array .int
abbrev wsX60 : List Cond := u_ws RX6 TX6 3
theorem nmX6 : ∀ a, a < 3 → ∀ b, b < 3 → a ≠ b → (TX6 a).2.1 ≠ (TX6 b).2.1 := by decide +kernel
theorem tyX6_ok : ∀ k, k < 3 → parseFieldDescriptor (TX6 k).2.2.1 = some (tyX6 k) := by decide +kernel
abbrev cX6_init : ByteArray := prog_8_method_1_code
def yX6_init : MethodName := ⟨RX6, "<init>", "()V"⟩
abbrev cX6_isMissing : ByteArray := prog_8_method_2_code
def yX6_isMissing : MethodName := ⟨RX6, "isMissing", "()Z"⟩
abbrev cX6_clear : ByteArray := prog_8_method_3_code
def yX6_clear : MethodName := ⟨RX6, "clear", "(II)V"⟩
abbrev cX6_lowestBits : ByteArray := prog_8_method_4_code
def yX6_lowestBits : MethodName := ⟨RX6, "lowestBits", "(I)I"⟩
abbrev cX6_hasFrom : ByteArray := prog_8_method_5_code
def yX6_hasFrom : MethodName := ⟨RX6, "hasFrom", "(II)Z"⟩
def RX7 : String := "NeckWorlds$Thought"
def TX7 : u_T := fun k => match k with
  | 0 => ("NeckWorlds$Thought", "one", "LNeckWorlds$Good;", true)
  | _ => ("NeckWorlds$Thought", "setting", "LNeckWorlds$Setting;", true)
def tyX7 : Nat → FieldType := fun k => match k with
  | 0 => .object "NeckWorlds$Good"
  | _ => .object "NeckWorlds$Setting"
abbrev wsX70 : List Cond := u_ws RX7 TX7 2
theorem nmX7 : ∀ a, a < 2 → ∀ b, b < 2 → a ≠ b → (TX7 a).2.1 ≠ (TX7 b).2.1 := by decide +kernel
theorem tyX7_ok : ∀ k, k < 2 → parseFieldDescriptor (TX7 k).2.2.1 = some (tyX7 k) := by decide +kernel
abbrev cX7_init : ByteArray := prog_9_method_1_code
def yX7_init : MethodName := ⟨RX7, "<init>", "(LNeckWorlds$Setting;)V"⟩
abbrev cX7_goesOn : ByteArray := prog_9_method_2_code
def yX7_goesOn : MethodName := ⟨RX7, "goesOn", "()Z"⟩
abbrev cX7_stays : ByteArray := prog_9_method_3_code
def yX7_stays : MethodName := ⟨RX7, "stays", "(LNeckWorlds$Good;)Z"⟩
abbrev cX7_restsBehind : ByteArray := prog_9_method_4_code
def yX7_restsBehind : MethodName := ⟨RX7, "restsBehind", "(LNeckWorlds$Good;)I"⟩
abbrev cX7_overBehind : ByteArray := prog_9_method_5_code
def yX7_overBehind : MethodName := ⟨RX7, "overBehind", "(LNeckWorlds$Good;II)I"⟩
abbrev cX7_rollsSo : ByteArray := prog_9_method_6_code
def yX7_rollsSo : MethodName := ⟨RX7, "rollsSo", "(LNeckWorlds$Good;ILNeckWorlds$Sheet;)Z"⟩
abbrev cX7_goesSoAs : ByteArray := prog_9_method_7_code
def yX7_goesSoAs : MethodName := ⟨RX7, "goesSoAs", "(LNeckWorlds$Good;ILNeckWorlds$Sheet;)Z"⟩
abbrev cX7_goesSo : ByteArray := prog_9_method_8_code
def yX7_goesSo : MethodName := ⟨RX7, "goesSo", "(LNeckWorlds$Sheet;)Z"⟩
abbrev cX7_landings : ByteArray := prog_9_method_9_code
def yX7_landings : MethodName := ⟨RX7, "landings", "(LNeckWorlds$Good;III)I"⟩
abbrev cX7_goThroughQuakes : ByteArray := prog_9_method_10_code
def yX7_goThroughQuakes : MethodName := ⟨RX7, "goThroughQuakes", "(II)V"⟩
def RX8 : String := "NeckWorlds$Voices"
def TX8 : u_T := fun k => match k with
  | 0 => ("NeckWorlds$Voices", "trace", "[I", true)
  | 1 => ("NeckWorlds$Voices", "bodies", "I", false)
  | 2 => ("NeckWorlds$Voices", "kind", "I", false)
  | 3 => ("NeckWorlds$Voices", "n", "I", false)
  | _ => ("NeckWorlds$Voices", "m", "I", false)
def tyX8 : Nat → FieldType := fun k => match k with
  | 0 => .array .int
  | 1 => .int
  | 2 => .int
  | 3 => .int
  | _ => .int
abbrev wsX80 : List Cond := u_ws RX8 TX8 5
theorem nmX8 : ∀ a, a < 5 → ∀ b, b < 5 → a ≠ b → (TX8 a).2.1 ≠ (TX8 b).2.1 := by decide +kernel
theorem tyX8_ok : ∀ k, k < 5 → parseFieldDescriptor (TX8 k).2.2.1 = some (tyX8 k) := by decide +kernel
abbrev cX8_init : ByteArray := prog_10_method_1_code
def yX8_init : MethodName := ⟨RX8, "<init>", "()V"⟩
abbrev cX8_speak : ByteArray := prog_10_method_2_code
def yX8_speak : MethodName := ⟨RX8, "speak", "(LNeckWorlds$Good;III)I"⟩
abbrev cX8_own : ByteArray := prog_10_method_3_code
def yX8_own : MethodName := ⟨RX8, "own", "(III)I"⟩
abbrev cX8_from : ByteArray := prog_10_method_4_code
def yX8_from : MethodName := ⟨RX8, "from", "(IIII)I"⟩
abbrev cX8_bodyOf : ByteArray := prog_10_method_5_code
def yX8_bodyOf : MethodName := ⟨RX8, "bodyOf", "(II)I"⟩
abbrev cX8_note : ByteArray := prog_10_method_6_code
def yX8_note : MethodName := ⟨RX8, "note", "(I)V"⟩
def RX9 : String := "NeckWorlds"
def TX9 : u_T := fun k => match k with
  | 0 => ("NeckWorlds", "course", "LNeckWorlds$Course;", true)
  | 1 => ("NeckWorlds", "setting", "LNeckWorlds$Setting;", true)
  | 2 => ("NeckWorlds", "keptCourse", "LNeckWorlds$Course;", true)
  | 3 => ("NeckWorlds", "keptSetting", "LNeckWorlds$Setting;", true)
  | 4 => ("NeckWorlds", "thoughtCourse", "LNeckWorlds$Course;", true)
  | 5 => ("NeckWorlds", "thought", "LNeckWorlds$Thought;", true)
  | 6 => ("NeckWorlds", "reader", "LNeckWorlds$Reader;", true)
  | 7 => ("NeckWorlds", "pairs", "LNeckWorlds$Pairs;", true)
  | 8 => ("NeckWorlds", "voices", "LNeckWorlds$Voices;", true)
  | 9 => ("NeckWorlds", "sheets", "[LNeckWorlds$Sheet;", true)
  | 10 => ("NeckWorlds", "errors", "[I", true)
  | _ => ("NeckWorlds", "images", "I", false)
def tyX9 : Nat → FieldType := fun k => match k with
  | 0 => .object "NeckWorlds$Course"
  | 1 => .object "NeckWorlds$Setting"
  | 2 => .object "NeckWorlds$Course"
  | 3 => .object "NeckWorlds$Setting"
  | 4 => .object "NeckWorlds$Course"
  | 5 => .object "NeckWorlds$Thought"
  | 6 => .object "NeckWorlds$Reader"
  | 7 => .object "NeckWorlds$Pairs"
  | 8 => .object "NeckWorlds$Voices"
  | 9 => .array (.object "NeckWorlds$Sheet")
  | 10 => .array .int
  | _ => .int
abbrev wsX90 : List Cond := u_ws RX9 TX9 12
theorem nmX9 : ∀ a, a < 12 → ∀ b, b < 12 → a ≠ b → (TX9 a).2.1 ≠ (TX9 b).2.1 := by decide +kernel
theorem tyX9_ok : ∀ k, k < 12 → parseFieldDescriptor (TX9 k).2.2.1 = some (tyX9 k) := by decide +kernel
abbrev cX9_init : ByteArray := prog_1_method_1_code
def yX9_init : MethodName := ⟨RX9, "<init>", "()V"⟩
abbrev cX9_good : ByteArray := prog_1_method_2_code
def yX9_good : MethodName := ⟨RX9, "good", "(II)I"⟩
abbrev cX9_ofGood : ByteArray := prog_1_method_3_code
def yX9_ofGood : MethodName := ⟨RX9, "ofGood", "(II)I"⟩
abbrev cX9_become : ByteArray := prog_1_method_4_code
def yX9_become : MethodName := ⟨RX9, "become", "(II)I"⟩
abbrev cX9_as : ByteArray := prog_1_method_5_code
def yX9_as : MethodName := ⟨RX9, "as", "(II)I"⟩
abbrev cX9_place : ByteArray := prog_1_method_6_code
def yX9_place : MethodName := ⟨RX9, "place", "(II)I"⟩
abbrev cX9_push : ByteArray := prog_1_method_7_code
def yX9_push : MethodName := ⟨RX9, "push", "(II)I"⟩
abbrev cX9_off : ByteArray := prog_1_method_8_code
def yX9_off : MethodName := ⟨RX9, "off", "(III)I"⟩
abbrev cX9_set : ByteArray := prog_1_method_9_code
def yX9_set : MethodName := ⟨RX9, "set", "(II)I"⟩
abbrev cX9_door : ByteArray := prog_1_method_10_code
def yX9_door : MethodName := ⟨RX9, "door", "(II)I"⟩
abbrev cX9_lineUp : ByteArray := prog_1_method_11_code
def yX9_lineUp : MethodName := ⟨RX9, "lineUp", "(II)I"⟩
abbrev cX9_feed : ByteArray := prog_1_method_12_code
def yX9_feed : MethodName := ⟨RX9, "feed", "(JI)I"⟩
abbrev cX9_text : ByteArray := prog_1_method_13_code
def yX9_text : MethodName := ⟨RX9, "text", "(I)I"⟩
abbrev cX9_law : ByteArray := prog_1_method_14_code
def yX9_law : MethodName := ⟨RX9, "law", "(IIII)I"⟩
abbrev cX9_steps : ByteArray := prog_1_method_15_code
def yX9_steps : MethodName := ⟨RX9, "steps", "(I)I"⟩
abbrev cX9_loose : ByteArray := prog_1_method_16_code
def yX9_loose : MethodName := ⟨RX9, "loose", "(I)I"⟩
abbrev cX9_then : ByteArray := prog_1_method_17_code
def yX9_then : MethodName := ⟨RX9, "then", "(III)I"⟩
abbrev cX9_rests : ByteArray := prog_1_method_18_code
def yX9_rests : MethodName := ⟨RX9, "rests", "(II)I"⟩
abbrev cX9_first : ByteArray := prog_1_method_19_code
def yX9_first : MethodName := ⟨RX9, "first", "()I"⟩
abbrev cX9_over : ByteArray := prog_1_method_20_code
def yX9_over : MethodName := ⟨RX9, "over", "(III)I"⟩
abbrev cX9_soonest : ByteArray := prog_1_method_21_code
def yX9_soonest : MethodName := ⟨RX9, "soonest", "(III)I"⟩
abbrev cX9_least : ByteArray := prog_1_method_22_code
def yX9_least : MethodName := ⟨RX9, "least", "(II)I"⟩
abbrev cX9_lifts : ByteArray := prog_1_method_23_code
def yX9_lifts : MethodName := ⟨RX9, "lifts", "(I)I"⟩
abbrev cX9_rolled : ByteArray := prog_1_method_24_code
def yX9_rolled : MethodName := ⟨RX9, "rolled", "(III)I"⟩
abbrev cX9_whose : ByteArray := prog_1_method_25_code
def yX9_whose : MethodName := ⟨RX9, "whose", "(II)I"⟩
abbrev cX9_odds : ByteArray := prog_1_method_26_code
def yX9_odds : MethodName := ⟨RX9, "odds", "(IIII)I"⟩
abbrev cX9_seed : ByteArray := prog_1_method_27_code
def yX9_seed : MethodName := ⟨RX9, "seed", "(I)I"⟩
abbrev cX9_voice : ByteArray := prog_1_method_28_code
def yX9_voice : MethodName := ⟨RX9, "voice", "(III)I"⟩
abbrev cX9_trace : ByteArray := prog_1_method_29_code
def yX9_trace : MethodName := ⟨RX9, "trace", "(I)I"⟩
abbrev cX9_sheet : ByteArray := prog_1_method_30_code
def yX9_sheet : MethodName := ⟨RX9, "sheet", "(III)I"⟩
abbrev cX9_put : ByteArray := prog_1_method_31_code
def yX9_put : MethodName := ⟨RX9, "put", "(III)I"⟩
abbrev cX9_move : ByteArray := prog_1_method_32_code
def yX9_move : MethodName := ⟨RX9, "move", "(IIIII)I"⟩
abbrev cX9_pushes : ByteArray := prog_1_method_33_code
def yX9_pushes : MethodName := ⟨RX9, "pushes", "(I)I"⟩
abbrev cX9_judge : ByteArray := prog_1_method_34_code
def yX9_judge : MethodName := ⟨RX9, "judge", "(I)I"⟩
abbrev cX9_image : ByteArray := prog_1_method_35_code
def yX9_image : MethodName := ⟨RX9, "image", "()I"⟩
abbrev cX9_restore : ByteArray := prog_1_method_36_code
def yX9_restore : MethodName := ⟨RX9, "restore", "()I"⟩
abbrev cX9_tell : ByteArray := prog_1_method_37_code
def yX9_tell : MethodName := ⟨RX9, "tell", "(I)I"⟩
abbrev cX9_check : ByteArray := prog_1_method_38_code
def yX9_check : MethodName := ⟨RX9, "check", "()I"⟩
abbrev cX9_count : ByteArray := prog_1_method_39_code
def yX9_count : MethodName := ⟨RX9, "count", "(I)I"⟩
abbrev cX9_told : ByteArray := prog_1_method_40_code
def yX9_told : MethodName := ⟨RX9, "told", "(I)I"⟩
abbrev cX9_error : ByteArray := prog_1_method_41_code
def yX9_error : MethodName := ⟨RX9, "error", "(I)I"⟩
abbrev cX9_howManyRest : ByteArray := prog_1_method_42_code
def yX9_howManyRest : MethodName := ⟨RX9, "howManyRest", "()I"⟩
abbrev cX9_isGood : ByteArray := prog_1_method_43_code
def yX9_isGood : MethodName := ⟨RX9, "isGood", "(I)Z"⟩
abbrev cX9_isDoor : ByteArray := prog_1_method_44_code
def yX9_isDoor : MethodName := ⟨RX9, "isDoor", "(I)Z"⟩
abbrev cX9_isKm : ByteArray := prog_1_method_45_code
def yX9_isKm : MethodName := ⟨RX9, "isKm", "(I)Z"⟩
abbrev cX9_isFloor : ByteArray := prog_1_method_46_code
def yX9_isFloor : MethodName := ⟨RX9, "isFloor", "(I)Z"⟩
abbrev cX9_isMiddle : ByteArray := prog_1_method_47_code
def yX9_isMiddle : MethodName := ⟨RX9, "isMiddle", "(I)Z"⟩
abbrev cX9_isPush : ByteArray := prog_1_method_48_code
def yX9_isPush : MethodName := ⟨RX9, "isPush", "(I)Z"⟩
abbrev cX9_isSide : ByteArray := prog_1_method_49_code
def yX9_isSide : MethodName := ⟨RX9, "isSide", "(I)Z"⟩
abbrev cX9_isUse : ByteArray := prog_1_method_50_code
def yX9_isUse : MethodName := ⟨RX9, "isUse", "(I)Z"⟩
abbrev cX9_isSheet : ByteArray := prog_1_method_51_code
def yX9_isSheet : MethodName := ⟨RX9, "isSheet", "(I)Z"⟩
abbrev cX9_isUnder : ByteArray := prog_1_method_52_code
def yX9_isUnder : MethodName := ⟨RX9, "isUnder", "(II)Z"⟩
abbrev cX9_pushBySize : ByteArray := prog_1_method_53_code
def yX9_pushBySize : MethodName := ⟨RX9, "pushBySize", "(I)I"⟩
abbrev cX9_within : ByteArray := prog_1_method_54_code
def yX9_within : MethodName := ⟨RX9, "within", "(III)Z"⟩
abbrev cX9_held : ByteArray := prog_1_method_55_code
def yX9_held : MethodName := ⟨RX9, "held", "(III)I"⟩
def RX10 : String := "NeckWorldsModel"
def TX10 : u_T := fun k => match k with
  | 0 => ("NeckWorldsModel", "s", "[I", true)
  | 1 => ("NeckWorldsModel", "kept", "[I", true)
  | 2 => ("NeckWorldsModel", "isKept", "Z", false)
  | 3 => ("NeckWorldsModel", "images", "I", false)
  | 4 => ("NeckWorldsModel", "errors", "[I", true)
  | 5 => ("NeckWorldsModel", "at", "I", false)
  | 6 => ("NeckWorldsModel", "open", "I", false)
  | 7 => ("NeckWorldsModel", "use", "I", false)
  | 8 => ("NeckWorldsModel", "steps", "I", false)
  | 9 => ("NeckWorldsModel", "code", "[I", true)
  | 10 => ("NeckWorldsModel", "stack", "[I", true)
  | 11 => ("NeckWorldsModel", "names", "[I", true)
  | 12 => ("NeckWorldsModel", "nextFloor", "I", false)
  | 13 => ("NeckWorldsModel", "nextSpeed", "I", false)
  | 14 => ("NeckWorldsModel", "before", "[I", true)
  | 15 => ("NeckWorldsModel", "restFloor", "I", false)
  | 16 => ("NeckWorldsModel", "mates", "[I", true)
  | 17 => ("NeckWorldsModel", "bestMates", "[I", true)
  | 18 => ("NeckWorldsModel", "mostPairs", "I", false)
  | 19 => ("NeckWorldsModel", "leastSum", "I", false)
  | 20 => ("NeckWorldsModel", "bits", "[I", true)
  | 21 => ("NeckWorldsModel", "sizes", "[I", true)
  | 22 => ("NeckWorldsModel", "items", "[I", true)
  | 23 => ("NeckWorldsModel", "trace", "[I", true)
  | 24 => ("NeckWorldsModel", "traced", "I", false)
  | 25 => ("NeckWorldsModel", "number", "I", false)
  | 26 => ("NeckWorldsModel", "kind", "I", false)
  | 27 => ("NeckWorldsModel", "m", "I", false)
  | _ => ("NeckWorldsModel", "moved", "[I", true)
def tyX10 : Nat → FieldType := fun k => match k with
  | 0 => .array .int
  | 1 => .array .int
  | 2 => .boolean
  | 3 => .int
  | 4 => .array .int
  | 5 => .int
  | 6 => .int
  | 7 => .int
  | 8 => .int
  | 9 => .array .int
  | 10 => .array .int
  | 11 => .array .int
  | 12 => .int
  | 13 => .int
  | 14 => .array .int
  | 15 => .int
  | 16 => .array .int
  | 17 => .array .int
  | 18 => .int
  | 19 => .int
  | 20 => .array .int
  | 21 => .array .int
  | 22 => .array .int
  | 23 => .array .int
  | 24 => .int
  | 25 => .int
  | 26 => .int
  | 27 => .int
  | _ => .array .int
abbrev wsX100 : List Cond := u_ws RX10 TX10 29
theorem nmX10 : ∀ a, a < 29 → ∀ b, b < 29 → a ≠ b → (TX10 a).2.1 ≠ (TX10 b).2.1 := by decide +kernel
theorem tyX10_ok : ∀ k, k < 29 → parseFieldDescriptor (TX10 k).2.2.1 = some (tyX10 k) := by decide +kernel
abbrev cX10_init : ByteArray := prog_12_method_1_code
def yX10_init : MethodName := ⟨RX10, "<init>", "()V"⟩
abbrev cX10_error : ByteArray := prog_12_method_2_code
def yX10_error : MethodName := ⟨RX10, "error", "(I)I"⟩
abbrev cX10_isIn : ByteArray := prog_12_method_3_code
def yX10_isIn : MethodName := ⟨RX10, "isIn", "(JJJ)Z"⟩
abbrev cX10_within : ByteArray := prog_12_method_4_code
def yX10_within : MethodName := ⟨RX10, "within", "(III)I"⟩
abbrev cX10_size : ByteArray := prog_12_method_5_code
def yX10_size : MethodName := ⟨RX10, "size", "(I)I"⟩
abbrev cX10_isGood : ByteArray := prog_12_method_6_code
def yX10_isGood : MethodName := ⟨RX10, "isGood", "(I)Z"⟩
abbrev cX10_isSide : ByteArray := prog_12_method_7_code
def yX10_isSide : MethodName := ⟨RX10, "isSide", "(I)Z"⟩
abbrev cX10_isPush : ByteArray := prog_12_method_8_code
def yX10_isPush : MethodName := ⟨RX10, "isPush", "(I)Z"⟩
abbrev cX10_of : ByteArray := prog_12_method_9_code
def yX10_of : MethodName := ⟨RX10, "of", "(II)I"⟩
abbrev cX10_sets : ByteArray := prog_12_method_10_code
def yX10_sets : MethodName := ⟨RX10, "sets", "(III)V"⟩
abbrev cX10_isUnder : ByteArray := prog_12_method_11_code
def yX10_isUnder : MethodName := ⟨RX10, "isUnder", "(II)Z"⟩
abbrev cX10_load : ByteArray := prog_12_method_12_code
def yX10_load : MethodName := ⟨RX10, "load", "(II)I"⟩
abbrev cX10_pulled : ByteArray := prog_12_method_13_code
def yX10_pulled : MethodName := ⟨RX10, "pulled", "(II)I"⟩
abbrev cX10_drag : ByteArray := prog_12_method_14_code
def yX10_drag : MethodName := ⟨RX10, "drag", "(II)I"⟩
abbrev cX10_reach : ByteArray := prog_12_method_15_code
def yX10_reach : MethodName := ⟨RX10, "reach", "(II)I"⟩
abbrev cX10_loadOf : ByteArray := prog_12_method_16_code
def yX10_loadOf : MethodName := ⟨RX10, "loadOf", "(I)I"⟩
abbrev cX10_pulledNow : ByteArray := prog_12_method_17_code
def yX10_pulledNow : MethodName := ⟨RX10, "pulledNow", "(I)I"⟩
abbrev cX10_good : ByteArray := prog_12_method_18_code
def yX10_good : MethodName := ⟨RX10, "good", "(II)I"⟩
abbrev cX10_ofGood : ByteArray := prog_12_method_19_code
def yX10_ofGood : MethodName := ⟨RX10, "ofGood", "(II)I"⟩
abbrev cX10_become : ByteArray := prog_12_method_20_code
def yX10_become : MethodName := ⟨RX10, "become", "(II)I"⟩
abbrev cX10_as : ByteArray := prog_12_method_21_code
def yX10_as : MethodName := ⟨RX10, "as", "(II)I"⟩
abbrev cX10_place : ByteArray := prog_12_method_22_code
def yX10_place : MethodName := ⟨RX10, "place", "(II)I"⟩
abbrev cX10_pushed : ByteArray := prog_12_method_23_code
def yX10_pushed : MethodName := ⟨RX10, "pushed", "(II)I"⟩
abbrev cX10_push : ByteArray := prog_12_method_24_code
def yX10_push : MethodName := ⟨RX10, "push", "(II)I"⟩
abbrev cX10_off : ByteArray := prog_12_method_25_code
def yX10_off : MethodName := ⟨RX10, "off", "(III)I"⟩
abbrev cX10_set : ByteArray := prog_12_method_26_code
def yX10_set : MethodName := ⟨RX10, "set", "(II)I"⟩
abbrev cX10_stands : ByteArray := prog_12_method_27_code
def yX10_stands : MethodName := ⟨RX10, "stands", "(III)I"⟩
abbrev cX10_isDoor : ByteArray := prog_12_method_28_code
def yX10_isDoor : MethodName := ⟨RX10, "isDoor", "(I)Z"⟩
abbrev cX10_door : ByteArray := prog_12_method_29_code
def yX10_door : MethodName := ⟨RX10, "door", "(II)I"⟩
abbrev cX10_lineUp : ByteArray := prog_12_method_30_code
def yX10_lineUp : MethodName := ⟨RX10, "lineUp", "(II)I"⟩
abbrev cX10_feed : ByteArray := prog_12_method_31_code
def yX10_feed : MethodName := ⟨RX10, "feed", "(JI)I"⟩
abbrev cX10_here : ByteArray := prog_12_method_32_code
def yX10_here : MethodName := ⟨RX10, "here", "()I"⟩
abbrev cX10_takes : ByteArray := prog_12_method_33_code
def yX10_takes : MethodName := ⟨RX10, "takes", "(I)Z"⟩
abbrev cX10_isDigit : ByteArray := prog_12_method_34_code
def yX10_isDigit : MethodName := ⟨RX10, "isDigit", "()Z"⟩
abbrev cX10_lays : ByteArray := prog_12_method_35_code
def yX10_lays : MethodName := ⟨RX10, "lays", "(II)V"⟩
abbrev cX10_nameHere : ByteArray := prog_12_method_36_code
def yX10_nameHere : MethodName := ⟨RX10, "nameHere", "()I"⟩
abbrev cX10_readsNumber : ByteArray := prog_12_method_37_code
def yX10_readsNumber : MethodName := ⟨RX10, "readsNumber", "()Z"⟩
abbrev cX10_readsQ : ByteArray := prog_12_method_38_code
def yX10_readsQ : MethodName := ⟨RX10, "readsQ", "()Z"⟩
abbrev cX10_reads : ByteArray := prog_12_method_39_code
def yX10_reads : MethodName := ⟨RX10, "reads", "(I)Z"⟩
abbrev cX10_isSign : ByteArray := prog_12_method_40_code
def yX10_isSign : MethodName := ⟨RX10, "isSign", "(I)Z"⟩
abbrev cX10_readsT : ByteArray := prog_12_method_41_code
def yX10_readsT : MethodName := ⟨RX10, "readsT", "()Z"⟩
abbrev cX10_text : ByteArray := prog_12_method_42_code
def yX10_text : MethodName := ⟨RX10, "text", "(I)I"⟩
abbrev cX10_worked : ByteArray := prog_12_method_43_code
def yX10_worked : MethodName := ⟨RX10, "worked", "(III)I"⟩
abbrev cX10_worksOut : ByteArray := prog_12_method_44_code
def yX10_worksOut : MethodName := ⟨RX10, "worksOut", "(I)I"⟩
abbrev cX10_gives : ByteArray := prog_12_method_45_code
def yX10_gives : MethodName := ⟨RX10, "gives", "(IIII)I"⟩
abbrev cX10_law : ByteArray := prog_12_method_46_code
def yX10_law : MethodName := ⟨RX10, "law", "(IIII)I"⟩
abbrev cX10_looksAhead : ByteArray := prog_12_method_47_code
def yX10_looksAhead : MethodName := ⟨RX10, "looksAhead", "(I)V"⟩
abbrev cX10_isAtRest : ByteArray := prog_12_method_48_code
def yX10_isAtRest : MethodName := ⟨RX10, "isAtRest", "(I)Z"⟩
abbrev cX10_goes : ByteArray := prog_12_method_49_code
def yX10_goes : MethodName := ⟨RX10, "goes", "(I)V"⟩
abbrev cX10_step : ByteArray := prog_12_method_50_code
def yX10_step : MethodName := ⟨RX10, "step", "()V"⟩
abbrev cX10_resting : ByteArray := prog_12_method_51_code
def yX10_resting : MethodName := ⟨RX10, "resting", "()I"⟩
abbrev cX10_draw : ByteArray := prog_12_method_52_code
def yX10_draw : MethodName := ⟨RX10, "draw", "()I"⟩
abbrev cX10_goOn : ByteArray := prog_12_method_53_code
def yX10_goOn : MethodName := ⟨RX10, "goOn", "(IZ)I"⟩
abbrev cX10_steps : ByteArray := prog_12_method_54_code
def yX10_steps : MethodName := ⟨RX10, "steps", "(I)I"⟩
abbrev cX10_loose : ByteArray := prog_12_method_55_code
def yX10_loose : MethodName := ⟨RX10, "loose", "(I)I"⟩
abbrev cX10_saves : ByteArray := prog_12_method_56_code
def yX10_saves : MethodName := ⟨RX10, "saves", "()V"⟩
abbrev cX10_putsBack : ByteArray := prog_12_method_57_code
def yX10_putsBack : MethodName := ⟨RX10, "putsBack", "()V"⟩
abbrev cX10_then : ByteArray := prog_12_method_58_code
def yX10_then : MethodName := ⟨RX10, "then", "(III)I"⟩
abbrev cX10_restOf : ByteArray := prog_12_method_59_code
def yX10_restOf : MethodName := ⟨RX10, "restOf", "(I)I"⟩
abbrev cX10_rests : ByteArray := prog_12_method_60_code
def yX10_rests : MethodName := ⟨RX10, "rests", "(II)I"⟩
abbrev cX10_first : ByteArray := prog_12_method_61_code
def yX10_first : MethodName := ⟨RX10, "first", "()I"⟩
abbrev cX10_overBy : ByteArray := prog_12_method_62_code
def yX10_overBy : MethodName := ⟨RX10, "overBy", "(III)I"⟩
abbrev cX10_over : ByteArray := prog_12_method_63_code
def yX10_over : MethodName := ⟨RX10, "over", "(III)I"⟩
abbrev cX10_pushOf : ByteArray := prog_12_method_64_code
def yX10_pushOf : MethodName := ⟨RX10, "pushOf", "(I)I"⟩
abbrev cX10_soonest : ByteArray := prog_12_method_65_code
def yX10_soonest : MethodName := ⟨RX10, "soonest", "(III)I"⟩
abbrev cX10_least : ByteArray := prog_12_method_66_code
def yX10_least : MethodName := ⟨RX10, "least", "(II)I"⟩
abbrev cX10_pairs : ByteArray := prog_12_method_67_code
def yX10_pairs : MethodName := ⟨RX10, "pairs", "(IIII)V"⟩
abbrev cX10_mateOf : ByteArray := prog_12_method_68_code
def yX10_mateOf : MethodName := ⟨RX10, "mateOf", "(I)I"⟩
abbrev cX10_lifts : ByteArray := prog_12_method_69_code
def yX10_lifts : MethodName := ⟨RX10, "lifts", "(I)I"⟩
abbrev cX10_isSheet : ByteArray := prog_12_method_70_code
def yX10_isSheet : MethodName := ⟨RX10, "isSheet", "(I)Z"⟩
abbrev cX10_goesSo : ByteArray := prog_12_method_71_code
def yX10_goesSo : MethodName := ⟨RX10, "goesSo", "(II)Z"⟩
abbrev cX10_rolled : ByteArray := prog_12_method_72_code
def yX10_rolled : MethodName := ⟨RX10, "rolled", "(III)I"⟩
abbrev cX10_whose : ByteArray := prog_12_method_73_code
def yX10_whose : MethodName := ⟨RX10, "whose", "(II)I"⟩
abbrev cX10_manyOver : ByteArray := prog_12_method_74_code
def yX10_manyOver : MethodName := ⟨RX10, "manyOver", "(IIII)I"⟩
abbrev cX10_odds : ByteArray := prog_12_method_75_code
def yX10_odds : MethodName := ⟨RX10, "odds", "(IIII)I"⟩
abbrev cX10_seed : ByteArray := prog_12_method_76_code
def yX10_seed : MethodName := ⟨RX10, "seed", "(I)I"⟩
abbrev cX10_begins : ByteArray := prog_12_method_77_code
def yX10_begins : MethodName := ⟨RX10, "begins", "(I)V"⟩
abbrev cX10_above : ByteArray := prog_12_method_78_code
def yX10_above : MethodName := ⟨RX10, "above", "(I)I"⟩
abbrev cX10_floats : ByteArray := prog_12_method_79_code
def yX10_floats : MethodName := ⟨RX10, "floats", "(II)I"⟩
abbrev cX10_falls : ByteArray := prog_12_method_80_code
def yX10_falls : MethodName := ⟨RX10, "falls", "(II)I"⟩
abbrev cX10_hangs : ByteArray := prog_12_method_81_code
def yX10_hangs : MethodName := ⟨RX10, "hangs", "(II)I"⟩
abbrev cX10_tells : ByteArray := prog_12_method_82_code
def yX10_tells : MethodName := ⟨RX10, "tells", "(II)I"⟩
abbrev cX10_voice : ByteArray := prog_12_method_83_code
def yX10_voice : MethodName := ⟨RX10, "voice", "(III)I"⟩
abbrev cX10_trace : ByteArray := prog_12_method_84_code
def yX10_trace : MethodName := ⟨RX10, "trace", "(I)I"⟩
abbrev cX10_sheet : ByteArray := prog_12_method_85_code
def yX10_sheet : MethodName := ⟨RX10, "sheet", "(III)I"⟩
abbrev cX10_noSheet : ByteArray := prog_12_method_86_code
def yX10_noSheet : MethodName := ⟨RX10, "noSheet", "(I)I"⟩
abbrev cX10_put : ByteArray := prog_12_method_87_code
def yX10_put : MethodName := ⟨RX10, "put", "(III)I"⟩
abbrev cX10_move : ByteArray := prog_12_method_88_code
def yX10_move : MethodName := ⟨RX10, "move", "(IIIII)I"⟩
abbrev cX10_pushes : ByteArray := prog_12_method_89_code
def yX10_pushes : MethodName := ⟨RX10, "pushes", "(I)I"⟩
abbrev cX10_judge : ByteArray := prog_12_method_90_code
def yX10_judge : MethodName := ⟨RX10, "judge", "(I)I"⟩
abbrev cX10_over_ : ByteArray := prog_12_method_91_code
def yX10_over_ : MethodName := ⟨RX10, "over", "([I[I)V"⟩
abbrev cX10_image : ByteArray := prog_12_method_92_code
def yX10_image : MethodName := ⟨RX10, "image", "()I"⟩
abbrev cX10_restore : ByteArray := prog_12_method_93_code
def yX10_restore : MethodName := ⟨RX10, "restore", "()I"⟩
abbrev cX10_tell : ByteArray := prog_12_method_94_code
def yX10_tell : MethodName := ⟨RX10, "tell", "(I)I"⟩
abbrev cX10_floors : ByteArray := prog_12_method_95_code
def yX10_floors : MethodName := ⟨RX10, "floors", "()I"⟩
abbrev cX10_check : ByteArray := prog_12_method_96_code
def yX10_check : MethodName := ⟨RX10, "check", "()I"⟩
abbrev cX10_between : ByteArray := prog_12_method_97_code
def yX10_between : MethodName := ⟨RX10, "between", "(II)I"⟩
abbrev cX10_count : ByteArray := prog_12_method_98_code
def yX10_count : MethodName := ⟨RX10, "count", "(I)I"⟩
abbrev cX10_told : ByteArray := prog_12_method_99_code
def yX10_told : MethodName := ⟨RX10, "told", "(I)I"⟩
def RJx145de : String := "java/io/Serializable"
def TJx145de : u_T := fun k => match k with
  | _ => ("", "", "", false)
def tyJx145de : Nat → FieldType := fun k => match k with
  | _ => .int
abbrev wsJx145de0 : List Cond := u_ws RJx145de TJx145de 0
def RJx9f9b0 : String := "java/lang/CharSequence"
def TJx9f9b0 : u_T := fun k => match k with
  | _ => ("", "", "", false)
def tyJx9f9b0 : Nat → FieldType := fun k => match k with
  | _ => .int
abbrev wsJx9f9b00 : List Cond := u_ws RJx9f9b0 TJx9f9b0 0
def RJ11 : String := "java/lang/Character"
def TJ11 : u_T := fun k => match k with
  | _ => ("", "", "", false)
def tyJ11 : Nat → FieldType := fun k => match k with
  | _ => .int
abbrev wsJ110 : List Cond := u_ws RJ11 TJ11 0
abbrev cJ11_isValidCodePoint_9a6ad : ByteArray := prog_13_method_11_code
def yJ11_isValidCodePoint_9a6ad : MethodName := ⟨RJ11, "isValidCodePoint", "(I)Z"⟩
abbrev cJ11_highSurrogate_5068e : ByteArray := prog_13_method_28_code
def yJ11_highSurrogate_5068e : MethodName := ⟨RJ11, "highSurrogate", "(I)C"⟩
abbrev cJ11_lowSurrogate_5068e : ByteArray := prog_13_method_29_code
def yJ11_lowSurrogate_5068e : MethodName := ⟨RJ11, "lowSurrogate", "(I)C"⟩
def RJxb160c : String := "java/lang/Comparable"
def TJxb160c : u_T := fun k => match k with
  | _ => ("", "", "", false)
def tyJxb160c : Nat → FieldType := fun k => match k with
  | _ => .int
abbrev wsJxb160c0 : List Cond := u_ws RJxb160c TJxb160c 0
def RJ6 : String := "java/lang/Integer"
def TJ6 : u_T := fun k => match k with
  | _ => ("", "", "", false)
def tyJ6 : Nat → FieldType := fun k => match k with
  | _ => .int
abbrev wsJ60 : List Cond := u_ws RJ6 TJ6 0
abbrev cJ6_bitCount_0f7a4 : ByteArray := prog_14_method_49_code
def yJ6_bitCount_0f7a4 : MethodName := ⟨RJ6, "bitCount", "(I)I"⟩
def RJ9 : String := "java/lang/Math"
def TJ9 : u_T := fun k => match k with
  | _ => ("", "", "", false)
def tyJ9 : Nat → FieldType := fun k => match k with
  | _ => .int
abbrev wsJ90 : List Cond := u_ws RJ9 TJ9 0
abbrev cJ9_floorMod_7cf53 : ByteArray := prog_15_method_50_code
def yJ9_floorMod_7cf53 : MethodName := ⟨RJ9, "floorMod", "(II)I"⟩
abbrev cJ9_abs_0f7a4 : ByteArray := prog_15_method_59_code
def yJ9_abs_0f7a4 : MethodName := ⟨RJ9, "abs", "(I)I"⟩
abbrev cJ9_max_7cf53 : ByteArray := prog_15_method_65_code
def yJ9_max_7cf53 : MethodName := ⟨RJ9, "max", "(II)I"⟩
abbrev cJ9_min_7cf53 : ByteArray := prog_15_method_69_code
def yJ9_min_7cf53 : MethodName := ⟨RJ9, "min", "(II)I"⟩
def RJ0 : String := "java/lang/String"
def TJ0 : u_T := fun k => match k with
  | _ => ("", "", "", false)
def tyJ0 : Nat → FieldType := fun k => match k with
  | _ => .int
abbrev wsJ00 : List Cond := u_ws RJ0 TJ0 0
theorem nmJ0 : ∀ a, a < 0 → ∀ b, b < 0 → a ≠ b → (TJ0 a).2.1 ≠ (TJ0 b).2.1 := by decide +kernel
theorem tyJ0_ok : ∀ k, k < 0 → parseFieldDescriptor (TJ0 k).2.2.1 = some (tyJ0 k) := by decide +kernel
abbrev cJ0_length_8abf5 : ByteArray := prog_16_method_54_code
def yJ0_length_8abf5 : MethodName := ⟨RJ0, "length", "()I"⟩
abbrev cJ0_indexOf_0f7a4 : ByteArray := prog_16_method_79_code
def yJ0_indexOf_0f7a4 : MethodName := ⟨RJ0, "indexOf", "(I)I"⟩
abbrev cJ0_indexOf_7cf53 : ByteArray := prog_16_method_80_code
def yJ0_indexOf_7cf53 : MethodName := ⟨RJ0, "indexOf", "(II)I"⟩
abbrev cJ0_coder_7d493 : ByteArray := prog_16_method_152_code
def yJ0_coder_7d493 : MethodName := ⟨RJ0, "coder", "()B"⟩
abbrev cJ0_isLatin1_aae02 : ByteArray := prog_16_method_154_code
def yJ0_isLatin1_aae02 : MethodName := ⟨RJ0, "isLatin1", "()Z"⟩
abbrev cJ0_checkBoundsBeginEnd_23922 : ByteArray := prog_16_method_158_code
def yJ0_checkBoundsBeginEnd_23922 : MethodName := ⟨RJ0, "checkBoundsBeginEnd", "(III)V"⟩
def RJ1 : String := "java/lang/StringLatin1"
def TJ1 : u_T := fun k => match k with
  | _ => ("", "", "", false)
def tyJ1 : Nat → FieldType := fun k => match k with
  | _ => .int
abbrev wsJ10 : List Cond := u_ws RJ1 TJ1 0
abbrev cJ1_canEncode_9a6ad : ByteArray := prog_17_method_4_code
def yJ1_canEncode_9a6ad : MethodName := ⟨RJ1, "canEncode", "(I)Z"⟩
abbrev cJ1_indexOf_4cfef : ByteArray := prog_17_method_22_code
def yJ1_indexOf_4cfef : MethodName := ⟨RJ1, "indexOf", "([BIII)I"⟩
abbrev cJ1_indexOfChar_4cfef : ByteArray := prog_17_method_23_code
def yJ1_indexOfChar_4cfef : MethodName := ⟨RJ1, "indexOfChar", "([BIII)I"⟩
def RJ2 : String := "java/lang/StringUTF16"
def TJ2 : u_T := fun k => match k with
  | _ => ("", "", "", false)
def tyJ2 : Nat → FieldType := fun k => match k with
  | _ => .int
abbrev wsJ20 : List Cond := u_ws RJ2 TJ2 0
abbrev cJ2_getChar_3b067 : ByteArray := prog_18_method_5_code
def yJ2_getChar_3b067 : MethodName := ⟨RJ2, "getChar", "([BI)C"⟩
abbrev cJ2_length_9d52b : ByteArray := prog_18_method_6_code
def yJ2_length_9d52b : MethodName := ⟨RJ2, "length", "([B)I"⟩
abbrev cJ2_indexOf_4cfef : ByteArray := prog_18_method_40_code
def yJ2_indexOf_4cfef : MethodName := ⟨RJ2, "indexOf", "([BIII)I"⟩
abbrev cJ2_indexOfChar_4cfef : ByteArray := prog_18_method_47_code
def yJ2_indexOfChar_4cfef : MethodName := ⟨RJ2, "indexOfChar", "([BIII)I"⟩
abbrev cJ2_indexOfCharUnsafe_4cfef : ByteArray := prog_18_method_48_code
def yJ2_indexOfCharUnsafe_4cfef : MethodName := ⟨RJ2, "indexOfCharUnsafe", "([BIII)I"⟩
abbrev cJ2_indexOfSupplementary_4cfef : ByteArray := prog_18_method_49_code
def yJ2_indexOfSupplementary_4cfef : MethodName := ⟨RJ2, "indexOfSupplementary", "([BIII)I"⟩
abbrev cJ2_checkBoundsBeginEnd_d044e : ByteArray := prog_18_method_93_code
def yJ2_checkBoundsBeginEnd_d044e : MethodName := ⟨RJ2, "checkBoundsBeginEnd", "(II[B)V"⟩
def RJ10 : String := "java/lang/System"
def TJ10 : u_T := fun k => match k with
  | _ => ("", "", "", false)
def tyJ10 : Nat → FieldType := fun k => match k with
  | _ => .int
abbrev wsJ100 : List Cond := u_ws RJ10 TJ10 0
def RJxfd54e : String := "java/lang/constant/Constable"
def TJxfd54e : u_T := fun k => match k with
  | _ => ("", "", "", false)
def tyJxfd54e : Nat → FieldType := fun k => match k with
  | _ => .int
abbrev wsJxfd54e0 : List Cond := u_ws RJxfd54e TJxfd54e 0
def RJx3cf43 : String := "java/lang/constant/ConstantDesc"
def TJx3cf43 : u_T := fun k => match k with
  | _ => ("", "", "", false)
def tyJx3cf43 : Nat → FieldType := fun k => match k with
  | _ => .int
abbrev wsJx3cf430 : List Cond := u_ws RJx3cf43 TJx3cf43 0
def RJ7 : String := "java/util/Arrays"
def TJ7 : u_T := fun k => match k with
  | _ => ("", "", "", false)
def tyJ7 : Nat → FieldType := fun k => match k with
  | _ => .int
abbrev wsJ70 : List Cond := u_ws RJ7 TJ7 0
abbrev cJ7_fill_53178 : ByteArray := prog_20_method_103_code
def yJ7_fill_53178 : MethodName := ⟨RJ7, "fill", "([II)V"⟩
abbrev cJ7_fill_031fb : ByteArray := prog_20_method_109_code
def yJ7_fill_031fb : MethodName := ⟨RJ7, "fill", "([BB)V"⟩
def RJ3 : String := "jdk/internal/util/Preconditions"
def TJ3 : u_T := fun k => match k with
  | _ => ("", "", "", false)
def tyJ3 : Nat → FieldType := fun k => match k with
  | _ => .int
abbrev wsJ30 : List Cond := u_ws RJ3 TJ3 0
abbrev cJ3_checkFromToIndex_8c36e : ByteArray := prog_21_method_12_code
def yJ3_checkFromToIndex_8c36e : MethodName := ⟨RJ3, "checkFromToIndex", "(IIILjava/util/function/BiFunction;)I"⟩
def RL : String := "NeckWorldsLaw"
abbrev cL_law : ByteArray := code
def yL_law : MethodName := ⟨RL, "law", "([I)Z"⟩
theorem inX0 : ∀ w ∈ wsX00, w ∈ lw_tbl := by decide +kernel
theorem inX1 : ∀ w ∈ wsX10, w ∈ lw_tbl := by decide +kernel
theorem inX2 : ∀ w ∈ wsX20, w ∈ lw_tbl := by decide +kernel
theorem inX3 : ∀ w ∈ wsX30, w ∈ lw_tbl := by decide +kernel
theorem inX4 : ∀ w ∈ wsX40, w ∈ lw_tbl := by decide +kernel
theorem inX5 : ∀ w ∈ wsX50, w ∈ lw_tbl := by decide +kernel
theorem inX6 : ∀ w ∈ wsX60, w ∈ lw_tbl := by decide +kernel
theorem inX7 : ∀ w ∈ wsX70, w ∈ lw_tbl := by decide +kernel
theorem inX8 : ∀ w ∈ wsX80, w ∈ lw_tbl := by decide +kernel
theorem inX9 : ∀ w ∈ wsX90, w ∈ lw_tbl := by decide +kernel
theorem inX10 : ∀ w ∈ wsX100, w ∈ lw_tbl := by decide +kernel
abbrev vwCl : List vw_C := [(RX0, TX0, 4), (RX1, TX1, 5), (RX2, TX2, 4), (RX3, TX3, 9), (RX4, TX4, 6), (RX5, TX5, 10), (RX6, TX6, 3), (RX7, TX7, 2), (RX8, TX8, 5), (RX9, TX9, 12), (RX10, TX10, 29)]
