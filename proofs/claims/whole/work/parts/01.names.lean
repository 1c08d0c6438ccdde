-- ===== PART A: goes FIRST, ahead of the names: the tables' words, and 'selects' of the private methods out of them =====
/-- a private method of a class that the tables say can be made, by its rows of tables_1 -/
def lw_okq (q : MethodName × Nat) : Prop := (q.1.cls ≠ "java/lang/invoke/MethodHandle" ∧ q.1.cls ≠ "java/lang/invoke/VarHandle") ∧ Cond.instantiable q.1.cls q.2 ∈ tables_1 ∧ Cond.privateMethod q.1 ∈ tables_1 ∧ Cond.instanceMethod q.1 ∈ tables_1
theorem lw_p0 : lw_okq (⟨"LaneMachine$Reader", "readLine", "()Z"⟩, 11) := ⟨⟨by decide +kernel, by decide +kernel⟩, List.mem_of_getElem? (i := 47) (by decide +kernel), List.mem_of_getElem? (i := 435) (by decide +kernel), List.mem_of_getElem? (i := 436) (by decide +kernel)⟩
theorem lw_p1 : lw_okq (⟨"LaneMachine$Reader", "advance", "()V"⟩, 11) := ⟨⟨by decide +kernel, by decide +kernel⟩, List.mem_of_getElem? (i := 47) (by decide +kernel), List.mem_of_getElem? (i := 439) (by decide +kernel), List.mem_of_getElem? (i := 440) (by decide +kernel)⟩
theorem lw_p2 : lw_okq (⟨"LaneMachine$Reader", "byteAt", "(I)I"⟩, 11) := ⟨⟨by decide +kernel, by decide +kernel⟩, List.mem_of_getElem? (i := 47) (by decide +kernel), List.mem_of_getElem? (i := 443) (by decide +kernel), List.mem_of_getElem? (i := 444) (by decide +kernel)⟩
theorem lw_p3 : lw_okq (⟨"LaneMachine$Reader", "skipLine", "()V"⟩, 11) := ⟨⟨by decide +kernel, by decide +kernel⟩, List.mem_of_getElem? (i := 47) (by decide +kernel), List.mem_of_getElem? (i := 456) (by decide +kernel), List.mem_of_getElem? (i := 457) (by decide +kernel)⟩
theorem lw_p4 : lw_okq (⟨"LaneMachine$Reader", "isColonNext", "()Z"⟩, 11) := ⟨⟨by decide +kernel, by decide +kernel⟩, List.mem_of_getElem? (i := 47) (by decide +kernel), List.mem_of_getElem? (i := 460) (by decide +kernel), List.mem_of_getElem? (i := 461) (by decide +kernel)⟩
theorem lw_p5 : lw_okq (⟨"LaneMachine$Reader", "addLabel", "()Z"⟩, 11) := ⟨⟨by decide +kernel, by decide +kernel⟩, List.mem_of_getElem? (i := 47) (by decide +kernel), List.mem_of_getElem? (i := 464) (by decide +kernel), List.mem_of_getElem? (i := 465) (by decide +kernel)⟩
theorem lw_p6 : lw_okq (⟨"LaneMachine$Reader", "labelLike", "(I)I"⟩, 11) := ⟨⟨by decide +kernel, by decide +kernel⟩, List.mem_of_getElem? (i := 47) (by decide +kernel), List.mem_of_getElem? (i := 468) (by decide +kernel), List.mem_of_getElem? (i := 469) (by decide +kernel)⟩
theorem lw_p7 : lw_okq (⟨"LaneMachine$Reader", "isSameWord", "(II)Z"⟩, 11) := ⟨⟨by decide +kernel, by decide +kernel⟩, List.mem_of_getElem? (i := 47) (by decide +kernel), List.mem_of_getElem? (i := 472) (by decide +kernel), List.mem_of_getElem? (i := 473) (by decide +kernel)⟩
theorem lw_p8 : lw_okq (⟨"LaneMachine$Reader", "readInstruction", "()Z"⟩, 11) := ⟨⟨by decide +kernel, by decide +kernel⟩, List.mem_of_getElem? (i := 47) (by decide +kernel), List.mem_of_getElem? (i := 476) (by decide +kernel), List.mem_of_getElem? (i := 477) (by decide +kernel)⟩
theorem lw_p9 : lw_okq (⟨"LaneMachine$Reader", "numberOfWord", "()I"⟩, 11) := ⟨⟨by decide +kernel, by decide +kernel⟩, List.mem_of_getElem? (i := 47) (by decide +kernel), List.mem_of_getElem? (i := 480) (by decide +kernel), List.mem_of_getElem? (i := 481) (by decide +kernel)⟩
theorem lw_p10 : lw_okq (⟨"LaneMachine$Reader", "isToken", "(Ljava/lang/String;)Z"⟩, 11) := ⟨⟨by decide +kernel, by decide +kernel⟩, List.mem_of_getElem? (i := 47) (by decide +kernel), List.mem_of_getElem? (i := 486) (by decide +kernel), List.mem_of_getElem? (i := 487) (by decide +kernel)⟩
theorem lw_p11 : lw_okq (⟨"java/lang/Throwable", "fillInStackTrace", "(I)Ljava/lang/Throwable;"⟩, 6) := ⟨⟨by decide +kernel, by decide +kernel⟩, List.mem_of_getElem? (i := 587) (by decide +kernel), List.mem_of_getElem? (i := 585) (by decide +kernel), List.mem_of_getElem? (i := 586) (by decide +kernel)⟩
theorem lw_p12 : lw_okq (⟨"LaneMachine$Reader", "operand", "(C)J"⟩, 11) := ⟨⟨by decide +kernel, by decide +kernel⟩, List.mem_of_getElem? (i := 47) (by decide +kernel), List.mem_of_getElem? (i := 869) (by decide +kernel), List.mem_of_getElem? (i := 870) (by decide +kernel)⟩
theorem lw_p13 : lw_okq (⟨"LaneMachine$Reader", "numbered", "(CI)J"⟩, 11) := ⟨⟨by decide +kernel, by decide +kernel⟩, List.mem_of_getElem? (i := 47) (by decide +kernel), List.mem_of_getElem? (i := 873) (by decide +kernel), List.mem_of_getElem? (i := 874) (by decide +kernel)⟩
theorem lw_p14 : lw_okq (⟨"LaneMachine$Reader", "kind", "()J"⟩, 11) := ⟨⟨by decide +kernel, by decide +kernel⟩, List.mem_of_getElem? (i := 47) (by decide +kernel), List.mem_of_getElem? (i := 878) (by decide +kernel), List.mem_of_getElem? (i := 879) (by decide +kernel)⟩
theorem lw_p15 : lw_okq (⟨"LaneMachine$Reader", "number", "(JJ)J"⟩, 11) := ⟨⟨by decide +kernel, by decide +kernel⟩, List.mem_of_getElem? (i := 47) (by decide +kernel), List.mem_of_getElem? (i := 930) (by decide +kernel), List.mem_of_getElem? (i := 931) (by decide +kernel)⟩
def lw_privs_1 : List (MethodName × Nat) := [(⟨"LaneMachine$Reader", "readLine", "()Z"⟩, 11), (⟨"LaneMachine$Reader", "advance", "()V"⟩, 11), (⟨"LaneMachine$Reader", "byteAt", "(I)I"⟩, 11), (⟨"LaneMachine$Reader", "skipLine", "()V"⟩, 11), (⟨"LaneMachine$Reader", "isColonNext", "()Z"⟩, 11), (⟨"LaneMachine$Reader", "addLabel", "()Z"⟩, 11), (⟨"LaneMachine$Reader", "labelLike", "(I)I"⟩, 11), (⟨"LaneMachine$Reader", "isSameWord", "(II)Z"⟩, 11), (⟨"LaneMachine$Reader", "readInstruction", "()Z"⟩, 11), (⟨"LaneMachine$Reader", "numberOfWord", "()I"⟩, 11), (⟨"LaneMachine$Reader", "isToken", "(Ljava/lang/String;)Z"⟩, 11), (⟨"java/lang/Throwable", "fillInStackTrace", "(I)Ljava/lang/Throwable;"⟩, 6), (⟨"LaneMachine$Reader", "operand", "(C)J"⟩, 11), (⟨"LaneMachine$Reader", "numbered", "(CI)J"⟩, 11), (⟨"LaneMachine$Reader", "kind", "()J"⟩, 11), (⟨"LaneMachine$Reader", "number", "(JJ)J"⟩, 11)]
theorem lw_r1 : ∀ q ∈ lw_privs_1, lw_okq q := List.forall_mem_cons.mpr ⟨lw_p0, List.forall_mem_cons.mpr ⟨lw_p1, List.forall_mem_cons.mpr ⟨lw_p2, List.forall_mem_cons.mpr ⟨lw_p3, List.forall_mem_cons.mpr ⟨lw_p4, List.forall_mem_cons.mpr ⟨lw_p5, List.forall_mem_cons.mpr ⟨lw_p6, List.forall_mem_cons.mpr ⟨lw_p7, List.forall_mem_cons.mpr ⟨lw_p8, List.forall_mem_cons.mpr ⟨lw_p9, List.forall_mem_cons.mpr ⟨lw_p10, List.forall_mem_cons.mpr ⟨lw_p11, List.forall_mem_cons.mpr ⟨lw_p12, List.forall_mem_cons.mpr ⟨lw_p13, List.forall_mem_cons.mpr ⟨lw_p14, List.forall_mem_cons.mpr ⟨lw_p15, fun _ h => absurd h List.not_mem_nil⟩⟩⟩⟩⟩⟩⟩⟩⟩⟩⟩⟩⟩⟩⟩⟩
theorem lw_p16 : lw_okq (⟨"LaneMachine$Reader", "readMask", "(I)Z"⟩, 11) := ⟨⟨by decide +kernel, by decide +kernel⟩, List.mem_of_getElem? (i := 47) (by decide +kernel), List.mem_of_getElem? (i := 940) (by decide +kernel), List.mem_of_getElem? (i := 941) (by decide +kernel)⟩
theorem lw_p17 : lw_okq (⟨"LaneMachine$Reader", "setLeads", "()I"⟩, 11) := ⟨⟨by decide +kernel, by decide +kernel⟩, List.mem_of_getElem? (i := 47) (by decide +kernel), List.mem_of_getElem? (i := 944) (by decide +kernel), List.mem_of_getElem? (i := 945) (by decide +kernel)⟩
theorem lw_p18 : lw_okq (⟨"LaneMachine", "startAnew", "()V"⟩, 11) := ⟨⟨by decide +kernel, by decide +kernel⟩, List.mem_of_getElem? (i := 39) (by decide +kernel), List.mem_of_getElem? (i := 973) (by decide +kernel), List.mem_of_getElem? (i := 974) (by decide +kernel)⟩
theorem lw_p19 : lw_okq (⟨"LaneMachine$Flow", "clear", "()V"⟩, 4) := ⟨⟨by decide +kernel, by decide +kernel⟩, List.mem_of_getElem? (i := 362) (by decide +kernel), List.mem_of_getElem? (i := 1008) (by decide +kernel), List.mem_of_getElem? (i := 1009) (by decide +kernel)⟩
theorem lw_p20 : lw_okq (⟨"LaneMachine$Flow", "flowOn", "(LLaneMachine$Program;I)V"⟩, 4) := ⟨⟨by decide +kernel, by decide +kernel⟩, List.mem_of_getElem? (i := 362) (by decide +kernel), List.mem_of_getElem? (i := 1013) (by decide +kernel), List.mem_of_getElem? (i := 1014) (by decide +kernel)⟩
theorem lw_p21 : lw_okq (⟨"LaneMachine$Flow", "flowTo", "(LLaneMachine$Program;II)V"⟩, 4) := ⟨⟨by decide +kernel, by decide +kernel⟩, List.mem_of_getElem? (i := 362) (by decide +kernel), List.mem_of_getElem? (i := 1027) (by decide +kernel), List.mem_of_getElem? (i := 1028) (by decide +kernel)⟩
theorem lw_p22 : lw_okq (⟨"LaneMachine$Flow", "goodLengths", "(LLaneMachine$Program;II)I"⟩, 4) := ⟨⟨by decide +kernel, by decide +kernel⟩, List.mem_of_getElem? (i := 362) (by decide +kernel), List.mem_of_getElem? (i := 1051) (by decide +kernel), List.mem_of_getElem? (i := 1052) (by decide +kernel)⟩
theorem lw_p23 : lw_okq (⟨"LaneMachine$Flow", "lengthsOf", "(II)I"⟩, 4) := ⟨⟨by decide +kernel, by decide +kernel⟩, List.mem_of_getElem? (i := 362) (by decide +kernel), List.mem_of_getElem? (i := 1069) (by decide +kernel), List.mem_of_getElem? (i := 1070) (by decide +kernel)⟩
theorem lw_p24 : lw_okq (⟨"LaneMachine$Program", "needlessAt", "(I)I"⟩, 3) := ⟨⟨by decide +kernel, by decide +kernel⟩, List.mem_of_getElem? (i := 53) (by decide +kernel), List.mem_of_getElem? (i := 1096) (by decide +kernel), List.mem_of_getElem? (i := 1097) (by decide +kernel)⟩
theorem lw_p25 : lw_okq (⟨"LaneMachine$Program", "isLedTo", "(I)Z"⟩, 3) := ⟨⟨by decide +kernel, by decide +kernel⟩, List.mem_of_getElem? (i := 53) (by decide +kernel), List.mem_of_getElem? (i := 1103) (by decide +kernel), List.mem_of_getElem? (i := 1104) (by decide +kernel)⟩
theorem lw_p26 : lw_okq (⟨"LaneMachine$Program", "remove", "(II)V"⟩, 3) := ⟨⟨by decide +kernel, by decide +kernel⟩, List.mem_of_getElem? (i := 53) (by decide +kernel), List.mem_of_getElem? (i := 1109) (by decide +kernel), List.mem_of_getElem? (i := 1110) (by decide +kernel)⟩
theorem lw_p27 : lw_okq (⟨"LaneMachine", "isArray", "(I)Z"⟩, 11) := ⟨⟨by decide +kernel, by decide +kernel⟩, List.mem_of_getElem? (i := 39) (by decide +kernel), List.mem_of_getElem? (i := 1177) (by decide +kernel), List.mem_of_getElem? (i := 1178) (by decide +kernel)⟩
theorem lw_p28 : lw_okq (⟨"LaneMachine", "isStop", "(I)Z"⟩, 11) := ⟨⟨by decide +kernel, by decide +kernel⟩, List.mem_of_getElem? (i := 39) (by decide +kernel), List.mem_of_getElem? (i := 1264) (by decide +kernel), List.mem_of_getElem? (i := 1265) (by decide +kernel)⟩
theorem lw_p29 : lw_okq (⟨"LaneMachine", "isThere", "(I)Z"⟩, 11) := ⟨⟨by decide +kernel, by decide +kernel⟩, List.mem_of_getElem? (i := 39) (by decide +kernel), List.mem_of_getElem? (i := 1291) (by decide +kernel), List.mem_of_getElem? (i := 1292) (by decide +kernel)⟩
theorem lw_p30 : lw_okq (⟨"LaneMachine", "stateOf", "(I)LLaneMachine$State;"⟩, 11) := ⟨⟨by decide +kernel, by decide +kernel⟩, List.mem_of_getElem? (i := 39) (by decide +kernel), List.mem_of_getElem? (i := 1295) (by decide +kernel), List.mem_of_getElem? (i := 1296) (by decide +kernel)⟩
theorem lw_p31 : lw_okq (⟨"LaneMachine", "stopsSet", "()I"⟩, 11) := ⟨⟨by decide +kernel, by decide +kernel⟩, List.mem_of_getElem? (i := 39) (by decide +kernel), List.mem_of_getElem? (i := 1314) (by decide +kernel), List.mem_of_getElem? (i := 1315) (by decide +kernel)⟩
def lw_privs_2 : List (MethodName × Nat) := [(⟨"LaneMachine$Reader", "readMask", "(I)Z"⟩, 11), (⟨"LaneMachine$Reader", "setLeads", "()I"⟩, 11), (⟨"LaneMachine", "startAnew", "()V"⟩, 11), (⟨"LaneMachine$Flow", "clear", "()V"⟩, 4), (⟨"LaneMachine$Flow", "flowOn", "(LLaneMachine$Program;I)V"⟩, 4), (⟨"LaneMachine$Flow", "flowTo", "(LLaneMachine$Program;II)V"⟩, 4), (⟨"LaneMachine$Flow", "goodLengths", "(LLaneMachine$Program;II)I"⟩, 4), (⟨"LaneMachine$Flow", "lengthsOf", "(II)I"⟩, 4), (⟨"LaneMachine$Program", "needlessAt", "(I)I"⟩, 3), (⟨"LaneMachine$Program", "isLedTo", "(I)Z"⟩, 3), (⟨"LaneMachine$Program", "remove", "(II)V"⟩, 3), (⟨"LaneMachine", "isArray", "(I)Z"⟩, 11), (⟨"LaneMachine", "isStop", "(I)Z"⟩, 11), (⟨"LaneMachine", "isThere", "(I)Z"⟩, 11), (⟨"LaneMachine", "stateOf", "(I)LLaneMachine$State;"⟩, 11), (⟨"LaneMachine", "stopsSet", "()I"⟩, 11)]
theorem lw_r2 : ∀ q ∈ lw_privs_2, lw_okq q := List.forall_mem_cons.mpr ⟨lw_p16, List.forall_mem_cons.mpr ⟨lw_p17, List.forall_mem_cons.mpr ⟨lw_p18, List.forall_mem_cons.mpr ⟨lw_p19, List.forall_mem_cons.mpr ⟨lw_p20, List.forall_mem_cons.mpr ⟨lw_p21, List.forall_mem_cons.mpr ⟨lw_p22, List.forall_mem_cons.mpr ⟨lw_p23, List.forall_mem_cons.mpr ⟨lw_p24, List.forall_mem_cons.mpr ⟨lw_p25, List.forall_mem_cons.mpr ⟨lw_p26, List.forall_mem_cons.mpr ⟨lw_p27, List.forall_mem_cons.mpr ⟨lw_p28, List.forall_mem_cons.mpr ⟨lw_p29, List.forall_mem_cons.mpr ⟨lw_p30, List.forall_mem_cons.mpr ⟨lw_p31, fun _ h => absurd h List.not_mem_nil⟩⟩⟩⟩⟩⟩⟩⟩⟩⟩⟩⟩⟩⟩⟩⟩
theorem lw_p32 : lw_okq (⟨"LaneMachine", "watchesSet", "()I"⟩, 11) := ⟨⟨by decide +kernel, by decide +kernel⟩, List.mem_of_getElem? (i := 39) (by decide +kernel), List.mem_of_getElem? (i := 1318) (by decide +kernel), List.mem_of_getElem? (i := 1319) (by decide +kernel)⟩
theorem lw_p33 : lw_okq (⟨"LaneMachine$Lanes", "misfit", "(LLaneMachine$Op;)I"⟩, 14) := ⟨⟨by decide +kernel, by decide +kernel⟩, List.mem_of_getElem? (i := 210) (by decide +kernel), List.mem_of_getElem? (i := 1383) (by decide +kernel), List.mem_of_getElem? (i := 1384) (by decide +kernel)⟩
theorem lw_p34 : lw_okq (⟨"LaneMachine$Processor", "latestReturn", "()I"⟩, 16) := ⟨⟨by decide +kernel, by decide +kernel⟩, List.mem_of_getElem? (i := 113) (by decide +kernel), List.mem_of_getElem? (i := 1391) (by decide +kernel), List.mem_of_getElem? (i := 1392) (by decide +kernel)⟩
theorem lw_p35 : lw_okq (⟨"LaneMachine$Lanes", "isOn", "(I)Z"⟩, 14) := ⟨⟨by decide +kernel, by decide +kernel⟩, List.mem_of_getElem? (i := 210) (by decide +kernel), List.mem_of_getElem? (i := 1422) (by decide +kernel), List.mem_of_getElem? (i := 1423) (by decide +kernel)⟩
theorem lw_p36 : lw_okq (⟨"LaneMachine$Lanes", "made", "(LLaneMachine$Op;I)J"⟩, 14) := ⟨⟨by decide +kernel, by decide +kernel⟩, List.mem_of_getElem? (i := 210) (by decide +kernel), List.mem_of_getElem? (i := 1426) (by decide +kernel), List.mem_of_getElem? (i := 1427) (by decide +kernel)⟩
theorem lw_p37 : lw_okq (⟨"LaneMachine$Lanes", "ofReals", "(LLaneMachine$Op;IJJ)J"⟩, 14) := ⟨⟨by decide +kernel, by decide +kernel⟩, List.mem_of_getElem? (i := 210) (by decide +kernel), List.mem_of_getElem? (i := 1433) (by decide +kernel), List.mem_of_getElem? (i := 1434) (by decide +kernel)⟩
theorem lw_p38 : lw_okq (⟨"LaneMachine$Lanes", "ranged", "(IJ)J"⟩, 14) := ⟨⟨by decide +kernel, by decide +kernel⟩, List.mem_of_getElem? (i := 210) (by decide +kernel), List.mem_of_getElem? (i := 1454) (by decide +kernel), List.mem_of_getElem? (i := 1455) (by decide +kernel)⟩
theorem lw_p39 : lw_okq (⟨"LaneMachine$Lanes", "ofWholes", "(LLaneMachine$Op;IJJ)J"⟩, 14) := ⟨⟨by decide +kernel, by decide +kernel⟩, List.mem_of_getElem? (i := 210) (by decide +kernel), List.mem_of_getElem? (i := 1488) (by decide +kernel), List.mem_of_getElem? (i := 1489) (by decide +kernel)⟩
theorem lw_p40 : lw_okq (⟨"LaneMachine$Lanes", "shifted", "(LLaneMachine$Op;IJ)J"⟩, 14) := ⟨⟨by decide +kernel, by decide +kernel⟩, List.mem_of_getElem? (i := 210) (by decide +kernel), List.mem_of_getElem? (i := 1497) (by decide +kernel), List.mem_of_getElem? (i := 1498) (by decide +kernel)⟩
theorem lw_p41 : lw_okq (⟨"LaneMachine$Lanes", "rooted", "(IJ)J"⟩, 14) := ⟨⟨by decide +kernel, by decide +kernel⟩, List.mem_of_getElem? (i := 210) (by decide +kernel), List.mem_of_getElem? (i := 1509) (by decide +kernel), List.mem_of_getElem? (i := 1510) (by decide +kernel)⟩
theorem lw_p42 : lw_okq (⟨"LaneMachine$Lanes", "element", "(LLaneMachine$Op;I)I"⟩, 14) := ⟨⟨by decide +kernel, by decide +kernel⟩, List.mem_of_getElem? (i := 210) (by decide +kernel), List.mem_of_getElem? (i := 1532) (by decide +kernel), List.mem_of_getElem? (i := 1533) (by decide +kernel)⟩
theorem lw_p43 : lw_okq (⟨"LaneMachine$Lanes", "added", "(IJJ)J"⟩, 14) := ⟨⟨by decide +kernel, by decide +kernel⟩, List.mem_of_getElem? (i := 210) (by decide +kernel), List.mem_of_getElem? (i := 1541) (by decide +kernel), List.mem_of_getElem? (i := 1542) (by decide +kernel)⟩
theorem lw_p44 : lw_okq (⟨"LaneMachine$Lanes", "fetched", "(LLaneMachine$Op;I)J"⟩, 14) := ⟨⟨by decide +kernel, by decide +kernel⟩, List.mem_of_getElem? (i := 210) (by decide +kernel), List.mem_of_getElem? (i := 1545) (by decide +kernel), List.mem_of_getElem? (i := 1546) (by decide +kernel)⟩
theorem lw_p45 : lw_okq (⟨"LaneMachine$Lanes", "compare", "(LLaneMachine$Op;)V"⟩, 14) := ⟨⟨by decide +kernel, by decide +kernel⟩, List.mem_of_getElem? (i := 210) (by decide +kernel), List.mem_of_getElem? (i := 1558) (by decide +kernel), List.mem_of_getElem? (i := 1559) (by decide +kernel)⟩
theorem lw_p46 : lw_okq (⟨"LaneMachine$Lanes", "select", "()V"⟩, 14) := ⟨⟨by decide +kernel, by decide +kernel⟩, List.mem_of_getElem? (i := 210) (by decide +kernel), List.mem_of_getElem? (i := 1565) (by decide +kernel), List.mem_of_getElem? (i := 1566) (by decide +kernel)⟩
theorem lw_p47 : lw_okq (⟨"LaneMachine$Lanes", "isInMask", "(I)Z"⟩, 14) := ⟨⟨by decide +kernel, by decide +kernel⟩, List.mem_of_getElem? (i := 210) (by decide +kernel), List.mem_of_getElem? (i := 1569) (by decide +kernel), List.mem_of_getElem? (i := 1570) (by decide +kernel)⟩
def lw_privs_3 : List (MethodName × Nat) := [(⟨"LaneMachine", "watchesSet", "()I"⟩, 11), (⟨"LaneMachine$Lanes", "misfit", "(LLaneMachine$Op;)I"⟩, 14), (⟨"LaneMachine$Processor", "latestReturn", "()I"⟩, 16), (⟨"LaneMachine$Lanes", "isOn", "(I)Z"⟩, 14), (⟨"LaneMachine$Lanes", "made", "(LLaneMachine$Op;I)J"⟩, 14), (⟨"LaneMachine$Lanes", "ofReals", "(LLaneMachine$Op;IJJ)J"⟩, 14), (⟨"LaneMachine$Lanes", "ranged", "(IJ)J"⟩, 14), (⟨"LaneMachine$Lanes", "ofWholes", "(LLaneMachine$Op;IJJ)J"⟩, 14), (⟨"LaneMachine$Lanes", "shifted", "(LLaneMachine$Op;IJ)J"⟩, 14), (⟨"LaneMachine$Lanes", "rooted", "(IJ)J"⟩, 14), (⟨"LaneMachine$Lanes", "element", "(LLaneMachine$Op;I)I"⟩, 14), (⟨"LaneMachine$Lanes", "added", "(IJJ)J"⟩, 14), (⟨"LaneMachine$Lanes", "fetched", "(LLaneMachine$Op;I)J"⟩, 14), (⟨"LaneMachine$Lanes", "compare", "(LLaneMachine$Op;)V"⟩, 14), (⟨"LaneMachine$Lanes", "select", "()V"⟩, 14), (⟨"LaneMachine$Lanes", "isInMask", "(I)Z"⟩, 14)]
theorem lw_r3 : ∀ q ∈ lw_privs_3, lw_okq q := List.forall_mem_cons.mpr ⟨lw_p32, List.forall_mem_cons.mpr ⟨lw_p33, List.forall_mem_cons.mpr ⟨lw_p34, List.forall_mem_cons.mpr ⟨lw_p35, List.forall_mem_cons.mpr ⟨lw_p36, List.forall_mem_cons.mpr ⟨lw_p37, List.forall_mem_cons.mpr ⟨lw_p38, List.forall_mem_cons.mpr ⟨lw_p39, List.forall_mem_cons.mpr ⟨lw_p40, List.forall_mem_cons.mpr ⟨lw_p41, List.forall_mem_cons.mpr ⟨lw_p42, List.forall_mem_cons.mpr ⟨lw_p43, List.forall_mem_cons.mpr ⟨lw_p44, List.forall_mem_cons.mpr ⟨lw_p45, List.forall_mem_cons.mpr ⟨lw_p46, List.forall_mem_cons.mpr ⟨lw_p47, fun _ h => absurd h List.not_mem_nil⟩⟩⟩⟩⟩⟩⟩⟩⟩⟩⟩⟩⟩⟩⟩⟩
theorem lw_p48 : lw_okq (⟨"LaneMachine$Lanes", "store", "(LLaneMachine$Op;)V"⟩, 14) := ⟨⟨by decide +kernel, by decide +kernel⟩, List.mem_of_getElem? (i := 210) (by decide +kernel), List.mem_of_getElem? (i := 1573) (by decide +kernel), List.mem_of_getElem? (i := 1574) (by decide +kernel)⟩
theorem lw_p49 : lw_okq (⟨"LaneMachine$Lanes", "pack", "()V"⟩, 14) := ⟨⟨by decide +kernel, by decide +kernel⟩, List.mem_of_getElem? (i := 210) (by decide +kernel), List.mem_of_getElem? (i := 1577) (by decide +kernel), List.mem_of_getElem? (i := 1578) (by decide +kernel)⟩
theorem lw_p50 : lw_okq (⟨"LaneMachine$Lanes", "spread", "()V"⟩, 14) := ⟨⟨by decide +kernel, by decide +kernel⟩, List.mem_of_getElem? (i := 210) (by decide +kernel), List.mem_of_getElem? (i := 1581) (by decide +kernel), List.mem_of_getElem? (i := 1582) (by decide +kernel)⟩
theorem lw_p51 : lw_okq (⟨"LaneMachine$Lanes", "sort", "()V"⟩, 14) := ⟨⟨by decide +kernel, by decide +kernel⟩, List.mem_of_getElem? (i := 210) (by decide +kernel), List.mem_of_getElem? (i := 1585) (by decide +kernel), List.mem_of_getElem? (i := 1586) (by decide +kernel)⟩
theorem lw_p52 : lw_okq (⟨"LaneMachine$Lanes", "halve", "()V"⟩, 14) := ⟨⟨by decide +kernel, by decide +kernel⟩, List.mem_of_getElem? (i := 210) (by decide +kernel), List.mem_of_getElem? (i := 1589) (by decide +kernel), List.mem_of_getElem? (i := 1590) (by decide +kernel)⟩
theorem lw_p53 : lw_okq (⟨"LaneMachine$Lanes", "fold", "(LLaneMachine$Op;)V"⟩, 14) := ⟨⟨by decide +kernel, by decide +kernel⟩, List.mem_of_getElem? (i := 210) (by decide +kernel), List.mem_of_getElem? (i := 1593) (by decide +kernel), List.mem_of_getElem? (i := 1594) (by decide +kernel)⟩
theorem lw_p54 : lw_okq (⟨"LaneMachine$Lanes", "moveOne", "(LLaneMachine$Op;)V"⟩, 14) := ⟨⟨by decide +kernel, by decide +kernel⟩, List.mem_of_getElem? (i := 210) (by decide +kernel), List.mem_of_getElem? (i := 1603) (by decide +kernel), List.mem_of_getElem? (i := 1604) (by decide +kernel)⟩
theorem lw_p55 : lw_okq (⟨"LaneMachine$Processor", "useMasks", "(LLaneMachine$Op;)V"⟩, 16) := ⟨⟨by decide +kernel, by decide +kernel⟩, List.mem_of_getElem? (i := 113) (by decide +kernel), List.mem_of_getElem? (i := 1611) (by decide +kernel), List.mem_of_getElem? (i := 1612) (by decide +kernel)⟩
theorem lw_p56 : lw_okq (⟨"LaneMachine$Processor", "useScalars", "(LLaneMachine$Op;)I"⟩, 16) := ⟨⟨by decide +kernel, by decide +kernel⟩, List.mem_of_getElem? (i := 113) (by decide +kernel), List.mem_of_getElem? (i := 1623) (by decide +kernel), List.mem_of_getElem? (i := 1624) (by decide +kernel)⟩
theorem lw_p57 : lw_okq (⟨"LaneMachine$Processor", "lead", "(LLaneMachine$Op;)I"⟩, 16) := ⟨⟨by decide +kernel, by decide +kernel⟩, List.mem_of_getElem? (i := 113) (by decide +kernel), List.mem_of_getElem? (i := 1629) (by decide +kernel), List.mem_of_getElem? (i := 1630) (by decide +kernel)⟩
theorem lw_p58 : lw_okq (⟨"LaneMachineModel", "noFault", "()V"⟩, 76) := ⟨⟨by decide +kernel, by decide +kernel⟩, List.mem_of_getElem? (i := 1689) (by decide +kernel), List.mem_of_getElem? (i := 1792) (by decide +kernel), List.mem_of_getElem? (i := 1793) (by decide +kernel)⟩
theorem lw_p59 : lw_okq (⟨"LaneMachineModel", "next", "()V"⟩, 76) := ⟨⟨by decide +kernel, by decide +kernel⟩, List.mem_of_getElem? (i := 1689) (by decide +kernel), List.mem_of_getElem? (i := 2041) (by decide +kernel), List.mem_of_getElem? (i := 2042) (by decide +kernel)⟩
theorem lw_p60 : lw_okq (⟨"LaneMachineModel", "over", "(I)I"⟩, 76) := ⟨⟨by decide +kernel, by decide +kernel⟩, List.mem_of_getElem? (i := 1689) (by decide +kernel), List.mem_of_getElem? (i := 2045) (by decide +kernel), List.mem_of_getElem? (i := 2046) (by decide +kernel)⟩
theorem lw_p61 : lw_okq (⟨"LaneMachineModel", "at", "(I)I"⟩, 76) := ⟨⟨by decide +kernel, by decide +kernel⟩, List.mem_of_getElem? (i := 1689) (by decide +kernel), List.mem_of_getElem? (i := 2049) (by decide +kernel), List.mem_of_getElem? (i := 2050) (by decide +kernel)⟩
theorem lw_p62 : lw_okq (⟨"LaneMachineModel", "line", "()V"⟩, 76) := ⟨⟨by decide +kernel, by decide +kernel⟩, List.mem_of_getElem? (i := 1689) (by decide +kernel), List.mem_of_getElem? (i := 2059) (by decide +kernel), List.mem_of_getElem? (i := 2060) (by decide +kernel)⟩
theorem lw_p63 : lw_okq (⟨"LaneMachineModel", "label", "(II)I"⟩, 76) := ⟨⟨by decide +kernel, by decide +kernel⟩, List.mem_of_getElem? (i := 1689) (by decide +kernel), List.mem_of_getElem? (i := 2063) (by decide +kernel), List.mem_of_getElem? (i := 2064) (by decide +kernel)⟩
def lw_privs_4 : List (MethodName × Nat) := [(⟨"LaneMachine$Lanes", "store", "(LLaneMachine$Op;)V"⟩, 14), (⟨"LaneMachine$Lanes", "pack", "()V"⟩, 14), (⟨"LaneMachine$Lanes", "spread", "()V"⟩, 14), (⟨"LaneMachine$Lanes", "sort", "()V"⟩, 14), (⟨"LaneMachine$Lanes", "halve", "()V"⟩, 14), (⟨"LaneMachine$Lanes", "fold", "(LLaneMachine$Op;)V"⟩, 14), (⟨"LaneMachine$Lanes", "moveOne", "(LLaneMachine$Op;)V"⟩, 14), (⟨"LaneMachine$Processor", "useMasks", "(LLaneMachine$Op;)V"⟩, 16), (⟨"LaneMachine$Processor", "useScalars", "(LLaneMachine$Op;)I"⟩, 16), (⟨"LaneMachine$Processor", "lead", "(LLaneMachine$Op;)I"⟩, 16), (⟨"LaneMachineModel", "noFault", "()V"⟩, 76), (⟨"LaneMachineModel", "next", "()V"⟩, 76), (⟨"LaneMachineModel", "over", "(I)I"⟩, 76), (⟨"LaneMachineModel", "at", "(I)I"⟩, 76), (⟨"LaneMachineModel", "line", "()V"⟩, 76), (⟨"LaneMachineModel", "label", "(II)I"⟩, 76)]
theorem lw_r4 : ∀ q ∈ lw_privs_4, lw_okq q := List.forall_mem_cons.mpr ⟨lw_p48, List.forall_mem_cons.mpr ⟨lw_p49, List.forall_mem_cons.mpr ⟨lw_p50, List.forall_mem_cons.mpr ⟨lw_p51, List.forall_mem_cons.mpr ⟨lw_p52, List.forall_mem_cons.mpr ⟨lw_p53, List.forall_mem_cons.mpr ⟨lw_p54, List.forall_mem_cons.mpr ⟨lw_p55, List.forall_mem_cons.mpr ⟨lw_p56, List.forall_mem_cons.mpr ⟨lw_p57, List.forall_mem_cons.mpr ⟨lw_p58, List.forall_mem_cons.mpr ⟨lw_p59, List.forall_mem_cons.mpr ⟨lw_p60, List.forall_mem_cons.mpr ⟨lw_p61, List.forall_mem_cons.mpr ⟨lw_p62, List.forall_mem_cons.mpr ⟨lw_p63, fun _ h => absurd h List.not_mem_nil⟩⟩⟩⟩⟩⟩⟩⟩⟩⟩⟩⟩⟩⟩⟩⟩
theorem lw_p64 : lw_okq (⟨"LaneMachineModel", "isSame", "(IIII)Z"⟩, 76) := ⟨⟨by decide +kernel, by decide +kernel⟩, List.mem_of_getElem? (i := 1689) (by decide +kernel), List.mem_of_getElem? (i := 2067) (by decide +kernel), List.mem_of_getElem? (i := 2068) (by decide +kernel)⟩
theorem lw_p65 : lw_okq (⟨"LaneMachineModel", "wrong", "(I)V"⟩, 76) := ⟨⟨by decide +kernel, by decide +kernel⟩, List.mem_of_getElem? (i := 1689) (by decide +kernel), List.mem_of_getElem? (i := 2071) (by decide +kernel), List.mem_of_getElem? (i := 2072) (by decide +kernel)⟩
theorem lw_p66 : lw_okq (⟨"LaneMachineModel", "instructionLine", "()V"⟩, 76) := ⟨⟨by decide +kernel, by decide +kernel⟩, List.mem_of_getElem? (i := 1689) (by decide +kernel), List.mem_of_getElem? (i := 2075) (by decide +kernel), List.mem_of_getElem? (i := 2076) (by decide +kernel)⟩
theorem lw_p67 : lw_okq (⟨"LaneMachineModel", "instruction", "()I"⟩, 76) := ⟨⟨by decide +kernel, by decide +kernel⟩, List.mem_of_getElem? (i := 1689) (by decide +kernel), List.mem_of_getElem? (i := 2079) (by decide +kernel), List.mem_of_getElem? (i := 2080) (by decide +kernel)⟩
theorem lw_p68 : lw_okq (⟨"LaneMachineModel", "manyOf", "(I)I"⟩, 76) := ⟨⟨by decide +kernel, by decide +kernel⟩, List.mem_of_getElem? (i := 1689) (by decide +kernel), List.mem_of_getElem? (i := 2084) (by decide +kernel), List.mem_of_getElem? (i := 2085) (by decide +kernel)⟩
theorem lw_p69 : lw_okq (⟨"LaneMachineModel", "isSign", "(I)Z"⟩, 76) := ⟨⟨by decide +kernel, by decide +kernel⟩, List.mem_of_getElem? (i := 1689) (by decide +kernel), List.mem_of_getElem? (i := 2091) (by decide +kernel), List.mem_of_getElem? (i := 2092) (by decide +kernel)⟩
theorem lw_p70 : lw_okq (⟨"LaneMachineModel", "letter", "(II)I"⟩, 76) := ⟨⟨by decide +kernel, by decide +kernel⟩, List.mem_of_getElem? (i := 1689) (by decide +kernel), List.mem_of_getElem? (i := 2095) (by decide +kernel), List.mem_of_getElem? (i := 2096) (by decide +kernel)⟩
theorem lw_p71 : lw_okq (⟨"LaneMachineModel", "operand", "(III)V"⟩, 76) := ⟨⟨by decide +kernel, by decide +kernel⟩, List.mem_of_getElem? (i := 1689) (by decide +kernel), List.mem_of_getElem? (i := 2099) (by decide +kernel), List.mem_of_getElem? (i := 2100) (by decide +kernel)⟩
theorem lw_p72 : lw_okq (⟨"LaneMachineModel", "numbered", "(II)I"⟩, 76) := ⟨⟨by decide +kernel, by decide +kernel⟩, List.mem_of_getElem? (i := 1689) (by decide +kernel), List.mem_of_getElem? (i := 2103) (by decide +kernel), List.mem_of_getElem? (i := 2104) (by decide +kernel)⟩
theorem lw_p73 : lw_okq (⟨"LaneMachineModel", "kindOperand", "(I)V"⟩, 76) := ⟨⟨by decide +kernel, by decide +kernel⟩, List.mem_of_getElem? (i := 1689) (by decide +kernel), List.mem_of_getElem? (i := 2107) (by decide +kernel), List.mem_of_getElem? (i := 2108) (by decide +kernel)⟩
theorem lw_p74 : lw_okq (⟨"LaneMachineModel", "numberOperand", "(II)V"⟩, 76) := ⟨⟨by decide +kernel, by decide +kernel⟩, List.mem_of_getElem? (i := 1689) (by decide +kernel), List.mem_of_getElem? (i := 2114) (by decide +kernel), List.mem_of_getElem? (i := 2115) (by decide +kernel)⟩
theorem lw_p75 : lw_okq (⟨"LaneMachineModel", "asAssembled", "()V"⟩, 76) := ⟨⟨by decide +kernel, by decide +kernel⟩, List.mem_of_getElem? (i := 1689) (by decide +kernel), List.mem_of_getElem? (i := 2132) (by decide +kernel), List.mem_of_getElem? (i := 2133) (by decide +kernel)⟩
theorem lw_p76 : lw_okq (⟨"LaneMachineModel", "anew", "()V"⟩, 76) := ⟨⟨by decide +kernel, by decide +kernel⟩, List.mem_of_getElem? (i := 1689) (by decide +kernel), List.mem_of_getElem? (i := 2136) (by decide +kernel), List.mem_of_getElem? (i := 2137) (by decide +kernel)⟩
theorem lw_p77 : lw_okq (⟨"LaneMachineModel", "goes", "(I)I"⟩, 76) := ⟨⟨by decide +kernel, by decide +kernel⟩, List.mem_of_getElem? (i := 1689) (by decide +kernel), List.mem_of_getElem? (i := 2153) (by decide +kernel), List.mem_of_getElem? (i := 2154) (by decide +kernel)⟩
theorem lw_p78 : lw_okq (⟨"LaneMachineModel", "operandOf", "(II)I"⟩, 76) := ⟨⟨by decide +kernel, by decide +kernel⟩, List.mem_of_getElem? (i := 1689) (by decide +kernel), List.mem_of_getElem? (i := 2157) (by decide +kernel), List.mem_of_getElem? (i := 2158) (by decide +kernel)⟩
theorem lw_p79 : lw_okq (⟨"LaneMachineModel", "isLedTo", "(I)Z"⟩, 76) := ⟨⟨by decide +kernel, by decide +kernel⟩, List.mem_of_getElem? (i := 1689) (by decide +kernel), List.mem_of_getElem? (i := 2161) (by decide +kernel), List.mem_of_getElem? (i := 2162) (by decide +kernel)⟩
def lw_privs_5 : List (MethodName × Nat) := [(⟨"LaneMachineModel", "isSame", "(IIII)Z"⟩, 76), (⟨"LaneMachineModel", "wrong", "(I)V"⟩, 76), (⟨"LaneMachineModel", "instructionLine", "()V"⟩, 76), (⟨"LaneMachineModel", "instruction", "()I"⟩, 76), (⟨"LaneMachineModel", "manyOf", "(I)I"⟩, 76), (⟨"LaneMachineModel", "isSign", "(I)Z"⟩, 76), (⟨"LaneMachineModel", "letter", "(II)I"⟩, 76), (⟨"LaneMachineModel", "operand", "(III)V"⟩, 76), (⟨"LaneMachineModel", "numbered", "(II)I"⟩, 76), (⟨"LaneMachineModel", "kindOperand", "(I)V"⟩, 76), (⟨"LaneMachineModel", "numberOperand", "(II)V"⟩, 76), (⟨"LaneMachineModel", "asAssembled", "()V"⟩, 76), (⟨"LaneMachineModel", "anew", "()V"⟩, 76), (⟨"LaneMachineModel", "goes", "(I)I"⟩, 76), (⟨"LaneMachineModel", "operandOf", "(II)I"⟩, 76), (⟨"LaneMachineModel", "isLedTo", "(I)Z"⟩, 76)]
theorem lw_r5 : ∀ q ∈ lw_privs_5, lw_okq q := List.forall_mem_cons.mpr ⟨lw_p64, List.forall_mem_cons.mpr ⟨lw_p65, List.forall_mem_cons.mpr ⟨lw_p66, List.forall_mem_cons.mpr ⟨lw_p67, List.forall_mem_cons.mpr ⟨lw_p68, List.forall_mem_cons.mpr ⟨lw_p69, List.forall_mem_cons.mpr ⟨lw_p70, List.forall_mem_cons.mpr ⟨lw_p71, List.forall_mem_cons.mpr ⟨lw_p72, List.forall_mem_cons.mpr ⟨lw_p73, List.forall_mem_cons.mpr ⟨lw_p74, List.forall_mem_cons.mpr ⟨lw_p75, List.forall_mem_cons.mpr ⟨lw_p76, List.forall_mem_cons.mpr ⟨lw_p77, List.forall_mem_cons.mpr ⟨lw_p78, List.forall_mem_cons.mpr ⟨lw_p79, fun _ h => absurd h List.not_mem_nil⟩⟩⟩⟩⟩⟩⟩⟩⟩⟩⟩⟩⟩⟩⟩⟩
theorem lw_p80 : lw_okq (⟨"LaneMachineModel", "drop", "(II)V"⟩, 76) := ⟨⟨by decide +kernel, by decide +kernel⟩, List.mem_of_getElem? (i := 1689) (by decide +kernel), List.mem_of_getElem? (i := 2168) (by decide +kernel), List.mem_of_getElem? (i := 2169) (by decide +kernel)⟩
theorem lw_p81 : lw_okq (⟨"LaneMachineModel", "step", "()I"⟩, 76) := ⟨⟨by decide +kernel, by decide +kernel⟩, List.mem_of_getElem? (i := 1689) (by decide +kernel), List.mem_of_getElem? (i := 2178) (by decide +kernel), List.mem_of_getElem? (i := 2179) (by decide +kernel)⟩
theorem lw_p82 : lw_okq (⟨"LaneMachineModel", "isWatched", "(I)Z"⟩, 76) := ⟨⟨by decide +kernel, by decide +kernel⟩, List.mem_of_getElem? (i := 1689) (by decide +kernel), List.mem_of_getElem? (i := 2182) (by decide +kernel), List.mem_of_getElem? (i := 2183) (by decide +kernel)⟩
theorem lw_p83 : lw_okq (⟨"LaneMachineModel", "watchSum", "(II)J"⟩, 76) := ⟨⟨by decide +kernel, by decide +kernel⟩, List.mem_of_getElem? (i := 1689) (by decide +kernel), List.mem_of_getElem? (i := 2186) (by decide +kernel), List.mem_of_getElem? (i := 2187) (by decide +kernel)⟩
theorem lw_p84 : lw_okq (⟨"LaneMachineModel", "save", "(I)V"⟩, 76) := ⟨⟨by decide +kernel, by decide +kernel⟩, List.mem_of_getElem? (i := 1689) (by decide +kernel), List.mem_of_getElem? (i := 2213) (by decide +kernel), List.mem_of_getElem? (i := 2214) (by decide +kernel)⟩
theorem lw_p85 : lw_okq (⟨"LaneMachineModel", "does", "(I)I"⟩, 76) := ⟨⟨by decide +kernel, by decide +kernel⟩, List.mem_of_getElem? (i := 1689) (by decide +kernel), List.mem_of_getElem? (i := 2217) (by decide +kernel), List.mem_of_getElem? (i := 2218) (by decide +kernel)⟩
theorem lw_p86 : lw_okq (⟨"LaneMachineModel", "judgedNow", "(I)I"⟩, 76) := ⟨⟨by decide +kernel, by decide +kernel⟩, List.mem_of_getElem? (i := 1689) (by decide +kernel), List.mem_of_getElem? (i := 2221) (by decide +kernel), List.mem_of_getElem? (i := 2222) (by decide +kernel)⟩
theorem lw_p87 : lw_okq (⟨"LaneMachineModel", "registerOf", "(II)I"⟩, 76) := ⟨⟨by decide +kernel, by decide +kernel⟩, List.mem_of_getElem? (i := 1689) (by decide +kernel), List.mem_of_getElem? (i := 2225) (by decide +kernel), List.mem_of_getElem? (i := 2226) (by decide +kernel)⟩
theorem lw_p88 : lw_okq (⟨"LaneMachineModel", "kindAt", "(I)I"⟩, 76) := ⟨⟨by decide +kernel, by decide +kernel⟩, List.mem_of_getElem? (i := 1689) (by decide +kernel), List.mem_of_getElem? (i := 2229) (by decide +kernel), List.mem_of_getElem? (i := 2230) (by decide +kernel)⟩
theorem lw_p89 : lw_okq (⟨"LaneMachineModel", "lengthAt", "(I)I"⟩, 76) := ⟨⟨by decide +kernel, by decide +kernel⟩, List.mem_of_getElem? (i := 1689) (by decide +kernel), List.mem_of_getElem? (i := 2233) (by decide +kernel), List.mem_of_getElem? (i := 2234) (by decide +kernel)⟩
theorem lw_p90 : lw_okq (⟨"LaneMachineModel", "failed", "(II)I"⟩, 76) := ⟨⟨by decide +kernel, by decide +kernel⟩, List.mem_of_getElem? (i := 1689) (by decide +kernel), List.mem_of_getElem? (i := 2258) (by decide +kernel), List.mem_of_getElem? (i := 2259) (by decide +kernel)⟩
theorem lw_p91 : lw_okq (⟨"LaneMachineModel", "set", "(I)V"⟩, 76) := ⟨⟨by decide +kernel, by decide +kernel⟩, List.mem_of_getElem? (i := 1689) (by decide +kernel), List.mem_of_getElem? (i := 2262) (by decide +kernel), List.mem_of_getElem? (i := 2263) (by decide +kernel)⟩
theorem lw_p92 : lw_okq (⟨"LaneMachineModel", "lay", "(IJD)V"⟩, 76) := ⟨⟨by decide +kernel, by decide +kernel⟩, List.mem_of_getElem? (i := 1689) (by decide +kernel), List.mem_of_getElem? (i := 2266) (by decide +kernel), List.mem_of_getElem? (i := 2267) (by decide +kernel)⟩
theorem lw_p93 : lw_okq (⟨"LaneMachineModel", "memoryStep", "(I)I"⟩, 76) := ⟨⟨by decide +kernel, by decide +kernel⟩, List.mem_of_getElem? (i := 1689) (by decide +kernel), List.mem_of_getElem? (i := 2272) (by decide +kernel), List.mem_of_getElem? (i := 2273) (by decide +kernel)⟩
theorem lw_p94 : lw_okq (⟨"LaneMachineModel", "copyLanes", "(I[J[D)V"⟩, 76) := ⟨⟨by decide +kernel, by decide +kernel⟩, List.mem_of_getElem? (i := 1689) (by decide +kernel), List.mem_of_getElem? (i := 2276) (by decide +kernel), List.mem_of_getElem? (i := 2277) (by decide +kernel)⟩
theorem lw_p95 : lw_okq (⟨"LaneMachineModel", "isOn", "(II)Z"⟩, 76) := ⟨⟨by decide +kernel, by decide +kernel⟩, List.mem_of_getElem? (i := 1689) (by decide +kernel), List.mem_of_getElem? (i := 2280) (by decide +kernel), List.mem_of_getElem? (i := 2281) (by decide +kernel)⟩
def lw_privs_6 : List (MethodName × Nat) := [(⟨"LaneMachineModel", "drop", "(II)V"⟩, 76), (⟨"LaneMachineModel", "step", "()I"⟩, 76), (⟨"LaneMachineModel", "isWatched", "(I)Z"⟩, 76), (⟨"LaneMachineModel", "watchSum", "(II)J"⟩, 76), (⟨"LaneMachineModel", "save", "(I)V"⟩, 76), (⟨"LaneMachineModel", "does", "(I)I"⟩, 76), (⟨"LaneMachineModel", "judgedNow", "(I)I"⟩, 76), (⟨"LaneMachineModel", "registerOf", "(II)I"⟩, 76), (⟨"LaneMachineModel", "kindAt", "(I)I"⟩, 76), (⟨"LaneMachineModel", "lengthAt", "(I)I"⟩, 76), (⟨"LaneMachineModel", "failed", "(II)I"⟩, 76), (⟨"LaneMachineModel", "set", "(I)V"⟩, 76), (⟨"LaneMachineModel", "lay", "(IJD)V"⟩, 76), (⟨"LaneMachineModel", "memoryStep", "(I)I"⟩, 76), (⟨"LaneMachineModel", "copyLanes", "(I[J[D)V"⟩, 76), (⟨"LaneMachineModel", "isOn", "(II)Z"⟩, 76)]
theorem lw_r6 : ∀ q ∈ lw_privs_6, lw_okq q := List.forall_mem_cons.mpr ⟨lw_p80, List.forall_mem_cons.mpr ⟨lw_p81, List.forall_mem_cons.mpr ⟨lw_p82, List.forall_mem_cons.mpr ⟨lw_p83, List.forall_mem_cons.mpr ⟨lw_p84, List.forall_mem_cons.mpr ⟨lw_p85, List.forall_mem_cons.mpr ⟨lw_p86, List.forall_mem_cons.mpr ⟨lw_p87, List.forall_mem_cons.mpr ⟨lw_p88, List.forall_mem_cons.mpr ⟨lw_p89, List.forall_mem_cons.mpr ⟨lw_p90, List.forall_mem_cons.mpr ⟨lw_p91, List.forall_mem_cons.mpr ⟨lw_p92, List.forall_mem_cons.mpr ⟨lw_p93, List.forall_mem_cons.mpr ⟨lw_p94, List.forall_mem_cons.mpr ⟨lw_p95, fun _ h => absurd h List.not_mem_nil⟩⟩⟩⟩⟩⟩⟩⟩⟩⟩⟩⟩⟩⟩⟩⟩
theorem lw_p96 : lw_okq (⟨"LaneMachineModel", "byLanes", "(I)I"⟩, 76) := ⟨⟨by decide +kernel, by decide +kernel⟩, List.mem_of_getElem? (i := 1689) (by decide +kernel), List.mem_of_getElem? (i := 2286) (by decide +kernel), List.mem_of_getElem? (i := 2287) (by decide +kernel)⟩
theorem lw_p97 : lw_okq (⟨"LaneMachineModel", "laneMade", "(IIII)I"⟩, 76) := ⟨⟨by decide +kernel, by decide +kernel⟩, List.mem_of_getElem? (i := 1689) (by decide +kernel), List.mem_of_getElem? (i := 2290) (by decide +kernel), List.mem_of_getElem? (i := 2291) (by decide +kernel)⟩
theorem lw_p98 : lw_okq (⟨"LaneMachineModel", "make", "(IIJDJD)I"⟩, 76) := ⟨⟨by decide +kernel, by decide +kernel⟩, List.mem_of_getElem? (i := 1689) (by decide +kernel), List.mem_of_getElem? (i := 2294) (by decide +kernel), List.mem_of_getElem? (i := 2295) (by decide +kernel)⟩
theorem lw_p99 : lw_okq (⟨"LaneMachineModel", "givesReal", "(ID)I"⟩, 76) := ⟨⟨by decide +kernel, by decide +kernel⟩, List.mem_of_getElem? (i := 1689) (by decide +kernel), List.mem_of_getElem? (i := 2304) (by decide +kernel), List.mem_of_getElem? (i := 2305) (by decide +kernel)⟩
theorem lw_p100 : lw_okq (⟨"LaneMachineModel", "giveWhole", "(IJ)I"⟩, 76) := ⟨⟨by decide +kernel, by decide +kernel⟩, List.mem_of_getElem? (i := 1689) (by decide +kernel), List.mem_of_getElem? (i := 2313) (by decide +kernel), List.mem_of_getElem? (i := 2314) (by decide +kernel)⟩
theorem lw_p101 : lw_okq (⟨"LaneMachineModel", "shift", "(IIJJ)I"⟩, 76) := ⟨⟨by decide +kernel, by decide +kernel⟩, List.mem_of_getElem? (i := 1689) (by decide +kernel), List.mem_of_getElem? (i := 2320) (by decide +kernel), List.mem_of_getElem? (i := 2321) (by decide +kernel)⟩
theorem lw_p102 : lw_okq (⟨"LaneMachineModel", "alone", "(IIJD)I"⟩, 76) := ⟨⟨by decide +kernel, by decide +kernel⟩, List.mem_of_getElem? (i := 1689) (by decide +kernel), List.mem_of_getElem? (i := 2327) (by decide +kernel), List.mem_of_getElem? (i := 2328) (by decide +kernel)⟩
theorem lw_p103 : lw_okq (⟨"LaneMachineModel", "cast", "(IIJD)I"⟩, 76) := ⟨⟨by decide +kernel, by decide +kernel⟩, List.mem_of_getElem? (i := 1689) (by decide +kernel), List.mem_of_getElem? (i := 2344) (by decide +kernel), List.mem_of_getElem? (i := 2345) (by decide +kernel)⟩
theorem lw_p104 : lw_okq (⟨"LaneMachineModel", "held", "(IIJD)I"⟩, 76) := ⟨⟨by decide +kernel, by decide +kernel⟩, List.mem_of_getElem? (i := 1689) (by decide +kernel), List.mem_of_getElem? (i := 2351) (by decide +kernel), List.mem_of_getElem? (i := 2352) (by decide +kernel)⟩
theorem lw_p105 : lw_okq (⟨"LaneMachineModel", "source", "(III)J"⟩, 76) := ⟨⟨by decide +kernel, by decide +kernel⟩, List.mem_of_getElem? (i := 1689) (by decide +kernel), List.mem_of_getElem? (i := 2369) (by decide +kernel), List.mem_of_getElem? (i := 2370) (by decide +kernel)⟩
theorem lw_p106 : lw_okq (⟨"LaneMachineModel", "compares", "(I)I"⟩, 76) := ⟨⟨by decide +kernel, by decide +kernel⟩, List.mem_of_getElem? (i := 1689) (by decide +kernel), List.mem_of_getElem? (i := 2374) (by decide +kernel), List.mem_of_getElem? (i := 2375) (by decide +kernel)⟩
theorem lw_p107 : lw_okq (⟨"LaneMachineModel", "isSo", "(IIII)Z"⟩, 76) := ⟨⟨by decide +kernel, by decide +kernel⟩, List.mem_of_getElem? (i := 1689) (by decide +kernel), List.mem_of_getElem? (i := 2378) (by decide +kernel), List.mem_of_getElem? (i := 2379) (by decide +kernel)⟩
theorem lw_p108 : lw_okq (⟨"LaneMachineModel", "folds", "(I)I"⟩, 76) := ⟨⟨by decide +kernel, by decide +kernel⟩, List.mem_of_getElem? (i := 1689) (by decide +kernel), List.mem_of_getElem? (i := 2382) (by decide +kernel), List.mem_of_getElem? (i := 2383) (by decide +kernel)⟩
theorem lw_p109 : lw_okq (⟨"LaneMachineModel", "moves", "(I)I"⟩, 76) := ⟨⟨by decide +kernel, by decide +kernel⟩, List.mem_of_getElem? (i := 1689) (by decide +kernel), List.mem_of_getElem? (i := 2386) (by decide +kernel), List.mem_of_getElem? (i := 2387) (by decide +kernel)⟩
theorem lw_p110 : lw_okq (⟨"LaneMachineModel", "sort", "(II)V"⟩, 76) := ⟨⟨by decide +kernel, by decide +kernel⟩, List.mem_of_getElem? (i := 1689) (by decide +kernel), List.mem_of_getElem? (i := 2390) (by decide +kernel), List.mem_of_getElem? (i := 2391) (by decide +kernel)⟩
theorem lw_p111 : lw_okq (⟨"LaneMachineModel", "scan", "(II)I"⟩, 76) := ⟨⟨by decide +kernel, by decide +kernel⟩, List.mem_of_getElem? (i := 1689) (by decide +kernel), List.mem_of_getElem? (i := 2394) (by decide +kernel), List.mem_of_getElem? (i := 2395) (by decide +kernel)⟩
def lw_privs_7 : List (MethodName × Nat) := [(⟨"LaneMachineModel", "byLanes", "(I)I"⟩, 76), (⟨"LaneMachineModel", "laneMade", "(IIII)I"⟩, 76), (⟨"LaneMachineModel", "make", "(IIJDJD)I"⟩, 76), (⟨"LaneMachineModel", "givesReal", "(ID)I"⟩, 76), (⟨"LaneMachineModel", "giveWhole", "(IJ)I"⟩, 76), (⟨"LaneMachineModel", "shift", "(IIJJ)I"⟩, 76), (⟨"LaneMachineModel", "alone", "(IIJD)I"⟩, 76), (⟨"LaneMachineModel", "cast", "(IIJD)I"⟩, 76), (⟨"LaneMachineModel", "held", "(IIJD)I"⟩, 76), (⟨"LaneMachineModel", "source", "(III)J"⟩, 76), (⟨"LaneMachineModel", "compares", "(I)I"⟩, 76), (⟨"LaneMachineModel", "isSo", "(IIII)Z"⟩, 76), (⟨"LaneMachineModel", "folds", "(I)I"⟩, 76), (⟨"LaneMachineModel", "moves", "(I)I"⟩, 76), (⟨"LaneMachineModel", "sort", "(II)V"⟩, 76), (⟨"LaneMachineModel", "scan", "(II)I"⟩, 76)]
theorem lw_r7 : ∀ q ∈ lw_privs_7, lw_okq q := List.forall_mem_cons.mpr ⟨lw_p96, List.forall_mem_cons.mpr ⟨lw_p97, List.forall_mem_cons.mpr ⟨lw_p98, List.forall_mem_cons.mpr ⟨lw_p99, List.forall_mem_cons.mpr ⟨lw_p100, List.forall_mem_cons.mpr ⟨lw_p101, List.forall_mem_cons.mpr ⟨lw_p102, List.forall_mem_cons.mpr ⟨lw_p103, List.forall_mem_cons.mpr ⟨lw_p104, List.forall_mem_cons.mpr ⟨lw_p105, List.forall_mem_cons.mpr ⟨lw_p106, List.forall_mem_cons.mpr ⟨lw_p107, List.forall_mem_cons.mpr ⟨lw_p108, List.forall_mem_cons.mpr ⟨lw_p109, List.forall_mem_cons.mpr ⟨lw_p110, List.forall_mem_cons.mpr ⟨lw_p111, fun _ h => absurd h List.not_mem_nil⟩⟩⟩⟩⟩⟩⟩⟩⟩⟩⟩⟩⟩⟩⟩⟩
theorem lw_p112 : lw_okq (⟨"LaneMachineModel", "half", "(I)I"⟩, 76) := ⟨⟨by decide +kernel, by decide +kernel⟩, List.mem_of_getElem? (i := 1689) (by decide +kernel), List.mem_of_getElem? (i := 2398) (by decide +kernel), List.mem_of_getElem? (i := 2399) (by decide +kernel)⟩
theorem lw_p113 : lw_okq (⟨"LaneMachineModel", "lane", "(I)I"⟩, 76) := ⟨⟨by decide +kernel, by decide +kernel⟩, List.mem_of_getElem? (i := 1689) (by decide +kernel), List.mem_of_getElem? (i := 2402) (by decide +kernel), List.mem_of_getElem? (i := 2403) (by decide +kernel)⟩
theorem lw_p114 : lw_okq (⟨"LaneMachineModel", "put", "(IIJ)V"⟩, 76) := ⟨⟨by decide +kernel, by decide +kernel⟩, List.mem_of_getElem? (i := 1689) (by decide +kernel), List.mem_of_getElem? (i := 2406) (by decide +kernel), List.mem_of_getElem? (i := 2407) (by decide +kernel)⟩
theorem lw_p115 : lw_okq (⟨"LaneMachineModel", "maskStep", "(I)I"⟩, 76) := ⟨⟨by decide +kernel, by decide +kernel⟩, List.mem_of_getElem? (i := 1689) (by decide +kernel), List.mem_of_getElem? (i := 2410) (by decide +kernel), List.mem_of_getElem? (i := 2411) (by decide +kernel)⟩
theorem lw_p116 : lw_okq (⟨"LaneMachineModel", "scalarStep", "(I)I"⟩, 76) := ⟨⟨by decide +kernel, by decide +kernel⟩, List.mem_of_getElem? (i := 1689) (by decide +kernel), List.mem_of_getElem? (i := 2414) (by decide +kernel), List.mem_of_getElem? (i := 2415) (by decide +kernel)⟩
theorem lw_p117 : lw_okq (⟨"LaneMachineModel", "jumps", "(I)I"⟩, 76) := ⟨⟨by decide +kernel, by decide +kernel⟩, List.mem_of_getElem? (i := 1689) (by decide +kernel), List.mem_of_getElem? (i := 2418) (by decide +kernel), List.mem_of_getElem? (i := 2419) (by decide +kernel)⟩
theorem lw_p118 : lw_okq (⟨"LaneMachineModel", "move", "(II)V"⟩, 76) := ⟨⟨by decide +kernel, by decide +kernel⟩, List.mem_of_getElem? (i := 1689) (by decide +kernel), List.mem_of_getElem? (i := 2422) (by decide +kernel), List.mem_of_getElem? (i := 2423) (by decide +kernel)⟩
theorem lw_p119 : lw_okq (⟨"LaneMachineModel", "didChange", "()Z"⟩, 76) := ⟨⟨by decide +kernel, by decide +kernel⟩, List.mem_of_getElem? (i := 1689) (by decide +kernel), List.mem_of_getElem? (i := 2426) (by decide +kernel), List.mem_of_getElem? (i := 2427) (by decide +kernel)⟩
theorem lw_p120 : lw_okq (⟨"LaneMachineModel", "load", "(I)V"⟩, 76) := ⟨⟨by decide +kernel, by decide +kernel⟩, List.mem_of_getElem? (i := 1689) (by decide +kernel), List.mem_of_getElem? (i := 2434) (by decide +kernel), List.mem_of_getElem? (i := 2435) (by decide +kernel)⟩
theorem lw_p121 : lw_okq (⟨"LaneMachineModel", "elements", "()I"⟩, 76) := ⟨⟨by decide +kernel, by decide +kernel⟩, List.mem_of_getElem? (i := 1689) (by decide +kernel), List.mem_of_getElem? (i := 2447) (by decide +kernel), List.mem_of_getElem? (i := 2448) (by decide +kernel)⟩
theorem lw_p122 : lw_okq (⟨"LaneMachineModel", "isArray", "(I)Z"⟩, 76) := ⟨⟨by decide +kernel, by decide +kernel⟩, List.mem_of_getElem? (i := 1689) (by decide +kernel), List.mem_of_getElem? (i := 2455) (by decide +kernel), List.mem_of_getElem? (i := 2456) (by decide +kernel)⟩
theorem lw_p123 : lw_okq (⟨"LaneMachineModel", "isElement", "(II)Z"⟩, 76) := ⟨⟨by decide +kernel, by decide +kernel⟩, List.mem_of_getElem? (i := 1689) (by decide +kernel), List.mem_of_getElem? (i := 2468) (by decide +kernel), List.mem_of_getElem? (i := 2469) (by decide +kernel)⟩
theorem lw_p124 : lw_okq (⟨"LaneMachineModel", "differ", "(III)Z"⟩, 76) := ⟨⟨by decide +kernel, by decide +kernel⟩, List.mem_of_getElem? (i := 1689) (by decide +kernel), List.mem_of_getElem? (i := 2521) (by decide +kernel), List.mem_of_getElem? (i := 2522) (by decide +kernel)⟩
theorem lw_p125 : lw_okq (⟨"LaneMachineModel", "areSame", "(IIIII)Z"⟩, 76) := ⟨⟨by decide +kernel, by decide +kernel⟩, List.mem_of_getElem? (i := 1689) (by decide +kernel), List.mem_of_getElem? (i := 2525) (by decide +kernel), List.mem_of_getElem? (i := 2526) (by decide +kernel)⟩
theorem lw_p126 : lw_okq (⟨"LaneMachineModel", "findFlow", "()V"⟩, 76) := ⟨⟨by decide +kernel, by decide +kernel⟩, List.mem_of_getElem? (i := 1689) (by decide +kernel), List.mem_of_getElem? (i := 2537) (by decide +kernel), List.mem_of_getElem? (i := 2538) (by decide +kernel)⟩
theorem lw_p127 : lw_okq (⟨"LaneMachineModel", "flowsOn", "(I)V"⟩, 76) := ⟨⟨by decide +kernel, by decide +kernel⟩, List.mem_of_getElem? (i := 1689) (by decide +kernel), List.mem_of_getElem? (i := 2541) (by decide +kernel), List.mem_of_getElem? (i := 2542) (by decide +kernel)⟩
def lw_privs_8 : List (MethodName × Nat) := [(⟨"LaneMachineModel", "half", "(I)I"⟩, 76), (⟨"LaneMachineModel", "lane", "(I)I"⟩, 76), (⟨"LaneMachineModel", "put", "(IIJ)V"⟩, 76), (⟨"LaneMachineModel", "maskStep", "(I)I"⟩, 76), (⟨"LaneMachineModel", "scalarStep", "(I)I"⟩, 76), (⟨"LaneMachineModel", "jumps", "(I)I"⟩, 76), (⟨"LaneMachineModel", "move", "(II)V"⟩, 76), (⟨"LaneMachineModel", "didChange", "()Z"⟩, 76), (⟨"LaneMachineModel", "load", "(I)V"⟩, 76), (⟨"LaneMachineModel", "elements", "()I"⟩, 76), (⟨"LaneMachineModel", "isArray", "(I)Z"⟩, 76), (⟨"LaneMachineModel", "isElement", "(II)Z"⟩, 76), (⟨"LaneMachineModel", "differ", "(III)Z"⟩, 76), (⟨"LaneMachineModel", "areSame", "(IIIII)Z"⟩, 76), (⟨"LaneMachineModel", "findFlow", "()V"⟩, 76), (⟨"LaneMachineModel", "flowsOn", "(I)V"⟩, 76)]
theorem lw_r8 : ∀ q ∈ lw_privs_8, lw_okq q := List.forall_mem_cons.mpr ⟨lw_p112, List.forall_mem_cons.mpr ⟨lw_p113, List.forall_mem_cons.mpr ⟨lw_p114, List.forall_mem_cons.mpr ⟨lw_p115, List.forall_mem_cons.mpr ⟨lw_p116, List.forall_mem_cons.mpr ⟨lw_p117, List.forall_mem_cons.mpr ⟨lw_p118, List.forall_mem_cons.mpr ⟨lw_p119, List.forall_mem_cons.mpr ⟨lw_p120, List.forall_mem_cons.mpr ⟨lw_p121, List.forall_mem_cons.mpr ⟨lw_p122, List.forall_mem_cons.mpr ⟨lw_p123, List.forall_mem_cons.mpr ⟨lw_p124, List.forall_mem_cons.mpr ⟨lw_p125, List.forall_mem_cons.mpr ⟨lw_p126, List.forall_mem_cons.mpr ⟨lw_p127, fun _ h => absurd h List.not_mem_nil⟩⟩⟩⟩⟩⟩⟩⟩⟩⟩⟩⟩⟩⟩⟩⟩
theorem lw_p128 : lw_okq (⟨"LaneMachineModel", "flowsTo", "(II)V"⟩, 76) := ⟨⟨by decide +kernel, by decide +kernel⟩, List.mem_of_getElem? (i := 1689) (by decide +kernel), List.mem_of_getElem? (i := 2545) (by decide +kernel), List.mem_of_getElem? (i := 2546) (by decide +kernel)⟩
theorem lw_p129 : lw_okq (⟨"LaneMachineModel", "isGood", "(I)Z"⟩, 76) := ⟨⟨by decide +kernel, by decide +kernel⟩, List.mem_of_getElem? (i := 1689) (by decide +kernel), List.mem_of_getElem? (i := 2549) (by decide +kernel), List.mem_of_getElem? (i := 2550) (by decide +kernel)⟩
theorem lw_p130 : lw_okq (⟨"LaneMachineModel", "mayBe", "(III)Z"⟩, 76) := ⟨⟨by decide +kernel, by decide +kernel⟩, List.mem_of_getElem? (i := 1689) (by decide +kernel), List.mem_of_getElem? (i := 2553) (by decide +kernel), List.mem_of_getElem? (i := 2554) (by decide +kernel)⟩
theorem lw_p131 : lw_okq (⟨"LaneMachineModel", "isGoodBy", "(III)Z"⟩, 76) := ⟨⟨by decide +kernel, by decide +kernel⟩, List.mem_of_getElem? (i := 1689) (by decide +kernel), List.mem_of_getElem? (i := 2557) (by decide +kernel), List.mem_of_getElem? (i := 2558) (by decide +kernel)⟩
def lw_privs_9 : List (MethodName × Nat) := [(⟨"LaneMachineModel", "flowsTo", "(II)V"⟩, 76), (⟨"LaneMachineModel", "isGood", "(I)Z"⟩, 76), (⟨"LaneMachineModel", "mayBe", "(III)Z"⟩, 76), (⟨"LaneMachineModel", "isGoodBy", "(III)Z"⟩, 76)]
theorem lw_r9 : ∀ q ∈ lw_privs_9, lw_okq q := List.forall_mem_cons.mpr ⟨lw_p128, List.forall_mem_cons.mpr ⟨lw_p129, List.forall_mem_cons.mpr ⟨lw_p130, List.forall_mem_cons.mpr ⟨lw_p131, fun _ h => absurd h List.not_mem_nil⟩⟩⟩⟩
def lw_privs : List (MethodName × Nat) := lw_privs_1 ++ (lw_privs_2 ++ (lw_privs_3 ++ (lw_privs_4 ++ (lw_privs_5 ++ (lw_privs_6 ++ (lw_privs_7 ++ (lw_privs_8 ++ (lw_privs_9))))))))
def lw_tbl : List Cond := k2_sels lw_privs ++ tables_1
theorem lw_privs_ok : ∀ q ∈ lw_privs, lw_okq q := by
  show ∀ q ∈ lw_privs_1 ++ (lw_privs_2 ++ (lw_privs_3 ++ (lw_privs_4 ++ (lw_privs_5 ++ (lw_privs_6 ++ (lw_privs_7 ++ (lw_privs_8 ++ (lw_privs_9)))))))), lw_okq q
  exact List.forall_mem_append.mpr ⟨lw_r1, List.forall_mem_append.mpr ⟨lw_r2, List.forall_mem_append.mpr ⟨lw_r3, List.forall_mem_append.mpr ⟨lw_r4, List.forall_mem_append.mpr ⟨lw_r5, List.forall_mem_append.mpr ⟨lw_r6, List.forall_mem_append.mpr ⟨lw_r7, List.forall_mem_append.mpr ⟨lw_r8, lw_r9⟩⟩⟩⟩⟩⟩⟩⟩
/-- the streams that the claim lets the run draw from -/
abbrev lw_cs : List Choice := [Jvm.Choice.named "NaN.bits"]
theorem lw_bits : nanBits ∈ lw_cs := by first | decide | exact List.mem_cons_self | simp [lw_cs, nanBits]
def RX0 : String := "LaneMachine$1"
def TX0 : u_T := fun k => match k with
  | _ => ("", "", "", false)
def tyX0 : Nat → FieldType := fun k => match k with
  | _ => .int
theorem nmX0 : ∀ a, a < 0 → ∀ b, b < 0 → a ≠ b → (TX0 a).2.1 ≠ (TX0 b).2.1 := by decide +kernel
theorem tyX0_ok : ∀ k, k < 0 → parseFieldDescriptor (TX0 k).2.2.1 = some (tyX0 k) := by decide +kernel
def RX1 : String := "LaneMachine$Flow"
def TX1 : u_T := fun k => match k with
  | 0 => ("LaneMachine$Flow", "may", "[I", true)
  | 1 => ("LaneMachine$Flow", "reached", "[Z", true)
  | 2 => ("LaneMachine$Flow", "grown", "[Z", true)
  | _ => ("LaneMachine$Flow", "known", "Z", false)
def tyX1 : Nat → FieldType := fun k => match k with
  | 0 => .array .int
  | 1 => .array .boolean
  | 2 => .array .boolean
  | _ => .boolean
theorem nmX1 : ∀ a, a < 4 → ∀ b, b < 4 → a ≠ b → (TX1 a).2.1 ≠ (TX1 b).2.1 := by decide +kernel
theorem tyX1_ok : ∀ k, k < 4 → parseFieldDescriptor (TX1 k).2.2.1 = some (tyX1 k) := by decide +kernel
abbrev cX1_init : ByteArray := prog_3_method_1_code
def yX1_init : MethodName := ⟨RX1, "<init>", "()V"⟩
abbrev cX1_forget : ByteArray := prog_3_method_2_code
def yX1_forget : MethodName := ⟨RX1, "forget", "()V"⟩
abbrev cX1_isReached : ByteArray := prog_3_method_3_code
def yX1_isReached : MethodName := ⟨RX1, "isReached", "(I)Z"⟩
abbrev cX1_ways : ByteArray := prog_3_method_4_code
def yX1_ways : MethodName := ⟨RX1, "ways", "(II)I"⟩
abbrev cX1_follow : ByteArray := prog_3_method_5_code
def yX1_follow : MethodName := ⟨RX1, "follow", "(LLaneMachine$Program;)V"⟩
abbrev cX1_clear : ByteArray := prog_3_method_6_code
def yX1_clear : MethodName := ⟨RX1, "clear", "()V"⟩
abbrev cX1_flowOn : ByteArray := prog_3_method_7_code
def yX1_flowOn : MethodName := ⟨RX1, "flowOn", "(LLaneMachine$Program;I)V"⟩
abbrev cX1_flowTo : ByteArray := prog_3_method_8_code
def yX1_flowTo : MethodName := ⟨RX1, "flowTo", "(LLaneMachine$Program;II)V"⟩
abbrev cX1_waysOfSet : ByteArray := prog_3_method_9_code
def yX1_waysOfSet : MethodName := ⟨RX1, "waysOfSet", "(LLaneMachine$Program;II)I"⟩
abbrev cX1_isGood : ByteArray := prog_3_method_10_code
def yX1_isGood : MethodName := ⟨RX1, "isGood", "(LLaneMachine$Program;I)Z"⟩
abbrev cX1_goodLengths : ByteArray := prog_3_method_11_code
def yX1_goodLengths : MethodName := ⟨RX1, "goodLengths", "(LLaneMachine$Program;II)I"⟩
abbrev cX1_kindsOfOperand : ByteArray := prog_3_method_12_code
def yX1_kindsOfOperand : MethodName := ⟨RX1, "kindsOfOperand", "(LLaneMachine$Program;III)I"⟩
abbrev cX1_lengthsOf : ByteArray := prog_3_method_13_code
def yX1_lengthsOf : MethodName := ⟨RX1, "lengthsOf", "(II)I"⟩
def RX2 : String := "LaneMachine$Lanes"
def TX2 : u_T := fun k => match k with
  | 0 => ("LaneMachine$Lanes", "state", "LLaneMachine$State;", true)
  | 1 => ("LaneMachine$Lanes", "cell", "[J", true)
  | 2 => ("LaneMachine$Lanes", "lane", "I", false)
  | 3 => ("LaneMachine$Lanes", "written", "I", false)
  | 4 => ("LaneMachine$Lanes", "rows", "[LLaneMachine$Row;", true)
  | 5 => ("LaneMachine$Lanes", "elements", "LLaneMachine$Row;", false)
  | 6 => ("LaneMachine$Lanes", "maskNumber", "I", false)
  | 7 => ("LaneMachine$Lanes", "scalarNumber", "I", false)
  | 8 => ("LaneMachine$Lanes", "on", "I", false)
  | 9 => ("LaneMachine$Lanes", "fault", "I", false)
  | 10 => ("LaneMachine$Lanes", "left", "[J", true)
  | 11 => ("LaneMachine$Lanes", "right", "[J", true)
  | 12 => ("LaneMachine$Lanes", "total", "J", false)
  | _ => ("LaneMachine$Lanes", "begun", "Z", false)
def tyX2 : Nat → FieldType := fun k => match k with
  | 0 => .object "LaneMachine$State"
  | 1 => .array .long
  | 2 => .int
  | 3 => .int
  | 4 => .array (.object "LaneMachine$Row")
  | 5 => .object "LaneMachine$Row"
  | 6 => .int
  | 7 => .int
  | 8 => .int
  | 9 => .int
  | 10 => .array .long
  | 11 => .array .long
  | 12 => .long
  | _ => .boolean
theorem nmX2 : ∀ a, a < 14 → ∀ b, b < 14 → a ≠ b → (TX2 a).2.1 ≠ (TX2 b).2.1 := by decide +kernel
theorem tyX2_ok : ∀ k, k < 14 → parseFieldDescriptor (TX2 k).2.2.1 = some (tyX2 k) := by decide +kernel
abbrev cX2_init : ByteArray := prog_4_method_1_code
def yX2_init : MethodName := ⟨RX2, "<init>", "()V"⟩
abbrev cX2_bind : ByteArray := prog_4_method_2_code
def yX2_bind : MethodName := ⟨RX2, "bind", "(LLaneMachine$Op;)I"⟩
abbrev cX2_misfit : ByteArray := prog_4_method_3_code
def yX2_misfit : MethodName := ⟨RX2, "misfit", "(LLaneMachine$Op;)I"⟩
abbrev cX2_below : ByteArray := prog_4_method_4_code
def yX2_below : MethodName := ⟨RX2, "below", "(I)I"⟩
abbrev cX2_isOn : ByteArray := prog_4_method_5_code
def yX2_isOn : MethodName := ⟨RX2, "isOn", "(I)Z"⟩
abbrev cX2_isInMask : ByteArray := prog_4_method_6_code
def yX2_isInMask : MethodName := ⟨RX2, "isInMask", "(I)Z"⟩
abbrev cX2_makeLanes : ByteArray := prog_4_method_7_code
def yX2_makeLanes : MethodName := ⟨RX2, "makeLanes", "(LLaneMachine$Op;)I"⟩
abbrev cX2_made : ByteArray := prog_4_method_8_code
def yX2_made : MethodName := ⟨RX2, "made", "(LLaneMachine$Op;I)J"⟩
abbrev cX2_fetched : ByteArray := prog_4_method_9_code
def yX2_fetched : MethodName := ⟨RX2, "fetched", "(LLaneMachine$Op;I)J"⟩
abbrev cX2_ofWholes : ByteArray := prog_4_method_10_code
def yX2_ofWholes : MethodName := ⟨RX2, "ofWholes", "(LLaneMachine$Op;IJJ)J"⟩
abbrev cX2_ofReals : ByteArray := prog_4_method_11_code
def yX2_ofReals : MethodName := ⟨RX2, "ofReals", "(LLaneMachine$Op;IJJ)J"⟩
abbrev cX2_ranged : ByteArray := prog_4_method_12_code
def yX2_ranged : MethodName := ⟨RX2, "ranged", "(IJ)J"⟩
abbrev cX2_added : ByteArray := prog_4_method_13_code
def yX2_added : MethodName := ⟨RX2, "added", "(IJJ)J"⟩
abbrev cX2_rooted : ByteArray := prog_4_method_14_code
def yX2_rooted : MethodName := ⟨RX2, "rooted", "(IJ)J"⟩
abbrev cX2_shifted : ByteArray := prog_4_method_15_code
def yX2_shifted : MethodName := ⟨RX2, "shifted", "(LLaneMachine$Op;IJ)J"⟩
abbrev cX2_element : ByteArray := prog_4_method_16_code
def yX2_element : MethodName := ⟨RX2, "element", "(LLaneMachine$Op;I)I"⟩
abbrev cX2_perform : ByteArray := prog_4_method_17_code
def yX2_perform : MethodName := ⟨RX2, "perform", "(LLaneMachine$Op;)I"⟩
abbrev cX2_compare : ByteArray := prog_4_method_18_code
def yX2_compare : MethodName := ⟨RX2, "compare", "(LLaneMachine$Op;)V"⟩
abbrev cX2_isSo : ByteArray := prog_4_method_19_code
def yX2_isSo : MethodName := ⟨RX2, "isSo", "(LLaneMachine$Op;JJ)Z"⟩
abbrev cX2_select : ByteArray := prog_4_method_20_code
def yX2_select : MethodName := ⟨RX2, "select", "()V"⟩
abbrev cX2_store : ByteArray := prog_4_method_21_code
def yX2_store : MethodName := ⟨RX2, "store", "(LLaneMachine$Op;)V"⟩
abbrev cX2_pack : ByteArray := prog_4_method_22_code
def yX2_pack : MethodName := ⟨RX2, "pack", "()V"⟩
abbrev cX2_spread : ByteArray := prog_4_method_23_code
def yX2_spread : MethodName := ⟨RX2, "spread", "()V"⟩
abbrev cX2_sort : ByteArray := prog_4_method_24_code
def yX2_sort : MethodName := ⟨RX2, "sort", "()V"⟩
abbrev cX2_halve : ByteArray := prog_4_method_25_code
def yX2_halve : MethodName := ⟨RX2, "halve", "()V"⟩
abbrev cX2_fold : ByteArray := prog_4_method_26_code
def yX2_fold : MethodName := ⟨RX2, "fold", "(LLaneMachine$Op;)V"⟩
abbrev cX2_moveOne : ByteArray := prog_4_method_27_code
def yX2_moveOne : MethodName := ⟨RX2, "moveOne", "(LLaneMachine$Op;)V"⟩
def RX3 : String := "LaneMachine$Numbers"
def TX3 : u_T := fun k => match k with
  | _ => ("", "", "", false)
def tyX3 : Nat → FieldType := fun k => match k with
  | _ => .int
theorem nmX3 : ∀ a, a < 0 → ∀ b, b < 0 → a ≠ b → (TX3 a).2.1 ≠ (TX3 b).2.1 := by decide +kernel
theorem tyX3_ok : ∀ k, k < 0 → parseFieldDescriptor (TX3 k).2.2.1 = some (tyX3 k) := by decide +kernel
abbrev cX3_isReal : ByteArray := prog_5_method_2_code
def yX3_isReal : MethodName := ⟨RX3, "isReal", "(I)Z"⟩
abbrev cX3_width : ByteArray := prog_5_method_3_code
def yX3_width : MethodName := ⟨RX3, "width", "(I)I"⟩
abbrev cX3_lowBits : ByteArray := prog_5_method_4_code
def yX3_lowBits : MethodName := ⟨RX3, "lowBits", "(IJ)J"⟩
abbrev cX3_hold : ByteArray := prog_5_method_5_code
def yX3_hold : MethodName := ⟨RX3, "hold", "(IJ)J"⟩
abbrev cX3_put : ByteArray := prog_5_method_6_code
def yX3_put : MethodName := ⟨RX3, "put", "(IJ)J"⟩
abbrev cX3_cast : ByteArray := prog_5_method_7_code
def yX3_cast : MethodName := ⟨RX3, "cast", "(IIJ)J"⟩
abbrev cX3_turned : ByteArray := prog_5_method_8_code
def yX3_turned : MethodName := ⟨RX3, "turned", "(IJ)J"⟩
abbrev cX3_withoutSign : ByteArray := prog_5_method_9_code
def yX3_withoutSign : MethodName := ⟨RX3, "withoutSign", "(IJ)J"⟩
abbrev cX3_order : ByteArray := prog_5_method_10_code
def yX3_order : MethodName := ⟨RX3, "order", "(IJ)J"⟩
abbrev cX3_value : ByteArray := prog_5_method_11_code
def yX3_value : MethodName := ⟨RX3, "value", "(IJ)J"⟩
abbrev cX3_isZero : ByteArray := prog_5_method_12_code
def yX3_isZero : MethodName := ⟨RX3, "isZero", "(IJ)Z"⟩
abbrev cX3_isInfinite : ByteArray := prog_5_method_13_code
def yX3_isInfinite : MethodName := ⟨RX3, "isInfinite", "(IJ)Z"⟩
abbrev cX3_signBits : ByteArray := prog_5_method_14_code
def yX3_signBits : MethodName := ⟨RX3, "signBits", "(I)J"⟩
abbrev cX3_magnitude : ByteArray := prog_5_method_15_code
def yX3_magnitude : MethodName := ⟨RX3, "magnitude", "(IJ)J"⟩
abbrev cX3_infinite : ByteArray := prog_5_method_16_code
def yX3_infinite : MethodName := ⟨RX3, "infinite", "(I)J"⟩
abbrev cX3_fractionBits : ByteArray := prog_5_method_17_code
def yX3_fractionBits : MethodName := ⟨RX3, "fractionBits", "(I)I"⟩
abbrev cX3_leastExponent : ByteArray := prog_5_method_18_code
def yX3_leastExponent : MethodName := ⟨RX3, "leastExponent", "(I)I"⟩
abbrev cX3_significand : ByteArray := prog_5_method_19_code
def yX3_significand : MethodName := ⟨RX3, "significand", "(IJ)J"⟩
abbrev cX3_exponent : ByteArray := prog_5_method_20_code
def yX3_exponent : MethodName := ⟨RX3, "exponent", "(IJ)I"⟩
abbrev cX3_pack : ByteArray := prog_5_method_21_code
def yX3_pack : MethodName := ⟨RX3, "pack", "(IZJI)J"⟩
abbrev cX3_real : ByteArray := prog_5_method_22_code
def yX3_real : MethodName := ⟨RX3, "real", "(IJ)J"⟩
abbrev cX3_whole : ByteArray := prog_5_method_23_code
def yX3_whole : MethodName := ⟨RX3, "whole", "(IJ)J"⟩
abbrev cX3_sum : ByteArray := prog_5_method_24_code
def yX3_sum : MethodName := ⟨RX3, "sum", "(IJJ)J"⟩
abbrev cX3_moved : ByteArray := prog_5_method_25_code
def yX3_moved : MethodName := ⟨RX3, "moved", "(JI)J"⟩
abbrev cX3_product : ByteArray := prog_5_method_26_code
def yX3_product : MethodName := ⟨RX3, "product", "(IJJ)J"⟩
abbrev cX3_quotient : ByteArray := prog_5_method_27_code
def yX3_quotient : MethodName := ⟨RX3, "quotient", "(IJJ)J"⟩
abbrev cX3_rest : ByteArray := prog_5_method_28_code
def yX3_rest : MethodName := ⟨RX3, "rest", "(IJJ)J"⟩
abbrev cX3_root : ByteArray := prog_5_method_29_code
def yX3_root : MethodName := ⟨RX3, "root", "(IJ)J"⟩
def RX4 : String := "LaneMachine$Op"
def TX4 : u_T := fun k => match k with
  | _ => ("", "", "", false)
def tyX4 : Nat → FieldType := fun k => match k with
  | _ => .int
theorem nmX4 : ∀ a, a < 0 → ∀ b, b < 0 → a ≠ b → (TX4 a).2.1 ≠ (TX4 b).2.1 := by decide +kernel
theorem tyX4_ok : ∀ k, k < 0 → parseFieldDescriptor (TX4 k).2.2.1 = some (tyX4 k) := by decide +kernel
abbrev cX4_letter : ByteArray := prog_6_method_4_code
def yX4_letter : MethodName := ⟨RX4, "letter", "(I)C"⟩
abbrev cX4_leadCell : ByteArray := prog_6_method_5_code
def yX4_leadCell : MethodName := ⟨RX4, "leadCell", "()I"⟩
abbrev cX4_makesLanes : ByteArray := prog_6_method_6_code
def yX4_makesLanes : MethodName := ⟨RX4, "makesLanes", "()Z"⟩
abbrev cX4_storesLanes : ByteArray := prog_6_method_7_code
def yX4_storesLanes : MethodName := ⟨RX4, "storesLanes", "()Z"⟩
abbrev cX4_target : ByteArray := prog_6_method_8_code
def yX4_target : MethodName := ⟨RX4, "target", "()C"⟩
abbrev cX4_isRegister : ByteArray := prog_6_method_9_code
def yX4_isRegister : MethodName := ⟨RX4, "isRegister", "(C)Z"⟩
abbrev cX4_isShared : ByteArray := prog_6_method_10_code
def yX4_isShared : MethodName := ⟨RX4, "isShared", "(C)Z"⟩
abbrev cX4_kinds : ByteArray := prog_6_method_11_code
def yX4_kinds : MethodName := ⟨RX4, "kinds", "(C)I"⟩
def RX5 : String := "LaneMachine$Processor"
def TX5 : u_T := fun k => match k with
  | 0 => ("LaneMachine$Processor", "program", "LLaneMachine$Program;", true)
  | 1 => ("LaneMachine$Processor", "trail", "LLaneMachine$Trail;", true)
  | 2 => ("LaneMachine$Processor", "pc", "I", false)
  | 3 => ("LaneMachine$Processor", "open", "I", false)
  | 4 => ("LaneMachine$Processor", "steps", "I", false)
  | 5 => ("LaneMachine$Processor", "lanesDone", "I", false)
  | 6 => ("LaneMachine$Processor", "ended", "Z", false)
  | 7 => ("LaneMachine$Processor", "fault", "I", false)
  | 8 => ("LaneMachine$Processor", "faultPlace", "I", false)
  | 9 => ("LaneMachine$Processor", "faultLane", "I", false)
  | 10 => ("LaneMachine$Processor", "lanes", "LLaneMachine$Lanes;", true)
  | 11 => ("LaneMachine$Processor", "state", "LLaneMachine$State;", true)
  | 12 => ("LaneMachine$Processor", "cell", "[J", true)
  | 13 => ("LaneMachine$Processor", "masks", "[I", true)
  | 14 => ("LaneMachine$Processor", "scalars", "[J", true)
  | _ => ("LaneMachine$Processor", "returns", "[I", true)
def tyX5 : Nat → FieldType := fun k => match k with
  | 0 => .object "LaneMachine$Program"
  | 1 => .object "LaneMachine$Trail"
  | 2 => .int
  | 3 => .int
  | 4 => .int
  | 5 => .int
  | 6 => .boolean
  | 7 => .int
  | 8 => .int
  | 9 => .int
  | 10 => .object "LaneMachine$Lanes"
  | 11 => .object "LaneMachine$State"
  | 12 => .array .long
  | 13 => .array .int
  | 14 => .array .long
  | _ => .array .int
theorem nmX5 : ∀ a, a < 16 → ∀ b, b < 16 → a ≠ b → (TX5 a).2.1 ≠ (TX5 b).2.1 := by decide +kernel
theorem tyX5_ok : ∀ k, k < 16 → parseFieldDescriptor (TX5 k).2.2.1 = some (tyX5 k) := by decide +kernel
abbrev cX5_init : ByteArray := prog_7_method_1_code
def yX5_init : MethodName := ⟨RX5, "<init>", "()V"⟩
abbrev cX5_startOver : ByteArray := prog_7_method_2_code
def yX5_startOver : MethodName := ⟨RX5, "startOver", "()V"⟩
abbrev cX5_step : ByteArray := prog_7_method_3_code
def yX5_step : MethodName := ⟨RX5, "step", "()I"⟩
abbrev cX5_changedOneOf : ByteArray := prog_7_method_4_code
def yX5_changedOneOf : MethodName := ⟨RX5, "changedOneOf", "([J)Z"⟩
abbrev cX5_takeBack : ByteArray := prog_7_method_5_code
def yX5_takeBack : MethodName := ⟨RX5, "takeBack", "()I"⟩
abbrev cX5_latestReturn : ByteArray := prog_7_method_6_code
def yX5_latestReturn : MethodName := ⟨RX5, "latestReturn", "()I"⟩
abbrev cX5_useMasks : ByteArray := prog_7_method_7_code
def yX5_useMasks : MethodName := ⟨RX5, "useMasks", "(LLaneMachine$Op;)V"⟩
abbrev cX5_useScalars : ByteArray := prog_7_method_8_code
def yX5_useScalars : MethodName := ⟨RX5, "useScalars", "(LLaneMachine$Op;)I"⟩
abbrev cX5_lead : ByteArray := prog_7_method_9_code
def yX5_lead : MethodName := ⟨RX5, "lead", "(LLaneMachine$Op;)I"⟩
abbrev cX5_isSo : ByteArray := prog_7_method_10_code
def yX5_isSo : MethodName := ⟨RX5, "isSo", "(LLaneMachine$Op;JJ)Z"⟩
def RX6 : String := "LaneMachine$Program"
def TX6 : u_T := fun k => match k with
  | 0 => ("LaneMachine$Program", "size", "I", false)
  | 1 => ("LaneMachine$Program", "labels", "I", false)
  | _ => ("LaneMachine$Program", "cells", "[J", true)
def tyX6 : Nat → FieldType := fun k => match k with
  | 0 => .int
  | 1 => .int
  | _ => .array .long
theorem nmX6 : ∀ a, a < 3 → ∀ b, b < 3 → a ≠ b → (TX6 a).2.1 ≠ (TX6 b).2.1 := by decide +kernel
theorem tyX6_ok : ∀ k, k < 3 → parseFieldDescriptor (TX6 k).2.2.1 = some (tyX6 k) := by decide +kernel
abbrev cX6_init : ByteArray := prog_8_method_1_code
def yX6_init : MethodName := ⟨RX6, "<init>", "()V"⟩
abbrev cX6_has : ByteArray := prog_8_method_2_code
def yX6_has : MethodName := ⟨RX6, "has", "(I)Z"⟩
abbrev cX6_op : ByteArray := prog_8_method_3_code
def yX6_op : MethodName := ⟨RX6, "op", "(I)LLaneMachine$Op;"⟩
abbrev cX6_cell : ByteArray := prog_8_method_4_code
def yX6_cell : MethodName := ⟨RX6, "cell", "(II)J"⟩
abbrev cX6_write : ByteArray := prog_8_method_5_code
def yX6_write : MethodName := ⟨RX6, "write", "(IIJ)V"⟩
abbrev cX6_read : ByteArray := prog_8_method_6_code
def yX6_read : MethodName := ⟨RX6, "read", "(I[J)V"⟩
abbrev cX6_add : ByteArray := prog_8_method_7_code
def yX6_add : MethodName := ⟨RX6, "add", "(I)V"⟩
abbrev cX6_copyFrom : ByteArray := prog_8_method_8_code
def yX6_copyFrom : MethodName := ⟨RX6, "copyFrom", "(LLaneMachine$Program;)V"⟩
abbrev cX6_lead : ByteArray := prog_8_method_9_code
def yX6_lead : MethodName := ⟨RX6, "lead", "(I)I"⟩
abbrev cX6_isLedTo : ByteArray := prog_8_method_10_code
def yX6_isLedTo : MethodName := ⟨RX6, "isLedTo", "(I)Z"⟩
abbrev cX6_slimAll : ByteArray := prog_8_method_11_code
def yX6_slimAll : MethodName := ⟨RX6, "slimAll", "()I"⟩
abbrev cX6_needlessAt : ByteArray := prog_8_method_12_code
def yX6_needlessAt : MethodName := ⟨RX6, "needlessAt", "(I)I"⟩
abbrev cX6_remove : ByteArray := prog_8_method_13_code
def yX6_remove : MethodName := ⟨RX6, "remove", "(II)V"⟩
def RX7 : String := "LaneMachine$Reader"
def TX7 : u_T := fun k => match k with
  | 0 => ("LaneMachine$Reader", "held", "I", false)
  | 1 => ("LaneMachine$Reader", "program", "LLaneMachine$Program;", true)
  | 2 => ("LaneMachine$Reader", "tape", "[I", true)
  | 3 => ("LaneMachine$Reader", "size", "I", false)
  | 4 => ("LaneMachine$Reader", "at", "I", false)
  | 5 => ("LaneMachine$Reader", "token", "C", false)
  | 6 => ("LaneMachine$Reader", "start", "I", false)
  | 7 => ("LaneMachine$Reader", "over", "Z", false)
  | 8 => ("LaneMachine$Reader", "labels", "I", false)
  | 9 => ("LaneMachine$Reader", "labelStarts", "[I", true)
  | _ => ("LaneMachine$Reader", "labelLeads", "[I", true)
def tyX7 : Nat → FieldType := fun k => match k with
  | 0 => .int
  | 1 => .object "LaneMachine$Program"
  | 2 => .array .int
  | 3 => .int
  | 4 => .int
  | 5 => .char
  | 6 => .int
  | 7 => .boolean
  | 8 => .int
  | 9 => .array .int
  | _ => .array .int
theorem nmX7 : ∀ a, a < 11 → ∀ b, b < 11 → a ≠ b → (TX7 a).2.1 ≠ (TX7 b).2.1 := by decide +kernel
theorem tyX7_ok : ∀ k, k < 11 → parseFieldDescriptor (TX7 k).2.2.1 = some (tyX7 k) := by decide +kernel
abbrev cX7_init : ByteArray := prog_9_method_1_code
def yX7_init : MethodName := ⟨RX7, "<init>", "()V"⟩
abbrev cX7_hold : ByteArray := prog_9_method_2_code
def yX7_hold : MethodName := ⟨RX7, "hold", "(I)V"⟩
abbrev cX7_translate : ByteArray := prog_9_method_3_code
def yX7_translate : MethodName := ⟨RX7, "translate", "(I)I"⟩
abbrev cX7_readLine : ByteArray := prog_9_method_4_code
def yX7_readLine : MethodName := ⟨RX7, "readLine", "()Z"⟩
abbrev cX7_readInstruction : ByteArray := prog_9_method_5_code
def yX7_readInstruction : MethodName := ⟨RX7, "readInstruction", "()Z"⟩
abbrev cX7_readMask : ByteArray := prog_9_method_6_code
def yX7_readMask : MethodName := ⟨RX7, "readMask", "(I)Z"⟩
abbrev cX7_operand : ByteArray := prog_9_method_7_code
def yX7_operand : MethodName := ⟨RX7, "operand", "(C)J"⟩
abbrev cX7_numbered : ByteArray := prog_9_method_8_code
def yX7_numbered : MethodName := ⟨RX7, "numbered", "(CI)J"⟩
abbrev cX7_kind : ByteArray := prog_9_method_9_code
def yX7_kind : MethodName := ⟨RX7, "kind", "()J"⟩
abbrev cX7_number : ByteArray := prog_9_method_10_code
def yX7_number : MethodName := ⟨RX7, "number", "(JJ)J"⟩
abbrev cX7_numberOfWord : ByteArray := prog_9_method_11_code
def yX7_numberOfWord : MethodName := ⟨RX7, "numberOfWord", "()I"⟩
abbrev cX7_isToken : ByteArray := prog_9_method_12_code
def yX7_isToken : MethodName := ⟨RX7, "isToken", "(Ljava/lang/String;)Z"⟩
abbrev cX7_addLabel : ByteArray := prog_9_method_13_code
def yX7_addLabel : MethodName := ⟨RX7, "addLabel", "()Z"⟩
abbrev cX7_labelLike : ByteArray := prog_9_method_14_code
def yX7_labelLike : MethodName := ⟨RX7, "labelLike", "(I)I"⟩
abbrev cX7_isSameWord : ByteArray := prog_9_method_15_code
def yX7_isSameWord : MethodName := ⟨RX7, "isSameWord", "(II)Z"⟩
abbrev cX7_setLeads : ByteArray := prog_9_method_16_code
def yX7_setLeads : MethodName := ⟨RX7, "setLeads", "()I"⟩
abbrev cX7_advance : ByteArray := prog_9_method_17_code
def yX7_advance : MethodName := ⟨RX7, "advance", "()V"⟩
abbrev cX7_skipLine : ByteArray := prog_9_method_18_code
def yX7_skipLine : MethodName := ⟨RX7, "skipLine", "()V"⟩
abbrev cX7_isColonNext : ByteArray := prog_9_method_19_code
def yX7_isColonNext : MethodName := ⟨RX7, "isColonNext", "()Z"⟩
abbrev cX7_byteAt : ByteArray := prog_9_method_20_code
def yX7_byteAt : MethodName := ⟨RX7, "byteAt", "(I)I"⟩
abbrev cX7_isLetter : ByteArray := prog_9_method_21_code
def yX7_isLetter : MethodName := ⟨RX7, "isLetter", "(I)Z"⟩
abbrev cX7_isDigit : ByteArray := prog_9_method_22_code
def yX7_isDigit : MethodName := ⟨RX7, "isDigit", "(I)Z"⟩
abbrev cX7_isOfWord : ByteArray := prog_9_method_23_code
def yX7_isOfWord : MethodName := ⟨RX7, "isOfWord", "(I)Z"⟩
def RX8 : String := "LaneMachine$Row"
def TX8 : u_T := fun k => match k with
  | 0 => ("LaneMachine$Row", "kind", "I", false)
  | 1 => ("LaneMachine$Row", "length", "I", false)
  | _ => ("LaneMachine$Row", "items", "[J", true)
def tyX8 : Nat → FieldType := fun k => match k with
  | 0 => .int
  | 1 => .int
  | _ => .array .long
theorem nmX8 : ∀ a, a < 3 → ∀ b, b < 3 → a ≠ b → (TX8 a).2.1 ≠ (TX8 b).2.1 := by decide +kernel
theorem tyX8_ok : ∀ k, k < 3 → parseFieldDescriptor (TX8 k).2.2.1 = some (tyX8 k) := by decide +kernel
abbrev cX8_init : ByteArray := prog_10_method_1_code
def yX8_init : MethodName := ⟨RX8, "<init>", "()V"⟩
abbrev cX8_has : ByteArray := prog_10_method_2_code
def yX8_has : MethodName := ⟨RX8, "has", "(I)Z"⟩
abbrev cX8_make : ByteArray := prog_10_method_3_code
def yX8_make : MethodName := ⟨RX8, "make", "(II)V"⟩
abbrev cX8_unmake : ByteArray := prog_10_method_4_code
def yX8_unmake : MethodName := ⟨RX8, "unmake", "()V"⟩
abbrev cX8_reach : ByteArray := prog_10_method_5_code
def yX8_reach : MethodName := ⟨RX8, "reach", "(I)V"⟩
abbrev cX8_copyFrom : ByteArray := prog_10_method_6_code
def yX8_copyFrom : MethodName := ⟨RX8, "copyFrom", "(LLaneMachine$Row;)V"⟩
abbrev cX8_isAs : ByteArray := prog_10_method_7_code
def yX8_isAs : MethodName := ⟨RX8, "isAs", "(LLaneMachine$Row;)Z"⟩
def RX9 : String := "LaneMachine$Saved"
def TX9 : u_T := fun k => match k with
  | 0 => ("LaneMachine$Saved", "sort", "C", false)
  | 1 => ("LaneMachine$Saved", "number", "I", false)
  | 2 => ("LaneMachine$Saved", "value", "J", false)
  | _ => ("LaneMachine$Saved", "row", "LLaneMachine$Row;", true)
def tyX9 : Nat → FieldType := fun k => match k with
  | 0 => .char
  | 1 => .int
  | 2 => .long
  | _ => .object "LaneMachine$Row"
theorem nmX9 : ∀ a, a < 4 → ∀ b, b < 4 → a ≠ b → (TX9 a).2.1 ≠ (TX9 b).2.1 := by decide +kernel
theorem tyX9_ok : ∀ k, k < 4 → parseFieldDescriptor (TX9 k).2.2.1 = some (tyX9 k) := by decide +kernel
abbrev cX9_init : ByteArray := prog_11_method_1_code
def yX9_init : MethodName := ⟨RX9, "<init>", "()V"⟩
abbrev cX9_clear : ByteArray := prog_11_method_2_code
def yX9_clear : MethodName := ⟨RX9, "clear", "()V"⟩
abbrev cX9_isClear : ByteArray := prog_11_method_3_code
def yX9_isClear : MethodName := ⟨RX9, "isClear", "()Z"⟩
abbrev cX9_take : ByteArray := prog_11_method_4_code
def yX9_take : MethodName := ⟨RX9, "take", "(LLaneMachine$State;CI)V"⟩
abbrev cX9_giveBack : ByteArray := prog_11_method_5_code
def yX9_giveBack : MethodName := ⟨RX9, "giveBack", "(LLaneMachine$State;)V"⟩
abbrev cX9_isChanged : ByteArray := prog_11_method_6_code
def yX9_isChanged : MethodName := ⟨RX9, "isChanged", "(LLaneMachine$State;[J)Z"⟩
def RX10 : String := "LaneMachine$State"
def TX10 : u_T := fun k => match k with
  | 0 => ("LaneMachine$State", "registers", "[LLaneMachine$Row;", true)
  | 1 => ("LaneMachine$State", "arrays", "[LLaneMachine$Row;", true)
  | 2 => ("LaneMachine$State", "masks", "[I", true)
  | _ => ("LaneMachine$State", "scalars", "[J", true)
def tyX10 : Nat → FieldType := fun k => match k with
  | 0 => .array (.object "LaneMachine$Row")
  | 1 => .array (.object "LaneMachine$Row")
  | 2 => .array .int
  | _ => .array .long
theorem nmX10 : ∀ a, a < 4 → ∀ b, b < 4 → a ≠ b → (TX10 a).2.1 ≠ (TX10 b).2.1 := by decide +kernel
theorem tyX10_ok : ∀ k, k < 4 → parseFieldDescriptor (TX10 k).2.2.1 = some (tyX10 k) := by decide +kernel
abbrev cX10_init : ByteArray := prog_12_method_1_code
def yX10_init : MethodName := ⟨RX10, "<init>", "()V"⟩
abbrev cX10_copyFrom : ByteArray := prog_12_method_2_code
def yX10_copyFrom : MethodName := ⟨RX10, "copyFrom", "(LLaneMachine$State;)V"⟩
abbrev cX10_clearRegisters : ByteArray := prog_12_method_3_code
def yX10_clearRegisters : MethodName := ⟨RX10, "clearRegisters", "()V"⟩
abbrev cX10_firstDifference : ByteArray := prog_12_method_4_code
def yX10_firstDifference : MethodName := ⟨RX10, "firstDifference", "(LLaneMachine$State;)I"⟩
abbrev cX10_areAlike : ByteArray := prog_12_method_5_code
def yX10_areAlike : MethodName := ⟨RX10, "areAlike", "([LLaneMachine$Row;[LLaneMachine$Row;)Z"⟩
abbrev cX10_elements : ByteArray := prog_12_method_6_code
def yX10_elements : MethodName := ⟨RX10, "elements", "()I"⟩
abbrev cX10_firstFreeArray : ByteArray := prog_12_method_7_code
def yX10_firstFreeArray : MethodName := ⟨RX10, "firstFreeArray", "()I"⟩
def RX11 : String := "LaneMachine$Trail"
def TX11 : u_T := fun k => match k with
  | 0 => ("LaneMachine$Trail", "held", "I", false)
  | 1 => ("LaneMachine$Trail", "places", "[I", true)
  | 2 => ("LaneMachine$Trail", "lanes", "[I", true)
  | 3 => ("LaneMachine$Trail", "opens", "[I", true)
  | 4 => ("LaneMachine$Trail", "returns", "[I", true)
  | 5 => ("LaneMachine$Trail", "next", "LLaneMachine$Saved;", false)
  | 6 => ("LaneMachine$Trail", "latest", "I", false)
  | 7 => ("LaneMachine$Trail", "ahead", "[LLaneMachine$Saved;", true)
  | _ => ("LaneMachine$Trail", "behind", "[LLaneMachine$Saved;", true)
def tyX11 : Nat → FieldType := fun k => match k with
  | 0 => .int
  | 1 => .array .int
  | 2 => .array .int
  | 3 => .array .int
  | 4 => .array .int
  | 5 => .object "LaneMachine$Saved"
  | 6 => .int
  | 7 => .array (.object "LaneMachine$Saved")
  | _ => .array (.object "LaneMachine$Saved")
theorem nmX11 : ∀ a, a < 9 → ∀ b, b < 9 → a ≠ b → (TX11 a).2.1 ≠ (TX11 b).2.1 := by decide +kernel
theorem tyX11_ok : ∀ k, k < 9 → parseFieldDescriptor (TX11 k).2.2.1 = some (tyX11 k) := by decide +kernel
abbrev cX11_init : ByteArray := prog_13_method_1_code
def yX11_init : MethodName := ⟨RX11, "<init>", "()V"⟩
abbrev cX11_empty : ByteArray := prog_13_method_2_code
def yX11_empty : MethodName := ⟨RX11, "empty", "()V"⟩
abbrev cX11_slot : ByteArray := prog_13_method_3_code
def yX11_slot : MethodName := ⟨RX11, "slot", "(I)I"⟩
abbrev cX11_add : ByteArray := prog_13_method_4_code
def yX11_add : MethodName := ⟨RX11, "add", "(IIII)V"⟩
abbrev cX11_addFault : ByteArray := prog_13_method_5_code
def yX11_addFault : MethodName := ⟨RX11, "addFault", "()V"⟩
abbrev cX11_drop : ByteArray := prog_13_method_6_code
def yX11_drop : MethodName := ⟨RX11, "drop", "(LLaneMachine$State;)I"⟩
abbrev cX11_aheadOfLatest : ByteArray := prog_13_method_7_code
def yX11_aheadOfLatest : MethodName := ⟨RX11, "aheadOfLatest", "()LLaneMachine$Saved;"⟩
def RX12 : String := "LaneMachine"
def TX12 : u_T := fun k => match k with
  | 0 => ("LaneMachine", "reader", "LLaneMachine$Reader;", true)
  | 1 => ("LaneMachine", "processor", "LLaneMachine$Processor;", true)
  | 2 => ("LaneMachine", "program", "LLaneMachine$Program;", true)
  | 3 => ("LaneMachine", "now", "LLaneMachine$State;", true)
  | 4 => ("LaneMachine", "made", "LLaneMachine$Program;", true)
  | 5 => ("LaneMachine", "flows", "LLaneMachine$Flow;", true)
  | 6 => ("LaneMachine", "kept", "[LLaneMachine$State;", true)
  | 7 => ("LaneMachine", "isKept", "[Z", true)
  | 8 => ("LaneMachine", "stops", "[Z", true)
  | 9 => ("LaneMachine", "watched", "[J", true)
  | _ => ("LaneMachine", "slimmed", "Z", false)
def tyX12 : Nat → FieldType := fun k => match k with
  | 0 => .object "LaneMachine$Reader"
  | 1 => .object "LaneMachine$Processor"
  | 2 => .object "LaneMachine$Program"
  | 3 => .object "LaneMachine$State"
  | 4 => .object "LaneMachine$Program"
  | 5 => .object "LaneMachine$Flow"
  | 6 => .array (.object "LaneMachine$State")
  | 7 => .array .boolean
  | 8 => .array .boolean
  | 9 => .array .long
  | _ => .boolean
theorem nmX12 : ∀ a, a < 11 → ∀ b, b < 11 → a ≠ b → (TX12 a).2.1 ≠ (TX12 b).2.1 := by decide +kernel
theorem tyX12_ok : ∀ k, k < 11 → parseFieldDescriptor (TX12 k).2.2.1 = some (tyX12 k) := by decide +kernel
abbrev cX12_init : ByteArray := prog_1_method_1_code
def yX12_init : MethodName := ⟨RX12, "<init>", "()V"⟩
abbrev cX12_feed : ByteArray := prog_1_method_2_code
def yX12_feed : MethodName := ⟨RX12, "feed", "(IIIII)Z"⟩
abbrev cX12_assemble : ByteArray := prog_1_method_3_code
def yX12_assemble : MethodName := ⟨RX12, "assemble", "(I)I"⟩
abbrev cX12_code : ByteArray := prog_1_method_4_code
def yX12_code : MethodName := ⟨RX12, "code", "(II)J"⟩
abbrev cX12_check : ByteArray := prog_1_method_5_code
def yX12_check : MethodName := ⟨RX12, "check", "()I"⟩
abbrev cX12_flow : ByteArray := prog_1_method_6_code
def yX12_flow : MethodName := ⟨RX12, "flow", "(II)I"⟩
abbrev cX12_slim : ByteArray := prog_1_method_7_code
def yX12_slim : MethodName := ⟨RX12, "slim", "()I"⟩
abbrev cX12_restore : ByteArray := prog_1_method_8_code
def yX12_restore : MethodName := ⟨RX12, "restore", "()Z"⟩
abbrev cX12_begin : ByteArray := prog_1_method_9_code
def yX12_begin : MethodName := ⟨RX12, "begin", "()V"⟩
abbrev cX12_run : ByteArray := prog_1_method_10_code
def yX12_run : MethodName := ⟨RX12, "run", "(I)I"⟩
abbrev cX12_back : ByteArray := prog_1_method_11_code
def yX12_back : MethodName := ⟨RX12, "back", "()I"⟩
abbrev cX12_fault : ByteArray := prog_1_method_12_code
def yX12_fault : MethodName := ⟨RX12, "fault", "(I)I"⟩
abbrev cX12_memory : ByteArray := prog_1_method_13_code
def yX12_memory : MethodName := ⟨RX12, "memory", "(II)I"⟩
abbrev cX12_free : ByteArray := prog_1_method_14_code
def yX12_free : MethodName := ⟨RX12, "free", "(I)Z"⟩
abbrev cX12_resize : ByteArray := prog_1_method_15_code
def yX12_resize : MethodName := ⟨RX12, "resize", "(II)I"⟩
abbrev cX12_poke : ByteArray := prog_1_method_16_code
def yX12_poke : MethodName := ⟨RX12, "poke", "(IIJ)Z"⟩
abbrev cX12_peek : ByteArray := prog_1_method_17_code
def yX12_peek : MethodName := ⟨RX12, "peek", "(II)J"⟩
abbrev cX12_array : ByteArray := prog_1_method_18_code
def yX12_array : MethodName := ⟨RX12, "array", "(II)I"⟩
abbrev cX12_scalar : ByteArray := prog_1_method_19_code
def yX12_scalar : MethodName := ⟨RX12, "scalar", "(IJ)Z"⟩
abbrev cX12_scalarOf : ByteArray := prog_1_method_20_code
def yX12_scalarOf : MethodName := ⟨RX12, "scalarOf", "(I)J"⟩
abbrev cX12_register : ByteArray := prog_1_method_21_code
def yX12_register : MethodName := ⟨RX12, "register", "(II)I"⟩
abbrev cX12_lane : ByteArray := prog_1_method_22_code
def yX12_lane : MethodName := ⟨RX12, "lane", "(II)J"⟩
abbrev cX12_mask : ByteArray := prog_1_method_23_code
def yX12_mask : MethodName := ⟨RX12, "mask", "(I)I"⟩
abbrev cX12_stop : ByteArray := prog_1_method_24_code
def yX12_stop : MethodName := ⟨RX12, "stop", "(IZ)Z"⟩
abbrev cX12_watch : ByteArray := prog_1_method_25_code
def yX12_watch : MethodName := ⟨RX12, "watch", "(IIZ)Z"⟩
abbrev cX12_trace : ByteArray := prog_1_method_26_code
def yX12_trace : MethodName := ⟨RX12, "trace", "(II)I"⟩
abbrev cX12_keep : ByteArray := prog_1_method_27_code
def yX12_keep : MethodName := ⟨RX12, "keep", "(I)Z"⟩
abbrev cX12_differs : ByteArray := prog_1_method_28_code
def yX12_differs : MethodName := ⟨RX12, "differs", "(II)I"⟩
abbrev cX12_count : ByteArray := prog_1_method_29_code
def yX12_count : MethodName := ⟨RX12, "count", "(I)I"⟩
abbrev cX12_startAnew : ByteArray := prog_1_method_30_code
def yX12_startAnew : MethodName := ⟨RX12, "startAnew", "()V"⟩
abbrev cX12_isStop : ByteArray := prog_1_method_31_code
def yX12_isStop : MethodName := ⟨RX12, "isStop", "(I)Z"⟩
abbrev cX12_stopsSet : ByteArray := prog_1_method_32_code
def yX12_stopsSet : MethodName := ⟨RX12, "stopsSet", "()I"⟩
abbrev cX12_watchesSet : ByteArray := prog_1_method_33_code
def yX12_watchesSet : MethodName := ⟨RX12, "watchesSet", "()I"⟩
abbrev cX12_isArray : ByteArray := prog_1_method_34_code
def yX12_isArray : MethodName := ⟨RX12, "isArray", "(I)Z"⟩
abbrev cX12_shape : ByteArray := prog_1_method_35_code
def yX12_shape : MethodName := ⟨RX12, "shape", "(LLaneMachine$Row;I)I"⟩
abbrev cX12_isThere : ByteArray := prog_1_method_36_code
def yX12_isThere : MethodName := ⟨RX12, "isThere", "(I)Z"⟩
abbrev cX12_stateOf : ByteArray := prog_1_method_37_code
def yX12_stateOf : MethodName := ⟨RX12, "stateOf", "(I)LLaneMachine$State;"⟩
def RX13 : String := "LaneMachineModel"
def TX13 : u_T := fun k => match k with
  | 0 => ("LaneMachineModel", "words", "[J", true)
  | 1 => ("LaneMachineModel", "operands", "[J", true)
  | 2 => ("LaneMachineModel", "thrown", "I", false)
  | 3 => ("LaneMachineModel", "tape", "[B", true)
  | 4 => ("LaneMachineModel", "taped", "I", false)
  | 5 => ("LaneMachineModel", "size", "I", false)
  | 6 => ("LaneMachineModel", "sort", "I", false)
  | 7 => ("LaneMachineModel", "from", "I", false)
  | 8 => ("LaneMachineModel", "to", "I", false)
  | 9 => ("LaneMachineModel", "isOver", "Z", false)
  | 10 => ("LaneMachineModel", "faultPlace", "I", false)
  | 11 => ("LaneMachineModel", "drafted", "I", false)
  | 12 => ("LaneMachineModel", "dOp", "[I", true)
  | 13 => ("LaneMachineModel", "dWith", "[J", true)
  | 14 => ("LaneMachineModel", "dMask", "[I", true)
  | 15 => ("LaneMachineModel", "labels", "I", false)
  | 16 => ("LaneMachineModel", "labelFrom", "[I", true)
  | 17 => ("LaneMachineModel", "labelTo", "[I", true)
  | 18 => ("LaneMachineModel", "labelAt", "[I", true)
  | 19 => ("LaneMachineModel", "uses", "I", false)
  | 20 => ("LaneMachineModel", "useFrom", "[I", true)
  | 21 => ("LaneMachineModel", "useTo", "[I", true)
  | 22 => ("LaneMachineModel", "useOf", "[I", true)
  | 23 => ("LaneMachineModel", "many", "I", false)
  | 24 => ("LaneMachineModel", "op", "[I", true)
  | 25 => ("LaneMachineModel", "with", "[J", true)
  | 26 => ("LaneMachineModel", "mask", "[I", true)
  | 27 => ("LaneMachineModel", "many0", "I", false)
  | 28 => ("LaneMachineModel", "op0", "[I", true)
  | 29 => ("LaneMachineModel", "with0", "[J", true)
  | 30 => ("LaneMachineModel", "mask0", "[I", true)
  | 31 => ("LaneMachineModel", "isSlim", "Z", false)
  | 32 => ("LaneMachineModel", "told", "I", false)
  | 33 => ("LaneMachineModel", "flows", "Z", false)
  | 34 => ("LaneMachineModel", "kinds", "[I", true)
  | 35 => ("LaneMachineModel", "lengths", "[I", true)
  | 36 => ("LaneMachineModel", "whole", "[J", true)
  | 37 => ("LaneMachineModel", "real", "[D", true)
  | 38 => ("LaneMachineModel", "aKinds", "[I", true)
  | 39 => ("LaneMachineModel", "aLengths", "[I", true)
  | 40 => ("LaneMachineModel", "masks", "[I", true)
  | 41 => ("LaneMachineModel", "scalars", "[J", true)
  | 42 => ("LaneMachineModel", "pc", "I", false)
  | 43 => ("LaneMachineModel", "calls", "[I", true)
  | 44 => ("LaneMachineModel", "open", "I", false)
  | 45 => ("LaneMachineModel", "steps", "J", false)
  | 46 => ("LaneMachineModel", "lanes", "J", false)
  | 47 => ("LaneMachineModel", "hasEnded", "Z", false)
  | 48 => ("LaneMachineModel", "fault", "I", false)
  | 49 => ("LaneMachineModel", "faultAt", "I", false)
  | 50 => ("LaneMachineModel", "faultLane", "I", false)
  | 51 => ("LaneMachineModel", "stops", "[Z", true)
  | 52 => ("LaneMachineModel", "watches", "[Z", true)
  | 53 => ("LaneMachineModel", "cWhole", "[J", true)
  | 54 => ("LaneMachineModel", "cReal", "[D", true)
  | 55 => ("LaneMachineModel", "cRest", "[I", true)
  | 56 => ("LaneMachineModel", "cSteps", "[J", true)
  | 57 => ("LaneMachineModel", "cLanes", "[J", true)
  | 58 => ("LaneMachineModel", "isKept", "[Z", true)
  | 59 => ("LaneMachineModel", "listed", "I", false)
  | 60 => ("LaneMachineModel", "newest", "I", false)
  | 61 => ("LaneMachineModel", "listOp", "[I", true)
  | 62 => ("LaneMachineModel", "listLanes", "[I", true)
  | 63 => ("LaneMachineModel", "rw", "J", false)
  | 64 => ("LaneMachineModel", "rd", "D", false)
  | 65 => ("LaneMachineModel", "xw", "[J", true)
  | 66 => ("LaneMachineModel", "xd", "[D", true)
  | 67 => ("LaneMachineModel", "yw", "[J", true)
  | 68 => ("LaneMachineModel", "yd", "[D", true)
  | 69 => ("LaneMachineModel", "wrote", "I", false)
  | 70 => ("LaneMachineModel", "oldMask", "I", false)
  | 71 => ("LaneMachineModel", "led", "I", false)
  | 72 => ("LaneMachineModel", "watched", "[J", true)
  | 73 => ("LaneMachineModel", "ways", "[Z", true)
  | 74 => ("LaneMachineModel", "isReached", "[Z", true)
  | _ => ("LaneMachineModel", "moreFlows", "Z", false)
def tyX13 : Nat → FieldType := fun k => match k with
  | 0 => .array .long
  | 1 => .array .long
  | 2 => .int
  | 3 => .array .byte
  | 4 => .int
  | 5 => .int
  | 6 => .int
  | 7 => .int
  | 8 => .int
  | 9 => .boolean
  | 10 => .int
  | 11 => .int
  | 12 => .array .int
  | 13 => .array .long
  | 14 => .array .int
  | 15 => .int
  | 16 => .array .int
  | 17 => .array .int
  | 18 => .array .int
  | 19 => .int
  | 20 => .array .int
  | 21 => .array .int
  | 22 => .array .int
  | 23 => .int
  | 24 => .array .int
  | 25 => .array .long
  | 26 => .array .int
  | 27 => .int
  | 28 => .array .int
  | 29 => .array .long
  | 30 => .array .int
  | 31 => .boolean
  | 32 => .int
  | 33 => .boolean
  | 34 => .array .int
  | 35 => .array .int
  | 36 => .array .long
  | 37 => .array .double
  | 38 => .array .int
  | 39 => .array .int
  | 40 => .array .int
  | 41 => .array .long
  | 42 => .int
  | 43 => .array .int
  | 44 => .int
  | 45 => .long
  | 46 => .long
  | 47 => .boolean
  | 48 => .int
  | 49 => .int
  | 50 => .int
  | 51 => .array .boolean
  | 52 => .array .boolean
  | 53 => .array .long
  | 54 => .array .double
  | 55 => .array .int
  | 56 => .array .long
  | 57 => .array .long
  | 58 => .array .boolean
  | 59 => .int
  | 60 => .int
  | 61 => .array .int
  | 62 => .array .int
  | 63 => .long
  | 64 => .double
  | 65 => .array .long
  | 66 => .array .double
  | 67 => .array .long
  | 68 => .array .double
  | 69 => .int
  | 70 => .int
  | 71 => .int
  | 72 => .array .long
  | 73 => .array .boolean
  | 74 => .array .boolean
  | _ => .boolean
theorem nmX13 : ∀ a, a < 76 → ∀ b, b < 76 → a ≠ b → (TX13 a).2.1 ≠ (TX13 b).2.1 := by decide +kernel
theorem tyX13_ok : ∀ k, k < 76 → parseFieldDescriptor (TX13 k).2.2.1 = some (tyX13 k) := by decide +kernel
abbrev cX13_init : ByteArray := prog_15_method_1_code
def yX13_init : MethodName := ⟨RX13, "<init>", "()V"⟩
abbrev cX13_thrown : ByteArray := prog_15_method_2_code
def yX13_thrown : MethodName := ⟨RX13, "thrown", "()I"⟩
abbrev cX13_in : ByteArray := prog_15_method_3_code
def yX13_in : MethodName := ⟨RX13, "in", "(JJJ)Z"⟩
abbrev cX13_feed : ByteArray := prog_15_method_4_code
def yX13_feed : MethodName := ⟨RX13, "feed", "(IIIII)Z"⟩
abbrev cX13_at : ByteArray := prog_15_method_5_code
def yX13_at : MethodName := ⟨RX13, "at", "(I)I"⟩
abbrev cX13_isSmall : ByteArray := prog_15_method_6_code
def yX13_isSmall : MethodName := ⟨RX13, "isSmall", "(I)Z"⟩
abbrev cX13_isDigit : ByteArray := prog_15_method_7_code
def yX13_isDigit : MethodName := ⟨RX13, "isDigit", "(I)Z"⟩
abbrev cX13_over : ByteArray := prog_15_method_8_code
def yX13_over : MethodName := ⟨RX13, "over", "(I)I"⟩
abbrev cX13_next : ByteArray := prog_15_method_9_code
def yX13_next : MethodName := ⟨RX13, "next", "()V"⟩
abbrev cX13_isSign : ByteArray := prog_15_method_10_code
def yX13_isSign : MethodName := ⟨RX13, "isSign", "(I)Z"⟩
abbrev cX13_wrong : ByteArray := prog_15_method_11_code
def yX13_wrong : MethodName := ⟨RX13, "wrong", "(I)V"⟩
abbrev cX13_instruction : ByteArray := prog_15_method_12_code
def yX13_instruction : MethodName := ⟨RX13, "instruction", "()I"⟩
abbrev cX13_isMasked : ByteArray := prog_15_method_13_code
def yX13_isMasked : MethodName := ⟨RX13, "isMasked", "(I)Z"⟩
abbrev cX13_isSame : ByteArray := prog_15_method_14_code
def yX13_isSame : MethodName := ⟨RX13, "isSame", "(IIII)Z"⟩
abbrev cX13_label : ByteArray := prog_15_method_15_code
def yX13_label : MethodName := ⟨RX13, "label", "(II)I"⟩
abbrev cX13_line : ByteArray := prog_15_method_16_code
def yX13_line : MethodName := ⟨RX13, "line", "()V"⟩
abbrev cX13_instructionLine : ByteArray := prog_15_method_17_code
def yX13_instructionLine : MethodName := ⟨RX13, "instructionLine", "()V"⟩
abbrev cX13_manyOf : ByteArray := prog_15_method_18_code
def yX13_manyOf : MethodName := ⟨RX13, "manyOf", "(I)I"⟩
abbrev cX13_letter : ByteArray := prog_15_method_19_code
def yX13_letter : MethodName := ⟨RX13, "letter", "(II)I"⟩
abbrev cX13_numbered : ByteArray := prog_15_method_20_code
def yX13_numbered : MethodName := ⟨RX13, "numbered", "(II)I"⟩
abbrev cX13_operand : ByteArray := prog_15_method_21_code
def yX13_operand : MethodName := ⟨RX13, "operand", "(III)V"⟩
abbrev cX13_kindNamed : ByteArray := prog_15_method_22_code
def yX13_kindNamed : MethodName := ⟨RX13, "kindNamed", "(I)I"⟩
abbrev cX13_kindOperand : ByteArray := prog_15_method_23_code
def yX13_kindOperand : MethodName := ⟨RX13, "kindOperand", "(I)V"⟩
abbrev cX13_numberOperand : ByteArray := prog_15_method_24_code
def yX13_numberOperand : MethodName := ⟨RX13, "numberOperand", "(II)V"⟩
abbrev cX13_assemble : ByteArray := prog_15_method_25_code
def yX13_assemble : MethodName := ⟨RX13, "assemble", "(I)I"⟩
abbrev cX13_asAssembled : ByteArray := prog_15_method_26_code
def yX13_asAssembled : MethodName := ⟨RX13, "asAssembled", "()V"⟩
abbrev cX13_anew : ByteArray := prog_15_method_27_code
def yX13_anew : MethodName := ⟨RX13, "anew", "()V"⟩
abbrev cX13_code : ByteArray := prog_15_method_28_code
def yX13_code : MethodName := ⟨RX13, "code", "(II)J"⟩
abbrev cX13_restore : ByteArray := prog_15_method_29_code
def yX13_restore : MethodName := ⟨RX13, "restore", "()Z"⟩
abbrev cX13_operandOf : ByteArray := prog_15_method_30_code
def yX13_operandOf : MethodName := ⟨RX13, "operandOf", "(II)I"⟩
abbrev cX13_leads : ByteArray := prog_15_method_31_code
def yX13_leads : MethodName := ⟨RX13, "leads", "(I)I"⟩
abbrev cX13_isLedTo : ByteArray := prog_15_method_32_code
def yX13_isLedTo : MethodName := ⟨RX13, "isLedTo", "(I)Z"⟩
abbrev cX13_goes : ByteArray := prog_15_method_33_code
def yX13_goes : MethodName := ⟨RX13, "goes", "(I)I"⟩
abbrev cX13_drop : ByteArray := prog_15_method_34_code
def yX13_drop : MethodName := ⟨RX13, "drop", "(II)V"⟩
abbrev cX13_slim : ByteArray := prog_15_method_35_code
def yX13_slim : MethodName := ⟨RX13, "slim", "()I"⟩
abbrev cX13_save : ByteArray := prog_15_method_36_code
def yX13_save : MethodName := ⟨RX13, "save", "(I)V"⟩
abbrev cX13_load : ByteArray := prog_15_method_37_code
def yX13_load : MethodName := ⟨RX13, "load", "(I)V"⟩
abbrev cX13_bits : ByteArray := prog_15_method_38_code
def yX13_bits : MethodName := ⟨RX13, "bits", "(IJD)J"⟩
abbrev cX13_noFault : ByteArray := prog_15_method_39_code
def yX13_noFault : MethodName := ⟨RX13, "noFault", "()V"⟩
abbrev cX13_begin : ByteArray := prog_15_method_40_code
def yX13_begin : MethodName := ⟨RX13, "begin", "()V"⟩
abbrev cX13_isReal : ByteArray := prog_15_method_41_code
def yX13_isReal : MethodName := ⟨RX13, "isReal", "(I)Z"⟩
abbrev cX13_low : ByteArray := prog_15_method_42_code
def yX13_low : MethodName := ⟨RX13, "low", "(IJ)J"⟩
abbrev cX13_width : ByteArray := prog_15_method_43_code
def yX13_width : MethodName := ⟨RX13, "width", "(I)I"⟩
abbrev cX13_isInfinite : ByteArray := prog_15_method_44_code
def yX13_isInfinite : MethodName := ⟨RX13, "isInfinite", "(D)Z"⟩
abbrev cX13_near : ByteArray := prog_15_method_45_code
def yX13_near : MethodName := ⟨RX13, "near", "(ID)D"⟩
abbrev cX13_nearLong : ByteArray := prog_15_method_46_code
def yX13_nearLong : MethodName := ⟨RX13, "nearLong", "(IJ)D"⟩
abbrev cX13_put : ByteArray := prog_15_method_47_code
def yX13_put : MethodName := ⟨RX13, "put", "(IIJ)V"⟩
abbrev cX13_lay : ByteArray := prog_15_method_48_code
def yX13_lay : MethodName := ⟨RX13, "lay", "(IJD)V"⟩
abbrev cX13_order : ByteArray := prog_15_method_49_code
def yX13_order : MethodName := ⟨RX13, "order", "(IJDJD)I"⟩
abbrev cX13_givesReal : ByteArray := prog_15_method_50_code
def yX13_givesReal : MethodName := ⟨RX13, "givesReal", "(ID)I"⟩
abbrev cX13_giveWhole : ByteArray := prog_15_method_51_code
def yX13_giveWhole : MethodName := ⟨RX13, "giveWhole", "(IJ)I"⟩
abbrev cX13_realMade : ByteArray := prog_15_method_52_code
def yX13_realMade : MethodName := ⟨RX13, "realMade", "(IIDD)D"⟩
abbrev cX13_make : ByteArray := prog_15_method_53_code
def yX13_make : MethodName := ⟨RX13, "make", "(IIJDJD)I"⟩
abbrev cX13_shift : ByteArray := prog_15_method_54_code
def yX13_shift : MethodName := ⟨RX13, "shift", "(IIJJ)I"⟩
abbrev cX13_root : ByteArray := prog_15_method_55_code
def yX13_root : MethodName := ⟨RX13, "root", "(D)D"⟩
abbrev cX13_alone : ByteArray := prog_15_method_56_code
def yX13_alone : MethodName := ⟨RX13, "alone", "(IIJD)I"⟩
abbrev cX13_cast : ByteArray := prog_15_method_57_code
def yX13_cast : MethodName := ⟨RX13, "cast", "(IIJD)I"⟩
abbrev cX13_leastOf : ByteArray := prog_15_method_58_code
def yX13_leastOf : MethodName := ⟨RX13, "leastOf", "(I)J"⟩
abbrev cX13_mostOf : ByteArray := prog_15_method_59_code
def yX13_mostOf : MethodName := ⟨RX13, "mostOf", "(I)J"⟩
abbrev cX13_held : ByteArray := prog_15_method_60_code
def yX13_held : MethodName := ⟨RX13, "held", "(IIJD)I"⟩
abbrev cX13_registerOf : ByteArray := prog_15_method_61_code
def yX13_registerOf : MethodName := ⟨RX13, "registerOf", "(II)I"⟩
abbrev cX13_isAlike : ByteArray := prog_15_method_62_code
def yX13_isAlike : MethodName := ⟨RX13, "isAlike", "(I)Z"⟩
abbrev cX13_wantsWhole : ByteArray := prog_15_method_63_code
def yX13_wantsWhole : MethodName := ⟨RX13, "wantsWhole", "(II)Z"⟩
abbrev cX13_placesOf : ByteArray := prog_15_method_64_code
def yX13_placesOf : MethodName := ⟨RX13, "placesOf", "(I)I"⟩
abbrev cX13_judged : ByteArray := prog_15_method_65_code
def yX13_judged : MethodName := ⟨RX13, "judged", "(IIIIIII)I"⟩
abbrev cX13_kindAt : ByteArray := prog_15_method_66_code
def yX13_kindAt : MethodName := ⟨RX13, "kindAt", "(I)I"⟩
abbrev cX13_lengthAt : ByteArray := prog_15_method_67_code
def yX13_lengthAt : MethodName := ⟨RX13, "lengthAt", "(I)I"⟩
abbrev cX13_judgedNow : ByteArray := prog_15_method_68_code
def yX13_judgedNow : MethodName := ⟨RX13, "judgedNow", "(I)I"⟩
abbrev cX13_failed : ByteArray := prog_15_method_69_code
def yX13_failed : MethodName := ⟨RX13, "failed", "(II)I"⟩
abbrev cX13_copyLanes : ByteArray := prog_15_method_70_code
def yX13_copyLanes : MethodName := ⟨RX13, "copyLanes", "(I[J[D)V"⟩
abbrev cX13_isOn : ByteArray := prog_15_method_71_code
def yX13_isOn : MethodName := ⟨RX13, "isOn", "(II)Z"⟩
abbrev cX13_does : ByteArray := prog_15_method_72_code
def yX13_does : MethodName := ⟨RX13, "does", "(I)I"⟩
abbrev cX13_set : ByteArray := prog_15_method_73_code
def yX13_set : MethodName := ⟨RX13, "set", "(I)V"⟩
abbrev cX13_source : ByteArray := prog_15_method_74_code
def yX13_source : MethodName := ⟨RX13, "source", "(III)J"⟩
abbrev cX13_laneMade : ByteArray := prog_15_method_75_code
def yX13_laneMade : MethodName := ⟨RX13, "laneMade", "(IIII)I"⟩
abbrev cX13_byLanes : ByteArray := prog_15_method_76_code
def yX13_byLanes : MethodName := ⟨RX13, "byLanes", "(I)I"⟩
abbrev cX13_compares : ByteArray := prog_15_method_77_code
def yX13_compares : MethodName := ⟨RX13, "compares", "(I)I"⟩
abbrev cX13_isSo : ByteArray := prog_15_method_78_code
def yX13_isSo : MethodName := ⟨RX13, "isSo", "(IIII)Z"⟩
abbrev cX13_folds : ByteArray := prog_15_method_79_code
def yX13_folds : MethodName := ⟨RX13, "folds", "(I)I"⟩
abbrev cX13_lane : ByteArray := prog_15_method_80_code
def yX13_lane : MethodName := ⟨RX13, "lane", "(I)I"⟩
abbrev cX13_memoryStep : ByteArray := prog_15_method_81_code
def yX13_memoryStep : MethodName := ⟨RX13, "memoryStep", "(I)I"⟩
abbrev cX13_moves : ByteArray := prog_15_method_82_code
def yX13_moves : MethodName := ⟨RX13, "moves", "(I)I"⟩
abbrev cX13_sort : ByteArray := prog_15_method_83_code
def yX13_sort : MethodName := ⟨RX13, "sort", "(II)V"⟩
abbrev cX13_scan : ByteArray := prog_15_method_84_code
def yX13_scan : MethodName := ⟨RX13, "scan", "(II)I"⟩
abbrev cX13_half : ByteArray := prog_15_method_85_code
def yX13_half : MethodName := ⟨RX13, "half", "(I)I"⟩
abbrev cX13_maskStep : ByteArray := prog_15_method_86_code
def yX13_maskStep : MethodName := ⟨RX13, "maskStep", "(I)I"⟩
abbrev cX13_scalarStep : ByteArray := prog_15_method_87_code
def yX13_scalarStep : MethodName := ⟨RX13, "scalarStep", "(I)I"⟩
abbrev cX13_jumps : ByteArray := prog_15_method_88_code
def yX13_jumps : MethodName := ⟨RX13, "jumps", "(I)I"⟩
abbrev cX13_watchSum : ByteArray := prog_15_method_89_code
def yX13_watchSum : MethodName := ⟨RX13, "watchSum", "(II)J"⟩
abbrev cX13_isWatched : ByteArray := prog_15_method_90_code
def yX13_isWatched : MethodName := ⟨RX13, "isWatched", "(I)Z"⟩
abbrev cX13_didChange : ByteArray := prog_15_method_91_code
def yX13_didChange : MethodName := ⟨RX13, "didChange", "()Z"⟩
abbrev cX13_step : ByteArray := prog_15_method_92_code
def yX13_step : MethodName := ⟨RX13, "step", "()I"⟩
abbrev cX13_move : ByteArray := prog_15_method_93_code
def yX13_move : MethodName := ⟨RX13, "move", "(II)V"⟩
abbrev cX13_run : ByteArray := prog_15_method_94_code
def yX13_run : MethodName := ⟨RX13, "run", "(I)I"⟩
abbrev cX13_back : ByteArray := prog_15_method_95_code
def yX13_back : MethodName := ⟨RX13, "back", "()I"⟩
abbrev cX13_fault : ByteArray := prog_15_method_96_code
def yX13_fault : MethodName := ⟨RX13, "fault", "(I)I"⟩
abbrev cX13_elements : ByteArray := prog_15_method_97_code
def yX13_elements : MethodName := ⟨RX13, "elements", "()I"⟩
abbrev cX13_memory : ByteArray := prog_15_method_98_code
def yX13_memory : MethodName := ⟨RX13, "memory", "(II)I"⟩
abbrev cX13_isArray : ByteArray := prog_15_method_99_code
def yX13_isArray : MethodName := ⟨RX13, "isArray", "(I)Z"⟩
abbrev cX13_free : ByteArray := prog_15_method_100_code
def yX13_free : MethodName := ⟨RX13, "free", "(I)Z"⟩
abbrev cX13_resize : ByteArray := prog_15_method_101_code
def yX13_resize : MethodName := ⟨RX13, "resize", "(II)I"⟩
abbrev cX13_isElement : ByteArray := prog_15_method_102_code
def yX13_isElement : MethodName := ⟨RX13, "isElement", "(II)Z"⟩
abbrev cX13_poke : ByteArray := prog_15_method_103_code
def yX13_poke : MethodName := ⟨RX13, "poke", "(IIJ)Z"⟩
abbrev cX13_peek : ByteArray := prog_15_method_104_code
def yX13_peek : MethodName := ⟨RX13, "peek", "(II)J"⟩
abbrev cX13_array : ByteArray := prog_15_method_105_code
def yX13_array : MethodName := ⟨RX13, "array", "(II)I"⟩
abbrev cX13_scalar : ByteArray := prog_15_method_106_code
def yX13_scalar : MethodName := ⟨RX13, "scalar", "(IJ)Z"⟩
abbrev cX13_scalarOf : ByteArray := prog_15_method_107_code
def yX13_scalarOf : MethodName := ⟨RX13, "scalarOf", "(I)J"⟩
abbrev cX13_register : ByteArray := prog_15_method_108_code
def yX13_register : MethodName := ⟨RX13, "register", "(II)I"⟩
abbrev cX13_lane_ : ByteArray := prog_15_method_109_code
def yX13_lane_ : MethodName := ⟨RX13, "lane", "(II)J"⟩
abbrev cX13_mask : ByteArray := prog_15_method_110_code
def yX13_mask : MethodName := ⟨RX13, "mask", "(I)I"⟩
abbrev cX13_stop : ByteArray := prog_15_method_111_code
def yX13_stop : MethodName := ⟨RX13, "stop", "(IZ)Z"⟩
abbrev cX13_watch : ByteArray := prog_15_method_112_code
def yX13_watch : MethodName := ⟨RX13, "watch", "(IIZ)Z"⟩
abbrev cX13_trace : ByteArray := prog_15_method_113_code
def yX13_trace : MethodName := ⟨RX13, "trace", "(II)I"⟩
abbrev cX13_keep : ByteArray := prog_15_method_114_code
def yX13_keep : MethodName := ⟨RX13, "keep", "(I)Z"⟩
abbrev cX13_areSame : ByteArray := prog_15_method_115_code
def yX13_areSame : MethodName := ⟨RX13, "areSame", "(IIIII)Z"⟩
abbrev cX13_differ : ByteArray := prog_15_method_116_code
def yX13_differ : MethodName := ⟨RX13, "differ", "(III)Z"⟩
abbrev cX13_differs : ByteArray := prog_15_method_117_code
def yX13_differs : MethodName := ⟨RX13, "differs", "(II)I"⟩
abbrev cX13_count : ByteArray := prog_15_method_118_code
def yX13_count : MethodName := ⟨RX13, "count", "(I)I"⟩
abbrev cX13_flowsTo : ByteArray := prog_15_method_119_code
def yX13_flowsTo : MethodName := ⟨RX13, "flowsTo", "(II)V"⟩
abbrev cX13_flowsOn : ByteArray := prog_15_method_120_code
def yX13_flowsOn : MethodName := ⟨RX13, "flowsOn", "(I)V"⟩
abbrev cX13_findFlow : ByteArray := prog_15_method_121_code
def yX13_findFlow : MethodName := ⟨RX13, "findFlow", "()V"⟩
abbrev cX13_mayBe : ByteArray := prog_15_method_122_code
def yX13_mayBe : MethodName := ⟨RX13, "mayBe", "(III)Z"⟩
abbrev cX13_kindOf : ByteArray := prog_15_method_123_code
def yX13_kindOf : MethodName := ⟨RX13, "kindOf", "(I)I"⟩
abbrev cX13_lengthOf : ByteArray := prog_15_method_124_code
def yX13_lengthOf : MethodName := ⟨RX13, "lengthOf", "(I)I"⟩
abbrev cX13_isGoodBy : ByteArray := prog_15_method_125_code
def yX13_isGoodBy : MethodName := ⟨RX13, "isGoodBy", "(III)Z"⟩
abbrev cX13_isGood : ByteArray := prog_15_method_126_code
def yX13_isGood : MethodName := ⟨RX13, "isGood", "(I)Z"⟩
abbrev cX13_check : ByteArray := prog_15_method_127_code
def yX13_check : MethodName := ⟨RX13, "check", "()I"⟩
abbrev cX13_flow : ByteArray := prog_15_method_128_code
def yX13_flow : MethodName := ⟨RX13, "flow", "(II)I"⟩
def RJx145de : String := "java/io/Serializable"
def TJx145de : u_T := fun k => match k with
  | _ => ("", "", "", false)
def tyJx145de : Nat → FieldType := fun k => match k with
  | _ => .int
theorem nmJx145de : ∀ a, a < 0 → ∀ b, b < 0 → a ≠ b → (TJx145de a).2.1 ≠ (TJx145de b).2.1 := by decide +kernel
theorem tyJx145de_ok : ∀ k, k < 0 → parseFieldDescriptor (TJx145de k).2.2.1 = some (tyJx145de k) := by decide +kernel
def RJ5 : String := "java/lang/AbstractStringBuilder"
def TJ5 : u_T := fun k => match k with
  | _ => ("", "", "", false)
def tyJ5 : Nat → FieldType := fun k => match k with
  | _ => .int
theorem nmJ5 : ∀ a, a < 0 → ∀ b, b < 0 → a ≠ b → (TJ5 a).2.1 ≠ (TJ5 b).2.1 := by decide +kernel
theorem tyJ5_ok : ∀ k, k < 0 → parseFieldDescriptor (TJ5 k).2.2.1 = some (tyJ5 k) := by decide +kernel
abbrev cJ5_init_d00df : ByteArray := prog_16_method_2_code
def yJ5_init_d00df : MethodName := ⟨RJ5, "<init>", "(I)V"⟩
abbrev cJ5_length_8abf5 : ByteArray := prog_16_method_6_code
def yJ5_length_8abf5 : MethodName := ⟨RJ5, "length", "()I"⟩
abbrev cJ5_ensureCapacityInternal_d00df : ByteArray := prog_16_method_9_code
def yJ5_ensureCapacityInternal_d00df : MethodName := ⟨RJ5, "ensureCapacityInternal", "(I)V"⟩
abbrev cJ5_newCapacity_0f7a4 : ByteArray := prog_16_method_10_code
def yJ5_newCapacity_0f7a4 : MethodName := ⟨RJ5, "newCapacity", "(I)I"⟩
abbrev cJ5_inflate_da8c8 : ByteArray := prog_16_method_11_code
def yJ5_inflate_da8c8 : MethodName := ⟨RJ5, "inflate", "()V"⟩
abbrev cJ5_append_cf1ce : ByteArray := prog_16_method_22_code
def yJ5_append_cf1ce : MethodName := ⟨RJ5, "append", "(Ljava/lang/String;)Ljava/lang/AbstractStringBuilder;"⟩
abbrev cJ5_appendNull_278bc : ByteArray := prog_16_method_26_code
def yJ5_appendNull_278bc : MethodName := ⟨RJ5, "appendNull", "()Ljava/lang/AbstractStringBuilder;"⟩
abbrev cJ5_append_c97b9 : ByteArray := prog_16_method_32_code
def yJ5_append_c97b9 : MethodName := ⟨RJ5, "append", "(I)Ljava/lang/AbstractStringBuilder;"⟩
abbrev cJ5_getValue_6d5f1 : ByteArray := prog_16_method_64_code
def yJ5_getValue_6d5f1 : MethodName := ⟨RJ5, "getValue", "()[B"⟩
abbrev cJ5_isLatin1_aae02 : ByteArray := prog_16_method_68_code
def yJ5_isLatin1_aae02 : MethodName := ⟨RJ5, "isLatin1", "()Z"⟩
abbrev cJ5_inflateIfNeededFor_a7421 : ByteArray := prog_16_method_71_code
def yJ5_inflateIfNeededFor_a7421 : MethodName := ⟨RJ5, "inflateIfNeededFor", "(Ljava/lang/String;)V"⟩
abbrev cJ5_putStringAt_47b60 : ByteArray := prog_16_method_73_code
def yJ5_putStringAt_47b60 : MethodName := ⟨RJ5, "putStringAt", "(ILjava/lang/String;)V"⟩
def RJx2cfe8 : String := "java/lang/Appendable"
def TJx2cfe8 : u_T := fun k => match k with
  | _ => ("", "", "", false)
def tyJx2cfe8 : Nat → FieldType := fun k => match k with
  | _ => .int
theorem nmJx2cfe8 : ∀ a, a < 0 → ∀ b, b < 0 → a ≠ b → (TJx2cfe8 a).2.1 ≠ (TJx2cfe8 b).2.1 := by decide +kernel
theorem tyJx2cfe8_ok : ∀ k, k < 0 → parseFieldDescriptor (TJx2cfe8 k).2.2.1 = some (tyJx2cfe8 k) := by decide +kernel
def RJx00060 : String := "java/lang/ArrayIndexOutOfBoundsException"
def TJx00060 : u_T := fun k => match k with
  | 0 => ("java/lang/Throwable", "cause", "Ljava/lang/Throwable;", false)
  | 1 => ("java/lang/Throwable", "stackTrace", "[Ljava/lang/StackTraceElement;", false)
  | 2 => ("java/lang/Throwable", "suppressedExceptions", "Ljava/util/List;", false)
  | 3 => ("java/lang/Throwable", "detailMessage", "Ljava/lang/String;", false)
  | 4 => ("java/lang/Throwable", "backtrace", "Ljava/lang/Object;", false)
  | _ => ("java/lang/Throwable", "depth", "I", false)
def tyJx00060 : Nat → FieldType := fun k => match k with
  | 0 => .object "java/lang/Throwable"
  | 1 => .array (.object "java/lang/StackTraceElement")
  | 2 => .object "java/util/List"
  | 3 => .object "java/lang/String"
  | 4 => .object "java/lang/Object"
  | _ => .int
theorem nmJx00060 : ∀ a, a < 6 → ∀ b, b < 6 → a ≠ b → (TJx00060 a).2.1 ≠ (TJx00060 b).2.1 := by decide +kernel
theorem tyJx00060_ok : ∀ k, k < 6 → parseFieldDescriptor (TJx00060 k).2.2.1 = some (tyJx00060 k) := by decide +kernel
abbrev cJx00060_init_d00df : ByteArray := prog_17_method_3_code
def yJx00060_init_d00df : MethodName := ⟨RJx00060, "<init>", "(I)V"⟩
def RJx9f9b0 : String := "java/lang/CharSequence"
def TJx9f9b0 : u_T := fun k => match k with
  | _ => ("", "", "", false)
def tyJx9f9b0 : Nat → FieldType := fun k => match k with
  | _ => .int
theorem nmJx9f9b0 : ∀ a, a < 0 → ∀ b, b < 0 → a ≠ b → (TJx9f9b0 a).2.1 ≠ (TJx9f9b0 b).2.1 := by decide +kernel
theorem tyJx9f9b0_ok : ∀ k, k < 0 → parseFieldDescriptor (TJx9f9b0 k).2.2.1 = some (tyJx9f9b0 k) := by decide +kernel
def RJ11 : String := "java/lang/Character"
def TJ11 : u_T := fun k => match k with
  | _ => ("", "", "", false)
def tyJ11 : Nat → FieldType := fun k => match k with
  | _ => .int
theorem nmJ11 : ∀ a, a < 0 → ∀ b, b < 0 → a ≠ b → (TJ11 a).2.1 ≠ (TJ11 b).2.1 := by decide +kernel
theorem tyJ11_ok : ∀ k, k < 0 → parseFieldDescriptor (TJ11 k).2.2.1 = some (tyJ11 k) := by decide +kernel
abbrev cJ11_isValidCodePoint_9a6ad : ByteArray := prog_18_method_11_code
def yJ11_isValidCodePoint_9a6ad : MethodName := ⟨RJ11, "isValidCodePoint", "(I)Z"⟩
abbrev cJ11_highSurrogate_5068e : ByteArray := prog_18_method_28_code
def yJ11_highSurrogate_5068e : MethodName := ⟨RJ11, "highSurrogate", "(I)C"⟩
abbrev cJ11_lowSurrogate_5068e : ByteArray := prog_18_method_29_code
def yJ11_lowSurrogate_5068e : MethodName := ⟨RJ11, "lowSurrogate", "(I)C"⟩
def RJx8e188 : String := "java/lang/Cloneable"
def TJx8e188 : u_T := fun k => match k with
  | _ => ("", "", "", false)
def tyJx8e188 : Nat → FieldType := fun k => match k with
  | _ => .int
theorem nmJx8e188 : ∀ a, a < 0 → ∀ b, b < 0 → a ≠ b → (TJx8e188 a).2.1 ≠ (TJx8e188 b).2.1 := by decide +kernel
theorem tyJx8e188_ok : ∀ k, k < 0 → parseFieldDescriptor (TJx8e188 k).2.2.1 = some (tyJx8e188 k) := by decide +kernel
def RJxb160c : String := "java/lang/Comparable"
def TJxb160c : u_T := fun k => match k with
  | _ => ("", "", "", false)
def tyJxb160c : Nat → FieldType := fun k => match k with
  | _ => .int
theorem nmJxb160c : ∀ a, a < 0 → ∀ b, b < 0 → a ≠ b → (TJxb160c a).2.1 ≠ (TJxb160c b).2.1 := by decide +kernel
theorem tyJxb160c_ok : ∀ k, k < 0 → parseFieldDescriptor (TJxb160c k).2.2.1 = some (tyJxb160c k) := by decide +kernel
def RJxe99ae : String := "java/lang/Double"
def TJxe99ae : u_T := fun k => match k with
  | _ => ("", "", "", false)
def tyJxe99ae : Nat → FieldType := fun k => match k with
  | _ => .int
theorem nmJxe99ae : ∀ a, a < 0 → ∀ b, b < 0 → a ≠ b → (TJxe99ae a).2.1 ≠ (TJxe99ae b).2.1 := by decide +kernel
theorem tyJxe99ae_ok : ∀ k, k < 0 → parseFieldDescriptor (TJxe99ae k).2.2.1 = some (tyJxe99ae k) := by decide +kernel
abbrev cJxe99ae_isNaN_b9ae7 : ByteArray := prog_20_method_6_code
def yJxe99ae_isNaN_b9ae7 : MethodName := ⟨RJxe99ae, "isNaN", "(D)Z"⟩
abbrev cJxe99ae_doubleToLongBits_ccdee : ByteArray := prog_20_method_23_code
def yJxe99ae_doubleToLongBits_ccdee : MethodName := ⟨RJxe99ae, "doubleToLongBits", "(D)J"⟩
def RJx29ce0 : String := "java/lang/Enum"
def TJx29ce0 : u_T := fun k => match k with
  | _ => ("", "", "", false)
def tyJx29ce0 : Nat → FieldType := fun k => match k with
  | _ => .int
theorem nmJx29ce0 : ∀ a, a < 0 → ∀ b, b < 0 → a ≠ b → (TJx29ce0 a).2.1 ≠ (TJx29ce0 b).2.1 := by decide +kernel
theorem tyJx29ce0_ok : ∀ k, k < 0 → parseFieldDescriptor (TJx29ce0 k).2.2.1 = some (tyJx29ce0 k) := by decide +kernel
abbrev cJx29ce0_ordinal_8abf5 : ByteArray := prog_21_method_2_code
def yJx29ce0_ordinal_8abf5 : MethodName := ⟨RJx29ce0, "ordinal", "()I"⟩
def RJxf58ca : String := "java/lang/Float"
def TJxf58ca : u_T := fun k => match k with
  | _ => ("", "", "", false)
def tyJxf58ca : Nat → FieldType := fun k => match k with
  | _ => .int
theorem nmJxf58ca : ∀ a, a < 0 → ∀ b, b < 0 → a ≠ b → (TJxf58ca a).2.1 ≠ (TJxf58ca b).2.1 := by decide +kernel
theorem tyJxf58ca_ok : ∀ k, k < 0 → parseFieldDescriptor (TJxf58ca k).2.2.1 = some (tyJxf58ca k) := by decide +kernel
abbrev cJxf58ca_isNaN_12338 : ByteArray := prog_23_method_6_code
def yJxf58ca_isNaN_12338 : MethodName := ⟨RJxf58ca, "isNaN", "(F)Z"⟩
abbrev cJxf58ca_floatToIntBits_5c35a : ByteArray := prog_23_method_24_code
def yJxf58ca_floatToIntBits_5c35a : MethodName := ⟨RJxf58ca, "floatToIntBits", "(F)I"⟩
def RJ6 : String := "java/lang/Integer"
def TJ6 : u_T := fun k => match k with
  | _ => ("", "", "", false)
def tyJ6 : Nat → FieldType := fun k => match k with
  | _ => .int
theorem nmJ6 : ∀ a, a < 0 → ∀ b, b < 0 → a ≠ b → (TJ6 a).2.1 ≠ (TJ6 b).2.1 := by decide +kernel
theorem tyJ6_ok : ∀ k, k < 0 → parseFieldDescriptor (TJ6 k).2.2.1 = some (tyJ6 k) := by decide +kernel
abbrev cJ6_getChars_ba4f3 : ByteArray := prog_26_method_12_code
def yJ6_getChars_ba4f3 : MethodName := ⟨RJ6, "getChars", "(II[B)I"⟩
abbrev cJ6_stringSize_0f7a4 : ByteArray := prog_26_method_13_code
def yJ6_stringSize_0f7a4 : MethodName := ⟨RJ6, "stringSize", "(I)I"⟩
abbrev cJ6_numberOfLeadingZeros_0f7a4 : ByteArray := prog_26_method_47_code
def yJ6_numberOfLeadingZeros_0f7a4 : MethodName := ⟨RJ6, "numberOfLeadingZeros", "(I)I"⟩
abbrev cJ6_numberOfTrailingZeros_0f7a4 : ByteArray := prog_26_method_48_code
def yJ6_numberOfTrailingZeros_0f7a4 : MethodName := ⟨RJ6, "numberOfTrailingZeros", "(I)I"⟩
abbrev cJ6_bitCount_0f7a4 : ByteArray := prog_26_method_49_code
def yJ6_bitCount_0f7a4 : MethodName := ⟨RJ6, "bitCount", "(I)I"⟩
def RJ13 : String := "java/lang/Long"
def TJ13 : u_T := fun k => match k with
  | _ => ("", "", "", false)
def tyJ13 : Nat → FieldType := fun k => match k with
  | _ => .int
theorem nmJ13 : ∀ a, a < 0 → ∀ b, b < 0 → a ≠ b → (TJ13 a).2.1 ≠ (TJ13 b).2.1 := by decide +kernel
theorem tyJ13_ok : ∀ k, k < 0 → parseFieldDescriptor (TJ13 k).2.2.1 = some (tyJ13 k) := by decide +kernel
abbrev cJ13_numberOfLeadingZeros_95d88 : ByteArray := prog_27_method_48_code
def yJ13_numberOfLeadingZeros_95d88 : MethodName := ⟨RJ13, "numberOfLeadingZeros", "(J)I"⟩
abbrev cJ13_bitCount_95d88 : ByteArray := prog_27_method_50_code
def yJ13_bitCount_95d88 : MethodName := ⟨RJ13, "bitCount", "(J)I"⟩
def RJ9 : String := "java/lang/Math"
def TJ9 : u_T := fun k => match k with
  | _ => ("", "", "", false)
def tyJ9 : Nat → FieldType := fun k => match k with
  | _ => .int
theorem nmJ9 : ∀ a, a < 0 → ∀ b, b < 0 → a ≠ b → (TJ9 a).2.1 ≠ (TJ9 b).2.1 := by decide +kernel
theorem tyJ9_ok : ∀ k, k < 0 → parseFieldDescriptor (TJ9 k).2.2.1 = some (tyJ9 k) := by decide +kernel
abbrev cJ9_floorMod_f86c9 : ByteArray := prog_28_method_52_code
def yJ9_floorMod_f86c9 : MethodName := ⟨RJ9, "floorMod", "(JJ)J"⟩
abbrev cJ9_abs_067f4 : ByteArray := prog_28_method_61_code
def yJ9_abs_067f4 : MethodName := ⟨RJ9, "abs", "(J)J"⟩
abbrev cJ9_max_7cf53 : ByteArray := prog_28_method_65_code
def yJ9_max_7cf53 : MethodName := ⟨RJ9, "max", "(II)I"⟩
abbrev cJ9_max_f86c9 : ByteArray := prog_28_method_66_code
def yJ9_max_f86c9 : MethodName := ⟨RJ9, "max", "(JJ)J"⟩
abbrev cJ9_min_7cf53 : ByteArray := prog_28_method_69_code
def yJ9_min_7cf53 : MethodName := ⟨RJ9, "min", "(II)I"⟩
abbrev cJ9_min_f86c9 : ByteArray := prog_28_method_70_code
def yJ9_min_f86c9 : MethodName := ⟨RJ9, "min", "(JJ)J"⟩
def RJxd2413 : String := "java/lang/Number"
def TJxd2413 : u_T := fun k => match k with
  | _ => ("", "", "", false)
def tyJxd2413 : Nat → FieldType := fun k => match k with
  | _ => .int
theorem nmJxd2413 : ∀ a, a < 0 → ∀ b, b < 0 → a ≠ b → (TJxd2413 a).2.1 ≠ (TJxd2413 b).2.1 := by decide +kernel
theorem tyJxd2413_ok : ∀ k, k < 0 → parseFieldDescriptor (TJxd2413 k).2.2.1 = some (tyJxd2413 k) := by decide +kernel
def RJ0 : String := "java/lang/String"
def TJ0 : u_T := fun k => match k with
  | 0 => ("java/lang/String", "value", "[B", true)
  | 1 => ("java/lang/String", "coder", "B", true)
  | 2 => ("java/lang/String", "hash", "I", false)
  | _ => ("java/lang/String", "hashIsZero", "Z", false)
def tyJ0 : Nat → FieldType := fun k => match k with
  | 0 => .array .byte
  | 1 => .byte
  | 2 => .int
  | _ => .boolean
theorem nmJ0 : ∀ a, a < 4 → ∀ b, b < 4 → a ≠ b → (TJ0 a).2.1 ≠ (TJ0 b).2.1 := by decide +kernel
theorem tyJ0_ok : ∀ k, k < 4 → parseFieldDescriptor (TJ0 k).2.2.1 = some (tyJ0 k) := by decide +kernel
abbrev cJ0_init_81219 : ByteArray := prog_31_method_53_code
def yJ0_init_81219 : MethodName := ⟨RJ0, "<init>", "(Ljava/lang/StringBuilder;)V"⟩
abbrev cJ0_length_8abf5 : ByteArray := prog_31_method_54_code
def yJ0_length_8abf5 : MethodName := ⟨RJ0, "length", "()I"⟩
abbrev cJ0_charAt_5068e : ByteArray := prog_31_method_56_code
def yJ0_charAt_5068e : MethodName := ⟨RJ0, "charAt", "(I)C"⟩
abbrev cJ0_indexOf_0f7a4 : ByteArray := prog_31_method_79_code
def yJ0_indexOf_0f7a4 : MethodName := ⟨RJ0, "indexOf", "(I)I"⟩
abbrev cJ0_indexOf_7cf53 : ByteArray := prog_31_method_80_code
def yJ0_indexOf_7cf53 : MethodName := ⟨RJ0, "indexOf", "(II)I"⟩
abbrev cJ0_getBytes_840e7 : ByteArray := prog_31_method_147_code
def yJ0_getBytes_840e7 : MethodName := ⟨RJ0, "getBytes", "([BIB)V"⟩
abbrev cJ0_init_db425 : ByteArray := prog_31_method_150_code
def yJ0_init_db425 : MethodName := ⟨RJ0, "<init>", "(Ljava/lang/AbstractStringBuilder;Ljava/lang/Void;)V"⟩
abbrev cJ0_coder_7d493 : ByteArray := prog_31_method_152_code
def yJ0_coder_7d493 : MethodName := ⟨RJ0, "coder", "()B"⟩
abbrev cJ0_isLatin1_aae02 : ByteArray := prog_31_method_154_code
def yJ0_isLatin1_aae02 : MethodName := ⟨RJ0, "isLatin1", "()Z"⟩
abbrev cJ0_checkIndex_df160 : ByteArray := prog_31_method_155_code
def yJ0_checkIndex_df160 : MethodName := ⟨RJ0, "checkIndex", "(II)V"⟩
abbrev cJ0_checkBoundsOffCount_cabcc : ByteArray := prog_31_method_157_code
def yJ0_checkBoundsOffCount_cabcc : MethodName := ⟨RJ0, "checkBoundsOffCount", "(III)I"⟩
abbrev cJ0_checkBoundsBeginEnd_23922 : ByteArray := prog_31_method_158_code
def yJ0_checkBoundsBeginEnd_23922 : MethodName := ⟨RJ0, "checkBoundsBeginEnd", "(III)V"⟩
def RJ4 : String := "java/lang/StringBuilder"
def TJ4 : u_T := fun k => match k with
  | 0 => ("java/lang/AbstractStringBuilder", "value", "[B", false)
  | 1 => ("java/lang/AbstractStringBuilder", "coder", "B", false)
  | 2 => ("java/lang/AbstractStringBuilder", "maybeLatin1", "Z", false)
  | _ => ("java/lang/AbstractStringBuilder", "count", "I", false)
def tyJ4 : Nat → FieldType := fun k => match k with
  | 0 => .array .byte
  | 1 => .byte
  | 2 => .boolean
  | _ => .int
theorem nmJ4 : ∀ a, a < 4 → ∀ b, b < 4 → a ≠ b → (TJ4 a).2.1 ≠ (TJ4 b).2.1 := by decide +kernel
theorem tyJ4_ok : ∀ k, k < 4 → parseFieldDescriptor (TJ4 k).2.2.1 = some (tyJ4 k) := by decide +kernel
abbrev cJ4_init_da8c8 : ByteArray := prog_32_method_1_code
def yJ4_init_da8c8 : MethodName := ⟨RJ4, "<init>", "()V"⟩
abbrev cJ4_append_15ec4 : ByteArray := prog_32_method_7_code
def yJ4_append_15ec4 : MethodName := ⟨RJ4, "append", "(Ljava/lang/String;)Ljava/lang/StringBuilder;"⟩
abbrev cJ4_append_bf812 : ByteArray := prog_32_method_15_code
def yJ4_append_bf812 : MethodName := ⟨RJ4, "append", "(I)Ljava/lang/StringBuilder;"⟩
abbrev cJ4_toString_0e30d : ByteArray := prog_32_method_42_code
def yJ4_toString_0e30d : MethodName := ⟨RJ4, "toString", "()Ljava/lang/String;"⟩
abbrev cJ4_length_8abf5 : ByteArray := prog_32_method_93_code
def yJ4_length_8abf5 : MethodName := ⟨RJ4, "length", "()I"⟩
def RJ1 : String := "java/lang/StringLatin1"
def TJ1 : u_T := fun k => match k with
  | _ => ("", "", "", false)
def tyJ1 : Nat → FieldType := fun k => match k with
  | _ => .int
theorem nmJ1 : ∀ a, a < 0 → ∀ b, b < 0 → a ≠ b → (TJ1 a).2.1 ≠ (TJ1 b).2.1 := by decide +kernel
theorem tyJ1_ok : ∀ k, k < 0 → parseFieldDescriptor (TJ1 k).2.2.1 = some (tyJ1 k) := by decide +kernel
abbrev cJ1_charAt_3b067 : ByteArray := prog_33_method_2_code
def yJ1_charAt_3b067 : MethodName := ⟨RJ1, "charAt", "([BI)C"⟩
abbrev cJ1_canEncode_9a6ad : ByteArray := prog_33_method_4_code
def yJ1_canEncode_9a6ad : MethodName := ⟨RJ1, "canEncode", "(I)Z"⟩
abbrev cJ1_indexOf_4cfef : ByteArray := prog_33_method_22_code
def yJ1_indexOf_4cfef : MethodName := ⟨RJ1, "indexOf", "([BIII)I"⟩
abbrev cJ1_indexOfChar_4cfef : ByteArray := prog_33_method_23_code
def yJ1_indexOfChar_4cfef : MethodName := ⟨RJ1, "indexOfChar", "([BIII)I"⟩
abbrev cJ1_inflate_0e8fd : ByteArray := prog_33_method_50_code
def yJ1_inflate_0e8fd : MethodName := ⟨RJ1, "inflate", "([BI[BII)V"⟩
def RJ2 : String := "java/lang/StringUTF16"
def TJ2 : u_T := fun k => match k with
  | _ => ("", "", "", false)
def tyJ2 : Nat → FieldType := fun k => match k with
  | _ => .int
theorem nmJ2 : ∀ a, a < 0 → ∀ b, b < 0 → a ≠ b → (TJ2 a).2.1 ≠ (TJ2 b).2.1 := by decide +kernel
theorem tyJ2_ok : ∀ k, k < 0 → parseFieldDescriptor (TJ2 k).2.2.1 = some (tyJ2 k) := by decide +kernel
abbrev cJ2_newBytesFor_77867 : ByteArray := prog_34_method_2_code
def yJ2_newBytesFor_77867 : MethodName := ⟨RJ2, "newBytesFor", "(I)[B"⟩
abbrev cJ2_newBytesLength_0f7a4 : ByteArray := prog_34_method_3_code
def yJ2_newBytesLength_0f7a4 : MethodName := ⟨RJ2, "newBytesLength", "(I)I"⟩
abbrev cJ2_putChar_b72d1 : ByteArray := prog_34_method_4_code
def yJ2_putChar_b72d1 : MethodName := ⟨RJ2, "putChar", "([BII)V"⟩
abbrev cJ2_getChar_3b067 : ByteArray := prog_34_method_5_code
def yJ2_getChar_3b067 : MethodName := ⟨RJ2, "getChar", "([BI)C"⟩
abbrev cJ2_length_9d52b : ByteArray := prog_34_method_6_code
def yJ2_length_9d52b : MethodName := ⟨RJ2, "length", "([B)I"⟩
abbrev cJ2_coderFromArrayLen_85cad : ByteArray := prog_34_method_15_code
def yJ2_coderFromArrayLen_85cad : MethodName := ⟨RJ2, "coderFromArrayLen", "([BI)B"⟩
abbrev cJ2_compress_39247 : ByteArray := prog_34_method_17_code
def yJ2_compress_39247 : MethodName := ⟨RJ2, "compress", "([BII)[B"⟩
abbrev cJ2_compress_5af95 : ByteArray := prog_34_method_22_code
def yJ2_compress_5af95 : MethodName := ⟨RJ2, "compress", "([BI[BII)I"⟩
abbrev cJ2_indexOf_4cfef : ByteArray := prog_34_method_40_code
def yJ2_indexOf_4cfef : MethodName := ⟨RJ2, "indexOf", "([BIII)I"⟩
abbrev cJ2_indexOfChar_4cfef : ByteArray := prog_34_method_47_code
def yJ2_indexOfChar_4cfef : MethodName := ⟨RJ2, "indexOfChar", "([BIII)I"⟩
abbrev cJ2_indexOfCharUnsafe_4cfef : ByteArray := prog_34_method_48_code
def yJ2_indexOfCharUnsafe_4cfef : MethodName := ⟨RJ2, "indexOfCharUnsafe", "([BIII)I"⟩
abbrev cJ2_indexOfSupplementary_4cfef : ByteArray := prog_34_method_49_code
def yJ2_indexOfSupplementary_4cfef : MethodName := ⟨RJ2, "indexOfSupplementary", "([BIII)I"⟩
abbrev cJ2_getChars_46870 : ByteArray := prog_34_method_77_code
def yJ2_getChars_46870 : MethodName := ⟨RJ2, "getChars", "(III[B)I"⟩
abbrev cJ2_putCharsAt_cd4e5 : ByteArray := prog_34_method_81_code
def yJ2_putCharsAt_cd4e5 : MethodName := ⟨RJ2, "putCharsAt", "([BICCCC)I"⟩
abbrev cJ2_charAt_3b067 : ByteArray := prog_34_method_83_code
def yJ2_charAt_3b067 : MethodName := ⟨RJ2, "charAt", "([BI)C"⟩
abbrev cJ2_inflate_0e8fd : ByteArray := prog_34_method_86_code
def yJ2_inflate_0e8fd : MethodName := ⟨RJ2, "inflate", "([BI[BII)V"⟩
abbrev cJ2_getChars_ba4f3 : ByteArray := prog_34_method_89_code
def yJ2_getChars_ba4f3 : MethodName := ⟨RJ2, "getChars", "(II[B)I"⟩
abbrev cJ2_checkIndex_2214a : ByteArray := prog_34_method_91_code
def yJ2_checkIndex_2214a : MethodName := ⟨RJ2, "checkIndex", "(I[B)V"⟩
abbrev cJ2_checkBoundsBeginEnd_d044e : ByteArray := prog_34_method_93_code
def yJ2_checkBoundsBeginEnd_d044e : MethodName := ⟨RJ2, "checkBoundsBeginEnd", "(II[B)V"⟩
abbrev cJ2_checkBoundsOffCount_d044e : ByteArray := prog_34_method_94_code
def yJ2_checkBoundsOffCount_d044e : MethodName := ⟨RJ2, "checkBoundsOffCount", "(II[B)V"⟩
def RJ10 : String := "java/lang/System"
def TJ10 : u_T := fun k => match k with
  | _ => ("", "", "", false)
def tyJ10 : Nat → FieldType := fun k => match k with
  | _ => .int
theorem nmJ10 : ∀ a, a < 0 → ∀ b, b < 0 → a ≠ b → (TJ10 a).2.1 ≠ (TJ10 b).2.1 := by decide +kernel
theorem tyJ10_ok : ∀ k, k < 0 → parseFieldDescriptor (TJ10 k).2.2.1 = some (tyJ10 k) := by decide +kernel
def RJxfd54e : String := "java/lang/constant/Constable"
def TJxfd54e : u_T := fun k => match k with
  | _ => ("", "", "", false)
def tyJxfd54e : Nat → FieldType := fun k => match k with
  | _ => .int
theorem nmJxfd54e : ∀ a, a < 0 → ∀ b, b < 0 → a ≠ b → (TJxfd54e a).2.1 ≠ (TJxfd54e b).2.1 := by decide +kernel
theorem tyJxfd54e_ok : ∀ k, k < 0 → parseFieldDescriptor (TJxfd54e k).2.2.1 = some (tyJxfd54e k) := by decide +kernel
def RJx3cf43 : String := "java/lang/constant/ConstantDesc"
def TJx3cf43 : u_T := fun k => match k with
  | _ => ("", "", "", false)
def tyJx3cf43 : Nat → FieldType := fun k => match k with
  | _ => .int
theorem nmJx3cf43 : ∀ a, a < 0 → ∀ b, b < 0 → a ≠ b → (TJx3cf43 a).2.1 ≠ (TJx3cf43 b).2.1 := by decide +kernel
theorem tyJx3cf43_ok : ∀ k, k < 0 → parseFieldDescriptor (TJx3cf43 k).2.2.1 = some (tyJx3cf43 k) := by decide +kernel
def RJ7 : String := "java/util/Arrays"
def TJ7 : u_T := fun k => match k with
  | _ => ("", "", "", false)
def tyJ7 : Nat → FieldType := fun k => match k with
  | _ => .int
theorem nmJ7 : ∀ a, a < 0 → ∀ b, b < 0 → a ≠ b → (TJ7 a).2.1 ≠ (TJ7 b).2.1 := by decide +kernel
theorem tyJ7_ok : ∀ k, k < 0 → parseFieldDescriptor (TJ7 k).2.2.1 = some (tyJ7 k) := by decide +kernel
abbrev cJ7_rangeCheck_23922 : ByteArray := prog_37_method_30_code
def yJ7_rangeCheck_23922 : MethodName := ⟨RJ7, "rangeCheck", "(III)V"⟩
abbrev cJ7_fill_bad5a : ByteArray := prog_37_method_102_code
def yJ7_fill_bad5a : MethodName := ⟨RJ7, "fill", "([JIIJ)V"⟩
abbrev cJ7_fill_53178 : ByteArray := prog_37_method_103_code
def yJ7_fill_53178 : MethodName := ⟨RJ7, "fill", "([II)V"⟩
abbrev cJ7_copyOf_9075b : ByteArray := prog_37_method_121_code
def yJ7_copyOf_9075b : MethodName := ⟨RJ7, "copyOf", "([BI)[B"⟩
abbrev cJ7_checkLength_df160 : ByteArray := prog_37_method_131_code
def yJ7_checkLength_df160 : MethodName := ⟨RJ7, "checkLength", "(II)V"⟩
abbrev cJ7_copyOfRange_39247 : ByteArray := prog_37_method_132_code
def yJ7_copyOfRange_39247 : MethodName := ⟨RJ7, "copyOfRange", "([BII)[B"⟩
abbrev cJ7_copyOfRangeByte_39247 : ByteArray := prog_37_method_133_code
def yJ7_copyOfRangeByte_39247 : MethodName := ⟨RJ7, "copyOfRangeByte", "([BII)[B"⟩
def RJ8 : String := "jdk/internal/util/ArraysSupport"
def TJ8 : u_T := fun k => match k with
  | _ => ("", "", "", false)
def tyJ8 : Nat → FieldType := fun k => match k with
  | _ => .int
theorem nmJ8 : ∀ a, a < 0 → ∀ b, b < 0 → a ≠ b → (TJ8 a).2.1 ≠ (TJ8 b).2.1 := by decide +kernel
theorem tyJ8_ok : ∀ k, k < 0 → parseFieldDescriptor (TJ8 k).2.2.1 = some (tyJ8 k) := by decide +kernel
abbrev cJ8_newLength_cabcc : ByteArray := prog_38_method_27_code
def yJ8_newLength_cabcc : MethodName := ⟨RJ8, "newLength", "(III)I"⟩
abbrev cJ8_hugeLength_7cf53 : ByteArray := prog_38_method_28_code
def yJ8_hugeLength_7cf53 : MethodName := ⟨RJ8, "hugeLength", "(II)I"⟩
def RJ3 : String := "jdk/internal/util/Preconditions"
def TJ3 : u_T := fun k => match k with
  | _ => ("", "", "", false)
def tyJ3 : Nat → FieldType := fun k => match k with
  | _ => .int
theorem nmJ3 : ∀ a, a < 0 → ∀ b, b < 0 → a ≠ b → (TJ3 a).2.1 ≠ (TJ3 b).2.1 := by decide +kernel
theorem tyJ3_ok : ∀ k, k < 0 → parseFieldDescriptor (TJ3 k).2.2.1 = some (tyJ3 k) := by decide +kernel
abbrev cJ3_checkIndex_8e157 : ByteArray := prog_39_method_11_code
def yJ3_checkIndex_8e157 : MethodName := ⟨RJ3, "checkIndex", "(IILjava/util/function/BiFunction;)I"⟩
abbrev cJ3_checkFromToIndex_8c36e : ByteArray := prog_39_method_12_code
def yJ3_checkFromToIndex_8c36e : MethodName := ⟨RJ3, "checkFromToIndex", "(IIILjava/util/function/BiFunction;)I"⟩
abbrev cJ3_checkFromIndexSize_8c36e : ByteArray := prog_39_method_13_code
def yJ3_checkFromIndexSize_8c36e : MethodName := ⟨RJ3, "checkFromIndexSize", "(IIILjava/util/function/BiFunction;)I"⟩
def RL : String := "LaneMachineLaw"
abbrev cL_code : ByteArray := method_3_code
def yL_code : MethodName := ⟨RL, "code", "(LLaneMachine;II[J)I"⟩
abbrev cL_run : ByteArray := method_4_code
def yL_run : MethodName := ⟨RL, "run", "(LLaneMachine;I[J)I"⟩
abbrev cL_peek : ByteArray := method_5_code
def yL_peek : MethodName := ⟨RL, "peek", "(LLaneMachine;II[J)I"⟩
abbrev cL_scalarOf : ByteArray := method_6_code
def yL_scalarOf : MethodName := ⟨RL, "scalarOf", "(LLaneMachine;I[J)I"⟩
abbrev cL_lane : ByteArray := method_7_code
def yL_lane : MethodName := ⟨RL, "lane", "(LLaneMachine;II[J)I"⟩
abbrev cL_law : ByteArray := code
def yL_law : MethodName := ⟨RL, "law", "([I)Z"⟩
abbrev vwCl : List vw_C := [(RJ0, TJ0, 4), (RJ4, TJ4, 4), (RJx00060, TJx00060, 6), (RX1, TX1, 4), (RX2, TX2, 14), (RX5, TX5, 16), (RX6, TX6, 3), (RX7, TX7, 11), (RX8, TX8, 3), (RX9, TX9, 4), (RX10, TX10, 4), (RX11, TX11, 9), (RX12, TX12, 11), (RX13, TX13, 76)]
