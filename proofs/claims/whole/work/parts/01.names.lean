-- ===== PART A: goes FIRST, ahead of the names: the tables' words, and 'selects' of the private methods out of them =====
/-- a private method of a class that the tables say can be made, by its rows of tables_1 -/
def lw_okq (q : MethodName × Nat) : Prop := (q.1.cls ≠ "java/lang/invoke/MethodHandle" ∧ q.1.cls ≠ "java/lang/invoke/VarHandle") ∧ Cond.instantiable q.1.cls q.2 ∈ tables_1 ∧ Cond.privateMethod q.1 ∈ tables_1 ∧ Cond.instanceMethod q.1 ∈ tables_1
theorem lw_p0 : lw_okq (⟨"WayLeaves$Reader", "splitTape", "()V"⟩, 10) := ⟨⟨by decide +kernel, by decide +kernel⟩, List.mem_of_getElem? (i := 199) (by decide +kernel), List.mem_of_getElem? (i := 465) (by decide +kernel), List.mem_of_getElem? (i := 466) (by decide +kernel)⟩
theorem lw_p1 : lw_okq (⟨"WayLeaves$Reader", "behindBlanks", "(I)I"⟩, 10) := ⟨⟨by decide +kernel, by decide +kernel⟩, List.mem_of_getElem? (i := 199) (by decide +kernel), List.mem_of_getElem? (i := 469) (by decide +kernel), List.mem_of_getElem? (i := 470) (by decide +kernel)⟩
theorem lw_p2 : lw_okq (⟨"WayLeaves$Reader", "splitOne", "(I)I"⟩, 10) := ⟨⟨by decide +kernel, by decide +kernel⟩, List.mem_of_getElem? (i := 199) (by decide +kernel), List.mem_of_getElem? (i := 473) (by decide +kernel), List.mem_of_getElem? (i := 474) (by decide +kernel)⟩
theorem lw_p3 : lw_okq (⟨"WayLeaves$Reader", "put", "(III)I"⟩, 10) := ⟨⟨by decide +kernel, by decide +kernel⟩, List.mem_of_getElem? (i := 199) (by decide +kernel), List.mem_of_getElem? (i := 477) (by decide +kernel), List.mem_of_getElem? (i := 478) (by decide +kernel)⟩
theorem lw_p4 : lw_okq (⟨"WayLeaves$Reader", "behindLetters", "(I)I"⟩, 10) := ⟨⟨by decide +kernel, by decide +kernel⟩, List.mem_of_getElem? (i := 199) (by decide +kernel), List.mem_of_getElem? (i := 487) (by decide +kernel), List.mem_of_getElem? (i := 488) (by decide +kernel)⟩
theorem lw_p5 : lw_okq (⟨"WayLeaves$Reader", "wordAt", "(II)I"⟩, 10) := ⟨⟨by decide +kernel, by decide +kernel⟩, List.mem_of_getElem? (i := 199) (by decide +kernel), List.mem_of_getElem? (i := 491) (by decide +kernel), List.mem_of_getElem? (i := 492) (by decide +kernel)⟩
theorem lw_p6 : lw_okq (⟨"WayLeaves$Reader", "isWord", "(IILjava/lang/String;)Z"⟩, 10) := ⟨⟨by decide +kernel, by decide +kernel⟩, List.mem_of_getElem? (i := 199) (by decide +kernel), List.mem_of_getElem? (i := 496) (by decide +kernel), List.mem_of_getElem? (i := 497) (by decide +kernel)⟩
theorem lw_p7 : lw_okq (⟨"WayLeaves$Reader", "behindDigits", "(I)I"⟩, 10) := ⟨⟨by decide +kernel, by decide +kernel⟩, List.mem_of_getElem? (i := 199) (by decide +kernel), List.mem_of_getElem? (i := 513) (by decide +kernel), List.mem_of_getElem? (i := 514) (by decide +kernel)⟩
theorem lw_p8 : lw_okq (⟨"WayLeaves$Reader", "numberAt", "(II)I"⟩, 10) := ⟨⟨by decide +kernel, by decide +kernel⟩, List.mem_of_getElem? (i := 199) (by decide +kernel), List.mem_of_getElem? (i := 517) (by decide +kernel), List.mem_of_getElem? (i := 518) (by decide +kernel)⟩
theorem lw_p9 : lw_okq (⟨"WayLeaves$Reader", "readParts", "()Z"⟩, 10) := ⟨⟨by decide +kernel, by decide +kernel⟩, List.mem_of_getElem? (i := 199) (by decide +kernel), List.mem_of_getElem? (i := 524) (by decide +kernel), List.mem_of_getElem? (i := 525) (by decide +kernel)⟩
theorem lw_p10 : lw_okq (⟨"WayLeaves$Reader", "accept", "(I)Z"⟩, 10) := ⟨⟨by decide +kernel, by decide +kernel⟩, List.mem_of_getElem? (i := 199) (by decide +kernel), List.mem_of_getElem? (i := 528) (by decide +kernel), List.mem_of_getElem? (i := 529) (by decide +kernel)⟩
theorem lw_p11 : lw_okq (⟨"WayLeaves$Reader", "readLevel", "(II)Z"⟩, 10) := ⟨⟨by decide +kernel, by decide +kernel⟩, List.mem_of_getElem? (i := 199) (by decide +kernel), List.mem_of_getElem? (i := 532) (by decide +kernel), List.mem_of_getElem? (i := 533) (by decide +kernel)⟩
theorem lw_p12 : lw_okq (⟨"WayLeaves$Reader", "readOne", "(I)Z"⟩, 10) := ⟨⟨by decide +kernel, by decide +kernel⟩, List.mem_of_getElem? (i := 199) (by decide +kernel), List.mem_of_getElem? (i := 536) (by decide +kernel), List.mem_of_getElem? (i := 537) (by decide +kernel)⟩
theorem lw_p13 : lw_okq (⟨"WayLeaves$Reader", "readOpened", "(III)Z"⟩, 10) := ⟨⟨by decide +kernel, by decide +kernel⟩, List.mem_of_getElem? (i := 199) (by decide +kernel), List.mem_of_getElem? (i := 540) (by decide +kernel), List.mem_of_getElem? (i := 541) (by decide +kernel)⟩
theorem lw_p14 : lw_okq (⟨"WayLeaves$Reader", "emit", "(I)V"⟩, 10) := ⟨⟨by decide +kernel, by decide +kernel⟩, List.mem_of_getElem? (i := 199) (by decide +kernel), List.mem_of_getElem? (i := 544) (by decide +kernel), List.mem_of_getElem? (i := 545) (by decide +kernel)⟩
theorem lw_p15 : lw_okq (⟨"WayLeaves$Leaves", "markInForce", "(II)V"⟩, 13) := ⟨⟨by decide +kernel, by decide +kernel⟩, List.mem_of_getElem? (i := 145) (by decide +kernel), List.mem_of_getElem? (i := 737) (by decide +kernel), List.mem_of_getElem? (i := 738) (by decide +kernel)⟩
def lw_privs_1 : List (MethodName × Nat) := [(⟨"WayLeaves$Reader", "splitTape", "()V"⟩, 10), (⟨"WayLeaves$Reader", "behindBlanks", "(I)I"⟩, 10), (⟨"WayLeaves$Reader", "splitOne", "(I)I"⟩, 10), (⟨"WayLeaves$Reader", "put", "(III)I"⟩, 10), (⟨"WayLeaves$Reader", "behindLetters", "(I)I"⟩, 10), (⟨"WayLeaves$Reader", "wordAt", "(II)I"⟩, 10), (⟨"WayLeaves$Reader", "isWord", "(IILjava/lang/String;)Z"⟩, 10), (⟨"WayLeaves$Reader", "behindDigits", "(I)I"⟩, 10), (⟨"WayLeaves$Reader", "numberAt", "(II)I"⟩, 10), (⟨"WayLeaves$Reader", "readParts", "()Z"⟩, 10), (⟨"WayLeaves$Reader", "accept", "(I)Z"⟩, 10), (⟨"WayLeaves$Reader", "readLevel", "(II)Z"⟩, 10), (⟨"WayLeaves$Reader", "readOne", "(I)Z"⟩, 10), (⟨"WayLeaves$Reader", "readOpened", "(III)Z"⟩, 10), (⟨"WayLeaves$Reader", "emit", "(I)V"⟩, 10), (⟨"WayLeaves$Leaves", "markInForce", "(II)V"⟩, 13)]
theorem lw_r1 : ∀ q ∈ lw_privs_1, lw_okq q := List.forall_mem_cons.mpr ⟨lw_p0, List.forall_mem_cons.mpr ⟨lw_p1, List.forall_mem_cons.mpr ⟨lw_p2, List.forall_mem_cons.mpr ⟨lw_p3, List.forall_mem_cons.mpr ⟨lw_p4, List.forall_mem_cons.mpr ⟨lw_p5, List.forall_mem_cons.mpr ⟨lw_p6, List.forall_mem_cons.mpr ⟨lw_p7, List.forall_mem_cons.mpr ⟨lw_p8, List.forall_mem_cons.mpr ⟨lw_p9, List.forall_mem_cons.mpr ⟨lw_p10, List.forall_mem_cons.mpr ⟨lw_p11, List.forall_mem_cons.mpr ⟨lw_p12, List.forall_mem_cons.mpr ⟨lw_p13, List.forall_mem_cons.mpr ⟨lw_p14, List.forall_mem_cons.mpr ⟨lw_p15, fun _ h => absurd h List.not_mem_nil⟩⟩⟩⟩⟩⟩⟩⟩⟩⟩⟩⟩⟩⟩⟩⟩
theorem lw_p16 : lw_okq (⟨"WayLeaves$Leaves", "standsAlone", "(II)Z"⟩, 13) := ⟨⟨by decide +kernel, by decide +kernel⟩, List.mem_of_getElem? (i := 145) (by decide +kernel), List.mem_of_getElem? (i := 741) (by decide +kernel), List.mem_of_getElem? (i := 742) (by decide +kernel)⟩
theorem lw_p17 : lw_okq (⟨"WayLeaves$Leaves", "nextChange", "(II)I"⟩, 13) := ⟨⟨by decide +kernel, by decide +kernel⟩, List.mem_of_getElem? (i := 145) (by decide +kernel), List.mem_of_getElem? (i := 754) (by decide +kernel), List.mem_of_getElem? (i := 755) (by decide +kernel)⟩
theorem lw_p18 : lw_okq (⟨"WayLeaves$Heirs", "part", "(II)J"⟩, 2) := ⟨⟨by decide +kernel, by decide +kernel⟩, List.mem_of_getElem? (i := 86) (by decide +kernel), List.mem_of_getElem? (i := 837) (by decide +kernel), List.mem_of_getElem? (i := 838) (by decide +kernel)⟩
theorem lw_p19 : lw_okq (⟨"WayLeaves$Acts", "push", "(I)V"⟩, 9) := ⟨⟨by decide +kernel, by decide +kernel⟩, List.mem_of_getElem? (i := 240) (by decide +kernel), List.mem_of_getElem? (i := 862) (by decide +kernel), List.mem_of_getElem? (i := 863) (by decide +kernel)⟩
theorem lw_p20 : lw_okq (⟨"WayLeaves$Acts", "named", "(II)I"⟩, 9) := ⟨⟨by decide +kernel, by decide +kernel⟩, List.mem_of_getElem? (i := 240) (by decide +kernel), List.mem_of_getElem? (i := 867) (by decide +kernel), List.mem_of_getElem? (i := 868) (by decide +kernel)⟩
theorem lw_p21 : lw_okq (⟨"WayLeaves$Acts", "pull", "()I"⟩, 9) := ⟨⟨by decide +kernel, by decide +kernel⟩, List.mem_of_getElem? (i := 240) (by decide +kernel), List.mem_of_getElem? (i := 873) (by decide +kernel), List.mem_of_getElem? (i := 874) (by decide +kernel)⟩
theorem lw_p22 : lw_okq (⟨"WayLeaves$Acts", "join", "(I)V"⟩, 9) := ⟨⟨by decide +kernel, by decide +kernel⟩, List.mem_of_getElem? (i := 240) (by decide +kernel), List.mem_of_getElem? (i := 880) (by decide +kernel), List.mem_of_getElem? (i := 881) (by decide +kernel)⟩
theorem lw_p23 : lw_okq (⟨"WayLeaves$Claims", "wasMade", "(II)Z"⟩, 9) := ⟨⟨by decide +kernel, by decide +kernel⟩, List.mem_of_getElem? (i := 277) (by decide +kernel), List.mem_of_getElem? (i := 895) (by decide +kernel), List.mem_of_getElem? (i := 896) (by decide +kernel)⟩
theorem lw_p24 : lw_okq (⟨"WayLeaves$Ways", "weightOf", "(III)I"⟩, 3) := ⟨⟨by decide +kernel, by decide +kernel⟩, List.mem_of_getElem? (i := 333) (by decide +kernel), List.mem_of_getElem? (i := 949) (by decide +kernel), List.mem_of_getElem? (i := 950) (by decide +kernel)⟩
theorem lw_p25 : lw_okq (⟨"WayLeaves$Ways", "spreadFrom", "(I)V"⟩, 3) := ⟨⟨by decide +kernel, by decide +kernel⟩, List.mem_of_getElem? (i := 333) (by decide +kernel), List.mem_of_getElem? (i := 954) (by decide +kernel), List.mem_of_getElem? (i := 955) (by decide +kernel)⟩
theorem lw_p26 : lw_okq (⟨"WayLeaves$Ways", "lessen", "(I)Z"⟩, 3) := ⟨⟨by decide +kernel, by decide +kernel⟩, List.mem_of_getElem? (i := 333) (by decide +kernel), List.mem_of_getElem? (i := 960) (by decide +kernel), List.mem_of_getElem? (i := 961) (by decide +kernel)⟩
theorem lw_p27 : lw_okq (⟨"WayLeaves$Ways", "nextOn", "(I)I"⟩, 3) := ⟨⟨by decide +kernel, by decide +kernel⟩, List.mem_of_getElem? (i := 333) (by decide +kernel), List.mem_of_getElem? (i := 973) (by decide +kernel), List.mem_of_getElem? (i := 974) (by decide +kernel)⟩
theorem lw_p28 : lw_okq (⟨"WayLeaves$Asks", "leastNext", "(I)I"⟩, 8) := ⟨⟨by decide +kernel, by decide +kernel⟩, List.mem_of_getElem? (i := 349) (by decide +kernel), List.mem_of_getElem? (i := 1004) (by decide +kernel), List.mem_of_getElem? (i := 1005) (by decide +kernel)⟩
theorem lw_p29 : lw_okq (⟨"WayLeaves$Asks", "weightBehind", "(II)I"⟩, 8) := ⟨⟨by decide +kernel, by decide +kernel⟩, List.mem_of_getElem? (i := 349) (by decide +kernel), List.mem_of_getElem? (i := 1008) (by decide +kernel), List.mem_of_getElem? (i := 1009) (by decide +kernel)⟩
theorem lw_p30 : lw_okq (⟨"WayLeavesModel", "ownerIn", "(II)I"⟩, 76) := ⟨⟨by decide +kernel, by decide +kernel⟩, List.mem_of_getElem? (i := 1129) (by decide +kernel), List.mem_of_getElem? (i := 1127) (by decide +kernel), List.mem_of_getElem? (i := 1128) (by decide +kernel)⟩
theorem lw_p31 : lw_okq (⟨"WayLeavesModel", "highOf", "(I)I"⟩, 76) := ⟨⟨by decide +kernel, by decide +kernel⟩, List.mem_of_getElem? (i := 1129) (by decide +kernel), List.mem_of_getElem? (i := 1148) (by decide +kernel), List.mem_of_getElem? (i := 1149) (by decide +kernel)⟩
def lw_privs_2 : List (MethodName × Nat) := [(⟨"WayLeaves$Leaves", "standsAlone", "(II)Z"⟩, 13), (⟨"WayLeaves$Leaves", "nextChange", "(II)I"⟩, 13), (⟨"WayLeaves$Heirs", "part", "(II)J"⟩, 2), (⟨"WayLeaves$Acts", "push", "(I)V"⟩, 9), (⟨"WayLeaves$Acts", "named", "(II)I"⟩, 9), (⟨"WayLeaves$Acts", "pull", "()I"⟩, 9), (⟨"WayLeaves$Acts", "join", "(I)V"⟩, 9), (⟨"WayLeaves$Claims", "wasMade", "(II)Z"⟩, 9), (⟨"WayLeaves$Ways", "weightOf", "(III)I"⟩, 3), (⟨"WayLeaves$Ways", "spreadFrom", "(I)V"⟩, 3), (⟨"WayLeaves$Ways", "lessen", "(I)Z"⟩, 3), (⟨"WayLeaves$Ways", "nextOn", "(I)I"⟩, 3), (⟨"WayLeaves$Asks", "leastNext", "(I)I"⟩, 8), (⟨"WayLeaves$Asks", "weightBehind", "(II)I"⟩, 8), (⟨"WayLeavesModel", "ownerIn", "(II)I"⟩, 76), (⟨"WayLeavesModel", "highOf", "(I)I"⟩, 76)]
theorem lw_r2 : ∀ q ∈ lw_privs_2, lw_okq q := List.forall_mem_cons.mpr ⟨lw_p16, List.forall_mem_cons.mpr ⟨lw_p17, List.forall_mem_cons.mpr ⟨lw_p18, List.forall_mem_cons.mpr ⟨lw_p19, List.forall_mem_cons.mpr ⟨lw_p20, List.forall_mem_cons.mpr ⟨lw_p21, List.forall_mem_cons.mpr ⟨lw_p22, List.forall_mem_cons.mpr ⟨lw_p23, List.forall_mem_cons.mpr ⟨lw_p24, List.forall_mem_cons.mpr ⟨lw_p25, List.forall_mem_cons.mpr ⟨lw_p26, List.forall_mem_cons.mpr ⟨lw_p27, List.forall_mem_cons.mpr ⟨lw_p28, List.forall_mem_cons.mpr ⟨lw_p29, List.forall_mem_cons.mpr ⟨lw_p30, List.forall_mem_cons.mpr ⟨lw_p31, fun _ h => absurd h List.not_mem_nil⟩⟩⟩⟩⟩⟩⟩⟩⟩⟩⟩⟩⟩⟩⟩⟩
theorem lw_p32 : lw_okq (⟨"WayLeavesModel", "isTower", "(I)Z"⟩, 76) := ⟨⟨by decide +kernel, by decide +kernel⟩, List.mem_of_getElem? (i := 1129) (by decide +kernel), List.mem_of_getElem? (i := 1166) (by decide +kernel), List.mem_of_getElem? (i := 1167) (by decide +kernel)⟩
theorem lw_p33 : lw_okq (⟨"WayLeavesModel", "isSpan", "(I)Z"⟩, 76) := ⟨⟨by decide +kernel, by decide +kernel⟩, List.mem_of_getElem? (i := 1129) (by decide +kernel), List.mem_of_getElem? (i := 1176) (by decide +kernel), List.mem_of_getElem? (i := 1177) (by decide +kernel)⟩
theorem lw_p34 : lw_okq (⟨"WayLeavesModel", "sag", "(I)I"⟩, 76) := ⟨⟨by decide +kernel, by decide +kernel⟩, List.mem_of_getElem? (i := 1129) (by decide +kernel), List.mem_of_getElem? (i := 1186) (by decide +kernel), List.mem_of_getElem? (i := 1187) (by decide +kernel)⟩
theorem lw_p35 : lw_okq (⟨"WayLeavesModel", "low", "(I)I"⟩, 76) := ⟨⟨by decide +kernel, by decide +kernel⟩, List.mem_of_getElem? (i := 1129) (by decide +kernel), List.mem_of_getElem? (i := 1191) (by decide +kernel), List.mem_of_getElem? (i := 1192) (by decide +kernel)⟩
theorem lw_p36 : lw_okq (⟨"WayLeavesModel", "near", "(I)I"⟩, 76) := ⟨⟨by decide +kernel, by decide +kernel⟩, List.mem_of_getElem? (i := 1129) (by decide +kernel), List.mem_of_getElem? (i := 1196) (by decide +kernel), List.mem_of_getElem? (i := 1197) (by decide +kernel)⟩
theorem lw_p37 : lw_okq (⟨"WayLeavesModel", "ends", "(I)I"⟩, 76) := ⟨⟨by decide +kernel, by decide +kernel⟩, List.mem_of_getElem? (i := 1129) (by decide +kernel), List.mem_of_getElem? (i := 1200) (by decide +kernel), List.mem_of_getElem? (i := 1201) (by decide +kernel)⟩
theorem lw_p38 : lw_okq (⟨"WayLeavesModel", "hasIn", "(II)I"⟩, 76) := ⟨⟨by decide +kernel, by decide +kernel⟩, List.mem_of_getElem? (i := 1129) (by decide +kernel), List.mem_of_getElem? (i := 1204) (by decide +kernel), List.mem_of_getElem? (i := 1205) (by decide +kernel)⟩
theorem lw_p39 : lw_okq (⟨"WayLeavesModel", "isInForce", "(II)Z"⟩, 76) := ⟨⟨by decide +kernel, by decide +kernel⟩, List.mem_of_getElem? (i := 1129) (by decide +kernel), List.mem_of_getElem? (i := 1208) (by decide +kernel), List.mem_of_getElem? (i := 1209) (by decide +kernel)⟩
theorem lw_p40 : lw_okq (⟨"WayLeavesModel", "stands", "(II)Z"⟩, 76) := ⟨⟨by decide +kernel, by decide +kernel⟩, List.mem_of_getElem? (i := 1129) (by decide +kernel), List.mem_of_getElem? (i := 1212) (by decide +kernel), List.mem_of_getElem? (i := 1213) (by decide +kernel)⟩
theorem lw_p41 : lw_okq (⟨"WayLeavesModel", "lastsOf", "(I)I"⟩, 76) := ⟨⟨by decide +kernel, by decide +kernel⟩, List.mem_of_getElem? (i := 1129) (by decide +kernel), List.mem_of_getElem? (i := 1216) (by decide +kernel), List.mem_of_getElem? (i := 1217) (by decide +kernel)⟩
theorem lw_p42 : lw_okq (⟨"WayLeavesModel", "endsAt", "(III)I"⟩, 76) := ⟨⟨by decide +kernel, by decide +kernel⟩, List.mem_of_getElem? (i := 1129) (by decide +kernel), List.mem_of_getElem? (i := 1220) (by decide +kernel), List.mem_of_getElem? (i := 1221) (by decide +kernel)⟩
theorem lw_p43 : lw_okq (⟨"WayLeavesModel", "isLeave", "(I)Z"⟩, 76) := ⟨⟨by decide +kernel, by decide +kernel⟩, List.mem_of_getElem? (i := 1129) (by decide +kernel), List.mem_of_getElem? (i := 1230) (by decide +kernel), List.mem_of_getElem? (i := 1231) (by decide +kernel)⟩
theorem lw_p44 : lw_okq (⟨"WayLeavesModel", "yearlyOf", "(I)I"⟩, 76) := ⟨⟨by decide +kernel, by decide +kernel⟩, List.mem_of_getElem? (i := 1129) (by decide +kernel), List.mem_of_getElem? (i := 1238) (by decide +kernel), List.mem_of_getElem? (i := 1239) (by decide +kernel)⟩
theorem lw_p45 : lw_okq (⟨"WayLeavesModel", "hangs", "(II)Z"⟩, 76) := ⟨⟨by decide +kernel, by decide +kernel⟩, List.mem_of_getElem? (i := 1129) (by decide +kernel), List.mem_of_getElem? (i := 1254) (by decide +kernel), List.mem_of_getElem? (i := 1255) (by decide +kernel)⟩
theorem lw_p46 : lw_okq (⟨"WayLeavesModel", "clearComes", "()V"⟩, 76) := ⟨⟨by decide +kernel, by decide +kernel⟩, List.mem_of_getElem? (i := 1129) (by decide +kernel), List.mem_of_getElem? (i := 1266) (by decide +kernel), List.mem_of_getElem? (i := 1267) (by decide +kernel)⟩
theorem lw_p47 : lw_okq (⟨"WayLeavesModel", "parted", "(I)J"⟩, 76) := ⟨⟨by decide +kernel, by decide +kernel⟩, List.mem_of_getElem? (i := 1129) (by decide +kernel), List.mem_of_getElem? (i := 1270) (by decide +kernel), List.mem_of_getElem? (i := 1271) (by decide +kernel)⟩
def lw_privs_3 : List (MethodName × Nat) := [(⟨"WayLeavesModel", "isTower", "(I)Z"⟩, 76), (⟨"WayLeavesModel", "isSpan", "(I)Z"⟩, 76), (⟨"WayLeavesModel", "sag", "(I)I"⟩, 76), (⟨"WayLeavesModel", "low", "(I)I"⟩, 76), (⟨"WayLeavesModel", "near", "(I)I"⟩, 76), (⟨"WayLeavesModel", "ends", "(I)I"⟩, 76), (⟨"WayLeavesModel", "hasIn", "(II)I"⟩, 76), (⟨"WayLeavesModel", "isInForce", "(II)Z"⟩, 76), (⟨"WayLeavesModel", "stands", "(II)Z"⟩, 76), (⟨"WayLeavesModel", "lastsOf", "(I)I"⟩, 76), (⟨"WayLeavesModel", "endsAt", "(III)I"⟩, 76), (⟨"WayLeavesModel", "isLeave", "(I)Z"⟩, 76), (⟨"WayLeavesModel", "yearlyOf", "(I)I"⟩, 76), (⟨"WayLeavesModel", "hangs", "(II)Z"⟩, 76), (⟨"WayLeavesModel", "clearComes", "()V"⟩, 76), (⟨"WayLeavesModel", "parted", "(I)J"⟩, 76)]
theorem lw_r3 : ∀ q ∈ lw_privs_3, lw_okq q := List.forall_mem_cons.mpr ⟨lw_p32, List.forall_mem_cons.mpr ⟨lw_p33, List.forall_mem_cons.mpr ⟨lw_p34, List.forall_mem_cons.mpr ⟨lw_p35, List.forall_mem_cons.mpr ⟨lw_p36, List.forall_mem_cons.mpr ⟨lw_p37, List.forall_mem_cons.mpr ⟨lw_p38, List.forall_mem_cons.mpr ⟨lw_p39, List.forall_mem_cons.mpr ⟨lw_p40, List.forall_mem_cons.mpr ⟨lw_p41, List.forall_mem_cons.mpr ⟨lw_p42, List.forall_mem_cons.mpr ⟨lw_p43, List.forall_mem_cons.mpr ⟨lw_p44, List.forall_mem_cons.mpr ⟨lw_p45, List.forall_mem_cons.mpr ⟨lw_p46, List.forall_mem_cons.mpr ⟨lw_p47, fun _ h => absurd h List.not_mem_nil⟩⟩⟩⟩⟩⟩⟩⟩⟩⟩⟩⟩⟩⟩⟩⟩
theorem lw_p48 : lw_okq (⟨"WayLeavesModel", "readAll", "(I)I"⟩, 76) := ⟨⟨by decide +kernel, by decide +kernel⟩, List.mem_of_getElem? (i := 1129) (by decide +kernel), List.mem_of_getElem? (i := 1283) (by decide +kernel), List.mem_of_getElem? (i := 1284) (by decide +kernel)⟩
theorem lw_p49 : lw_okq (⟨"WayLeavesModel", "next", "()V"⟩, 76) := ⟨⟨by decide +kernel, by decide +kernel⟩, List.mem_of_getElem? (i := 1129) (by decide +kernel), List.mem_of_getElem? (i := 1287) (by decide +kernel), List.mem_of_getElem? (i := 1288) (by decide +kernel)⟩
theorem lw_p50 : lw_okq (⟨"WayLeavesModel", "isLetter", "(I)Z"⟩, 76) := ⟨⟨by decide +kernel, by decide +kernel⟩, List.mem_of_getElem? (i := 1129) (by decide +kernel), List.mem_of_getElem? (i := 1291) (by decide +kernel), List.mem_of_getElem? (i := 1292) (by decide +kernel)⟩
theorem lw_p51 : lw_okq (⟨"WayLeavesModel", "readWord", "()V"⟩, 76) := ⟨⟨by decide +kernel, by decide +kernel⟩, List.mem_of_getElem? (i := 1129) (by decide +kernel), List.mem_of_getElem? (i := 1295) (by decide +kernel), List.mem_of_getElem? (i := 1296) (by decide +kernel)⟩
theorem lw_p52 : lw_okq (⟨"WayLeavesModel", "isDigit", "(I)Z"⟩, 76) := ⟨⟨by decide +kernel, by decide +kernel⟩, List.mem_of_getElem? (i := 1129) (by decide +kernel), List.mem_of_getElem? (i := 1299) (by decide +kernel), List.mem_of_getElem? (i := 1300) (by decide +kernel)⟩
theorem lw_p53 : lw_okq (⟨"WayLeavesModel", "readNumber", "()V"⟩, 76) := ⟨⟨by decide +kernel, by decide +kernel⟩, List.mem_of_getElem? (i := 1129) (by decide +kernel), List.mem_of_getElem? (i := 1303) (by decide +kernel), List.mem_of_getElem? (i := 1304) (by decide +kernel)⟩
theorem lw_p54 : lw_okq (⟨"WayLeavesModel", "isKey", "(I)Z"⟩, 76) := ⟨⟨by decide +kernel, by decide +kernel⟩, List.mem_of_getElem? (i := 1129) (by decide +kernel), List.mem_of_getElem? (i := 1307) (by decide +kernel), List.mem_of_getElem? (i := 1308) (by decide +kernel)⟩
theorem lw_p55 : lw_okq (⟨"WayLeavesModel", "readE", "(I)Z"⟩, 76) := ⟨⟨by decide +kernel, by decide +kernel⟩, List.mem_of_getElem? (i := 1129) (by decide +kernel), List.mem_of_getElem? (i := 1311) (by decide +kernel), List.mem_of_getElem? (i := 1312) (by decide +kernel)⟩
theorem lw_p56 : lw_okq (⟨"WayLeavesModel", "emit", "(I)V"⟩, 76) := ⟨⟨by decide +kernel, by decide +kernel⟩, List.mem_of_getElem? (i := 1129) (by decide +kernel), List.mem_of_getElem? (i := 1315) (by decide +kernel), List.mem_of_getElem? (i := 1316) (by decide +kernel)⟩
theorem lw_p57 : lw_okq (⟨"WayLeavesModel", "doAll", "(I)V"⟩, 76) := ⟨⟨by decide +kernel, by decide +kernel⟩, List.mem_of_getElem? (i := 1129) (by decide +kernel), List.mem_of_getElem? (i := 1319) (by decide +kernel), List.mem_of_getElem? (i := 1320) (by decide +kernel)⟩
theorem lw_p58 : lw_okq (⟨"WayLeavesModel", "isSign", "(I)Z"⟩, 76) := ⟨⟨by decide +kernel, by decide +kernel⟩, List.mem_of_getElem? (i := 1129) (by decide +kernel), List.mem_of_getElem? (i := 1326) (by decide +kernel), List.mem_of_getElem? (i := 1327) (by decide +kernel)⟩
theorem lw_p59 : lw_okq (⟨"WayLeavesModel", "ahead", "(Z)Z"⟩, 76) := ⟨⟨by decide +kernel, by decide +kernel⟩, List.mem_of_getElem? (i := 1129) (by decide +kernel), List.mem_of_getElem? (i := 1330) (by decide +kernel), List.mem_of_getElem? (i := 1331) (by decide +kernel)⟩
theorem lw_p60 : lw_okq (⟨"WayLeavesModel", "await", "(I)V"⟩, 76) := ⟨⟨by decide +kernel, by decide +kernel⟩, List.mem_of_getElem? (i := 1129) (by decide +kernel), List.mem_of_getElem? (i := 1334) (by decide +kernel), List.mem_of_getElem? (i := 1335) (by decide +kernel)⟩
theorem lw_p61 : lw_okq (⟨"WayLeavesModel", "between", "()Z"⟩, 76) := ⟨⟨by decide +kernel, by decide +kernel⟩, List.mem_of_getElem? (i := 1129) (by decide +kernel), List.mem_of_getElem? (i := 1338) (by decide +kernel), List.mem_of_getElem? (i := 1339) (by decide +kernel)⟩
theorem lw_p62 : lw_okq (⟨"WayLeavesModel", "closes", "()Z"⟩, 76) := ⟨⟨by decide +kernel, by decide +kernel⟩, List.mem_of_getElem? (i := 1129) (by decide +kernel), List.mem_of_getElem? (i := 1342) (by decide +kernel), List.mem_of_getElem? (i := 1343) (by decide +kernel)⟩
theorem lw_p63 : lw_okq (⟨"WayLeavesModel", "partOf", "(II)I"⟩, 76) := ⟨⟨by decide +kernel, by decide +kernel⟩, List.mem_of_getElem? (i := 1129) (by decide +kernel), List.mem_of_getElem? (i := 1589) (by decide +kernel), List.mem_of_getElem? (i := 1590) (by decide +kernel)⟩
def lw_privs_4 : List (MethodName × Nat) := [(⟨"WayLeavesModel", "readAll", "(I)I"⟩, 76), (⟨"WayLeavesModel", "next", "()V"⟩, 76), (⟨"WayLeavesModel", "isLetter", "(I)Z"⟩, 76), (⟨"WayLeavesModel", "readWord", "()V"⟩, 76), (⟨"WayLeavesModel", "isDigit", "(I)Z"⟩, 76), (⟨"WayLeavesModel", "readNumber", "()V"⟩, 76), (⟨"WayLeavesModel", "isKey", "(I)Z"⟩, 76), (⟨"WayLeavesModel", "readE", "(I)Z"⟩, 76), (⟨"WayLeavesModel", "emit", "(I)V"⟩, 76), (⟨"WayLeavesModel", "doAll", "(I)V"⟩, 76), (⟨"WayLeavesModel", "isSign", "(I)Z"⟩, 76), (⟨"WayLeavesModel", "ahead", "(Z)Z"⟩, 76), (⟨"WayLeavesModel", "await", "(I)V"⟩, 76), (⟨"WayLeavesModel", "between", "()Z"⟩, 76), (⟨"WayLeavesModel", "closes", "()Z"⟩, 76), (⟨"WayLeavesModel", "partOf", "(II)I"⟩, 76)]
theorem lw_r4 : ∀ q ∈ lw_privs_4, lw_okq q := List.forall_mem_cons.mpr ⟨lw_p48, List.forall_mem_cons.mpr ⟨lw_p49, List.forall_mem_cons.mpr ⟨lw_p50, List.forall_mem_cons.mpr ⟨lw_p51, List.forall_mem_cons.mpr ⟨lw_p52, List.forall_mem_cons.mpr ⟨lw_p53, List.forall_mem_cons.mpr ⟨lw_p54, List.forall_mem_cons.mpr ⟨lw_p55, List.forall_mem_cons.mpr ⟨lw_p56, List.forall_mem_cons.mpr ⟨lw_p57, List.forall_mem_cons.mpr ⟨lw_p58, List.forall_mem_cons.mpr ⟨lw_p59, List.forall_mem_cons.mpr ⟨lw_p60, List.forall_mem_cons.mpr ⟨lw_p61, List.forall_mem_cons.mpr ⟨lw_p62, List.forall_mem_cons.mpr ⟨lw_p63, fun _ h => absurd h List.not_mem_nil⟩⟩⟩⟩⟩⟩⟩⟩⟩⟩⟩⟩⟩⟩⟩⟩
theorem lw_p64 : lw_okq (⟨"WayLeavesModel", "nameOf", "(II)I"⟩, 76) := ⟨⟨by decide +kernel, by decide +kernel⟩, List.mem_of_getElem? (i := 1129) (by decide +kernel), List.mem_of_getElem? (i := 1593) (by decide +kernel), List.mem_of_getElem? (i := 1594) (by decide +kernel)⟩
theorem lw_p65 : lw_okq (⟨"WayLeavesModel", "isDoubled", "(I)Z"⟩, 76) := ⟨⟨by decide +kernel, by decide +kernel⟩, List.mem_of_getElem? (i := 1129) (by decide +kernel), List.mem_of_getElem? (i := 1608) (by decide +kernel), List.mem_of_getElem? (i := 1609) (by decide +kernel)⟩
theorem lw_p66 : lw_okq (⟨"WayLeavesModel", "findWays", "(III)V"⟩, 76) := ⟨⟨by decide +kernel, by decide +kernel⟩, List.mem_of_getElem? (i := 1129) (by decide +kernel), List.mem_of_getElem? (i := 1632) (by decide +kernel), List.mem_of_getElem? (i := 1633) (by decide +kernel)⟩
theorem lw_p67 : lw_okq (⟨"WayLeavesModel", "costOf", "(III)I"⟩, 76) := ⟨⟨by decide +kernel, by decide +kernel⟩, List.mem_of_getElem? (i := 1129) (by decide +kernel), List.mem_of_getElem? (i := 1636) (by decide +kernel), List.mem_of_getElem? (i := 1637) (by decide +kernel)⟩
theorem lw_p68 : lw_okq (⟨"WayLeavesModel", "isShorter", "(III)Z"⟩, 76) := ⟨⟨by decide +kernel, by decide +kernel⟩, List.mem_of_getElem? (i := 1129) (by decide +kernel), List.mem_of_getElem? (i := 1643) (by decide +kernel), List.mem_of_getElem? (i := 1644) (by decide +kernel)⟩
theorem lw_p69 : lw_okq (⟨"WayLeavesModel", "nextOf", "(I)I"⟩, 76) := ⟨⟨by decide +kernel, by decide +kernel⟩, List.mem_of_getElem? (i := 1129) (by decide +kernel), List.mem_of_getElem? (i := 1647) (by decide +kernel), List.mem_of_getElem? (i := 1648) (by decide +kernel)⟩
theorem lw_p70 : lw_okq (⟨"WayLeavesModel", "orderAll", "(I)V"⟩, 76) := ⟨⟨by decide +kernel, by decide +kernel⟩, List.mem_of_getElem? (i := 1129) (by decide +kernel), List.mem_of_getElem? (i := 1663) (by decide +kernel), List.mem_of_getElem? (i := 1664) (by decide +kernel)⟩
theorem lw_p71 : lw_okq (⟨"WayLeavesModel", "orderOf", "(II)V"⟩, 76) := ⟨⟨by decide +kernel, by decide +kernel⟩, List.mem_of_getElem? (i := 1129) (by decide +kernel), List.mem_of_getElem? (i := 1667) (by decide +kernel), List.mem_of_getElem? (i := 1668) (by decide +kernel)⟩
theorem lw_p72 : lw_okq (⟨"WayLeavesModel", "judge", "(I)V"⟩, 76) := ⟨⟨by decide +kernel, by decide +kernel⟩, List.mem_of_getElem? (i := 1129) (by decide +kernel), List.mem_of_getElem? (i := 1671) (by decide +kernel), List.mem_of_getElem? (i := 1672) (by decide +kernel)⟩
theorem lw_p73 : lw_okq (⟨"WayLeavesModel", "spansWith", "(Z)I"⟩, 76) := ⟨⟨by decide +kernel, by decide +kernel⟩, List.mem_of_getElem? (i := 1129) (by decide +kernel), List.mem_of_getElem? (i := 1679) (by decide +kernel), List.mem_of_getElem? (i := 1680) (by decide +kernel)⟩
def lw_privs_5 : List (MethodName × Nat) := [(⟨"WayLeavesModel", "nameOf", "(II)I"⟩, 76), (⟨"WayLeavesModel", "isDoubled", "(I)Z"⟩, 76), (⟨"WayLeavesModel", "findWays", "(III)V"⟩, 76), (⟨"WayLeavesModel", "costOf", "(III)I"⟩, 76), (⟨"WayLeavesModel", "isShorter", "(III)Z"⟩, 76), (⟨"WayLeavesModel", "nextOf", "(I)I"⟩, 76), (⟨"WayLeavesModel", "orderAll", "(I)V"⟩, 76), (⟨"WayLeavesModel", "orderOf", "(II)V"⟩, 76), (⟨"WayLeavesModel", "judge", "(I)V"⟩, 76), (⟨"WayLeavesModel", "spansWith", "(Z)I"⟩, 76)]
theorem lw_r5 : ∀ q ∈ lw_privs_5, lw_okq q := List.forall_mem_cons.mpr ⟨lw_p64, List.forall_mem_cons.mpr ⟨lw_p65, List.forall_mem_cons.mpr ⟨lw_p66, List.forall_mem_cons.mpr ⟨lw_p67, List.forall_mem_cons.mpr ⟨lw_p68, List.forall_mem_cons.mpr ⟨lw_p69, List.forall_mem_cons.mpr ⟨lw_p70, List.forall_mem_cons.mpr ⟨lw_p71, List.forall_mem_cons.mpr ⟨lw_p72, List.forall_mem_cons.mpr ⟨lw_p73, fun _ h => absurd h List.not_mem_nil⟩⟩⟩⟩⟩⟩⟩⟩⟩⟩
def lw_privs : List (MethodName × Nat) := lw_privs_1 ++ (lw_privs_2 ++ (lw_privs_3 ++ (lw_privs_4 ++ (lw_privs_5))))
def lw_tbl : List Cond := k2_sels lw_privs ++ tables_1
theorem lw_privs_ok : ∀ q ∈ lw_privs, lw_okq q := by
  show ∀ q ∈ lw_privs_1 ++ (lw_privs_2 ++ (lw_privs_3 ++ (lw_privs_4 ++ (lw_privs_5)))), lw_okq q
  exact List.forall_mem_append.mpr ⟨lw_r1, List.forall_mem_append.mpr ⟨lw_r2, List.forall_mem_append.mpr ⟨lw_r3, List.forall_mem_append.mpr ⟨lw_r4, lw_r5⟩⟩⟩⟩

def RX0 : String := "WayLeaves$Acts"
def TX0 : u_T := fun k => match k with
  | 0 => ("WayLeaves$Acts", "land", "LWayLeaves$Land;", true)
  | 1 => ("WayLeaves$Acts", "line", "LWayLeaves$Line;", true)
  | 2 => ("WayLeaves$Acts", "count", "I", false)
  | 3 => ("WayLeaves$Acts", "inForce", "I", false)
  | 4 => ("WayLeaves$Acts", "codes", "[[I", true)
  | 5 => ("WayLeaves$Acts", "middles", "[I", true)
  | 6 => ("WayLeaves$Acts", "lengths", "[I", true)
  | 7 => ("WayLeaves$Acts", "stack", "[I", true)
  | _ => ("WayLeaves$Acts", "top", "I", false)
def tyX0 : Nat → FieldType := fun k => match k with
  | 0 => .object "WayLeaves$Land"
  | 1 => .object "WayLeaves$Line"
  | 2 => .int
  | 3 => .int
  | 4 => .array (.array .int)
  | 5 => .array .int
  | 6 => .array .int
  | 7 => .array .int
  | _ => .int
theorem nmX0 : ∀ a, a < 9 → ∀ b, b < 9 → a ≠ b → (TX0 a).2.1 ≠ (TX0 b).2.1 := by decide +kernel
theorem tyX0_ok : ∀ k, k < 9 → parseFieldDescriptor (TX0 k).2.2.1 = some (tyX0 k) := by decide +kernel
abbrev cX0_init : ByteArray := prog_2_method_1_code
def yX0_init : MethodName := ⟨RX0, "<init>", "(LWayLeaves$Land;LWayLeaves$Line;)V"⟩
abbrev cX0_keep : ByteArray := prog_2_method_2_code
def yX0_keep : MethodName := ⟨RX0, "keep", "(LWayLeaves$Reader;)I"⟩
abbrev cX0_comesTo : ByteArray := prog_2_method_3_code
def yX0_comesTo : MethodName := ⟨RX0, "comesTo", "(II)I"⟩
abbrev cX0_join : ByteArray := prog_2_method_4_code
def yX0_join : MethodName := ⟨RX0, "join", "(I)V"⟩
abbrev cX0_push : ByteArray := prog_2_method_5_code
def yX0_push : MethodName := ⟨RX0, "push", "(I)V"⟩
abbrev cX0_pull : ByteArray := prog_2_method_6_code
def yX0_pull : MethodName := ⟨RX0, "pull", "()I"⟩
abbrev cX0_truth : ByteArray := prog_2_method_7_code
def yX0_truth : MethodName := ⟨RX0, "truth", "(Z)I"⟩
abbrev cX0_named : ByteArray := prog_2_method_8_code
def yX0_named : MethodName := ⟨RX0, "named", "(II)I"⟩
abbrev cX0_joined : ByteArray := prog_2_method_9_code
def yX0_joined : MethodName := ⟨RX0, "joined", "(III)I"⟩
def RX1 : String := "WayLeaves$Asks"
def TX1 : u_T := fun k => match k with
  | 0 => ("WayLeaves$Asks", "land", "LWayLeaves$Land;", true)
  | 1 => ("WayLeaves$Asks", "line", "LWayLeaves$Line;", true)
  | 2 => ("WayLeaves$Asks", "leaves", "LWayLeaves$Leaves;", true)
  | 3 => ("WayLeaves$Asks", "count", "I", false)
  | 4 => ("WayLeaves$Asks", "spans", "[I", true)
  | 5 => ("WayLeaves$Asks", "ends", "[I", true)
  | 6 => ("WayLeaves$Asks", "doneDays", "[I", true)
  | _ => ("WayLeaves$Asks", "best", "[I", true)
def tyX1 : Nat → FieldType := fun k => match k with
  | 0 => .object "WayLeaves$Land"
  | 1 => .object "WayLeaves$Line"
  | 2 => .object "WayLeaves$Leaves"
  | 3 => .int
  | 4 => .array .int
  | 5 => .array .int
  | 6 => .array .int
  | _ => .array .int
theorem nmX1 : ∀ a, a < 8 → ∀ b, b < 8 → a ≠ b → (TX1 a).2.1 ≠ (TX1 b).2.1 := by decide +kernel
theorem tyX1_ok : ∀ k, k < 8 → parseFieldDescriptor (TX1 k).2.2.1 = some (tyX1 k) := by decide +kernel
abbrev cX1_init : ByteArray := prog_3_method_1_code
def yX1_init : MethodName := ⟨RX1, "<init>", "(LWayLeaves$Land;LWayLeaves$Line;LWayLeaves$Leaves;)V"⟩
abbrev cX1_choose : ByteArray := prog_3_method_2_code
def yX1_choose : MethodName := ⟨RX1, "choose", "(I)V"⟩
abbrev cX1_arrange : ByteArray := prog_3_method_3_code
def yX1_arrange : MethodName := ⟨RX1, "arrange", "()V"⟩
abbrev cX1_leastNext : ByteArray := prog_3_method_4_code
def yX1_leastNext : MethodName := ⟨RX1, "leastNext", "(I)I"⟩
abbrev cX1_weightBehind : ByteArray := prog_3_method_5_code
def yX1_weightBehind : MethodName := ⟨RX1, "weightBehind", "(II)I"⟩
abbrev cX1_late : ByteArray := prog_3_method_6_code
def yX1_late : MethodName := ⟨RX1, "late", "()I"⟩
abbrev cX1_spanAt : ByteArray := prog_3_method_7_code
def yX1_spanAt : MethodName := ⟨RX1, "spanAt", "(I)I"⟩
def RX2 : String := "WayLeaves$Claims"
def TX2 : u_T := fun k => match k with
  | 0 => ("WayLeaves$Claims", "land", "LWayLeaves$Land;", true)
  | 1 => ("WayLeaves$Claims", "leaves", "LWayLeaves$Leaves;", true)
  | 2 => ("WayLeaves$Claims", "acts", "LWayLeaves$Acts;", true)
  | 3 => ("WayLeaves$Claims", "heirs", "LWayLeaves$Heirs;", true)
  | 4 => ("WayLeaves$Claims", "count", "I", false)
  | 5 => ("WayLeaves$Claims", "doubles", "I", false)
  | 6 => ("WayLeaves$Claims", "owners", "[I", true)
  | 7 => ("WayLeaves$Claims", "spans", "[I", true)
  | _ => ("WayLeaves$Claims", "sums", "[I", true)
def tyX2 : Nat → FieldType := fun k => match k with
  | 0 => .object "WayLeaves$Land"
  | 1 => .object "WayLeaves$Leaves"
  | 2 => .object "WayLeaves$Acts"
  | 3 => .object "WayLeaves$Heirs"
  | 4 => .int
  | 5 => .int
  | 6 => .array .int
  | 7 => .array .int
  | _ => .array .int
theorem nmX2 : ∀ a, a < 9 → ∀ b, b < 9 → a ≠ b → (TX2 a).2.1 ≠ (TX2 b).2.1 := by decide +kernel
theorem tyX2_ok : ∀ k, k < 9 → parseFieldDescriptor (TX2 k).2.2.1 = some (tyX2 k) := by decide +kernel
abbrev cX2_init : ByteArray := prog_4_method_1_code
def yX2_init : MethodName := ⟨RX2, "<init>", "(LWayLeaves$Land;LWayLeaves$Leaves;LWayLeaves$Acts;LWayLeaves$Heirs;)V"⟩
abbrev cX2_add : ByteArray := prog_4_method_2_code
def yX2_add : MethodName := ⟨RX2, "add", "(III)I"⟩
abbrev cX2_wasMade : ByteArray := prog_4_method_3_code
def yX2_wasMade : MethodName := ⟨RX2, "wasMade", "(II)Z"⟩
abbrev cX2_dueTo : ByteArray := prog_4_method_4_code
def yX2_dueTo : MethodName := ⟨RX2, "dueTo", "(I)J"⟩
def RX3 : String := "WayLeaves$Heirs"
def TX3 : u_T := fun k => match k with
  | 0 => ("WayLeaves$Heirs", "shares", "[[I", true)
  | _ => ("WayLeaves$Heirs", "till", "[J", true)
def tyX3 : Nat → FieldType := fun k => match k with
  | 0 => .array (.array .int)
  | _ => .array .long
theorem nmX3 : ∀ a, a < 2 → ∀ b, b < 2 → a ≠ b → (TX3 a).2.1 ≠ (TX3 b).2.1 := by decide +kernel
theorem tyX3_ok : ∀ k, k < 2 → parseFieldDescriptor (TX3 k).2.2.1 = some (tyX3 k) := by decide +kernel
abbrev cX3_init : ByteArray := prog_5_method_1_code
def yX3_init : MethodName := ⟨RX3, "<init>", "()V"⟩
abbrev cX3_giveShares : ByteArray := prog_5_method_2_code
def yX3_giveShares : MethodName := ⟨RX3, "giveShares", "(III)I"⟩
abbrev cX3_emptyTill : ByteArray := prog_5_method_3_code
def yX3_emptyTill : MethodName := ⟨RX3, "emptyTill", "()V"⟩
abbrev cX3_pay : ByteArray := prog_5_method_4_code
def yX3_pay : MethodName := ⟨RX3, "pay", "(IJ)V"⟩
abbrev cX3_comesTo : ByteArray := prog_5_method_5_code
def yX3_comesTo : MethodName := ⟨RX3, "comesTo", "(I)J"⟩
abbrev cX3_part : ByteArray := prog_5_method_6_code
def yX3_part : MethodName := ⟨RX3, "part", "(II)J"⟩
def RX4 : String := "WayLeaves$Land"
def TX4 : u_T := fun k => match k with
  | 0 => ("WayLeaves$Land", "day", "I", false)
  | 1 => ("WayLeaves$Land", "sales", "I", false)
  | 2 => ("WayLeaves$Land", "salePlots", "[I", true)
  | 3 => ("WayLeaves$Land", "saleOwners", "[I", true)
  | 4 => ("WayLeaves$Land", "saleDays", "[I", true)
  | 5 => ("WayLeaves$Land", "holds", "[I", true)
  | 6 => ("WayLeaves$Land", "told", "[[I", true)
  | 7 => ("WayLeaves$Land", "treeHeights", "[I", true)
  | 8 => ("WayLeaves$Land", "treeGrowths", "[I", true)
  | _ => ("WayLeaves$Land", "treeDays", "[I", true)
def tyX4 : Nat → FieldType := fun k => match k with
  | 0 => .int
  | 1 => .int
  | 2 => .array .int
  | 3 => .array .int
  | 4 => .array .int
  | 5 => .array .int
  | 6 => .array (.array .int)
  | 7 => .array .int
  | 8 => .array .int
  | _ => .array .int
theorem nmX4 : ∀ a, a < 10 → ∀ b, b < 10 → a ≠ b → (TX4 a).2.1 ≠ (TX4 b).2.1 := by decide +kernel
theorem tyX4_ok : ∀ k, k < 10 → parseFieldDescriptor (TX4 k).2.2.1 = some (tyX4 k) := by decide +kernel
abbrev cX4_init : ByteArray := prog_6_method_1_code
def yX4_init : MethodName := ⟨RX4, "<init>", "()V"⟩
abbrev cX4_isStillToCome : ByteArray := prog_6_method_2_code
def yX4_isStillToCome : MethodName := ⟨RX4, "isStillToCome", "(I)Z"⟩
abbrev cX4_addSale : ByteArray := prog_6_method_3_code
def yX4_addSale : MethodName := ⟨RX4, "addSale", "(III)I"⟩
abbrev cX4_ownerOn : ByteArray := prog_6_method_4_code
def yX4_ownerOn : MethodName := ⟨RX4, "ownerOn", "(II)I"⟩
abbrev cX4_nextSale : ByteArray := prog_6_method_5_code
def yX4_nextSale : MethodName := ⟨RX4, "nextSale", "(II)I"⟩
abbrev cX4_tell : ByteArray := prog_6_method_6_code
def yX4_tell : MethodName := ⟨RX4, "tell", "(III)I"⟩
abbrev cX4_plant : ByteArray := prog_6_method_7_code
def yX4_plant : MethodName := ⟨RX4, "plant", "(III)I"⟩
abbrev cX4_treesNow : ByteArray := prog_6_method_8_code
def yX4_treesNow : MethodName := ⟨RX4, "treesNow", "(I)I"⟩
def RX5 : String := "WayLeaves$Leaves"
def TX5 : u_T := fun k => match k with
  | 0 => ("WayLeaves$Leaves", "land", "LWayLeaves$Land;", true)
  | 1 => ("WayLeaves$Leaves", "line", "LWayLeaves$Line;", true)
  | 2 => ("WayLeaves$Leaves", "heirs", "LWayLeaves$Heirs;", true)
  | 3 => ("WayLeaves$Leaves", "count", "I", false)
  | 4 => ("WayLeaves$Leaves", "kinds", "[I", true)
  | 5 => ("WayLeaves$Leaves", "spans", "[I", true)
  | 6 => ("WayLeaves$Leaves", "sums", "[I", true)
  | 7 => ("WayLeaves$Leaves", "begins", "[I", true)
  | 8 => ("WayLeaves$Leaves", "ons", "[I", true)
  | 9 => ("WayLeaves$Leaves", "renewals", "[I", true)
  | 10 => ("WayLeaves$Leaves", "undone", "[I", true)
  | 11 => ("WayLeaves$Leaves", "appealed", "[Z", true)
  | _ => ("WayLeaves$Leaves", "marks", "[Z", true)
def tyX5 : Nat → FieldType := fun k => match k with
  | 0 => .object "WayLeaves$Land"
  | 1 => .object "WayLeaves$Line"
  | 2 => .object "WayLeaves$Heirs"
  | 3 => .int
  | 4 => .array .int
  | 5 => .array .int
  | 6 => .array .int
  | 7 => .array .int
  | 8 => .array .int
  | 9 => .array .int
  | 10 => .array .int
  | 11 => .array .boolean
  | _ => .array .boolean
theorem nmX5 : ∀ a, a < 13 → ∀ b, b < 13 → a ≠ b → (TX5 a).2.1 ≠ (TX5 b).2.1 := by decide +kernel
theorem tyX5_ok : ∀ k, k < 13 → parseFieldDescriptor (TX5 k).2.2.1 = some (tyX5 k) := by decide +kernel
abbrev cX5_init : ByteArray := prog_7_method_1_code
def yX5_init : MethodName := ⟨RX5, "<init>", "(LWayLeaves$Land;LWayLeaves$Line;LWayLeaves$Heirs;)V"⟩
abbrev cX5_isLeave : ByteArray := prog_7_method_2_code
def yX5_isLeave : MethodName := ⟨RX5, "isLeave", "(I)Z"⟩
abbrev cX5_add : ByteArray := prog_7_method_3_code
def yX5_add : MethodName := ⟨RX5, "add", "(IIIII)I"⟩
abbrev cX5_lasts : ByteArray := prog_7_method_4_code
def yX5_lasts : MethodName := ⟨RX5, "lasts", "(I)I"⟩
abbrev cX5_yearlyOf : ByteArray := prog_7_method_5_code
def yX5_yearlyOf : MethodName := ⟨RX5, "yearlyOf", "(I)I"⟩
abbrev cX5_isUnder : ByteArray := prog_7_method_6_code
def yX5_isUnder : MethodName := ⟨RX5, "isUnder", "(II)Z"⟩
abbrev cX5_standsAlone : ByteArray := prog_7_method_7_code
def yX5_standsAlone : MethodName := ⟨RX5, "standsAlone", "(II)Z"⟩
abbrev cX5_markInForce : ByteArray := prog_7_method_8_code
def yX5_markInForce : MethodName := ⟨RX5, "markInForce", "(II)V"⟩
abbrev cX5_isInForce : ByteArray := prog_7_method_9_code
def yX5_isInForce : MethodName := ⟨RX5, "isInForce", "(II)Z"⟩
abbrev cX5_hasOn : ByteArray := prog_7_method_10_code
def yX5_hasOn : MethodName := ⟨RX5, "hasOn", "(II)I"⟩
abbrev cX5_ends : ByteArray := prog_7_method_11_code
def yX5_ends : MethodName := ⟨RX5, "ends", "(I)I"⟩
abbrev cX5_nextChange : ByteArray := prog_7_method_12_code
def yX5_nextChange : MethodName := ⟨RX5, "nextChange", "(II)I"⟩
abbrev cX5_hangingOn : ByteArray := prog_7_method_13_code
def yX5_hangingOn : MethodName := ⟨RX5, "hangingOn", "(I)I"⟩
abbrev cX5_yearlyTo : ByteArray := prog_7_method_14_code
def yX5_yearlyTo : MethodName := ⟨RX5, "yearlyTo", "(II)J"⟩
abbrev cX5_bareSpans : ByteArray := prog_7_method_15_code
def yX5_bareSpans : MethodName := ⟨RX5, "bareSpans", "()I"⟩
def RX6 : String := "WayLeaves$Line"
def TX6 : u_T := fun k => match k with
  | 0 => ("WayLeaves$Line", "land", "LWayLeaves$Land;", true)
  | 1 => ("WayLeaves$Line", "towers", "I", false)
  | 2 => ("WayLeaves$Line", "spans", "I", false)
  | 3 => ("WayLeaves$Line", "heights", "[I", true)
  | 4 => ("WayLeaves$Line", "plots", "[I", true)
  | 5 => ("WayLeaves$Line", "lengths", "[I", true)
  | 6 => ("WayLeaves$Line", "lesserHeights", "[I", true)
  | 7 => ("WayLeaves$Line", "heats", "[I", true)
  | _ => ("WayLeaves$Line", "askDays", "[I", true)
def tyX6 : Nat → FieldType := fun k => match k with
  | 0 => .object "WayLeaves$Land"
  | 1 => .int
  | 2 => .int
  | 3 => .array .int
  | 4 => .array .int
  | 5 => .array .int
  | 6 => .array .int
  | 7 => .array .int
  | _ => .array .int
theorem nmX6 : ∀ a, a < 9 → ∀ b, b < 9 → a ≠ b → (TX6 a).2.1 ≠ (TX6 b).2.1 := by decide +kernel
theorem tyX6_ok : ∀ k, k < 9 → parseFieldDescriptor (TX6 k).2.2.1 = some (tyX6 k) := by decide +kernel
abbrev cX6_init : ByteArray := prog_8_method_1_code
def yX6_init : MethodName := ⟨RX6, "<init>", "(LWayLeaves$Land;)V"⟩
abbrev cX6_isTower : ByteArray := prog_8_method_2_code
def yX6_isTower : MethodName := ⟨RX6, "isTower", "(I)Z"⟩
abbrev cX6_isSpan : ByteArray := prog_8_method_3_code
def yX6_isSpan : MethodName := ⟨RX6, "isSpan", "(I)Z"⟩
abbrev cX6_addTower : ByteArray := prog_8_method_4_code
def yX6_addTower : MethodName := ⟨RX6, "addTower", "(I)I"⟩
abbrev cX6_addSpan : ByteArray := prog_8_method_5_code
def yX6_addSpan : MethodName := ⟨RX6, "addSpan", "(IIII)I"⟩
abbrev cX6_changeHeat : ByteArray := prog_8_method_6_code
def yX6_changeHeat : MethodName := ⟨RX6, "changeHeat", "(II)I"⟩
abbrev cX6_sag : ByteArray := prog_8_method_7_code
def yX6_sag : MethodName := ⟨RX6, "sag", "(I)I"⟩
abbrev cX6_low : ByteArray := prog_8_method_8_code
def yX6_low : MethodName := ⟨RX6, "low", "(I)I"⟩
abbrev cX6_near : ByteArray := prog_8_method_9_code
def yX6_near : MethodName := ⟨RX6, "near", "(I)I"⟩
abbrev cX6_isTooNear : ByteArray := prog_8_method_10_code
def yX6_isTooNear : MethodName := ⟨RX6, "isTooNear", "(I)Z"⟩
abbrev cX6_tooNearSpans : ByteArray := prog_8_method_11_code
def yX6_tooNearSpans : MethodName := ⟨RX6, "tooNearSpans", "()I"⟩
def RX7 : String := "WayLeaves$Looks"
def TX7 : u_T := fun k => match k with
  | 0 => ("WayLeaves$Looks", "count", "I", false)
  | 1 => ("WayLeaves$Looks", "plots", "[I", true)
  | 2 => ("WayLeaves$Looks", "lowers", "[I", true)
  | _ => ("WayLeaves$Looks", "uppers", "[I", true)
def tyX7 : Nat → FieldType := fun k => match k with
  | 0 => .int
  | 1 => .array .int
  | 2 => .array .int
  | _ => .array .int
theorem nmX7 : ∀ a, a < 4 → ∀ b, b < 4 → a ≠ b → (TX7 a).2.1 ≠ (TX7 b).2.1 := by decide +kernel
theorem tyX7_ok : ∀ k, k < 4 → parseFieldDescriptor (TX7 k).2.2.1 = some (tyX7 k) := by decide +kernel
abbrev cX7_init : ByteArray := prog_9_method_1_code
def yX7_init : MethodName := ⟨RX7, "<init>", "()V"⟩
abbrev cX7_add : ByteArray := prog_9_method_2_code
def yX7_add : MethodName := ⟨RX7, "add", "(III)I"⟩
abbrev cX7_boundOf : ByteArray := prog_9_method_3_code
def yX7_boundOf : MethodName := ⟨RX7, "boundOf", "(II)I"⟩
def RX8 : String := "WayLeaves$Reader"
def TX8 : u_T := fun k => match k with
  | 0 => ("WayLeaves$Reader", "tape", "[I", true)
  | 1 => ("WayLeaves$Reader", "size", "I", false)
  | 2 => ("WayLeaves$Reader", "tokens", "[I", true)
  | 3 => ("WayLeaves$Reader", "places", "[I", true)
  | 4 => ("WayLeaves$Reader", "numbers", "[I", true)
  | 5 => ("WayLeaves$Reader", "count", "I", false)
  | 6 => ("WayLeaves$Reader", "at", "I", false)
  | 7 => ("WayLeaves$Reader", "code", "[I", true)
  | 8 => ("WayLeaves$Reader", "length", "I", false)
  | _ => ("WayLeaves$Reader", "middle", "I", false)
def tyX8 : Nat → FieldType := fun k => match k with
  | 0 => .array .int
  | 1 => .int
  | 2 => .array .int
  | 3 => .array .int
  | 4 => .array .int
  | 5 => .int
  | 6 => .int
  | 7 => .array .int
  | 8 => .int
  | _ => .int
theorem nmX8 : ∀ a, a < 10 → ∀ b, b < 10 → a ≠ b → (TX8 a).2.1 ≠ (TX8 b).2.1 := by decide +kernel
theorem tyX8_ok : ∀ k, k < 10 → parseFieldDescriptor (TX8 k).2.2.1 = some (tyX8 k) := by decide +kernel
abbrev cX8_init : ByteArray := prog_10_method_1_code
def yX8_init : MethodName := ⟨RX8, "<init>", "()V"⟩
abbrev cX8_take : ByteArray := prog_10_method_2_code
def yX8_take : MethodName := ⟨RX8, "take", "(I)V"⟩
abbrev cX8_takeTheAct : ByteArray := prog_10_method_3_code
def yX8_takeTheAct : MethodName := ⟨RX8, "takeTheAct", "()V"⟩
abbrev cX8_readTape : ByteArray := prog_10_method_4_code
def yX8_readTape : MethodName := ⟨RX8, "readTape", "()I"⟩
abbrev cX8_splitTape : ByteArray := prog_10_method_5_code
def yX8_splitTape : MethodName := ⟨RX8, "splitTape", "()V"⟩
abbrev cX8_splitOne : ByteArray := prog_10_method_6_code
def yX8_splitOne : MethodName := ⟨RX8, "splitOne", "(I)I"⟩
abbrev cX8_put : ByteArray := prog_10_method_7_code
def yX8_put : MethodName := ⟨RX8, "put", "(III)I"⟩
abbrev cX8_isLetter : ByteArray := prog_10_method_8_code
def yX8_isLetter : MethodName := ⟨RX8, "isLetter", "(I)Z"⟩
abbrev cX8_isDigit : ByteArray := prog_10_method_9_code
def yX8_isDigit : MethodName := ⟨RX8, "isDigit", "(I)Z"⟩
abbrev cX8_isSign : ByteArray := prog_10_method_10_code
def yX8_isSign : MethodName := ⟨RX8, "isSign", "(I)Z"⟩
abbrev cX8_behindBlanks : ByteArray := prog_10_method_11_code
def yX8_behindBlanks : MethodName := ⟨RX8, "behindBlanks", "(I)I"⟩
abbrev cX8_behindLetters : ByteArray := prog_10_method_12_code
def yX8_behindLetters : MethodName := ⟨RX8, "behindLetters", "(I)I"⟩
abbrev cX8_behindDigits : ByteArray := prog_10_method_13_code
def yX8_behindDigits : MethodName := ⟨RX8, "behindDigits", "(I)I"⟩
abbrev cX8_numberAt : ByteArray := prog_10_method_14_code
def yX8_numberAt : MethodName := ⟨RX8, "numberAt", "(II)I"⟩
abbrev cX8_wordAt : ByteArray := prog_10_method_15_code
def yX8_wordAt : MethodName := ⟨RX8, "wordAt", "(II)I"⟩
abbrev cX8_isWord : ByteArray := prog_10_method_16_code
def yX8_isWord : MethodName := ⟨RX8, "isWord", "(IILjava/lang/String;)Z"⟩
abbrev cX8_accept : ByteArray := prog_10_method_17_code
def yX8_accept : MethodName := ⟨RX8, "accept", "(I)Z"⟩
abbrev cX8_emit : ByteArray := prog_10_method_18_code
def yX8_emit : MethodName := ⟨RX8, "emit", "(I)V"⟩
abbrev cX8_readParts : ByteArray := prog_10_method_19_code
def yX8_readParts : MethodName := ⟨RX8, "readParts", "()Z"⟩
abbrev cX8_readLevel : ByteArray := prog_10_method_20_code
def yX8_readLevel : MethodName := ⟨RX8, "readLevel", "(II)Z"⟩
abbrev cX8_isSignOf : ByteArray := prog_10_method_21_code
def yX8_isSignOf : MethodName := ⟨RX8, "isSignOf", "(II)Z"⟩
abbrev cX8_readOne : ByteArray := prog_10_method_22_code
def yX8_readOne : MethodName := ⟨RX8, "readOne", "(I)Z"⟩
abbrev cX8_readOpened : ByteArray := prog_10_method_23_code
def yX8_readOpened : MethodName := ⟨RX8, "readOpened", "(III)Z"⟩
def RX9 : String := "WayLeaves$Sheets"
def TX9 : u_T := fun k => match k with
  | 0 => ("WayLeaves$Sheets", "land", "LWayLeaves$Land;", true)
  | 1 => ("WayLeaves$Sheets", "sorts", "[I", true)
  | 2 => ("WayLeaves$Sheets", "sizes", "[I", true)
  | _ => ("WayLeaves$Sheets", "rows", "[[I", true)
def tyX9 : Nat → FieldType := fun k => match k with
  | 0 => .object "WayLeaves$Land"
  | 1 => .array .int
  | 2 => .array .int
  | _ => .array (.array .int)
theorem nmX9 : ∀ a, a < 4 → ∀ b, b < 4 → a ≠ b → (TX9 a).2.1 ≠ (TX9 b).2.1 := by decide +kernel
theorem tyX9_ok : ∀ k, k < 4 → parseFieldDescriptor (TX9 k).2.2.1 = some (tyX9 k) := by decide +kernel
abbrev cX9_init : ByteArray := prog_11_method_1_code
def yX9_init : MethodName := ⟨RX9, "<init>", "(LWayLeaves$Land;)V"⟩
abbrev cX9_isSheet : ByteArray := prog_11_method_2_code
def yX9_isSheet : MethodName := ⟨RX9, "isSheet", "(I)Z"⟩
abbrev cX9_isMissing : ByteArray := prog_11_method_3_code
def yX9_isMissing : MethodName := ⟨RX9, "isMissing", "(I)Z"⟩
abbrev cX9_hasPlaces : ByteArray := prog_11_method_4_code
def yX9_hasPlaces : MethodName := ⟨RX9, "hasPlaces", "(III)Z"⟩
abbrev cX9_remove : ByteArray := prog_11_method_5_code
def yX9_remove : MethodName := ⟨RX9, "remove", "(I)I"⟩
abbrev cX9_lay : ByteArray := prog_11_method_6_code
def yX9_lay : MethodName := ⟨RX9, "lay", "(III)I"⟩
abbrev cX9_write : ByteArray := prog_11_method_7_code
def yX9_write : MethodName := ⟨RX9, "write", "(III)I"⟩
abbrev cX9_narrowed : ByteArray := prog_11_method_8_code
def yX9_narrowed : MethodName := ⟨RX9, "narrowed", "(II)I"⟩
abbrev cX9_tellCosts : ByteArray := prog_11_method_9_code
def yX9_tellCosts : MethodName := ⟨RX9, "tellCosts", "(IIII)I"⟩
def RX10 : String := "WayLeaves$Ways"
def TX10 : u_T := fun k => match k with
  | 0 => ("WayLeaves$Ways", "land", "LWayLeaves$Land;", true)
  | 1 => ("WayLeaves$Ways", "weights", "[I", true)
  | _ => ("WayLeaves$Ways", "totals", "[I", true)
def tyX10 : Nat → FieldType := fun k => match k with
  | 0 => .object "WayLeaves$Land"
  | 1 => .array .int
  | _ => .array .int
theorem nmX10 : ∀ a, a < 3 → ∀ b, b < 3 → a ≠ b → (TX10 a).2.1 ≠ (TX10 b).2.1 := by decide +kernel
theorem tyX10_ok : ∀ k, k < 3 → parseFieldDescriptor (TX10 k).2.2.1 = some (tyX10 k) := by decide +kernel
abbrev cX10_init : ByteArray := prog_12_method_1_code
def yX10_init : MethodName := ⟨RX10, "<init>", "(LWayLeaves$Land;)V"⟩
abbrev cX10_leastCost : ByteArray := prog_12_method_2_code
def yX10_leastCost : MethodName := ⟨RX10, "leastCost", "(IIII)I"⟩
abbrev cX10_weightOf : ByteArray := prog_12_method_3_code
def yX10_weightOf : MethodName := ⟨RX10, "weightOf", "(III)I"⟩
abbrev cX10_spreadFrom : ByteArray := prog_12_method_4_code
def yX10_spreadFrom : MethodName := ⟨RX10, "spreadFrom", "(I)V"⟩
abbrev cX10_lessen : ByteArray := prog_12_method_5_code
def yX10_lessen : MethodName := ⟨RX10, "lessen", "(I)Z"⟩
abbrev cX10_beside : ByteArray := prog_12_method_6_code
def yX10_beside : MethodName := ⟨RX10, "beside", "(II)I"⟩
abbrev cX10_plotAt : ByteArray := prog_12_method_7_code
def yX10_plotAt : MethodName := ⟨RX10, "plotAt", "(II)I"⟩
abbrev cX10_nextOn : ByteArray := prog_12_method_8_code
def yX10_nextOn : MethodName := ⟨RX10, "nextOn", "(I)I"⟩
def RX11 : String := "WayLeaves"
def TX11 : u_T := fun k => match k with
  | 0 => ("WayLeaves", "land", "LWayLeaves$Land;", true)
  | 1 => ("WayLeaves", "heirs", "LWayLeaves$Heirs;", true)
  | 2 => ("WayLeaves", "line", "LWayLeaves$Line;", true)
  | 3 => ("WayLeaves", "leaves", "LWayLeaves$Leaves;", true)
  | 4 => ("WayLeaves", "reader", "LWayLeaves$Reader;", true)
  | 5 => ("WayLeaves", "acts", "LWayLeaves$Acts;", true)
  | 6 => ("WayLeaves", "claims", "LWayLeaves$Claims;", true)
  | 7 => ("WayLeaves", "looks", "LWayLeaves$Looks;", true)
  | 8 => ("WayLeaves", "ways", "LWayLeaves$Ways;", true)
  | 9 => ("WayLeaves", "asks", "LWayLeaves$Asks;", true)
  | _ => ("WayLeaves", "sheets", "LWayLeaves$Sheets;", true)
def tyX11 : Nat → FieldType := fun k => match k with
  | 0 => .object "WayLeaves$Land"
  | 1 => .object "WayLeaves$Heirs"
  | 2 => .object "WayLeaves$Line"
  | 3 => .object "WayLeaves$Leaves"
  | 4 => .object "WayLeaves$Reader"
  | 5 => .object "WayLeaves$Acts"
  | 6 => .object "WayLeaves$Claims"
  | 7 => .object "WayLeaves$Looks"
  | 8 => .object "WayLeaves$Ways"
  | 9 => .object "WayLeaves$Asks"
  | _ => .object "WayLeaves$Sheets"
theorem nmX11 : ∀ a, a < 11 → ∀ b, b < 11 → a ≠ b → (TX11 a).2.1 ≠ (TX11 b).2.1 := by decide +kernel
theorem tyX11_ok : ∀ k, k < 11 → parseFieldDescriptor (TX11 k).2.2.1 = some (tyX11 k) := by decide +kernel
abbrev cX11_init : ByteArray := prog_1_method_1_code
def yX11_init : MethodName := ⟨RX11, "<init>", "()V"⟩
abbrev cX11_within : ByteArray := prog_1_method_2_code
def yX11_within : MethodName := ⟨RX11, "within", "(III)Z"⟩
abbrev cX11_isDay : ByteArray := prog_1_method_3_code
def yX11_isDay : MethodName := ⟨RX11, "isDay", "(I)Z"⟩
abbrev cX11_isPlot : ByteArray := prog_1_method_4_code
def yX11_isPlot : MethodName := ⟨RX11, "isPlot", "(I)Z"⟩
abbrev cX11_isOwner : ByteArray := prog_1_method_5_code
def yX11_isOwner : MethodName := ⟨RX11, "isOwner", "(I)Z"⟩
abbrev cX11_pass : ByteArray := prog_1_method_6_code
def yX11_pass : MethodName := ⟨RX11, "pass", "(I)I"⟩
abbrev cX11_sell : ByteArray := prog_1_method_7_code
def yX11_sell : MethodName := ⟨RX11, "sell", "(III)I"⟩
abbrev cX11_owner : ByteArray := prog_1_method_8_code
def yX11_owner : MethodName := ⟨RX11, "owner", "(II)I"⟩
abbrev cX11_heir : ByteArray := prog_1_method_9_code
def yX11_heir : MethodName := ⟨RX11, "heir", "(III)I"⟩
abbrev cX11_set : ByteArray := prog_1_method_10_code
def yX11_set : MethodName := ⟨RX11, "set", "(III)I"⟩
abbrev cX11_trees : ByteArray := prog_1_method_11_code
def yX11_trees : MethodName := ⟨RX11, "trees", "(III)I"⟩
abbrev cX11_high : ByteArray := prog_1_method_12_code
def yX11_high : MethodName := ⟨RX11, "high", "(I)I"⟩
abbrev cX11_tower : ByteArray := prog_1_method_13_code
def yX11_tower : MethodName := ⟨RX11, "tower", "(II)I"⟩
abbrev cX11_span : ByteArray := prog_1_method_14_code
def yX11_span : MethodName := ⟨RX11, "span", "(IIII)I"⟩
abbrev cX11_heat : ByteArray := prog_1_method_15_code
def yX11_heat : MethodName := ⟨RX11, "heat", "(II)I"⟩
abbrev cX11_spanTold : ByteArray := prog_1_method_16_code
def yX11_spanTold : MethodName := ⟨RX11, "spanTold", "(II)J"⟩
abbrev cX11_leave : ByteArray := prog_1_method_17_code
def yX11_leave : MethodName := ⟨RX11, "leave", "(IIIII)I"⟩
abbrev cX11_leaveTold : ByteArray := prog_1_method_18_code
def yX11_leaveTold : MethodName := ⟨RX11, "leaveTold", "(II)I"⟩
abbrev cX11_renew : ByteArray := prog_1_method_19_code
def yX11_renew : MethodName := ⟨RX11, "renew", "(I)I"⟩
abbrev cX11_appeal : ByteArray := prog_1_method_20_code
def yX11_appeal : MethodName := ⟨RX11, "appeal", "(I)I"⟩
abbrev cX11_undo : ByteArray := prog_1_method_21_code
def yX11_undo : MethodName := ⟨RX11, "undo", "(II)I"⟩
abbrev cX11_has : ByteArray := prog_1_method_22_code
def yX11_has : MethodName := ⟨RX11, "has", "(II)I"⟩
abbrev cX11_yearly : ByteArray := prog_1_method_23_code
def yX11_yearly : MethodName := ⟨RX11, "yearly", "(II)J"⟩
abbrev cX11_feed : ByteArray := prog_1_method_24_code
def yX11_feed : MethodName := ⟨RX11, "feed", "(IJ)I"⟩
abbrev cX11_text : ByteArray := prog_1_method_25_code
def yX11_text : MethodName := ⟨RX11, "text", "()I"⟩
abbrev cX11_force : ByteArray := prog_1_method_26_code
def yX11_force : MethodName := ⟨RX11, "force", "(I)I"⟩
abbrev cX11_says : ByteArray := prog_1_method_27_code
def yX11_says : MethodName := ⟨RX11, "says", "(II)J"⟩
abbrev cX11_claim : ByteArray := prog_1_method_28_code
def yX11_claim : MethodName := ⟨RX11, "claim", "(III)I"⟩
abbrev cX11_doubled : ByteArray := prog_1_method_29_code
def yX11_doubled : MethodName := ⟨RX11, "doubled", "()I"⟩
abbrev cX11_due : ByteArray := prog_1_method_30_code
def yX11_due : MethodName := ⟨RX11, "due", "(I)J"⟩
abbrev cX11_look : ByteArray := prog_1_method_31_code
def yX11_look : MethodName := ⟨RX11, "look", "(III)I"⟩
abbrev cX11_bounds : ByteArray := prog_1_method_32_code
def yX11_bounds : MethodName := ⟨RX11, "bounds", "(II)I"⟩
abbrev cX11_hold : ByteArray := prog_1_method_33_code
def yX11_hold : MethodName := ⟨RX11, "hold", "(II)I"⟩
abbrev cX11_way : ByteArray := prog_1_method_34_code
def yX11_way : MethodName := ⟨RX11, "way", "(III)I"⟩
abbrev cX11_couldAsk : ByteArray := prog_1_method_35_code
def yX11_couldAsk : MethodName := ⟨RX11, "couldAsk", "(III)I"⟩
abbrev cX11_asking : ByteArray := prog_1_method_36_code
def yX11_asking : MethodName := ⟨RX11, "asking", "(II)I"⟩
abbrev cX11_toAsk : ByteArray := prog_1_method_37_code
def yX11_toAsk : MethodName := ⟨RX11, "toAsk", "(II)I"⟩
abbrev cX11_count : ByteArray := prog_1_method_38_code
def yX11_count : MethodName := ⟨RX11, "count", "(I)I"⟩
abbrev cX11_sheet : ByteArray := prog_1_method_39_code
def yX11_sheet : MethodName := ⟨RX11, "sheet", "(III)I"⟩
abbrev cX11_cell : ByteArray := prog_1_method_40_code
def yX11_cell : MethodName := ⟨RX11, "cell", "(III)I"⟩
abbrev cX11_copy : ByteArray := prog_1_method_41_code
def yX11_copy : MethodName := ⟨RX11, "copy", "(IIIII)I"⟩
abbrev cX11_costs : ByteArray := prog_1_method_42_code
def yX11_costs : MethodName := ⟨RX11, "costs", "(IIIII)I"⟩
abbrev cX11_taken : ByteArray := prog_1_method_43_code
def yX11_taken : MethodName := ⟨RX11, "taken", "(II)I"⟩
def RX12 : String := "WayLeavesModel"
def TX12 : u_T := fun k => match k with
  | 0 => ("WayLeavesModel", "today", "I", false)
  | 1 => ("WayLeavesModel", "sales", "I", false)
  | 2 => ("WayLeavesModel", "salePlot", "[I", true)
  | 3 => ("WayLeavesModel", "saleOwner", "[I", true)
  | 4 => ("WayLeavesModel", "saleDay", "[I", true)
  | 5 => ("WayLeavesModel", "shares", "[I", true)
  | 6 => ("WayLeavesModel", "roof", "[I", true)
  | 7 => ("WayLeavesModel", "worthOf", "[I", true)
  | 8 => ("WayLeavesModel", "cost", "[I", true)
  | 9 => ("WayLeavesModel", "bar", "[I", true)
  | 10 => ("WayLeavesModel", "treeHigh", "[I", true)
  | 11 => ("WayLeavesModel", "treeGrow", "[I", true)
  | 12 => ("WayLeavesModel", "treeDay", "[I", true)
  | 13 => ("WayLeavesModel", "towers", "I", false)
  | 14 => ("WayLeavesModel", "towerPlot", "[I", true)
  | 15 => ("WayLeavesModel", "towerHeight", "[I", true)
  | 16 => ("WayLeavesModel", "spans", "I", false)
  | 17 => ("WayLeavesModel", "spanA", "[I", true)
  | 18 => ("WayLeavesModel", "spanB", "[I", true)
  | 19 => ("WayLeavesModel", "spanPlot", "[I", true)
  | 20 => ("WayLeavesModel", "spanLong", "[I", true)
  | 21 => ("WayLeavesModel", "spanHeat", "[I", true)
  | 22 => ("WayLeavesModel", "asking", "[I", true)
  | 23 => ("WayLeavesModel", "lasts", "[I", true)
  | 24 => ("WayLeavesModel", "binds", "[I", true)
  | 25 => ("WayLeavesModel", "leaves", "I", false)
  | 26 => ("WayLeavesModel", "kindOf", "[I", true)
  | 27 => ("WayLeavesModel", "spanOf", "[I", true)
  | 28 => ("WayLeavesModel", "sumOf", "[I", true)
  | 29 => ("WayLeavesModel", "begins2", "[I", true)
  | 30 => ("WayLeavesModel", "hangsOn", "[I", true)
  | 31 => ("WayLeavesModel", "renewed", "[I", true)
  | 32 => ("WayLeavesModel", "isAppealed", "[Z", true)
  | 33 => ("WayLeavesModel", "undone", "[I", true)
  | 34 => ("WayLeavesModel", "comes", "[J", true)
  | 35 => ("WayLeavesModel", "tape", "[B", true)
  | 36 => ("WayLeavesModel", "taped", "I", false)
  | 37 => ("WayLeavesModel", "texts", "I", false)
  | 38 => ("WayLeavesModel", "rule", "I", false)
  | 39 => ("WayLeavesModel", "codes", "[I", true)
  | 40 => ("WayLeavesModel", "codeMany", "[I", true)
  | 41 => ("WayLeavesModel", "at", "I", false)
  | 42 => ("WayLeavesModel", "token", "I", false)
  | 43 => ("WayLeavesModel", "worth", "I", false)
  | 44 => ("WayLeavesModel", "place", "I", false)
  | 45 => ("WayLeavesModel", "letters", "[C", true)
  | 46 => ("WayLeavesModel", "begins", "[I", true)
  | 47 => ("WayLeavesModel", "waits", "[I", true)
  | 48 => ("WayLeavesModel", "waiting", "I", false)
  | 49 => ("WayLeavesModel", "open", "I", false)
  | 50 => ("WayLeavesModel", "depth", "I", false)
  | 51 => ("WayLeavesModel", "compared", "[Z", true)
  | 52 => ("WayLeavesModel", "codeAt", "I", false)
  | 53 => ("WayLeavesModel", "made", "I", false)
  | 54 => ("WayLeavesModel", "stack", "[I", true)
  | 55 => ("WayLeavesModel", "claims", "I", false)
  | 56 => ("WayLeavesModel", "claimOwner", "[I", true)
  | 57 => ("WayLeavesModel", "claimSpan", "[I", true)
  | 58 => ("WayLeavesModel", "claimMuch", "[I", true)
  | 59 => ("WayLeavesModel", "looks", "I", false)
  | 60 => ("WayLeavesModel", "lookPlot", "[I", true)
  | 61 => ("WayLeavesModel", "lookPrice", "[I", true)
  | 62 => ("WayLeavesModel", "lookLike", "[I", true)
  | 63 => ("WayLeavesModel", "hold", "[I", true)
  | 64 => ("WayLeavesModel", "wayCost", "[I", true)
  | 65 => ("WayLeavesModel", "wayPlots", "[I", true)
  | 66 => ("WayLeavesModel", "asked", "[I", true)
  | 67 => ("WayLeavesModel", "askedEnds", "[I", true)
  | 68 => ("WayLeavesModel", "orderNow", "[I", true)
  | 69 => ("WayLeavesModel", "orderBest", "[I", true)
  | 70 => ("WayLeavesModel", "lateBest", "I", false)
  | 71 => ("WayLeavesModel", "sumBest", "I", false)
  | 72 => ("WayLeavesModel", "sorts", "[I", true)
  | 73 => ("WayLeavesModel", "sizes", "[I", true)
  | 74 => ("WayLeavesModel", "items", "[I", true)
  | _ => ("WayLeavesModel", "moved", "[I", true)
def tyX12 : Nat → FieldType := fun k => match k with
  | 0 => .int
  | 1 => .int
  | 2 => .array .int
  | 3 => .array .int
  | 4 => .array .int
  | 5 => .array .int
  | 6 => .array .int
  | 7 => .array .int
  | 8 => .array .int
  | 9 => .array .int
  | 10 => .array .int
  | 11 => .array .int
  | 12 => .array .int
  | 13 => .int
  | 14 => .array .int
  | 15 => .array .int
  | 16 => .int
  | 17 => .array .int
  | 18 => .array .int
  | 19 => .array .int
  | 20 => .array .int
  | 21 => .array .int
  | 22 => .array .int
  | 23 => .array .int
  | 24 => .array .int
  | 25 => .int
  | 26 => .array .int
  | 27 => .array .int
  | 28 => .array .int
  | 29 => .array .int
  | 30 => .array .int
  | 31 => .array .int
  | 32 => .array .boolean
  | 33 => .array .int
  | 34 => .array .long
  | 35 => .array .byte
  | 36 => .int
  | 37 => .int
  | 38 => .int
  | 39 => .array .int
  | 40 => .array .int
  | 41 => .int
  | 42 => .int
  | 43 => .int
  | 44 => .int
  | 45 => .array .char
  | 46 => .array .int
  | 47 => .array .int
  | 48 => .int
  | 49 => .int
  | 50 => .int
  | 51 => .array .boolean
  | 52 => .int
  | 53 => .int
  | 54 => .array .int
  | 55 => .int
  | 56 => .array .int
  | 57 => .array .int
  | 58 => .array .int
  | 59 => .int
  | 60 => .array .int
  | 61 => .array .int
  | 62 => .array .int
  | 63 => .array .int
  | 64 => .array .int
  | 65 => .array .int
  | 66 => .array .int
  | 67 => .array .int
  | 68 => .array .int
  | 69 => .array .int
  | 70 => .int
  | 71 => .int
  | 72 => .array .int
  | 73 => .array .int
  | 74 => .array .int
  | _ => .array .int
theorem nmX12 : ∀ a, a < 76 → ∀ b, b < 76 → a ≠ b → (TX12 a).2.1 ≠ (TX12 b).2.1 := by decide +kernel
theorem tyX12_ok : ∀ k, k < 76 → parseFieldDescriptor (TX12 k).2.2.1 = some (tyX12 k) := by decide +kernel
abbrev cX12_isIn : ByteArray := prog_14_method_1_code
def yX12_isIn : MethodName := ⟨RX12, "isIn", "(JJJ)Z"⟩
abbrev cX12_isDay : ByteArray := prog_14_method_2_code
def yX12_isDay : MethodName := ⟨RX12, "isDay", "(I)Z"⟩
abbrev cX12_isPlot : ByteArray := prog_14_method_3_code
def yX12_isPlot : MethodName := ⟨RX12, "isPlot", "(I)Z"⟩
abbrev cX12_isOwner : ByteArray := prog_14_method_4_code
def yX12_isOwner : MethodName := ⟨RX12, "isOwner", "(I)Z"⟩
abbrev cX12_pass : ByteArray := prog_14_method_5_code
def yX12_pass : MethodName := ⟨RX12, "pass", "(I)I"⟩
abbrev cX12_sell : ByteArray := prog_14_method_6_code
def yX12_sell : MethodName := ⟨RX12, "sell", "(III)I"⟩
abbrev cX12_ownerIn : ByteArray := prog_14_method_7_code
def yX12_ownerIn : MethodName := ⟨RX12, "ownerIn", "(II)I"⟩
abbrev cX12_owner : ByteArray := prog_14_method_8_code
def yX12_owner : MethodName := ⟨RX12, "owner", "(II)I"⟩
abbrev cX12_heir : ByteArray := prog_14_method_9_code
def yX12_heir : MethodName := ⟨RX12, "heir", "(III)I"⟩
abbrev cX12_set : ByteArray := prog_14_method_10_code
def yX12_set : MethodName := ⟨RX12, "set", "(III)I"⟩
abbrev cX12_highOf : ByteArray := prog_14_method_11_code
def yX12_highOf : MethodName := ⟨RX12, "highOf", "(I)I"⟩
abbrev cX12_trees : ByteArray := prog_14_method_12_code
def yX12_trees : MethodName := ⟨RX12, "trees", "(III)I"⟩
abbrev cX12_high : ByteArray := prog_14_method_13_code
def yX12_high : MethodName := ⟨RX12, "high", "(I)I"⟩
abbrev cX12_isTower : ByteArray := prog_14_method_14_code
def yX12_isTower : MethodName := ⟨RX12, "isTower", "(I)Z"⟩
abbrev cX12_isSpan : ByteArray := prog_14_method_15_code
def yX12_isSpan : MethodName := ⟨RX12, "isSpan", "(I)Z"⟩
abbrev cX12_tower : ByteArray := prog_14_method_16_code
def yX12_tower : MethodName := ⟨RX12, "tower", "(II)I"⟩
abbrev cX12_span : ByteArray := prog_14_method_17_code
def yX12_span : MethodName := ⟨RX12, "span", "(IIII)I"⟩
abbrev cX12_heat : ByteArray := prog_14_method_18_code
def yX12_heat : MethodName := ⟨RX12, "heat", "(II)I"⟩
abbrev cX12_sag : ByteArray := prog_14_method_19_code
def yX12_sag : MethodName := ⟨RX12, "sag", "(I)I"⟩
abbrev cX12_low : ByteArray := prog_14_method_20_code
def yX12_low : MethodName := ⟨RX12, "low", "(I)I"⟩
abbrev cX12_near : ByteArray := prog_14_method_21_code
def yX12_near : MethodName := ⟨RX12, "near", "(I)I"⟩
abbrev cX12_spanTold : ByteArray := prog_14_method_22_code
def yX12_spanTold : MethodName := ⟨RX12, "spanTold", "(II)J"⟩
abbrev cX12_isLeave : ByteArray := prog_14_method_23_code
def yX12_isLeave : MethodName := ⟨RX12, "isLeave", "(I)Z"⟩
abbrev cX12_leave : ByteArray := prog_14_method_24_code
def yX12_leave : MethodName := ⟨RX12, "leave", "(IIIII)I"⟩
abbrev cX12_lastsOf : ByteArray := prog_14_method_25_code
def yX12_lastsOf : MethodName := ⟨RX12, "lastsOf", "(I)I"⟩
abbrev cX12_yearlyOf : ByteArray := prog_14_method_26_code
def yX12_yearlyOf : MethodName := ⟨RX12, "yearlyOf", "(I)I"⟩
abbrev cX12_stands : ByteArray := prog_14_method_27_code
def yX12_stands : MethodName := ⟨RX12, "stands", "(II)Z"⟩
abbrev cX12_isInForce : ByteArray := prog_14_method_28_code
def yX12_isInForce : MethodName := ⟨RX12, "isInForce", "(II)Z"⟩
abbrev cX12_leaveTold : ByteArray := prog_14_method_29_code
def yX12_leaveTold : MethodName := ⟨RX12, "leaveTold", "(II)I"⟩
abbrev cX12_renew : ByteArray := prog_14_method_30_code
def yX12_renew : MethodName := ⟨RX12, "renew", "(I)I"⟩
abbrev cX12_appeal : ByteArray := prog_14_method_31_code
def yX12_appeal : MethodName := ⟨RX12, "appeal", "(I)I"⟩
abbrev cX12_hangs : ByteArray := prog_14_method_32_code
def yX12_hangs : MethodName := ⟨RX12, "hangs", "(II)Z"⟩
abbrev cX12_undo : ByteArray := prog_14_method_33_code
def yX12_undo : MethodName := ⟨RX12, "undo", "(II)I"⟩
abbrev cX12_hasIn : ByteArray := prog_14_method_34_code
def yX12_hasIn : MethodName := ⟨RX12, "hasIn", "(II)I"⟩
abbrev cX12_has : ByteArray := prog_14_method_35_code
def yX12_has : MethodName := ⟨RX12, "has", "(II)I"⟩
abbrev cX12_endsAt : ByteArray := prog_14_method_36_code
def yX12_endsAt : MethodName := ⟨RX12, "endsAt", "(III)I"⟩
abbrev cX12_ends : ByteArray := prog_14_method_37_code
def yX12_ends : MethodName := ⟨RX12, "ends", "(I)I"⟩
abbrev cX12_parted : ByteArray := prog_14_method_38_code
def yX12_parted : MethodName := ⟨RX12, "parted", "(I)J"⟩
abbrev cX12_clearComes : ByteArray := prog_14_method_39_code
def yX12_clearComes : MethodName := ⟨RX12, "clearComes", "()V"⟩
abbrev cX12_yearly : ByteArray := prog_14_method_40_code
def yX12_yearly : MethodName := ⟨RX12, "yearly", "(II)J"⟩
abbrev cX12_feed : ByteArray := prog_14_method_41_code
def yX12_feed : MethodName := ⟨RX12, "feed", "(IJ)I"⟩
abbrev cX12_isLetter : ByteArray := prog_14_method_42_code
def yX12_isLetter : MethodName := ⟨RX12, "isLetter", "(I)Z"⟩
abbrev cX12_isDigit : ByteArray := prog_14_method_43_code
def yX12_isDigit : MethodName := ⟨RX12, "isDigit", "(I)Z"⟩
abbrev cX12_readWord : ByteArray := prog_14_method_44_code
def yX12_readWord : MethodName := ⟨RX12, "readWord", "()V"⟩
abbrev cX12_readNumber : ByteArray := prog_14_method_45_code
def yX12_readNumber : MethodName := ⟨RX12, "readNumber", "()V"⟩
abbrev cX12_next : ByteArray := prog_14_method_46_code
def yX12_next : MethodName := ⟨RX12, "next", "()V"⟩
abbrev cX12_isSign : ByteArray := prog_14_method_47_code
def yX12_isSign : MethodName := ⟨RX12, "isSign", "(I)Z"⟩
abbrev cX12_isKey : ByteArray := prog_14_method_48_code
def yX12_isKey : MethodName := ⟨RX12, "isKey", "(I)Z"⟩
abbrev cX12_emit : ByteArray := prog_14_method_49_code
def yX12_emit : MethodName := ⟨RX12, "emit", "(I)V"⟩
abbrev cX12_rank : ByteArray := prog_14_method_50_code
def yX12_rank : MethodName := ⟨RX12, "rank", "(I)I"⟩
abbrev cX12_doAll : ByteArray := prog_14_method_51_code
def yX12_doAll : MethodName := ⟨RX12, "doAll", "(I)V"⟩
abbrev cX12_await : ByteArray := prog_14_method_52_code
def yX12_await : MethodName := ⟨RX12, "await", "(I)V"⟩
abbrev cX12_between : ByteArray := prog_14_method_53_code
def yX12_between : MethodName := ⟨RX12, "between", "()Z"⟩
abbrev cX12_closes : ByteArray := prog_14_method_54_code
def yX12_closes : MethodName := ⟨RX12, "closes", "()Z"⟩
abbrev cX12_ahead : ByteArray := prog_14_method_55_code
def yX12_ahead : MethodName := ⟨RX12, "ahead", "(Z)Z"⟩
abbrev cX12_readE : ByteArray := prog_14_method_56_code
def yX12_readE : MethodName := ⟨RX12, "readE", "(I)Z"⟩
abbrev cX12_readAll : ByteArray := prog_14_method_57_code
def yX12_readAll : MethodName := ⟨RX12, "readAll", "(I)I"⟩
abbrev cX12_text : ByteArray := prog_14_method_58_code
def yX12_text : MethodName := ⟨RX12, "text", "()I"⟩
abbrev cX12_force : ByteArray := prog_14_method_59_code
def yX12_force : MethodName := ⟨RX12, "force", "(I)I"⟩
abbrev cX12_nameOf : ByteArray := prog_14_method_60_code
def yX12_nameOf : MethodName := ⟨RX12, "nameOf", "(II)I"⟩
abbrev cX12_done : ByteArray := prog_14_method_61_code
def yX12_done : MethodName := ⟨RX12, "done", "(III)I"⟩
abbrev cX12_partOf : ByteArray := prog_14_method_62_code
def yX12_partOf : MethodName := ⟨RX12, "partOf", "(II)I"⟩
abbrev cX12_init : ByteArray := prog_14_method_63_code
def yX12_init : MethodName := ⟨RX12, "<init>", "()V"⟩
abbrev cX12_says : ByteArray := prog_14_method_64_code
def yX12_says : MethodName := ⟨RX12, "says", "(II)J"⟩
abbrev cX12_claim : ByteArray := prog_14_method_65_code
def yX12_claim : MethodName := ⟨RX12, "claim", "(III)I"⟩
abbrev cX12_isDoubled : ByteArray := prog_14_method_66_code
def yX12_isDoubled : MethodName := ⟨RX12, "isDoubled", "(I)Z"⟩
abbrev cX12_doubled : ByteArray := prog_14_method_67_code
def yX12_doubled : MethodName := ⟨RX12, "doubled", "()I"⟩
abbrev cX12_due : ByteArray := prog_14_method_68_code
def yX12_due : MethodName := ⟨RX12, "due", "(I)J"⟩
abbrev cX12_look : ByteArray := prog_14_method_69_code
def yX12_look : MethodName := ⟨RX12, "look", "(III)I"⟩
abbrev cX12_bounds : ByteArray := prog_14_method_70_code
def yX12_bounds : MethodName := ⟨RX12, "bounds", "(II)I"⟩
abbrev cX12_hold : ByteArray := prog_14_method_71_code
def yX12_hold : MethodName := ⟨RX12, "hold", "(II)I"⟩
abbrev cX12_beside : ByteArray := prog_14_method_72_code
def yX12_beside : MethodName := ⟨RX12, "beside", "(II)I"⟩
abbrev cX12_costOf : ByteArray := prog_14_method_73_code
def yX12_costOf : MethodName := ⟨RX12, "costOf", "(III)I"⟩
abbrev cX12_isShorter : ByteArray := prog_14_method_74_code
def yX12_isShorter : MethodName := ⟨RX12, "isShorter", "(III)Z"⟩
abbrev cX12_findWays : ByteArray := prog_14_method_75_code
def yX12_findWays : MethodName := ⟨RX12, "findWays", "(III)V"⟩
abbrev cX12_nextOf : ByteArray := prog_14_method_76_code
def yX12_nextOf : MethodName := ⟨RX12, "nextOf", "(I)I"⟩
abbrev cX12_way : ByteArray := prog_14_method_77_code
def yX12_way : MethodName := ⟨RX12, "way", "(III)I"⟩
abbrev cX12_couldAsk : ByteArray := prog_14_method_78_code
def yX12_couldAsk : MethodName := ⟨RX12, "couldAsk", "(III)I"⟩
abbrev cX12_asking : ByteArray := prog_14_method_79_code
def yX12_asking : MethodName := ⟨RX12, "asking", "(II)I"⟩
abbrev cX12_orderOf : ByteArray := prog_14_method_80_code
def yX12_orderOf : MethodName := ⟨RX12, "orderOf", "(II)V"⟩
abbrev cX12_judge : ByteArray := prog_14_method_81_code
def yX12_judge : MethodName := ⟨RX12, "judge", "(I)V"⟩
abbrev cX12_orderAll : ByteArray := prog_14_method_82_code
def yX12_orderAll : MethodName := ⟨RX12, "orderAll", "(I)V"⟩
abbrev cX12_toAsk : ByteArray := prog_14_method_83_code
def yX12_toAsk : MethodName := ⟨RX12, "toAsk", "(II)I"⟩
abbrev cX12_spansWith : ByteArray := prog_14_method_84_code
def yX12_spansWith : MethodName := ⟨RX12, "spansWith", "(Z)I"⟩
abbrev cX12_count : ByteArray := prog_14_method_85_code
def yX12_count : MethodName := ⟨RX12, "count", "(I)I"⟩
abbrev cX12_isSheet : ByteArray := prog_14_method_86_code
def yX12_isSheet : MethodName := ⟨RX12, "isSheet", "(I)Z"⟩
abbrev cX12_sheet : ByteArray := prog_14_method_87_code
def yX12_sheet : MethodName := ⟨RX12, "sheet", "(III)I"⟩
abbrev cX12_cutTo : ByteArray := prog_14_method_88_code
def yX12_cutTo : MethodName := ⟨RX12, "cutTo", "(II)I"⟩
abbrev cX12_cell : ByteArray := prog_14_method_89_code
def yX12_cell : MethodName := ⟨RX12, "cell", "(III)I"⟩
abbrev cX12_copy : ByteArray := prog_14_method_90_code
def yX12_copy : MethodName := ⟨RX12, "copy", "(IIIII)I"⟩
abbrev cX12_costs : ByteArray := prog_14_method_91_code
def yX12_costs : MethodName := ⟨RX12, "costs", "(IIIII)I"⟩
abbrev cX12_taken : ByteArray := prog_14_method_92_code
def yX12_taken : MethodName := ⟨RX12, "taken", "(II)I"⟩
def RJx145de : String := "java/io/Serializable"
def TJx145de : u_T := fun k => match k with
  | _ => ("", "", "", false)
def tyJx145de : Nat → FieldType := fun k => match k with
  | _ => .int
def RJx9f9b0 : String := "java/lang/CharSequence"
def TJx9f9b0 : u_T := fun k => match k with
  | _ => ("", "", "", false)
def tyJx9f9b0 : Nat → FieldType := fun k => match k with
  | _ => .int
def RJxb160c : String := "java/lang/Comparable"
def TJxb160c : u_T := fun k => match k with
  | _ => ("", "", "", false)
def tyJxb160c : Nat → FieldType := fun k => match k with
  | _ => .int
def RJ6 : String := "java/lang/Integer"
def TJ6 : u_T := fun k => match k with
  | _ => ("", "", "", false)
def tyJ6 : Nat → FieldType := fun k => match k with
  | _ => .int
abbrev cJ6_bitCount_0f7a4 : ByteArray := prog_15_method_49_code
def yJ6_bitCount_0f7a4 : MethodName := ⟨RJ6, "bitCount", "(I)I"⟩
def RJ9 : String := "java/lang/Math"
def TJ9 : u_T := fun k => match k with
  | _ => ("", "", "", false)
def tyJ9 : Nat → FieldType := fun k => match k with
  | _ => .int
abbrev cJ9_max_7cf53 : ByteArray := prog_16_method_65_code
def yJ9_max_7cf53 : MethodName := ⟨RJ9, "max", "(II)I"⟩
abbrev cJ9_min_7cf53 : ByteArray := prog_16_method_69_code
def yJ9_min_7cf53 : MethodName := ⟨RJ9, "min", "(II)I"⟩
def RJ0 : String := "java/lang/String"
def TJ0 : u_T := fun k => match k with
  | _ => ("", "", "", false)
def tyJ0 : Nat → FieldType := fun k => match k with
  | _ => .int
abbrev cJ0_length_8abf5 : ByteArray := prog_17_method_54_code
def yJ0_length_8abf5 : MethodName := ⟨RJ0, "length", "()I"⟩
abbrev cJ0_charAt_5068e : ByteArray := prog_17_method_56_code
def yJ0_charAt_5068e : MethodName := ⟨RJ0, "charAt", "(I)C"⟩
abbrev cJ0_coder_7d493 : ByteArray := prog_17_method_152_code
def yJ0_coder_7d493 : MethodName := ⟨RJ0, "coder", "()B"⟩
abbrev cJ0_isLatin1_aae02 : ByteArray := prog_17_method_154_code
def yJ0_isLatin1_aae02 : MethodName := ⟨RJ0, "isLatin1", "()Z"⟩
abbrev cJ0_checkIndex_df160 : ByteArray := prog_17_method_155_code
def yJ0_checkIndex_df160 : MethodName := ⟨RJ0, "checkIndex", "(II)V"⟩
def RJ1 : String := "java/lang/StringLatin1"
def TJ1 : u_T := fun k => match k with
  | _ => ("", "", "", false)
def tyJ1 : Nat → FieldType := fun k => match k with
  | _ => .int
abbrev cJ1_charAt_3b067 : ByteArray := prog_18_method_2_code
def yJ1_charAt_3b067 : MethodName := ⟨RJ1, "charAt", "([BI)C"⟩
def RJ2 : String := "java/lang/StringUTF16"
def TJ2 : u_T := fun k => match k with
  | _ => ("", "", "", false)
def tyJ2 : Nat → FieldType := fun k => match k with
  | _ => .int
abbrev cJ2_getChar_3b067 : ByteArray := prog_19_method_5_code
def yJ2_getChar_3b067 : MethodName := ⟨RJ2, "getChar", "([BI)C"⟩
abbrev cJ2_length_9d52b : ByteArray := prog_19_method_6_code
def yJ2_length_9d52b : MethodName := ⟨RJ2, "length", "([B)I"⟩
abbrev cJ2_charAt_3b067 : ByteArray := prog_19_method_83_code
def yJ2_charAt_3b067 : MethodName := ⟨RJ2, "charAt", "([BI)C"⟩
abbrev cJ2_checkIndex_2214a : ByteArray := prog_19_method_91_code
def yJ2_checkIndex_2214a : MethodName := ⟨RJ2, "checkIndex", "(I[B)V"⟩
def RJ10 : String := "java/lang/System"
def TJ10 : u_T := fun k => match k with
  | _ => ("", "", "", false)
def tyJ10 : Nat → FieldType := fun k => match k with
  | _ => .int
def RJxfd54e : String := "java/lang/constant/Constable"
def TJxfd54e : u_T := fun k => match k with
  | _ => ("", "", "", false)
def tyJxfd54e : Nat → FieldType := fun k => match k with
  | _ => .int
def RJx3cf43 : String := "java/lang/constant/ConstantDesc"
def TJx3cf43 : u_T := fun k => match k with
  | _ => ("", "", "", false)
def tyJx3cf43 : Nat → FieldType := fun k => match k with
  | _ => .int
def RJ7 : String := "java/util/Arrays"
def TJ7 : u_T := fun k => match k with
  | _ => ("", "", "", false)
def tyJ7 : Nat → FieldType := fun k => match k with
  | _ => .int
abbrev cJ7_fill_d0a16 : ByteArray := prog_21_method_101_code
def yJ7_fill_d0a16 : MethodName := ⟨RJ7, "fill", "([JJ)V"⟩
abbrev cJ7_fill_53178 : ByteArray := prog_21_method_103_code
def yJ7_fill_53178 : MethodName := ⟨RJ7, "fill", "([II)V"⟩
def RJ3 : String := "jdk/internal/util/Preconditions"
def TJ3 : u_T := fun k => match k with
  | _ => ("", "", "", false)
def tyJ3 : Nat → FieldType := fun k => match k with
  | _ => .int
abbrev cJ3_checkIndex_8e157 : ByteArray := prog_22_method_11_code
def yJ3_checkIndex_8e157 : MethodName := ⟨RJ3, "checkIndex", "(IILjava/util/function/BiFunction;)I"⟩
def RL : String := "WayLeavesLaw"
abbrev cL_law : ByteArray := code
def yL_law : MethodName := ⟨RL, "law", "([I)Z"⟩
abbrev vwCl : List vw_C := [(RX0, TX0, 9), (RX1, TX1, 8), (RX2, TX2, 9), (RX3, TX3, 2), (RX4, TX4, 10), (RX5, TX5, 13), (RX6, TX6, 9), (RX7, TX7, 4), (RX8, TX8, 10), (RX9, TX9, 4), (RX10, TX10, 3), (RX11, TX11, 11), (RX12, TX12, 76)]
