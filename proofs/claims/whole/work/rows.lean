section
-- ===== PART A: goes FIRST, ahead of the names: the tables' words, and 'selects' of the private methods out of them =====
/-- a private method of a class that the tables say can be made, by its rows of tables_1 -/
def lw_okq (q : MethodName × Nat) : Prop := (q.1.cls ≠ "java/lang/invoke/MethodHandle" ∧ q.1.cls ≠ "java/lang/invoke/VarHandle") ∧ Cond.instantiable q.1.cls q.2 ∈ tables_1 ∧ Cond.privateMethod q.1 ∈ tables_1 ∧ Cond.instanceMethod q.1 ∈ tables_1
theorem lw_p0 : lw_okq (⟨"ChipFloor$Block", "bentHigh", "(I)I"⟩, 10) := ⟨⟨by decide +kernel, by decide +kernel⟩, List.mem_of_getElem? (i := 43) (by decide +kernel), List.mem_of_getElem? (i := 412) (by decide +kernel), List.mem_of_getElem? (i := 413) (by decide +kernel)⟩
theorem lw_p1 : lw_okq (⟨"ChipFloor$Floor", "seat", "(I)V"⟩, 14) := ⟨⟨by decide +kernel, by decide +kernel⟩, List.mem_of_getElem? (i := 36) (by decide +kernel), List.mem_of_getElem? (i := 420) (by decide +kernel), List.mem_of_getElem? (i := 421) (by decide +kernel)⟩
theorem lw_p2 : lw_okq (⟨"ChipFloor$Block", "sharedAcross", "(LChipFloor$Block;)I"⟩, 10) := ⟨⟨by decide +kernel, by decide +kernel⟩, List.mem_of_getElem? (i := 43) (by decide +kernel), List.mem_of_getElem? (i := 443) (by decide +kernel), List.mem_of_getElem? (i := 444) (by decide +kernel)⟩
theorem lw_p3 : lw_okq (⟨"ChipFloor$Block", "sharedUp", "(LChipFloor$Block;)I"⟩, 10) := ⟨⟨by decide +kernel, by decide +kernel⟩, List.mem_of_getElem? (i := 43) (by decide +kernel), List.mem_of_getElem? (i := 451) (by decide +kernel), List.mem_of_getElem? (i := 452) (by decide +kernel)⟩
theorem lw_p4 : lw_okq (⟨"ChipFloor$Floor", "reachBehind", "(I)I"⟩, 14) := ⟨⟨by decide +kernel, by decide +kernel⟩, List.mem_of_getElem? (i := 36) (by decide +kernel), List.mem_of_getElem? (i := 463) (by decide +kernel), List.mem_of_getElem? (i := 464) (by decide +kernel)⟩
theorem lw_p5 : lw_okq (⟨"ChipFloor$Search", "holdRows", "(I)V"⟩, 3) := ⟨⟨by decide +kernel, by decide +kernel⟩, List.mem_of_getElem? (i := 222) (by decide +kernel), List.mem_of_getElem? (i := 681) (by decide +kernel), List.mem_of_getElem? (i := 682) (by decide +kernel)⟩
theorem lw_p6 : lw_okq (⟨"ChipFloor$Reader", "advance", "()V"⟩, 6) := ⟨⟨by decide +kernel, by decide +kernel⟩, List.mem_of_getElem? (i := 266) (by decide +kernel), List.mem_of_getElem? (i := 728) (by decide +kernel), List.mem_of_getElem? (i := 729) (by decide +kernel)⟩
theorem lw_p7 : lw_okq (⟨"ChipFloor$Reader", "readHead", "()Z"⟩, 6) := ⟨⟨by decide +kernel, by decide +kernel⟩, List.mem_of_getElem? (i := 266) (by decide +kernel), List.mem_of_getElem? (i := 735) (by decide +kernel), List.mem_of_getElem? (i := 736) (by decide +kernel)⟩
theorem lw_p8 : lw_okq (⟨"ChipFloor$Reader", "isWord", "(Ljava/lang/String;)Z"⟩, 6) := ⟨⟨by decide +kernel, by decide +kernel⟩, List.mem_of_getElem? (i := 266) (by decide +kernel), List.mem_of_getElem? (i := 740) (by decide +kernel), List.mem_of_getElem? (i := 741) (by decide +kernel)⟩
theorem lw_p9 : lw_okq (⟨"ChipFloor$Reader", "readOr", "(II)Z"⟩, 6) := ⟨⟨by decide +kernel, by decide +kernel⟩, List.mem_of_getElem? (i := 266) (by decide +kernel), List.mem_of_getElem? (i := 797) (by decide +kernel), List.mem_of_getElem? (i := 798) (by decide +kernel)⟩
theorem lw_p10 : lw_okq (⟨"ChipFloor$Reader", "readAnd", "(II)Z"⟩, 6) := ⟨⟨by decide +kernel, by decide +kernel⟩, List.mem_of_getElem? (i := 266) (by decide +kernel), List.mem_of_getElem? (i := 801) (by decide +kernel), List.mem_of_getElem? (i := 802) (by decide +kernel)⟩
theorem lw_p11 : lw_okq (⟨"ChipFloor$Reader", "readTest", "(II)Z"⟩, 6) := ⟨⟨by decide +kernel, by decide +kernel⟩, List.mem_of_getElem? (i := 266) (by decide +kernel), List.mem_of_getElem? (i := 805) (by decide +kernel), List.mem_of_getElem? (i := 806) (by decide +kernel)⟩
theorem lw_p12 : lw_okq (⟨"ChipFloor$Reader", "readSum", "(II)Z"⟩, 6) := ⟨⟨by decide +kernel, by decide +kernel⟩, List.mem_of_getElem? (i := 266) (by decide +kernel), List.mem_of_getElem? (i := 809) (by decide +kernel), List.mem_of_getElem? (i := 810) (by decide +kernel)⟩
theorem lw_p13 : lw_okq (⟨"ChipFloor$Reader", "readTerm", "(II)Z"⟩, 6) := ⟨⟨by decide +kernel, by decide +kernel⟩, List.mem_of_getElem? (i := 266) (by decide +kernel), List.mem_of_getElem? (i := 813) (by decide +kernel), List.mem_of_getElem? (i := 814) (by decide +kernel)⟩
theorem lw_p14 : lw_okq (⟨"ChipFloor$Reader", "readPiece", "(II)Z"⟩, 6) := ⟨⟨by decide +kernel, by decide +kernel⟩, List.mem_of_getElem? (i := 266) (by decide +kernel), List.mem_of_getElem? (i := 817) (by decide +kernel), List.mem_of_getElem? (i := 818) (by decide +kernel)⟩
theorem lw_p15 : lw_okq (⟨"ChipFloor$Reader", "readNumber", "()Z"⟩, 6) := ⟨⟨by decide +kernel, by decide +kernel⟩, List.mem_of_getElem? (i := 266) (by decide +kernel), List.mem_of_getElem? (i := 821) (by decide +kernel), List.mem_of_getElem? (i := 822) (by decide +kernel)⟩
def lw_privs_1 : List (MethodName × Nat) := [(⟨"ChipFloor$Block", "bentHigh", "(I)I"⟩, 10), (⟨"ChipFloor$Floor", "seat", "(I)V"⟩, 14), (⟨"ChipFloor$Block", "sharedAcross", "(LChipFloor$Block;)I"⟩, 10), (⟨"ChipFloor$Block", "sharedUp", "(LChipFloor$Block;)I"⟩, 10), (⟨"ChipFloor$Floor", "reachBehind", "(I)I"⟩, 14), (⟨"ChipFloor$Search", "holdRows", "(I)V"⟩, 3), (⟨"ChipFloor$Reader", "advance", "()V"⟩, 6), (⟨"ChipFloor$Reader", "readHead", "()Z"⟩, 6), (⟨"ChipFloor$Reader", "isWord", "(Ljava/lang/String;)Z"⟩, 6), (⟨"ChipFloor$Reader", "readOr", "(II)Z"⟩, 6), (⟨"ChipFloor$Reader", "readAnd", "(II)Z"⟩, 6), (⟨"ChipFloor$Reader", "readTest", "(II)Z"⟩, 6), (⟨"ChipFloor$Reader", "readSum", "(II)Z"⟩, 6), (⟨"ChipFloor$Reader", "readTerm", "(II)Z"⟩, 6), (⟨"ChipFloor$Reader", "readPiece", "(II)Z"⟩, 6), (⟨"ChipFloor$Reader", "readNumber", "()Z"⟩, 6)]
theorem lw_r1 : ∀ q ∈ lw_privs_1, lw_okq q := List.forall_mem_cons.mpr ⟨lw_p0, List.forall_mem_cons.mpr ⟨lw_p1, List.forall_mem_cons.mpr ⟨lw_p2, List.forall_mem_cons.mpr ⟨lw_p3, List.forall_mem_cons.mpr ⟨lw_p4, List.forall_mem_cons.mpr ⟨lw_p5, List.forall_mem_cons.mpr ⟨lw_p6, List.forall_mem_cons.mpr ⟨lw_p7, List.forall_mem_cons.mpr ⟨lw_p8, List.forall_mem_cons.mpr ⟨lw_p9, List.forall_mem_cons.mpr ⟨lw_p10, List.forall_mem_cons.mpr ⟨lw_p11, List.forall_mem_cons.mpr ⟨lw_p12, List.forall_mem_cons.mpr ⟨lw_p13, List.forall_mem_cons.mpr ⟨lw_p14, List.forall_mem_cons.mpr ⟨lw_p15, fun _ h => absurd h List.not_mem_nil⟩⟩⟩⟩⟩⟩⟩⟩⟩⟩⟩⟩⟩⟩⟩⟩
theorem lw_p16 : lw_okq (⟨"ChipFloor$Wish", "add", "(I)V"⟩, 4) := ⟨⟨by decide +kernel, by decide +kernel⟩, List.mem_of_getElem? (i := 184) (by decide +kernel), List.mem_of_getElem? (i := 829) (by decide +kernel), List.mem_of_getElem? (i := 830) (by decide +kernel)⟩
theorem lw_p17 : lw_okq (⟨"ChipFloor$Reader", "readName", "()Z"⟩, 6) := ⟨⟨by decide +kernel, by decide +kernel⟩, List.mem_of_getElem? (i := 266) (by decide +kernel), List.mem_of_getElem? (i := 833) (by decide +kernel), List.mem_of_getElem? (i := 834) (by decide +kernel)⟩
theorem lw_p18 : lw_okq (⟨"ChipFloor$Reader", "readNot", "(II)Z"⟩, 6) := ⟨⟨by decide +kernel, by decide +kernel⟩, List.mem_of_getElem? (i := 266) (by decide +kernel), List.mem_of_getElem? (i := 902) (by decide +kernel), List.mem_of_getElem? (i := 903) (by decide +kernel)⟩
theorem lw_p19 : lw_okq (⟨"ChipFloor$Reader", "readOpen", "(II)Z"⟩, 6) := ⟨⟨by decide +kernel, by decide +kernel⟩, List.mem_of_getElem? (i := 266) (by decide +kernel), List.mem_of_getElem? (i := 910) (by decide +kernel), List.mem_of_getElem? (i := 911) (by decide +kernel)⟩
theorem lw_p20 : lw_okq (⟨"ChipFloor$Wish", "nameOfBlock", "(LChipFloor$Floor;I)I"⟩, 4) := ⟨⟨by decide +kernel, by decide +kernel⟩, List.mem_of_getElem? (i := 184) (by decide +kernel), List.mem_of_getElem? (i := 942) (by decide +kernel), List.mem_of_getElem? (i := 943) (by decide +kernel)⟩
theorem lw_p21 : lw_okq (⟨"ChipFloor$Kept", "beats", "(II)Z"⟩, 4) := ⟨⟨by decide +kernel, by decide +kernel⟩, List.mem_of_getElem? (i := 162) (by decide +kernel), List.mem_of_getElem? (i := 986) (by decide +kernel), List.mem_of_getElem? (i := 987) (by decide +kernel)⟩
theorem lw_p22 : lw_okq (⟨"ChipFloor", "takePowers", "(LChipFloor$Sheet;I)I"⟩, 11) := ⟨⟨by decide +kernel, by decide +kernel⟩, List.mem_of_getElem? (i := 22) (by decide +kernel), List.mem_of_getElem? (i := 1024) (by decide +kernel), List.mem_of_getElem? (i := 1025) (by decide +kernel)⟩
theorem lw_p23 : lw_okq (⟨"ChipFloor", "metWishes", "()I"⟩, 11) := ⟨⟨by decide +kernel, by decide +kernel⟩, List.mem_of_getElem? (i := 22) (by decide +kernel), List.mem_of_getElem? (i := 1096) (by decide +kernel), List.mem_of_getElem? (i := 1097) (by decide +kernel)⟩
theorem lw_p24 : lw_okq (⟨"ChipFloorModel", "blockAt", "(I)I"⟩, 40) := ⟨⟨by decide +kernel, by decide +kernel⟩, List.mem_of_getElem? (i := 1101) (by decide +kernel), List.mem_of_getElem? (i := 1239) (by decide +kernel), List.mem_of_getElem? (i := 1240) (by decide +kernel)⟩
theorem lw_p25 : lw_okq (⟨"ChipFloorModel", "isBlock", "(I)Z"⟩, 40) := ⟨⟨by decide +kernel, by decide +kernel⟩, List.mem_of_getElem? (i := 1101) (by decide +kernel), List.mem_of_getElem? (i := 1247) (by decide +kernel), List.mem_of_getElem? (i := 1248) (by decide +kernel)⟩
theorem lw_p26 : lw_okq (⟨"ChipFloorModel", "findPlaces", "()V"⟩, 40) := ⟨⟨by decide +kernel, by decide +kernel⟩, List.mem_of_getElem? (i := 1101) (by decide +kernel), List.mem_of_getElem? (i := 1251) (by decide +kernel), List.mem_of_getElem? (i := 1252) (by decide +kernel)⟩
theorem lw_p27 : lw_okq (⟨"ChipFloorModel", "isAlike", "(II)Z"⟩, 40) := ⟨⟨by decide +kernel, by decide +kernel⟩, List.mem_of_getElem? (i := 1101) (by decide +kernel), List.mem_of_getElem? (i := 1255) (by decide +kernel), List.mem_of_getElem? (i := 1256) (by decide +kernel)⟩
theorem lw_p28 : lw_okq (⟨"ChipFloorModel", "width", "(I)I"⟩, 40) := ⟨⟨by decide +kernel, by decide +kernel⟩, List.mem_of_getElem? (i := 1101) (by decide +kernel), List.mem_of_getElem? (i := 1259) (by decide +kernel), List.mem_of_getElem? (i := 1260) (by decide +kernel)⟩
theorem lw_p29 : lw_okq (⟨"ChipFloorModel", "height", "(I)I"⟩, 40) := ⟨⟨by decide +kernel, by decide +kernel⟩, List.mem_of_getElem? (i := 1101) (by decide +kernel), List.mem_of_getElem? (i := 1272) (by decide +kernel), List.mem_of_getElem? (i := 1273) (by decide +kernel)⟩
theorem lw_p30 : lw_okq (⟨"ChipFloorModel", "room", "(I)I"⟩, 40) := ⟨⟨by decide +kernel, by decide +kernel⟩, List.mem_of_getElem? (i := 1101) (by decide +kernel), List.mem_of_getElem? (i := 1279) (by decide +kernel), List.mem_of_getElem? (i := 1280) (by decide +kernel)⟩
theorem lw_p31 : lw_okq (⟨"ChipFloorModel", "heatOf", "(I)I"⟩, 40) := ⟨⟨by decide +kernel, by decide +kernel⟩, List.mem_of_getElem? (i := 1101) (by decide +kernel), List.mem_of_getElem? (i := 1292) (by decide +kernel), List.mem_of_getElem? (i := 1293) (by decide +kernel)⟩
def lw_privs_2 : List (MethodName × Nat) := [(⟨"ChipFloor$Wish", "add", "(I)V"⟩, 4), (⟨"ChipFloor$Reader", "readName", "()Z"⟩, 6), (⟨"ChipFloor$Reader", "readNot", "(II)Z"⟩, 6), (⟨"ChipFloor$Reader", "readOpen", "(II)Z"⟩, 6), (⟨"ChipFloor$Wish", "nameOfBlock", "(LChipFloor$Floor;I)I"⟩, 4), (⟨"ChipFloor$Kept", "beats", "(II)Z"⟩, 4), (⟨"ChipFloor", "takePowers", "(LChipFloor$Sheet;I)I"⟩, 11), (⟨"ChipFloor", "metWishes", "()I"⟩, 11), (⟨"ChipFloorModel", "blockAt", "(I)I"⟩, 40), (⟨"ChipFloorModel", "isBlock", "(I)Z"⟩, 40), (⟨"ChipFloorModel", "findPlaces", "()V"⟩, 40), (⟨"ChipFloorModel", "isAlike", "(II)Z"⟩, 40), (⟨"ChipFloorModel", "width", "(I)I"⟩, 40), (⟨"ChipFloorModel", "height", "(I)I"⟩, 40), (⟨"ChipFloorModel", "room", "(I)I"⟩, 40), (⟨"ChipFloorModel", "heatOf", "(I)I"⟩, 40)]
theorem lw_r2 : ∀ q ∈ lw_privs_2, lw_okq q := List.forall_mem_cons.mpr ⟨lw_p16, List.forall_mem_cons.mpr ⟨lw_p17, List.forall_mem_cons.mpr ⟨lw_p18, List.forall_mem_cons.mpr ⟨lw_p19, List.forall_mem_cons.mpr ⟨lw_p20, List.forall_mem_cons.mpr ⟨lw_p21, List.forall_mem_cons.mpr ⟨lw_p22, List.forall_mem_cons.mpr ⟨lw_p23, List.forall_mem_cons.mpr ⟨lw_p24, List.forall_mem_cons.mpr ⟨lw_p25, List.forall_mem_cons.mpr ⟨lw_p26, List.forall_mem_cons.mpr ⟨lw_p27, List.forall_mem_cons.mpr ⟨lw_p28, List.forall_mem_cons.mpr ⟨lw_p29, List.forall_mem_cons.mpr ⟨lw_p30, List.forall_mem_cons.mpr ⟨lw_p31, fun _ h => absurd h List.not_mem_nil⟩⟩⟩⟩⟩⟩⟩⟩⟩⟩⟩⟩⟩⟩⟩⟩
theorem lw_p32 : lw_okq (⟨"ChipFloorModel", "doTouch", "(II)Z"⟩, 40) := ⟨⟨by decide +kernel, by decide +kernel⟩, List.mem_of_getElem? (i := 1101) (by decide +kernel), List.mem_of_getElem? (i := 1302) (by decide +kernel), List.mem_of_getElem? (i := 1303) (by decide +kernel)⟩
theorem lw_p33 : lw_okq (⟨"ChipFloorModel", "growsOf", "(I)I"⟩, 40) := ⟨⟨by decide +kernel, by decide +kernel⟩, List.mem_of_getElem? (i := 1101) (by decide +kernel), List.mem_of_getElem? (i := 1306) (by decide +kernel), List.mem_of_getElem? (i := 1307) (by decide +kernel)⟩
theorem lw_p34 : lw_okq (⟨"ChipFloorModel", "behind", "(I)I"⟩, 40) := ⟨⟨by decide +kernel, by decide +kernel⟩, List.mem_of_getElem? (i := 1101) (by decide +kernel), List.mem_of_getElem? (i := 1310) (by decide +kernel), List.mem_of_getElem? (i := 1311) (by decide +kernel)⟩
theorem lw_p35 : lw_okq (⟨"ChipFloorModel", "becomes", "(II)I"⟩, 40) := ⟨⟨by decide +kernel, by decide +kernel⟩, List.mem_of_getElem? (i := 1101) (by decide +kernel), List.mem_of_getElem? (i := 1327) (by decide +kernel), List.mem_of_getElem? (i := 1328) (by decide +kernel)⟩
theorem lw_p36 : lw_okq (⟨"ChipFloorModel", "wireOf", "(I)I"⟩, 40) := ⟨⟨by decide +kernel, by decide +kernel⟩, List.mem_of_getElem? (i := 1101) (by decide +kernel), List.mem_of_getElem? (i := 1350) (by decide +kernel), List.mem_of_getElem? (i := 1351) (by decide +kernel)⟩
theorem lw_p37 : lw_okq (⟨"ChipFloorModel", "guessOf", "(I)I"⟩, 40) := ⟨⟨by decide +kernel, by decide +kernel⟩, List.mem_of_getElem? (i := 1101) (by decide +kernel), List.mem_of_getElem? (i := 1354) (by decide +kernel), List.mem_of_getElem? (i := 1355) (by decide +kernel)⟩
theorem lw_p38 : lw_okq (⟨"ChipFloorModel", "priceNow", "()I"⟩, 40) := ⟨⟨by decide +kernel, by decide +kernel⟩, List.mem_of_getElem? (i := 1101) (by decide +kernel), List.mem_of_getElem? (i := 1366) (by decide +kernel), List.mem_of_getElem? (i := 1367) (by decide +kernel)⟩
theorem lw_p39 : lw_okq (⟨"ChipFloorModel", "wires", "()I"⟩, 40) := ⟨⟨by decide +kernel, by decide +kernel⟩, List.mem_of_getElem? (i := 1101) (by decide +kernel), List.mem_of_getElem? (i := 1370) (by decide +kernel), List.mem_of_getElem? (i := 1371) (by decide +kernel)⟩
theorem lw_p40 : lw_okq (⟨"ChipFloorModel", "waste", "()I"⟩, 40) := ⟨⟨by decide +kernel, by decide +kernel⟩, List.mem_of_getElem? (i := 1101) (by decide +kernel), List.mem_of_getElem? (i := 1374) (by decide +kernel), List.mem_of_getElem? (i := 1375) (by decide +kernel)⟩
theorem lw_p41 : lw_okq (⟨"ChipFloorModel", "onLayer", "(I)I"⟩, 40) := ⟨⟨by decide +kernel, by decide +kernel⟩, List.mem_of_getElem? (i := 1101) (by decide +kernel), List.mem_of_getElem? (i := 1378) (by decide +kernel), List.mem_of_getElem? (i := 1379) (by decide +kernel)⟩
theorem lw_p42 : lw_okq (⟨"ChipFloorModel", "placeIn", "(II)I"⟩, 40) := ⟨⟨by decide +kernel, by decide +kernel⟩, List.mem_of_getElem? (i := 1101) (by decide +kernel), List.mem_of_getElem? (i := 1387) (by decide +kernel), List.mem_of_getElem? (i := 1388) (by decide +kernel)⟩
theorem lw_p43 : lw_okq (⟨"ChipFloorModel", "isStuck", "(II)Z"⟩, 40) := ⟨⟨by decide +kernel, by decide +kernel⟩, List.mem_of_getElem? (i := 1101) (by decide +kernel), List.mem_of_getElem? (i := 1395) (by decide +kernel), List.mem_of_getElem? (i := 1396) (by decide +kernel)⟩
theorem lw_p44 : lw_okq (⟨"ChipFloorModel", "doMove", "(III)V"⟩, 40) := ⟨⟨by decide +kernel, by decide +kernel⟩, List.mem_of_getElem? (i := 1101) (by decide +kernel), List.mem_of_getElem? (i := 1400) (by decide +kernel), List.mem_of_getElem? (i := 1401) (by decide +kernel)⟩
theorem lw_p45 : lw_okq (⟨"ChipFloorModel", "swap", "(III)V"⟩, 40) := ⟨⟨by decide +kernel, by decide +kernel⟩, List.mem_of_getElem? (i := 1101) (by decide +kernel), List.mem_of_getElem? (i := 1404) (by decide +kernel), List.mem_of_getElem? (i := 1405) (by decide +kernel)⟩
theorem lw_p46 : lw_okq (⟨"ChipFloorModel", "undoMove", "(III)V"⟩, 40) := ⟨⟨by decide +kernel, by decide +kernel⟩, List.mem_of_getElem? (i := 1101) (by decide +kernel), List.mem_of_getElem? (i := 1412) (by decide +kernel), List.mem_of_getElem? (i := 1413) (by decide +kernel)⟩
theorem lw_p47 : lw_okq (⟨"ChipFloorModel", "oneStep", "(I)V"⟩, 40) := ⟨⟨by decide +kernel, by decide +kernel⟩, List.mem_of_getElem? (i := 1101) (by decide +kernel), List.mem_of_getElem? (i := 1426) (by decide +kernel), List.mem_of_getElem? (i := 1427) (by decide +kernel)⟩
def lw_privs_3 : List (MethodName × Nat) := [(⟨"ChipFloorModel", "doTouch", "(II)Z"⟩, 40), (⟨"ChipFloorModel", "growsOf", "(I)I"⟩, 40), (⟨"ChipFloorModel", "behind", "(I)I"⟩, 40), (⟨"ChipFloorModel", "becomes", "(II)I"⟩, 40), (⟨"ChipFloorModel", "wireOf", "(I)I"⟩, 40), (⟨"ChipFloorModel", "guessOf", "(I)I"⟩, 40), (⟨"ChipFloorModel", "priceNow", "()I"⟩, 40), (⟨"ChipFloorModel", "wires", "()I"⟩, 40), (⟨"ChipFloorModel", "waste", "()I"⟩, 40), (⟨"ChipFloorModel", "onLayer", "(I)I"⟩, 40), (⟨"ChipFloorModel", "placeIn", "(II)I"⟩, 40), (⟨"ChipFloorModel", "isStuck", "(II)Z"⟩, 40), (⟨"ChipFloorModel", "doMove", "(III)V"⟩, 40), (⟨"ChipFloorModel", "swap", "(III)V"⟩, 40), (⟨"ChipFloorModel", "undoMove", "(III)V"⟩, 40), (⟨"ChipFloorModel", "oneStep", "(I)V"⟩, 40)]
theorem lw_r3 : ∀ q ∈ lw_privs_3, lw_okq q := List.forall_mem_cons.mpr ⟨lw_p32, List.forall_mem_cons.mpr ⟨lw_p33, List.forall_mem_cons.mpr ⟨lw_p34, List.forall_mem_cons.mpr ⟨lw_p35, List.forall_mem_cons.mpr ⟨lw_p36, List.forall_mem_cons.mpr ⟨lw_p37, List.forall_mem_cons.mpr ⟨lw_p38, List.forall_mem_cons.mpr ⟨lw_p39, List.forall_mem_cons.mpr ⟨lw_p40, List.forall_mem_cons.mpr ⟨lw_p41, List.forall_mem_cons.mpr ⟨lw_p42, List.forall_mem_cons.mpr ⟨lw_p43, List.forall_mem_cons.mpr ⟨lw_p44, List.forall_mem_cons.mpr ⟨lw_p45, List.forall_mem_cons.mpr ⟨lw_p46, List.forall_mem_cons.mpr ⟨lw_p47, fun _ h => absurd h List.not_mem_nil⟩⟩⟩⟩⟩⟩⟩⟩⟩⟩⟩⟩⟩⟩⟩⟩
theorem lw_p48 : lw_okq (⟨"ChipFloorModel", "roomOn", "(I)I"⟩, 40) := ⟨⟨by decide +kernel, by decide +kernel⟩, List.mem_of_getElem? (i := 1101) (by decide +kernel), List.mem_of_getElem? (i := 1437) (by decide +kernel), List.mem_of_getElem? (i := 1438) (by decide +kernel)⟩
theorem lw_p49 : lw_okq (⟨"ChipFloorModel", "leastPrice", "()I"⟩, 40) := ⟨⟨by decide +kernel, by decide +kernel⟩, List.mem_of_getElem? (i := 1101) (by decide +kernel), List.mem_of_getElem? (i := 1441) (by decide +kernel), List.mem_of_getElem? (i := 1442) (by decide +kernel)⟩
theorem lw_p50 : lw_okq (⟨"ChipFloorModel", "tellRow", "(II)Z"⟩, 40) := ⟨⟨by decide +kernel, by decide +kernel⟩, List.mem_of_getElem? (i := 1101) (by decide +kernel), List.mem_of_getElem? (i := 1448) (by decide +kernel), List.mem_of_getElem? (i := 1449) (by decide +kernel)⟩
theorem lw_p51 : lw_okq (⟨"ChipFloorModel", "leastOf", "(Z)I"⟩, 40) := ⟨⟨by decide +kernel, by decide +kernel⟩, List.mem_of_getElem? (i := 1101) (by decide +kernel), List.mem_of_getElem? (i := 1452) (by decide +kernel), List.mem_of_getElem? (i := 1453) (by decide +kernel)⟩
theorem lw_p52 : lw_okq (⟨"ChipFloorModel", "hottestNow", "()I"⟩, 40) := ⟨⟨by decide +kernel, by decide +kernel⟩, List.mem_of_getElem? (i := 1101) (by decide +kernel), List.mem_of_getElem? (i := 1468) (by decide +kernel), List.mem_of_getElem? (i := 1469) (by decide +kernel)⟩
theorem lw_p53 : lw_okq (⟨"ChipFloorModel", "parse", "()I"⟩, 40) := ⟨⟨by decide +kernel, by decide +kernel⟩, List.mem_of_getElem? (i := 1101) (by decide +kernel), List.mem_of_getElem? (i := 1487) (by decide +kernel), List.mem_of_getElem? (i := 1488) (by decide +kernel)⟩
theorem lw_p54 : lw_okq (⟨"ChipFloorModel", "textAt", "(I)I"⟩, 40) := ⟨⟨by decide +kernel, by decide +kernel⟩, List.mem_of_getElem? (i := 1101) (by decide +kernel), List.mem_of_getElem? (i := 1491) (by decide +kernel), List.mem_of_getElem? (i := 1492) (by decide +kernel)⟩
theorem lw_p55 : lw_okq (⟨"ChipFloorModel", "next", "()V"⟩, 40) := ⟨⟨by decide +kernel, by decide +kernel⟩, List.mem_of_getElem? (i := 1101) (by decide +kernel), List.mem_of_getElem? (i := 1495) (by decide +kernel), List.mem_of_getElem? (i := 1496) (by decide +kernel)⟩
theorem lw_p56 : lw_okq (⟨"ChipFloorModel", "isLetter", "(I)Z"⟩, 40) := ⟨⟨by decide +kernel, by decide +kernel⟩, List.mem_of_getElem? (i := 1101) (by decide +kernel), List.mem_of_getElem? (i := 1499) (by decide +kernel), List.mem_of_getElem? (i := 1500) (by decide +kernel)⟩
theorem lw_p57 : lw_okq (⟨"ChipFloorModel", "isDigit", "(I)Z"⟩, 40) := ⟨⟨by decide +kernel, by decide +kernel⟩, List.mem_of_getElem? (i := 1101) (by decide +kernel), List.mem_of_getElem? (i := 1505) (by decide +kernel), List.mem_of_getElem? (i := 1506) (by decide +kernel)⟩
theorem lw_p58 : lw_okq (⟨"ChipFloorModel", "key", "()I"⟩, 40) := ⟨⟨by decide +kernel, by decide +kernel⟩, List.mem_of_getElem? (i := 1101) (by decide +kernel), List.mem_of_getElem? (i := 1511) (by decide +kernel), List.mem_of_getElem? (i := 1512) (by decide +kernel)⟩
theorem lw_p59 : lw_okq (⟨"ChipFloorModel", "isWordAt", "(IIII)Z"⟩, 40) := ⟨⟨by decide +kernel, by decide +kernel⟩, List.mem_of_getElem? (i := 1101) (by decide +kernel), List.mem_of_getElem? (i := 1515) (by decide +kernel), List.mem_of_getElem? (i := 1516) (by decide +kernel)⟩
theorem lw_p60 : lw_okq (⟨"ChipFloorModel", "isLong", "(IIIIII)Z"⟩, 40) := ⟨⟨by decide +kernel, by decide +kernel⟩, List.mem_of_getElem? (i := 1101) (by decide +kernel), List.mem_of_getElem? (i := 1519) (by decide +kernel), List.mem_of_getElem? (i := 1520) (by decide +kernel)⟩
theorem lw_p61 : lw_okq (⟨"ChipFloorModel", "either", "(I)Z"⟩, 40) := ⟨⟨by decide +kernel, by decide +kernel⟩, List.mem_of_getElem? (i := 1101) (by decide +kernel), List.mem_of_getElem? (i := 1523) (by decide +kernel), List.mem_of_getElem? (i := 1524) (by decide +kernel)⟩
theorem lw_p62 : lw_okq (⟨"ChipFloorModel", "both", "(I)Z"⟩, 40) := ⟨⟨by decide +kernel, by decide +kernel⟩, List.mem_of_getElem? (i := 1101) (by decide +kernel), List.mem_of_getElem? (i := 1527) (by decide +kernel), List.mem_of_getElem? (i := 1528) (by decide +kernel)⟩
theorem lw_p63 : lw_okq (⟨"ChipFloorModel", "test", "(I)Z"⟩, 40) := ⟨⟨by decide +kernel, by decide +kernel⟩, List.mem_of_getElem? (i := 1101) (by decide +kernel), List.mem_of_getElem? (i := 1531) (by decide +kernel), List.mem_of_getElem? (i := 1532) (by decide +kernel)⟩
def lw_privs_4 : List (MethodName × Nat) := [(⟨"ChipFloorModel", "roomOn", "(I)I"⟩, 40), (⟨"ChipFloorModel", "leastPrice", "()I"⟩, 40), (⟨"ChipFloorModel", "tellRow", "(II)Z"⟩, 40), (⟨"ChipFloorModel", "leastOf", "(Z)I"⟩, 40), (⟨"ChipFloorModel", "hottestNow", "()I"⟩, 40), (⟨"ChipFloorModel", "parse", "()I"⟩, 40), (⟨"ChipFloorModel", "textAt", "(I)I"⟩, 40), (⟨"ChipFloorModel", "next", "()V"⟩, 40), (⟨"ChipFloorModel", "isLetter", "(I)Z"⟩, 40), (⟨"ChipFloorModel", "isDigit", "(I)Z"⟩, 40), (⟨"ChipFloorModel", "key", "()I"⟩, 40), (⟨"ChipFloorModel", "isWordAt", "(IIII)Z"⟩, 40), (⟨"ChipFloorModel", "isLong", "(IIIIII)Z"⟩, 40), (⟨"ChipFloorModel", "either", "(I)Z"⟩, 40), (⟨"ChipFloorModel", "both", "(I)Z"⟩, 40), (⟨"ChipFloorModel", "test", "(I)Z"⟩, 40)]
theorem lw_r4 : ∀ q ∈ lw_privs_4, lw_okq q := List.forall_mem_cons.mpr ⟨lw_p48, List.forall_mem_cons.mpr ⟨lw_p49, List.forall_mem_cons.mpr ⟨lw_p50, List.forall_mem_cons.mpr ⟨lw_p51, List.forall_mem_cons.mpr ⟨lw_p52, List.forall_mem_cons.mpr ⟨lw_p53, List.forall_mem_cons.mpr ⟨lw_p54, List.forall_mem_cons.mpr ⟨lw_p55, List.forall_mem_cons.mpr ⟨lw_p56, List.forall_mem_cons.mpr ⟨lw_p57, List.forall_mem_cons.mpr ⟨lw_p58, List.forall_mem_cons.mpr ⟨lw_p59, List.forall_mem_cons.mpr ⟨lw_p60, List.forall_mem_cons.mpr ⟨lw_p61, List.forall_mem_cons.mpr ⟨lw_p62, List.forall_mem_cons.mpr ⟨lw_p63, fun _ h => absurd h List.not_mem_nil⟩⟩⟩⟩⟩⟩⟩⟩⟩⟩⟩⟩⟩⟩⟩⟩
theorem lw_p64 : lw_okq (⟨"ChipFloorModel", "sum", "(I)Z"⟩, 40) := ⟨⟨by decide +kernel, by decide +kernel⟩, List.mem_of_getElem? (i := 1101) (by decide +kernel), List.mem_of_getElem? (i := 1535) (by decide +kernel), List.mem_of_getElem? (i := 1536) (by decide +kernel)⟩
theorem lw_p65 : lw_okq (⟨"ChipFloorModel", "term", "(I)Z"⟩, 40) := ⟨⟨by decide +kernel, by decide +kernel⟩, List.mem_of_getElem? (i := 1101) (by decide +kernel), List.mem_of_getElem? (i := 1539) (by decide +kernel), List.mem_of_getElem? (i := 1540) (by decide +kernel)⟩
theorem lw_p66 : lw_okq (⟨"ChipFloorModel", "part0", "(I)Z"⟩, 40) := ⟨⟨by decide +kernel, by decide +kernel⟩, List.mem_of_getElem? (i := 1101) (by decide +kernel), List.mem_of_getElem? (i := 1543) (by decide +kernel), List.mem_of_getElem? (i := 1544) (by decide +kernel)⟩
theorem lw_p67 : lw_okq (⟨"ChipFloorModel", "step", "(II)V"⟩, 40) := ⟨⟨by decide +kernel, by decide +kernel⟩, List.mem_of_getElem? (i := 1101) (by decide +kernel), List.mem_of_getElem? (i := 1547) (by decide +kernel), List.mem_of_getElem? (i := 1548) (by decide +kernel)⟩
theorem lw_p68 : lw_okq (⟨"ChipFloorModel", "isSign", "(I)Z"⟩, 40) := ⟨⟨by decide +kernel, by decide +kernel⟩, List.mem_of_getElem? (i := 1101) (by decide +kernel), List.mem_of_getElem? (i := 1554) (by decide +kernel), List.mem_of_getElem? (i := 1555) (by decide +kernel)⟩
theorem lw_p69 : lw_okq (⟨"ChipFloorModel", "isText", "(I)Z"⟩, 40) := ⟨⟨by decide +kernel, by decide +kernel⟩, List.mem_of_getElem? (i := 1101) (by decide +kernel), List.mem_of_getElem? (i := 1562) (by decide +kernel), List.mem_of_getElem? (i := 1563) (by decide +kernel)⟩
theorem lw_p70 : lw_okq (⟨"ChipFloorModel", "givenBy", "(I)I"⟩, 40) := ⟨⟨by decide +kernel, by decide +kernel⟩, List.mem_of_getElem? (i := 1101) (by decide +kernel), List.mem_of_getElem? (i := 1566) (by decide +kernel), List.mem_of_getElem? (i := 1567) (by decide +kernel)⟩
theorem lw_p71 : lw_okq (⟨"ChipFloorModel", "worked", "(I)I"⟩, 40) := ⟨⟨by decide +kernel, by decide +kernel⟩, List.mem_of_getElem? (i := 1101) (by decide +kernel), List.mem_of_getElem? (i := 1570) (by decide +kernel), List.mem_of_getElem? (i := 1571) (by decide +kernel)⟩
theorem lw_p72 : lw_okq (⟨"ChipFloorModel", "isBeaten", "(I)Z"⟩, 40) := ⟨⟨by decide +kernel, by decide +kernel⟩, List.mem_of_getElem? (i := 1101) (by decide +kernel), List.mem_of_getElem? (i := 1589) (by decide +kernel), List.mem_of_getElem? (i := 1590) (by decide +kernel)⟩
theorem lw_p73 : lw_okq (⟨"ChipFloorModel", "setAside", "([I[I)V"⟩, 40) := ⟨⟨by decide +kernel, by decide +kernel⟩, List.mem_of_getElem? (i := 1101) (by decide +kernel), List.mem_of_getElem? (i := 1648) (by decide +kernel), List.mem_of_getElem? (i := 1649) (by decide +kernel)⟩
def lw_privs_5 : List (MethodName × Nat) := [(⟨"ChipFloorModel", "sum", "(I)Z"⟩, 40), (⟨"ChipFloorModel", "term", "(I)Z"⟩, 40), (⟨"ChipFloorModel", "part0", "(I)Z"⟩, 40), (⟨"ChipFloorModel", "step", "(II)V"⟩, 40), (⟨"ChipFloorModel", "isSign", "(I)Z"⟩, 40), (⟨"ChipFloorModel", "isText", "(I)Z"⟩, 40), (⟨"ChipFloorModel", "givenBy", "(I)I"⟩, 40), (⟨"ChipFloorModel", "worked", "(I)I"⟩, 40), (⟨"ChipFloorModel", "isBeaten", "(I)Z"⟩, 40), (⟨"ChipFloorModel", "setAside", "([I[I)V"⟩, 40)]
theorem lw_r5 : ∀ q ∈ lw_privs_5, lw_okq q := List.forall_mem_cons.mpr ⟨lw_p64, List.forall_mem_cons.mpr ⟨lw_p65, List.forall_mem_cons.mpr ⟨lw_p66, List.forall_mem_cons.mpr ⟨lw_p67, List.forall_mem_cons.mpr ⟨lw_p68, List.forall_mem_cons.mpr ⟨lw_p69, List.forall_mem_cons.mpr ⟨lw_p70, List.forall_mem_cons.mpr ⟨lw_p71, List.forall_mem_cons.mpr ⟨lw_p72, List.forall_mem_cons.mpr ⟨lw_p73, fun _ h => absurd h List.not_mem_nil⟩⟩⟩⟩⟩⟩⟩⟩⟩⟩
def lw_privs : List (MethodName × Nat) := lw_privs_1 ++ (lw_privs_2 ++ (lw_privs_3 ++ (lw_privs_4 ++ (lw_privs_5))))
def lw_tbl : List Cond := k2_sels lw_privs ++ tables_1
theorem lw_privs_ok : ∀ q ∈ lw_privs, lw_okq q := by
  show ∀ q ∈ lw_privs_1 ++ (lw_privs_2 ++ (lw_privs_3 ++ (lw_privs_4 ++ (lw_privs_5)))), lw_okq q
  exact List.forall_mem_append.mpr ⟨lw_r1, List.forall_mem_append.mpr ⟨lw_r2, List.forall_mem_append.mpr ⟨lw_r3, List.forall_mem_append.mpr ⟨lw_r4, lw_r5⟩⟩⟩⟩
end
section
def RX0 : String := "ChipFloor$Block"
def TX0 : u_T := fun k => match k with
  | 0 => ("ChipFloor$Block", "kind", "I", false)
  | 1 => ("ChipFloor$Block", "a", "I", false)
  | 2 => ("ChipFloor$Block", "b", "I", false)
  | 3 => ("ChipFloor$Block", "power", "I", false)
  | 4 => ("ChipFloor$Block", "layer", "I", false)
  | 5 => ("ChipFloor$Block", "shape", "I", false)
  | 6 => ("ChipFloor$Block", "wide", "I", false)
  | 7 => ("ChipFloor$Block", "high", "I", false)
  | 8 => ("ChipFloor$Block", "x", "I", false)
  | _ => ("ChipFloor$Block", "y", "I", false)
def tyX0 : Nat → FieldType := fun k => match k with
  | 0 => .int
  | 1 => .int
  | 2 => .int
  | 3 => .int
  | 4 => .int
  | 5 => .int
  | 6 => .int
  | 7 => .int
  | 8 => .int
  | _ => .int
theorem nmX0 : ∀ a, a < 10 → ∀ b, b < 10 → a ≠ b → (TX0 a).2.1 ≠ (TX0 b).2.1 := by decide +kernel
theorem tyX0_ok : ∀ k, k < 10 → parseFieldDescriptor (TX0 k).2.2.1 = some (tyX0 k) := by decide +kernel
abbrev cX0_init : ByteArray := prog_2_method_1_code
def yX0_init : MethodName := ⟨RX0, "<init>", "()V"⟩
abbrev cX0_become : ByteArray := prog_2_method_2_code
def yX0_become : MethodName := ⟨RX0, "become", "(III)V"⟩
abbrev cX0_takeFrom : ByteArray := prog_2_method_3_code
def yX0_takeFrom : MethodName := ⟨RX0, "takeFrom", "(LChipFloor$Block;)V"⟩
abbrev cX0_drawAs : ByteArray := prog_2_method_4_code
def yX0_drawAs : MethodName := ⟨RX0, "drawAs", "(I)V"⟩
abbrev cX0_drawNext : ByteArray := prog_2_method_5_code
def yX0_drawNext : MethodName := ⟨RX0, "drawNext", "()V"⟩
abbrev cX0_drawPrevious : ByteArray := prog_2_method_6_code
def yX0_drawPrevious : MethodName := ⟨RX0, "drawPrevious", "()V"⟩
abbrev cX0_isUnder : ByteArray := prog_2_method_7_code
def yX0_isUnder : MethodName := ⟨RX0, "isUnder", "(I)Z"⟩
abbrev cX0_shapes : ByteArray := prog_2_method_8_code
def yX0_shapes : MethodName := ⟨RX0, "shapes", "()I"⟩
abbrev cX0_wideIn : ByteArray := prog_2_method_9_code
def yX0_wideIn : MethodName := ⟨RX0, "wideIn", "(I)I"⟩
abbrev cX0_highIn : ByteArray := prog_2_method_10_code
def yX0_highIn : MethodName := ⟨RX0, "highIn", "(I)I"⟩
abbrev cX0_bentHigh : ByteArray := prog_2_method_11_code
def yX0_bentHigh : MethodName := ⟨RX0, "bentHigh", "(I)I"⟩
abbrev cX0_room : ByteArray := prog_2_method_12_code
def yX0_room : MethodName := ⟨RX0, "room", "()I"⟩
abbrev cX0_worth : ByteArray := prog_2_method_13_code
def yX0_worth : MethodName := ⟨RX0, "worth", "()I"⟩
abbrev cX0_leastWide : ByteArray := prog_2_method_14_code
def yX0_leastWide : MethodName := ⟨RX0, "leastWide", "()I"⟩
abbrev cX0_leastHigh : ByteArray := prog_2_method_15_code
def yX0_leastHigh : MethodName := ⟨RX0, "leastHigh", "()I"⟩
abbrev cX0_ofItself : ByteArray := prog_2_method_16_code
def yX0_ofItself : MethodName := ⟨RX0, "ofItself", "(I)I"⟩
abbrev cX0_sharedAcross : ByteArray := prog_2_method_17_code
def yX0_sharedAcross : MethodName := ⟨RX0, "sharedAcross", "(LChipFloor$Block;)I"⟩
abbrev cX0_sharedUp : ByteArray := prog_2_method_18_code
def yX0_sharedUp : MethodName := ⟨RX0, "sharedUp", "(LChipFloor$Block;)I"⟩
abbrev cX0_touches : ByteArray := prog_2_method_19_code
def yX0_touches : MethodName := ⟨RX0, "touches", "(LChipFloor$Block;)Z"⟩
abbrev cX0_liesOver : ByteArray := prog_2_method_20_code
def yX0_liesOver : MethodName := ⟨RX0, "liesOver", "(LChipFloor$Block;)Z"⟩
def RX1 : String := "ChipFloor$Floor"
def TX1 : u_T := fun k => match k with
  | 0 => ("ChipFloor$Floor", "blocks", "[LChipFloor$Block;", true)
  | 1 => ("ChipFloor$Floor", "count", "I", false)
  | 2 => ("ChipFloor$Floor", "one", "[I", true)
  | 3 => ("ChipFloor$Floor", "other", "[I", true)
  | 4 => ("ChipFloor$Floor", "inOne", "[I", true)
  | 5 => ("ChipFloor$Floor", "inOther", "[I", true)
  | 6 => ("ChipFloor$Floor", "reach", "[I", true)
  | 7 => ("ChipFloor$Floor", "rules", "[I", true)
  | 8 => ("ChipFloor$Floor", "netSets", "[I", true)
  | 9 => ("ChipFloor$Floor", "netWeights", "[I", true)
  | 10 => ("ChipFloor$Floor", "nets", "I", false)
  | 11 => ("ChipFloor$Floor", "z", "I", false)
  | 12 => ("ChipFloor$Floor", "wideAll", "I", false)
  | _ => ("ChipFloor$Floor", "highAll", "I", false)
def tyX1 : Nat → FieldType := fun k => match k with
  | 0 => .array (.object "ChipFloor$Block")
  | 1 => .int
  | 2 => .array .int
  | 3 => .array .int
  | 4 => .array .int
  | 5 => .array .int
  | 6 => .array .int
  | 7 => .array .int
  | 8 => .array .int
  | 9 => .array .int
  | 10 => .int
  | 11 => .int
  | 12 => .int
  | _ => .int
theorem nmX1 : ∀ a, a < 14 → ∀ b, b < 14 → a ≠ b → (TX1 a).2.1 ≠ (TX1 b).2.1 := by decide +kernel
theorem tyX1_ok : ∀ k, k < 14 → parseFieldDescriptor (TX1 k).2.2.1 = some (tyX1 k) := by decide +kernel
abbrev cX1_init : ByteArray := prog_3_method_1_code
def yX1_init : MethodName := ⟨RX1, "<init>", "()V"⟩
abbrev cX1_takeFrom : ByteArray := prog_3_method_2_code
def yX1_takeFrom : MethodName := ⟨RX1, "takeFrom", "(LChipFloor$Floor;)V"⟩
abbrev cX1_has : ByteArray := prog_3_method_3_code
def yX1_has : MethodName := ⟨RX1, "has", "(I)Z"⟩
abbrev cX1_addBlock : ByteArray := prog_3_method_4_code
def yX1_addBlock : MethodName := ⟨RX1, "addBlock", "(III)I"⟩
abbrev cX1_addNet : ByteArray := prog_3_method_5_code
def yX1_addNet : MethodName := ⟨RX1, "addNet", "(II)I"⟩
abbrev cX1_settle : ByteArray := prog_3_method_6_code
def yX1_settle : MethodName := ⟨RX1, "settle", "()V"⟩
abbrev cX1_seat : ByteArray := prog_3_method_7_code
def yX1_seat : MethodName := ⟨RX1, "seat", "(I)V"⟩
abbrev cX1_waste : ByteArray := prog_3_method_8_code
def yX1_waste : MethodName := ⟨RX1, "waste", "()I"⟩
abbrev cX1_blocksAbove : ByteArray := prog_3_method_9_code
def yX1_blocksAbove : MethodName := ⟨RX1, "blocksAbove", "()I"⟩
abbrev cX1_wireOf : ByteArray := prog_3_method_10_code
def yX1_wireOf : MethodName := ⟨RX1, "wireOf", "(I)I"⟩
abbrev cX1_wires : ByteArray := prog_3_method_11_code
def yX1_wires : MethodName := ⟨RX1, "wires", "()I"⟩
abbrev cX1_guessOf : ByteArray := prog_3_method_12_code
def yX1_guessOf : MethodName := ⟨RX1, "guessOf", "(I)I"⟩
abbrev cX1_wholeRoot : ByteArray := prog_3_method_13_code
def yX1_wholeRoot : MethodName := ⟨RX1, "wholeRoot", "(I)I"⟩
abbrev cX1_price : ByteArray := prog_3_method_14_code
def yX1_price : MethodName := ⟨RX1, "price", "()I"⟩
abbrev cX1_canDo : ByteArray := prog_3_method_15_code
def yX1_canDo : MethodName := ⟨RX1, "canDo", "(II)Z"⟩
abbrev cX1_doMove : ByteArray := prog_3_method_16_code
def yX1_doMove : MethodName := ⟨RX1, "doMove", "(III)V"⟩
abbrev cX1_undoMove : ByteArray := prog_3_method_17_code
def yX1_undoMove : MethodName := ⟨RX1, "undoMove", "(III)V"⟩
abbrev cX1_stepFrom : ByteArray := prog_3_method_18_code
def yX1_stepFrom : MethodName := ⟨RX1, "stepFrom", "(II)I"⟩
abbrev cX1_roomsOn : ByteArray := prog_3_method_19_code
def yX1_roomsOn : MethodName := ⟨RX1, "roomsOn", "(I)I"⟩
abbrev cX1_greatestLeastWide : ByteArray := prog_3_method_20_code
def yX1_greatestLeastWide : MethodName := ⟨RX1, "greatestLeastWide", "()I"⟩
abbrev cX1_greatestLeastHigh : ByteArray := prog_3_method_21_code
def yX1_greatestLeastHigh : MethodName := ⟨RX1, "greatestLeastHigh", "()I"⟩
abbrev cX1_growsOf : ByteArray := prog_3_method_22_code
def yX1_growsOf : MethodName := ⟨RX1, "growsOf", "(I)I"⟩
abbrev cX1_reachBehind : ByteArray := prog_3_method_23_code
def yX1_reachBehind : MethodName := ⟨RX1, "reachBehind", "(I)I"⟩
abbrev cX1_heatOf : ByteArray := prog_3_method_24_code
def yX1_heatOf : MethodName := ⟨RX1, "heatOf", "(I)I"⟩
abbrev cX1_hottestBlock : ByteArray := prog_3_method_25_code
def yX1_hottestBlock : MethodName := ⟨RX1, "hottestBlock", "()I"⟩
abbrev cX1_greatestHeat : ByteArray := prog_3_method_26_code
def yX1_greatestHeat : MethodName := ⟨RX1, "greatestHeat", "()I"⟩
def RX2 : String := "ChipFloor$Kept"
def TX2 : u_T := fun k => match k with
  | 0 => ("ChipFloor$Kept", "areas", "[I", true)
  | 1 => ("ChipFloor$Kept", "wires", "[I", true)
  | 2 => ("ChipFloor$Kept", "heats", "[I", true)
  | _ => ("ChipFloor$Kept", "count", "I", false)
def tyX2 : Nat → FieldType := fun k => match k with
  | 0 => .array .int
  | 1 => .array .int
  | 2 => .array .int
  | _ => .int
theorem nmX2 : ∀ a, a < 4 → ∀ b, b < 4 → a ≠ b → (TX2 a).2.1 ≠ (TX2 b).2.1 := by decide +kernel
theorem tyX2_ok : ∀ k, k < 4 → parseFieldDescriptor (TX2 k).2.2.1 = some (tyX2 k) := by decide +kernel
abbrev cX2_init : ByteArray := prog_4_method_1_code
def yX2_init : MethodName := ⟨RX2, "<init>", "()V"⟩
abbrev cX2_takeFrom : ByteArray := prog_4_method_2_code
def yX2_takeFrom : MethodName := ⟨RX2, "takeFrom", "(LChipFloor$Kept;)V"⟩
abbrev cX2_add : ByteArray := prog_4_method_3_code
def yX2_add : MethodName := ⟨RX2, "add", "(LChipFloor$Floor;)I"⟩
abbrev cX2_isBeaten : ByteArray := prog_4_method_4_code
def yX2_isBeaten : MethodName := ⟨RX2, "isBeaten", "(I)Z"⟩
abbrev cX2_beats : ByteArray := prog_4_method_5_code
def yX2_beats : MethodName := ⟨RX2, "beats", "(II)Z"⟩
def RX3 : String := "ChipFloor$Reader"
def TX3 : u_T := fun k => match k with
  | 0 => ("ChipFloor$Reader", "bytes", "[I", true)
  | 1 => ("ChipFloor$Reader", "length", "I", false)
  | 2 => ("ChipFloor$Reader", "draft", "LChipFloor$Wish;", true)
  | 3 => ("ChipFloor$Reader", "start", "I", false)
  | 4 => ("ChipFloor$Reader", "end", "I", false)
  | _ => ("ChipFloor$Reader", "token", "I", false)
def tyX3 : Nat → FieldType := fun k => match k with
  | 0 => .array .int
  | 1 => .int
  | 2 => .object "ChipFloor$Wish"
  | 3 => .int
  | 4 => .int
  | _ => .int
theorem nmX3 : ∀ a, a < 6 → ∀ b, b < 6 → a ≠ b → (TX3 a).2.1 ≠ (TX3 b).2.1 := by decide +kernel
theorem tyX3_ok : ∀ k, k < 6 → parseFieldDescriptor (TX3 k).2.2.1 = some (tyX3 k) := by decide +kernel
abbrev cX3_init : ByteArray := prog_5_method_1_code
def yX3_init : MethodName := ⟨RX3, "<init>", "()V"⟩
abbrev cX3_addFour : ByteArray := prog_5_method_2_code
def yX3_addFour : MethodName := ⟨RX3, "addFour", "(I)V"⟩
abbrev cX3_readText : ByteArray := prog_5_method_3_code
def yX3_readText : MethodName := ⟨RX3, "readText", "()Z"⟩
abbrev cX3_readHead : ByteArray := prog_5_method_4_code
def yX3_readHead : MethodName := ⟨RX3, "readHead", "()Z"⟩
abbrev cX3_readOr : ByteArray := prog_5_method_5_code
def yX3_readOr : MethodName := ⟨RX3, "readOr", "(II)Z"⟩
abbrev cX3_readAnd : ByteArray := prog_5_method_6_code
def yX3_readAnd : MethodName := ⟨RX3, "readAnd", "(II)Z"⟩
abbrev cX3_readTest : ByteArray := prog_5_method_7_code
def yX3_readTest : MethodName := ⟨RX3, "readTest", "(II)Z"⟩
abbrev cX3_readSum : ByteArray := prog_5_method_8_code
def yX3_readSum : MethodName := ⟨RX3, "readSum", "(II)Z"⟩
abbrev cX3_readTerm : ByteArray := prog_5_method_9_code
def yX3_readTerm : MethodName := ⟨RX3, "readTerm", "(II)Z"⟩
abbrev cX3_readPiece : ByteArray := prog_5_method_10_code
def yX3_readPiece : MethodName := ⟨RX3, "readPiece", "(II)Z"⟩
abbrev cX3_readNot : ByteArray := prog_5_method_11_code
def yX3_readNot : MethodName := ⟨RX3, "readNot", "(II)Z"⟩
abbrev cX3_readOpen : ByteArray := prog_5_method_12_code
def yX3_readOpen : MethodName := ⟨RX3, "readOpen", "(II)Z"⟩
abbrev cX3_readNumber : ByteArray := prog_5_method_13_code
def yX3_readNumber : MethodName := ⟨RX3, "readNumber", "()Z"⟩
abbrev cX3_readName : ByteArray := prog_5_method_14_code
def yX3_readName : MethodName := ⟨RX3, "readName", "()Z"⟩
abbrev cX3_advance : ByteArray := prog_5_method_15_code
def yX3_advance : MethodName := ⟨RX3, "advance", "()V"⟩
abbrev cX3_sortOf : ByteArray := prog_5_method_16_code
def yX3_sortOf : MethodName := ⟨RX3, "sortOf", "(I)I"⟩
abbrev cX3_isWord : ByteArray := prog_5_method_17_code
def yX3_isWord : MethodName := ⟨RX3, "isWord", "(Ljava/lang/String;)Z"⟩
def RX4 : String := "ChipFloor$Search"
def TX4 : u_T := fun k => match k with
  | 0 => ("ChipFloor$Search", "trial", "LChipFloor$Floor;", true)
  | 1 => ("ChipFloor$Search", "bestOne", "[I", true)
  | _ => ("ChipFloor$Search", "bestOther", "[I", true)
def tyX4 : Nat → FieldType := fun k => match k with
  | 0 => .object "ChipFloor$Floor"
  | 1 => .array .int
  | _ => .array .int
theorem nmX4 : ∀ a, a < 3 → ∀ b, b < 3 → a ≠ b → (TX4 a).2.1 ≠ (TX4 b).2.1 := by decide +kernel
theorem tyX4_ok : ∀ k, k < 3 → parseFieldDescriptor (TX4 k).2.2.1 = some (tyX4 k) := by decide +kernel
abbrev cX4_init : ByteArray := prog_6_method_1_code
def yX4_init : MethodName := ⟨RX4, "<init>", "()V"⟩
abbrev cX4_leastPrice : ByteArray := prog_6_method_2_code
def yX4_leastPrice : MethodName := ⟨RX4, "leastPrice", "(LChipFloor$Floor;)I"⟩
abbrev cX4_holdRows : ByteArray := prog_6_method_3_code
def yX4_holdRows : MethodName := ⟨RX4, "holdRows", "(I)V"⟩
abbrev cX4_firstOrder : ByteArray := prog_6_method_4_code
def yX4_firstOrder : MethodName := ⟨RX4, "firstOrder", "([II)V"⟩
abbrev cX4_nextOrder : ByteArray := prog_6_method_5_code
def yX4_nextOrder : MethodName := ⟨RX4, "nextOrder", "([II)V"⟩
def RX5 : String := "ChipFloor$Sheet"
def TX5 : u_T := fun k => match k with
  | 0 => ("ChipFloor$Sheet", "sort", "I", false)
  | 1 => ("ChipFloor$Sheet", "size", "I", false)
  | _ => ("ChipFloor$Sheet", "numbers", "[I", true)
def tyX5 : Nat → FieldType := fun k => match k with
  | 0 => .int
  | 1 => .int
  | _ => .array .int
theorem nmX5 : ∀ a, a < 3 → ∀ b, b < 3 → a ≠ b → (TX5 a).2.1 ≠ (TX5 b).2.1 := by decide +kernel
theorem tyX5_ok : ∀ k, k < 3 → parseFieldDescriptor (TX5 k).2.2.1 = some (tyX5 k) := by decide +kernel
abbrev cX5_init : ByteArray := prog_7_method_1_code
def yX5_init : MethodName := ⟨RX5, "<init>", "()V"⟩
abbrev cX5_become : ByteArray := prog_7_method_2_code
def yX5_become : MethodName := ⟨RX5, "become", "(II)V"⟩
abbrev cX5_takeFrom : ByteArray := prog_7_method_3_code
def yX5_takeFrom : MethodName := ⟨RX5, "takeFrom", "(LChipFloor$Sheet;)V"⟩
abbrev cX5_hasRun : ByteArray := prog_7_method_4_code
def yX5_hasRun : MethodName := ⟨RX5, "hasRun", "(II)Z"⟩
abbrev cX5_put : ByteArray := prog_7_method_5_code
def yX5_put : MethodName := ⟨RX5, "put", "(II)I"⟩
def RX6 : String := "ChipFloor$Slot"
def TX6 : u_T := fun k => match k with
  | 0 => ("ChipFloor$Slot", "holds", "I", false)
  | 1 => ("ChipFloor$Slot", "block", "LChipFloor$Block;", true)
  | 2 => ("ChipFloor$Slot", "sheet", "LChipFloor$Sheet;", true)
  | _ => ("ChipFloor$Slot", "number", "I", false)
def tyX6 : Nat → FieldType := fun k => match k with
  | 0 => .int
  | 1 => .object "ChipFloor$Block"
  | 2 => .object "ChipFloor$Sheet"
  | _ => .int
theorem nmX6 : ∀ a, a < 4 → ∀ b, b < 4 → a ≠ b → (TX6 a).2.1 ≠ (TX6 b).2.1 := by decide +kernel
theorem tyX6_ok : ∀ k, k < 4 → parseFieldDescriptor (TX6 k).2.2.1 = some (tyX6 k) := by decide +kernel
abbrev cX6_init : ByteArray := prog_8_method_1_code
def yX6_init : MethodName := ⟨RX6, "<init>", "()V"⟩
abbrev cX6_findingFor : ByteArray := prog_8_method_2_code
def yX6_findingFor : MethodName := ⟨RX6, "findingFor", "(I)I"⟩
def RX7 : String := "ChipFloor$State"
def TX7 : u_T := fun k => match k with
  | 0 => ("ChipFloor$State", "floor", "LChipFloor$Floor;", true)
  | 1 => ("ChipFloor$State", "wishes", "[LChipFloor$Wish;", true)
  | 2 => ("ChipFloor$State", "wishCount", "I", false)
  | _ => ("ChipFloor$State", "kept", "LChipFloor$Kept;", true)
def tyX7 : Nat → FieldType := fun k => match k with
  | 0 => .object "ChipFloor$Floor"
  | 1 => .array (.object "ChipFloor$Wish")
  | 2 => .int
  | _ => .object "ChipFloor$Kept"
theorem nmX7 : ∀ a, a < 4 → ∀ b, b < 4 → a ≠ b → (TX7 a).2.1 ≠ (TX7 b).2.1 := by decide +kernel
theorem tyX7_ok : ∀ k, k < 4 → parseFieldDescriptor (TX7 k).2.2.1 = some (tyX7 k) := by decide +kernel
abbrev cX7_init : ByteArray := prog_9_method_1_code
def yX7_init : MethodName := ⟨RX7, "<init>", "()V"⟩
abbrev cX7_addWish : ByteArray := prog_9_method_2_code
def yX7_addWish : MethodName := ⟨RX7, "addWish", "(LChipFloor$Wish;)I"⟩
abbrev cX7_takeFrom : ByteArray := prog_9_method_3_code
def yX7_takeFrom : MethodName := ⟨RX7, "takeFrom", "(LChipFloor$State;)V"⟩
def RX8 : String := "ChipFloor$Trail"
def TX8 : u_T := fun k => match k with
  | 0 => ("ChipFloor$Trail", "moves", "[I", true)
  | 1 => ("ChipFloor$Trail", "firsts", "[I", true)
  | 2 => ("ChipFloor$Trail", "seconds", "[I", true)
  | 3 => ("ChipFloor$Trail", "next", "I", false)
  | _ => ("ChipFloor$Trail", "size", "I", false)
def tyX8 : Nat → FieldType := fun k => match k with
  | 0 => .array .int
  | 1 => .array .int
  | 2 => .array .int
  | 3 => .int
  | _ => .int
theorem nmX8 : ∀ a, a < 5 → ∀ b, b < 5 → a ≠ b → (TX8 a).2.1 ≠ (TX8 b).2.1 := by decide +kernel
theorem tyX8_ok : ∀ k, k < 5 → parseFieldDescriptor (TX8 k).2.2.1 = some (tyX8 k) := by decide +kernel
abbrev cX8_init : ByteArray := prog_10_method_1_code
def yX8_init : MethodName := ⟨RX8, "<init>", "()V"⟩
abbrev cX8_forget : ByteArray := prog_10_method_2_code
def yX8_forget : MethodName := ⟨RX8, "forget", "()V"⟩
abbrev cX8_note : ByteArray := prog_10_method_3_code
def yX8_note : MethodName := ⟨RX8, "note", "(III)V"⟩
abbrev cX8_takeBack : ByteArray := prog_10_method_4_code
def yX8_takeBack : MethodName := ⟨RX8, "takeBack", "(LChipFloor$Floor;)V"⟩
def RX9 : String := "ChipFloor$Wish"
def TX9 : u_T := fun k => match k with
  | 0 => ("ChipFloor$Wish", "block", "I", false)
  | 1 => ("ChipFloor$Wish", "operands", "I", false)
  | 2 => ("ChipFloor$Wish", "size", "I", false)
  | _ => ("ChipFloor$Wish", "row", "[I", true)
def tyX9 : Nat → FieldType := fun k => match k with
  | 0 => .int
  | 1 => .int
  | 2 => .int
  | _ => .array .int
theorem nmX9 : ∀ a, a < 4 → ∀ b, b < 4 → a ≠ b → (TX9 a).2.1 ≠ (TX9 b).2.1 := by decide +kernel
theorem tyX9_ok : ∀ k, k < 4 → parseFieldDescriptor (TX9 k).2.2.1 = some (tyX9 k) := by decide +kernel
abbrev cX9_init : ByteArray := prog_11_method_1_code
def yX9_init : MethodName := ⟨RX9, "<init>", "()V"⟩
abbrev cX9_begin : ByteArray := prog_11_method_2_code
def yX9_begin : MethodName := ⟨RX9, "begin", "(I)V"⟩
abbrev cX9_takeFrom : ByteArray := prog_11_method_3_code
def yX9_takeFrom : MethodName := ⟨RX9, "takeFrom", "(LChipFloor$Wish;)V"⟩
abbrev cX9_addNumber : ByteArray := prog_11_method_4_code
def yX9_addNumber : MethodName := ⟨RX9, "addNumber", "(I)V"⟩
abbrev cX9_addName : ByteArray := prog_11_method_5_code
def yX9_addName : MethodName := ⟨RX9, "addName", "(I)V"⟩
abbrev cX9_addSign : ByteArray := prog_11_method_6_code
def yX9_addSign : MethodName := ⟨RX9, "addSign", "(I)V"⟩
abbrev cX9_add : ByteArray := prog_11_method_7_code
def yX9_add : MethodName := ⟨RX9, "add", "(I)V"⟩
abbrev cX9_isOfAll : ByteArray := prog_11_method_8_code
def yX9_isOfAll : MethodName := ⟨RX9, "isOfAll", "()Z"⟩
abbrev cX9_valueOn : ByteArray := prog_11_method_9_code
def yX9_valueOn : MethodName := ⟨RX9, "valueOn", "(LChipFloor$Floor;[I)I"⟩
abbrev cX9_push : ByteArray := prog_11_method_10_code
def yX9_push : MethodName := ⟨RX9, "push", "([III)I"⟩
abbrev cX9_negate : ByteArray := prog_11_method_11_code
def yX9_negate : MethodName := ⟨RX9, "negate", "([II)I"⟩
abbrev cX9_join : ByteArray := prog_11_method_12_code
def yX9_join : MethodName := ⟨RX9, "join", "([III)I"⟩
abbrev cX9_worked : ByteArray := prog_11_method_13_code
def yX9_worked : MethodName := ⟨RX9, "worked", "(III)I"⟩
abbrev cX9_truth : ByteArray := prog_11_method_14_code
def yX9_truth : MethodName := ⟨RX9, "truth", "(Z)I"⟩
abbrev cX9_nameOfAll : ByteArray := prog_11_method_15_code
def yX9_nameOfAll : MethodName := ⟨RX9, "nameOfAll", "(LChipFloor$Floor;I)I"⟩
abbrev cX9_nameOfBlock : ByteArray := prog_11_method_16_code
def yX9_nameOfBlock : MethodName := ⟨RX9, "nameOfBlock", "(LChipFloor$Floor;I)I"⟩
def RX10 : String := "ChipFloor"
def TX10 : u_T := fun k => match k with
  | 0 => ("ChipFloor", "now", "LChipFloor$State;", true)
  | 1 => ("ChipFloor", "image", "LChipFloor$State;", true)
  | 2 => ("ChipFloor", "imageKept", "Z", false)
  | 3 => ("ChipFloor", "search", "LChipFloor$Search;", true)
  | 4 => ("ChipFloor", "trail", "LChipFloor$Trail;", true)
  | 5 => ("ChipFloor", "reader", "LChipFloor$Reader;", true)
  | 6 => ("ChipFloor", "stack", "[I", true)
  | 7 => ("ChipFloor", "sheets", "[LChipFloor$Sheet;", true)
  | 8 => ("ChipFloor", "slots", "[LChipFloor$Slot;", true)
  | 9 => ("ChipFloor", "waiting", "[I", true)
  | _ => ("ChipFloor", "waits", "I", false)
def tyX10 : Nat → FieldType := fun k => match k with
  | 0 => .object "ChipFloor$State"
  | 1 => .object "ChipFloor$State"
  | 2 => .boolean
  | 3 => .object "ChipFloor$Search"
  | 4 => .object "ChipFloor$Trail"
  | 5 => .object "ChipFloor$Reader"
  | 6 => .array .int
  | 7 => .array (.object "ChipFloor$Sheet")
  | 8 => .array (.object "ChipFloor$Slot")
  | 9 => .array .int
  | _ => .int
theorem nmX10 : ∀ a, a < 11 → ∀ b, b < 11 → a ≠ b → (TX10 a).2.1 ≠ (TX10 b).2.1 := by decide +kernel
theorem tyX10_ok : ∀ k, k < 11 → parseFieldDescriptor (TX10 k).2.2.1 = some (tyX10 k) := by decide +kernel
abbrev cX10_init : ByteArray := prog_1_method_1_code
def yX10_init : MethodName := ⟨RX10, "<init>", "()V"⟩
abbrev cX10_block : ByteArray := prog_1_method_2_code
def yX10_block : MethodName := ⟨RX10, "block", "(III)I"⟩
abbrev cX10_told : ByteArray := prog_1_method_3_code
def yX10_told : MethodName := ⟨RX10, "told", "(II)I"⟩
abbrev cX10_as : ByteArray := prog_1_method_4_code
def yX10_as : MethodName := ⟨RX10, "as", "(II)I"⟩
abbrev cX10_power : ByteArray := prog_1_method_5_code
def yX10_power : MethodName := ⟨RX10, "power", "(II)I"⟩
abbrev cX10_rule : ByteArray := prog_1_method_6_code
def yX10_rule : MethodName := ⟨RX10, "rule", "(II)I"⟩
abbrev cX10_net : ByteArray := prog_1_method_7_code
def yX10_net : MethodName := ⟨RX10, "net", "(II)I"⟩
abbrev cX10_wire : ByteArray := prog_1_method_8_code
def yX10_wire : MethodName := ⟨RX10, "wire", "(II)I"⟩
abbrev cX10_at : ByteArray := prog_1_method_9_code
def yX10_at : MethodName := ⟨RX10, "at", "(II)I"⟩
abbrev cX10_whole : ByteArray := prog_1_method_10_code
def yX10_whole : MethodName := ⟨RX10, "whole", "(I)I"⟩
abbrev cX10_stands : ByteArray := prog_1_method_11_code
def yX10_stands : MethodName := ⟨RX10, "stands", "(II)I"⟩
abbrev cX10_move : ByteArray := prog_1_method_12_code
def yX10_move : MethodName := ⟨RX10, "move", "(III)I"⟩
abbrev cX10_undo : ByteArray := prog_1_method_13_code
def yX10_undo : MethodName := ⟨RX10, "undo", "()I"⟩
abbrev cX10_seed : ByteArray := prog_1_method_14_code
def yX10_seed : MethodName := ⟨RX10, "seed", "(I)I"⟩
abbrev cX10_walk : ByteArray := prog_1_method_15_code
def yX10_walk : MethodName := ⟨RX10, "walk", "(II)I"⟩
abbrev cX10_bound : ByteArray := prog_1_method_16_code
def yX10_bound : MethodName := ⟨RX10, "bound", "(I)I"⟩
abbrev cX10_best : ByteArray := prog_1_method_17_code
def yX10_best : MethodName := ⟨RX10, "best", "(II)I"⟩
abbrev cX10_touch : ByteArray := prog_1_method_18_code
def yX10_touch : MethodName := ⟨RX10, "touch", "(II)I"⟩
abbrev cX10_hottest : ByteArray := prog_1_method_19_code
def yX10_hottest : MethodName := ⟨RX10, "hottest", "()I"⟩
abbrev cX10_feed : ByteArray := prog_1_method_20_code
def yX10_feed : MethodName := ⟨RX10, "feed", "(III)I"⟩
abbrev cX10_trim : ByteArray := prog_1_method_21_code
def yX10_trim : MethodName := ⟨RX10, "trim", "(I)I"⟩
abbrev cX10_wish : ByteArray := prog_1_method_22_code
def yX10_wish : MethodName := ⟨RX10, "wish", "()I"⟩
abbrev cX10_of : ByteArray := prog_1_method_23_code
def yX10_of : MethodName := ⟨RX10, "of", "(II)I"⟩
abbrev cX10_missed : ByteArray := prog_1_method_24_code
def yX10_missed : MethodName := ⟨RX10, "missed", "()I"⟩
abbrev cX10_stow : ByteArray := prog_1_method_25_code
def yX10_stow : MethodName := ⟨RX10, "stow", "()I"⟩
abbrev cX10_stowed : ByteArray := prog_1_method_26_code
def yX10_stowed : MethodName := ⟨RX10, "stowed", "(II)I"⟩
abbrev cX10_front : ByteArray := prog_1_method_27_code
def yX10_front : MethodName := ⟨RX10, "front", "()I"⟩
abbrev cX10_sheet : ByteArray := prog_1_method_28_code
def yX10_sheet : MethodName := ⟨RX10, "sheet", "(III)I"⟩
abbrev cX10_mark : ByteArray := prog_1_method_29_code
def yX10_mark : MethodName := ⟨RX10, "mark", "(III)I"⟩
abbrev cX10_powers : ByteArray := prog_1_method_30_code
def yX10_powers : MethodName := ⟨RX10, "powers", "(II)I"⟩
abbrev cX10_copy : ByteArray := prog_1_method_31_code
def yX10_copy : MethodName := ⟨RX10, "copy", "(IIIII)I"⟩
abbrev cX10_lay : ByteArray := prog_1_method_32_code
def yX10_lay : MethodName := ⟨RX10, "lay", "(III)I"⟩
abbrev cX10_ask : ByteArray := prog_1_method_33_code
def yX10_ask : MethodName := ⟨RX10, "ask", "(II)I"⟩
abbrev cX10_item : ByteArray := prog_1_method_34_code
def yX10_item : MethodName := ⟨RX10, "item", "(II)I"⟩
abbrev cX10_rest : ByteArray := prog_1_method_35_code
def yX10_rest : MethodName := ⟨RX10, "rest", "(II)I"⟩
abbrev cX10_tell : ByteArray := prog_1_method_36_code
def yX10_tell : MethodName := ⟨RX10, "tell", "(I)I"⟩
abbrev cX10_check : ByteArray := prog_1_method_37_code
def yX10_check : MethodName := ⟨RX10, "check", "(I)I"⟩
abbrev cX10_keep : ByteArray := prog_1_method_38_code
def yX10_keep : MethodName := ⟨RX10, "keep", "()I"⟩
abbrev cX10_back : ByteArray := prog_1_method_39_code
def yX10_back : MethodName := ⟨RX10, "back", "()I"⟩
abbrev cX10_count : ByteArray := prog_1_method_40_code
def yX10_count : MethodName := ⟨RX10, "count", "(I)I"⟩
abbrev cX10_metWishes : ByteArray := prog_1_method_41_code
def yX10_metWishes : MethodName := ⟨RX10, "metWishes", "()I"⟩
abbrev cX10_takePowers : ByteArray := prog_1_method_42_code
def yX10_takePowers : MethodName := ⟨RX10, "takePowers", "(LChipFloor$Sheet;I)I"⟩
abbrev cX10_swap : ByteArray := prog_1_method_43_code
def yX10_swap : MethodName := ⟨RX10, "swap", "([III)V"⟩
abbrev cX10_within : ByteArray := prog_1_method_44_code
def yX10_within : MethodName := ⟨RX10, "within", "(III)Z"⟩
abbrev cX10_isKind : ByteArray := prog_1_method_45_code
def yX10_isKind : MethodName := ⟨RX10, "isKind", "(I)Z"⟩
abbrev cX10_isPower : ByteArray := prog_1_method_46_code
def yX10_isPower : MethodName := ⟨RX10, "isPower", "(I)Z"⟩
abbrev cX10_isSheet : ByteArray := prog_1_method_47_code
def yX10_isSheet : MethodName := ⟨RX10, "isSheet", "(I)Z"⟩
abbrev cX10_isSlot : ByteArray := prog_1_method_48_code
def yX10_isSlot : MethodName := ⟨RX10, "isSlot", "(I)Z"⟩
def RX11 : String := "ChipFloorModel"
def TX11 : u_T := fun k => match k with
  | 0 => ("ChipFloorModel", "s", "[I", true)
  | 1 => ("ChipFloorModel", "image", "[I", true)
  | 2 => ("ChipFloorModel", "aside", "[I", true)
  | 3 => ("ChipFloorModel", "hasImage", "Z", false)
  | 4 => ("ChipFloorModel", "moves", "[I", true)
  | 5 => ("ChipFloorModel", "undoable", "I", false)
  | 6 => ("ChipFloorModel", "tSort", "[I", true)
  | 7 => ("ChipFloorModel", "tSize", "[I", true)
  | 8 => ("ChipFloorModel", "tNumber", "[I", true)
  | 9 => ("ChipFloorModel", "held", "[I", true)
  | 10 => ("ChipFloorModel", "heldNumber", "[I", true)
  | 11 => ("ChipFloorModel", "heldSize", "[I", true)
  | 12 => ("ChipFloorModel", "heldRow", "[I", true)
  | 13 => ("ChipFloorModel", "mostOf", "[I", true)
  | 14 => ("ChipFloorModel", "inOne", "[I", true)
  | 15 => ("ChipFloorModel", "x", "[I", true)
  | 16 => ("ChipFloorModel", "y", "[I", true)
  | 17 => ("ChipFloorModel", "wide", "I", false)
  | 18 => ("ChipFloorModel", "high", "I", false)
  | 19 => ("ChipFloorModel", "aheadRows", "[I", true)
  | 20 => ("ChipFloorModel", "bestOne", "I", false)
  | 21 => ("ChipFloorModel", "bestOther", "I", false)
  | 22 => ("ChipFloorModel", "tape", "[I", true)
  | 23 => ("ChipFloorModel", "taped", "I", false)
  | 24 => ("ChipFloorModel", "begin", "I", false)
  | 25 => ("ChipFloorModel", "behind", "I", false)
  | 26 => ("ChipFloorModel", "token", "I", false)
  | 27 => ("ChipFloorModel", "number", "I", false)
  | 28 => ("ChipFloorModel", "letter", "I", false)
  | 29 => ("ChipFloorModel", "deep", "I", false)
  | 30 => ("ChipFloorModel", "turned", "I", false)
  | 31 => ("ChipFloorModel", "laid", "I", false)
  | 32 => ("ChipFloorModel", "laidAt", "I", false)
  | 33 => ("ChipFloorModel", "said", "I", false)
  | 34 => ("ChipFloorModel", "named", "[I", true)
  | 35 => ("ChipFloorModel", "pile", "[I", true)
  | 36 => ("ChipFloorModel", "carried", "[I", true)
  | 37 => ("ChipFloorModel", "waits", "[I", true)
  | 38 => ("ChipFloorModel", "waiting", "I", false)
  | _ => ("ChipFloorModel", "row", "[I", true)
def tyX11 : Nat → FieldType := fun k => match k with
  | 0 => .array .int
  | 1 => .array .int
  | 2 => .array .int
  | 3 => .boolean
  | 4 => .array .int
  | 5 => .int
  | 6 => .array .int
  | 7 => .array .int
  | 8 => .array .int
  | 9 => .array .int
  | 10 => .array .int
  | 11 => .array .int
  | 12 => .array .int
  | 13 => .array .int
  | 14 => .array .int
  | 15 => .array .int
  | 16 => .array .int
  | 17 => .int
  | 18 => .int
  | 19 => .array .int
  | 20 => .int
  | 21 => .int
  | 22 => .array .int
  | 23 => .int
  | 24 => .int
  | 25 => .int
  | 26 => .int
  | 27 => .int
  | 28 => .int
  | 29 => .int
  | 30 => .int
  | 31 => .int
  | 32 => .int
  | 33 => .int
  | 34 => .array .int
  | 35 => .array .int
  | 36 => .array .int
  | 37 => .array .int
  | 38 => .int
  | _ => .array .int
theorem nmX11 : ∀ a, a < 40 → ∀ b, b < 40 → a ≠ b → (TX11 a).2.1 ≠ (TX11 b).2.1 := by decide +kernel
theorem tyX11_ok : ∀ k, k < 40 → parseFieldDescriptor (TX11 k).2.2.1 = some (tyX11 k) := by decide +kernel
abbrev cX11_init : ByteArray := prog_13_method_1_code
def yX11_init : MethodName := ⟨RX11, "<init>", "()V"⟩
abbrev cX11_isIn : ByteArray := prog_13_method_2_code
def yX11_isIn : MethodName := ⟨RX11, "isIn", "(JJJ)Z"⟩
abbrev cX11_orNone : ByteArray := prog_13_method_3_code
def yX11_orNone : MethodName := ⟨RX11, "orNone", "(I)I"⟩
abbrev cX11_least : ByteArray := prog_13_method_4_code
def yX11_least : MethodName := ⟨RX11, "least", "(II)I"⟩
abbrev cX11_most : ByteArray := prog_13_method_5_code
def yX11_most : MethodName := ⟨RX11, "most", "(II)I"⟩
abbrev cX11_becomes : ByteArray := prog_13_method_6_code
def yX11_becomes : MethodName := ⟨RX11, "becomes", "(II)I"⟩
abbrev cX11_blockAt : ByteArray := prog_13_method_7_code
def yX11_blockAt : MethodName := ⟨RX11, "blockAt", "(I)I"⟩
abbrev cX11_textAt : ByteArray := prog_13_method_8_code
def yX11_textAt : MethodName := ⟨RX11, "textAt", "(I)I"⟩
abbrev cX11_isBlock : ByteArray := prog_13_method_9_code
def yX11_isBlock : MethodName := ⟨RX11, "isBlock", "(I)Z"⟩
abbrev cX11_isText : ByteArray := prog_13_method_10_code
def yX11_isText : MethodName := ⟨RX11, "isText", "(I)Z"⟩
abbrev cX11_shapesOf : ByteArray := prog_13_method_11_code
def yX11_shapesOf : MethodName := ⟨RX11, "shapesOf", "(II)I"⟩
abbrev cX11_isSoft : ByteArray := prog_13_method_12_code
def yX11_isSoft : MethodName := ⟨RX11, "isSoft", "(I)Z"⟩
abbrev cX11_widthOf : ByteArray := prog_13_method_13_code
def yX11_widthOf : MethodName := ⟨RX11, "widthOf", "(IIII)I"⟩
abbrev cX11_heightOf : ByteArray := prog_13_method_14_code
def yX11_heightOf : MethodName := ⟨RX11, "heightOf", "(IIII)I"⟩
abbrev cX11_roomOf : ByteArray := prog_13_method_15_code
def yX11_roomOf : MethodName := ⟨RX11, "roomOf", "(IIII)I"⟩
abbrev cX11_worthOf : ByteArray := prog_13_method_16_code
def yX11_worthOf : MethodName := ⟨RX11, "worthOf", "(IIIII)I"⟩
abbrev cX11_width : ByteArray := prog_13_method_17_code
def yX11_width : MethodName := ⟨RX11, "width", "(I)I"⟩
abbrev cX11_height : ByteArray := prog_13_method_18_code
def yX11_height : MethodName := ⟨RX11, "height", "(I)I"⟩
abbrev cX11_room : ByteArray := prog_13_method_19_code
def yX11_room : MethodName := ⟨RX11, "room", "(I)I"⟩
abbrev cX11_isAlike : ByteArray := prog_13_method_20_code
def yX11_isAlike : MethodName := ⟨RX11, "isAlike", "(II)Z"⟩
abbrev cX11_findPlaces : ByteArray := prog_13_method_21_code
def yX11_findPlaces : MethodName := ⟨RX11, "findPlaces", "()V"⟩
abbrev cX11_onLayer : ByteArray := prog_13_method_22_code
def yX11_onLayer : MethodName := ⟨RX11, "onLayer", "(I)I"⟩
abbrev cX11_waste : ByteArray := prog_13_method_23_code
def yX11_waste : MethodName := ⟨RX11, "waste", "()I"⟩
abbrev cX11_wireOf : ByteArray := prog_13_method_24_code
def yX11_wireOf : MethodName := ⟨RX11, "wireOf", "(I)I"⟩
abbrev cX11_wires : ByteArray := prog_13_method_25_code
def yX11_wires : MethodName := ⟨RX11, "wires", "()I"⟩
abbrev cX11_priceNow : ByteArray := prog_13_method_26_code
def yX11_priceNow : MethodName := ⟨RX11, "priceNow", "()I"⟩
abbrev cX11_behind : ByteArray := prog_13_method_27_code
def yX11_behind : MethodName := ⟨RX11, "behind", "(I)I"⟩
abbrev cX11_growsOf : ByteArray := prog_13_method_28_code
def yX11_growsOf : MethodName := ⟨RX11, "growsOf", "(I)I"⟩
abbrev cX11_over : ByteArray := prog_13_method_29_code
def yX11_over : MethodName := ⟨RX11, "over", "(IIII)I"⟩
abbrev cX11_doTouch : ByteArray := prog_13_method_30_code
def yX11_doTouch : MethodName := ⟨RX11, "doTouch", "(II)Z"⟩
abbrev cX11_heatOf : ByteArray := prog_13_method_31_code
def yX11_heatOf : MethodName := ⟨RX11, "heatOf", "(I)I"⟩
abbrev cX11_hottestNow : ByteArray := prog_13_method_32_code
def yX11_hottestNow : MethodName := ⟨RX11, "hottestNow", "()I"⟩
abbrev cX11_block : ByteArray := prog_13_method_33_code
def yX11_block : MethodName := ⟨RX11, "block", "(III)I"⟩
abbrev cX11_told : ByteArray := prog_13_method_34_code
def yX11_told : MethodName := ⟨RX11, "told", "(II)I"⟩
abbrev cX11_isOf : ByteArray := prog_13_method_35_code
def yX11_isOf : MethodName := ⟨RX11, "isOf", "(II)Z"⟩
abbrev cX11_as : ByteArray := prog_13_method_36_code
def yX11_as : MethodName := ⟨RX11, "as", "(II)I"⟩
abbrev cX11_power : ByteArray := prog_13_method_37_code
def yX11_power : MethodName := ⟨RX11, "power", "(II)I"⟩
abbrev cX11_rule : ByteArray := prog_13_method_38_code
def yX11_rule : MethodName := ⟨RX11, "rule", "(II)I"⟩
abbrev cX11_ones : ByteArray := prog_13_method_39_code
def yX11_ones : MethodName := ⟨RX11, "ones", "(I)I"⟩
abbrev cX11_net : ByteArray := prog_13_method_40_code
def yX11_net : MethodName := ⟨RX11, "net", "(II)I"⟩
abbrev cX11_guessOf : ByteArray := prog_13_method_41_code
def yX11_guessOf : MethodName := ⟨RX11, "guessOf", "(I)I"⟩
abbrev cX11_wire : ByteArray := prog_13_method_42_code
def yX11_wire : MethodName := ⟨RX11, "wire", "(II)I"⟩
abbrev cX11_at : ByteArray := prog_13_method_43_code
def yX11_at : MethodName := ⟨RX11, "at", "(II)I"⟩
abbrev cX11_whole : ByteArray := prog_13_method_44_code
def yX11_whole : MethodName := ⟨RX11, "whole", "(I)I"⟩
abbrev cX11_placeIn : ByteArray := prog_13_method_45_code
def yX11_placeIn : MethodName := ⟨RX11, "placeIn", "(II)I"⟩
abbrev cX11_stands : ByteArray := prog_13_method_46_code
def yX11_stands : MethodName := ⟨RX11, "stands", "(II)I"⟩
abbrev cX11_swap : ByteArray := prog_13_method_47_code
def yX11_swap : MethodName := ⟨RX11, "swap", "(III)V"⟩
abbrev cX11_doMove : ByteArray := prog_13_method_48_code
def yX11_doMove : MethodName := ⟨RX11, "doMove", "(III)V"⟩
abbrev cX11_undoMove : ByteArray := prog_13_method_49_code
def yX11_undoMove : MethodName := ⟨RX11, "undoMove", "(III)V"⟩
abbrev cX11_isStuck : ByteArray := prog_13_method_50_code
def yX11_isStuck : MethodName := ⟨RX11, "isStuck", "(II)Z"⟩
abbrev cX11_move : ByteArray := prog_13_method_51_code
def yX11_move : MethodName := ⟨RX11, "move", "(III)I"⟩
abbrev cX11_undo : ByteArray := prog_13_method_52_code
def yX11_undo : MethodName := ⟨RX11, "undo", "()I"⟩
abbrev cX11_seed : ByteArray := prog_13_method_53_code
def yX11_seed : MethodName := ⟨RX11, "seed", "(I)I"⟩
abbrev cX11_oneStep : ByteArray := prog_13_method_54_code
def yX11_oneStep : MethodName := ⟨RX11, "oneStep", "(I)V"⟩
abbrev cX11_walk : ByteArray := prog_13_method_55_code
def yX11_walk : MethodName := ⟨RX11, "walk", "(II)I"⟩
abbrev cX11_roomOn : ByteArray := prog_13_method_56_code
def yX11_roomOn : MethodName := ⟨RX11, "roomOn", "(I)I"⟩
abbrev cX11_leastOf : ByteArray := prog_13_method_57_code
def yX11_leastOf : MethodName := ⟨RX11, "leastOf", "(Z)I"⟩
abbrev cX11_timesItself : ByteArray := prog_13_method_58_code
def yX11_timesItself : MethodName := ⟨RX11, "timesItself", "(II)I"⟩
abbrev cX11_tellRow : ByteArray := prog_13_method_59_code
def yX11_tellRow : MethodName := ⟨RX11, "tellRow", "(II)Z"⟩
abbrev cX11_leastPrice : ByteArray := prog_13_method_60_code
def yX11_leastPrice : MethodName := ⟨RX11, "leastPrice", "()I"⟩
abbrev cX11_bound : ByteArray := prog_13_method_61_code
def yX11_bound : MethodName := ⟨RX11, "bound", "(I)I"⟩
abbrev cX11_best : ByteArray := prog_13_method_62_code
def yX11_best : MethodName := ⟨RX11, "best", "(II)I"⟩
abbrev cX11_touch : ByteArray := prog_13_method_63_code
def yX11_touch : MethodName := ⟨RX11, "touch", "(II)I"⟩
abbrev cX11_hottest : ByteArray := prog_13_method_64_code
def yX11_hottest : MethodName := ⟨RX11, "hottest", "()I"⟩
abbrev cX11_feed : ByteArray := prog_13_method_65_code
def yX11_feed : MethodName := ⟨RX11, "feed", "(III)I"⟩
abbrev cX11_trim : ByteArray := prog_13_method_66_code
def yX11_trim : MethodName := ⟨RX11, "trim", "(I)I"⟩
abbrev cX11_isLetter : ByteArray := prog_13_method_67_code
def yX11_isLetter : MethodName := ⟨RX11, "isLetter", "(I)Z"⟩
abbrev cX11_isDigit : ByteArray := prog_13_method_68_code
def yX11_isDigit : MethodName := ⟨RX11, "isDigit", "(I)Z"⟩
abbrev cX11_next : ByteArray := prog_13_method_69_code
def yX11_next : MethodName := ⟨RX11, "next", "()V"⟩
abbrev cX11_isSign : ByteArray := prog_13_method_70_code
def yX11_isSign : MethodName := ⟨RX11, "isSign", "(I)Z"⟩
abbrev cX11_isWordAt : ByteArray := prog_13_method_71_code
def yX11_isWordAt : MethodName := ⟨RX11, "isWordAt", "(IIII)Z"⟩
abbrev cX11_isLong : ByteArray := prog_13_method_72_code
def yX11_isLong : MethodName := ⟨RX11, "isLong", "(IIIIII)Z"⟩
abbrev cX11_key : ByteArray := prog_13_method_73_code
def yX11_key : MethodName := ⟨RX11, "key", "()I"⟩
abbrev cX11_isName : ByteArray := prog_13_method_74_code
def yX11_isName : MethodName := ⟨RX11, "isName", "(II)Z"⟩
abbrev cX11_step : ByteArray := prog_13_method_75_code
def yX11_step : MethodName := ⟨RX11, "step", "(II)V"⟩
abbrev cX11_either : ByteArray := prog_13_method_76_code
def yX11_either : MethodName := ⟨RX11, "either", "(I)Z"⟩
abbrev cX11_both : ByteArray := prog_13_method_77_code
def yX11_both : MethodName := ⟨RX11, "both", "(I)Z"⟩
abbrev cX11_test : ByteArray := prog_13_method_78_code
def yX11_test : MethodName := ⟨RX11, "test", "(I)Z"⟩
abbrev cX11_sum : ByteArray := prog_13_method_79_code
def yX11_sum : MethodName := ⟨RX11, "sum", "(I)Z"⟩
abbrev cX11_term : ByteArray := prog_13_method_80_code
def yX11_term : MethodName := ⟨RX11, "term", "(I)Z"⟩
abbrev cX11_part0 : ByteArray := prog_13_method_81_code
def yX11_part0 : MethodName := ⟨RX11, "part0", "(I)Z"⟩
abbrev cX11_parse : ByteArray := prog_13_method_82_code
def yX11_parse : MethodName := ⟨RX11, "parse", "()I"⟩
abbrev cX11_wish : ByteArray := prog_13_method_83_code
def yX11_wish : MethodName := ⟨RX11, "wish", "()I"⟩
abbrev cX11_joined : ByteArray := prog_13_method_84_code
def yX11_joined : MethodName := ⟨RX11, "joined", "(III)I"⟩
abbrev cX11_worked : ByteArray := prog_13_method_85_code
def yX11_worked : MethodName := ⟨RX11, "worked", "(I)I"⟩
abbrev cX11_givenBy : ByteArray := prog_13_method_86_code
def yX11_givenBy : MethodName := ⟨RX11, "givenBy", "(I)I"⟩
abbrev cX11_of : ByteArray := prog_13_method_87_code
def yX11_of : MethodName := ⟨RX11, "of", "(II)I"⟩
abbrev cX11_missed : ByteArray := prog_13_method_88_code
def yX11_missed : MethodName := ⟨RX11, "missed", "()I"⟩
abbrev cX11_stow : ByteArray := prog_13_method_89_code
def yX11_stow : MethodName := ⟨RX11, "stow", "()I"⟩
abbrev cX11_isBeaten : ByteArray := prog_13_method_90_code
def yX11_isBeaten : MethodName := ⟨RX11, "isBeaten", "(I)Z"⟩
abbrev cX11_stowed : ByteArray := prog_13_method_91_code
def yX11_stowed : MethodName := ⟨RX11, "stowed", "(II)I"⟩
abbrev cX11_front : ByteArray := prog_13_method_92_code
def yX11_front : MethodName := ⟨RX11, "front", "()I"⟩
abbrev cX11_isSheet : ByteArray := prog_13_method_93_code
def yX11_isSheet : MethodName := ⟨RX11, "isSheet", "(I)Z"⟩
abbrev cX11_sheet : ByteArray := prog_13_method_94_code
def yX11_sheet : MethodName := ⟨RX11, "sheet", "(III)I"⟩
abbrev cX11_mark : ByteArray := prog_13_method_95_code
def yX11_mark : MethodName := ⟨RX11, "mark", "(III)I"⟩
abbrev cX11_powers : ByteArray := prog_13_method_96_code
def yX11_powers : MethodName := ⟨RX11, "powers", "(II)I"⟩
abbrev cX11_copy : ByteArray := prog_13_method_97_code
def yX11_copy : MethodName := ⟨RX11, "copy", "(IIIII)I"⟩
abbrev cX11_isSlot : ByteArray := prog_13_method_98_code
def yX11_isSlot : MethodName := ⟨RX11, "isSlot", "(I)Z"⟩
abbrev cX11_lay : ByteArray := prog_13_method_99_code
def yX11_lay : MethodName := ⟨RX11, "lay", "(III)I"⟩
abbrev cX11_ask : ByteArray := prog_13_method_100_code
def yX11_ask : MethodName := ⟨RX11, "ask", "(II)I"⟩
abbrev cX11_item : ByteArray := prog_13_method_101_code
def yX11_item : MethodName := ⟨RX11, "item", "(II)I"⟩
abbrev cX11_rest : ByteArray := prog_13_method_102_code
def yX11_rest : MethodName := ⟨RX11, "rest", "(II)I"⟩
abbrev cX11_tell : ByteArray := prog_13_method_103_code
def yX11_tell : MethodName := ⟨RX11, "tell", "(I)I"⟩
abbrev cX11_setAside : ByteArray := prog_13_method_104_code
def yX11_setAside : MethodName := ⟨RX11, "setAside", "([I[I)V"⟩
abbrev cX11_check : ByteArray := prog_13_method_105_code
def yX11_check : MethodName := ⟨RX11, "check", "(I)I"⟩
abbrev cX11_keep : ByteArray := prog_13_method_106_code
def yX11_keep : MethodName := ⟨RX11, "keep", "()I"⟩
abbrev cX11_back : ByteArray := prog_13_method_107_code
def yX11_back : MethodName := ⟨RX11, "back", "()I"⟩
abbrev cX11_count : ByteArray := prog_13_method_108_code
def yX11_count : MethodName := ⟨RX11, "count", "(I)I"⟩
def RJ11 : String := "java/lang/Character"
abbrev cJ11_isValidCodePoint_9a6ad : ByteArray := prog_14_method_11_code
def yJ11_isValidCodePoint_9a6ad : MethodName := ⟨RJ11, "isValidCodePoint", "(I)Z"⟩
abbrev cJ11_highSurrogate_5068e : ByteArray := prog_14_method_28_code
def yJ11_highSurrogate_5068e : MethodName := ⟨RJ11, "highSurrogate", "(I)C"⟩
abbrev cJ11_lowSurrogate_5068e : ByteArray := prog_14_method_29_code
def yJ11_lowSurrogate_5068e : MethodName := ⟨RJ11, "lowSurrogate", "(I)C"⟩
def RJ6 : String := "java/lang/Integer"
abbrev cJ6_bitCount_0f7a4 : ByteArray := prog_15_method_49_code
def yJ6_bitCount_0f7a4 : MethodName := ⟨RJ6, "bitCount", "(I)I"⟩
def RJ9 : String := "java/lang/Math"
abbrev cJ9_max_7cf53 : ByteArray := prog_16_method_65_code
def yJ9_max_7cf53 : MethodName := ⟨RJ9, "max", "(II)I"⟩
abbrev cJ9_min_7cf53 : ByteArray := prog_16_method_69_code
def yJ9_min_7cf53 : MethodName := ⟨RJ9, "min", "(II)I"⟩
def RJ0 : String := "java/lang/String"
abbrev cJ0_length_8abf5 : ByteArray := prog_17_method_54_code
def yJ0_length_8abf5 : MethodName := ⟨RJ0, "length", "()I"⟩
abbrev cJ0_charAt_5068e : ByteArray := prog_17_method_56_code
def yJ0_charAt_5068e : MethodName := ⟨RJ0, "charAt", "(I)C"⟩
abbrev cJ0_indexOf_0f7a4 : ByteArray := prog_17_method_79_code
def yJ0_indexOf_0f7a4 : MethodName := ⟨RJ0, "indexOf", "(I)I"⟩
abbrev cJ0_indexOf_7cf53 : ByteArray := prog_17_method_80_code
def yJ0_indexOf_7cf53 : MethodName := ⟨RJ0, "indexOf", "(II)I"⟩
abbrev cJ0_coder_7d493 : ByteArray := prog_17_method_152_code
def yJ0_coder_7d493 : MethodName := ⟨RJ0, "coder", "()B"⟩
abbrev cJ0_isLatin1_aae02 : ByteArray := prog_17_method_154_code
def yJ0_isLatin1_aae02 : MethodName := ⟨RJ0, "isLatin1", "()Z"⟩
abbrev cJ0_checkIndex_df160 : ByteArray := prog_17_method_155_code
def yJ0_checkIndex_df160 : MethodName := ⟨RJ0, "checkIndex", "(II)V"⟩
abbrev cJ0_checkBoundsBeginEnd_23922 : ByteArray := prog_17_method_158_code
def yJ0_checkBoundsBeginEnd_23922 : MethodName := ⟨RJ0, "checkBoundsBeginEnd", "(III)V"⟩
def RJ1 : String := "java/lang/StringLatin1"
abbrev cJ1_charAt_3b067 : ByteArray := prog_18_method_2_code
def yJ1_charAt_3b067 : MethodName := ⟨RJ1, "charAt", "([BI)C"⟩
abbrev cJ1_canEncode_9a6ad : ByteArray := prog_18_method_4_code
def yJ1_canEncode_9a6ad : MethodName := ⟨RJ1, "canEncode", "(I)Z"⟩
abbrev cJ1_indexOf_4cfef : ByteArray := prog_18_method_22_code
def yJ1_indexOf_4cfef : MethodName := ⟨RJ1, "indexOf", "([BIII)I"⟩
abbrev cJ1_indexOfChar_4cfef : ByteArray := prog_18_method_23_code
def yJ1_indexOfChar_4cfef : MethodName := ⟨RJ1, "indexOfChar", "([BIII)I"⟩
def RJ2 : String := "java/lang/StringUTF16"
abbrev cJ2_getChar_3b067 : ByteArray := prog_19_method_5_code
def yJ2_getChar_3b067 : MethodName := ⟨RJ2, "getChar", "([BI)C"⟩
abbrev cJ2_length_9d52b : ByteArray := prog_19_method_6_code
def yJ2_length_9d52b : MethodName := ⟨RJ2, "length", "([B)I"⟩
abbrev cJ2_indexOf_4cfef : ByteArray := prog_19_method_40_code
def yJ2_indexOf_4cfef : MethodName := ⟨RJ2, "indexOf", "([BIII)I"⟩
abbrev cJ2_indexOfChar_4cfef : ByteArray := prog_19_method_47_code
def yJ2_indexOfChar_4cfef : MethodName := ⟨RJ2, "indexOfChar", "([BIII)I"⟩
abbrev cJ2_indexOfCharUnsafe_4cfef : ByteArray := prog_19_method_48_code
def yJ2_indexOfCharUnsafe_4cfef : MethodName := ⟨RJ2, "indexOfCharUnsafe", "([BIII)I"⟩
abbrev cJ2_indexOfSupplementary_4cfef : ByteArray := prog_19_method_49_code
def yJ2_indexOfSupplementary_4cfef : MethodName := ⟨RJ2, "indexOfSupplementary", "([BIII)I"⟩
abbrev cJ2_charAt_3b067 : ByteArray := prog_19_method_83_code
def yJ2_charAt_3b067 : MethodName := ⟨RJ2, "charAt", "([BI)C"⟩
abbrev cJ2_checkIndex_2214a : ByteArray := prog_19_method_91_code
def yJ2_checkIndex_2214a : MethodName := ⟨RJ2, "checkIndex", "(I[B)V"⟩
abbrev cJ2_checkBoundsBeginEnd_d044e : ByteArray := prog_19_method_93_code
def yJ2_checkBoundsBeginEnd_d044e : MethodName := ⟨RJ2, "checkBoundsBeginEnd", "(II[B)V"⟩
def RJ10 : String := "java/lang/System"
def RJ3 : String := "jdk/internal/util/Preconditions"
abbrev cJ3_checkIndex_8e157 : ByteArray := prog_21_method_11_code
def yJ3_checkIndex_8e157 : MethodName := ⟨RJ3, "checkIndex", "(IILjava/util/function/BiFunction;)I"⟩
abbrev cJ3_checkFromToIndex_8c36e : ByteArray := prog_21_method_12_code
def yJ3_checkFromToIndex_8c36e : MethodName := ⟨RJ3, "checkFromToIndex", "(IIILjava/util/function/BiFunction;)I"⟩
def RL : String := "ChipFloorLaw"
def cR (i : Nat) : String := [RX0, RX1, RX2, RX3, RX4, RX5, RX6, RX7, RX8, RX9, RX10, RX11, RL, RJ0, RJ1, RJ3, RJ6].getD i RX0
def cT (i : Nat) : u_T := [TX0, TX1, TX2, TX3, TX4, TX5, TX6, TX7, TX8, TX9, TX10, TX11].getD i TX0
def cTy (i : Nat) : Nat → FieldType := [tyX0, tyX1, tyX2, tyX3, tyX4, tyX5, tyX6, tyX7, tyX8, tyX9, tyX10, tyX11].getD i tyX0
def cN (i : Nat) : Nat := [10, 14, 4, 6, 3, 3, 4, 4, 5, 4, 11, 40].getD i 0
def cl12 : List vw_C := [(RX0, TX0, 10), (RX1, TX1, 14), (RX2, TX2, 4), (RX3, TX3, 6), (RX4, TX4, 3), (RX5, TX5, 3), (RX6, TX6, 4), (RX7, TX7, 4), (RX8, TX8, 5), (RX9, TX9, 4), (RX10, TX10, 11), (RX11, TX11, 40)]
def ftl : List (List Nat) := [[0, 0, 0, 0, 0, 0, 0, 0, 0, 0], [21, 0, 20, 20, 20, 20, 20, 20, 20, 20, 0, 0, 0, 0], [20, 20, 20, 0], [20, 0, 10, 0, 0, 0], [2, 20, 20], [0, 0, 20], [0, 1, 6, 0], [2, 22, 0, 3], [20, 20, 20, 0, 0], [0, 0, 0, 20], [8, 8, 0, 5, 9, 4, 20, 23, 24, 20, 0], [20, 20, 20, 0, 20, 0, 20, 20, 20, 20, 20, 20, 20, 20, 20, 20, 20, 0, 0, 20, 0, 0, 20, 0, 0, 0, 0, 0, 0, 0, 0, 0, 0, 0, 20, 20, 20, 20, 0, 20]]
def fbl : List (List Nat) := [[0, 0, 0, 0, 0, 0, 0, 0, 0, 0], [0, 0, 0, 0, 0, 0, 0, 0, 0, 0, 0, 0, 0, 0], [0, 0, 0, 0], [0, 0, 0, 0, 0, 0], [0, 0, 0], [0, 0, 0], [0, 0, 0, 0], [0, 0, 0, 0], [0, 0, 0, 0, 0], [0, 0, 0, 0], [0, 0, 1, 0, 0, 0, 0, 0, 0, 0, 0], [0, 0, 0, 1, 0, 0, 0, 0, 0, 0, 0, 0, 0, 0, 0, 0, 0, 0, 0, 0, 0, 0, 0, 0, 0, 0, 0, 0, 0, 0, 0, 0, 0, 0, 0, 0, 0, 0, 0, 0]]
def kdl : List Nat := [11, 8, 2, 21, 20, 20, 20, 20, 20, 20, 20, 20, 1, 1, 1, 1, 1, 1, 1, 1, 22, 3, 20, 20, 20, 10, 20, 10, 20, 10, 20, 10, 20, 10, 20, 10, 20, 10, 20, 10, 20, 10, 20, 10, 20, 8, 2, 21, 20, 20, 20, 20, 20, 20, 20, 20, 1, 1, 1, 1, 1, 1, 1, 1, 22, 3, 20, 20, 20, 10, 20, 10, 20, 10, 20, 10, 20, 10, 20, 10, 20, 10, 20, 10, 20, 10, 20, 10, 20, 5, 2, 21, 20, 20, 20, 20, 20, 20, 20, 20, 1, 1, 1, 1, 1, 1, 1, 1, 20, 20, 9, 20, 20, 20, 4, 20, 10, 20, 20, 23, 6, 20, 6, 20, 6, 20, 6, 20, 24, 7, 1, 6, 20, 7, 1, 6, 20, 7, 1, 6, 20, 7, 1, 6, 20, 7, 1, 6, 20, 20, 12, 20, 20, 20, 20, 20, 20, 20, 20, 20, 20, 20, 20, 20, 20, 20, 20, 20, 20, 20, 20, 20, 20]
def lnl : List Nat := [0, 0, 0, 8, 8, 8, 8, 8, 8, 5, 10, 10, 0, 0, 0, 0, 0, 0, 0, 0, 10, 0, 8, 8, 8, 0, 96, 0, 96, 0, 96, 0, 96, 0, 96, 0, 96, 0, 96, 0, 96, 0, 96, 0, 96, 0, 0, 8, 8, 8, 8, 8, 8, 5, 10, 10, 0, 0, 0, 0, 0, 0, 0, 0, 10, 0, 8, 8, 8, 0, 96, 0, 96, 0, 96, 0, 96, 0, 96, 0, 96, 0, 96, 0, 96, 0, 96, 0, 96, 0, 0, 8, 8, 8, 8, 8, 8, 5, 10, 10, 0, 0, 0, 0, 0, 0, 0, 0, 4, 4, 0, 20, 20, 20, 0, 96, 0, 96, 96, 4, 0, 24, 0, 24, 0, 24, 0, 24, 5, 0, 0, 0, 24, 0, 0, 0, 24, 0, 0, 0, 24, 0, 0, 0, 24, 0, 0, 0, 24, 60, 0, 2350, 2350, 2350, 60, 4, 4, 96, 5, 5, 5, 120, 5, 8, 8, 8, 16, 96, 128, 100, 24, 60, 60]
def rtl : List (List Nat) := [[1, 45, 0, 89, 110, 114, 118, 119, 128, 149, 0], [2, 20, 0, 21], [3, 0, 4, 5, 6, 7, 8, 9, 10, 11, 0, 0, 0, 0], [12, 13, 14, 15, 16, 17, 18, 19], [], [], [], [], [], [], [], [], [0, 0, 0, 0, 0, 0, 0, 0, 0, 0], [0, 0, 0, 0, 0, 0, 0, 0, 0, 0], [0, 0, 0, 0, 0, 0, 0, 0, 0, 0], [0, 0, 0, 0, 0, 0, 0, 0, 0, 0], [0, 0, 0, 0, 0, 0, 0, 0, 0, 0], [0, 0, 0, 0, 0, 0, 0, 0, 0, 0], [0, 0, 0, 0, 0, 0, 0, 0, 0, 0], [0, 0, 0, 0, 0, 0, 0, 0, 0, 0], [25, 27, 29, 31, 33, 35, 37, 39, 41, 43], [22, 23, 24, 0], [], [], [], [0, 0, 0, 26], [], [0, 0, 0, 28], [], [0, 0, 0, 30], [], [0, 0, 0, 32], [], [0, 0, 0, 34], [], [0, 0, 0, 36], [], [0, 0, 0, 38], [], [0, 0, 0, 40], [], [0, 0, 0, 42], [], [0, 0, 0, 44], [], [46, 64, 0, 65], [47, 0, 48, 49, 50, 51, 52, 53, 54, 55, 0, 0, 0, 0], [56, 57, 58, 59, 60, 61, 62, 63], [], [], [], [], [], [], [], [], [0, 0, 0, 0, 0, 0, 0, 0, 0, 0], [0, 0, 0, 0, 0, 0, 0, 0, 0, 0], [0, 0, 0, 0, 0, 0, 0, 0, 0, 0], [0, 0, 0, 0, 0, 0, 0, 0, 0, 0], [0, 0, 0, 0, 0, 0, 0, 0, 0, 0], [0, 0, 0, 0, 0, 0, 0, 0, 0, 0], [0, 0, 0, 0, 0, 0, 0, 0, 0, 0], [0, 0, 0, 0, 0, 0, 0, 0, 0, 0], [69, 71, 73, 75, 77, 79, 81, 83, 85, 87], [66, 67, 68, 0], [], [], [], [0, 0, 0, 70], [], [0, 0, 0, 72], [], [0, 0, 0, 74], [], [0, 0, 0, 76], [], [0, 0, 0, 78], [], [0, 0, 0, 80], [], [0, 0, 0, 82], [], [0, 0, 0, 84], [], [0, 0, 0, 86], [], [0, 0, 0, 88], [], [90, 108, 109], [91, 0, 92, 93, 94, 95, 96, 97, 98, 99, 0, 0, 0, 0], [100, 101, 102, 103, 104, 105, 106, 107], [], [], [], [], [], [], [], [], [0, 0, 0, 0, 0, 0, 0, 0, 0, 0], [0, 0, 0, 0, 0, 0, 0, 0, 0, 0], [0, 0, 0, 0, 0, 0, 0, 0, 0, 0], [0, 0, 0, 0, 0, 0, 0, 0, 0, 0], [0, 0, 0, 0, 0, 0, 0, 0, 0, 0], [0, 0, 0, 0, 0, 0, 0, 0, 0, 0], [0, 0, 0, 0, 0, 0, 0, 0, 0, 0], [0, 0, 0, 0, 0, 0, 0, 0, 0, 0], [], [], [111, 112, 113, 0, 0], [], [], [], [115, 0, 116, 0, 0, 0], [], [0, 0, 0, 117], [], [], [120, 122, 124, 126], [0, 0, 121], [], [0, 0, 123], [], [0, 0, 125], [], [0, 0, 127], [], [129, 133, 137, 141, 145], [0, 130, 131, 0], [0, 0, 0, 0, 0, 0, 0, 0, 0, 0], [0, 0, 132], [], [0, 134, 135, 0], [0, 0, 0, 0, 0, 0, 0, 0, 0, 0], [0, 0, 136], [], [0, 138, 139, 0], [0, 0, 0, 0, 0, 0, 0, 0, 0, 0], [0, 0, 140], [], [0, 142, 143, 0], [0, 0, 0, 0, 0, 0, 0, 0, 0, 0], [0, 0, 144], [], [0, 146, 147, 0], [0, 0, 0, 0, 0, 0, 0, 0, 0, 0], [0, 0, 148], [], [], [151, 152, 153, 0, 154, 0, 155, 156, 157, 158, 159, 160, 161, 162, 163, 164, 165, 0, 0, 166, 0, 0, 167, 0, 0, 0, 0, 0, 0, 0, 0, 0, 0, 0, 168, 169, 170, 171, 0, 172], [], [], [], [], [], [], [], [], [], [], [], [], [], [], [], [], [], [], [], [], [], []]
def mYl : List MethodName := [yX0_init, yX0_become, yX0_takeFrom, yX0_drawAs, yX0_drawNext, yX0_drawPrevious, yX0_isUnder, yX0_shapes, yX0_wideIn, yX0_highIn, yX0_bentHigh, yX0_room, yX0_worth, yX0_leastWide, yX0_leastHigh, yX0_ofItself, yX0_sharedAcross, yX0_sharedUp, yX0_touches, yX0_liesOver, yX1_init, yX1_takeFrom, yX1_has, yX1_addBlock, yX1_addNet, yX1_settle, yX1_seat, yX1_waste, yX1_blocksAbove, yX1_wireOf, yX1_wires, yX1_guessOf, yX1_wholeRoot, yX1_price, yX1_canDo, yX1_doMove, yX1_undoMove, yX1_stepFrom, yX1_roomsOn, yX1_greatestLeastWide, yX1_greatestLeastHigh, yX1_growsOf, yX1_reachBehind, yX1_heatOf, yX1_hottestBlock, yX1_greatestHeat, yX2_init, yX2_takeFrom, yX2_add, yX2_isBeaten, yX2_beats, yX3_init, yX3_addFour, yX3_readText, yX3_readHead, yX3_readOr, yX3_readAnd, yX3_readTest, yX3_readSum, yX3_readTerm, yX3_readPiece, yX3_readNot, yX3_readOpen, yX3_readNumber, yX3_readName, yX3_advance, yX3_sortOf, yX3_isWord, yX4_init, yX4_leastPrice, yX4_holdRows, yX4_firstOrder, yX4_nextOrder, yX5_init, yX5_become, yX5_takeFrom, yX5_hasRun, yX5_put, yX6_init, yX6_findingFor, yX7_init, yX7_addWish, yX7_takeFrom, yX8_init, yX8_forget, yX8_note, yX8_takeBack, yX9_init, yX9_begin, yX9_takeFrom, yX9_addNumber, yX9_addName, yX9_addSign, yX9_add, yX9_isOfAll, yX9_valueOn, yX9_push, yX9_negate, yX9_join, yX9_worked, yX9_truth, yX9_nameOfAll, yX9_nameOfBlock, yX10_init, yX10_block, yX10_told, yX10_as, yX10_power, yX10_rule, yX10_net, yX10_wire, yX10_at, yX10_whole, yX10_stands, yX10_move, yX10_undo, yX10_seed, yX10_walk, yX10_bound, yX10_best, yX10_touch, yX10_hottest, yX10_feed, yX10_trim, yX10_wish, yX10_of, yX10_missed, yX10_stow, yX10_stowed, yX10_front, yX10_sheet, yX10_mark, yX10_powers, yX10_copy, yX10_lay, yX10_ask, yX10_item, yX10_rest, yX10_tell, yX10_check, yX10_keep, yX10_back, yX10_count, yX10_metWishes, yX10_takePowers, yX10_swap, yX10_within, yX10_isKind, yX10_isPower, yX10_isSheet, yX10_isSlot, yX11_init, yX11_isIn, yX11_orNone, yX11_least, yX11_most, yX11_becomes, yX11_blockAt, yX11_textAt, yX11_isBlock, yX11_isText, yX11_shapesOf, yX11_isSoft, yX11_widthOf, yX11_heightOf, yX11_roomOf, yX11_worthOf, yX11_width, yX11_height, yX11_room, yX11_isAlike, yX11_findPlaces, yX11_onLayer, yX11_waste, yX11_wireOf, yX11_wires, yX11_priceNow, yX11_behind, yX11_growsOf, yX11_over, yX11_doTouch, yX11_heatOf, yX11_hottestNow, yX11_block, yX11_told, yX11_isOf, yX11_as, yX11_power, yX11_rule, yX11_ones, yX11_net, yX11_guessOf, yX11_wire, yX11_at, yX11_whole, yX11_placeIn, yX11_stands, yX11_swap, yX11_doMove, yX11_undoMove, yX11_isStuck, yX11_move, yX11_undo, yX11_seed, yX11_oneStep, yX11_walk, yX11_roomOn, yX11_leastOf, yX11_timesItself, yX11_tellRow, yX11_leastPrice, yX11_bound, yX11_best, yX11_touch, yX11_hottest, yX11_feed, yX11_trim, yX11_isLetter, yX11_isDigit, yX11_next, yX11_isSign, yX11_isWordAt, yX11_isLong, yX11_key, yX11_isName, yX11_step, yX11_either, yX11_both, yX11_test, yX11_sum, yX11_term, yX11_part0, yX11_parse, yX11_wish, yX11_joined, yX11_worked, yX11_givenBy, yX11_of, yX11_missed, yX11_stow, yX11_isBeaten, yX11_stowed, yX11_front, yX11_isSheet, yX11_sheet, yX11_mark, yX11_powers, yX11_copy, yX11_isSlot, yX11_lay, yX11_ask, yX11_item, yX11_rest, yX11_tell, yX11_setAside, yX11_check, yX11_keep, yX11_back, yX11_count, yJ6_bitCount_0f7a4, yJ0_length_8abf5, yJ0_charAt_5068e, yJ0_indexOf_0f7a4]
def mCl : List ByteArray := [cX0_init, cX0_become, cX0_takeFrom, cX0_drawAs, cX0_drawNext, cX0_drawPrevious, cX0_isUnder, cX0_shapes, cX0_wideIn, cX0_highIn, cX0_bentHigh, cX0_room, cX0_worth, cX0_leastWide, cX0_leastHigh, cX0_ofItself, cX0_sharedAcross, cX0_sharedUp, cX0_touches, cX0_liesOver, cX1_init, cX1_takeFrom, cX1_has, cX1_addBlock, cX1_addNet, cX1_settle, cX1_seat, cX1_waste, cX1_blocksAbove, cX1_wireOf, cX1_wires, cX1_guessOf, cX1_wholeRoot, cX1_price, cX1_canDo, cX1_doMove, cX1_undoMove, cX1_stepFrom, cX1_roomsOn, cX1_greatestLeastWide, cX1_greatestLeastHigh, cX1_growsOf, cX1_reachBehind, cX1_heatOf, cX1_hottestBlock, cX1_greatestHeat, cX2_init, cX2_takeFrom, cX2_add, cX2_isBeaten, cX2_beats, cX3_init, cX3_addFour, cX3_readText, cX3_readHead, cX3_readOr, cX3_readAnd, cX3_readTest, cX3_readSum, cX3_readTerm, cX3_readPiece, cX3_readNot, cX3_readOpen, cX3_readNumber, cX3_readName, cX3_advance, cX3_sortOf, cX3_isWord, cX4_init, cX4_leastPrice, cX4_holdRows, cX4_firstOrder, cX4_nextOrder, cX5_init, cX5_become, cX5_takeFrom, cX5_hasRun, cX5_put, cX6_init, cX6_findingFor, cX7_init, cX7_addWish, cX7_takeFrom, cX8_init, cX8_forget, cX8_note, cX8_takeBack, cX9_init, cX9_begin, cX9_takeFrom, cX9_addNumber, cX9_addName, cX9_addSign, cX9_add, cX9_isOfAll, cX9_valueOn, cX9_push, cX9_negate, cX9_join, cX9_worked, cX9_truth, cX9_nameOfAll, cX9_nameOfBlock, cX10_init, cX10_block, cX10_told, cX10_as, cX10_power, cX10_rule, cX10_net, cX10_wire, cX10_at, cX10_whole, cX10_stands, cX10_move, cX10_undo, cX10_seed, cX10_walk, cX10_bound, cX10_best, cX10_touch, cX10_hottest, cX10_feed, cX10_trim, cX10_wish, cX10_of, cX10_missed, cX10_stow, cX10_stowed, cX10_front, cX10_sheet, cX10_mark, cX10_powers, cX10_copy, cX10_lay, cX10_ask, cX10_item, cX10_rest, cX10_tell, cX10_check, cX10_keep, cX10_back, cX10_count, cX10_metWishes, cX10_takePowers, cX10_swap, cX10_within, cX10_isKind, cX10_isPower, cX10_isSheet, cX10_isSlot, cX11_init, cX11_isIn, cX11_orNone, cX11_least, cX11_most, cX11_becomes, cX11_blockAt, cX11_textAt, cX11_isBlock, cX11_isText, cX11_shapesOf, cX11_isSoft, cX11_widthOf, cX11_heightOf, cX11_roomOf, cX11_worthOf, cX11_width, cX11_height, cX11_room, cX11_isAlike, cX11_findPlaces, cX11_onLayer, cX11_waste, cX11_wireOf, cX11_wires, cX11_priceNow, cX11_behind, cX11_growsOf, cX11_over, cX11_doTouch, cX11_heatOf, cX11_hottestNow, cX11_block, cX11_told, cX11_isOf, cX11_as, cX11_power, cX11_rule, cX11_ones, cX11_net, cX11_guessOf, cX11_wire, cX11_at, cX11_whole, cX11_placeIn, cX11_stands, cX11_swap, cX11_doMove, cX11_undoMove, cX11_isStuck, cX11_move, cX11_undo, cX11_seed, cX11_oneStep, cX11_walk, cX11_roomOn, cX11_leastOf, cX11_timesItself, cX11_tellRow, cX11_leastPrice, cX11_bound, cX11_best, cX11_touch, cX11_hottest, cX11_feed, cX11_trim, cX11_isLetter, cX11_isDigit, cX11_next, cX11_isSign, cX11_isWordAt, cX11_isLong, cX11_key, cX11_isName, cX11_step, cX11_either, cX11_both, cX11_test, cX11_sum, cX11_term, cX11_part0, cX11_parse, cX11_wish, cX11_joined, cX11_worked, cX11_givenBy, cX11_of, cX11_missed, cX11_stow, cX11_isBeaten, cX11_stowed, cX11_front, cX11_isSheet, cX11_sheet, cX11_mark, cX11_powers, cX11_copy, cX11_isSlot, cX11_lay, cX11_ask, cX11_item, cX11_rest, cX11_tell, cX11_setAside, cX11_check, cX11_keep, cX11_back, cX11_count, cJ6_bitCount_0f7a4, cJ0_length_8abf5, cJ0_charAt_5068e, cJ0_indexOf_0f7a4]
def mLl : List Nat := [1, 4, 2, 2, 1, 1, 4, 1, 2, 2, 3, 1, 1, 3, 3, 2, 2, 2, 4, 2, 2, 3, 2, 5, 3, 2, 8, 4, 3, 13, 3, 4, 3, 2, 3, 4, 4, 8, 4, 3, 3, 3, 6, 5, 5, 1, 1, 2, 2, 3, 5, 1, 3, 1, 1, 5, 5, 5, 6, 6, 3, 4, 3, 3, 2, 4, 1, 3, 1, 7, 2, 3, 6, 1, 4, 2, 3, 4, 1, 2, 2, 2, 3, 1, 1, 4, 2, 1, 2, 2, 2, 2, 2, 2, 1, 6, 3, 2, 3, 3, 1, 2, 4, 2, 4, 5, 4, 4, 4, 3, 4, 3, 3, 4, 5, 1, 3, 5, 3, 4, 4, 1, 4, 2, 2, 4, 2, 1, 4, 3, 4, 5, 6, 8, 6, 5, 5, 4, 2, 6, 1, 1, 2, 3, 6, 4, 3, 1, 1, 1, 1, 2, 6, 1, 2, 2, 4, 2, 2, 2, 2, 2, 1, 4, 5, 4, 6, 3, 3, 3, 3, 6, 4, 3, 12, 3, 2, 7, 2, 4, 5, 5, 3, 6, 4, 2, 3, 3, 3, 3, 3, 4, 3, 3, 3, 4, 5, 5, 5, 4, 3, 5, 1, 2, 9, 4, 4, 7, 4, 7, 7, 2, 5, 3, 1, 6, 2, 2, 2, 3, 2, 6, 8, 1, 2, 3, 2, 2, 3, 3, 3, 2, 3, 3, 3, 6, 4, 4, 2, 3, 7, 3, 3, 1, 5, 5, 7, 7, 1, 7, 4, 3, 3, 2, 4, 4, 1, 1, 4, 1, 1, 2, 2]
def mRl : List (Option FieldType) := [none, none, none, none, none, none, some .boolean, some .int, some .int, some .int, some .int, some .int, some .int, some .int, some .int, some .int, some .int, some .int, some .boolean, some .boolean, none, none, some .boolean, some .int, some .int, none, none, some .int, some .int, some .int, some .int, some .int, some .int, some .int, some .boolean, none, none, some .int, some .int, some .int, some .int, some .int, some .int, some .int, some .int, some .int, none, none, some .int, some .boolean, some .boolean, none, none, some .boolean, some .boolean, some .boolean, some .boolean, some .boolean, some .boolean, some .boolean, some .boolean, some .boolean, some .boolean, some .boolean, some .boolean, none, some .int, some .boolean, none, some .int, none, none, none, none, none, none, some .boolean, some .int, none, some .int, none, some .int, none, none, none, none, none, none, none, none, none, none, none, none, some .boolean, some .int, some .int, some .int, some .int, some .int, some .int, some .int, some .int, none, some .int, some .int, some .int, some .int, some .int, some .int, some .int, some .int, some .int, some .int, some .int, some .int, some .int, some .int, some .int, some .int, some .int, some .int, some .int, some .int, some .int, some .int, some .int, some .int, some .int, some .int, some .int, some .int, some .int, some .int, some .int, some .int, some .int, some .int, some .int, some .int, some .int, some .int, some .int, some .int, some .int, none, some .boolean, some .boolean, some .boolean, some .boolean, some .boolean, none, some .boolean, some .int, some .int, some .int, some .int, some .int, some .int, some .boolean, some .boolean, some .int, some .boolean, some .int, some .int, some .int, some .int, some .int, some .int, some .int, some .boolean, none, some .int, some .int, some .int, some .int, some .int, some .int, some .int, some .int, some .boolean, some .int, some .int, some .int, some .int, some .boolean, some .int, some .int, some .int, some .int, some .int, some .int, some .int, some .int, some .int, some .int, some .int, none, none, none, some .boolean, some .int, some .int, some .int, none, some .int, some .int, some .int, some .int, some .boolean, some .int, some .int, some .int, some .int, some .int, some .int, some .int, some .boolean, some .boolean, none, some .boolean, some .boolean, some .boolean, some .int, some .boolean, none, some .boolean, some .boolean, some .boolean, some .boolean, some .boolean, some .boolean, some .int, some .int, some .int, some .int, some .int, some .int, some .int, some .int, some .boolean, some .int, some .int, some .boolean, some .int, some .int, some .int, some .int, some .boolean, some .int, some .int, some .int, some .int, some .int, none, some .int, some .int, some .int, some .int, some .int, some .int, some .char, some .int]
def mAl : List (List Nat) := [[1], [1, 0, 0, 0], [1, 1], [1, 0], [1], [1], [1, 0], [1], [1, 0], [1, 0], [1, 0], [1], [1], [1], [1], [1, 0], [1, 1], [1, 1], [1, 1], [1, 1], [2], [2, 2], [2, 0], [2, 0, 0, 0], [2, 0, 0], [2], [2, 0], [2], [2], [2, 0], [2], [2, 0], [0], [2], [2, 0, 0], [2, 0, 0, 0], [2, 0, 0, 0], [2, 0, 0], [2, 0], [2], [2], [2, 0], [2, 0], [2, 0], [2], [2], [3], [3, 3], [3, 2], [3, 0], [3, 0, 0], [4], [4, 0], [4], [4], [4, 0, 0], [4, 0, 0], [4, 0, 0], [4, 0, 0], [4, 0, 0], [4, 0, 0], [4, 0, 0], [4, 0, 0], [4], [4], [4], [0], [4, 30], [5], [5, 2], [5, 0], [20, 0], [20, 0], [6], [6, 0, 0], [6, 6], [6, 0, 0], [6, 0, 0], [7], [7, 0], [8], [8, 10], [8, 8], [9], [9], [9, 0, 0, 0], [9, 2], [10], [10, 0], [10, 10], [10, 0], [10, 0], [10, 0], [10, 0], [10], [10, 2, 20], [20, 0, 0], [20, 0], [20, 0, 0], [0, 0, 0], [0], [2, 0], [10, 2, 0], [11], [11, 0, 0, 0], [11, 0, 0], [11, 0, 0], [11, 0, 0], [11, 0, 0], [11, 0, 0], [11, 0, 0], [11, 0, 0], [11, 0], [11, 0, 0], [11, 0, 0, 0], [11], [11, 0], [11, 0, 0], [11, 0], [11, 0, 0], [11, 0, 0], [11], [11, 0, 0, 0], [11, 0], [11], [11, 0, 0], [11], [11], [11, 0, 0], [11], [11, 0, 0, 0], [11, 0, 0, 0], [11, 0, 0], [11, 0, 0, 0, 0, 0], [11, 0, 0, 0], [11, 0, 0], [11, 0, 0], [11, 0, 0], [11, 0], [11, 0], [11], [11], [11, 0], [11], [11, 6, 0], [20, 0, 0], [0, 0, 0], [0], [0], [0], [0], [12], [0, 0, 0], [0], [0, 0], [0, 0], [12, 0, 0], [12, 0], [12, 0], [12, 0], [12, 0], [0, 0], [0], [0, 0, 0, 0], [0, 0, 0, 0], [0, 0, 0, 0], [0, 0, 0, 0, 0], [12, 0], [12, 0], [12, 0], [12, 0, 0], [12], [12, 0], [12], [12, 0], [12], [12], [12, 0], [12, 0], [0, 0, 0, 0], [12, 0, 0], [12, 0], [12], [12, 0, 0, 0], [12, 0, 0], [0, 0], [12, 0, 0], [12, 0, 0], [12, 0, 0], [0], [12, 0, 0], [12, 0], [12, 0, 0], [12, 0, 0], [12, 0], [12, 0, 0], [12, 0, 0], [12, 0, 0, 0], [12, 0, 0, 0], [12, 0, 0, 0], [12, 0, 0], [12, 0, 0, 0], [12], [12, 0], [12, 0], [12, 0, 0], [12, 0], [12, 0], [0, 0], [12, 0, 0], [12], [12, 0], [12, 0, 0], [12, 0, 0], [12], [12, 0, 0, 0], [12, 0], [12, 0], [12, 0], [12], [12, 0], [12, 0, 0, 0, 0], [12, 0, 0, 0, 0, 0, 0], [12], [0, 0], [12, 0, 0], [12, 0], [12, 0], [12, 0], [12, 0], [12, 0], [12, 0], [12], [12], [0, 0, 0], [12, 0], [12, 0], [12, 0, 0], [12], [12], [12, 0], [12, 0, 0], [12], [0], [12, 0, 0, 0], [12, 0, 0, 0], [12, 0, 0], [12, 0, 0, 0, 0, 0], [0], [12, 0, 0, 0], [12, 0, 0], [12, 0, 0], [12, 0, 0], [12, 0], [12, 20, 20], [12, 0], [12], [12], [12, 0], [0], [30], [30, 0], [30, 0]]
def mOl : List Nat := [0, 0, 0, 0, 0, 0, 0, 0, 0, 0, 0, 0, 0, 0, 0, 0, 0, 0, 0, 0, 1, 1, 1, 1, 1, 1, 1, 1, 1, 1, 1, 1, 1, 1, 1, 1, 1, 1, 1, 1, 1, 1, 1, 1, 1, 1, 2, 2, 2, 2, 2, 3, 3, 3, 3, 3, 3, 3, 3, 3, 3, 3, 3, 3, 3, 3, 3, 3, 4, 4, 4, 4, 4, 5, 5, 5, 5, 5, 6, 6, 7, 7, 7, 8, 8, 8, 8, 9, 9, 9, 9, 9, 9, 9, 9, 9, 9, 9, 9, 9, 9, 9, 9, 10, 10, 10, 10, 10, 10, 10, 10, 10, 10, 10, 10, 10, 10, 10, 10, 10, 10, 10, 10, 10, 10, 10, 10, 10, 10, 10, 10, 10, 10, 10, 10, 10, 10, 10, 10, 10, 10, 10, 10, 10, 10, 10, 10, 10, 10, 10, 10, 11, 11, 11, 11, 11, 11, 11, 11, 11, 11, 11, 11, 11, 11, 11, 11, 11, 11, 11, 11, 11, 11, 11, 11, 11, 11, 11, 11, 11, 11, 11, 11, 11, 11, 11, 11, 11, 11, 11, 11, 11, 11, 11, 11, 11, 11, 11, 11, 11, 11, 11, 11, 11, 11, 11, 11, 11, 11, 11, 11, 11, 11, 11, 11, 11, 11, 11, 11, 11, 11, 11, 11, 11, 11, 11, 11, 11, 11, 11, 11, 11, 11, 11, 11, 11, 11, 11, 11, 11, 11, 11, 11, 11, 11, 11, 11, 11, 11, 11, 11, 11, 11, 11, 11, 11, 11, 11, 11, 16, 13, 13, 13]
def mSl : List Bool := [false, false, false, false, false, false, false, false, false, false, false, false, false, false, false, false, false, false, false, false, false, false, false, false, false, false, false, false, false, false, false, false, true, false, false, false, false, false, false, false, false, false, false, false, false, false, false, false, false, false, false, false, false, false, false, false, false, false, false, false, false, false, false, false, false, false, true, false, false, false, false, true, true, false, false, false, false, false, false, false, false, false, false, false, false, false, false, false, false, false, false, false, false, false, false, false, true, true, true, true, true, true, false, false, false, false, false, false, false, false, false, false, false, false, false, false, false, false, false, false, false, false, false, false, false, false, false, false, false, false, false, false, false, false, false, false, false, false, false, false, false, false, false, false, false, true, true, true, true, true, true, false, true, true, true, true, false, false, false, false, false, true, true, true, true, true, true, false, false, false, false, false, false, false, false, false, false, false, false, true, false, false, false, false, false, true, false, false, false, true, false, false, false, false, false, false, false, false, false, false, false, false, false, false, false, false, false, false, true, false, false, false, false, false, false, false, false, false, false, false, false, false, false, false, true, false, false, false, false, false, false, false, false, false, true, false, false, false, false, false, false, false, false, true, false, false, false, false, true, false, false, false, false, false, false, false, false, false, false, true, false, false, false]
def wCl : List Nat := [120, 472, 742, 476, 665, 686, 563, 555, 480, 484, 488, 547, 551, 720, 728, 543, 519, 527, 515, 531, 113, 738, 507, 468, 595, 492, 496, 626, 630, 603, 634, 610, 614, 639, 653, 658, 682, 699, 711, 716, 724, 535, 539, 511, 779, 1049, 239, 1159, 1044, 1058, 1062, 343, 788, 800, 811, 873, 877, 881, 885, 889, 893, 978, 986, 897, 909, 804, 807, 816, 299, 733, 757, 749, 761, 374, 1077, 1117, 1087, 1092, 393, 1126, 107, 990, 1154, 320, 464, 669, 678, 261, 868, 994, 901, 974, 982, 905, 913, 1004, 1009, 1023, 1029, 1032, 1026, 1012, 1018, 99, 452, 503, 559, 570, 577, 585, 599, 618, 622, 644, 649, 674, 691, 695, 707, 766, 770, 775, 784, 792, 796, 1000, 1036, 1040, 1054, 1066, 1070, 1082, 1096, 1104, 1109, 1122, 1133, 1137, 1141, 1145, 1150, 1164, 1168, 1172, 1100, 661, 458, 455, 573, 1073, 1112, 1178, 1308, 1547, 1374, 1344, 1403, 1315, 1567, 1323, 1638, 1364, 1341, 1338, 1351, 1358, 1361, 1335, 1348, 1355, 1331, 1327, 1454, 1450, 1426, 1446, 1442, 1386, 1382, 1371, 1378, 1368, 1544, 1304, 1319, 1393, 1390, 1398, 1407, 1416, 1412, 1430, 1421, 1434, 1438, 1463, 1458, 1480, 1476, 1488, 1471, 1467, 1484, 1492, 1502, 1496, 1513, 1528, 1520, 1524, 1517, 1507, 1532, 1536, 1540, 1551, 1555, 1575, 1581, 1571, 1630, 1591, 1595, 1587, 1626, 1623, 1599, 1603, 1607, 1611, 1615, 1619, 1563, 1559, 1649, 1646, 1642, 1634, 1653, 1657, 1665, 1661, 1669, 1676, 1673, 1682, 1688, 1692, 1699, 1696, 1703, 1707, 1711, 1715, 1724, 1719, 1728, 1732, 1736, 588, 820, 830, 919]
def wIl : List Nat := [119, 470, 740, 474, 663, 684, 561, 553, 478, 482, 487, 545, 549, 718, 726, 541, 518, 526, 513, 529, 112, 736, 505, 466, 593, 490, 495, 624, 628, 601, 632, 608, 613, 637, 651, 656, 680, 697, 709, 714, 722, 533, 538, 509, 777, 1047, 238, 1157, 1042, 1056, 1061, 342, 786, 798, 810, 872, 876, 880, 884, 888, 892, 977, 985, 896, 908, 803, 806, 815, 298, 731, 756, 748, 760, 373, 1075, 1115, 1085, 1090, 392, 1124, 106, 988, 1152, 319, 462, 667, 676, 260, 866, 992, 899, 972, 980, 904, 911, 1002, 1008, 1022, 1028, 1031, 1025, 1011, 1017, 98, 450, 501, 557, 568, 575, 583, 597, 616, 620, 642, 647, 672, 689, 693, 705, 764, 768, 773, 782, 790, 794, 998, 1034, 1038, 1052, 1064, 1068, 1080, 1094, 1102, 1107, 1120, 1131, 1135, 1139, 1143, 1148, 1162, 1166, 1171, 1099, 660, 457, 454, 572, 1072, 1111, 1177, 1307, 1546, 1373, 1343, 1402, 1314, 1566, 1322, 1637, 1363, 1340, 1337, 1350, 1357, 1360, 1334, 1347, 1354, 1330, 1326, 1453, 1449, 1425, 1445, 1441, 1385, 1381, 1370, 1377, 1367, 1543, 1302, 1317, 1392, 1388, 1396, 1405, 1415, 1410, 1429, 1419, 1432, 1436, 1462, 1456, 1479, 1475, 1487, 1470, 1465, 1482, 1490, 1501, 1494, 1512, 1527, 1519, 1523, 1516, 1505, 1530, 1534, 1538, 1549, 1553, 1574, 1580, 1570, 1629, 1590, 1594, 1586, 1625, 1622, 1598, 1602, 1606, 1610, 1614, 1618, 1562, 1557, 1648, 1645, 1641, 1632, 1651, 1655, 1664, 1659, 1667, 1675, 1671, 1680, 1686, 1690, 1698, 1694, 1701, 1705, 1709, 1713, 1723, 1717, 1726, 1730, 1734, 587, 818, 828, 917]
def wSl : List Nat := [0, 471, 741, 475, 664, 685, 562, 554, 479, 483, 0, 546, 550, 719, 727, 542, 2, 3, 514, 530, 0, 737, 506, 467, 594, 491, 1, 625, 629, 602, 633, 609, 0, 638, 652, 657, 681, 698, 710, 715, 723, 534, 4, 510, 778, 1048, 0, 1158, 1043, 1057, 21, 0, 787, 799, 7, 9, 10, 11, 12, 13, 14, 18, 19, 15, 17, 6, 0, 8, 0, 732, 5, 0, 0, 0, 1076, 1116, 1086, 1091, 0, 1125, 0, 989, 1153, 0, 463, 668, 677, 0, 867, 993, 900, 973, 981, 16, 912, 1003, 0, 0, 0, 0, 0, 0, 20, 0, 451, 502, 558, 569, 576, 584, 598, 617, 621, 643, 648, 673, 690, 694, 706, 765, 769, 774, 783, 791, 795, 999, 1035, 1039, 1053, 1065, 1069, 1081, 1095, 1103, 1108, 1121, 1132, 1136, 1140, 1144, 1149, 1163, 1167, 23, 22, 0, 0, 0, 0, 0, 0, 0, 0, 0, 0, 0, 35, 24, 54, 25, 69, 0, 0, 0, 0, 0, 0, 28, 29, 30, 27, 26, 41, 40, 36, 39, 38, 34, 33, 0, 32, 31, 52, 1303, 1318, 0, 1389, 1397, 1406, 0, 1411, 37, 1420, 1433, 1437, 42, 1457, 45, 44, 46, 43, 1466, 1483, 1491, 47, 1495, 48, 51, 0, 50, 49, 1506, 1531, 1535, 1539, 1550, 1554, 56, 57, 55, 68, 59, 60, 58, 0, 67, 61, 62, 63, 64, 65, 66, 53, 1558, 0, 71, 70, 1633, 1652, 1656, 72, 1660, 1668, 0, 1672, 1681, 1687, 1691, 0, 1695, 1702, 1706, 1710, 1714, 73, 1718, 1727, 1731, 1735, 0, 819, 829, 918]
def wNl : List Nat := [78, 78, 78, 78, 78, 78, 78, 78, 78, 78, 78, 78, 78, 78, 78, 78, 78, 78, 78, 78, 77, 77, 77, 77, 77, 77, 77, 77, 77, 77, 77, 77, 77, 77, 77, 77, 77, 77, 77, 77, 77, 77, 77, 77, 77, 77, 79, 79, 79, 79, 79, 83, 83, 83, 83, 83, 83, 83, 83, 83, 83, 83, 83, 83, 83, 83, 83, 83, 81, 81, 81, 81, 81, 84, 84, 84, 84, 84, 85, 85, 76, 76, 76, 82, 82, 82, 82, 80, 80, 80, 80, 80, 80, 80, 80, 80, 80, 80, 80, 80, 80, 80, 80, 75, 75, 75, 75, 75, 75, 75, 75, 75, 75, 75, 75, 75, 75, 75, 75, 75, 75, 75, 75, 75, 75, 75, 75, 75, 75, 75, 75, 75, 75, 75, 75, 75, 75, 75, 75, 75, 75, 75, 75, 75, 75, 75, 75, 75, 75, 75, 75, 86, 86, 86, 86, 86, 86, 86, 86, 86, 86, 86, 86, 86, 86, 86, 86, 86, 86, 86, 86, 86, 86, 86, 86, 86, 86, 86, 86, 86, 86, 86, 86, 86, 86, 86, 86, 86, 86, 86, 86, 86, 86, 86, 86, 86, 86, 86, 86, 86, 86, 86, 86, 86, 86, 86, 86, 86, 86, 86, 86, 86, 86, 86, 86, 86, 86, 86, 86, 86, 86, 86, 86, 86, 86, 86, 86, 86, 86, 86, 86, 86, 86, 86, 86, 86, 86, 86, 86, 86, 86, 86, 86, 86, 86, 86, 86, 86, 86, 86, 86, 86, 86, 86, 86, 86, 86, 86, 86, 88, 90, 90, 90]
def frl : List (List (Nat × Nat × Nat × Nat)) := [[(9, 1, 0, 122), (15, 1, 1, 124), (18, 1, 2, 125), (21, 1, 6, 134), (24, 1, 7, 138), (27, 1, 3, 126), (30, 1, 4, 130), (33, 1, 8, 141), (36, 1, 9, 145), (43, 1, 5, 133)], [(11, 2, 0, 171), (17, 2, 2, 177), (21, 2, 3, 180), (24, 2, 4, 183), (27, 2, 5, 185), (30, 2, 6, 187), (33, 2, 7, 188), (36, 2, 8, 190), (39, 2, 9, 191), (42, 2, 11, 194), (47, 2, 1, 175), (60, 2, 10, 192), (70, 2, 12, 197), (73, 2, 13, 201), (80, 1, 4, 131), (83, 1, 8, 143), (86, 1, 6, 136), (95, 1, 9, 147), (98, 1, 7, 139), (125, 1, 0, 123), (161, 1, 3, 129)], [(9, 3, 0, 241), (15, 3, 1, 243), (18, 3, 2, 245), (27, 3, 3, 247), (31, 2, 12, 196), (36, 2, 13, 200)], [(9, 4, 0, 347), (18, 4, 2, 350), (22, 4, 1, 348), (26, 4, 4, 354), (29, 4, 5, 355), (55, 4, 3, 352)], [(12, 5, 0, 303), (18, 5, 1, 305), (22, 5, 2, 307), (25, 2, 1, 174), (37, 2, 2, 178), (47, 2, 3, 181)], [(9, 6, 0, 376), (15, 6, 2, 379), (19, 6, 1, 378)], [(9, 7, 0, 399), (18, 7, 1, 401), (25, 7, 2, 403)], [(12, 8, 0, 278), (20, 8, 1, 280), (27, 8, 3, 284), (32, 8, 2, 282)], [(9, 9, 0, 322), (15, 9, 1, 323), (18, 9, 2, 324), (21, 9, 4, 326), (25, 9, 3, 325)], [(9, 10, 3, 268), (15, 10, 0, 263), (19, 10, 1, 265), (22, 10, 2, 267), (71, 2, 12, 199), (74, 2, 13, 203), (84, 2, 0, 173), (88, 1, 8, 144), (93, 1, 9, 148), (96, 1, 6, 137), (99, 1, 7, 140), (102, 1, 3, 128)], [(10, 11, 0, 415), (16, 11, 1, 416), (22, 11, 3, 418), (29, 11, 4, 419), (36, 11, 5, 420), (40, 11, 6, 421), (46, 11, 7, 422), (53, 11, 8, 423), (58, 11, 9, 424), (70, 8, 0, 279), (74, 2, 1, 176), (91, 2, 0, 172), (95, 1, 8, 142), (100, 1, 9, 146), (116, 1, 6, 135), (123, 1, 3, 127), (132, 2, 7, 189), (140, 2, 10, 193), (153, 2, 2, 179), (156, 2, 3, 182), (159, 2, 12, 198), (162, 2, 13, 202), (175, 1, 4, 132), (179, 2, 5, 186), (182, 2, 4, 184), (197, 9, 4, 327), (204, 2, 11, 195), (229, 5, 1, 306), (232, 5, 2, 308), (242, 4, 1, 349), (253, 4, 3, 353), (256, 8, 2, 283), (259, 4, 2, 351), (267, 8, 1, 281), (271, 10, 0, 264), (276, 10, 1, 266), (283, 8, 3, 285), (287, 3, 3, 248), (293, 3, 0, 242), (296, 3, 1, 244), (298, 3, 2, 246), (312, 6, 0, 377), (323, 6, 2, 380), (339, 7, 0, 400), (342, 7, 1, 402), (349, 7, 2, 404), (356, 7, 3, 405), (365, 11, 10, 425), (368, 11, 2, 417), (372, 5, 0, 304)], [(7, 12, 0, 1180), (13, 12, 1, 1181), (16, 12, 2, 1182), (19, 12, 4, 1184), (22, 12, 6, 1186), (25, 12, 7, 1187), (28, 12, 8, 1188), (31, 12, 9, 1189), (34, 12, 10, 1190), (37, 12, 11, 1191), (40, 12, 12, 1192), (43, 12, 13, 1193), (46, 12, 14, 1194), (49, 12, 15, 1195), (52, 12, 16, 1196), (55, 12, 19, 1199), (58, 12, 22, 1202), (61, 12, 34, 1214), (64, 12, 35, 1215), (67, 12, 36, 1216), (70, 12, 37, 1217), (73, 12, 39, 1219), (99, 12, 17, 1197), (103, 12, 18, 1198), (154, 12, 5, 1185), (234, 12, 20, 1200), (237, 12, 21, 1201), (259, 12, 23, 1203), (270, 12, 25, 1205), (272, 12, 26, 1206), (275, 12, 24, 1204), (281, 12, 28, 1208), (287, 12, 27, 1207), (301, 12, 32, 1212), (304, 12, 31, 1211), (329, 12, 33, 1213), (335, 12, 30, 1210), (338, 12, 29, 1209), (380, 12, 38, 1218), (385, 12, 3, 1183)], [], [], [], [], []]
def mrl : List (List (Nat × Nat × Nat × Nat)) := [[(39, 0, 3, 473), (46, 0, 8, 477), (50, 0, 9, 481), (53, 0, 7, 552), (61, 0, 10, 485), (64, 0, 11, 544), (67, 4, 0, 520), (73, 0, 12, 548), (76, 3, 0, 523), (79, 0, 16, 516), (83, 0, 17, 524)], [(50, 0, 2, 739), (54, 5, 0, 743), (63, 0, 25, 489), (66, 0, 1, 469), (76, 0, 26, 493), (89, 3, 0, 497), (101, 0, 28, 627), (109, 4, 0, 606), (112, 0, 29, 635), (116, 0, 11, 611), (119, 1, 32, 612), (122, 0, 30, 640), (128, 2, 145, 659), (132, 0, 4, 662), (135, 0, 5, 683), (138, 0, 35, 687), (142, 0, 34, 701), (146, 0, 33, 702), (149, 0, 36, 703), (152, 0, 13, 717), (155, 0, 14, 725), (158, 0, 42, 536), (164, 0, 18, 512), (168, 0, 19, 528), (171, 0, 43, 780), (174, 0, 44, 1050)], [(21, 5, 0, 1160), (39, 0, 30, 1045), (42, 0, 45, 1046), (45, 0, 50, 1059)], [(32, 0, 65, 801), (35, 0, 54, 808), (39, 0, 55, 870), (45, 0, 67, 813), (49, 0, 88, 865), (58, 0, 56, 874), (61, 0, 92, 979), (64, 0, 57, 878), (67, 0, 58, 882), (70, 0, 59, 886), (73, 0, 60, 890), (76, 0, 63, 894), (79, 0, 64, 906), (82, 0, 61, 975), (85, 0, 62, 983), (88, 0, 90, 898), (91, 0, 94, 910), (98, 0, 262, 916), (104, 0, 91, 971), (107, 1, 66, 805), (110, 0, 260, 817), (113, 0, 261, 827)], [(30, 0, 21, 735), (40, 1, 71, 747), (50, 0, 25, 752), (53, 0, 33, 753), (57, 0, 70, 754), (61, 1, 72, 759), (64, 5, 0, 758), (70, 2, 145, 762)], [(22, 5, 0, 1118)], [], [(36, 0, 89, 991), (40, 0, 21, 1155), (43, 0, 47, 1156)], [(28, 4, 0, 670), (34, 0, 36, 679)], [(25, 5, 0, 995), (31, 0, 93, 902), (35, 0, 94, 1005), (39, 0, 22, 1006), (45, 1, 96, 1007), (49, 1, 101, 1010), (53, 0, 102, 1015), (56, 1, 97, 1021), (60, 1, 98, 1027), (63, 1, 100, 1024), (67, 1, 99, 1030), (77, 0, 30, 1013), (81, 0, 27, 1014), (105, 0, 43, 1019), (109, 0, 41, 1020)], [(61, 1, 147, 453), (65, 1, 146, 456), (81, 0, 84, 461), (84, 0, 23, 465), (88, 0, 22, 504), (103, 0, 43, 508), (107, 0, 41, 532), (110, 0, 15, 540), (113, 0, 6, 560), (120, 1, 148, 571), (135, 1, 259, 586), (143, 0, 24, 592), (147, 0, 29, 600), (150, 0, 31, 607), (165, 0, 27, 623), (169, 0, 30, 631), (172, 0, 33, 636), (185, 0, 34, 650), (190, 0, 35, 655), (194, 0, 85, 666), (200, 0, 86, 675), (207, 0, 37, 696), (210, 0, 38, 708), (213, 3, 0, 712), (218, 0, 39, 713), (221, 0, 40, 721), (225, 0, 69, 730), (235, 0, 18, 771), (239, 0, 44, 776), (245, 0, 52, 785), (249, 0, 53, 797), (263, 0, 81, 987), (279, 0, 95, 1001), (290, 0, 48, 1041), (301, 0, 49, 1055), (304, 1, 149, 1071), (307, 0, 74, 1074), (316, 0, 76, 1084), (320, 0, 77, 1089), (326, 0, 144, 1097), (330, 5, 0, 1105), (336, 1, 150, 1110), (345, 0, 2, 1113), (353, 0, 75, 1114), (359, 0, 79, 1123), (362, 0, 12, 1129), (375, 0, 21, 1146), (377, 0, 82, 1151), (380, 0, 143, 1169), (383, 0, 28, 1173)], [(77, 1, 152, 1306), (81, 1, 162, 1339), (85, 1, 163, 1336), (89, 1, 164, 1349), (92, 1, 165, 1356), (95, 0, 157, 1312), (106, 0, 170, 1328), (110, 0, 167, 1332), (113, 1, 155, 1342), (117, 0, 168, 1345), (120, 0, 172, 1451), (123, 1, 154, 1372), (126, 0, 174, 1423), (129, 0, 171, 1324), (132, 0, 175, 1443), (136, 0, 177, 1383), (139, 1, 179, 1369), (142, 0, 180, 1375), (145, 0, 181, 1365), (157, 0, 159, 1320), (160, 0, 169, 1352), (163, 1, 166, 1359), (167, 1, 161, 1362), (170, 0, 178, 1379), (173, 1, 185, 1391), (179, 0, 156, 1400), (186, 1, 189, 1414), (193, 0, 191, 1427), (196, 0, 176, 1439), (199, 0, 173, 1447), (202, 0, 195, 1460), (205, 0, 197, 1477), (209, 0, 198, 1473), (212, 0, 200, 1468), (216, 0, 199, 1485), (224, 0, 204, 1499), (228, 1, 208, 1518), (231, 0, 209, 1521), (243, 0, 206, 1510), (246, 0, 210, 1514), (249, 0, 207, 1525), (253, 0, 182, 1541), (256, 1, 153, 1545), (278, 0, 217, 1572), (284, 0, 218, 1578), (290, 0, 221, 1588), (294, 0, 222, 1592), (298, 0, 219, 1568), (307, 0, 227, 1600), (310, 0, 220, 1627), (313, 0, 225, 1620), (317, 0, 228, 1604), (320, 0, 229, 1608), (323, 0, 230, 1612), (326, 0, 231, 1616), (332, 1, 224, 1624), (341, 0, 226, 1596), (344, 0, 158, 1564), (347, 0, 223, 1584), (350, 0, 232, 1560), (353, 1, 234, 1647), (357, 0, 235, 1643), (360, 0, 160, 1635), (363, 0, 236, 1639), (366, 0, 240, 1662), (369, 1, 243, 1674), (377, 1, 248, 1697), (389, 0, 254, 1721)], [(13, 0, 104, 449), (17, 0, 183, 1301), (18, 0, 105, 500), (22, 0, 184, 1316), (23, 0, 106, 556), (26, 0, 186, 1387), (27, 0, 107, 567), (30, 0, 187, 1395), (31, 0, 108, 574), (34, 0, 188, 1404), (35, 0, 109, 582), (38, 0, 190, 1409), (39, 0, 110, 596), (42, 0, 192, 1418), (43, 0, 111, 615), (46, 0, 193, 1431), (47, 0, 112, 619), (51, 0, 194, 1435), (52, 0, 113, 641), (55, 0, 196, 1455), (56, 0, 114, 646), (59, 0, 201, 1464), (60, 0, 115, 671), (64, 0, 202, 1481), (65, 0, 116, 688), (68, 0, 203, 1489), (69, 0, 117, 692), (72, 0, 205, 1493), (73, 0, 118, 704), (76, 0, 211, 1504), (77, 0, 119, 763), (80, 0, 212, 1529), (81, 0, 120, 767), (84, 0, 213, 1533), (85, 0, 121, 772), (88, 0, 214, 1537), (89, 0, 122, 781), (92, 0, 215, 1548), (93, 0, 123, 789), (96, 0, 216, 1552), (97, 0, 124, 793), (100, 0, 233, 1556), (101, 0, 125, 997), (104, 0, 237, 1631), (105, 0, 126, 1033), (108, 0, 238, 1650), (109, 0, 127, 1037), (112, 0, 239, 1654), (113, 0, 128, 1051), (116, 0, 241, 1658), (117, 0, 129, 1063), (120, 0, 242, 1666), (121, 0, 130, 1067), (124, 0, 244, 1670), (125, 0, 131, 1079), (128, 0, 245, 1679), (129, 0, 132, 1093), (132, 0, 246, 1685), (133, 0, 133, 1101), (137, 0, 247, 1689), (138, 0, 134, 1106), (141, 0, 249, 1693), (142, 0, 135, 1119), (145, 0, 250, 1700), (146, 0, 136, 1130), (149, 0, 251, 1704), (150, 0, 137, 1134), (153, 0, 252, 1708), (154, 0, 138, 1138), (157, 0, 253, 1712), (158, 0, 139, 1142), (161, 0, 255, 1716), (162, 0, 140, 1147), (165, 0, 256, 1725), (166, 0, 141, 1161), (169, 0, 257, 1729), (170, 0, 142, 1165), (173, 0, 258, 1733)], [], [], [], []]
def krl : List (List (Nat × Int32 × Nat)) := [[], [(107, 2147483647, 604), (108, (-2147483648), 605), (141, 1103515245, 700)], [], [], [(29, (-1000000004), 734), (36, 2147483647, 746)], [], [(29, (-1000000011), 1127), (30, (-1000000012), 1128)], [], [], [], [(69, (-1000000001), 459), (80, (-1000000003), 460), (119, (-1000000012), 566), (178, (-1000000005), 645), (189, (-1000000002), 654), (224, (-1000000004), 729), (311, (-1000000014), 1078), (315, (-1000000011), 1083), (319, (-1000000013), 1088)], [(76, (-1000000005), 1459), (152, (-1000000001), 1310), (153, (-1000000003), 1311), (176, (-1000000012), 1394), (215, (-1000000002), 1472), (219, 1103515245, 1503), (242, (-1000000004), 1509), (374, (-1000000014), 1678), (375, (-1000000011), 1683), (376, (-1000000013), 1684)], [], [], [], [], [(265, 1431655765, 589), (266, 858993459, 590), (267, 252645135, 591)]]
def lrl : List (List (Nat × Int64 × Nat)) := [[], [], [], [], [], [], [], [], [], [], [], [(148, 5, 1305), (150, 30, 1309), (177, 99, 1399), (182, 4, 1408), (184, 255, 1413), (189, 9, 1417), (191, 2, 1422), (220, 200, 1497), (222, 9999, 1498), (240, 3, 1508), (262, 97, 1576), (264, 122, 1577), (266, 48, 1582), (268, 57, 1583), (372, (-1), 1677), (383, 60, 1720)], [], [], [], [], []]
def grl : List (List (Nat × Nat × Nat × Nat)) := [[(57, 0, 1, 564)], [], [], [], [(44, 3, 1, 750)], [], [], [], [], [], [(126, 1, 0, 578), (129, 2, 0, 580)], [], [], [], [], [], []]
def srl : List (List (Nat × Nat × Nat)) := [[], [], [], [(43, 0, 812), (53, 1, 869), (94, 2, 914), (96, 3, 915)], [], [], [], [], [], [], [], [], [], [], [], [], []]
end
section
def kX0_become : List (Nat × Instr × Nat) := [(0, .aload_n 0, 1), (1, .iload_n 1, 1), (2, .putfield 9, 3), (5, .aload_n 0, 1), (6, .iload_n 2, 1), (7, .putfield 15, 3), (10, .aload_n 0, 1), (11, .iload_n 3, 1), (12, .putfield 18, 3), (15, .aload_n 0, 1), (16, .iconst 0, 1), (17, .putfield 27, 3), (20, .aload_n 0, 1), (21, .iconst 0, 1), (22, .putfield 30, 3), (25, .aload_n 0, 1), (26, .iconst 0, 1), (27, .putfield 33, 3), (30, .aload_n 0, 1), (31, .iconst 0, 1), (32, .putfield 36, 3), (35, .aload_n 0, 1), (36, .iconst 0, 1), (37, .invokevirtual 39, 3), (40, .return_, 1)]
def kX0_takeFrom : List (Nat × Instr × Nat) := [(0, .aload_n 0, 1), (1, .aload_n 1, 1), (2, .getfield 9, 3), (5, .putfield 9, 3), (8, .aload_n 0, 1), (9, .aload_n 1, 1), (10, .getfield 15, 3), (13, .putfield 15, 3), (16, .aload_n 0, 1), (17, .aload_n 1, 1), (18, .getfield 18, 3), (21, .putfield 18, 3), (24, .aload_n 0, 1), (25, .aload_n 1, 1), (26, .getfield 27, 3), (29, .putfield 27, 3), (32, .aload_n 0, 1), (33, .aload_n 1, 1), (34, .getfield 30, 3), (37, .putfield 30, 3), (40, .aload_n 0, 1), (41, .aload_n 1, 1), (42, .getfield 43, 3), (45, .putfield 43, 3), (48, .aload_n 0, 1), (49, .aload_n 1, 1), (50, .getfield 21, 3), (53, .putfield 21, 3), (56, .aload_n 0, 1), (57, .aload_n 1, 1), (58, .getfield 24, 3), (61, .putfield 24, 3), (64, .aload_n 0, 1), (65, .aload_n 1, 1), (66, .getfield 33, 3), (69, .putfield 33, 3), (72, .aload_n 0, 1), (73, .aload_n 1, 1), (74, .getfield 36, 3), (77, .putfield 36, 3), (80, .return_, 1)]
def kX0_drawAs : List (Nat × Instr × Nat) := [(0, .aload_n 0, 1), (1, .iload_n 1, 1), (2, .putfield 43, 3), (5, .aload_n 0, 1), (6, .aload_n 0, 1), (7, .iload_n 1, 1), (8, .invokevirtual 46, 3), (11, .putfield 21, 3), (14, .aload_n 0, 1), (15, .aload_n 0, 1), (16, .iload_n 1, 1), (17, .invokevirtual 50, 3), (20, .putfield 24, 3), (23, .return_, 1)]
def kX0_drawNext : List (Nat × Instr × Nat) := [(0, .aload_n 0, 1), (1, .aload_n 0, 1), (2, .getfield 43, 3), (5, .iconst 1, 1), (6, .iadd, 1), (7, .aload_n 0, 1), (8, .invokevirtual 53, 3), (11, .if_icmp .ge 12, 3), (14, .aload_n 0, 1), (15, .getfield 43, 3), (18, .iconst 1, 1), (19, .iadd, 1), (20, .goto 4, 3), (23, .iconst 0, 1), (24, .invokevirtual 39, 3), (27, .return_, 1)]
def kX0_drawPrevious : List (Nat × Instr × Nat) := [(0, .aload_n 0, 1), (1, .aload_n 0, 1), (2, .getfield 43, 3), (5, .ifCond .le 12, 3), (8, .aload_n 0, 1), (9, .getfield 43, 3), (12, .iconst 1, 1), (13, .isub, 1), (14, .goto 9, 3), (17, .aload_n 0, 1), (18, .invokevirtual 53, 3), (21, .iconst 1, 1), (22, .isub, 1), (23, .invokevirtual 39, 3), (26, .return_, 1)]
def kX0_isUnder : List (Nat × Instr × Nat) := [(0, .aload_n 0, 1), (1, .getfield 9, 3), (4, .istore_n 2, 1), (5, .iconst 0, 1), (6, .istore_n 3, 1), (7, .iload_n 3, 1), (8, .bipush 6, 2), (10, .if_icmp .ge 32, 3), (13, .iload_n 2, 1), (14, .ifCond .lt 28, 3), (17, .iload_n 2, 1), (18, .bipush 6, 2), (20, .if_icmp .ge 22, 3), (23, .iload_n 2, 1), (24, .iload_n 1, 1), (25, .if_icmp .ne 5, 3), (28, .iconst 1, 1), (29, .ireturn, 1), (30, .getstatic 57, 3), (33, .iload_n 2, 1), (34, .iaload, 1), (35, .istore_n 2, 1), (36, .iinc 3 1, 3), (39, .goto (-32), 3), (42, .iconst 0, 1), (43, .ireturn, 1)]
def kX0_shapes : List (Nat × Instr × Nat) := [(0, .aload_n 0, 1), (1, .getfield 9, 3), (4, .tableswitch 57 1 5 #[36, 38, 41, 57, 43], 36), (40, .iconst 2, 1), (41, .ireturn, 1), (42, .bipush 6, 2), (44, .ireturn, 1), (45, .iconst 5, 1), (46, .ireturn, 1), (47, .aload_n 0, 1), (48, .getfield 18, 3), (51, .iconst 1, 1), (52, .if_icmp .le 7, 3), (55, .iconst 3, 1), (56, .goto 4, 3), (59, .iconst 2, 1), (60, .ireturn, 1), (61, .iconst 1, 1), (62, .ireturn, 1)]
def kX0_wideIn : List (Nat × Instr × Nat) := [(0, .aload_n 0, 1), (1, .getfield 9, 3), (4, .tableswitch 97 1 5 #[36, 53, 60, 97, 67], 36), (40, .iload_n 1, 1), (41, .iconst 1, 1), (42, .if_icmp .ne 10, 3), (45, .aload_n 0, 1), (46, .getfield 18, 3), (49, .goto 7, 3), (52, .aload_n 0, 1), (53, .getfield 15, 3), (56, .ireturn, 1), (57, .aload_n 0, 1), (58, .getfield 15, 3), (61, .iload_n 1, 1), (62, .iadd, 1), (63, .ireturn, 1), (64, .aload_n 0, 1), (65, .getfield 15, 3), (68, .iload_n 1, 1), (69, .iadd, 1), (70, .ireturn, 1), (71, .iload_n 1, 1), (72, .ifCond .ne 10, 3), (75, .aload_n 0, 1), (76, .getfield 15, 3), (79, .goto 21, 3), (82, .iload_n 1, 1), (83, .iconst 1, 1), (84, .if_icmp .ne 10, 3), (87, .aload_n 0, 1), (88, .getfield 18, 3), (91, .goto 9, 3), (94, .aload_n 0, 1), (95, .getfield 15, 3), (98, .iconst 1, 1), (99, .iadd, 1), (100, .ireturn, 1), (101, .aload_n 0, 1), (102, .getfield 15, 3), (105, .ireturn, 1)]
def kX0_highIn : List (Nat × Instr × Nat) := [(0, .aload_n 0, 1), (1, .getfield 9, 3), (4, .tableswitch 110 1 5 #[36, 53, 59, 110, 80], 36), (40, .iload_n 1, 1), (41, .iconst 1, 1), (42, .if_icmp .ne 10, 3), (45, .aload_n 0, 1), (46, .getfield 15, 3), (49, .goto 7, 3), (52, .aload_n 0, 1), (53, .getfield 18, 3), (56, .ireturn, 1), (57, .aload_n 0, 1), (58, .iload_n 1, 1), (59, .invokevirtual 61, 3), (62, .ireturn, 1), (63, .iload_n 1, 1), (64, .iconst 3, 1), (65, .if_icmp .lt 13, 3), (68, .aload_n 0, 1), (69, .iload_n 1, 1), (70, .invokevirtual 61, 3), (73, .iconst 1, 1), (74, .iadd, 1), (75, .goto 8, 3), (78, .aload_n 0, 1), (79, .iload_n 1, 1), (80, .invokevirtual 61, 3), (83, .ireturn, 1), (84, .iload_n 1, 1), (85, .ifCond .ne 10, 3), (88, .aload_n 0, 1), (89, .getfield 18, 3), (92, .goto 21, 3), (95, .iload_n 1, 1), (96, .iconst 1, 1), (97, .if_icmp .ne 10, 3), (100, .aload_n 0, 1), (101, .getfield 15, 3), (104, .goto 9, 3), (107, .aload_n 0, 1), (108, .getfield 18, 3), (111, .iconst 1, 1), (112, .isub, 1), (113, .ireturn, 1), (114, .aload_n 0, 1), (115, .getfield 18, 3), (118, .ireturn, 1)]
def kX0_bentHigh : List (Nat × Instr × Nat) := [(0, .aload_n 0, 1), (1, .getfield 15, 3), (4, .iload_n 1, 1), (5, .iadd, 1), (6, .istore_n 2, 1), (7, .iload_n 2, 1), (8, .ifCond .gt 10, 3), (11, .aload_n 0, 1), (12, .getfield 18, 3), (15, .goto 18, 3), (18, .aload_n 0, 1), (19, .getfield 15, 3), (22, .aload_n 0, 1), (23, .getfield 18, 3), (26, .imul, 1), (27, .iload_n 2, 1), (28, .iadd, 1), (29, .iconst 1, 1), (30, .isub, 1), (31, .iload_n 2, 1), (32, .idiv, 1), (33, .ireturn, 1)]
def kX0_room : List (Nat × Instr × Nat) := [(0, .aload_n 0, 1), (1, .getfield 9, 3), (4, .tableswitch 66 2 5 #[32, 42, 66, 54], 32), (36, .aload_n 0, 1), (37, .getfield 15, 3), (40, .aload_n 0, 1), (41, .getfield 18, 3), (44, .imul, 1), (45, .ireturn, 1), (46, .aload_n 0, 1), (47, .getfield 15, 3), (50, .aload_n 0, 1), (51, .getfield 18, 3), (54, .imul, 1), (55, .iconst 1, 1), (56, .iadd, 1), (57, .ireturn, 1), (58, .aload_n 0, 1), (59, .getfield 21, 3), (62, .aload_n 0, 1), (63, .getfield 24, 3), (66, .imul, 1), (67, .iconst 1, 1), (68, .isub, 1), (69, .ireturn, 1), (70, .aload_n 0, 1), (71, .getfield 21, 3), (74, .aload_n 0, 1), (75, .getfield 24, 3), (78, .imul, 1), (79, .ireturn, 1)]
def kX0_worth : List (Nat × Instr × Nat) := [(0, .aload_n 0, 1), (1, .getfield 9, 3), (4, .tableswitch 74 1 4 #[32, 54, 64, 42], 32), (36, .aload_n 0, 1), (37, .invokevirtual 64, 3), (40, .aload_n 0, 1), (41, .getfield 27, 3), (44, .iadd, 1), (45, .ireturn, 1), (46, .iconst 2, 1), (47, .aload_n 0, 1), (48, .invokevirtual 64, 3), (51, .aload_n 0, 1), (52, .getfield 27, 3), (55, .iadd, 1), (56, .imul, 1), (57, .ireturn, 1), (58, .aload_n 0, 1), (59, .invokevirtual 64, 3), (62, .aload_n 0, 1), (63, .getfield 43, 3), (66, .isub, 1), (67, .ireturn, 1), (68, .aload_n 0, 1), (69, .invokevirtual 64, 3), (72, .aload_n 0, 1), (73, .getfield 43, 3), (76, .isub, 1), (77, .ireturn, 1), (78, .aload_n 0, 1), (79, .invokevirtual 64, 3), (82, .ireturn, 1)]
def kX0_leastWide : List (Nat × Instr × Nat) := [(0, .aload_n 0, 1), (1, .iconst 0, 1), (2, .invokevirtual 46, 3), (5, .istore_n 1, 1), (6, .iconst 1, 1), (7, .istore_n 2, 1), (8, .iload_n 2, 1), (9, .aload_n 0, 1), (10, .invokevirtual 53, 3), (13, .if_icmp .ge 19, 3), (16, .iload_n 1, 1), (17, .aload_n 0, 1), (18, .iload_n 2, 1), (19, .invokevirtual 46, 3), (22, .invokestatic 67, 3), (25, .istore_n 1, 1), (26, .iinc 2 1, 3), (29, .goto (-21), 3), (32, .iload_n 1, 1), (33, .ireturn, 1)]
def kX0_leastHigh : List (Nat × Instr × Nat) := [(0, .aload_n 0, 1), (1, .iconst 0, 1), (2, .invokevirtual 50, 3), (5, .istore_n 1, 1), (6, .iconst 1, 1), (7, .istore_n 2, 1), (8, .iload_n 2, 1), (9, .aload_n 0, 1), (10, .invokevirtual 53, 3), (13, .if_icmp .ge 19, 3), (16, .iload_n 1, 1), (17, .aload_n 0, 1), (18, .iload_n 2, 1), (19, .invokevirtual 50, 3), (22, .invokestatic 67, 3), (25, .istore_n 1, 1), (26, .iinc 2 1, 3), (29, .goto (-21), 3), (32, .iload_n 1, 1), (33, .ireturn, 1)]
def kX0_ofItself : List (Nat × Instr × Nat) := [(0, .iload_n 1, 1), (1, .tableswitch 105 0 9 #[55, 60, 65, 70, 75, 80, 85, 90, 95, 100], 55), (56, .aload_n 0, 1), (57, .getfield 9, 3), (60, .ireturn, 1), (61, .aload_n 0, 1), (62, .getfield 15, 3), (65, .ireturn, 1), (66, .aload_n 0, 1), (67, .getfield 18, 3), (70, .ireturn, 1), (71, .aload_n 0, 1), (72, .getfield 27, 3), (75, .ireturn, 1), (76, .aload_n 0, 1), (77, .getfield 30, 3), (80, .ireturn, 1), (81, .aload_n 0, 1), (82, .getfield 43, 3), (85, .ireturn, 1), (86, .aload_n 0, 1), (87, .getfield 21, 3), (90, .ireturn, 1), (91, .aload_n 0, 1), (92, .getfield 24, 3), (95, .ireturn, 1), (96, .aload_n 0, 1), (97, .invokevirtual 64, 3), (100, .ireturn, 1), (101, .aload_n 0, 1), (102, .invokevirtual 73, 3), (105, .ireturn, 1), (106, .aload_n 0, 1), (107, .invokevirtual 53, 3), (110, .ireturn, 1)]
def kX0_sharedAcross : List (Nat × Instr × Nat) := [(0, .aload_n 0, 1), (1, .getfield 33, 3), (4, .aload_n 0, 1), (5, .getfield 21, 3), (8, .iadd, 1), (9, .aload_n 1, 1), (10, .getfield 33, 3), (13, .aload_n 1, 1), (14, .getfield 21, 3), (17, .iadd, 1), (18, .invokestatic 67, 3), (21, .aload_n 0, 1), (22, .getfield 33, 3), (25, .aload_n 1, 1), (26, .getfield 33, 3), (29, .invokestatic 76, 3), (32, .isub, 1), (33, .ireturn, 1)]
def kX0_sharedUp : List (Nat × Instr × Nat) := [(0, .aload_n 0, 1), (1, .getfield 36, 3), (4, .aload_n 0, 1), (5, .getfield 24, 3), (8, .iadd, 1), (9, .aload_n 1, 1), (10, .getfield 36, 3), (13, .aload_n 1, 1), (14, .getfield 24, 3), (17, .iadd, 1), (18, .invokestatic 67, 3), (21, .aload_n 0, 1), (22, .getfield 36, 3), (25, .aload_n 1, 1), (26, .getfield 36, 3), (29, .invokestatic 76, 3), (32, .isub, 1), (33, .ireturn, 1)]
def kX0_touches : List (Nat × Instr × Nat) := [(0, .aload_n 0, 1), (1, .getfield 30, 3), (4, .aload_n 1, 1), (5, .getfield 30, 3), (8, .if_icmp .eq 5, 3), (11, .iconst 0, 1), (12, .ireturn, 1), (13, .aload_n 0, 1), (14, .aload_n 1, 1), (15, .invokevirtual 79, 3), (18, .istore_n 2, 1), (19, .aload_n 0, 1), (20, .aload_n 1, 1), (21, .invokevirtual 83, 3), (24, .istore_n 3, 1), (25, .iload_n 2, 1), (26, .ifCond .ne 8, 3), (29, .iload_n 3, 1), (30, .iconst 1, 1), (31, .if_icmp .ge 12, 3), (34, .iload_n 3, 1), (35, .ifCond .ne 12, 3), (38, .iload_n 2, 1), (39, .iconst 1, 1), (40, .if_icmp .lt 7, 3), (43, .iconst 1, 1), (44, .goto 4, 3), (47, .iconst 0, 1), (48, .ireturn, 1)]
def kX0_liesOver : List (Nat × Instr × Nat) := [(0, .aload_n 0, 1), (1, .getfield 30, 3), (4, .aload_n 1, 1), (5, .getfield 30, 3), (8, .if_icmp .eq 25, 3), (11, .aload_n 0, 1), (12, .aload_n 1, 1), (13, .invokevirtual 79, 3), (16, .iconst 1, 1), (17, .if_icmp .lt 16, 3), (20, .aload_n 0, 1), (21, .aload_n 1, 1), (22, .invokevirtual 83, 3), (25, .iconst 1, 1), (26, .if_icmp .lt 7, 3), (29, .iconst 1, 1), (30, .goto 4, 3), (33, .iconst 0, 1), (34, .ireturn, 1)]
def kX1_takeFrom : List (Nat × Instr × Nat) := [(0, .aload_n 0, 1), (1, .aload_n 1, 1), (2, .getfield 47, 3), (5, .putfield 47, 3), (8, .iconst 0, 1), (9, .istore_n 2, 1), (10, .iload_n 2, 1), (11, .aload_n 0, 1), (12, .getfield 47, 3), (15, .if_icmp .ge 24, 3), (18, .aload_n 0, 1), (19, .getfield 11, 3), (22, .iload_n 2, 1), (23, .aaload, 1), (24, .aload_n 1, 1), (25, .getfield 11, 3), (28, .iload_n 2, 1), (29, .aaload, 1), (30, .invokevirtual 50, 3), (33, .iinc 2 1, 3), (36, .goto (-26), 3), (39, .aload_n 1, 1), (40, .getfield 17, 3), (43, .iconst 0, 1), (44, .aload_n 0, 1), (45, .getfield 17, 3), (48, .iconst 0, 1), (49, .bipush 8, 2), (51, .invokestatic 54, 3), (54, .aload_n 1, 1), (55, .getfield 21, 3), (58, .iconst 0, 1), (59, .aload_n 0, 1), (60, .getfield 21, 3), (63, .iconst 0, 1), (64, .bipush 8, 2), (66, .invokestatic 54, 3), (69, .aload_n 1, 1), (70, .getfield 33, 3), (73, .iconst 0, 1), (74, .aload_n 0, 1), (75, .getfield 33, 3), (78, .iconst 0, 1), (79, .iconst 5, 1), (80, .invokestatic 54, 3), (83, .aload_n 1, 1), (84, .getfield 36, 3), (87, .iconst 0, 1), (88, .aload_n 0, 1), (89, .getfield 36, 3), (92, .iconst 0, 1), (93, .bipush 10, 2), (95, .invokestatic 54, 3), (98, .aload_n 1, 1), (99, .getfield 39, 3), (102, .iconst 0, 1), (103, .aload_n 0, 1), (104, .getfield 39, 3), (107, .iconst 0, 1), (108, .bipush 10, 2), (110, .invokestatic 54, 3), (113, .aload_n 0, 1), (114, .aload_n 1, 1), (115, .getfield 60, 3), (118, .putfield 60, 3), (121, .aload_n 0, 1), (122, .aload_n 1, 1), (123, .getfield 42, 3), (126, .putfield 42, 3), (129, .aload_n 0, 1), (130, .invokevirtual 63, 3), (133, .return_, 1)]
def kX1_has : List (Nat × Instr × Nat) := [(0, .iload_n 1, 1), (1, .ifCond .lt 15, 3), (4, .iload_n 1, 1), (5, .aload_n 0, 1), (6, .getfield 47, 3), (9, .if_icmp .ge 7, 3), (12, .iconst 1, 1), (13, .goto 4, 3), (16, .iconst 0, 1), (17, .ireturn, 1)]
def kX1_addBlock : List (Nat × Instr × Nat) := [(0, .aload_n 0, 1), (1, .getfield 47, 3), (4, .istore 4, 2), (6, .aload_n 0, 1), (7, .getfield 11, 3), (10, .iload 4, 2), (12, .aaload, 1), (13, .iload_n 1, 1), (14, .iload_n 2, 1), (15, .iload_n 3, 1), (16, .invokevirtual 66, 3), (19, .aload_n 0, 1), (20, .getfield 17, 3), (23, .iload 4, 2), (25, .iload 4, 2), (27, .iastore, 1), (28, .aload_n 0, 1), (29, .getfield 21, 3), (32, .iload 4, 2), (34, .iload 4, 2), (36, .iastore, 1), (37, .aload_n 0, 1), (38, .dup, 1), (39, .getfield 47, 3), (42, .iconst 1, 1), (43, .iadd, 1), (44, .putfield 47, 3), (47, .aload_n 0, 1), (48, .invokevirtual 63, 3), (51, .iload 4, 2), (53, .ireturn, 1)]
def kX1_addNet : List (Nat × Instr × Nat) := [(0, .aload_n 0, 1), (1, .getfield 36, 3), (4, .aload_n 0, 1), (5, .getfield 60, 3), (8, .iload_n 1, 1), (9, .iastore, 1), (10, .aload_n 0, 1), (11, .getfield 39, 3), (14, .aload_n 0, 1), (15, .getfield 60, 3), (18, .iload_n 2, 1), (19, .iastore, 1), (20, .aload_n 0, 1), (21, .dup, 1), (22, .getfield 60, 3), (25, .iconst 1, 1), (26, .iadd, 1), (27, .putfield 60, 3), (30, .aload_n 0, 1), (31, .getfield 60, 3), (34, .iconst 1, 1), (35, .isub, 1), (36, .ireturn, 1)]
def kX1_settle : List (Nat × Instr × Nat) := [(0, .aload_n 0, 1), (1, .iconst 0, 1), (2, .putfield 70, 3), (5, .aload_n 0, 1), (6, .iconst 0, 1), (7, .putfield 73, 3), (10, .iconst 0, 1), (11, .istore_n 1, 1), (12, .iload_n 1, 1), (13, .aload_n 0, 1), (14, .getfield 47, 3), (17, .if_icmp .ge 33, 3), (20, .aload_n 0, 1), (21, .getfield 24, 3), (24, .aload_n 0, 1), (25, .getfield 17, 3), (28, .iload_n 1, 1), (29, .iaload, 1), (30, .iload_n 1, 1), (31, .iastore, 1), (32, .aload_n 0, 1), (33, .getfield 27, 3), (36, .aload_n 0, 1), (37, .getfield 21, 3), (40, .iload_n 1, 1), (41, .iaload, 1), (42, .iload_n 1, 1), (43, .iastore, 1), (44, .iinc 1 1, 3), (47, .goto (-35), 3), (50, .iconst 0, 1), (51, .istore_n 1, 1), (52, .iload_n 1, 1), (53, .aload_n 0, 1), (54, .getfield 47, 3), (57, .if_icmp .ge 14, 3), (60, .aload_n 0, 1), (61, .iload_n 1, 1), (62, .invokevirtual 76, 3), (65, .iinc 1 1, 3), (68, .goto (-16), 3), (71, .return_, 1)]
def kX1_seat : List (Nat × Instr × Nat) := [(0, .aload_n 0, 1), (1, .getfield 11, 3), (4, .aload_n 0, 1), (5, .getfield 21, 3), (8, .iload_n 1, 1), (9, .iaload, 1), (10, .aaload, 1), (11, .astore_n 2, 1), (12, .aload_n 0, 1), (13, .getfield 24, 3), (16, .aload_n 0, 1), (17, .getfield 21, 3), (20, .iload_n 1, 1), (21, .iaload, 1), (22, .iaload, 1), (23, .istore_n 3, 1), (24, .iconst 0, 1), (25, .istore 4, 2), (27, .iconst 0, 1), (28, .istore 5, 2), (30, .iconst 0, 1), (31, .istore 6, 2), (33, .iload 6, 2), (35, .iload_n 1, 1), (36, .if_icmp .ge 90, 3), (39, .aload_n 0, 1), (40, .getfield 11, 3), (43, .aload_n 0, 1), (44, .getfield 21, 3), (47, .iload 6, 2), (49, .iaload, 1), (50, .aaload, 1), (51, .astore 7, 2), (53, .aload 7, 2), (55, .getfield 80, 3), (58, .aload_n 2, 1), (59, .getfield 80, 3), (62, .if_icmp .ne 58, 3), (65, .aload_n 0, 1), (66, .getfield 24, 3), (69, .aload_n 0, 1), (70, .getfield 21, 3), (73, .iload 6, 2), (75, .iaload, 1), (76, .iaload, 1), (77, .iload_n 3, 1), (78, .if_icmp .ge 24, 3), (81, .iload 4, 2), (83, .aload 7, 2), (85, .getfield 83, 3), (88, .aload 7, 2), (90, .getfield 86, 3), (93, .iadd, 1), (94, .invokestatic 89, 3), (97, .istore 4, 2), (99, .goto 21, 3), (102, .iload 5, 2), (104, .aload 7, 2), (106, .getfield 95, 3), (109, .aload 7, 2), (111, .getfield 98, 3), (114, .iadd, 1), (115, .invokestatic 89, 3), (118, .istore 5, 2), (120, .iinc 6 1, 3), (123, .goto (-90), 3), (126, .aload_n 2, 1), (127, .iload 4, 2), (129, .putfield 83, 3), (132, .aload_n 2, 1), (133, .iload 5, 2), (135, .putfield 95, 3), (138, .aload_n 0, 1), (139, .aload_n 0, 1), (140, .getfield 70, 3), (143, .iload 4, 2), (145, .aload_n 2, 1), (146, .getfield 86, 3), (149, .iadd, 1), (150, .invokestatic 89, 3), (153, .putfield 70, 3), (156, .aload_n 0, 1), (157, .aload_n 0, 1), (158, .getfield 73, 3), (161, .iload 5, 2), (163, .aload_n 2, 1), (164, .getfield 98, 3), (167, .iadd, 1), (168, .invokestatic 89, 3), (171, .putfield 73, 3), (174, .return_, 1)]
def kX1_waste : List (Nat × Instr × Nat) := [(0, .aload_n 0, 1), (1, .invokevirtual 101, 3), (4, .ifCond .le 7, 3), (7, .iconst 2, 1), (8, .goto 4, 3), (11, .iconst 1, 1), (12, .istore_n 1, 1), (13, .iconst 0, 1), (14, .istore_n 2, 1), (15, .iconst 0, 1), (16, .istore_n 3, 1), (17, .iload_n 3, 1), (18, .aload_n 0, 1), (19, .getfield 47, 3), (22, .if_icmp .ge 31, 3), (25, .iload_n 2, 1), (26, .aload_n 0, 1), (27, .getfield 11, 3), (30, .iload_n 3, 1), (31, .aaload, 1), (32, .getfield 86, 3), (35, .aload_n 0, 1), (36, .getfield 11, 3), (39, .iload_n 3, 1), (40, .aaload, 1), (41, .getfield 98, 3), (44, .imul, 1), (45, .iadd, 1), (46, .istore_n 2, 1), (47, .iinc 3 1, 3), (50, .goto (-33), 3), (53, .aload_n 0, 1), (54, .getfield 70, 3), (57, .aload_n 0, 1), (58, .getfield 73, 3), (61, .imul, 1), (62, .iload_n 1, 1), (63, .imul, 1), (64, .iload_n 2, 1), (65, .isub, 1), (66, .ireturn, 1)]
def kX1_blocksAbove : List (Nat × Instr × Nat) := [(0, .iconst 0, 1), (1, .istore_n 1, 1), (2, .iconst 0, 1), (3, .istore_n 2, 1), (4, .iload_n 2, 1), (5, .aload_n 0, 1), (6, .getfield 47, 3), (9, .if_icmp .ge 21, 3), (12, .iload_n 1, 1), (13, .aload_n 0, 1), (14, .getfield 11, 3), (17, .iload_n 2, 1), (18, .aaload, 1), (19, .getfield 80, 3), (22, .iadd, 1), (23, .istore_n 1, 1), (24, .iinc 2 1, 3), (27, .goto (-23), 3), (30, .iload_n 1, 1), (31, .ireturn, 1)]
def kX1_wireOf : List (Nat × Instr × Nat) := [(0, .aload_n 0, 1), (1, .getfield 36, 3), (4, .iload_n 1, 1), (5, .iaload, 1), (6, .istore_n 2, 1), (7, .iconst 0, 1), (8, .istore_n 3, 1), (9, .iconst 0, 1), (10, .istore 4, 2), (12, .ldc 107, 2), (14, .istore 5, 2), (16, .ldc 108, 2), (18, .istore 6, 2), (20, .ldc 107, 2), (22, .istore 7, 2), (24, .ldc 108, 2), (26, .istore 8, 2), (28, .iconst 0, 1), (29, .istore 9, 2), (31, .iload 9, 2), (33, .aload_n 0, 1), (34, .getfield 47, 3), (37, .if_icmp .ge 109, 3), (40, .iload_n 2, 1), (41, .iload 9, 2), (43, .ishr, 1), (44, .iconst 1, 1), (45, .iand, 1), (46, .iconst 1, 1), (47, .if_icmp .ne 93, 3), (50, .aload_n 0, 1), (51, .getfield 11, 3), (54, .iload 9, 2), (56, .aaload, 1), (57, .astore 10, 2), (59, .iconst 2, 1), (60, .aload 10, 2), (62, .getfield 83, 3), (65, .imul, 1), (66, .aload 10, 2), (68, .getfield 86, 3), (71, .iadd, 1), (72, .istore 11, 2), (74, .iconst 2, 1), (75, .aload 10, 2), (77, .getfield 95, 3), (80, .imul, 1), (81, .aload 10, 2), (83, .getfield 98, 3), (86, .iadd, 1), (87, .istore 12, 2), (89, .iload 5, 2), (91, .iload 11, 2), (93, .invokestatic 109, 3), (96, .istore 5, 2), (98, .iload 6, 2), (100, .iload 11, 2), (102, .invokestatic 89, 3), (105, .istore 6, 2), (107, .iload 7, 2), (109, .iload 12, 2), (111, .invokestatic 109, 3), (114, .istore 7, 2), (116, .iload 8, 2), (118, .iload 12, 2), (120, .invokestatic 89, 3), (123, .istore 8, 2), (125, .iload 4, 2), (127, .iconst 1, 1), (128, .aload 10, 2), (130, .getfield 80, 3), (133, .ishl, 1), (134, .ior, 1), (135, .istore 4, 2), (137, .iinc 3 1, 3), (140, .iinc 9 1, 3), (143, .goto (-112), 3), (146, .iload_n 3, 1), (147, .iconst 2, 1), (148, .if_icmp .ge 5, 3), (151, .iconst 0, 1), (152, .ireturn, 1), (153, .iload 4, 2), (155, .iconst 3, 1), (156, .if_icmp .ne 14, 3), (159, .iconst 2, 1), (160, .aload_n 0, 1), (161, .getfield 33, 3), (164, .iconst 0, 1), (165, .iaload, 1), (166, .imul, 1), (167, .goto 4, 3), (170, .iconst 0, 1), (171, .istore 9, 2), (173, .iload 6, 2), (175, .iload 5, 2), (177, .isub, 1), (178, .iload 8, 2), (180, .iadd, 1), (181, .iload 7, 2), (183, .isub, 1), (184, .iload 9, 2), (186, .iadd, 1), (187, .aload_n 0, 1), (188, .getfield 39, 3), (191, .iload_n 1, 1), (192, .iaload, 1), (193, .imul, 1), (194, .ireturn, 1)]
def kX1_wires : List (Nat × Instr × Nat) := [(0, .iconst 0, 1), (1, .istore_n 1, 1), (2, .iconst 0, 1), (3, .istore_n 2, 1), (4, .iload_n 2, 1), (5, .aload_n 0, 1), (6, .getfield 60, 3), (9, .if_icmp .ge 17, 3), (12, .iload_n 1, 1), (13, .aload_n 0, 1), (14, .iload_n 2, 1), (15, .invokevirtual 112, 3), (18, .iadd, 1), (19, .istore_n 1, 1), (20, .iinc 2 1, 3), (23, .goto (-19), 3), (26, .iload_n 1, 1), (27, .ireturn, 1)]
def kX1_guessOf : List (Nat × Instr × Nat) := [(0, .iconst 0, 1), (1, .istore_n 2, 1), (2, .iconst 0, 1), (3, .istore_n 3, 1), (4, .iload_n 3, 1), (5, .aload_n 0, 1), (6, .getfield 47, 3), (9, .if_icmp .ge 35, 3), (12, .aload_n 0, 1), (13, .getfield 36, 3), (16, .iload_n 1, 1), (17, .iaload, 1), (18, .iload_n 3, 1), (19, .ishr, 1), (20, .iconst 1, 1), (21, .iand, 1), (22, .iconst 1, 1), (23, .if_icmp .ne 15, 3), (26, .iload_n 2, 1), (27, .aload_n 0, 1), (28, .getfield 11, 3), (31, .iload_n 3, 1), (32, .aaload, 1), (33, .invokevirtual 116, 3), (36, .iadd, 1), (37, .istore_n 2, 1), (38, .iinc 3 1, 3), (41, .goto (-37), 3), (44, .aload_n 0, 1), (45, .getfield 39, 3), (48, .iload_n 1, 1), (49, .iaload, 1), (50, .iconst 2, 1), (51, .imul, 1), (52, .iload_n 2, 1), (53, .invokestatic 119, 3), (56, .imul, 1), (57, .ireturn, 1)]
def kX1_wholeRoot : List (Nat × Instr × Nat) := [(0, .iconst 0, 1), (1, .istore_n 1, 1), (2, .iconst 1, 1), (3, .istore_n 2, 1), (4, .iload_n 2, 1), (5, .bipush 100, 2), (7, .if_icmp .gt 18, 3), (10, .iload_n 2, 1), (11, .iload_n 2, 1), (12, .imul, 1), (13, .iload_n 0, 1), (14, .if_icmp .gt 11, 3), (17, .iload_n 2, 1), (18, .istore_n 1, 1), (19, .iinc 2 1, 3), (22, .goto (-18), 3), (25, .iload_n 1, 1), (26, .ireturn, 1)]
def kX1_price : List (Nat × Instr × Nat) := [(0, .iconst 0, 1), (1, .aload_n 0, 1), (2, .getfield 70, 3), (5, .aload_n 0, 1), (6, .getfield 33, 3), (9, .iconst 4, 1), (10, .iaload, 1), (11, .isub, 1), (12, .invokestatic 89, 3), (15, .iconst 0, 1), (16, .aload_n 0, 1), (17, .getfield 73, 3), (20, .aload_n 0, 1), (21, .getfield 33, 3), (24, .iconst 4, 1), (25, .iaload, 1), (26, .isub, 1), (27, .invokestatic 89, 3), (30, .iadd, 1), (31, .istore_n 1, 1), (32, .aload_n 0, 1), (33, .getfield 70, 3), (36, .aload_n 0, 1), (37, .getfield 73, 3), (40, .imul, 1), (41, .aload_n 0, 1), (42, .getfield 33, 3), (45, .iconst 1, 1), (46, .iaload, 1), (47, .imul, 1), (48, .aload_n 0, 1), (49, .invokevirtual 122, 3), (52, .aload_n 0, 1), (53, .getfield 33, 3), (56, .iconst 2, 1), (57, .iaload, 1), (58, .imul, 1), (59, .iadd, 1), (60, .iload_n 1, 1), (61, .aload_n 0, 1), (62, .getfield 33, 3), (65, .iconst 3, 1), (66, .iaload, 1), (67, .imul, 1), (68, .iadd, 1), (69, .ireturn, 1)]
def kX1_canDo : List (Nat × Instr × Nat) := [(0, .iload_n 1, 1), (1, .iconst 4, 1), (2, .if_icmp .ne 16, 3), (5, .aload_n 0, 1), (6, .getfield 11, 3), (9, .iload_n 2, 1), (10, .aaload, 1), (11, .getfield 125, 3), (14, .iconst 4, 1), (15, .if_icmp .eq 7, 3), (18, .iconst 1, 1), (19, .goto 4, 3), (22, .iconst 0, 1), (23, .ireturn, 1)]
def kX1_doMove : List (Nat × Instr × Nat) := [(0, .iload_n 1, 1), (1, .tableswitch 108 0 3 #[31, 43, 55, 96], 31), (32, .aload_n 0, 1), (33, .getfield 17, 3), (36, .iload_n 2, 1), (37, .iload_n 3, 1), (38, .invokestatic 128, 3), (41, .goto 88, 3), (44, .aload_n 0, 1), (45, .getfield 21, 3), (48, .iload_n 2, 1), (49, .iload_n 3, 1), (50, .invokestatic 128, 3), (53, .goto 76, 3), (56, .aload_n 0, 1), (57, .getfield 17, 3), (60, .aload_n 0, 1), (61, .getfield 24, 3), (64, .iload_n 2, 1), (65, .iaload, 1), (66, .aload_n 0, 1), (67, .getfield 24, 3), (70, .iload_n 3, 1), (71, .iaload, 1), (72, .invokestatic 128, 3), (75, .aload_n 0, 1), (76, .getfield 21, 3), (79, .aload_n 0, 1), (80, .getfield 27, 3), (83, .iload_n 2, 1), (84, .iaload, 1), (85, .aload_n 0, 1), (86, .getfield 27, 3), (89, .iload_n 3, 1), (90, .iaload, 1), (91, .invokestatic 128, 3), (94, .goto 35, 3), (97, .aload_n 0, 1), (98, .getfield 11, 3), (101, .iload_n 2, 1), (102, .aaload, 1), (103, .invokevirtual 132, 3), (106, .goto 23, 3), (109, .aload_n 0, 1), (110, .getfield 11, 3), (113, .iload_n 2, 1), (114, .aaload, 1), (115, .iconst 1, 1), (116, .aload_n 0, 1), (117, .getfield 11, 3), (120, .iload_n 2, 1), (121, .aaload, 1), (122, .getfield 80, 3), (125, .isub, 1), (126, .putfield 80, 3), (129, .aload_n 0, 1), (130, .invokevirtual 63, 3), (133, .return_, 1)]
def kX1_undoMove : List (Nat × Instr × Nat) := [(0, .iload_n 1, 1), (1, .iconst 3, 1), (2, .if_icmp .ne 19, 3), (5, .aload_n 0, 1), (6, .getfield 11, 3), (9, .iload_n 2, 1), (10, .aaload, 1), (11, .invokevirtual 135, 3), (14, .aload_n 0, 1), (15, .invokevirtual 63, 3), (18, .goto 10, 3), (21, .aload_n 0, 1), (22, .iload_n 1, 1), (23, .iload_n 2, 1), (24, .iload_n 3, 1), (25, .invokevirtual 138, 3), (28, .return_, 1)]
def kX1_stepFrom : List (Nat × Instr × Nat) := [(0, .aload_n 0, 1), (1, .getfield 47, 3), (4, .ifCond .gt 5, 3), (7, .iload_n 1, 1), (8, .ireturn, 1), (9, .aload_n 0, 1), (10, .aload_n 0, 1), (11, .getfield 42, 3), (14, .ldc 141, 2), (16, .imul, 1), (17, .sipush 12345, 3), (20, .iadd, 1), (21, .putfield 42, 3), (24, .aload_n 0, 1), (25, .getfield 42, 3), (28, .bipush 8, 2), (30, .iushr, 1), (31, .istore_n 3, 1), (32, .iload_n 3, 1), (33, .iconst 5, 1), (34, .irem, 1), (35, .istore 4, 2), (37, .iload_n 3, 1), (38, .iconst 5, 1), (39, .idiv, 1), (40, .aload_n 0, 1), (41, .getfield 47, 3), (44, .irem, 1), (45, .istore 5, 2), (47, .iload_n 3, 1), (48, .bipush 50, 2), (50, .idiv, 1), (51, .aload_n 0, 1), (52, .getfield 47, 3), (55, .irem, 1), (56, .istore 6, 2), (58, .aload_n 0, 1), (59, .iload 4, 2), (61, .iload 5, 2), (63, .invokevirtual 142, 3), (66, .ifCond .ne 5, 3), (69, .iload_n 1, 1), (70, .ireturn, 1), (71, .aload_n 0, 1), (72, .iload 4, 2), (74, .iload 5, 2), (76, .iload 6, 2), (78, .invokevirtual 138, 3), (81, .aload_n 0, 1), (82, .invokevirtual 146, 3), (85, .istore 7, 2), (87, .iload 7, 2), (89, .iload_n 1, 1), (90, .if_icmp .le 11, 3), (93, .iload 7, 2), (95, .iload_n 1, 1), (96, .isub, 1), (97, .iload_n 2, 1), (98, .if_icmp .ge 6, 3), (101, .iload 7, 2), (103, .ireturn, 1), (104, .aload_n 0, 1), (105, .iload 4, 2), (107, .iload 5, 2), (109, .iload 6, 2), (111, .invokevirtual 149, 3), (114, .iload_n 1, 1), (115, .ireturn, 1)]
def kX1_roomsOn : List (Nat × Instr × Nat) := [(0, .iconst 0, 1), (1, .istore_n 2, 1), (2, .iconst 0, 1), (3, .istore_n 3, 1), (4, .iload_n 3, 1), (5, .aload_n 0, 1), (6, .getfield 47, 3), (9, .if_icmp .ge 34, 3), (12, .aload_n 0, 1), (13, .getfield 11, 3), (16, .iload_n 3, 1), (17, .aaload, 1), (18, .getfield 80, 3), (21, .iload_n 1, 1), (22, .if_icmp .ne 15, 3), (25, .iload_n 2, 1), (26, .aload_n 0, 1), (27, .getfield 11, 3), (30, .iload_n 3, 1), (31, .aaload, 1), (32, .invokevirtual 116, 3), (35, .iadd, 1), (36, .istore_n 2, 1), (37, .iinc 3 1, 3), (40, .goto (-36), 3), (43, .iload_n 2, 1), (44, .ireturn, 1)]
def kX1_greatestLeastWide : List (Nat × Instr × Nat) := [(0, .iconst 0, 1), (1, .istore_n 1, 1), (2, .iconst 0, 1), (3, .istore_n 2, 1), (4, .iload_n 2, 1), (5, .aload_n 0, 1), (6, .getfield 47, 3), (9, .if_icmp .ge 23, 3), (12, .iload_n 1, 1), (13, .aload_n 0, 1), (14, .getfield 11, 3), (17, .iload_n 2, 1), (18, .aaload, 1), (19, .invokevirtual 152, 3), (22, .invokestatic 89, 3), (25, .istore_n 1, 1), (26, .iinc 2 1, 3), (29, .goto (-25), 3), (32, .iload_n 1, 1), (33, .ireturn, 1)]
def kX1_greatestLeastHigh : List (Nat × Instr × Nat) := [(0, .iconst 0, 1), (1, .istore_n 1, 1), (2, .iconst 0, 1), (3, .istore_n 2, 1), (4, .iload_n 2, 1), (5, .aload_n 0, 1), (6, .getfield 47, 3), (9, .if_icmp .ge 23, 3), (12, .iload_n 1, 1), (13, .aload_n 0, 1), (14, .getfield 11, 3), (17, .iload_n 2, 1), (18, .aaload, 1), (19, .invokevirtual 155, 3), (22, .invokestatic 89, 3), (25, .istore_n 1, 1), (26, .iinc 2 1, 3), (29, .goto (-25), 3), (32, .iload_n 1, 1), (33, .ireturn, 1)]
def kX1_growsOf : List (Nat × Instr × Nat) := [(0, .aload_n 0, 1), (1, .getfield 47, 3), (4, .iconst 1, 1), (5, .isub, 1), (6, .istore_n 2, 1), (7, .iload_n 2, 1), (8, .ifCond .lt 40, 3), (11, .aload_n 0, 1), (12, .getfield 30, 3), (15, .aload_n 0, 1), (16, .getfield 21, 3), (19, .iload_n 2, 1), (20, .iaload, 1), (21, .aload_n 0, 1), (22, .getfield 11, 3), (25, .aload_n 0, 1), (26, .getfield 21, 3), (29, .iload_n 2, 1), (30, .iaload, 1), (31, .aaload, 1), (32, .getfield 86, 3), (35, .aload_n 0, 1), (36, .iload_n 2, 1), (37, .invokevirtual 158, 3), (40, .iadd, 1), (41, .iastore, 1), (42, .iinc 2 (-1), 3), (45, .goto (-38), 3), (48, .aload_n 0, 1), (49, .getfield 70, 3), (52, .aload_n 0, 1), (53, .getfield 11, 3), (56, .iload_n 1, 1), (57, .aaload, 1), (58, .getfield 83, 3), (61, .isub, 1), (62, .aload_n 0, 1), (63, .getfield 30, 3), (66, .iload_n 1, 1), (67, .iaload, 1), (68, .isub, 1), (69, .ireturn, 1)]
def kX1_reachBehind : List (Nat × Instr × Nat) := [(0, .aload_n 0, 1), (1, .getfield 21, 3), (4, .iload_n 1, 1), (5, .iaload, 1), (6, .istore_n 2, 1), (7, .iconst 0, 1), (8, .istore_n 3, 1), (9, .iload_n 1, 1), (10, .iconst 1, 1), (11, .iadd, 1), (12, .istore 4, 2), (14, .iload 4, 2), (16, .aload_n 0, 1), (17, .getfield 47, 3), (20, .if_icmp .ge 68, 3), (23, .aload_n 0, 1), (24, .getfield 21, 3), (27, .iload 4, 2), (29, .iaload, 1), (30, .istore 5, 2), (32, .aload_n 0, 1), (33, .getfield 24, 3), (36, .iload_n 2, 1), (37, .iaload, 1), (38, .aload_n 0, 1), (39, .getfield 24, 3), (42, .iload 5, 2), (44, .iaload, 1), (45, .if_icmp .ge 37, 3), (48, .aload_n 0, 1), (49, .getfield 11, 3), (52, .iload_n 2, 1), (53, .aaload, 1), (54, .getfield 80, 3), (57, .aload_n 0, 1), (58, .getfield 11, 3), (61, .iload 5, 2), (63, .aaload, 1), (64, .getfield 80, 3), (67, .if_icmp .ne 15, 3), (70, .iload_n 3, 1), (71, .aload_n 0, 1), (72, .getfield 30, 3), (75, .iload 5, 2), (77, .iaload, 1), (78, .invokestatic 89, 3), (81, .istore_n 3, 1), (82, .iinc 4 1, 3), (85, .goto (-71), 3), (88, .iload_n 3, 1), (89, .ireturn, 1)]
def kX1_heatOf : List (Nat × Instr × Nat) := [(0, .aload_n 0, 1), (1, .getfield 11, 3), (4, .iload_n 1, 1), (5, .aaload, 1), (6, .astore_n 2, 1), (7, .iconst 4, 1), (8, .aload_n 2, 1), (9, .getfield 161, 3), (12, .imul, 1), (13, .istore_n 3, 1), (14, .iconst 0, 1), (15, .istore 4, 2), (17, .iload 4, 2), (19, .aload_n 0, 1), (20, .getfield 47, 3), (23, .if_icmp .ge 68, 3), (26, .aload_n 2, 1), (27, .aload_n 0, 1), (28, .getfield 11, 3), (31, .iload 4, 2), (33, .aaload, 1), (34, .invokevirtual 164, 3), (37, .ifCond .eq 19, 3), (40, .iload_n 3, 1), (41, .aload_n 0, 1), (42, .getfield 11, 3), (45, .iload 4, 2), (47, .aaload, 1), (48, .getfield 161, 3), (51, .iadd, 1), (52, .istore_n 3, 1), (53, .goto 32, 3), (56, .aload_n 2, 1), (57, .aload_n 0, 1), (58, .getfield 11, 3), (61, .iload 4, 2), (63, .aaload, 1), (64, .invokevirtual 168, 3), (67, .ifCond .eq 18, 3), (70, .iload_n 3, 1), (71, .iconst 2, 1), (72, .aload_n 0, 1), (73, .getfield 11, 3), (76, .iload 4, 2), (78, .aaload, 1), (79, .getfield 161, 3), (82, .imul, 1), (83, .iadd, 1), (84, .istore_n 3, 1), (85, .iinc 4 1, 3), (88, .goto (-71), 3), (91, .iload_n 3, 1), (92, .ireturn, 1)]
def kX1_hottestBlock : List (Nat × Instr × Nat) := [(0, .iconst 0, 1), (1, .istore_n 1, 1), (2, .iconst (-1), 1), (3, .istore_n 2, 1), (4, .iconst 0, 1), (5, .istore_n 3, 1), (6, .iload_n 3, 1), (7, .aload_n 0, 1), (8, .getfield 47, 3), (11, .if_icmp .ge 27, 3), (14, .aload_n 0, 1), (15, .iload_n 3, 1), (16, .invokevirtual 171, 3), (19, .istore 4, 2), (21, .iload 4, 2), (23, .iload_n 2, 1), (24, .if_icmp .le 8, 3), (27, .iload 4, 2), (29, .istore_n 2, 1), (30, .iload_n 3, 1), (31, .istore_n 1, 1), (32, .iinc 3 1, 3), (35, .goto (-29), 3), (38, .iload_n 1, 1), (39, .ireturn, 1)]
def kX1_greatestHeat : List (Nat × Instr × Nat) := [(0, .aload_n 0, 1), (1, .getfield 47, 3), (4, .ifCond .ne 7, 3), (7, .iconst 0, 1), (8, .goto 11, 3), (11, .aload_n 0, 1), (12, .aload_n 0, 1), (13, .invokevirtual 174, 3), (16, .invokevirtual 171, 3), (19, .ireturn, 1)]
def kX2_takeFrom : List (Nat × Instr × Nat) := [(0, .aload_n 1, 1), (1, .getfield 9, 3), (4, .iconst 0, 1), (5, .aload_n 0, 1), (6, .getfield 9, 3), (9, .iconst 0, 1), (10, .bipush 8, 2), (12, .invokestatic 21, 3), (15, .aload_n 1, 1), (16, .getfield 15, 3), (19, .iconst 0, 1), (20, .aload_n 0, 1), (21, .getfield 15, 3), (24, .iconst 0, 1), (25, .bipush 8, 2), (27, .invokestatic 21, 3), (30, .aload_n 1, 1), (31, .getfield 18, 3), (34, .iconst 0, 1), (35, .aload_n 0, 1), (36, .getfield 18, 3), (39, .iconst 0, 1), (40, .bipush 8, 2), (42, .invokestatic 21, 3), (45, .aload_n 0, 1), (46, .aload_n 1, 1), (47, .getfield 27, 3), (50, .putfield 27, 3), (53, .return_, 1)]
def kX2_add : List (Nat × Instr × Nat) := [(0, .aload_n 0, 1), (1, .getfield 9, 3), (4, .aload_n 0, 1), (5, .getfield 27, 3), (8, .aload_n 1, 1), (9, .getfield 31, 3), (12, .aload_n 1, 1), (13, .getfield 36, 3), (16, .imul, 1), (17, .iastore, 1), (18, .aload_n 0, 1), (19, .getfield 15, 3), (22, .aload_n 0, 1), (23, .getfield 27, 3), (26, .aload_n 1, 1), (27, .invokevirtual 39, 3), (30, .iastore, 1), (31, .aload_n 0, 1), (32, .getfield 18, 3), (35, .aload_n 0, 1), (36, .getfield 27, 3), (39, .aload_n 1, 1), (40, .invokevirtual 42, 3), (43, .iastore, 1), (44, .aload_n 0, 1), (45, .dup, 1), (46, .getfield 27, 3), (49, .iconst 1, 1), (50, .iadd, 1), (51, .putfield 27, 3), (54, .aload_n 0, 1), (55, .getfield 27, 3), (58, .iconst 1, 1), (59, .isub, 1), (60, .ireturn, 1)]
def kX2_isBeaten : List (Nat × Instr × Nat) := [(0, .iconst 0, 1), (1, .istore_n 2, 1), (2, .iload_n 2, 1), (3, .aload_n 0, 1), (4, .getfield 27, 3), (7, .if_icmp .ge 20, 3), (10, .aload_n 0, 1), (11, .iload_n 2, 1), (12, .iload_n 1, 1), (13, .invokevirtual 45, 3), (16, .ifCond .eq 5, 3), (19, .iconst 1, 1), (20, .ireturn, 1), (21, .iinc 2 1, 3), (24, .goto (-22), 3), (27, .iconst 0, 1), (28, .ireturn, 1)]
def kX2_beats : List (Nat × Instr × Nat) := [(0, .aload_n 0, 1), (1, .getfield 9, 3), (4, .iload_n 1, 1), (5, .iaload, 1), (6, .aload_n 0, 1), (7, .getfield 9, 3), (10, .iload_n 2, 1), (11, .iaload, 1), (12, .if_icmp .gt 37, 3), (15, .aload_n 0, 1), (16, .getfield 15, 3), (19, .iload_n 1, 1), (20, .iaload, 1), (21, .aload_n 0, 1), (22, .getfield 15, 3), (25, .iload_n 2, 1), (26, .iaload, 1), (27, .if_icmp .gt 22, 3), (30, .aload_n 0, 1), (31, .getfield 18, 3), (34, .iload_n 1, 1), (35, .iaload, 1), (36, .aload_n 0, 1), (37, .getfield 18, 3), (40, .iload_n 2, 1), (41, .iaload, 1), (42, .if_icmp .gt 7, 3), (45, .iconst 1, 1), (46, .goto 4, 3), (49, .iconst 0, 1), (50, .istore_n 3, 1), (51, .aload_n 0, 1), (52, .getfield 9, 3), (55, .iload_n 1, 1), (56, .iaload, 1), (57, .aload_n 0, 1), (58, .getfield 9, 3), (61, .iload_n 2, 1), (62, .iaload, 1), (63, .if_icmp .lt 33, 3), (66, .aload_n 0, 1), (67, .getfield 15, 3), (70, .iload_n 1, 1), (71, .iaload, 1), (72, .aload_n 0, 1), (73, .getfield 15, 3), (76, .iload_n 2, 1), (77, .iaload, 1), (78, .if_icmp .lt 18, 3), (81, .aload_n 0, 1), (82, .getfield 18, 3), (85, .iload_n 1, 1), (86, .iaload, 1), (87, .aload_n 0, 1), (88, .getfield 18, 3), (91, .iload_n 2, 1), (92, .iaload, 1), (93, .if_icmp .ge 7, 3), (96, .iconst 1, 1), (97, .goto 4, 3), (100, .iconst 0, 1), (101, .istore 4, 2), (103, .iload_n 3, 1), (104, .ifCond .eq 12, 3), (107, .iload 4, 2), (109, .ifCond .eq 7, 3), (112, .iconst 1, 1), (113, .goto 4, 3), (116, .iconst 0, 1), (117, .ireturn, 1)]
def kX3_addFour : List (Nat × Instr × Nat) := [(0, .bipush 24, 2), (2, .istore_n 2, 1), (3, .iload_n 2, 1), (4, .ifCond .lt 44, 3), (7, .aload_n 0, 1), (8, .getfield 22, 3), (11, .bipush 96, 2), (13, .if_icmp .ge 35, 3), (16, .aload_n 0, 1), (17, .getfield 9, 3), (20, .aload_n 0, 1), (21, .getfield 22, 3), (24, .iload_n 1, 1), (25, .iload_n 2, 1), (26, .iushr, 1), (27, .sipush 255, 3), (30, .iand, 1), (31, .iastore, 1), (32, .aload_n 0, 1), (33, .dup, 1), (34, .getfield 22, 3), (37, .iconst 1, 1), (38, .iadd, 1), (39, .putfield 22, 3), (42, .iinc 2 (-8), 3), (45, .goto (-42), 3), (48, .return_, 1)]
def kX3_readText : List (Nat × Instr × Nat) := [(0, .aload_n 0, 1), (1, .iconst 0, 1), (2, .putfield 26, 3), (5, .aload_n 0, 1), (6, .iconst (-1), 1), (7, .putfield 29, 3), (10, .aload_n 0, 1), (11, .invokevirtual 32, 3), (14, .aload_n 0, 1), (15, .invokevirtual 35, 3), (18, .ifCond .eq 24, 3), (21, .aload_n 0, 1), (22, .iconst 0, 1), (23, .iconst 0, 1), (24, .invokevirtual 39, 3), (27, .ifCond .eq 15, 3), (30, .aload_n 0, 1), (31, .getfield 29, 3), (34, .iconst (-1), 1), (35, .if_icmp .ne 7, 3), (38, .iconst 1, 1), (39, .goto 4, 3), (42, .iconst 0, 1), (43, .ireturn, 1)]
def kX3_readHead : List (Nat × Instr × Nat) := [(0, .aload_n 0, 1), (1, .ldc 43, 2), (3, .invokevirtual 45, 3), (6, .ifCond .eq 18, 3), (9, .aload_n 0, 1), (10, .getfield 18, 3), (13, .bipush 8, 2), (15, .invokevirtual 49, 3), (18, .aload_n 0, 1), (19, .invokevirtual 32, 3), (22, .iconst 1, 1), (23, .ireturn, 1), (24, .aload_n 0, 1), (25, .ldc 53, 2), (27, .invokevirtual 45, 3), (30, .ifCond .ne 5, 3), (33, .iconst 0, 1), (34, .ireturn, 1), (35, .aload_n 0, 1), (36, .invokevirtual 32, 3), (39, .aload_n 0, 1), (40, .getfield 29, 3), (43, .bipush (-3), 2), (45, .if_icmp .ne 30, 3), (48, .aload_n 0, 1), (49, .getfield 26, 3), (52, .aload_n 0, 1), (53, .getfield 55, 3), (56, .isub, 1), (57, .iconst 1, 1), (58, .if_icmp .ne 17, 3), (61, .aload_n 0, 1), (62, .getfield 9, 3), (65, .aload_n 0, 1), (66, .getfield 55, 3), (69, .iaload, 1), (70, .bipush 55, 2), (72, .if_icmp .le 5, 3), (75, .iconst 0, 1), (76, .ireturn, 1), (77, .aload_n 0, 1), (78, .getfield 18, 3), (81, .aload_n 0, 1), (82, .getfield 9, 3), (85, .aload_n 0, 1), (86, .getfield 55, 3), (89, .iaload, 1), (90, .bipush 48, 2), (92, .isub, 1), (93, .invokevirtual 49, 3), (96, .aload_n 0, 1), (97, .invokevirtual 32, 3), (100, .iconst 1, 1), (101, .ireturn, 1)]
def kX3_readOr : List (Nat × Instr × Nat) := [(0, .aload_n 0, 1), (1, .iload_n 1, 1), (2, .iload_n 2, 1), (3, .invokevirtual 58, 3), (6, .istore_n 3, 1), (7, .iconst 0, 1), (8, .istore 4, 2), (10, .iload 4, 2), (12, .bipush 96, 2), (14, .if_icmp .ge 42, 3), (17, .iload_n 3, 1), (18, .ifCond .eq 38, 3), (21, .aload_n 0, 1), (22, .getfield 29, 3), (25, .bipush 124, 2), (27, .if_icmp .ne 29, 3), (30, .aload_n 0, 1), (31, .invokevirtual 32, 3), (34, .aload_n 0, 1), (35, .iload_n 1, 1), (36, .iload_n 2, 1), (37, .invokevirtual 58, 3), (40, .istore_n 3, 1), (41, .aload_n 0, 1), (42, .getfield 18, 3), (45, .bipush 124, 2), (47, .invokevirtual 61, 3), (50, .iinc 4 1, 3), (53, .goto (-43), 3), (56, .iload_n 3, 1), (57, .ireturn, 1)]
def kX3_readAnd : List (Nat × Instr × Nat) := [(0, .aload_n 0, 1), (1, .iload_n 1, 1), (2, .iload_n 2, 1), (3, .invokevirtual 64, 3), (6, .istore_n 3, 1), (7, .iconst 0, 1), (8, .istore 4, 2), (10, .iload 4, 2), (12, .bipush 96, 2), (14, .if_icmp .ge 42, 3), (17, .iload_n 3, 1), (18, .ifCond .eq 38, 3), (21, .aload_n 0, 1), (22, .getfield 29, 3), (25, .bipush 38, 2), (27, .if_icmp .ne 29, 3), (30, .aload_n 0, 1), (31, .invokevirtual 32, 3), (34, .aload_n 0, 1), (35, .iload_n 1, 1), (36, .iload_n 2, 1), (37, .invokevirtual 64, 3), (40, .istore_n 3, 1), (41, .aload_n 0, 1), (42, .getfield 18, 3), (45, .bipush 38, 2), (47, .invokevirtual 61, 3), (50, .iinc 4 1, 3), (53, .goto (-43), 3), (56, .iload_n 3, 1), (57, .ireturn, 1)]
def kX3_readTest : List (Nat × Instr × Nat) := [(0, .aload_n 0, 1), (1, .iload_n 1, 1), (2, .iload_n 2, 1), (3, .invokevirtual 67, 3), (6, .istore_n 3, 1), (7, .iload_n 3, 1), (8, .ifCond .eq 56, 3), (11, .aload_n 0, 1), (12, .getfield 29, 3), (15, .bipush 60, 2), (17, .if_icmp .eq 21, 3), (20, .aload_n 0, 1), (21, .getfield 29, 3), (24, .bipush 61, 2), (26, .if_icmp .eq 12, 3), (29, .aload_n 0, 1), (30, .getfield 29, 3), (33, .bipush 62, 2), (35, .if_icmp .ne 29, 3), (38, .aload_n 0, 1), (39, .getfield 29, 3), (42, .istore 4, 2), (44, .aload_n 0, 1), (45, .invokevirtual 32, 3), (48, .aload_n 0, 1), (49, .iload_n 1, 1), (50, .iload_n 2, 1), (51, .invokevirtual 67, 3), (54, .istore_n 3, 1), (55, .aload_n 0, 1), (56, .getfield 18, 3), (59, .iload 4, 2), (61, .invokevirtual 61, 3), (64, .iload_n 3, 1), (65, .ireturn, 1)]
def kX3_readSum : List (Nat × Instr × Nat) := [(0, .aload_n 0, 1), (1, .iload_n 1, 1), (2, .iload_n 2, 1), (3, .invokevirtual 70, 3), (6, .istore_n 3, 1), (7, .iconst 0, 1), (8, .istore 4, 2), (10, .iload 4, 2), (12, .bipush 96, 2), (14, .if_icmp .ge 57, 3), (17, .iload_n 3, 1), (18, .ifCond .eq 53, 3), (21, .aload_n 0, 1), (22, .getfield 29, 3), (25, .bipush 43, 2), (27, .if_icmp .eq 12, 3), (30, .aload_n 0, 1), (31, .getfield 29, 3), (34, .bipush 45, 2), (36, .if_icmp .ne 35, 3), (39, .aload_n 0, 1), (40, .getfield 29, 3), (43, .istore 5, 2), (45, .aload_n 0, 1), (46, .invokevirtual 32, 3), (49, .aload_n 0, 1), (50, .iload_n 1, 1), (51, .iload_n 2, 1), (52, .invokevirtual 70, 3), (55, .istore_n 3, 1), (56, .aload_n 0, 1), (57, .getfield 18, 3), (60, .iload 5, 2), (62, .invokevirtual 61, 3), (65, .iinc 4 1, 3), (68, .goto (-58), 3), (71, .iload_n 3, 1), (72, .ireturn, 1)]
def kX3_readTerm : List (Nat × Instr × Nat) := [(0, .aload_n 0, 1), (1, .iload_n 1, 1), (2, .iload_n 2, 1), (3, .invokevirtual 73, 3), (6, .istore_n 3, 1), (7, .iconst 0, 1), (8, .istore 4, 2), (10, .iload 4, 2), (12, .bipush 96, 2), (14, .if_icmp .ge 57, 3), (17, .iload_n 3, 1), (18, .ifCond .eq 53, 3), (21, .aload_n 0, 1), (22, .getfield 29, 3), (25, .bipush 42, 2), (27, .if_icmp .eq 12, 3), (30, .aload_n 0, 1), (31, .getfield 29, 3), (34, .bipush 47, 2), (36, .if_icmp .ne 35, 3), (39, .aload_n 0, 1), (40, .getfield 29, 3), (43, .istore 5, 2), (45, .aload_n 0, 1), (46, .invokevirtual 32, 3), (49, .aload_n 0, 1), (50, .iload_n 1, 1), (51, .iload_n 2, 1), (52, .invokevirtual 73, 3), (55, .istore_n 3, 1), (56, .aload_n 0, 1), (57, .getfield 18, 3), (60, .iload 5, 2), (62, .invokevirtual 61, 3), (65, .iinc 4 1, 3), (68, .goto (-58), 3), (71, .iload_n 3, 1), (72, .ireturn, 1)]
def kX3_readPiece : List (Nat × Instr × Nat) := [(0, .aload_n 0, 1), (1, .getfield 29, 3), (4, .lookupswitch 100 #[(-3, 44), (-2, 49), (33, 54), (40, 77)], 44), (48, .aload_n 0, 1), (49, .invokevirtual 76, 3), (52, .ireturn, 1), (53, .aload_n 0, 1), (54, .invokevirtual 79, 3), (57, .ireturn, 1), (58, .iload_n 2, 1), (59, .bipush 8, 2), (61, .if_icmp .ge 18, 3), (64, .aload_n 0, 1), (65, .iload_n 1, 1), (66, .iload_n 2, 1), (67, .iconst 1, 1), (68, .iadd, 1), (69, .invokevirtual 82, 3), (72, .ifCond .eq 7, 3), (75, .iconst 1, 1), (76, .goto 4, 3), (79, .iconst 0, 1), (80, .ireturn, 1), (81, .iload_n 1, 1), (82, .bipush 8, 2), (84, .if_icmp .ge 18, 3), (87, .aload_n 0, 1), (88, .iload_n 1, 1), (89, .iconst 1, 1), (90, .iadd, 1), (91, .iload_n 2, 1), (92, .invokevirtual 85, 3), (95, .ifCond .eq 7, 3), (98, .iconst 1, 1), (99, .goto 4, 3), (102, .iconst 0, 1), (103, .ireturn, 1), (104, .iconst 0, 1), (105, .ireturn, 1)]
def kX3_readNot : List (Nat × Instr × Nat) := [(0, .aload_n 0, 1), (1, .invokevirtual 32, 3), (4, .aload_n 0, 1), (5, .iload_n 1, 1), (6, .iload_n 2, 1), (7, .invokevirtual 73, 3), (10, .istore_n 3, 1), (11, .aload_n 0, 1), (12, .getfield 18, 3), (15, .bipush 33, 2), (17, .invokevirtual 61, 3), (20, .iload_n 3, 1), (21, .ireturn, 1)]
def kX3_readOpen : List (Nat × Instr × Nat) := [(0, .aload_n 0, 1), (1, .invokevirtual 32, 3), (4, .aload_n 0, 1), (5, .iload_n 1, 1), (6, .iload_n 2, 1), (7, .invokevirtual 39, 3), (10, .ifCond .eq 12, 3), (13, .aload_n 0, 1), (14, .getfield 29, 3), (17, .bipush 41, 2), (19, .if_icmp .eq 5, 3), (22, .iconst 0, 1), (23, .ireturn, 1), (24, .aload_n 0, 1), (25, .invokevirtual 32, 3), (28, .iconst 1, 1), (29, .ireturn, 1)]
def kX3_readNumber : List (Nat × Instr × Nat) := [(0, .aload_n 0, 1), (1, .getfield 26, 3), (4, .aload_n 0, 1), (5, .getfield 55, 3), (8, .isub, 1), (9, .iconst 4, 1), (10, .if_icmp .le 5, 3), (13, .iconst 0, 1), (14, .ireturn, 1), (15, .iconst 0, 1), (16, .istore_n 1, 1), (17, .aload_n 0, 1), (18, .getfield 55, 3), (21, .istore_n 2, 1), (22, .iload_n 2, 1), (23, .aload_n 0, 1), (24, .getfield 26, 3), (27, .if_icmp .ge 24, 3), (30, .iload_n 1, 1), (31, .bipush 10, 2), (33, .imul, 1), (34, .aload_n 0, 1), (35, .getfield 9, 3), (38, .iload_n 2, 1), (39, .iaload, 1), (40, .bipush 48, 2), (42, .isub, 1), (43, .iadd, 1), (44, .istore_n 1, 1), (45, .iinc 2 1, 3), (48, .goto (-26), 3), (51, .aload_n 0, 1), (52, .getfield 18, 3), (55, .iload_n 1, 1), (56, .invokevirtual 88, 3), (59, .aload_n 0, 1), (60, .invokevirtual 32, 3), (63, .iconst 1, 1), (64, .ireturn, 1)]
def kX3_readName : List (Nat × Instr × Nat) := [(0, .aload_n 0, 1), (1, .getfield 18, 3), (4, .invokevirtual 91, 3), (7, .ifCond .eq 8, 3), (10, .ldc 94, 2), (12, .goto 5, 3), (15, .ldc 96, 2), (17, .astore_n 1, 1), (18, .aload_n 0, 1), (19, .getfield 26, 3), (22, .aload_n 0, 1), (23, .getfield 55, 3), (26, .isub, 1), (27, .iconst 1, 1), (28, .if_icmp .ne 20, 3), (31, .aload_n 1, 1), (32, .aload_n 0, 1), (33, .getfield 9, 3), (36, .aload_n 0, 1), (37, .getfield 55, 3), (40, .iaload, 1), (41, .i2c, 1), (42, .invokevirtual 98, 3), (45, .ifCond .ge 5, 3), (48, .iconst 0, 1), (49, .ireturn, 1), (50, .aload_n 0, 1), (51, .getfield 18, 3), (54, .aload_n 0, 1), (55, .getfield 9, 3), (58, .aload_n 0, 1), (59, .getfield 55, 3), (62, .iaload, 1), (63, .invokevirtual 104, 3), (66, .aload_n 0, 1), (67, .invokevirtual 32, 3), (70, .iconst 1, 1), (71, .ireturn, 1)]
def kX3_advance : List (Nat × Instr × Nat) := [(0, .aload_n 0, 1), (1, .getfield 29, 3), (4, .bipush (-2), 2), (6, .if_icmp .eq 12, 3), (9, .aload_n 0, 1), (10, .getfield 29, 3), (13, .bipush (-3), 2), (15, .if_icmp .ne 7, 3), (18, .iconst 1, 1), (19, .goto 4, 3), (22, .iconst 0, 1), (23, .istore_n 1, 1), (24, .aload_n 0, 1), (25, .aload_n 0, 1), (26, .getfield 26, 3), (29, .putfield 55, 3), (32, .aload_n 0, 1), (33, .getfield 55, 3), (36, .aload_n 0, 1), (37, .getfield 22, 3), (40, .if_icmp .ge 30, 3), (43, .aload_n 0, 1), (44, .getfield 9, 3), (47, .aload_n 0, 1), (48, .getfield 55, 3), (51, .iaload, 1), (52, .bipush 32, 2), (54, .if_icmp .ne 16, 3), (57, .aload_n 0, 1), (58, .dup, 1), (59, .getfield 55, 3), (62, .iconst 1, 1), (63, .iadd, 1), (64, .putfield 55, 3), (67, .goto (-35), 3), (70, .aload_n 0, 1), (71, .getfield 55, 3), (74, .aload_n 0, 1), (75, .getfield 22, 3), (78, .if_icmp .lt 17, 3), (81, .aload_n 0, 1), (82, .iconst (-1), 1), (83, .putfield 29, 3), (86, .aload_n 0, 1), (87, .aload_n 0, 1), (88, .getfield 22, 3), (91, .putfield 26, 3), (94, .return_, 1), (95, .aload_n 0, 1), (96, .getfield 9, 3), (99, .aload_n 0, 1), (100, .getfield 55, 3), (103, .iaload, 1), (104, .invokestatic 107, 3), (107, .istore_n 2, 1), (108, .iload_n 2, 1), (109, .bipush (-2), 2), (111, .if_icmp .eq 9, 3), (114, .iload_n 2, 1), (115, .bipush (-3), 2), (117, .if_icmp .ne 7, 3), (120, .iconst 1, 1), (121, .goto 4, 3), (124, .iconst 0, 1), (125, .istore_n 3, 1), (126, .aload_n 0, 1), (127, .iload_n 3, 1), (128, .ifCond .eq 23, 3), (131, .iload_n 1, 1), (132, .ifCond .eq 19, 3), (135, .aload_n 0, 1), (136, .getfield 55, 3), (139, .aload_n 0, 1), (140, .getfield 26, 3), (143, .if_icmp .ne 8, 3), (146, .bipush (-4), 2), (148, .goto 4, 3), (151, .iload_n 2, 1), (152, .putfield 29, 3), (155, .aload_n 0, 1), (156, .aload_n 0, 1), (157, .getfield 55, 3), (160, .iconst 1, 1), (161, .iadd, 1), (162, .putfield 26, 3), (165, .iload_n 3, 1), (166, .ifCond .eq 43, 3), (169, .aload_n 0, 1), (170, .getfield 26, 3), (173, .aload_n 0, 1), (174, .getfield 22, 3), (177, .if_icmp .ge 32, 3), (180, .aload_n 0, 1), (181, .getfield 9, 3), (184, .aload_n 0, 1), (185, .getfield 26, 3), (188, .iaload, 1), (189, .invokestatic 107, 3), (192, .iload_n 2, 1), (193, .if_icmp .ne 16, 3), (196, .aload_n 0, 1), (197, .dup, 1), (198, .getfield 26, 3), (201, .iconst 1, 1), (202, .iadd, 1), (203, .putfield 26, 3), (206, .goto (-41), 3), (209, .return_, 1)]
def kX3_sortOf : List (Nat × Instr × Nat) := [(0, .iload_n 0, 1), (1, .bipush 97, 2), (3, .if_icmp .lt 12, 3), (6, .iload_n 0, 1), (7, .bipush 122, 2), (9, .if_icmp .gt 6, 3), (12, .bipush (-2), 2), (14, .ireturn, 1), (15, .iload_n 0, 1), (16, .bipush 48, 2), (18, .if_icmp .lt 14, 3), (21, .iload_n 0, 1), (22, .bipush 57, 2), (24, .if_icmp .gt 8, 3), (27, .bipush (-3), 2), (29, .goto 4, 3), (32, .iload_n 0, 1), (33, .ireturn, 1)]
def kX3_isWord : List (Nat × Instr × Nat) := [(0, .aload_n 0, 1), (1, .getfield 29, 3), (4, .bipush (-2), 2), (6, .if_icmp .ne 19, 3), (9, .aload_n 0, 1), (10, .getfield 26, 3), (13, .aload_n 0, 1), (14, .getfield 55, 3), (17, .isub, 1), (18, .aload_n 1, 1), (19, .invokevirtual 110, 3), (22, .if_icmp .eq 5, 3), (25, .iconst 0, 1), (26, .ireturn, 1), (27, .iconst 0, 1), (28, .istore_n 2, 1), (29, .iload_n 2, 1), (30, .aload_n 1, 1), (31, .invokevirtual 110, 3), (34, .if_icmp .ge 30, 3), (37, .aload_n 0, 1), (38, .getfield 9, 3), (41, .aload_n 0, 1), (42, .getfield 55, 3), (45, .iload_n 2, 1), (46, .iadd, 1), (47, .iaload, 1), (48, .aload_n 1, 1), (49, .iload_n 2, 1), (50, .invokevirtual 113, 3), (53, .if_icmp .eq 5, 3), (56, .iconst 0, 1), (57, .ireturn, 1), (58, .iinc 2 1, 3), (61, .goto (-32), 3), (64, .iconst 1, 1), (65, .ireturn, 1)]
def kX4_leastPrice : List (Nat × Instr × Nat) := [(0, .aload_n 1, 1), (1, .getfield 25, 3), (4, .istore_n 2, 1), (5, .iload_n 2, 1), (6, .ifCond .lt 8, 3), (9, .iload_n 2, 1), (10, .iconst 4, 1), (11, .if_icmp .le 6, 3), (14, .ldc 29, 2), (16, .ireturn, 1), (17, .aload_n 0, 1), (18, .getfield 12, 3), (21, .aload_n 1, 1), (22, .invokevirtual 30, 3), (25, .ldc 36, 2), (27, .istore_n 3, 1), (28, .aload_n 0, 1), (29, .getfield 12, 3), (32, .getfield 37, 3), (35, .iload_n 2, 1), (36, .invokestatic 40, 3), (39, .iconst 0, 1), (40, .istore 4, 2), (42, .iload 4, 2), (44, .getstatic 44, 3), (47, .iload_n 2, 1), (48, .iaload, 1), (49, .if_icmp .ge 91, 3), (52, .aload_n 0, 1), (53, .getfield 12, 3), (56, .getfield 47, 3), (59, .iload_n 2, 1), (60, .invokestatic 40, 3), (63, .iconst 0, 1), (64, .istore 5, 2), (66, .iload 5, 2), (68, .getstatic 44, 3), (71, .iload_n 2, 1), (72, .iaload, 1), (73, .if_icmp .ge 50, 3), (76, .aload_n 0, 1), (77, .getfield 12, 3), (80, .invokevirtual 50, 3), (83, .aload_n 0, 1), (84, .getfield 12, 3), (87, .invokevirtual 53, 3), (90, .istore 6, 2), (92, .iload 6, 2), (94, .iload_n 3, 1), (95, .if_icmp .ge 11, 3), (98, .iload 6, 2), (100, .istore_n 3, 1), (101, .aload_n 0, 1), (102, .iload_n 2, 1), (103, .invokevirtual 57, 3), (106, .aload_n 0, 1), (107, .getfield 12, 3), (110, .getfield 47, 3), (113, .iload_n 2, 1), (114, .invokestatic 61, 3), (117, .iinc 5 1, 3), (120, .goto (-54), 3), (123, .aload_n 0, 1), (124, .getfield 12, 3), (127, .getfield 37, 3), (130, .iload_n 2, 1), (131, .invokestatic 61, 3), (134, .iinc 4 1, 3), (137, .goto (-95), 3), (140, .iload_n 3, 1), (141, .ireturn, 1)]
def kX4_holdRows : List (Nat × Instr × Nat) := [(0, .aload_n 0, 1), (1, .getfield 12, 3), (4, .getfield 37, 3), (7, .iconst 0, 1), (8, .aload_n 0, 1), (9, .getfield 18, 3), (12, .iconst 0, 1), (13, .iload_n 1, 1), (14, .invokestatic 64, 3), (17, .aload_n 0, 1), (18, .getfield 12, 3), (21, .getfield 47, 3), (24, .iconst 0, 1), (25, .aload_n 0, 1), (26, .getfield 22, 3), (29, .iconst 0, 1), (30, .iload_n 1, 1), (31, .invokestatic 64, 3), (34, .return_, 1)]
def kX4_firstOrder : List (Nat × Instr × Nat) := [(0, .iconst 0, 1), (1, .istore_n 2, 1), (2, .iload_n 2, 1), (3, .iload_n 1, 1), (4, .if_icmp .ge 13, 3), (7, .aload_n 0, 1), (8, .iload_n 2, 1), (9, .iload_n 2, 1), (10, .iastore, 1), (11, .iinc 2 1, 3), (14, .goto (-12), 3), (17, .return_, 1)]
def kX4_nextOrder : List (Nat × Instr × Nat) := [(0, .iload_n 1, 1), (1, .iconst 2, 1), (2, .isub, 1), (3, .istore_n 2, 1), (4, .iconst 0, 1), (5, .istore_n 3, 1), (6, .iload_n 3, 1), (7, .iload_n 1, 1), (8, .if_icmp .ge 27, 3), (11, .iload_n 2, 1), (12, .ifCond .lt 23, 3), (15, .aload_n 0, 1), (16, .iload_n 2, 1), (17, .iaload, 1), (18, .aload_n 0, 1), (19, .iload_n 2, 1), (20, .iconst 1, 1), (21, .iadd, 1), (22, .iaload, 1), (23, .if_icmp .le 12, 3), (26, .iinc 2 (-1), 3), (29, .iinc 3 1, 3), (32, .goto (-26), 3), (35, .iload_n 2, 1), (36, .ifCond .ge 4, 3), (39, .return_, 1), (40, .iload_n 1, 1), (41, .iconst 1, 1), (42, .isub, 1), (43, .istore_n 3, 1), (44, .iconst 0, 1), (45, .istore 4, 2), (47, .iload 4, 2), (49, .iload_n 1, 1), (50, .if_icmp .ge 28, 3), (53, .iload_n 3, 1), (54, .iload_n 2, 1), (55, .iconst 1, 1), (56, .iadd, 1), (57, .if_icmp .le 21, 3), (60, .aload_n 0, 1), (61, .iload_n 3, 1), (62, .iaload, 1), (63, .aload_n 0, 1), (64, .iload_n 2, 1), (65, .iaload, 1), (66, .if_icmp .ge 12, 3), (69, .iinc 3 (-1), 3), (72, .iinc 4 1, 3), (75, .goto (-28), 3), (78, .aload_n 0, 1), (79, .iload_n 2, 1), (80, .iload_n 3, 1), (81, .invokestatic 70, 3), (84, .iload_n 2, 1), (85, .iconst 1, 1), (86, .iadd, 1), (87, .istore 4, 2), (89, .iload_n 1, 1), (90, .iconst 1, 1), (91, .isub, 1), (92, .istore 5, 2), (94, .iload 4, 2), (96, .iload 5, 2), (98, .if_icmp .ge 20, 3), (101, .aload_n 0, 1), (102, .iload 4, 2), (104, .iload 5, 2), (106, .invokestatic 70, 3), (109, .iinc 4 1, 3), (112, .iinc 5 (-1), 3), (115, .goto (-21), 3), (118, .return_, 1)]
def kX5_become : List (Nat × Instr × Nat) := [(0, .aload_n 0, 1), (1, .iload_n 1, 1), (2, .putfield 9, 3), (5, .aload_n 0, 1), (6, .iload_n 2, 1), (7, .putfield 19, 3), (10, .iconst 0, 1), (11, .istore_n 3, 1), (12, .iload_n 3, 1), (13, .bipush 24, 2), (15, .if_icmp .ge 16, 3), (18, .aload_n 0, 1), (19, .getfield 15, 3), (22, .iload_n 3, 1), (23, .iconst 0, 1), (24, .iastore, 1), (25, .iinc 3 1, 3), (28, .goto (-16), 3), (31, .return_, 1)]
def kX5_takeFrom : List (Nat × Instr × Nat) := [(0, .aload_n 0, 1), (1, .aload_n 1, 1), (2, .getfield 9, 3), (5, .putfield 9, 3), (8, .aload_n 0, 1), (9, .aload_n 1, 1), (10, .getfield 19, 3), (13, .putfield 19, 3), (16, .aload_n 1, 1), (17, .getfield 15, 3), (20, .iconst 0, 1), (21, .aload_n 0, 1), (22, .getfield 15, 3), (25, .iconst 0, 1), (26, .bipush 24, 2), (28, .invokestatic 22, 3), (31, .return_, 1)]
def kX5_hasRun : List (Nat × Instr × Nat) := [(0, .iload_n 1, 1), (1, .ifCond .lt 29, 3), (4, .iload_n 2, 1), (5, .ifCond .lt 25, 3), (8, .iload_n 2, 1), (9, .aload_n 0, 1), (10, .getfield 19, 3), (13, .if_icmp .gt 17, 3), (16, .iload_n 1, 1), (17, .aload_n 0, 1), (18, .getfield 19, 3), (21, .iload_n 2, 1), (22, .isub, 1), (23, .if_icmp .gt 7, 3), (26, .iconst 1, 1), (27, .goto 4, 3), (30, .iconst 0, 1), (31, .ireturn, 1)]
def kX5_put : List (Nat × Instr × Nat) := [(0, .aload_n 0, 1), (1, .getfield 15, 3), (4, .iload_n 1, 1), (5, .iaload, 1), (6, .istore_n 3, 1), (7, .aload_n 0, 1), (8, .getfield 15, 3), (11, .iload_n 1, 1), (12, .aload_n 0, 1), (13, .getfield 9, 3), (16, .ifCond .ne 8, 3), (19, .iload_n 2, 1), (20, .i2s, 1), (21, .goto 4, 3), (24, .iload_n 2, 1), (25, .iastore, 1), (26, .iload_n 3, 1), (27, .ireturn, 1)]
def kX6_findingFor : List (Nat × Instr × Nat) := [(0, .aload_n 0, 1), (1, .getfield 9, 3), (4, .ifCond .ne 6, 3), (7, .ldc 29, 2), (9, .ireturn, 1), (10, .aload_n 0, 1), (11, .getfield 9, 3), (14, .iload_n 1, 1), (15, .if_icmp .ne 7, 3), (18, .iconst 0, 1), (19, .goto 5, 3), (22, .ldc 30, 2), (24, .ireturn, 1)]
def kX7_addWish : List (Nat × Instr × Nat) := [(0, .aload_n 0, 1), (1, .getfield 20, 3), (4, .aload_n 0, 1), (5, .getfield 32, 3), (8, .aaload, 1), (9, .aload_n 1, 1), (10, .invokevirtual 36, 3), (13, .aload_n 0, 1), (14, .dup, 1), (15, .getfield 32, 3), (18, .iconst 1, 1), (19, .iadd, 1), (20, .putfield 32, 3), (23, .aload_n 0, 1), (24, .getfield 32, 3), (27, .iconst 1, 1), (28, .isub, 1), (29, .ireturn, 1)]
def kX7_takeFrom : List (Nat × Instr × Nat) := [(0, .aload_n 0, 1), (1, .getfield 12, 3), (4, .aload_n 1, 1), (5, .getfield 12, 3), (8, .invokevirtual 40, 3), (11, .aload_n 0, 1), (12, .aload_n 1, 1), (13, .getfield 32, 3), (16, .putfield 32, 3), (19, .iconst 0, 1), (20, .istore_n 2, 1), (21, .iload_n 2, 1), (22, .aload_n 0, 1), (23, .getfield 32, 3), (26, .if_icmp .ge 24, 3), (29, .aload_n 0, 1), (30, .getfield 20, 3), (33, .iload_n 2, 1), (34, .aaload, 1), (35, .aload_n 1, 1), (36, .getfield 20, 3), (39, .iload_n 2, 1), (40, .aaload, 1), (41, .invokevirtual 36, 3), (44, .iinc 2 1, 3), (47, .goto (-26), 3), (50, .aload_n 0, 1), (51, .getfield 27, 3), (54, .aload_n 1, 1), (55, .getfield 27, 3), (58, .invokevirtual 43, 3), (61, .return_, 1)]
def kX8_forget : List (Nat × Instr × Nat) := [(0, .aload_n 0, 1), (1, .iconst 0, 1), (2, .putfield 21, 3), (5, .return_, 1)]
def kX8_note : List (Nat × Instr × Nat) := [(0, .aload_n 0, 1), (1, .getfield 9, 3), (4, .aload_n 0, 1), (5, .getfield 25, 3), (8, .iload_n 1, 1), (9, .iastore, 1), (10, .aload_n 0, 1), (11, .getfield 15, 3), (14, .aload_n 0, 1), (15, .getfield 25, 3), (18, .iload_n 2, 1), (19, .iastore, 1), (20, .aload_n 0, 1), (21, .getfield 18, 3), (24, .aload_n 0, 1), (25, .getfield 25, 3), (28, .iload_n 3, 1), (29, .iastore, 1), (30, .aload_n 0, 1), (31, .aload_n 0, 1), (32, .getfield 25, 3), (35, .iconst 1, 1), (36, .iadd, 1), (37, .bipush 20, 2), (39, .irem, 1), (40, .putfield 25, 3), (43, .aload_n 0, 1), (44, .aload_n 0, 1), (45, .getfield 21, 3), (48, .iconst 1, 1), (49, .iadd, 1), (50, .bipush 20, 2), (52, .invokestatic 28, 3), (55, .putfield 21, 3), (58, .return_, 1)]
def kX8_takeBack : List (Nat × Instr × Nat) := [(0, .aload_n 0, 1), (1, .aload_n 0, 1), (2, .getfield 25, 3), (5, .bipush 20, 2), (7, .iadd, 1), (8, .iconst 1, 1), (9, .isub, 1), (10, .bipush 20, 2), (12, .irem, 1), (13, .putfield 25, 3), (16, .aload_n 0, 1), (17, .dup, 1), (18, .getfield 21, 3), (21, .iconst 1, 1), (22, .isub, 1), (23, .putfield 21, 3), (26, .aload_n 1, 1), (27, .aload_n 0, 1), (28, .getfield 9, 3), (31, .aload_n 0, 1), (32, .getfield 25, 3), (35, .iaload, 1), (36, .aload_n 0, 1), (37, .getfield 15, 3), (40, .aload_n 0, 1), (41, .getfield 25, 3), (44, .iaload, 1), (45, .aload_n 0, 1), (46, .getfield 18, 3), (49, .aload_n 0, 1), (50, .getfield 25, 3), (53, .iaload, 1), (54, .invokevirtual 34, 3), (57, .return_, 1)]
def kX9_begin : List (Nat × Instr × Nat) := [(0, .aload_n 0, 1), (1, .iload_n 1, 1), (2, .putfield 15, 3), (5, .aload_n 0, 1), (6, .iconst 0, 1), (7, .putfield 19, 3), (10, .aload_n 0, 1), (11, .iconst 0, 1), (12, .putfield 22, 3), (15, .return_, 1)]
def kX9_takeFrom : List (Nat × Instr × Nat) := [(0, .aload_n 0, 1), (1, .aload_n 1, 1), (2, .getfield 15, 3), (5, .putfield 15, 3), (8, .aload_n 0, 1), (9, .aload_n 1, 1), (10, .getfield 19, 3), (13, .putfield 19, 3), (16, .aload_n 0, 1), (17, .aload_n 1, 1), (18, .getfield 22, 3), (21, .putfield 22, 3), (24, .aload_n 1, 1), (25, .getfield 9, 3), (28, .iconst 0, 1), (29, .aload_n 0, 1), (30, .getfield 9, 3), (33, .iconst 0, 1), (34, .bipush 96, 2), (36, .invokestatic 25, 3), (39, .return_, 1)]
def kX9_addNumber : List (Nat × Instr × Nat) := [(0, .aload_n 0, 1), (1, .dup, 1), (2, .getfield 19, 3), (5, .iconst 1, 1), (6, .iadd, 1), (7, .putfield 19, 3), (10, .aload_n 0, 1), (11, .iload_n 1, 1), (12, .invokevirtual 31, 3), (15, .return_, 1)]
def kX9_addName : List (Nat × Instr × Nat) := [(0, .aload_n 0, 1), (1, .dup, 1), (2, .getfield 19, 3), (5, .iconst 1, 1), (6, .iadd, 1), (7, .putfield 19, 3), (10, .aload_n 0, 1), (11, .iload_n 1, 1), (12, .ineg, 1), (13, .invokevirtual 31, 3), (16, .return_, 1)]
def kX9_addSign : List (Nat × Instr × Nat) := [(0, .aload_n 0, 1), (1, .iload_n 1, 1), (2, .ineg, 1), (3, .invokevirtual 31, 3), (6, .return_, 1)]
def kX9_add : List (Nat × Instr × Nat) := [(0, .aload_n 0, 1), (1, .getfield 22, 3), (4, .bipush 96, 2), (6, .if_icmp .ge 23, 3), (9, .aload_n 0, 1), (10, .getfield 9, 3), (13, .aload_n 0, 1), (14, .getfield 22, 3), (17, .iload_n 1, 1), (18, .iastore, 1), (19, .aload_n 0, 1), (20, .dup, 1), (21, .getfield 22, 3), (24, .iconst 1, 1), (25, .iadd, 1), (26, .putfield 22, 3), (29, .return_, 1)]
def kX9_isOfAll : List (Nat × Instr × Nat) := [(0, .aload_n 0, 1), (1, .getfield 15, 3), (4, .bipush 8, 2), (6, .if_icmp .ne 7, 3), (9, .iconst 1, 1), (10, .goto 4, 3), (13, .iconst 0, 1), (14, .ireturn, 1)]
def kX9_valueOn : List (Nat × Instr × Nat) := [(0, .aload_n 0, 1), (1, .invokevirtual 35, 3), (4, .ifCond .ne 16, 3), (7, .aload_n 1, 1), (8, .aload_n 0, 1), (9, .getfield 15, 3), (12, .invokevirtual 39, 3), (15, .ifCond .ne 5, 3), (18, .iconst 0, 1), (19, .ireturn, 1), (20, .iconst 0, 1), (21, .istore_n 3, 1), (22, .iconst 0, 1), (23, .istore 4, 2), (25, .iload 4, 2), (27, .aload_n 0, 1), (28, .getfield 22, 3), (31, .if_icmp .ge 110, 3), (34, .aload_n 0, 1), (35, .getfield 9, 3), (38, .iload 4, 2), (40, .iaload, 1), (41, .ineg, 1), (42, .istore 5, 2), (44, .iload 5, 2), (46, .ifCond .gt 19, 3), (49, .aload_n 2, 1), (50, .iload_n 3, 1), (51, .aload_n 0, 1), (52, .getfield 9, 3), (55, .iload 4, 2), (57, .iaload, 1), (58, .invokestatic 45, 3), (61, .istore_n 3, 1), (62, .goto 73, 3), (65, .iload 5, 2), (67, .bipush 97, 2), (69, .if_icmp .lt 42, 3), (72, .iload 5, 2), (74, .bipush 122, 2), (76, .if_icmp .gt 35, 3), (79, .aload_n 2, 1), (80, .iload_n 3, 1), (81, .aload_n 0, 1), (82, .invokevirtual 35, 3), (85, .ifCond .eq 12, 3), (88, .aload_n 1, 1), (89, .iload 5, 2), (91, .invokestatic 49, 3), (94, .goto 10, 3), (97, .aload_n 0, 1), (98, .aload_n 1, 1), (99, .iload 5, 2), (101, .invokevirtual 53, 3), (104, .invokestatic 45, 3), (107, .istore_n 3, 1), (108, .goto 27, 3), (111, .iload 5, 2), (113, .bipush 33, 2), (115, .if_icmp .ne 12, 3), (118, .aload_n 2, 1), (119, .iload_n 3, 1), (120, .invokestatic 56, 3), (123, .istore_n 3, 1), (124, .goto 11, 3), (127, .aload_n 2, 1), (128, .iload_n 3, 1), (129, .iload 5, 2), (131, .invokestatic 60, 3), (134, .istore_n 3, 1), (135, .iinc 4 1, 3), (138, .goto (-113), 3), (141, .iload_n 3, 1), (142, .iconst 1, 1), (143, .if_icmp .lt 9, 3), (146, .aload_n 2, 1), (147, .iconst 0, 1), (148, .iaload, 1), (149, .goto 4, 3), (152, .iconst 0, 1), (153, .ireturn, 1)]
def kX9_push : List (Nat × Instr × Nat) := [(0, .iload_n 1, 1), (1, .aload_n 0, 1), (2, .arraylength, 1), (3, .if_icmp .lt 5, 3), (6, .iload_n 1, 1), (7, .ireturn, 1), (8, .aload_n 0, 1), (9, .iload_n 1, 1), (10, .iload_n 2, 1), (11, .iastore, 1), (12, .iload_n 1, 1), (13, .iconst 1, 1), (14, .iadd, 1), (15, .ireturn, 1)]
def kX9_negate : List (Nat × Instr × Nat) := [(0, .iload_n 1, 1), (1, .iconst 1, 1), (2, .if_icmp .lt 24, 3), (5, .aload_n 0, 1), (6, .iload_n 1, 1), (7, .iconst 1, 1), (8, .isub, 1), (9, .aload_n 0, 1), (10, .iload_n 1, 1), (11, .iconst 1, 1), (12, .isub, 1), (13, .iaload, 1), (14, .ifCond .ne 7, 3), (17, .iconst 1, 1), (18, .goto 4, 3), (21, .iconst 0, 1), (22, .invokestatic 63, 3), (25, .iastore, 1), (26, .iload_n 1, 1), (27, .ireturn, 1)]
def kX9_join : List (Nat × Instr × Nat) := [(0, .iload_n 1, 1), (1, .iconst 2, 1), (2, .if_icmp .ge 5, 3), (5, .iload_n 1, 1), (6, .ireturn, 1), (7, .aload_n 0, 1), (8, .iload_n 1, 1), (9, .iconst 2, 1), (10, .isub, 1), (11, .iload_n 2, 1), (12, .aload_n 0, 1), (13, .iload_n 1, 1), (14, .iconst 2, 1), (15, .isub, 1), (16, .iaload, 1), (17, .aload_n 0, 1), (18, .iload_n 1, 1), (19, .iconst 1, 1), (20, .isub, 1), (21, .iaload, 1), (22, .invokestatic 67, 3), (25, .iastore, 1), (26, .iload_n 1, 1), (27, .iconst 1, 1), (28, .isub, 1), (29, .ireturn, 1)]
def kX9_worked : List (Nat × Instr × Nat) := [(0, .iload_n 0, 1), (1, .lookupswitch 163 #[(38, 92), (42, 159), (43, 151), (45, 155), (60, 109), (61, 123), (62, 137), (124, 75)], 75), (76, .iload_n 1, 1), (77, .ifCond .ne 7, 3), (80, .iload_n 2, 1), (81, .ifCond .eq 7, 3), (84, .iconst 1, 1), (85, .goto 4, 3), (88, .iconst 0, 1), (89, .invokestatic 63, 3), (92, .ireturn, 1), (93, .iload_n 1, 1), (94, .ifCond .eq 11, 3), (97, .iload_n 2, 1), (98, .ifCond .eq 7, 3), (101, .iconst 1, 1), (102, .goto 4, 3), (105, .iconst 0, 1), (106, .invokestatic 63, 3), (109, .ireturn, 1), (110, .iload_n 1, 1), (111, .iload_n 2, 1), (112, .if_icmp .ge 7, 3), (115, .iconst 1, 1), (116, .goto 4, 3), (119, .iconst 0, 1), (120, .invokestatic 63, 3), (123, .ireturn, 1), (124, .iload_n 1, 1), (125, .iload_n 2, 1), (126, .if_icmp .ne 7, 3), (129, .iconst 1, 1), (130, .goto 4, 3), (133, .iconst 0, 1), (134, .invokestatic 63, 3), (137, .ireturn, 1), (138, .iload_n 1, 1), (139, .iload_n 2, 1), (140, .if_icmp .le 7, 3), (143, .iconst 1, 1), (144, .goto 4, 3), (147, .iconst 0, 1), (148, .invokestatic 63, 3), (151, .ireturn, 1), (152, .iload_n 1, 1), (153, .iload_n 2, 1), (154, .iadd, 1), (155, .ireturn, 1), (156, .iload_n 1, 1), (157, .iload_n 2, 1), (158, .isub, 1), (159, .ireturn, 1), (160, .iload_n 1, 1), (161, .iload_n 2, 1), (162, .imul, 1), (163, .ireturn, 1), (164, .iload_n 2, 1), (165, .ifCond .ne 7, 3), (168, .iconst 0, 1), (169, .goto 6, 3), (172, .iload_n 1, 1), (173, .iload_n 2, 1), (174, .idiv, 1), (175, .ireturn, 1)]
def kX9_truth : List (Nat × Instr × Nat) := [(0, .iload_n 0, 1), (1, .ifCond .eq 7, 3), (4, .iconst 1, 1), (5, .goto 4, 3), (8, .iconst 0, 1), (9, .ireturn, 1)]
def kX9_nameOfAll : List (Nat × Instr × Nat) := [(0, .iload_n 1, 1), (1, .lookupswitch 50 #[(104, 40), (108, 45), (119, 35)], 35), (36, .aload_n 0, 1), (37, .getfield 71, 3), (40, .ireturn, 1), (41, .aload_n 0, 1), (42, .getfield 74, 3), (45, .ireturn, 1), (46, .aload_n 0, 1), (47, .invokevirtual 77, 3), (50, .ireturn, 1), (51, .aload_n 0, 1), (52, .invokevirtual 81, 3), (55, .ireturn, 1)]
def kX9_nameOfBlock : List (Nat × Instr × Nat) := [(0, .aload_n 1, 1), (1, .getfield 84, 3), (4, .aload_n 0, 1), (5, .getfield 15, 3), (8, .aaload, 1), (9, .astore_n 3, 1), (10, .iload_n 2, 1), (11, .tableswitch 119 104 121 #[100, 119, 119, 119, 119, 119, 119, 119, 105, 119, 119, 119, 110, 119, 119, 95, 85, 90], 85), (96, .aload_n 3, 1), (97, .getfield 88, 3), (100, .ireturn, 1), (101, .aload_n 3, 1), (102, .getfield 93, 3), (105, .ireturn, 1), (106, .aload_n 3, 1), (107, .getfield 96, 3), (110, .ireturn, 1), (111, .aload_n 3, 1), (112, .getfield 99, 3), (115, .ireturn, 1), (116, .aload_n 3, 1), (117, .getfield 102, 3), (120, .ireturn, 1), (121, .aload_n 1, 1), (122, .aload_n 0, 1), (123, .getfield 15, 3), (126, .invokevirtual 105, 3), (129, .ireturn, 1), (130, .aload_n 1, 1), (131, .aload_n 0, 1), (132, .getfield 15, 3), (135, .invokevirtual 109, 3), (138, .ireturn, 1)]
def kX10_block : List (Nat × Instr × Nat) := [(0, .iload_n 1, 1), (1, .invokestatic 61, 3), (4, .ifCond .eq 23, 3), (7, .iload_n 2, 1), (8, .iconst 1, 1), (9, .bipush 30, 2), (11, .invokestatic 65, 3), (14, .ifCond .eq 13, 3), (17, .iload_n 3, 1), (18, .iconst 1, 1), (19, .bipush 30, 2), (21, .invokestatic 65, 3), (24, .ifCond .ne 6, 3), (27, .ldc 69, 2), (29, .ireturn, 1), (30, .aload_n 0, 1), (31, .getfield 10, 3), (34, .getfield 70, 3), (37, .getfield 74, 3), (40, .bipush 8, 2), (42, .if_icmp .lt 6, 3), (45, .ldc 80, 2), (47, .ireturn, 1), (48, .aload_n 0, 1), (49, .getfield 29, 3), (52, .invokevirtual 81, 3), (55, .aload_n 0, 1), (56, .getfield 10, 3), (59, .getfield 70, 3), (62, .iload_n 1, 1), (63, .iload_n 2, 1), (64, .iload_n 3, 1), (65, .invokevirtual 84, 3), (68, .ireturn, 1)]
def kX10_told : List (Nat × Instr × Nat) := [(0, .aload_n 0, 1), (1, .getfield 10, 3), (4, .getfield 70, 3), (7, .astore_n 3, 1), (8, .aload_n 3, 1), (9, .iload_n 1, 1), (10, .invokevirtual 88, 3), (13, .ifCond .eq 13, 3), (16, .iload_n 2, 1), (17, .iconst 0, 1), (18, .bipush 14, 2), (20, .invokestatic 65, 3), (23, .ifCond .ne 6, 3), (26, .ldc 69, 2), (28, .ireturn, 1), (29, .aload_n 3, 1), (30, .getfield 91, 3), (33, .iload_n 1, 1), (34, .aaload, 1), (35, .astore 4, 2), (37, .iload_n 2, 1), (38, .tableswitch 58 10 14 #[34, 40, 58, 46, 52], 34), (72, .aload 4, 2), (74, .getfield 95, 3), (77, .ireturn, 1), (78, .aload 4, 2), (80, .getfield 100, 3), (83, .ireturn, 1), (84, .aload_n 3, 1), (85, .iload_n 1, 1), (86, .invokevirtual 103, 3), (89, .ireturn, 1), (90, .aload_n 3, 1), (91, .iload_n 1, 1), (92, .invokevirtual 107, 3), (95, .ireturn, 1), (96, .aload 4, 2), (98, .iload_n 2, 1), (99, .invokevirtual 110, 3), (102, .ireturn, 1)]
def kX10_as : List (Nat × Instr × Nat) := [(0, .aload_n 0, 1), (1, .getfield 10, 3), (4, .getfield 70, 3), (7, .iload_n 1, 1), (8, .invokevirtual 88, 3), (11, .ifCond .eq 10, 3), (14, .iload_n 2, 1), (15, .invokestatic 61, 3), (18, .ifCond .ne 6, 3), (21, .ldc 69, 2), (23, .ireturn, 1), (24, .aload_n 0, 1), (25, .getfield 10, 3), (28, .getfield 70, 3), (31, .getfield 91, 3), (34, .iload_n 1, 1), (35, .aaload, 1), (36, .astore_n 3, 1), (37, .aload_n 3, 1), (38, .iload_n 2, 1), (39, .invokevirtual 113, 3), (42, .ifCond .eq 10, 3), (45, .aload_n 3, 1), (46, .getfield 116, 3), (49, .goto 5, 3), (52, .ldc 119, 2), (54, .ireturn, 1)]
def kX10_power : List (Nat × Instr × Nat) := [(0, .aload_n 0, 1), (1, .getfield 10, 3), (4, .getfield 70, 3), (7, .iload_n 1, 1), (8, .invokevirtual 88, 3), (11, .ifCond .eq 10, 3), (14, .iload_n 2, 1), (15, .invokestatic 120, 3), (18, .ifCond .ne 6, 3), (21, .ldc 69, 2), (23, .ireturn, 1), (24, .aload_n 0, 1), (25, .getfield 10, 3), (28, .getfield 70, 3), (31, .getfield 91, 3), (34, .iload_n 1, 1), (35, .aaload, 1), (36, .getfield 123, 3), (39, .istore_n 3, 1), (40, .aload_n 0, 1), (41, .getfield 10, 3), (44, .getfield 70, 3), (47, .getfield 91, 3), (50, .iload_n 1, 1), (51, .aaload, 1), (52, .iload_n 2, 1), (53, .putfield 123, 3), (56, .iload_n 3, 1), (57, .ireturn, 1)]
def kX10_rule : List (Nat × Instr × Nat) := [(0, .iload_n 1, 1), (1, .iconst 0, 1), (2, .iconst 4, 1), (3, .invokestatic 65, 3), (6, .ifCond .eq 20, 3), (9, .iload_n 2, 1), (10, .getstatic 126, 3), (13, .iload_n 1, 1), (14, .iaload, 1), (15, .getstatic 129, 3), (18, .iload_n 1, 1), (19, .iaload, 1), (20, .invokestatic 65, 3), (23, .ifCond .ne 6, 3), (26, .ldc 69, 2), (28, .ireturn, 1), (29, .aload_n 0, 1), (30, .getfield 10, 3), (33, .getfield 70, 3), (36, .getfield 132, 3), (39, .iload_n 1, 1), (40, .iaload, 1), (41, .istore_n 3, 1), (42, .aload_n 0, 1), (43, .getfield 10, 3), (46, .getfield 70, 3), (49, .getfield 132, 3), (52, .iload_n 1, 1), (53, .iload_n 2, 1), (54, .iastore, 1), (55, .iload_n 3, 1), (56, .ireturn, 1)]
def kX10_net : List (Nat × Instr × Nat) := [(0, .iload_n 1, 1), (1, .iconst 0, 1), (2, .sipush 255, 3), (5, .invokestatic 65, 3), (8, .ifCond .eq 21, 3), (11, .iload_n 1, 1), (12, .invokestatic 135, 3), (15, .iconst 2, 1), (16, .if_icmp .lt 13, 3), (19, .iload_n 2, 1), (20, .iconst 1, 1), (21, .bipush 9, 2), (23, .invokestatic 65, 3), (26, .ifCond .ne 6, 3), (29, .ldc 69, 2), (31, .ireturn, 1), (32, .aload_n 0, 1), (33, .getfield 10, 3), (36, .getfield 70, 3), (39, .getfield 140, 3), (42, .bipush 10, 2), (44, .if_icmp .lt 6, 3), (47, .ldc 80, 2), (49, .ireturn, 1), (50, .aload_n 0, 1), (51, .getfield 10, 3), (54, .getfield 70, 3), (57, .iload_n 1, 1), (58, .iload_n 2, 1), (59, .invokevirtual 143, 3), (62, .ireturn, 1)]
def kX10_wire : List (Nat × Instr × Nat) := [(0, .aload_n 0, 1), (1, .getfield 10, 3), (4, .getfield 70, 3), (7, .astore_n 3, 1), (8, .iload_n 1, 1), (9, .iconst 0, 1), (10, .aload_n 3, 1), (11, .getfield 140, 3), (14, .iconst 1, 1), (15, .isub, 1), (16, .invokestatic 65, 3), (19, .ifCond .eq 12, 3), (22, .iload_n 2, 1), (23, .iconst 0, 1), (24, .iconst 2, 1), (25, .invokestatic 65, 3), (28, .ifCond .ne 6, 3), (31, .ldc 69, 2), (33, .ireturn, 1), (34, .iload_n 2, 1), (35, .lookupswitch 37 #[(0, 25), (1, 31)], 25), (60, .aload_n 3, 1), (61, .iload_n 1, 1), (62, .invokevirtual 147, 3), (65, .ireturn, 1), (66, .aload_n 3, 1), (67, .iload_n 1, 1), (68, .invokevirtual 150, 3), (71, .ireturn, 1), (72, .aload_n 3, 1), (73, .iload_n 1, 1), (74, .invokevirtual 147, 3), (77, .aload_n 3, 1), (78, .iload_n 1, 1), (79, .invokevirtual 150, 3), (82, .isub, 1), (83, .ireturn, 1)]
def kX10_at : List (Nat × Instr × Nat) := [(0, .iload_n 1, 1), (1, .iconst 0, 1), (2, .iconst 1, 1), (3, .invokestatic 65, 3), (6, .ifCond .eq 17, 3), (9, .aload_n 0, 1), (10, .getfield 10, 3), (13, .getfield 70, 3), (16, .iload_n 2, 1), (17, .invokevirtual 88, 3), (20, .ifCond .ne 6, 3), (23, .ldc 69, 2), (25, .ireturn, 1), (26, .iload_n 1, 1), (27, .ifCond .ne 18, 3), (30, .aload_n 0, 1), (31, .getfield 10, 3), (34, .getfield 70, 3), (37, .getfield 153, 3), (40, .iload_n 2, 1), (41, .iaload, 1), (42, .goto 15, 3), (45, .aload_n 0, 1), (46, .getfield 10, 3), (49, .getfield 70, 3), (52, .getfield 156, 3), (55, .iload_n 2, 1), (56, .iaload, 1), (57, .ireturn, 1)]
def kX10_whole : List (Nat × Instr × Nat) := [(0, .aload_n 0, 1), (1, .getfield 10, 3), (4, .getfield 70, 3), (7, .astore_n 2, 1), (8, .iload_n 1, 1), (9, .tableswitch 60 0 4 #[35, 40, 45, 50, 55], 35), (44, .aload_n 2, 1), (45, .getfield 159, 3), (48, .ireturn, 1), (49, .aload_n 2, 1), (50, .getfield 162, 3), (53, .ireturn, 1), (54, .aload_n 2, 1), (55, .invokevirtual 165, 3), (58, .ireturn, 1), (59, .aload_n 2, 1), (60, .invokevirtual 169, 3), (63, .ireturn, 1), (64, .aload_n 2, 1), (65, .invokevirtual 172, 3), (68, .ireturn, 1), (69, .ldc 69, 2), (71, .ireturn, 1)]
def kX10_stands : List (Nat × Instr × Nat) := [(0, .aload_n 0, 1), (1, .getfield 10, 3), (4, .getfield 70, 3), (7, .astore_n 3, 1), (8, .aload_n 3, 1), (9, .iload_n 1, 1), (10, .invokevirtual 88, 3), (13, .ifCond .eq 16, 3), (16, .aload_n 3, 1), (17, .iload_n 2, 1), (18, .invokevirtual 88, 3), (21, .ifCond .eq 8, 3), (24, .iload_n 1, 1), (25, .iload_n 2, 1), (26, .if_icmp .ne 6, 3), (29, .ldc 69, 2), (31, .ireturn, 1), (32, .aload_n 3, 1), (33, .getfield 91, 3), (36, .iload_n 1, 1), (37, .aaload, 1), (38, .getfield 175, 3), (41, .aload_n 3, 1), (42, .getfield 91, 3), (45, .iload_n 2, 1), (46, .aaload, 1), (47, .getfield 175, 3), (50, .if_icmp .eq 6, 3), (53, .ldc 178, 2), (55, .ireturn, 1), (56, .aload_n 3, 1), (57, .getfield 179, 3), (60, .iload_n 1, 1), (61, .iaload, 1), (62, .aload_n 3, 1), (63, .getfield 179, 3), (66, .iload_n 2, 1), (67, .iaload, 1), (68, .if_icmp .ge 24, 3), (71, .aload_n 3, 1), (72, .getfield 182, 3), (75, .iload_n 1, 1), (76, .iaload, 1), (77, .aload_n 3, 1), (78, .getfield 182, 3), (81, .iload_n 2, 1), (82, .iaload, 1), (83, .if_icmp .ge 7, 3), (86, .iconst 0, 1), (87, .goto 4, 3), (90, .iconst 1, 1), (91, .ireturn, 1), (92, .aload_n 3, 1), (93, .getfield 182, 3), (96, .iload_n 2, 1), (97, .iaload, 1), (98, .aload_n 3, 1), (99, .getfield 182, 3), (102, .iload_n 1, 1), (103, .iaload, 1), (104, .if_icmp .ge 7, 3), (107, .iconst 2, 1), (108, .goto 4, 3), (111, .iconst 3, 1), (112, .ireturn, 1)]
def kX10_move : List (Nat × Instr × Nat) := [(0, .aload_n 0, 1), (1, .getfield 10, 3), (4, .getfield 70, 3), (7, .astore 4, 2), (9, .iload_n 1, 1), (10, .iconst 0, 1), (11, .iconst 4, 1), (12, .invokestatic 65, 3), (15, .ifCond .eq 12, 3), (18, .aload 4, 2), (20, .iload_n 2, 1), (21, .invokevirtual 88, 3), (24, .ifCond .ne 6, 3), (27, .ldc 69, 2), (29, .ireturn, 1), (30, .iload_n 1, 1), (31, .iconst 2, 1), (32, .if_icmp .gt 15, 3), (35, .aload 4, 2), (37, .iload_n 3, 1), (38, .invokevirtual 88, 3), (41, .ifCond .ne 6, 3), (44, .ldc 69, 2), (46, .ireturn, 1), (47, .aload 4, 2), (49, .iload_n 1, 1), (50, .iload_n 2, 1), (51, .invokevirtual 185, 3), (54, .ifCond .ne 6, 3), (57, .ldc 189, 2), (59, .ireturn, 1), (60, .aload 4, 2), (62, .iload_n 1, 1), (63, .iload_n 2, 1), (64, .iload_n 3, 1), (65, .invokevirtual 190, 3), (68, .aload_n 0, 1), (69, .getfield 29, 3), (72, .iload_n 1, 1), (73, .iload_n 2, 1), (74, .iload_n 3, 1), (75, .invokevirtual 194, 3), (78, .aload 4, 2), (80, .invokevirtual 172, 3), (83, .ireturn, 1)]
def kX10_undo : List (Nat × Instr × Nat) := [(0, .aload_n 0, 1), (1, .getfield 29, 3), (4, .getfield 197, 3), (7, .ifCond .ne 6, 3), (10, .ldc 189, 2), (12, .ireturn, 1), (13, .aload_n 0, 1), (14, .getfield 29, 3), (17, .aload_n 0, 1), (18, .getfield 10, 3), (21, .getfield 70, 3), (24, .invokevirtual 200, 3), (27, .aload_n 0, 1), (28, .getfield 29, 3), (31, .getfield 197, 3), (34, .ireturn, 1)]
def kX10_seed : List (Nat × Instr × Nat) := [(0, .aload_n 0, 1), (1, .getfield 10, 3), (4, .getfield 70, 3), (7, .getfield 204, 3), (10, .istore_n 2, 1), (11, .aload_n 0, 1), (12, .getfield 10, 3), (15, .getfield 70, 3), (18, .iload_n 1, 1), (19, .putfield 204, 3), (22, .iload_n 2, 1), (23, .ireturn, 1)]
def kX10_walk : List (Nat × Instr × Nat) := [(0, .iload_n 1, 1), (1, .iconst 1, 1), (2, .sipush 200, 3), (5, .invokestatic 65, 3), (8, .ifCond .eq 14, 3), (11, .iload_n 2, 1), (12, .iconst 0, 1), (13, .sipush 9999, 3), (16, .invokestatic 65, 3), (19, .ifCond .ne 6, 3), (22, .ldc 69, 2), (24, .ireturn, 1), (25, .aload_n 0, 1), (26, .getfield 10, 3), (29, .getfield 70, 3), (32, .getfield 74, 3), (35, .ifCond .ne 6, 3), (38, .ldc 189, 2), (40, .ireturn, 1), (41, .aload_n 0, 1), (42, .getfield 29, 3), (45, .invokevirtual 81, 3), (48, .aload_n 0, 1), (49, .getfield 10, 3), (52, .getfield 70, 3), (55, .invokevirtual 172, 3), (58, .istore_n 3, 1), (59, .iconst 0, 1), (60, .istore 4, 2), (62, .iload 4, 2), (64, .iload_n 1, 1), (65, .if_icmp .ge 22, 3), (68, .aload_n 0, 1), (69, .getfield 10, 3), (72, .getfield 70, 3), (75, .iload_n 3, 1), (76, .iload_n 2, 1), (77, .invokevirtual 207, 3), (80, .istore_n 3, 1), (81, .iinc 4 1, 3), (84, .goto (-22), 3), (87, .iload_n 3, 1), (88, .ireturn, 1)]
def kX10_bound : List (Nat × Instr × Nat) := [(0, .aload_n 0, 1), (1, .getfield 10, 3), (4, .getfield 70, 3), (7, .astore_n 2, 1), (8, .iload_n 1, 1), (9, .tableswitch 77 0 3 #[31, 45, 50, 55], 31), (40, .aload_n 2, 1), (41, .iconst 0, 1), (42, .invokevirtual 210, 3), (45, .aload_n 2, 1), (46, .iconst 1, 1), (47, .invokevirtual 210, 3), (50, .invokestatic 213, 3), (53, .ireturn, 1), (54, .aload_n 2, 1), (55, .invokevirtual 218, 3), (58, .ireturn, 1), (59, .aload_n 2, 1), (60, .invokevirtual 221, 3), (63, .ireturn, 1), (64, .aload_n 2, 1), (65, .getfield 74, 3), (68, .iconst 4, 1), (69, .if_icmp .le 8, 3), (72, .ldc 224, 2), (74, .goto 11, 3), (77, .aload_n 0, 1), (78, .getfield 22, 3), (81, .aload_n 2, 1), (82, .invokevirtual 225, 3), (85, .ireturn, 1), (86, .ldc 69, 2), (88, .ireturn, 1)]
def kX10_best : List (Nat × Instr × Nat) := [(0, .aload_n 0, 1), (1, .getfield 10, 3), (4, .getfield 70, 3), (7, .astore_n 3, 1), (8, .iload_n 1, 1), (9, .iconst 0, 1), (10, .iconst 1, 1), (11, .invokestatic 65, 3), (14, .ifCond .ne 6, 3), (17, .ldc 69, 2), (19, .ireturn, 1), (20, .aload_n 3, 1), (21, .getfield 74, 3), (24, .iconst 4, 1), (25, .if_icmp .le 6, 3), (28, .ldc 224, 2), (30, .ireturn, 1), (31, .aload_n 3, 1), (32, .iload_n 2, 1), (33, .invokevirtual 88, 3), (36, .ifCond .ne 6, 3), (39, .ldc 69, 2), (41, .ireturn, 1), (42, .aload_n 0, 1), (43, .getfield 22, 3), (46, .aload_n 3, 1), (47, .invokevirtual 225, 3), (50, .pop, 1), (51, .iload_n 1, 1), (52, .ifCond .ne 15, 3), (55, .aload_n 0, 1), (56, .getfield 22, 3), (59, .getfield 229, 3), (62, .iload_n 2, 1), (63, .iaload, 1), (64, .goto 12, 3), (67, .aload_n 0, 1), (68, .getfield 22, 3), (71, .getfield 232, 3), (74, .iload_n 2, 1), (75, .iaload, 1), (76, .ireturn, 1)]
def kX10_touch : List (Nat × Instr × Nat) := [(0, .aload_n 0, 1), (1, .getfield 10, 3), (4, .getfield 70, 3), (7, .astore_n 3, 1), (8, .aload_n 3, 1), (9, .iload_n 1, 1), (10, .invokevirtual 88, 3), (13, .ifCond .eq 16, 3), (16, .aload_n 3, 1), (17, .iload_n 2, 1), (18, .invokevirtual 88, 3), (21, .ifCond .eq 8, 3), (24, .iload_n 1, 1), (25, .iload_n 2, 1), (26, .if_icmp .ne 6, 3), (29, .ldc 69, 2), (31, .ireturn, 1), (32, .aload_n 3, 1), (33, .getfield 91, 3), (36, .iload_n 1, 1), (37, .aaload, 1), (38, .aload_n 3, 1), (39, .getfield 91, 3), (42, .iload_n 2, 1), (43, .aaload, 1), (44, .invokevirtual 235, 3), (47, .ifCond .eq 7, 3), (50, .iconst 1, 1), (51, .goto 4, 3), (54, .iconst 0, 1), (55, .ireturn, 1)]
def kX10_hottest : List (Nat × Instr × Nat) := [(0, .aload_n 0, 1), (1, .getfield 10, 3), (4, .getfield 70, 3), (7, .getfield 74, 3), (10, .ifCond .ne 8, 3), (13, .ldc 178, 2), (15, .goto 13, 3), (18, .aload_n 0, 1), (19, .getfield 10, 3), (22, .getfield 70, 3), (25, .invokevirtual 239, 3), (28, .ireturn, 1)]
def kX10_feed : List (Nat × Instr × Nat) := [(0, .aload_n 0, 1), (1, .getfield 36, 3), (4, .getfield 242, 3), (7, .bipush 12, 2), (9, .iadd, 1), (10, .bipush 96, 2), (12, .if_icmp .le 6, 3), (15, .ldc 80, 2), (17, .ireturn, 1), (18, .aload_n 0, 1), (19, .getfield 36, 3), (22, .iload_n 1, 1), (23, .invokevirtual 245, 3), (26, .aload_n 0, 1), (27, .getfield 36, 3), (30, .iload_n 2, 1), (31, .invokevirtual 245, 3), (34, .aload_n 0, 1), (35, .getfield 36, 3), (38, .iload_n 3, 1), (39, .invokevirtual 245, 3), (42, .aload_n 0, 1), (43, .getfield 36, 3), (46, .getfield 242, 3), (49, .ireturn, 1)]
def kX10_trim : List (Nat × Instr × Nat) := [(0, .iload_n 1, 1), (1, .iconst 0, 1), (2, .aload_n 0, 1), (3, .getfield 36, 3), (6, .getfield 242, 3), (9, .invokestatic 65, 3), (12, .ifCond .ne 6, 3), (15, .ldc 69, 2), (17, .ireturn, 1), (18, .aload_n 0, 1), (19, .getfield 36, 3), (22, .iload_n 1, 1), (23, .putfield 242, 3), (26, .iload_n 1, 1), (27, .ireturn, 1)]
def kX10_wish : List (Nat × Instr × Nat) := [(0, .aload_n 0, 1), (1, .getfield 36, 3), (4, .invokevirtual 249, 3), (7, .istore_n 1, 1), (8, .aload_n 0, 1), (9, .getfield 36, 3), (12, .iconst 0, 1), (13, .putfield 242, 3), (16, .iload_n 1, 1), (17, .ifCond .ne 14, 3), (20, .bipush (-100), 2), (22, .aload_n 0, 1), (23, .getfield 36, 3), (26, .getfield 253, 3), (29, .isub, 1), (30, .ireturn, 1), (31, .aload_n 0, 1), (32, .getfield 10, 3), (35, .getfield 256, 3), (38, .bipush 10, 2), (40, .if_icmp .lt 8, 3), (43, .ldc 80, 2), (45, .goto 17, 3), (48, .aload_n 0, 1), (49, .getfield 10, 3), (52, .aload_n 0, 1), (53, .getfield 36, 3), (56, .getfield 259, 3), (59, .invokevirtual 263, 3), (62, .ireturn, 1)]
def kX10_of : List (Nat × Instr × Nat) := [(0, .iload_n 1, 1), (1, .iconst 0, 1), (2, .aload_n 0, 1), (3, .getfield 10, 3), (6, .getfield 256, 3), (9, .iconst 1, 1), (10, .isub, 1), (11, .invokestatic 65, 3), (14, .ifCond .eq 12, 3), (17, .iload_n 2, 1), (18, .iconst 0, 1), (19, .iconst 3, 1), (20, .invokestatic 65, 3), (23, .ifCond .ne 6, 3), (26, .ldc 69, 2), (28, .ireturn, 1), (29, .aload_n 0, 1), (30, .getfield 10, 3), (33, .getfield 267, 3), (36, .iload_n 1, 1), (37, .aaload, 1), (38, .astore_n 3, 1), (39, .iload_n 2, 1), (40, .tableswitch 62 0 2 #[28, 33, 38], 28), (68, .aload_n 3, 1), (69, .getfield 271, 3), (72, .ireturn, 1), (73, .aload_n 3, 1), (74, .getfield 276, 3), (77, .ireturn, 1), (78, .aload_n 3, 1), (79, .aload_n 0, 1), (80, .getfield 10, 3), (83, .getfield 70, 3), (86, .aload_n 0, 1), (87, .getfield 40, 3), (90, .invokevirtual 279, 3), (93, .ifCond .eq 7, 3), (96, .iconst 1, 1), (97, .goto 4, 3), (100, .iconst 0, 1), (101, .ireturn, 1), (102, .aload_n 3, 1), (103, .aload_n 0, 1), (104, .getfield 10, 3), (107, .getfield 70, 3), (110, .aload_n 0, 1), (111, .getfield 40, 3), (114, .invokevirtual 279, 3), (117, .ireturn, 1)]
def kX10_missed : List (Nat × Instr × Nat) := [(0, .iconst 0, 1), (1, .istore_n 1, 1), (2, .iload_n 1, 1), (3, .aload_n 0, 1), (4, .getfield 10, 3), (7, .getfield 256, 3), (10, .if_icmp .ge 37, 3), (13, .aload_n 0, 1), (14, .getfield 10, 3), (17, .getfield 267, 3), (20, .iload_n 1, 1), (21, .aaload, 1), (22, .aload_n 0, 1), (23, .getfield 10, 3), (26, .getfield 70, 3), (29, .aload_n 0, 1), (30, .getfield 40, 3), (33, .invokevirtual 279, 3), (36, .ifCond .ne 5, 3), (39, .iload_n 1, 1), (40, .ireturn, 1), (41, .iinc 1 1, 3), (44, .goto (-42), 3), (47, .ldc 178, 2), (49, .ireturn, 1)]
def kX10_stow : List (Nat × Instr × Nat) := [(0, .aload_n 0, 1), (1, .getfield 10, 3), (4, .getfield 283, 3), (7, .getfield 287, 3), (10, .bipush 8, 2), (12, .if_icmp .lt 8, 3), (15, .ldc 80, 2), (17, .goto 20, 3), (20, .aload_n 0, 1), (21, .getfield 10, 3), (24, .getfield 283, 3), (27, .aload_n 0, 1), (28, .getfield 10, 3), (31, .getfield 70, 3), (34, .invokevirtual 290, 3), (37, .ireturn, 1)]
def kX10_stowed : List (Nat × Instr × Nat) := [(0, .aload_n 0, 1), (1, .getfield 10, 3), (4, .getfield 283, 3), (7, .astore_n 3, 1), (8, .iload_n 1, 1), (9, .iconst 0, 1), (10, .aload_n 3, 1), (11, .getfield 287, 3), (14, .iconst 1, 1), (15, .isub, 1), (16, .invokestatic 65, 3), (19, .ifCond .ne 6, 3), (22, .ldc 69, 2), (24, .ireturn, 1), (25, .iload_n 2, 1), (26, .tableswitch 65 0 3 #[30, 37, 44, 51], 30), (56, .aload_n 3, 1), (57, .getfield 293, 3), (60, .iload_n 1, 1), (61, .iaload, 1), (62, .ireturn, 1), (63, .aload_n 3, 1), (64, .getfield 296, 3), (67, .iload_n 1, 1), (68, .iaload, 1), (69, .ireturn, 1), (70, .aload_n 3, 1), (71, .getfield 298, 3), (74, .iload_n 1, 1), (75, .iaload, 1), (76, .ireturn, 1), (77, .aload_n 3, 1), (78, .iload_n 1, 1), (79, .invokevirtual 301, 3), (82, .ifCond .eq 7, 3), (85, .iconst 1, 1), (86, .goto 4, 3), (89, .iconst 0, 1), (90, .ireturn, 1), (91, .ldc 69, 2), (93, .ireturn, 1)]
def kX10_front : List (Nat × Instr × Nat) := [(0, .iconst 0, 1), (1, .istore_n 1, 1), (2, .iconst 0, 1), (3, .istore_n 2, 1), (4, .iload_n 2, 1), (5, .aload_n 0, 1), (6, .getfield 10, 3), (9, .getfield 283, 3), (12, .getfield 287, 3), (15, .if_icmp .ge 29, 3), (18, .aload_n 0, 1), (19, .getfield 10, 3), (22, .getfield 283, 3), (25, .iload_n 2, 1), (26, .invokevirtual 301, 3), (29, .ifCond .ne 9, 3), (32, .iload_n 1, 1), (33, .iconst 1, 1), (34, .iload_n 2, 1), (35, .ishl, 1), (36, .ior, 1), (37, .istore_n 1, 1), (38, .iinc 2 1, 3), (41, .goto (-37), 3), (44, .iload_n 1, 1), (45, .ireturn, 1)]
def kX10_sheet : List (Nat × Instr × Nat) := [(0, .iload_n 1, 1), (1, .invokestatic 304, 3), (4, .ifCond .eq 12, 3), (7, .iload_n 2, 1), (8, .iconst (-1), 1), (9, .iconst 2, 1), (10, .invokestatic 65, 3), (13, .ifCond .ne 6, 3), (16, .ldc 69, 2), (18, .ireturn, 1), (19, .iload_n 2, 1), (20, .iconst (-1), 1), (21, .if_icmp .ne 16, 3), (24, .aload_n 0, 1), (25, .getfield 46, 3), (28, .iload_n 1, 1), (29, .aaload, 1), (30, .iconst (-1), 1), (31, .iconst 0, 1), (32, .invokevirtual 307, 3), (35, .iconst 0, 1), (36, .ireturn, 1), (37, .iload_n 3, 1), (38, .bipush 24, 2), (40, .if_icmp .le 6, 3), (43, .ldc 69, 2), (45, .ireturn, 1), (46, .iload_n 3, 1), (47, .ifCond .ge 7, 3), (50, .ldc_w 311, 3), (53, .ireturn, 1), (54, .aload_n 0, 1), (55, .getfield 46, 3), (58, .iload_n 1, 1), (59, .aaload, 1), (60, .iload_n 2, 1), (61, .iload_n 3, 1), (62, .invokevirtual 307, 3), (65, .iload_n 3, 1), (66, .ireturn, 1)]
def kX10_mark : List (Nat × Instr × Nat) := [(0, .iload_n 1, 1), (1, .invokestatic 304, 3), (4, .ifCond .ne 6, 3), (7, .ldc 69, 2), (9, .ireturn, 1), (10, .aload_n 0, 1), (11, .getfield 46, 3), (14, .iload_n 1, 1), (15, .aaload, 1), (16, .astore 4, 2), (18, .aload 4, 2), (20, .getfield 312, 3), (23, .iconst (-1), 1), (24, .if_icmp .ne 7, 3), (27, .ldc_w 315, 3), (30, .ireturn, 1), (31, .aload 4, 2), (33, .iload_n 2, 1), (34, .iconst 1, 1), (35, .invokevirtual 316, 3), (38, .ifCond .ne 7, 3), (41, .ldc_w 319, 3), (44, .ireturn, 1), (45, .aload 4, 2), (47, .iload_n 2, 1), (48, .iload_n 3, 1), (49, .invokevirtual 320, 3), (52, .ireturn, 1)]
def kX10_powers : List (Nat × Instr × Nat) := [(0, .iload_n 1, 1), (1, .invokestatic 304, 3), (4, .ifCond .ne 6, 3), (7, .ldc 69, 2), (9, .ireturn, 1), (10, .aload_n 0, 1), (11, .getfield 46, 3), (14, .iload_n 1, 1), (15, .aaload, 1), (16, .astore_n 3, 1), (17, .aload_n 0, 1), (18, .getfield 10, 3), (21, .getfield 70, 3), (24, .getfield 74, 3), (27, .istore 4, 2), (29, .aload_n 3, 1), (30, .getfield 312, 3), (33, .iconst (-1), 1), (34, .if_icmp .ne 7, 3), (37, .ldc_w 315, 3), (40, .ireturn, 1), (41, .aload_n 3, 1), (42, .iload_n 2, 1), (43, .iload 4, 2), (45, .invokevirtual 316, 3), (48, .ifCond .ne 7, 3), (51, .ldc_w 319, 3), (54, .ireturn, 1), (55, .iconst 0, 1), (56, .istore 5, 2), (58, .iload 5, 2), (60, .iload 4, 2), (62, .if_icmp .ge 27, 3), (65, .aload_n 3, 1), (66, .getfield 323, 3), (69, .iload_n 2, 1), (70, .iload 5, 2), (72, .iadd, 1), (73, .iaload, 1), (74, .invokestatic 120, 3), (77, .ifCond .ne 6, 3), (80, .ldc 119, 2), (82, .ireturn, 1), (83, .iinc 5 1, 3), (86, .goto (-28), 3), (89, .aload_n 0, 1), (90, .aload_n 3, 1), (91, .iload_n 2, 1), (92, .invokevirtual 326, 3), (95, .ireturn, 1)]
def kX10_copy : List (Nat × Instr × Nat) := [(0, .iload_n 1, 1), (1, .invokestatic 304, 3), (4, .ifCond .eq 10, 3), (7, .iload_n 3, 1), (8, .invokestatic 304, 3), (11, .ifCond .ne 6, 3), (14, .ldc 69, 2), (16, .ireturn, 1), (17, .aload_n 0, 1), (18, .getfield 46, 3), (21, .iload_n 1, 1), (22, .aaload, 1), (23, .astore 6, 2), (25, .aload_n 0, 1), (26, .getfield 46, 3), (29, .iload_n 3, 1), (30, .aaload, 1), (31, .astore 7, 2), (33, .aload 6, 2), (35, .getfield 312, 3), (38, .iconst (-1), 1), (39, .if_icmp .eq 12, 3), (42, .aload 7, 2), (44, .getfield 312, 3), (47, .iconst (-1), 1), (48, .if_icmp .ne 7, 3), (51, .ldc_w 315, 3), (54, .ireturn, 1), (55, .aload 6, 2), (57, .getfield 312, 3), (60, .aload 7, 2), (62, .getfield 312, 3), (65, .if_icmp .eq 6, 3), (68, .ldc 119, 2), (70, .ireturn, 1), (71, .aload 6, 2), (73, .iload_n 2, 1), (74, .iload 5, 2), (76, .invokevirtual 316, 3), (79, .ifCond .eq 15, 3), (82, .aload 7, 2), (84, .iload 4, 2), (86, .iload 5, 2), (88, .invokevirtual 316, 3), (91, .ifCond .ne 7, 3), (94, .ldc_w 319, 3), (97, .ireturn, 1), (98, .aload 6, 2), (100, .getfield 323, 3), (103, .iload_n 2, 1), (104, .aload 7, 2), (106, .getfield 323, 3), (109, .iload 4, 2), (111, .iload 5, 2), (113, .invokestatic 330, 3), (116, .iload 5, 2), (118, .ireturn, 1)]
def kX10_lay : List (Nat × Instr × Nat) := [(0, .iload_n 1, 1), (1, .invokestatic 336, 3), (4, .ifCond .eq 12, 3), (7, .iload_n 2, 1), (8, .iconst 0, 1), (9, .iconst 3, 1), (10, .invokestatic 65, 3), (13, .ifCond .ne 6, 3), (16, .ldc 69, 2), (18, .ireturn, 1), (19, .iload_n 2, 1), (20, .iconst 1, 1), (21, .if_icmp .ne 20, 3), (24, .aload_n 0, 1), (25, .getfield 10, 3), (28, .getfield 70, 3), (31, .iload_n 3, 1), (32, .invokevirtual 88, 3), (35, .ifCond .ne 6, 3), (38, .ldc 69, 2), (40, .ireturn, 1), (41, .iload_n 2, 1), (42, .iconst 2, 1), (43, .if_icmp .ne 13, 3), (46, .iload_n 3, 1), (47, .invokestatic 304, 3), (50, .ifCond .ne 6, 3), (53, .ldc 69, 2), (55, .ireturn, 1), (56, .iload_n 2, 1), (57, .iconst 2, 1), (58, .if_icmp .ne 20, 3), (61, .aload_n 0, 1), (62, .getfield 46, 3), (65, .iload_n 3, 1), (66, .aaload, 1), (67, .getfield 312, 3), (70, .iconst (-1), 1), (71, .if_icmp .ne 7, 3), (74, .ldc_w 315, 3), (77, .ireturn, 1), (78, .aload_n 0, 1), (79, .getfield 53, 3), (82, .iload_n 1, 1), (83, .aaload, 1), (84, .astore 4, 2), (86, .aload 4, 2), (88, .getfield 339, 3), (91, .istore 5, 2), (93, .aload 4, 2), (95, .iload_n 2, 1), (96, .putfield 339, 3), (99, .iload_n 2, 1), (100, .iconst 1, 1), (101, .if_icmp .ne 26, 3), (104, .aload 4, 2), (106, .getfield 342, 3), (109, .aload_n 0, 1), (110, .getfield 10, 3), (113, .getfield 70, 3), (116, .getfield 91, 3), (119, .iload_n 3, 1), (120, .aaload, 1), (121, .invokevirtual 345, 3), (124, .goto 31, 3), (127, .iload_n 2, 1), (128, .iconst 2, 1), (129, .if_icmp .ne 20, 3), (132, .aload 4, 2), (134, .getfield 349, 3), (137, .aload_n 0, 1), (138, .getfield 46, 3), (141, .iload_n 3, 1), (142, .aaload, 1), (143, .invokevirtual 353, 3), (146, .goto 9, 3), (149, .aload 4, 2), (151, .iload_n 3, 1), (152, .putfield 356, 3), (155, .iload 5, 2), (157, .ireturn, 1)]
def kX10_ask : List (Nat × Instr × Nat) := [(0, .iload_n 1, 1), (1, .invokestatic 336, 3), (4, .ifCond .eq 10, 3), (7, .iload_n 2, 1), (8, .invokestatic 61, 3), (11, .ifCond .ne 6, 3), (14, .ldc 69, 2), (16, .ireturn, 1), (17, .aload_n 0, 1), (18, .getfield 53, 3), (21, .iload_n 1, 1), (22, .aaload, 1), (23, .iconst 1, 1), (24, .invokevirtual 359, 3), (27, .istore_n 3, 1), (28, .iload_n 3, 1), (29, .ifCond .eq 5, 3), (32, .iload_n 3, 1), (33, .ireturn, 1), (34, .aload_n 0, 1), (35, .getfield 53, 3), (38, .iload_n 1, 1), (39, .aaload, 1), (40, .getfield 342, 3), (43, .astore 4, 2), (45, .aload 4, 2), (47, .iload_n 2, 1), (48, .invokevirtual 113, 3), (51, .ifCond .eq 11, 3), (54, .aload 4, 2), (56, .invokevirtual 362, 3), (59, .goto 5, 3), (62, .ldc 119, 2), (64, .ireturn, 1)]
def kX10_item : List (Nat × Instr × Nat) := [(0, .iload_n 1, 1), (1, .invokestatic 336, 3), (4, .ifCond .ne 6, 3), (7, .ldc 69, 2), (9, .ireturn, 1), (10, .aload_n 0, 1), (11, .getfield 53, 3), (14, .iload_n 1, 1), (15, .aaload, 1), (16, .iconst 2, 1), (17, .invokevirtual 359, 3), (20, .istore_n 3, 1), (21, .iload_n 3, 1), (22, .ifCond .eq 5, 3), (25, .iload_n 3, 1), (26, .ireturn, 1), (27, .aload_n 0, 1), (28, .getfield 53, 3), (31, .iload_n 1, 1), (32, .aaload, 1), (33, .getfield 349, 3), (36, .astore 4, 2), (38, .aload 4, 2), (40, .iload_n 2, 1), (41, .iconst 1, 1), (42, .invokevirtual 316, 3), (45, .ifCond .eq 13, 3), (48, .aload 4, 2), (50, .getfield 323, 3), (53, .iload_n 2, 1), (54, .iaload, 1), (55, .goto 6, 3), (58, .ldc_w 319, 3), (61, .ireturn, 1)]
def kX10_rest : List (Nat × Instr × Nat) := [(0, .iload_n 1, 1), (1, .invokestatic 336, 3), (4, .ifCond .ne 6, 3), (7, .ldc 69, 2), (9, .ireturn, 1), (10, .aload_n 0, 1), (11, .getfield 53, 3), (14, .iload_n 1, 1), (15, .aaload, 1), (16, .iconst 3, 1), (17, .invokevirtual 359, 3), (20, .istore_n 3, 1), (21, .iload_n 3, 1), (22, .ifCond .eq 5, 3), (25, .iload_n 3, 1), (26, .ireturn, 1), (27, .iload_n 2, 1), (28, .ifCond .ne 8, 3), (31, .ldc 189, 2), (33, .goto 14, 3), (36, .aload_n 0, 1), (37, .getfield 53, 3), (40, .iload_n 1, 1), (41, .aaload, 1), (42, .getfield 356, 3), (45, .iload_n 2, 1), (46, .irem, 1), (47, .ireturn, 1)]
def kX10_tell : List (Nat × Instr × Nat) := [(0, .aload_n 0, 1), (1, .getfield 365, 3), (4, .bipush 60, 2), (6, .if_icmp .lt 6, 3), (9, .ldc 80, 2), (11, .ireturn, 1), (12, .aload_n 0, 1), (13, .getfield 58, 3), (16, .aload_n 0, 1), (17, .getfield 365, 3), (20, .iload_n 1, 1), (21, .iastore, 1), (22, .aload_n 0, 1), (23, .dup, 1), (24, .getfield 365, 3), (27, .iconst 1, 1), (28, .iadd, 1), (29, .putfield 365, 3), (32, .aload_n 0, 1), (33, .getfield 365, 3), (36, .ireturn, 1)]
def kX10_check : List (Nat × Instr × Nat) := [(0, .aload_n 0, 1), (1, .getfield 365, 3), (4, .istore_n 2, 1), (5, .aload_n 0, 1), (6, .iconst 0, 1), (7, .putfield 365, 3), (10, .iload_n 1, 1), (11, .iconst 1, 1), (12, .bipush 60, 2), (14, .invokestatic 65, 3), (17, .ifCond .ne 6, 3), (20, .ldc 69, 2), (22, .ireturn, 1), (23, .aload_n 0, 1), (24, .getfield 368, 3), (27, .ifCond .eq 16, 3), (30, .aload_n 0, 1), (31, .getfield 16, 3), (34, .getfield 70, 3), (37, .getfield 74, 3), (40, .ifCond .ne 6, 3), (43, .ldc 189, 2), (45, .ireturn, 1), (46, .aload_n 0, 1), (47, .getfield 22, 3), (50, .getfield 372, 3), (53, .astore_n 3, 1), (54, .aload_n 3, 1), (55, .aload_n 0, 1), (56, .getfield 16, 3), (59, .getfield 70, 3), (62, .invokevirtual 375, 3), (65, .aload_n 3, 1), (66, .invokevirtual 172, 3), (69, .istore 4, 2), (71, .iconst 0, 1), (72, .istore 5, 2), (74, .iload 5, 2), (76, .iload_n 1, 1), (77, .if_icmp .ge 41, 3), (80, .aload_n 3, 1), (81, .iload 4, 2), (83, .iconst 0, 1), (84, .invokevirtual 207, 3), (87, .istore 4, 2), (89, .iload 5, 2), (91, .iload_n 2, 1), (92, .if_icmp .ge 15, 3), (95, .aload_n 0, 1), (96, .getfield 58, 3), (99, .iload 5, 2), (101, .iaload, 1), (102, .iload 4, 2), (104, .if_icmp .eq 8, 3), (107, .iconst 1, 1), (108, .iload 5, 2), (110, .iadd, 1), (111, .ireturn, 1), (112, .iinc 5 1, 3), (115, .goto (-41), 3), (118, .iload_n 2, 1), (119, .iload_n 1, 1), (120, .if_icmp .le 9, 3), (123, .iconst 1, 1), (124, .iload_n 1, 1), (125, .iadd, 1), (126, .goto 4, 3), (129, .iconst 0, 1), (130, .ireturn, 1)]
def kX10_keep : List (Nat × Instr × Nat) := [(0, .aload_n 0, 1), (1, .getfield 16, 3), (4, .aload_n 0, 1), (5, .getfield 10, 3), (8, .invokevirtual 377, 3), (11, .aload_n 0, 1), (12, .iconst 1, 1), (13, .putfield 368, 3), (16, .aload_n 0, 1), (17, .getfield 10, 3), (20, .getfield 70, 3), (23, .getfield 74, 3), (26, .ireturn, 1)]
def kX10_back : List (Nat × Instr × Nat) := [(0, .aload_n 0, 1), (1, .getfield 368, 3), (4, .ifCond .ne 6, 3), (7, .ldc 189, 2), (9, .ireturn, 1), (10, .aload_n 0, 1), (11, .getfield 10, 3), (14, .aload_n 0, 1), (15, .getfield 16, 3), (18, .invokevirtual 377, 3), (21, .aload_n 0, 1), (22, .getfield 29, 3), (25, .invokevirtual 81, 3), (28, .aload_n 0, 1), (29, .getfield 10, 3), (32, .getfield 70, 3), (35, .getfield 74, 3), (38, .ireturn, 1)]
def kX10_count : List (Nat × Instr × Nat) := [(0, .iload_n 1, 1), (1, .tableswitch 144 0 9 #[55, 66, 77, 85, 90, 101, 109, 120, 125, 133], 55), (56, .aload_n 0, 1), (57, .getfield 10, 3), (60, .getfield 70, 3), (63, .getfield 74, 3), (66, .ireturn, 1), (67, .aload_n 0, 1), (68, .getfield 10, 3), (71, .getfield 70, 3), (74, .getfield 140, 3), (77, .ireturn, 1), (78, .aload_n 0, 1), (79, .getfield 10, 3), (82, .getfield 256, 3), (85, .ireturn, 1), (86, .aload_n 0, 1), (87, .invokevirtual 380, 3), (90, .ireturn, 1), (91, .aload_n 0, 1), (92, .getfield 10, 3), (95, .getfield 283, 3), (98, .getfield 287, 3), (101, .ireturn, 1), (102, .aload_n 0, 1), (103, .getfield 29, 3), (106, .getfield 197, 3), (109, .ireturn, 1), (110, .aload_n 0, 1), (111, .getfield 10, 3), (114, .getfield 70, 3), (117, .invokevirtual 383, 3), (120, .ireturn, 1), (121, .aload_n 0, 1), (122, .getfield 365, 3), (125, .ireturn, 1), (126, .aload_n 0, 1), (127, .getfield 36, 3), (130, .getfield 242, 3), (133, .ireturn, 1), (134, .aload_n 0, 1), (135, .getfield 10, 3), (138, .getfield 70, 3), (141, .getfield 204, 3), (144, .ireturn, 1), (145, .ldc 69, 2), (147, .ireturn, 1)]
def kX10_metWishes : List (Nat × Instr × Nat) := [(0, .iconst 0, 1), (1, .istore_n 1, 1), (2, .iconst 0, 1), (3, .istore_n 2, 1), (4, .iload_n 2, 1), (5, .aload_n 0, 1), (6, .getfield 10, 3), (9, .getfield 256, 3), (12, .if_icmp .ge 38, 3), (15, .aload_n 0, 1), (16, .getfield 10, 3), (19, .getfield 267, 3), (22, .iload_n 2, 1), (23, .aaload, 1), (24, .aload_n 0, 1), (25, .getfield 10, 3), (28, .getfield 70, 3), (31, .aload_n 0, 1), (32, .getfield 40, 3), (35, .invokevirtual 279, 3), (38, .ifCond .eq 6, 3), (41, .iinc 1 1, 3), (44, .iinc 2 1, 3), (47, .goto (-43), 3), (50, .iload_n 1, 1), (51, .ireturn, 1)]
def kX10_takePowers : List (Nat × Instr × Nat) := [(0, .iconst 0, 1), (1, .istore_n 3, 1), (2, .iconst 0, 1), (3, .istore 4, 2), (5, .iload 4, 2), (7, .aload_n 0, 1), (8, .getfield 10, 3), (11, .getfield 70, 3), (14, .getfield 74, 3), (17, .if_icmp .ge 62, 3), (20, .aload_n 1, 1), (21, .getfield 323, 3), (24, .iload_n 2, 1), (25, .iload 4, 2), (27, .iadd, 1), (28, .iaload, 1), (29, .istore 5, 2), (31, .aload_n 0, 1), (32, .getfield 10, 3), (35, .getfield 70, 3), (38, .getfield 91, 3), (41, .iload 4, 2), (43, .aaload, 1), (44, .getfield 123, 3), (47, .iload 5, 2), (49, .if_icmp .eq 24, 3), (52, .aload_n 0, 1), (53, .getfield 10, 3), (56, .getfield 70, 3), (59, .getfield 91, 3), (62, .iload 4, 2), (64, .aaload, 1), (65, .iload 5, 2), (67, .putfield 123, 3), (70, .iinc 3 1, 3), (73, .iinc 4 1, 3), (76, .goto (-71), 3), (79, .iload_n 3, 1), (80, .ireturn, 1)]
def kX10_swap : List (Nat × Instr × Nat) := [(0, .aload_n 0, 1), (1, .iload_n 1, 1), (2, .iaload, 1), (3, .istore_n 3, 1), (4, .aload_n 0, 1), (5, .iload_n 1, 1), (6, .aload_n 0, 1), (7, .iload_n 2, 1), (8, .iaload, 1), (9, .iastore, 1), (10, .aload_n 0, 1), (11, .iload_n 2, 1), (12, .iload_n 3, 1), (13, .iastore, 1), (14, .return_, 1)]
def kX10_within : List (Nat × Instr × Nat) := [(0, .iload_n 0, 1), (1, .iload_n 1, 1), (2, .if_icmp .lt 12, 3), (5, .iload_n 0, 1), (6, .iload_n 2, 1), (7, .if_icmp .gt 7, 3), (10, .iconst 1, 1), (11, .goto 4, 3), (14, .iconst 0, 1), (15, .ireturn, 1)]
def kX10_isKind : List (Nat × Instr × Nat) := [(0, .iload_n 0, 1), (1, .iconst 0, 1), (2, .iconst 5, 1), (3, .invokestatic 65, 3), (6, .ireturn, 1)]
def kX10_isPower : List (Nat × Instr × Nat) := [(0, .iload_n 0, 1), (1, .iconst 0, 1), (2, .bipush 99, 2), (4, .invokestatic 65, 3), (7, .ireturn, 1)]
def kX10_isSheet : List (Nat × Instr × Nat) := [(0, .iload_n 0, 1), (1, .iconst 0, 1), (2, .iconst 3, 1), (3, .invokestatic 65, 3), (6, .ireturn, 1)]
def kX10_isSlot : List (Nat × Instr × Nat) := [(0, .iload_n 0, 1), (1, .iconst 0, 1), (2, .iconst 4, 1), (3, .invokestatic 65, 3), (6, .ireturn, 1)]
def kX11_isIn : List (Nat × Instr × Nat) := [(0, .lload_n 0, 1), (1, .lload_n 2, 1), (2, .lcmp, 1), (3, .ifCond .lt 14, 3), (6, .lload_n 0, 1), (7, .lload 4, 2), (9, .lcmp, 1), (10, .ifCond .gt 7, 3), (13, .iconst 1, 1), (14, .goto 4, 3), (17, .iconst 0, 1), (18, .ireturn, 1)]
def kX11_orNone : List (Nat × Instr × Nat) := [(0, .iload_n 0, 1), (1, .ifCond .ge 8, 3), (4, .ldc 76, 2), (6, .goto 4, 3), (9, .iload_n 0, 1), (10, .ireturn, 1)]
def kX11_least : List (Nat × Instr × Nat) := [(0, .iload_n 0, 1), (1, .iload_n 1, 1), (2, .if_icmp .ge 7, 3), (5, .iload_n 0, 1), (6, .goto 4, 3), (9, .iload_n 1, 1), (10, .ireturn, 1)]
def kX11_most : List (Nat × Instr × Nat) := [(0, .iload_n 0, 1), (1, .iload_n 1, 1), (2, .if_icmp .le 7, 3), (5, .iload_n 0, 1), (6, .goto 4, 3), (9, .iload_n 1, 1), (10, .ireturn, 1)]
def kX11_becomes : List (Nat × Instr × Nat) := [(0, .aload_n 0, 1), (1, .getfield 7, 3), (4, .iload_n 1, 1), (5, .iaload, 1), (6, .istore_n 3, 1), (7, .aload_n 0, 1), (8, .getfield 7, 3), (11, .iload_n 1, 1), (12, .iload_n 2, 1), (13, .iastore, 1), (14, .iload_n 3, 1), (15, .ireturn, 1)]
def kX11_blockAt : List (Nat × Instr × Nat) := [(0, .bipush 20, 2), (2, .bipush 6, 2), (4, .iload_n 1, 1), (5, .imul, 1), (6, .iadd, 1), (7, .ireturn, 1)]
def kX11_textAt : List (Nat × Instr × Nat) := [(0, .sipush 140, 3), (3, .sipush 200, 3), (6, .iload_n 1, 1), (7, .imul, 1), (8, .iadd, 1), (9, .ireturn, 1)]
def kX11_isBlock : List (Nat × Instr × Nat) := [(0, .iload_n 1, 1), (1, .i2l, 1), (2, .lconst 0, 1), (3, .aload_n 0, 1), (4, .getfield 7, 3), (7, .iconst 0, 1), (8, .iaload, 1), (9, .iconst 1, 1), (10, .isub, 1), (11, .i2l, 1), (12, .invokestatic 77, 3), (15, .ireturn, 1)]
def kX11_isText : List (Nat × Instr × Nat) := [(0, .iload_n 1, 1), (1, .i2l, 1), (2, .lconst 0, 1), (3, .aload_n 0, 1), (4, .getfield 7, 3), (7, .iconst 2, 1), (8, .iaload, 1), (9, .iconst 1, 1), (10, .isub, 1), (11, .i2l, 1), (12, .invokestatic 77, 3), (15, .ireturn, 1)]
def kX11_shapesOf : List (Nat × Instr × Nat) := [(0, .iload_n 0, 1), (1, .tableswitch 53 1 5 #[35, 37, 40, 53, 42], 35), (36, .iconst 2, 1), (37, .ireturn, 1), (38, .bipush 6, 2), (40, .ireturn, 1), (41, .iconst 5, 1), (42, .ireturn, 1), (43, .iload_n 1, 1), (44, .iconst 1, 1), (45, .if_icmp .le 7, 3), (48, .iconst 3, 1), (49, .goto 4, 3), (52, .iconst 2, 1), (53, .ireturn, 1), (54, .iconst 1, 1), (55, .ireturn, 1)]
def kX11_isSoft : List (Nat × Instr × Nat) := [(0, .iload_n 0, 1), (1, .iconst 2, 1), (2, .if_icmp .eq 8, 3), (5, .iload_n 0, 1), (6, .iconst 3, 1), (7, .if_icmp .ne 7, 3), (10, .iconst 1, 1), (11, .goto 4, 3), (14, .iconst 0, 1), (15, .ireturn, 1)]
def kX11_widthOf : List (Nat × Instr × Nat) := [(0, .iload_n 0, 1), (1, .invokestatic 81, 3), (4, .ifCond .eq 7, 3), (7, .iload_n 1, 1), (8, .iload_n 3, 1), (9, .iadd, 1), (10, .ireturn, 1), (11, .iload_n 3, 1), (12, .iconst 1, 1), (13, .if_icmp .ne 7, 3), (16, .iload_n 2, 1), (17, .goto 15, 3), (20, .iload_n 3, 1), (21, .iconst 2, 1), (22, .if_icmp .ne 9, 3), (25, .iload_n 1, 1), (26, .iconst 1, 1), (27, .iadd, 1), (28, .goto 4, 3), (31, .iload_n 1, 1), (32, .ireturn, 1)]
def kX11_heightOf : List (Nat × Instr × Nat) := [(0, .iload_n 0, 1), (1, .invokestatic 81, 3), (4, .ifCond .eq 38, 3), (7, .iload_n 1, 1), (8, .iload_n 2, 1), (9, .imul, 1), (10, .iload_n 1, 1), (11, .iadd, 1), (12, .iload_n 3, 1), (13, .iadd, 1), (14, .iconst 1, 1), (15, .isub, 1), (16, .iload_n 1, 1), (17, .iload_n 3, 1), (18, .iadd, 1), (19, .idiv, 1), (20, .istore 4, 2), (22, .iload_n 0, 1), (23, .iconst 3, 1), (24, .if_icmp .ne 15, 3), (27, .iload_n 3, 1), (28, .iconst 2, 1), (29, .if_icmp .le 10, 3), (32, .iload 4, 2), (34, .iconst 1, 1), (35, .iadd, 1), (36, .goto 5, 3), (39, .iload 4, 2), (41, .ireturn, 1), (42, .iload_n 3, 1), (43, .iconst 1, 1), (44, .if_icmp .ne 7, 3), (47, .iload_n 1, 1), (48, .goto 15, 3), (51, .iload_n 3, 1), (52, .iconst 2, 1), (53, .if_icmp .ne 9, 3), (56, .iload_n 2, 1), (57, .iconst 1, 1), (58, .isub, 1), (59, .goto 4, 3), (62, .iload_n 2, 1), (63, .ireturn, 1)]
def kX11_roomOf : List (Nat × Instr × Nat) := [(0, .iload_n 0, 1), (1, .invokestatic 81, 3), (4, .ifCond .eq 18, 3), (7, .iload_n 1, 1), (8, .iload_n 2, 1), (9, .imul, 1), (10, .iload_n 0, 1), (11, .iconst 3, 1), (12, .if_icmp .ne 7, 3), (15, .iconst 1, 1), (16, .goto 4, 3), (19, .iconst 0, 1), (20, .iadd, 1), (21, .ireturn, 1), (22, .iload_n 0, 1), (23, .iload_n 1, 1), (24, .iload_n 2, 1), (25, .iload_n 3, 1), (26, .invokestatic 85, 3), (29, .iload_n 0, 1), (30, .iload_n 1, 1), (31, .iload_n 2, 1), (32, .iload_n 3, 1), (33, .invokestatic 89, 3), (36, .imul, 1), (37, .iload_n 0, 1), (38, .iconst 5, 1), (39, .if_icmp .ne 7, 3), (42, .iconst 1, 1), (43, .goto 4, 3), (46, .iconst 0, 1), (47, .isub, 1), (48, .ireturn, 1)]
def kX11_worthOf : List (Nat × Instr × Nat) := [(0, .iload_n 0, 1), (1, .iload_n 1, 1), (2, .iload_n 2, 1), (3, .iload 4, 2), (5, .invokestatic 92, 3), (8, .istore 5, 2), (10, .iload_n 0, 1), (11, .tableswitch 47 1 4 #[29, 34, 34, 40], 29), (40, .iload 5, 2), (42, .iload_n 3, 1), (43, .iadd, 1), (44, .ireturn, 1), (45, .iload 5, 2), (47, .iload 4, 2), (49, .isub, 1), (50, .ireturn, 1), (51, .iconst 2, 1), (52, .iload 5, 2), (54, .iload_n 3, 1), (55, .iadd, 1), (56, .imul, 1), (57, .ireturn, 1), (58, .iload 5, 2), (60, .ireturn, 1)]
def kX11_width : List (Nat × Instr × Nat) := [(0, .aload_n 0, 1), (1, .iload_n 1, 1), (2, .invokevirtual 95, 3), (5, .istore_n 2, 1), (6, .aload_n 0, 1), (7, .getfield 7, 3), (10, .iload_n 2, 1), (11, .iaload, 1), (12, .aload_n 0, 1), (13, .getfield 7, 3), (16, .iload_n 2, 1), (17, .iconst 1, 1), (18, .iadd, 1), (19, .iaload, 1), (20, .aload_n 0, 1), (21, .getfield 7, 3), (24, .iload_n 2, 1), (25, .iconst 2, 1), (26, .iadd, 1), (27, .iaload, 1), (28, .aload_n 0, 1), (29, .getfield 7, 3), (32, .iload_n 2, 1), (33, .iconst 5, 1), (34, .iadd, 1), (35, .iaload, 1), (36, .invokestatic 85, 3), (39, .ireturn, 1)]
def kX11_height : List (Nat × Instr × Nat) := [(0, .aload_n 0, 1), (1, .iload_n 1, 1), (2, .invokevirtual 95, 3), (5, .istore_n 2, 1), (6, .aload_n 0, 1), (7, .getfield 7, 3), (10, .iload_n 2, 1), (11, .iaload, 1), (12, .aload_n 0, 1), (13, .getfield 7, 3), (16, .iload_n 2, 1), (17, .iconst 1, 1), (18, .iadd, 1), (19, .iaload, 1), (20, .aload_n 0, 1), (21, .getfield 7, 3), (24, .iload_n 2, 1), (25, .iconst 2, 1), (26, .iadd, 1), (27, .iaload, 1), (28, .aload_n 0, 1), (29, .getfield 7, 3), (32, .iload_n 2, 1), (33, .iconst 5, 1), (34, .iadd, 1), (35, .iaload, 1), (36, .invokestatic 89, 3), (39, .ireturn, 1)]
def kX11_room : List (Nat × Instr × Nat) := [(0, .aload_n 0, 1), (1, .iload_n 1, 1), (2, .invokevirtual 95, 3), (5, .istore_n 2, 1), (6, .aload_n 0, 1), (7, .getfield 7, 3), (10, .iload_n 2, 1), (11, .iaload, 1), (12, .aload_n 0, 1), (13, .getfield 7, 3), (16, .iload_n 2, 1), (17, .iconst 1, 1), (18, .iadd, 1), (19, .iaload, 1), (20, .aload_n 0, 1), (21, .getfield 7, 3), (24, .iload_n 2, 1), (25, .iconst 2, 1), (26, .iadd, 1), (27, .iaload, 1), (28, .aload_n 0, 1), (29, .getfield 7, 3), (32, .iload_n 2, 1), (33, .iconst 5, 1), (34, .iadd, 1), (35, .iaload, 1), (36, .invokestatic 92, 3), (39, .ireturn, 1)]
def kX11_isAlike : List (Nat × Instr × Nat) := [(0, .aload_n 0, 1), (1, .getfield 7, 3), (4, .aload_n 0, 1), (5, .iload_n 1, 1), (6, .invokevirtual 95, 3), (9, .iconst 4, 1), (10, .iadd, 1), (11, .iaload, 1), (12, .aload_n 0, 1), (13, .getfield 7, 3), (16, .aload_n 0, 1), (17, .iload_n 2, 1), (18, .invokevirtual 95, 3), (21, .iconst 4, 1), (22, .iadd, 1), (23, .iaload, 1), (24, .if_icmp .ne 7, 3), (27, .iconst 1, 1), (28, .goto 4, 3), (31, .iconst 0, 1), (32, .ireturn, 1)]
def kX11_findPlaces : List (Nat × Instr × Nat) := [(0, .aload_n 0, 1), (1, .getfield 7, 3), (4, .iconst 0, 1), (5, .iaload, 1), (6, .istore_n 1, 1), (7, .aload_n 0, 1), (8, .iconst 0, 1), (9, .putfield 99, 3), (12, .aload_n 0, 1), (13, .iconst 0, 1), (14, .putfield 103, 3), (17, .iconst 0, 1), (18, .istore_n 2, 1), (19, .iload_n 2, 1), (20, .iload_n 1, 1), (21, .if_icmp .ge 24, 3), (24, .aload_n 0, 1), (25, .getfield 46, 3), (28, .aload_n 0, 1), (29, .getfield 7, 3), (32, .bipush 70, 2), (34, .iload_n 2, 1), (35, .iadd, 1), (36, .iaload, 1), (37, .iload_n 2, 1), (38, .iastore, 1), (39, .iinc 2 1, 3), (42, .goto (-23), 3), (45, .iconst 0, 1), (46, .istore_n 2, 1), (47, .iload_n 2, 1), (48, .iload_n 1, 1), (49, .if_icmp .ge 203, 3), (52, .aload_n 0, 1), (53, .getfield 7, 3), (56, .bipush 78, 2), (58, .iload_n 2, 1), (59, .iadd, 1), (60, .iaload, 1), (61, .istore_n 3, 1), (62, .aload_n 0, 1), (63, .getfield 49, 3), (66, .iload_n 3, 1), (67, .iconst 0, 1), (68, .iastore, 1), (69, .aload_n 0, 1), (70, .getfield 52, 3), (73, .iload_n 3, 1), (74, .iconst 0, 1), (75, .iastore, 1), (76, .iconst 0, 1), (77, .istore 4, 2), (79, .iload 4, 2), (81, .iload_n 2, 1), (82, .if_icmp .ge 118, 3), (85, .aload_n 0, 1), (86, .getfield 7, 3), (89, .bipush 78, 2), (91, .iload 4, 2), (93, .iadd, 1), (94, .iaload, 1), (95, .istore 5, 2), (97, .aload_n 0, 1), (98, .iload_n 3, 1), (99, .iload 5, 2), (101, .invokevirtual 106, 3), (104, .ifCond .eq 51, 3), (107, .aload_n 0, 1), (108, .getfield 46, 3), (111, .iload 5, 2), (113, .iaload, 1), (114, .aload_n 0, 1), (115, .getfield 46, 3), (118, .iload_n 3, 1), (119, .iaload, 1), (120, .if_icmp .ge 35, 3), (123, .aload_n 0, 1), (124, .getfield 49, 3), (127, .iload_n 3, 1), (128, .aload_n 0, 1), (129, .getfield 49, 3), (132, .iload_n 3, 1), (133, .iaload, 1), (134, .aload_n 0, 1), (135, .getfield 49, 3), (138, .iload 5, 2), (140, .iaload, 1), (141, .aload_n 0, 1), (142, .iload 5, 2), (144, .invokevirtual 110, 3), (147, .iadd, 1), (148, .invokestatic 113, 3), (151, .iastore, 1), (152, .goto 42, 3), (155, .aload_n 0, 1), (156, .iload_n 3, 1), (157, .iload 5, 2), (159, .invokevirtual 106, 3), (162, .ifCond .eq 32, 3), (165, .aload_n 0, 1), (166, .getfield 52, 3), (169, .iload_n 3, 1), (170, .aload_n 0, 1), (171, .getfield 52, 3), (174, .iload_n 3, 1), (175, .iaload, 1), (176, .aload_n 0, 1), (177, .getfield 52, 3), (180, .iload 5, 2), (182, .iaload, 1), (183, .aload_n 0, 1), (184, .iload 5, 2), (186, .invokevirtual 117, 3), (189, .iadd, 1), (190, .invokestatic 113, 3), (193, .iastore, 1), (194, .iinc 4 1, 3), (197, .goto (-118), 3), (200, .aload_n 0, 1), (201, .aload_n 0, 1), (202, .getfield 99, 3), (205, .aload_n 0, 1), (206, .getfield 49, 3), (209, .iload_n 3, 1), (210, .iaload, 1), (211, .aload_n 0, 1), (212, .iload_n 3, 1), (213, .invokevirtual 110, 3), (216, .iadd, 1), (217, .invokestatic 113, 3), (220, .putfield 99, 3), (223, .aload_n 0, 1), (224, .aload_n 0, 1), (225, .getfield 103, 3), (228, .aload_n 0, 1), (229, .getfield 52, 3), (232, .iload_n 3, 1), (233, .iaload, 1), (234, .aload_n 0, 1), (235, .iload_n 3, 1), (236, .invokevirtual 117, 3), (239, .iadd, 1), (240, .invokestatic 113, 3), (243, .putfield 103, 3), (246, .iinc 2 1, 3), (249, .goto (-202), 3), (252, .return_, 1)]
def kX11_onLayer : List (Nat × Instr × Nat) := [(0, .iconst 0, 1), (1, .istore_n 2, 1), (2, .iconst 0, 1), (3, .istore_n 3, 1), (4, .iload_n 3, 1), (5, .aload_n 0, 1), (6, .getfield 7, 3), (9, .iconst 0, 1), (10, .iaload, 1), (11, .if_icmp .ge 33, 3), (14, .iload_n 2, 1), (15, .aload_n 0, 1), (16, .getfield 7, 3), (19, .aload_n 0, 1), (20, .iload_n 3, 1), (21, .invokevirtual 95, 3), (24, .iconst 4, 1), (25, .iadd, 1), (26, .iaload, 1), (27, .iload_n 1, 1), (28, .if_icmp .ne 7, 3), (31, .iconst 1, 1), (32, .goto 4, 3), (35, .iconst 0, 1), (36, .iadd, 1), (37, .istore_n 2, 1), (38, .iinc 3 1, 3), (41, .goto (-37), 3), (44, .iload_n 2, 1), (45, .ireturn, 1)]
def kX11_waste : List (Nat × Instr × Nat) := [(0, .aload_n 0, 1), (1, .getfield 99, 3), (4, .aload_n 0, 1), (5, .getfield 103, 3), (8, .imul, 1), (9, .aload_n 0, 1), (10, .iconst 1, 1), (11, .invokevirtual 120, 3), (14, .ifCond .le 7, 3), (17, .iconst 2, 1), (18, .goto 4, 3), (21, .iconst 1, 1), (22, .imul, 1), (23, .istore_n 1, 1), (24, .iconst 0, 1), (25, .istore_n 2, 1), (26, .iload_n 2, 1), (27, .aload_n 0, 1), (28, .getfield 7, 3), (31, .iconst 0, 1), (32, .iaload, 1), (33, .if_icmp .ge 23, 3), (36, .iload_n 1, 1), (37, .aload_n 0, 1), (38, .iload_n 2, 1), (39, .invokevirtual 110, 3), (42, .aload_n 0, 1), (43, .iload_n 2, 1), (44, .invokevirtual 117, 3), (47, .imul, 1), (48, .isub, 1), (49, .istore_n 1, 1), (50, .iinc 2 1, 3), (53, .goto (-27), 3), (56, .iload_n 1, 1), (57, .ireturn, 1)]
def kX11_wireOf : List (Nat × Instr × Nat) := [(0, .aload_n 0, 1), (1, .getfield 7, 3), (4, .bipush 90, 2), (6, .iconst 2, 1), (7, .iload_n 1, 1), (8, .imul, 1), (9, .iadd, 1), (10, .iaload, 1), (11, .istore_n 2, 1), (12, .iconst 0, 1), (13, .istore_n 3, 1), (14, .iconst 0, 1), (15, .istore 4, 2), (17, .iconst 0, 1), (18, .istore 5, 2), (20, .iconst 0, 1), (21, .istore 6, 2), (23, .iconst 0, 1), (24, .istore 7, 2), (26, .iconst 0, 1), (27, .istore 8, 2), (29, .iconst 0, 1), (30, .istore 9, 2), (32, .iload 9, 2), (34, .aload_n 0, 1), (35, .getfield 7, 3), (38, .iconst 0, 1), (39, .iaload, 1), (40, .if_icmp .ge 152, 3), (43, .iload_n 2, 1), (44, .iload 9, 2), (46, .ishr, 1), (47, .iconst 1, 1), (48, .iand, 1), (49, .ifCond .ne 6, 3), (52, .goto 134, 3), (55, .iconst 2, 1), (56, .aload_n 0, 1), (57, .getfield 49, 3), (60, .iload 9, 2), (62, .iaload, 1), (63, .imul, 1), (64, .aload_n 0, 1), (65, .iload 9, 2), (67, .invokevirtual 110, 3), (70, .iadd, 1), (71, .istore 10, 2), (73, .iconst 2, 1), (74, .aload_n 0, 1), (75, .getfield 52, 3), (78, .iload 9, 2), (80, .iaload, 1), (81, .imul, 1), (82, .aload_n 0, 1), (83, .iload 9, 2), (85, .invokevirtual 117, 3), (88, .iadd, 1), (89, .istore 11, 2), (91, .iload_n 3, 1), (92, .ifCond .ne 8, 3), (95, .iload 10, 2), (97, .goto 10, 3), (100, .iload 5, 2), (102, .iload 10, 2), (104, .invokestatic 123, 3), (107, .istore 5, 2), (109, .iload_n 3, 1), (110, .ifCond .ne 8, 3), (113, .iload 10, 2), (115, .goto 10, 3), (118, .iload 6, 2), (120, .iload 10, 2), (122, .invokestatic 113, 3), (125, .istore 6, 2), (127, .iload_n 3, 1), (128, .ifCond .ne 8, 3), (131, .iload 11, 2), (133, .goto 10, 3), (136, .iload 7, 2), (138, .iload 11, 2), (140, .invokestatic 123, 3), (143, .istore 7, 2), (145, .iload_n 3, 1), (146, .ifCond .ne 8, 3), (149, .iload 11, 2), (151, .goto 10, 3), (154, .iload 8, 2), (156, .iload 11, 2), (158, .invokestatic 113, 3), (161, .istore 8, 2), (163, .iload 4, 2), (165, .iconst 1, 1), (166, .aload_n 0, 1), (167, .getfield 7, 3), (170, .aload_n 0, 1), (171, .iload 9, 2), (173, .invokevirtual 95, 3), (176, .iconst 4, 1), (177, .iadd, 1), (178, .iaload, 1), (179, .ishl, 1), (180, .ior, 1), (181, .istore 4, 2), (183, .iinc 3 1, 3), (186, .iinc 9 1, 3), (189, .goto (-157), 3), (192, .iload_n 3, 1), (193, .iconst 2, 1), (194, .if_icmp .ge 7, 3), (197, .iconst 0, 1), (198, .goto 47, 3), (201, .iload 6, 2), (203, .iload 5, 2), (205, .isub, 1), (206, .iload 8, 2), (208, .iadd, 1), (209, .iload 7, 2), (211, .isub, 1), (212, .iload 4, 2), (214, .iconst 3, 1), (215, .if_icmp .ne 14, 3), (218, .iconst 2, 1), (219, .aload_n 0, 1), (220, .getfield 7, 3), (223, .iconst 5, 1), (224, .iaload, 1), (225, .imul, 1), (226, .goto 4, 3), (229, .iconst 0, 1), (230, .iadd, 1), (231, .aload_n 0, 1), (232, .getfield 7, 3), (235, .bipush 90, 2), (237, .iconst 2, 1), (238, .iload_n 1, 1), (239, .imul, 1), (240, .iadd, 1), (241, .iconst 1, 1), (242, .iadd, 1), (243, .iaload, 1), (244, .imul, 1), (245, .ireturn, 1)]
def kX11_wires : List (Nat × Instr × Nat) := [(0, .iconst 0, 1), (1, .istore_n 1, 1), (2, .iconst 0, 1), (3, .istore_n 2, 1), (4, .iload_n 2, 1), (5, .aload_n 0, 1), (6, .getfield 7, 3), (9, .iconst 1, 1), (10, .iaload, 1), (11, .if_icmp .ge 17, 3), (14, .iload_n 1, 1), (15, .aload_n 0, 1), (16, .iload_n 2, 1), (17, .invokevirtual 126, 3), (20, .iadd, 1), (21, .istore_n 1, 1), (22, .iinc 2 1, 3), (25, .goto (-21), 3), (28, .iload_n 1, 1), (29, .ireturn, 1)]
def kX11_priceNow : List (Nat × Instr × Nat) := [(0, .aload_n 0, 1), (1, .invokevirtual 129, 3), (4, .iconst 0, 1), (5, .aload_n 0, 1), (6, .getfield 99, 3), (9, .aload_n 0, 1), (10, .getfield 7, 3), (13, .bipush 9, 2), (15, .iaload, 1), (16, .isub, 1), (17, .invokestatic 113, 3), (20, .iconst 0, 1), (21, .aload_n 0, 1), (22, .getfield 103, 3), (25, .aload_n 0, 1), (26, .getfield 7, 3), (29, .bipush 9, 2), (31, .iaload, 1), (32, .isub, 1), (33, .invokestatic 113, 3), (36, .iadd, 1), (37, .istore_n 1, 1), (38, .aload_n 0, 1), (39, .getfield 99, 3), (42, .aload_n 0, 1), (43, .getfield 103, 3), (46, .imul, 1), (47, .aload_n 0, 1), (48, .getfield 7, 3), (51, .bipush 6, 2), (53, .iaload, 1), (54, .imul, 1), (55, .aload_n 0, 1), (56, .invokevirtual 132, 3), (59, .aload_n 0, 1), (60, .getfield 7, 3), (63, .bipush 7, 2), (65, .iaload, 1), (66, .imul, 1), (67, .iadd, 1), (68, .aload_n 0, 1), (69, .getfield 7, 3), (72, .bipush 8, 2), (74, .iaload, 1), (75, .iload_n 1, 1), (76, .imul, 1), (77, .iadd, 1), (78, .ireturn, 1)]
def kX11_behind : List (Nat × Instr × Nat) := [(0, .iconst 0, 1), (1, .istore_n 2, 1), (2, .aload_n 0, 1), (3, .getfield 7, 3), (6, .iconst 0, 1), (7, .iaload, 1), (8, .istore_n 3, 1), (9, .iconst 0, 1), (10, .istore 4, 2), (12, .iconst 0, 1), (13, .istore 5, 2), (15, .iload 5, 2), (17, .iload_n 3, 1), (18, .if_icmp .ge 85, 3), (21, .aload_n 0, 1), (22, .getfield 7, 3), (25, .bipush 78, 2), (27, .iload 5, 2), (29, .iadd, 1), (30, .iaload, 1), (31, .istore 6, 2), (33, .iload 4, 2), (35, .ifCond .eq 42, 3), (38, .aload_n 0, 1), (39, .iload_n 1, 1), (40, .iload 6, 2), (42, .invokevirtual 106, 3), (45, .ifCond .eq 32, 3), (48, .aload_n 0, 1), (49, .getfield 46, 3), (52, .iload 6, 2), (54, .iaload, 1), (55, .aload_n 0, 1), (56, .getfield 46, 3), (59, .iload_n 1, 1), (60, .iaload, 1), (61, .if_icmp .le 16, 3), (64, .iload_n 2, 1), (65, .aload_n 0, 1), (66, .iload 6, 2), (68, .invokevirtual 136, 3), (71, .invokestatic 113, 3), (74, .goto 4, 3), (77, .iload_n 2, 1), (78, .istore_n 2, 1), (79, .iload 4, 2), (81, .ifCond .ne 9, 3), (84, .iload 6, 2), (86, .iload_n 1, 1), (87, .if_icmp .ne 7, 3), (90, .iconst 1, 1), (91, .goto 4, 3), (94, .iconst 0, 1), (95, .istore 4, 2), (97, .iinc 5 1, 3), (100, .goto (-85), 3), (103, .iload_n 2, 1), (104, .aload_n 0, 1), (105, .iload_n 1, 1), (106, .invokevirtual 110, 3), (109, .iadd, 1), (110, .ireturn, 1)]
def kX11_growsOf : List (Nat × Instr × Nat) := [(0, .aload_n 0, 1), (1, .getfield 99, 3), (4, .aload_n 0, 1), (5, .getfield 49, 3), (8, .iload_n 1, 1), (9, .iaload, 1), (10, .isub, 1), (11, .aload_n 0, 1), (12, .iload_n 1, 1), (13, .invokevirtual 136, 3), (16, .isub, 1), (17, .ireturn, 1)]
def kX11_over : List (Nat × Instr × Nat) := [(0, .iload_n 0, 1), (1, .iload_n 1, 1), (2, .iadd, 1), (3, .iload_n 2, 1), (4, .iload_n 3, 1), (5, .iadd, 1), (6, .invokestatic 123, 3), (9, .iload_n 0, 1), (10, .iload_n 2, 1), (11, .invokestatic 113, 3), (14, .isub, 1), (15, .ireturn, 1)]
def kX11_doTouch : List (Nat × Instr × Nat) := [(0, .aload_n 0, 1), (1, .getfield 49, 3), (4, .iload_n 1, 1), (5, .iaload, 1), (6, .aload_n 0, 1), (7, .iload_n 1, 1), (8, .invokevirtual 110, 3), (11, .aload_n 0, 1), (12, .getfield 49, 3), (15, .iload_n 2, 1), (16, .iaload, 1), (17, .aload_n 0, 1), (18, .iload_n 2, 1), (19, .invokevirtual 110, 3), (22, .invokestatic 139, 3), (25, .istore_n 3, 1), (26, .aload_n 0, 1), (27, .getfield 52, 3), (30, .iload_n 1, 1), (31, .iaload, 1), (32, .aload_n 0, 1), (33, .iload_n 1, 1), (34, .invokevirtual 117, 3), (37, .aload_n 0, 1), (38, .getfield 52, 3), (41, .iload_n 2, 1), (42, .iaload, 1), (43, .aload_n 0, 1), (44, .iload_n 2, 1), (45, .invokevirtual 117, 3), (48, .invokestatic 139, 3), (51, .istore 4, 2), (53, .aload_n 0, 1), (54, .iload_n 1, 1), (55, .iload_n 2, 1), (56, .invokevirtual 106, 3), (59, .ifCond .eq 25, 3), (62, .iload_n 3, 1), (63, .ifCond .ne 8, 3), (66, .iload 4, 2), (68, .ifCond .gt 12, 3), (71, .iload 4, 2), (73, .ifCond .ne 11, 3), (76, .iload_n 3, 1), (77, .ifCond .le 7, 3), (80, .iconst 1, 1), (81, .goto 4, 3), (84, .iconst 0, 1), (85, .ireturn, 1)]
def kX11_heatOf : List (Nat × Instr × Nat) := [(0, .iconst 4, 1), (1, .aload_n 0, 1), (2, .getfield 7, 3), (5, .aload_n 0, 1), (6, .iload_n 1, 1), (7, .invokevirtual 95, 3), (10, .iconst 3, 1), (11, .iadd, 1), (12, .iaload, 1), (13, .imul, 1), (14, .istore_n 2, 1), (15, .iconst 0, 1), (16, .istore_n 3, 1), (17, .iload_n 3, 1), (18, .aload_n 0, 1), (19, .getfield 7, 3), (22, .iconst 0, 1), (23, .iaload, 1), (24, .if_icmp .ge 140, 3), (27, .aload_n 0, 1), (28, .iload_n 1, 1), (29, .iload_n 3, 1), (30, .invokevirtual 106, 3), (33, .ifCond .ne 63, 3), (36, .aload_n 0, 1), (37, .getfield 49, 3), (40, .iload_n 1, 1), (41, .iaload, 1), (42, .aload_n 0, 1), (43, .iload_n 1, 1), (44, .invokevirtual 110, 3), (47, .aload_n 0, 1), (48, .getfield 49, 3), (51, .iload_n 3, 1), (52, .iaload, 1), (53, .aload_n 0, 1), (54, .iload_n 3, 1), (55, .invokevirtual 110, 3), (58, .invokestatic 139, 3), (61, .ifCond .le 35, 3), (64, .aload_n 0, 1), (65, .getfield 52, 3), (68, .iload_n 1, 1), (69, .iaload, 1), (70, .aload_n 0, 1), (71, .iload_n 1, 1), (72, .invokevirtual 117, 3), (75, .aload_n 0, 1), (76, .getfield 52, 3), (79, .iload_n 3, 1), (80, .iaload, 1), (81, .aload_n 0, 1), (82, .iload_n 3, 1), (83, .invokevirtual 117, 3), (86, .invokestatic 139, 3), (89, .ifCond .le 7, 3), (92, .iconst 1, 1), (93, .goto 4, 3), (96, .iconst 0, 1), (97, .istore 4, 2), (99, .iload_n 2, 1), (100, .iload_n 3, 1), (101, .iload_n 1, 1), (102, .if_icmp .ne 7, 3), (105, .iconst 0, 1), (106, .goto 50, 3), (109, .iload 4, 2), (111, .ifCond .eq 20, 3), (114, .iconst 2, 1), (115, .aload_n 0, 1), (116, .getfield 7, 3), (119, .aload_n 0, 1), (120, .iload_n 3, 1), (121, .invokevirtual 95, 3), (124, .iconst 3, 1), (125, .iadd, 1), (126, .iaload, 1), (127, .imul, 1), (128, .goto 28, 3), (131, .aload_n 0, 1), (132, .iload_n 1, 1), (133, .iload_n 3, 1), (134, .invokevirtual 142, 3), (137, .ifCond .eq 18, 3), (140, .aload_n 0, 1), (141, .getfield 7, 3), (144, .aload_n 0, 1), (145, .iload_n 3, 1), (146, .invokevirtual 95, 3), (149, .iconst 3, 1), (150, .iadd, 1), (151, .iaload, 1), (152, .goto 4, 3), (155, .iconst 0, 1), (156, .iadd, 1), (157, .istore_n 2, 1), (158, .iinc 3 1, 3), (161, .goto (-144), 3), (164, .iload_n 2, 1), (165, .ireturn, 1)]
def kX11_hottestNow : List (Nat × Instr × Nat) := [(0, .iconst (-1), 1), (1, .istore_n 1, 1), (2, .iconst 0, 1), (3, .istore_n 2, 1), (4, .iload_n 2, 1), (5, .aload_n 0, 1), (6, .getfield 7, 3), (9, .iconst 0, 1), (10, .iaload, 1), (11, .if_icmp .ge 32, 3), (14, .iload_n 1, 1), (15, .ifCond .lt 16, 3), (18, .aload_n 0, 1), (19, .iload_n 2, 1), (20, .invokevirtual 145, 3), (23, .aload_n 0, 1), (24, .iload_n 1, 1), (25, .invokevirtual 145, 3), (28, .if_icmp .le 7, 3), (31, .iload_n 2, 1), (32, .goto 4, 3), (35, .iload_n 1, 1), (36, .istore_n 1, 1), (37, .iinc 2 1, 3), (40, .goto (-36), 3), (43, .iload_n 1, 1), (44, .ireturn, 1)]
def kX11_block : List (Nat × Instr × Nat) := [(0, .iload_n 1, 1), (1, .i2l, 1), (2, .lconst 0, 1), (3, .ldc2_w 148, 3), (6, .invokestatic 77, 3), (9, .ifCond .eq 27, 3), (12, .iload_n 2, 1), (13, .i2l, 1), (14, .lconst 1, 1), (15, .ldc2_w 150, 3), (18, .invokestatic 77, 3), (21, .ifCond .eq 15, 3), (24, .iload_n 3, 1), (25, .i2l, 1), (26, .lconst 1, 1), (27, .ldc2_w 150, 3), (30, .invokestatic 77, 3), (33, .ifCond .ne 6, 3), (36, .ldc 152, 2), (38, .ireturn, 1), (39, .aload_n 0, 1), (40, .getfield 7, 3), (43, .iconst 0, 1), (44, .iaload, 1), (45, .istore 4, 2), (47, .iload 4, 2), (49, .bipush 8, 2), (51, .if_icmp .ne 6, 3), (54, .ldc 153, 2), (56, .ireturn, 1), (57, .aload_n 0, 1), (58, .iload 4, 2), (60, .invokevirtual 95, 3), (63, .istore 5, 2), (65, .aload_n 0, 1), (66, .getfield 7, 3), (69, .iload 5, 2), (71, .iload_n 1, 1), (72, .iastore, 1), (73, .aload_n 0, 1), (74, .getfield 7, 3), (77, .iload 5, 2), (79, .iconst 1, 1), (80, .iadd, 1), (81, .iload_n 2, 1), (82, .iastore, 1), (83, .aload_n 0, 1), (84, .getfield 7, 3), (87, .iload 5, 2), (89, .iconst 2, 1), (90, .iadd, 1), (91, .iload_n 3, 1), (92, .iastore, 1), (93, .aload_n 0, 1), (94, .getfield 7, 3), (97, .iload 5, 2), (99, .iconst 3, 1), (100, .iadd, 1), (101, .iconst 0, 1), (102, .iastore, 1), (103, .aload_n 0, 1), (104, .getfield 7, 3), (107, .iload 5, 2), (109, .iconst 4, 1), (110, .iadd, 1), (111, .iconst 0, 1), (112, .iastore, 1), (113, .aload_n 0, 1), (114, .getfield 7, 3), (117, .iload 5, 2), (119, .iconst 5, 1), (120, .iadd, 1), (121, .iconst 0, 1), (122, .iastore, 1), (123, .aload_n 0, 1), (124, .getfield 7, 3), (127, .bipush 70, 2), (129, .iload 4, 2), (131, .iadd, 1), (132, .iload 4, 2), (134, .iastore, 1), (135, .aload_n 0, 1), (136, .getfield 7, 3), (139, .bipush 78, 2), (141, .iload 4, 2), (143, .iadd, 1), (144, .iload 4, 2), (146, .iastore, 1), (147, .aload_n 0, 1), (148, .getfield 7, 3), (151, .iconst 0, 1), (152, .dup2, 1), (153, .iaload, 1), (154, .iconst 1, 1), (155, .iadd, 1), (156, .iastore, 1), (157, .aload_n 0, 1), (158, .iconst 0, 1), (159, .putfield 154, 3), (162, .iload 4, 2), (164, .ireturn, 1)]
def kX11_told : List (Nat × Instr × Nat) := [(0, .aload_n 0, 1), (1, .iload_n 1, 1), (2, .invokevirtual 157, 3), (5, .ifCond .ne 6, 3), (8, .ldc 152, 2), (10, .ireturn, 1), (11, .aload_n 0, 1), (12, .iload_n 1, 1), (13, .invokevirtual 95, 3), (16, .istore_n 3, 1), (17, .aload_n 0, 1), (18, .invokevirtual 129, 3), (21, .iload_n 2, 1), (22, .tableswitch 187 0 14 #[74, 74, 74, 74, 74, 74, 83, 89, 95, 101, 143, 150, 157, 175, 181], 74), (96, .aload_n 0, 1), (97, .getfield 7, 3), (100, .iload_n 3, 1), (101, .iload_n 2, 1), (102, .iadd, 1), (103, .iaload, 1), (104, .ireturn, 1), (105, .aload_n 0, 1), (106, .iload_n 1, 1), (107, .invokevirtual 110, 3), (110, .ireturn, 1), (111, .aload_n 0, 1), (112, .iload_n 1, 1), (113, .invokevirtual 117, 3), (116, .ireturn, 1), (117, .aload_n 0, 1), (118, .iload_n 1, 1), (119, .invokevirtual 160, 3), (122, .ireturn, 1), (123, .aload_n 0, 1), (124, .getfield 7, 3), (127, .iload_n 3, 1), (128, .iaload, 1), (129, .aload_n 0, 1), (130, .getfield 7, 3), (133, .iload_n 3, 1), (134, .iconst 1, 1), (135, .iadd, 1), (136, .iaload, 1), (137, .aload_n 0, 1), (138, .getfield 7, 3), (141, .iload_n 3, 1), (142, .iconst 2, 1), (143, .iadd, 1), (144, .iaload, 1), (145, .aload_n 0, 1), (146, .getfield 7, 3), (149, .iload_n 3, 1), (150, .iconst 3, 1), (151, .iadd, 1), (152, .iaload, 1), (153, .aload_n 0, 1), (154, .getfield 7, 3), (157, .iload_n 3, 1), (158, .iconst 5, 1), (159, .iadd, 1), (160, .iaload, 1), (161, .invokestatic 163, 3), (164, .ireturn, 1), (165, .aload_n 0, 1), (166, .getfield 49, 3), (169, .iload_n 1, 1), (170, .iaload, 1), (171, .ireturn, 1), (172, .aload_n 0, 1), (173, .getfield 52, 3), (176, .iload_n 1, 1), (177, .iaload, 1), (178, .ireturn, 1), (179, .aload_n 0, 1), (180, .getfield 7, 3), (183, .iload_n 3, 1), (184, .iaload, 1), (185, .aload_n 0, 1), (186, .getfield 7, 3), (189, .iload_n 3, 1), (190, .iconst 2, 1), (191, .iadd, 1), (192, .iaload, 1), (193, .invokestatic 167, 3), (196, .ireturn, 1), (197, .aload_n 0, 1), (198, .iload_n 1, 1), (199, .invokevirtual 145, 3), (202, .ireturn, 1), (203, .aload_n 0, 1), (204, .iload_n 1, 1), (205, .invokevirtual 170, 3), (208, .ireturn, 1), (209, .ldc 152, 2), (211, .ireturn, 1)]
def kX11_isOf : List (Nat × Instr × Nat) := [(0, .iload_n 1, 1), (1, .ifCond .eq 28, 3), (4, .iload_n 0, 1), (5, .iload_n 1, 1), (6, .if_icmp .eq 23, 3), (9, .iload_n 1, 1), (10, .iconst 1, 1), (11, .if_icmp .ne 8, 3), (14, .iload_n 0, 1), (15, .iconst 4, 1), (16, .if_icmp .eq 13, 3), (19, .iload_n 1, 1), (20, .iconst 2, 1), (21, .if_icmp .ne 12, 3), (24, .iload_n 0, 1), (25, .iconst 3, 1), (26, .if_icmp .ne 7, 3), (29, .iconst 1, 1), (30, .goto 4, 3), (33, .iconst 0, 1), (34, .ireturn, 1)]
def kX11_as : List (Nat × Instr × Nat) := [(0, .aload_n 0, 1), (1, .iload_n 1, 1), (2, .invokevirtual 157, 3), (5, .ifCond .eq 15, 3), (8, .iload_n 2, 1), (9, .i2l, 1), (10, .lconst 0, 1), (11, .ldc2_w 148, 3), (14, .invokestatic 77, 3), (17, .ifCond .ne 6, 3), (20, .ldc 152, 2), (22, .ireturn, 1), (23, .aload_n 0, 1), (24, .getfield 7, 3), (27, .aload_n 0, 1), (28, .iload_n 1, 1), (29, .invokevirtual 95, 3), (32, .iaload, 1), (33, .iload_n 2, 1), (34, .invokestatic 173, 3), (37, .ifCond .eq 11, 3), (40, .aload_n 0, 1), (41, .iload_n 1, 1), (42, .invokevirtual 110, 3), (45, .goto 5, 3), (48, .ldc 176, 2), (50, .ireturn, 1)]
def kX11_power : List (Nat × Instr × Nat) := [(0, .aload_n 0, 1), (1, .iload_n 1, 1), (2, .invokevirtual 157, 3), (5, .ifCond .eq 30, 3), (8, .iload_n 2, 1), (9, .i2l, 1), (10, .lconst 0, 1), (11, .ldc2_w 177, 3), (14, .invokestatic 77, 3), (17, .ifCond .eq 18, 3), (20, .aload_n 0, 1), (21, .aload_n 0, 1), (22, .iload_n 1, 1), (23, .invokevirtual 95, 3), (26, .iconst 3, 1), (27, .iadd, 1), (28, .iload_n 2, 1), (29, .invokevirtual 179, 3), (32, .goto 5, 3), (35, .ldc 152, 2), (37, .ireturn, 1)]
def kX11_rule : List (Nat × Instr × Nat) := [(0, .iload_n 1, 1), (1, .i2l, 1), (2, .lconst 0, 1), (3, .ldc2_w 182, 3), (6, .invokestatic 77, 3), (9, .ifCond .eq 39, 3), (12, .iload_n 2, 1), (13, .i2l, 1), (14, .iload_n 1, 1), (15, .iconst 4, 1), (16, .if_icmp .ne 7, 3), (19, .lconst 1, 1), (20, .goto 4, 3), (23, .lconst 0, 1), (24, .aload_n 0, 1), (25, .getfield 43, 3), (28, .iload_n 1, 1), (29, .iaload, 1), (30, .i2l, 1), (31, .invokestatic 77, 3), (34, .ifCond .eq 14, 3), (37, .aload_n 0, 1), (38, .iconst 5, 1), (39, .iload_n 1, 1), (40, .iadd, 1), (41, .iload_n 2, 1), (42, .invokevirtual 179, 3), (45, .goto 5, 3), (48, .ldc 152, 2), (50, .ireturn, 1)]
def kX11_ones : List (Nat × Instr × Nat) := [(0, .iconst 0, 1), (1, .istore_n 1, 1), (2, .iconst 0, 1), (3, .istore_n 2, 1), (4, .iload_n 2, 1), (5, .bipush 8, 2), (7, .if_icmp .ge 17, 3), (10, .iload_n 1, 1), (11, .iload_n 0, 1), (12, .iload_n 2, 1), (13, .ishr, 1), (14, .iconst 1, 1), (15, .iand, 1), (16, .iadd, 1), (17, .istore_n 1, 1), (18, .iinc 2 1, 3), (21, .goto (-17), 3), (24, .iload_n 1, 1), (25, .ireturn, 1)]
def kX11_net : List (Nat × Instr × Nat) := [(0, .iload_n 1, 1), (1, .i2l, 1), (2, .lconst 0, 1), (3, .ldc2_w 184, 3), (6, .invokestatic 77, 3), (9, .ifCond .eq 23, 3), (12, .iload_n 1, 1), (13, .invokestatic 186, 3), (16, .iconst 2, 1), (17, .if_icmp .lt 15, 3), (20, .iload_n 2, 1), (21, .i2l, 1), (22, .lconst 1, 1), (23, .ldc2_w 189, 3), (26, .invokestatic 77, 3), (29, .ifCond .ne 6, 3), (32, .ldc 152, 2), (34, .ireturn, 1), (35, .aload_n 0, 1), (36, .getfield 7, 3), (39, .iconst 1, 1), (40, .iaload, 1), (41, .bipush 10, 2), (43, .if_icmp .ne 6, 3), (46, .ldc 153, 2), (48, .ireturn, 1), (49, .aload_n 0, 1), (50, .getfield 7, 3), (53, .bipush 90, 2), (55, .iconst 2, 1), (56, .aload_n 0, 1), (57, .getfield 7, 3), (60, .iconst 1, 1), (61, .iaload, 1), (62, .imul, 1), (63, .iadd, 1), (64, .iload_n 1, 1), (65, .iastore, 1), (66, .aload_n 0, 1), (67, .getfield 7, 3), (70, .bipush 90, 2), (72, .iconst 2, 1), (73, .aload_n 0, 1), (74, .getfield 7, 3), (77, .iconst 1, 1), (78, .iaload, 1), (79, .imul, 1), (80, .iadd, 1), (81, .iconst 1, 1), (82, .iadd, 1), (83, .iload_n 2, 1), (84, .iastore, 1), (85, .aload_n 0, 1), (86, .getfield 7, 3), (89, .iconst 1, 1), (90, .dup2, 1), (91, .iaload, 1), (92, .iconst 1, 1), (93, .iadd, 1), (94, .iastore, 1), (95, .aload_n 0, 1), (96, .getfield 7, 3), (99, .iconst 1, 1), (100, .iaload, 1), (101, .iconst 1, 1), (102, .isub, 1), (103, .ireturn, 1)]
def kX11_guessOf : List (Nat × Instr × Nat) := [(0, .iconst 0, 1), (1, .istore_n 2, 1), (2, .iconst 0, 1), (3, .istore_n 3, 1), (4, .iload_n 3, 1), (5, .aload_n 0, 1), (6, .getfield 7, 3), (9, .iconst 0, 1), (10, .iaload, 1), (11, .if_icmp .ge 40, 3), (14, .iload_n 2, 1), (15, .aload_n 0, 1), (16, .getfield 7, 3), (19, .bipush 90, 2), (21, .iconst 2, 1), (22, .iload_n 1, 1), (23, .imul, 1), (24, .iadd, 1), (25, .iaload, 1), (26, .iload_n 3, 1), (27, .ishr, 1), (28, .iconst 1, 1), (29, .iand, 1), (30, .iconst 1, 1), (31, .if_icmp .ne 11, 3), (34, .aload_n 0, 1), (35, .iload_n 3, 1), (36, .invokevirtual 160, 3), (39, .goto 4, 3), (42, .iconst 0, 1), (43, .iadd, 1), (44, .istore_n 2, 1), (45, .iinc 3 1, 3), (48, .goto (-44), 3), (51, .iconst 0, 1), (52, .istore_n 3, 1), (53, .iload_n 3, 1), (54, .iconst 1, 1), (55, .iadd, 1), (56, .iload_n 3, 1), (57, .iconst 1, 1), (58, .iadd, 1), (59, .imul, 1), (60, .iload_n 2, 1), (61, .if_icmp .gt 9, 3), (64, .iinc 3 1, 3), (67, .goto (-14), 3), (70, .iconst 2, 1), (71, .iload_n 3, 1), (72, .imul, 1), (73, .aload_n 0, 1), (74, .getfield 7, 3), (77, .bipush 90, 2), (79, .iconst 2, 1), (80, .iload_n 1, 1), (81, .imul, 1), (82, .iadd, 1), (83, .iconst 1, 1), (84, .iadd, 1), (85, .iaload, 1), (86, .imul, 1), (87, .ireturn, 1)]
def kX11_wire : List (Nat × Instr × Nat) := [(0, .iload_n 1, 1), (1, .i2l, 1), (2, .lconst 0, 1), (3, .aload_n 0, 1), (4, .getfield 7, 3), (7, .iconst 1, 1), (8, .iaload, 1), (9, .iconst 1, 1), (10, .isub, 1), (11, .i2l, 1), (12, .invokestatic 77, 3), (15, .ifCond .eq 15, 3), (18, .iload_n 2, 1), (19, .i2l, 1), (20, .lconst 0, 1), (21, .ldc2_w 191, 3), (24, .invokestatic 77, 3), (27, .ifCond .ne 6, 3), (30, .ldc 152, 2), (32, .ireturn, 1), (33, .aload_n 0, 1), (34, .invokevirtual 129, 3), (37, .iload_n 2, 1), (38, .ifCond .ne 11, 3), (41, .aload_n 0, 1), (42, .iload_n 1, 1), (43, .invokevirtual 126, 3), (46, .goto 27, 3), (49, .iload_n 2, 1), (50, .iconst 1, 1), (51, .if_icmp .ne 11, 3), (54, .aload_n 0, 1), (55, .iload_n 1, 1), (56, .invokevirtual 193, 3), (59, .goto 14, 3), (62, .aload_n 0, 1), (63, .iload_n 1, 1), (64, .invokevirtual 126, 3), (67, .aload_n 0, 1), (68, .iload_n 1, 1), (69, .invokevirtual 193, 3), (72, .isub, 1), (73, .ireturn, 1)]
def kX11_at : List (Nat × Instr × Nat) := [(0, .iload_n 1, 1), (1, .i2l, 1), (2, .lconst 0, 1), (3, .lconst 1, 1), (4, .invokestatic 77, 3), (7, .ifCond .eq 28, 3), (10, .aload_n 0, 1), (11, .iload_n 2, 1), (12, .invokevirtual 157, 3), (15, .ifCond .eq 20, 3), (18, .aload_n 0, 1), (19, .getfield 7, 3), (22, .bipush 70, 2), (24, .bipush 8, 2), (26, .iload_n 1, 1), (27, .imul, 1), (28, .iadd, 1), (29, .iload_n 2, 1), (30, .iadd, 1), (31, .iaload, 1), (32, .goto 5, 3), (35, .ldc 152, 2), (37, .ireturn, 1)]
def kX11_whole : List (Nat × Instr × Nat) := [(0, .aload_n 0, 1), (1, .invokevirtual 196, 3), (4, .istore_n 2, 1), (5, .iload_n 1, 1), (6, .tableswitch 56 0 4 #[34, 39, 44, 49, 54], 34), (40, .aload_n 0, 1), (41, .getfield 99, 3), (44, .ireturn, 1), (45, .aload_n 0, 1), (46, .getfield 103, 3), (49, .ireturn, 1), (50, .aload_n 0, 1), (51, .invokevirtual 199, 3), (54, .ireturn, 1), (55, .aload_n 0, 1), (56, .invokevirtual 132, 3), (59, .ireturn, 1), (60, .iload_n 2, 1), (61, .ireturn, 1), (62, .ldc 152, 2), (64, .ireturn, 1)]
def kX11_placeIn : List (Nat × Instr × Nat) := [(0, .iconst 0, 1), (1, .istore_n 3, 1), (2, .aload_n 0, 1), (3, .getfield 7, 3), (6, .bipush 70, 2), (8, .bipush 8, 2), (10, .iload_n 1, 1), (11, .imul, 1), (12, .iadd, 1), (13, .iload_n 3, 1), (14, .iadd, 1), (15, .iaload, 1), (16, .iload_n 2, 1), (17, .if_icmp .eq 9, 3), (20, .iinc 3 1, 3), (23, .goto (-21), 3), (26, .iload_n 3, 1), (27, .ireturn, 1)]
def kX11_stands : List (Nat × Instr × Nat) := [(0, .aload_n 0, 1), (1, .iload_n 1, 1), (2, .invokevirtual 157, 3), (5, .ifCond .eq 16, 3), (8, .aload_n 0, 1), (9, .iload_n 2, 1), (10, .invokevirtual 157, 3), (13, .ifCond .eq 8, 3), (16, .iload_n 1, 1), (17, .iload_n 2, 1), (18, .if_icmp .ne 6, 3), (21, .ldc 152, 2), (23, .ireturn, 1), (24, .aload_n 0, 1), (25, .iload_n 1, 1), (26, .iload_n 2, 1), (27, .invokevirtual 106, 3), (30, .ifCond .ne 6, 3), (33, .ldc 76, 2), (35, .ireturn, 1), (36, .aload_n 0, 1), (37, .iconst 0, 1), (38, .iload_n 1, 1), (39, .invokevirtual 202, 3), (42, .aload_n 0, 1), (43, .iconst 0, 1), (44, .iload_n 2, 1), (45, .invokevirtual 202, 3), (48, .if_icmp .ge 7, 3), (51, .iconst 1, 1), (52, .goto 4, 3), (55, .iconst 0, 1), (56, .istore_n 3, 1), (57, .aload_n 0, 1), (58, .iconst 1, 1), (59, .iload_n 1, 1), (60, .invokevirtual 202, 3), (63, .aload_n 0, 1), (64, .iconst 1, 1), (65, .iload_n 2, 1), (66, .invokevirtual 202, 3), (69, .if_icmp .ge 7, 3), (72, .iconst 1, 1), (73, .goto 4, 3), (76, .iconst 0, 1), (77, .istore 4, 2), (79, .iload_n 3, 1), (80, .ifCond .eq 16, 3), (83, .iload 4, 2), (85, .ifCond .eq 7, 3), (88, .iconst 0, 1), (89, .goto 17, 3), (92, .iconst 3, 1), (93, .goto 13, 3), (96, .iload 4, 2), (98, .ifCond .eq 7, 3), (101, .iconst 1, 1), (102, .goto 4, 3), (105, .iconst 2, 1), (106, .ireturn, 1)]
def kX11_swap : List (Nat × Instr × Nat) := [(0, .aload_n 0, 1), (1, .getfield 7, 3), (4, .bipush 70, 2), (6, .bipush 8, 2), (8, .iload_n 1, 1), (9, .imul, 1), (10, .iadd, 1), (11, .iload_n 2, 1), (12, .iadd, 1), (13, .iaload, 1), (14, .istore 4, 2), (16, .aload_n 0, 1), (17, .getfield 7, 3), (20, .bipush 70, 2), (22, .bipush 8, 2), (24, .iload_n 1, 1), (25, .imul, 1), (26, .iadd, 1), (27, .iload_n 2, 1), (28, .iadd, 1), (29, .aload_n 0, 1), (30, .getfield 7, 3), (33, .bipush 70, 2), (35, .bipush 8, 2), (37, .iload_n 1, 1), (38, .imul, 1), (39, .iadd, 1), (40, .iload_n 3, 1), (41, .iadd, 1), (42, .iaload, 1), (43, .iastore, 1), (44, .aload_n 0, 1), (45, .getfield 7, 3), (48, .bipush 70, 2), (50, .bipush 8, 2), (52, .iload_n 1, 1), (53, .imul, 1), (54, .iadd, 1), (55, .iload_n 3, 1), (56, .iadd, 1), (57, .iload 4, 2), (59, .iastore, 1), (60, .return_, 1)]
def kX11_doMove : List (Nat × Instr × Nat) := [(0, .aload_n 0, 1), (1, .iload_n 2, 1), (2, .invokevirtual 95, 3), (5, .istore 4, 2), (7, .iload_n 1, 1), (8, .tableswitch 122 0 3 #[32, 32, 42, 79], 32), (40, .aload_n 0, 1), (41, .iload_n 1, 1), (42, .iload_n 2, 1), (43, .iload_n 3, 1), (44, .invokevirtual 205, 3), (47, .goto 103, 3), (50, .aload_n 0, 1), (51, .iconst 0, 1), (52, .aload_n 0, 1), (53, .iconst 0, 1), (54, .iload_n 2, 1), (55, .invokevirtual 202, 3), (58, .aload_n 0, 1), (59, .iconst 0, 1), (60, .iload_n 3, 1), (61, .invokevirtual 202, 3), (64, .invokevirtual 205, 3), (67, .aload_n 0, 1), (68, .iconst 1, 1), (69, .aload_n 0, 1), (70, .iconst 1, 1), (71, .iload_n 2, 1), (72, .invokevirtual 202, 3), (75, .aload_n 0, 1), (76, .iconst 1, 1), (77, .iload_n 3, 1), (78, .invokevirtual 202, 3), (81, .invokevirtual 205, 3), (84, .goto 66, 3), (87, .aload_n 0, 1), (88, .getfield 7, 3), (91, .iload 4, 2), (93, .iconst 5, 1), (94, .iadd, 1), (95, .aload_n 0, 1), (96, .getfield 7, 3), (99, .iload 4, 2), (101, .iconst 5, 1), (102, .iadd, 1), (103, .iaload, 1), (104, .iconst 1, 1), (105, .iadd, 1), (106, .aload_n 0, 1), (107, .getfield 7, 3), (110, .iload 4, 2), (112, .iaload, 1), (113, .aload_n 0, 1), (114, .getfield 7, 3), (117, .iload 4, 2), (119, .iconst 2, 1), (120, .iadd, 1), (121, .iaload, 1), (122, .invokestatic 167, 3), (125, .irem, 1), (126, .iastore, 1), (127, .goto 23, 3), (130, .aload_n 0, 1), (131, .getfield 7, 3), (134, .iload 4, 2), (136, .iconst 4, 1), (137, .iadd, 1), (138, .iconst 1, 1), (139, .aload_n 0, 1), (140, .getfield 7, 3), (143, .iload 4, 2), (145, .iconst 4, 1), (146, .iadd, 1), (147, .iaload, 1), (148, .isub, 1), (149, .iastore, 1), (150, .return_, 1)]
def kX11_undoMove : List (Nat × Instr × Nat) := [(0, .iload_n 1, 1), (1, .iconst 3, 1), (2, .if_icmp .ne 19, 3), (5, .aload_n 0, 1), (6, .getfield 7, 3), (9, .aload_n 0, 1), (10, .iload_n 2, 1), (11, .invokevirtual 95, 3), (14, .iconst 5, 1), (15, .iadd, 1), (16, .iload_n 3, 1), (17, .iastore, 1), (18, .goto 10, 3), (21, .aload_n 0, 1), (22, .iload_n 1, 1), (23, .iload_n 2, 1), (24, .iload_n 3, 1), (25, .invokevirtual 209, 3), (28, .return_, 1)]
def kX11_isStuck : List (Nat × Instr × Nat) := [(0, .iload_n 1, 1), (1, .iconst 4, 1), (2, .if_icmp .ne 21, 3), (5, .aload_n 0, 1), (6, .getfield 7, 3), (9, .aload_n 0, 1), (10, .iload_n 2, 1), (11, .invokevirtual 95, 3), (14, .iaload, 1), (15, .iconst 4, 1), (16, .if_icmp .ne 7, 3), (19, .iconst 1, 1), (20, .goto 4, 3), (23, .iconst 0, 1), (24, .ireturn, 1)]
def kX11_move : List (Nat × Instr × Nat) := [(0, .iload_n 1, 1), (1, .i2l, 1), (2, .lconst 0, 1), (3, .ldc2_w 182, 3), (6, .invokestatic 77, 3), (9, .ifCond .eq 24, 3), (12, .aload_n 0, 1), (13, .iload_n 2, 1), (14, .invokevirtual 157, 3), (17, .ifCond .eq 16, 3), (20, .iload_n 1, 1), (21, .iconst 3, 1), (22, .if_icmp .ge 14, 3), (25, .aload_n 0, 1), (26, .iload_n 3, 1), (27, .invokevirtual 157, 3), (30, .ifCond .ne 6, 3), (33, .ldc 152, 2), (35, .ireturn, 1), (36, .aload_n 0, 1), (37, .iload_n 1, 1), (38, .iload_n 2, 1), (39, .invokevirtual 212, 3), (42, .ifCond .eq 6, 3), (45, .ldc 215, 2), (47, .ireturn, 1), (48, .aload_n 0, 1), (49, .getfield 154, 3), (52, .bipush 20, 2), (54, .if_icmp .ne 45, 3), (57, .iconst 0, 1), (58, .istore 4, 2), (60, .iload 4, 2), (62, .bipush 57, 2), (64, .if_icmp .ge 25, 3), (67, .aload_n 0, 1), (68, .getfield 19, 3), (71, .iload 4, 2), (73, .aload_n 0, 1), (74, .getfield 19, 3), (77, .iload 4, 2), (79, .iconst 3, 1), (80, .iadd, 1), (81, .iaload, 1), (82, .iastore, 1), (83, .iinc 4 1, 3), (86, .goto (-26), 3), (89, .aload_n 0, 1), (90, .dup, 1), (91, .getfield 154, 3), (94, .iconst 1, 1), (95, .isub, 1), (96, .putfield 154, 3), (99, .aload_n 0, 1), (100, .getfield 19, 3), (103, .iconst 3, 1), (104, .aload_n 0, 1), (105, .getfield 154, 3), (108, .imul, 1), (109, .iload_n 1, 1), (110, .iastore, 1), (111, .aload_n 0, 1), (112, .getfield 19, 3), (115, .iconst 3, 1), (116, .aload_n 0, 1), (117, .getfield 154, 3), (120, .imul, 1), (121, .iconst 1, 1), (122, .iadd, 1), (123, .iload_n 2, 1), (124, .iastore, 1), (125, .aload_n 0, 1), (126, .getfield 19, 3), (129, .iconst 3, 1), (130, .aload_n 0, 1), (131, .getfield 154, 3), (134, .imul, 1), (135, .iconst 2, 1), (136, .iadd, 1), (137, .iload_n 1, 1), (138, .iconst 3, 1), (139, .if_icmp .ne 18, 3), (142, .aload_n 0, 1), (143, .getfield 7, 3), (146, .aload_n 0, 1), (147, .iload_n 2, 1), (148, .invokevirtual 95, 3), (151, .iconst 5, 1), (152, .iadd, 1), (153, .iaload, 1), (154, .goto 4, 3), (157, .iload_n 3, 1), (158, .iastore, 1), (159, .aload_n 0, 1), (160, .dup, 1), (161, .getfield 154, 3), (164, .iconst 1, 1), (165, .iadd, 1), (166, .putfield 154, 3), (169, .aload_n 0, 1), (170, .iload_n 1, 1), (171, .iload_n 2, 1), (172, .iload_n 3, 1), (173, .invokevirtual 209, 3), (176, .aload_n 0, 1), (177, .invokevirtual 196, 3), (180, .ireturn, 1)]
def kX11_undo : List (Nat × Instr × Nat) := [(0, .aload_n 0, 1), (1, .getfield 154, 3), (4, .ifCond .ne 6, 3), (7, .ldc 215, 2), (9, .ireturn, 1), (10, .aload_n 0, 1), (11, .dup, 1), (12, .getfield 154, 3), (15, .iconst 1, 1), (16, .isub, 1), (17, .putfield 154, 3), (20, .aload_n 0, 1), (21, .aload_n 0, 1), (22, .getfield 19, 3), (25, .iconst 3, 1), (26, .aload_n 0, 1), (27, .getfield 154, 3), (30, .imul, 1), (31, .iaload, 1), (32, .aload_n 0, 1), (33, .getfield 19, 3), (36, .iconst 3, 1), (37, .aload_n 0, 1), (38, .getfield 154, 3), (41, .imul, 1), (42, .iconst 1, 1), (43, .iadd, 1), (44, .iaload, 1), (45, .aload_n 0, 1), (46, .getfield 19, 3), (49, .iconst 3, 1), (50, .aload_n 0, 1), (51, .getfield 154, 3), (54, .imul, 1), (55, .iconst 2, 1), (56, .iadd, 1), (57, .iaload, 1), (58, .invokevirtual 216, 3), (61, .aload_n 0, 1), (62, .getfield 154, 3), (65, .ireturn, 1)]
def kX11_seed : List (Nat × Instr × Nat) := [(0, .aload_n 0, 1), (1, .iconst 4, 1), (2, .iload_n 1, 1), (3, .invokevirtual 179, 3), (6, .ireturn, 1)]
def kX11_oneStep : List (Nat × Instr × Nat) := [(0, .aload_n 0, 1), (1, .getfield 7, 3), (4, .iconst 4, 1), (5, .aload_n 0, 1), (6, .getfield 7, 3), (9, .iconst 4, 1), (10, .iaload, 1), (11, .ldc 219, 2), (13, .imul, 1), (14, .sipush 12345, 3), (17, .iadd, 1), (18, .iastore, 1), (19, .aload_n 0, 1), (20, .getfield 7, 3), (23, .iconst 4, 1), (24, .iaload, 1), (25, .bipush 8, 2), (27, .iushr, 1), (28, .istore_n 2, 1), (29, .iload_n 2, 1), (30, .iconst 5, 1), (31, .irem, 1), (32, .istore_n 3, 1), (33, .iload_n 2, 1), (34, .iconst 5, 1), (35, .idiv, 1), (36, .aload_n 0, 1), (37, .getfield 7, 3), (40, .iconst 0, 1), (41, .iaload, 1), (42, .irem, 1), (43, .istore 4, 2), (45, .iload_n 2, 1), (46, .bipush 50, 2), (48, .idiv, 1), (49, .aload_n 0, 1), (50, .getfield 7, 3), (53, .iconst 0, 1), (54, .iaload, 1), (55, .irem, 1), (56, .istore 5, 2), (58, .aload_n 0, 1), (59, .iload_n 3, 1), (60, .iload 4, 2), (62, .invokevirtual 212, 3), (65, .ifCond .eq 4, 3), (68, .return_, 1), (69, .aload_n 0, 1), (70, .invokevirtual 196, 3), (73, .istore 6, 2), (75, .aload_n 0, 1), (76, .getfield 7, 3), (79, .aload_n 0, 1), (80, .iload 4, 2), (82, .invokevirtual 95, 3), (85, .iconst 5, 1), (86, .iadd, 1), (87, .iaload, 1), (88, .istore 7, 2), (90, .aload_n 0, 1), (91, .iload_n 3, 1), (92, .iload 4, 2), (94, .iload 5, 2), (96, .invokevirtual 209, 3), (99, .aload_n 0, 1), (100, .invokevirtual 196, 3), (103, .iload 6, 2), (105, .isub, 1), (106, .istore 8, 2), (108, .iload 8, 2), (110, .ifCond .le 28, 3), (113, .iload 8, 2), (115, .iload_n 1, 1), (116, .if_icmp .lt 22, 3), (119, .aload_n 0, 1), (120, .iload_n 3, 1), (121, .iload 4, 2), (123, .iload_n 3, 1), (124, .iconst 3, 1), (125, .if_icmp .ne 8, 3), (128, .iload 7, 2), (130, .goto 5, 3), (133, .iload 5, 2), (135, .invokevirtual 216, 3), (138, .return_, 1)]
def kX11_walk : List (Nat × Instr × Nat) := [(0, .iload_n 1, 1), (1, .i2l, 1), (2, .lconst 1, 1), (3, .ldc2_w 220, 3), (6, .invokestatic 77, 3), (9, .ifCond .eq 15, 3), (12, .iload_n 2, 1), (13, .i2l, 1), (14, .lconst 0, 1), (15, .ldc2_w 222, 3), (18, .invokestatic 77, 3), (21, .ifCond .ne 6, 3), (24, .ldc 152, 2), (26, .ireturn, 1), (27, .aload_n 0, 1), (28, .getfield 7, 3), (31, .iconst 0, 1), (32, .iaload, 1), (33, .ifCond .ne 6, 3), (36, .ldc 215, 2), (38, .ireturn, 1), (39, .iconst 0, 1), (40, .istore_n 3, 1), (41, .iload_n 3, 1), (42, .iload_n 1, 1), (43, .if_icmp .ge 14, 3), (46, .aload_n 0, 1), (47, .iload_n 2, 1), (48, .invokevirtual 224, 3), (51, .iinc 3 1, 3), (54, .goto (-13), 3), (57, .aload_n 0, 1), (58, .iconst 0, 1), (59, .putfield 154, 3), (62, .aload_n 0, 1), (63, .invokevirtual 196, 3), (66, .ireturn, 1)]
def kX11_roomOn : List (Nat × Instr × Nat) := [(0, .iconst 0, 1), (1, .istore_n 2, 1), (2, .iconst 0, 1), (3, .istore_n 3, 1), (4, .iload_n 3, 1), (5, .aload_n 0, 1), (6, .getfield 7, 3), (9, .iconst 0, 1), (10, .iaload, 1), (11, .if_icmp .ge 37, 3), (14, .iload_n 2, 1), (15, .aload_n 0, 1), (16, .getfield 7, 3), (19, .aload_n 0, 1), (20, .iload_n 3, 1), (21, .invokevirtual 95, 3), (24, .iconst 4, 1), (25, .iadd, 1), (26, .iaload, 1), (27, .iload_n 1, 1), (28, .if_icmp .ne 11, 3), (31, .aload_n 0, 1), (32, .iload_n 3, 1), (33, .invokevirtual 160, 3), (36, .goto 4, 3), (39, .iconst 0, 1), (40, .iadd, 1), (41, .istore_n 2, 1), (42, .iinc 3 1, 3), (45, .goto (-41), 3), (48, .iload_n 2, 1), (49, .ireturn, 1)]
def kX11_leastOf : List (Nat × Instr × Nat) := [(0, .iconst 0, 1), (1, .istore_n 2, 1), (2, .iconst 0, 1), (3, .istore_n 3, 1), (4, .iload_n 3, 1), (5, .aload_n 0, 1), (6, .getfield 7, 3), (9, .iconst 0, 1), (10, .iaload, 1), (11, .if_icmp .ge 135, 3), (14, .aload_n 0, 1), (15, .iload_n 3, 1), (16, .invokevirtual 95, 3), (19, .istore 4, 2), (21, .sipush 10000, 3), (24, .istore 5, 2), (26, .iconst 0, 1), (27, .istore 6, 2), (29, .iload 6, 2), (31, .aload_n 0, 1), (32, .getfield 7, 3), (35, .iload 4, 2), (37, .iaload, 1), (38, .aload_n 0, 1), (39, .getfield 7, 3), (42, .iload 4, 2), (44, .iconst 2, 1), (45, .iadd, 1), (46, .iaload, 1), (47, .invokestatic 167, 3), (50, .if_icmp .ge 83, 3), (53, .iload 5, 2), (55, .iload_n 1, 1), (56, .ifCond .eq 36, 3), (59, .aload_n 0, 1), (60, .getfield 7, 3), (63, .iload 4, 2), (65, .iaload, 1), (66, .aload_n 0, 1), (67, .getfield 7, 3), (70, .iload 4, 2), (72, .iconst 1, 1), (73, .iadd, 1), (74, .iaload, 1), (75, .aload_n 0, 1), (76, .getfield 7, 3), (79, .iload 4, 2), (81, .iconst 2, 1), (82, .iadd, 1), (83, .iaload, 1), (84, .iload 6, 2), (86, .invokestatic 85, 3), (89, .goto 33, 3), (92, .aload_n 0, 1), (93, .getfield 7, 3), (96, .iload 4, 2), (98, .iaload, 1), (99, .aload_n 0, 1), (100, .getfield 7, 3), (103, .iload 4, 2), (105, .iconst 1, 1), (106, .iadd, 1), (107, .iaload, 1), (108, .aload_n 0, 1), (109, .getfield 7, 3), (112, .iload 4, 2), (114, .iconst 2, 1), (115, .iadd, 1), (116, .iaload, 1), (117, .iload 6, 2), (119, .invokestatic 89, 3), (122, .invokestatic 123, 3), (125, .istore 5, 2), (127, .iinc 6 1, 3), (130, .goto (-101), 3), (133, .iload_n 2, 1), (134, .iload 5, 2), (136, .invokestatic 113, 3), (139, .istore_n 2, 1), (140, .iinc 3 1, 3), (143, .goto (-139), 3), (146, .iload_n 2, 1), (147, .ireturn, 1)]
def kX11_timesItself : List (Nat × Instr × Nat) := [(0, .iconst 1, 1), (1, .istore_n 2, 1), (2, .iconst 0, 1), (3, .istore_n 3, 1), (4, .iload_n 3, 1), (5, .iload_n 1, 1), (6, .if_icmp .ge 13, 3), (9, .iload_n 2, 1), (10, .iload_n 0, 1), (11, .imul, 1), (12, .istore_n 2, 1), (13, .iinc 3 1, 3), (16, .goto (-12), 3), (19, .iload_n 2, 1), (20, .ireturn, 1)]
def kX11_tellRow : List (Nat × Instr × Nat) := [(0, .aload_n 0, 1), (1, .getfield 7, 3), (4, .iconst 0, 1), (5, .iaload, 1), (6, .istore_n 3, 1), (7, .iload_n 2, 1), (8, .istore 4, 2), (10, .iconst 0, 1), (11, .istore 5, 2), (13, .iload_n 3, 1), (14, .iconst 1, 1), (15, .isub, 1), (16, .istore 6, 2), (18, .iload 6, 2), (20, .ifCond .lt 45, 3), (23, .aload_n 0, 1), (24, .getfield 7, 3), (27, .bipush 70, 2), (29, .bipush 8, 2), (31, .iload_n 1, 1), (32, .imul, 1), (33, .iadd, 1), (34, .iload 6, 2), (36, .iadd, 1), (37, .iload 4, 2), (39, .iload_n 3, 1), (40, .irem, 1), (41, .iastore, 1), (42, .iload 5, 2), (44, .iconst 1, 1), (45, .iload 4, 2), (47, .iload_n 3, 1), (48, .irem, 1), (49, .ishl, 1), (50, .ior, 1), (51, .istore 5, 2), (53, .iload 4, 2), (55, .iload_n 3, 1), (56, .idiv, 1), (57, .istore 4, 2), (59, .iinc 6 (-1), 3), (62, .goto (-44), 3), (65, .iload 5, 2), (67, .iconst 1, 1), (68, .iload_n 3, 1), (69, .ishl, 1), (70, .iconst 1, 1), (71, .isub, 1), (72, .if_icmp .ne 7, 3), (75, .iconst 1, 1), (76, .goto 4, 3), (79, .iconst 0, 1), (80, .ireturn, 1)]
def kX11_leastPrice : List (Nat × Instr × Nat) := [(0, .aload_n 0, 1), (1, .getfield 7, 3), (4, .iconst 0, 1), (5, .iaload, 1), (6, .istore_n 1, 1), (7, .iload_n 1, 1), (8, .iload_n 1, 1), (9, .invokestatic 228, 3), (12, .istore_n 2, 1), (13, .iconst (-1), 1), (14, .istore_n 3, 1), (15, .iconst 0, 1), (16, .istore 4, 2), (18, .iload 4, 2), (20, .bipush 16, 2), (22, .if_icmp .ge 26, 3), (25, .aload_n 0, 1), (26, .getfield 55, 3), (29, .iload 4, 2), (31, .aload_n 0, 1), (32, .getfield 7, 3), (35, .bipush 70, 2), (37, .iload 4, 2), (39, .iadd, 1), (40, .iaload, 1), (41, .iastore, 1), (42, .iinc 4 1, 3), (45, .goto (-27), 3), (48, .iconst 0, 1), (49, .istore 4, 2), (51, .iload 4, 2), (53, .iload_n 2, 1), (54, .if_icmp .ge 87, 3), (57, .aload_n 0, 1), (58, .iconst 0, 1), (59, .iload 4, 2), (61, .invokevirtual 231, 3), (64, .ifCond .ne 6, 3), (67, .goto 68, 3), (70, .iconst 0, 1), (71, .istore 5, 2), (73, .iload 5, 2), (75, .iload_n 2, 1), (76, .if_icmp .ge 59, 3), (79, .aload_n 0, 1), (80, .iconst 1, 1), (81, .iload 5, 2), (83, .invokevirtual 231, 3), (86, .ifCond .eq 10, 3), (89, .aload_n 0, 1), (90, .invokevirtual 196, 3), (93, .goto 4, 3), (96, .iconst (-1), 1), (97, .istore 6, 2), (99, .iload 6, 2), (101, .ifCond .lt 28, 3), (104, .iload_n 3, 1), (105, .ifCond .lt 9, 3), (108, .iload 6, 2), (110, .iload_n 3, 1), (111, .if_icmp .ge 18, 3), (114, .iload 6, 2), (116, .istore_n 3, 1), (117, .aload_n 0, 1), (118, .iload 4, 2), (120, .putfield 234, 3), (123, .aload_n 0, 1), (124, .iload 5, 2), (126, .putfield 237, 3), (129, .iinc 5 1, 3), (132, .goto (-59), 3), (135, .iinc 4 1, 3), (138, .goto (-87), 3), (141, .iconst 0, 1), (142, .istore 4, 2), (144, .iload 4, 2), (146, .bipush 16, 2), (148, .if_icmp .ge 26, 3), (151, .aload_n 0, 1), (152, .getfield 7, 3), (155, .bipush 70, 2), (157, .iload 4, 2), (159, .iadd, 1), (160, .aload_n 0, 1), (161, .getfield 55, 3), (164, .iload 4, 2), (166, .iaload, 1), (167, .iastore, 1), (168, .iinc 4 1, 3), (171, .goto (-27), 3), (174, .iload_n 3, 1), (175, .ireturn, 1)]
def kX11_bound : List (Nat × Instr × Nat) := [(0, .iload_n 1, 1), (1, .i2l, 1), (2, .lconst 0, 1), (3, .ldc2_w 240, 3), (6, .invokestatic 77, 3), (9, .ifCond .ne 6, 3), (12, .ldc 152, 2), (14, .ireturn, 1), (15, .iload_n 1, 1), (16, .iconst 3, 1), (17, .if_icmp .ne 16, 3), (20, .aload_n 0, 1), (21, .getfield 7, 3), (24, .iconst 0, 1), (25, .iaload, 1), (26, .iconst 4, 1), (27, .if_icmp .le 6, 3), (30, .ldc 242, 2), (32, .ireturn, 1), (33, .aload_n 0, 1), (34, .getfield 7, 3), (37, .iconst 0, 1), (38, .iaload, 1), (39, .ifCond .ne 5, 3), (42, .iconst 0, 1), (43, .ireturn, 1), (44, .iload_n 1, 1), (45, .ifCond .ne 19, 3), (48, .aload_n 0, 1), (49, .iconst 0, 1), (50, .invokevirtual 243, 3), (53, .aload_n 0, 1), (54, .iconst 1, 1), (55, .invokevirtual 243, 3), (58, .invokestatic 113, 3), (61, .goto 29, 3), (64, .iload_n 1, 1), (65, .iconst 3, 1), (66, .if_icmp .ne 10, 3), (69, .aload_n 0, 1), (70, .invokevirtual 246, 3), (73, .goto 17, 3), (76, .aload_n 0, 1), (77, .iload_n 1, 1), (78, .iconst 1, 1), (79, .if_icmp .ne 7, 3), (82, .iconst 1, 1), (83, .goto 4, 3), (86, .iconst 0, 1), (87, .invokevirtual 249, 3), (90, .ireturn, 1)]
def kX11_best : List (Nat × Instr × Nat) := [(0, .iload_n 1, 1), (1, .i2l, 1), (2, .lconst 0, 1), (3, .lconst 1, 1), (4, .invokestatic 77, 3), (7, .ifCond .ne 6, 3), (10, .ldc 152, 2), (12, .ireturn, 1), (13, .aload_n 0, 1), (14, .getfield 7, 3), (17, .iconst 0, 1), (18, .iaload, 1), (19, .iconst 4, 1), (20, .if_icmp .le 6, 3), (23, .ldc 242, 2), (25, .ireturn, 1), (26, .aload_n 0, 1), (27, .iload_n 2, 1), (28, .invokevirtual 157, 3), (31, .ifCond .ne 6, 3), (34, .ldc 152, 2), (36, .ireturn, 1), (37, .aload_n 0, 1), (38, .invokevirtual 246, 3), (41, .istore_n 3, 1), (42, .aload_n 0, 1), (43, .getfield 7, 3), (46, .iconst 0, 1), (47, .iaload, 1), (48, .istore 4, 2), (50, .iload_n 1, 1), (51, .ifCond .ne 10, 3), (54, .aload_n 0, 1), (55, .getfield 234, 3), (58, .goto 7, 3), (61, .aload_n 0, 1), (62, .getfield 237, 3), (65, .iload 4, 2), (67, .iload 4, 2), (69, .iconst 1, 1), (70, .isub, 1), (71, .iload_n 2, 1), (72, .isub, 1), (73, .invokestatic 228, 3), (76, .idiv, 1), (77, .iload 4, 2), (79, .irem, 1), (80, .ireturn, 1)]
def kX11_touch : List (Nat × Instr × Nat) := [(0, .aload_n 0, 1), (1, .iload_n 1, 1), (2, .invokevirtual 157, 3), (5, .ifCond .eq 16, 3), (8, .aload_n 0, 1), (9, .iload_n 2, 1), (10, .invokevirtual 157, 3), (13, .ifCond .eq 8, 3), (16, .iload_n 1, 1), (17, .iload_n 2, 1), (18, .if_icmp .ne 6, 3), (21, .ldc 152, 2), (23, .ireturn, 1), (24, .aload_n 0, 1), (25, .invokevirtual 129, 3), (28, .aload_n 0, 1), (29, .iload_n 1, 1), (30, .iload_n 2, 1), (31, .invokevirtual 142, 3), (34, .ifCond .eq 7, 3), (37, .iconst 1, 1), (38, .goto 4, 3), (41, .iconst 0, 1), (42, .ireturn, 1)]
def kX11_hottest : List (Nat × Instr × Nat) := [(0, .aload_n 0, 1), (1, .invokevirtual 129, 3), (4, .aload_n 0, 1), (5, .invokevirtual 253, 3), (8, .invokestatic 256, 3), (11, .ireturn, 1)]
def kX11_feed : List (Nat × Instr × Nat) := [(0, .aload_n 0, 1), (1, .getfield 259, 3), (4, .bipush 12, 2), (6, .iadd, 1), (7, .bipush 96, 2), (9, .if_icmp .le 6, 3), (12, .ldc 153, 2), (14, .ireturn, 1), (15, .iconst 0, 1), (16, .istore 4, 2), (18, .iload 4, 2), (20, .bipush 12, 2), (22, .if_icmp .ge 69, 3), (25, .iload 4, 2), (27, .iconst 4, 1), (28, .if_icmp .ge 7, 3), (31, .iload_n 1, 1), (32, .goto 15, 3), (35, .iload 4, 2), (37, .bipush 8, 2), (39, .if_icmp .ge 7, 3), (42, .iload_n 2, 1), (43, .goto 4, 3), (46, .iload_n 3, 1), (47, .istore 5, 2), (49, .aload_n 0, 1), (50, .getfield 58, 3), (53, .aload_n 0, 1), (54, .getfield 259, 3), (57, .iload 5, 2), (59, .bipush 24, 2), (61, .bipush 8, 2), (63, .iload 4, 2), (65, .iconst 4, 1), (66, .irem, 1), (67, .imul, 1), (68, .isub, 1), (69, .ishr, 1), (70, .sipush 255, 3), (73, .iand, 1), (74, .iastore, 1), (75, .aload_n 0, 1), (76, .dup, 1), (77, .getfield 259, 3), (80, .iconst 1, 1), (81, .iadd, 1), (82, .putfield 259, 3), (85, .iinc 4 1, 3), (88, .goto (-70), 3), (91, .aload_n 0, 1), (92, .getfield 259, 3), (95, .ireturn, 1)]
def kX11_trim : List (Nat × Instr × Nat) := [(0, .iload_n 1, 1), (1, .i2l, 1), (2, .lconst 0, 1), (3, .aload_n 0, 1), (4, .getfield 259, 3), (7, .i2l, 1), (8, .invokestatic 77, 3), (11, .ifCond .ne 6, 3), (14, .ldc 152, 2), (16, .ireturn, 1), (17, .aload_n 0, 1), (18, .iload_n 1, 1), (19, .putfield 259, 3), (22, .iload_n 1, 1), (23, .ireturn, 1)]
def kX11_isLetter : List (Nat × Instr × Nat) := [(0, .iload_n 1, 1), (1, .aload_n 0, 1), (2, .getfield 259, 3), (5, .if_icmp .ge 26, 3), (8, .aload_n 0, 1), (9, .getfield 58, 3), (12, .iload_n 1, 1), (13, .iaload, 1), (14, .i2l, 1), (15, .ldc2_w 262, 3), (18, .ldc2_w 264, 3), (21, .invokestatic 77, 3), (24, .ifCond .eq 7, 3), (27, .iconst 1, 1), (28, .goto 4, 3), (31, .iconst 0, 1), (32, .ireturn, 1)]
def kX11_isDigit : List (Nat × Instr × Nat) := [(0, .iload_n 1, 1), (1, .aload_n 0, 1), (2, .getfield 259, 3), (5, .if_icmp .ge 26, 3), (8, .aload_n 0, 1), (9, .getfield 58, 3), (12, .iload_n 1, 1), (13, .iaload, 1), (14, .i2l, 1), (15, .ldc2_w 266, 3), (18, .ldc2_w 268, 3), (21, .invokestatic 77, 3), (24, .ifCond .eq 7, 3), (27, .iconst 1, 1), (28, .goto 4, 3), (31, .iconst 0, 1), (32, .ireturn, 1)]
def kX11_next : List (Nat × Instr × Nat) := [(0, .aload_n 0, 1), (1, .getfield 270, 3), (4, .ifCond .le 23, 3), (7, .aload_n 0, 1), (8, .getfield 272, 3), (11, .iconst 1, 1), (12, .if_icmp .eq 11, 3), (15, .aload_n 0, 1), (16, .getfield 272, 3), (19, .iconst 2, 1), (20, .if_icmp .ne 7, 3), (23, .iconst 1, 1), (24, .goto 4, 3), (27, .iconst 0, 1), (28, .istore_n 1, 1), (29, .aload_n 0, 1), (30, .getfield 270, 3), (33, .istore_n 2, 1), (34, .aload_n 0, 1), (35, .getfield 270, 3), (38, .aload_n 0, 1), (39, .getfield 259, 3), (42, .if_icmp .ge 30, 3), (45, .aload_n 0, 1), (46, .getfield 58, 3), (49, .aload_n 0, 1), (50, .getfield 270, 3), (53, .iaload, 1), (54, .bipush 32, 2), (56, .if_icmp .ne 16, 3), (59, .aload_n 0, 1), (60, .dup, 1), (61, .getfield 270, 3), (64, .iconst 1, 1), (65, .iadd, 1), (66, .putfield 270, 3), (69, .goto (-35), 3), (72, .iload_n 1, 1), (73, .ifCond .eq 15, 3), (76, .iload_n 2, 1), (77, .aload_n 0, 1), (78, .getfield 270, 3), (81, .if_icmp .ne 7, 3), (84, .iconst 1, 1), (85, .goto 4, 3), (88, .iconst 0, 1), (89, .istore_n 1, 1), (90, .aload_n 0, 1), (91, .aload_n 0, 1), (92, .getfield 270, 3), (95, .putfield 275, 3), (98, .aload_n 0, 1), (99, .getfield 275, 3), (102, .aload_n 0, 1), (103, .getfield 259, 3), (106, .if_icmp .ne 11, 3), (109, .aload_n 0, 1), (110, .iconst 0, 1), (111, .putfield 272, 3), (114, .goto 225, 3), (117, .aload_n 0, 1), (118, .aload_n 0, 1), (119, .getfield 275, 3), (122, .invokevirtual 278, 3), (125, .ifCond .eq 73, 3), (128, .aload_n 0, 1), (129, .aload_n 0, 1), (130, .getfield 270, 3), (133, .invokevirtual 278, 3), (136, .ifCond .eq 16, 3), (139, .aload_n 0, 1), (140, .dup, 1), (141, .getfield 270, 3), (144, .iconst 1, 1), (145, .iadd, 1), (146, .putfield 270, 3), (149, .goto (-21), 3), (152, .aload_n 0, 1), (153, .iload_n 1, 1), (154, .ifCond .eq 7, 3), (157, .iconst 4, 1), (158, .goto 4, 3), (161, .iconst 1, 1), (162, .putfield 272, 3), (165, .aload_n 0, 1), (166, .aload_n 0, 1), (167, .getfield 270, 3), (170, .aload_n 0, 1), (171, .getfield 275, 3), (174, .isub, 1), (175, .iconst 1, 1), (176, .if_icmp .ne 15, 3), (179, .aload_n 0, 1), (180, .getfield 58, 3), (183, .aload_n 0, 1), (184, .getfield 275, 3), (187, .iaload, 1), (188, .goto 4, 3), (191, .iconst 0, 1), (192, .putfield 281, 3), (195, .goto 144, 3), (198, .aload_n 0, 1), (199, .aload_n 0, 1), (200, .getfield 275, 3), (203, .invokevirtual 284, 3), (206, .ifCond .eq 105, 3), (209, .aload_n 0, 1), (210, .iconst 0, 1), (211, .putfield 287, 3), (214, .aload_n 0, 1), (215, .aload_n 0, 1), (216, .getfield 270, 3), (219, .invokevirtual 284, 3), (222, .ifCond .eq 60, 3), (225, .aload_n 0, 1), (226, .aload_n 0, 1), (227, .getfield 270, 3), (230, .aload_n 0, 1), (231, .getfield 275, 3), (234, .isub, 1), (235, .iconst 4, 1), (236, .if_icmp .ge 26, 3), (239, .bipush 10, 2), (241, .aload_n 0, 1), (242, .getfield 287, 3), (245, .imul, 1), (246, .aload_n 0, 1), (247, .getfield 58, 3), (250, .aload_n 0, 1), (251, .getfield 270, 3), (254, .iaload, 1), (255, .iadd, 1), (256, .bipush 48, 2), (258, .isub, 1), (259, .goto 7, 3), (262, .aload_n 0, 1), (263, .getfield 287, 3), (266, .putfield 287, 3), (269, .aload_n 0, 1), (270, .dup, 1), (271, .getfield 270, 3), (274, .iconst 1, 1), (275, .iadd, 1), (276, .putfield 270, 3), (279, .goto (-65), 3), (282, .aload_n 0, 1), (283, .iload_n 1, 1), (284, .ifCond .ne 16, 3), (287, .aload_n 0, 1), (288, .getfield 270, 3), (291, .aload_n 0, 1), (292, .getfield 275, 3), (295, .isub, 1), (296, .iconst 4, 1), (297, .if_icmp .le 7, 3), (300, .iconst 4, 1), (301, .goto 4, 3), (304, .iconst 2, 1), (305, .putfield 272, 3), (308, .goto 31, 3), (311, .aload_n 0, 1), (312, .iconst 3, 1), (313, .putfield 272, 3), (316, .aload_n 0, 1), (317, .aload_n 0, 1), (318, .getfield 58, 3), (321, .aload_n 0, 1), (322, .getfield 275, 3), (325, .iaload, 1), (326, .putfield 281, 3), (329, .aload_n 0, 1), (330, .dup, 1), (331, .getfield 270, 3), (334, .iconst 1, 1), (335, .iadd, 1), (336, .putfield 270, 3), (339, .return_, 1)]
def kX11_isSign : List (Nat × Instr × Nat) := [(0, .aload_n 0, 1), (1, .getfield 272, 3), (4, .iconst 3, 1), (5, .if_icmp .ne 15, 3), (8, .aload_n 0, 1), (9, .getfield 281, 3), (12, .iload_n 1, 1), (13, .if_icmp .ne 7, 3), (16, .iconst 1, 1), (17, .goto 4, 3), (20, .iconst 0, 1), (21, .ireturn, 1)]
def kX11_isWordAt : List (Nat × Instr × Nat) := [(0, .iload 4, 2), (2, .ifCond .ne 7, 3), (5, .iconst 3, 1), (6, .goto 4, 3), (9, .iconst 4, 1), (10, .istore 5, 2), (12, .aload_n 0, 1), (13, .getfield 272, 3), (16, .iconst 1, 1), (17, .if_icmp .ne 85, 3), (20, .aload_n 0, 1), (21, .getfield 270, 3), (24, .aload_n 0, 1), (25, .getfield 275, 3), (28, .isub, 1), (29, .iload 5, 2), (31, .if_icmp .ne 71, 3), (34, .aload_n 0, 1), (35, .getfield 58, 3), (38, .aload_n 0, 1), (39, .getfield 275, 3), (42, .iaload, 1), (43, .iload_n 1, 1), (44, .if_icmp .ne 58, 3), (47, .aload_n 0, 1), (48, .getfield 58, 3), (51, .aload_n 0, 1), (52, .getfield 275, 3), (55, .iconst 1, 1), (56, .iadd, 1), (57, .iaload, 1), (58, .iload_n 2, 1), (59, .if_icmp .ne 43, 3), (62, .aload_n 0, 1), (63, .getfield 58, 3), (66, .aload_n 0, 1), (67, .getfield 275, 3), (70, .iconst 2, 1), (71, .iadd, 1), (72, .iaload, 1), (73, .iload_n 3, 1), (74, .if_icmp .ne 28, 3), (77, .iload 4, 2), (79, .ifCond .eq 19, 3), (82, .aload_n 0, 1), (83, .getfield 58, 3), (86, .aload_n 0, 1), (87, .getfield 275, 3), (90, .iconst 3, 1), (91, .iadd, 1), (92, .iaload, 1), (93, .iload 4, 2), (95, .if_icmp .ne 7, 3), (98, .iconst 1, 1), (99, .goto 4, 3), (102, .iconst 0, 1), (103, .ireturn, 1)]
def kX11_isLong : List (Nat × Instr × Nat) := [(0, .iload 6, 2), (2, .ifCond .ne 7, 3), (5, .iconst 5, 1), (6, .goto 5, 3), (9, .bipush 6, 2), (11, .istore 7, 2), (13, .aload_n 0, 1), (14, .getfield 272, 3), (17, .iconst 1, 1), (18, .if_icmp .ne 117, 3), (21, .aload_n 0, 1), (22, .getfield 270, 3), (25, .aload_n 0, 1), (26, .getfield 275, 3), (29, .isub, 1), (30, .iload 7, 2), (32, .if_icmp .ne 103, 3), (35, .aload_n 0, 1), (36, .getfield 58, 3), (39, .aload_n 0, 1), (40, .getfield 275, 3), (43, .iaload, 1), (44, .iload_n 1, 1), (45, .if_icmp .ne 90, 3), (48, .aload_n 0, 1), (49, .getfield 58, 3), (52, .aload_n 0, 1), (53, .getfield 275, 3), (56, .iconst 1, 1), (57, .iadd, 1), (58, .iaload, 1), (59, .iload_n 2, 1), (60, .if_icmp .ne 75, 3), (63, .aload_n 0, 1), (64, .getfield 58, 3), (67, .aload_n 0, 1), (68, .getfield 275, 3), (71, .iconst 2, 1), (72, .iadd, 1), (73, .iaload, 1), (74, .iload_n 3, 1), (75, .if_icmp .ne 60, 3), (78, .aload_n 0, 1), (79, .getfield 58, 3), (82, .aload_n 0, 1), (83, .getfield 275, 3), (86, .iconst 3, 1), (87, .iadd, 1), (88, .iaload, 1), (89, .iload 4, 2), (91, .if_icmp .ne 44, 3), (94, .aload_n 0, 1), (95, .getfield 58, 3), (98, .aload_n 0, 1), (99, .getfield 275, 3), (102, .iconst 4, 1), (103, .iadd, 1), (104, .iaload, 1), (105, .iload 5, 2), (107, .if_icmp .ne 28, 3), (110, .iload 6, 2), (112, .ifCond .eq 19, 3), (115, .aload_n 0, 1), (116, .getfield 58, 3), (119, .aload_n 0, 1), (120, .getfield 275, 3), (123, .iconst 5, 1), (124, .iadd, 1), (125, .iaload, 1), (126, .iload 6, 2), (128, .if_icmp .ne 7, 3), (131, .iconst 1, 1), (132, .goto 4, 3), (135, .iconst 0, 1), (136, .ireturn, 1)]
def kX11_key : List (Nat × Instr × Nat) := [(0, .aload_n 0, 1), (1, .bipush 97, 2), (3, .bipush 108, 2), (5, .bipush 108, 2), (7, .iconst 0, 1), (8, .invokevirtual 290, 3), (11, .ifCond .eq 6, 3), (14, .bipush 8, 2), (16, .ireturn, 1), (17, .aload_n 0, 1), (18, .bipush 98, 2), (20, .bipush 108, 2), (22, .bipush 111, 2), (24, .bipush 99, 2), (26, .bipush 107, 2), (28, .iconst 0, 1), (29, .invokevirtual 294, 3), (32, .ifCond .ne 5, 3), (35, .iconst (-1), 1), (36, .ireturn, 1), (37, .aload_n 0, 1), (38, .invokevirtual 298, 3), (41, .aload_n 0, 1), (42, .getfield 272, 3), (45, .iconst 2, 1), (46, .if_icmp .ne 32, 3), (49, .aload_n 0, 1), (50, .getfield 270, 3), (53, .aload_n 0, 1), (54, .getfield 275, 3), (57, .isub, 1), (58, .iconst 1, 1), (59, .if_icmp .ne 19, 3), (62, .aload_n 0, 1), (63, .getfield 287, 3), (66, .bipush 8, 2), (68, .if_icmp .ge 10, 3), (71, .aload_n 0, 1), (72, .getfield 287, 3), (75, .goto 4, 3), (78, .iconst (-1), 1), (79, .ireturn, 1)]
def kX11_isName : List (Nat × Instr × Nat) := [(0, .iload_n 0, 1), (1, .bipush 8, 2), (3, .if_icmp .ne 33, 3), (6, .iload_n 1, 1), (7, .bipush 119, 2), (9, .if_icmp .eq 21, 3), (12, .iload_n 1, 1), (13, .bipush 104, 2), (15, .if_icmp .eq 15, 3), (18, .iload_n 1, 1), (19, .bipush 108, 2), (21, .if_icmp .eq 9, 3), (24, .iload_n 1, 1), (25, .bipush 117, 2), (27, .if_icmp .ne 7, 3), (30, .iconst 1, 1), (31, .goto 4, 3), (34, .iconst 0, 1), (35, .ireturn, 1), (36, .iload_n 1, 1), (37, .bipush 120, 2), (39, .if_icmp .eq 39, 3), (42, .iload_n 1, 1), (43, .bipush 121, 2), (45, .if_icmp .eq 33, 3), (48, .iload_n 1, 1), (49, .bipush 119, 2), (51, .if_icmp .eq 27, 3), (54, .iload_n 1, 1), (55, .bipush 104, 2), (57, .if_icmp .eq 21, 3), (60, .iload_n 1, 1), (61, .bipush 112, 2), (63, .if_icmp .eq 15, 3), (66, .iload_n 1, 1), (67, .bipush 116, 2), (69, .if_icmp .eq 9, 3), (72, .iload_n 1, 1), (73, .bipush 103, 2), (75, .if_icmp .ne 7, 3), (78, .iconst 1, 1), (79, .goto 4, 3), (82, .iconst 0, 1), (83, .ireturn, 1)]
def kX11_step : List (Nat × Instr × Nat) := [(0, .aload_n 0, 1), (1, .getfield 7, 3), (4, .aload_n 0, 1), (5, .getfield 301, 3), (8, .iconst 2, 1), (9, .aload_n 0, 1), (10, .getfield 304, 3), (13, .imul, 1), (14, .iadd, 1), (15, .iload_n 1, 1), (16, .iastore, 1), (17, .aload_n 0, 1), (18, .getfield 7, 3), (21, .aload_n 0, 1), (22, .getfield 301, 3), (25, .iconst 2, 1), (26, .aload_n 0, 1), (27, .getfield 304, 3), (30, .imul, 1), (31, .iadd, 1), (32, .iconst 1, 1), (33, .iadd, 1), (34, .iload_n 2, 1), (35, .iastore, 1), (36, .aload_n 0, 1), (37, .dup, 1), (38, .getfield 304, 3), (41, .iconst 1, 1), (42, .iadd, 1), (43, .putfield 304, 3), (46, .return_, 1)]
def kX11_either : List (Nat × Instr × Nat) := [(0, .aload_n 0, 1), (1, .iload_n 1, 1), (2, .invokevirtual 307, 3), (5, .ifCond .ne 5, 3), (8, .iconst 0, 1), (9, .ireturn, 1), (10, .aload_n 0, 1), (11, .bipush 124, 2), (13, .invokevirtual 310, 3), (16, .ifCond .eq 27, 3), (19, .aload_n 0, 1), (20, .invokevirtual 298, 3), (23, .aload_n 0, 1), (24, .iload_n 1, 1), (25, .invokevirtual 307, 3), (28, .ifCond .ne 5, 3), (31, .iconst 0, 1), (32, .ireturn, 1), (33, .aload_n 0, 1), (34, .iconst 2, 1), (35, .bipush 124, 2), (37, .invokevirtual 313, 3), (40, .goto (-30), 3), (43, .iconst 1, 1), (44, .ireturn, 1)]
def kX11_both : List (Nat × Instr × Nat) := [(0, .aload_n 0, 1), (1, .iload_n 1, 1), (2, .invokevirtual 317, 3), (5, .ifCond .ne 5, 3), (8, .iconst 0, 1), (9, .ireturn, 1), (10, .aload_n 0, 1), (11, .bipush 38, 2), (13, .invokevirtual 310, 3), (16, .ifCond .eq 27, 3), (19, .aload_n 0, 1), (20, .invokevirtual 298, 3), (23, .aload_n 0, 1), (24, .iload_n 1, 1), (25, .invokevirtual 317, 3), (28, .ifCond .ne 5, 3), (31, .iconst 0, 1), (32, .ireturn, 1), (33, .aload_n 0, 1), (34, .iconst 2, 1), (35, .bipush 38, 2), (37, .invokevirtual 313, 3), (40, .goto (-30), 3), (43, .iconst 1, 1), (44, .ireturn, 1)]
def kX11_test : List (Nat × Instr × Nat) := [(0, .aload_n 0, 1), (1, .iload_n 1, 1), (2, .invokevirtual 320, 3), (5, .ifCond .ne 5, 3), (8, .iconst 0, 1), (9, .ireturn, 1), (10, .aload_n 0, 1), (11, .bipush 60, 2), (13, .invokevirtual 310, 3), (16, .ifCond .ne 21, 3), (19, .aload_n 0, 1), (20, .bipush 61, 2), (22, .invokevirtual 310, 3), (25, .ifCond .ne 12, 3), (28, .aload_n 0, 1), (29, .bipush 62, 2), (31, .invokevirtual 310, 3), (34, .ifCond .eq 28, 3), (37, .aload_n 0, 1), (38, .getfield 281, 3), (41, .istore_n 2, 1), (42, .aload_n 0, 1), (43, .invokevirtual 298, 3), (46, .aload_n 0, 1), (47, .iload_n 1, 1), (48, .invokevirtual 320, 3), (51, .ifCond .ne 5, 3), (54, .iconst 0, 1), (55, .ireturn, 1), (56, .aload_n 0, 1), (57, .iconst 2, 1), (58, .iload_n 2, 1), (59, .invokevirtual 313, 3), (62, .iconst 1, 1), (63, .ireturn, 1)]
def kX11_sum : List (Nat × Instr × Nat) := [(0, .aload_n 0, 1), (1, .iload_n 1, 1), (2, .invokevirtual 323, 3), (5, .ifCond .ne 5, 3), (8, .iconst 0, 1), (9, .ireturn, 1), (10, .aload_n 0, 1), (11, .bipush 43, 2), (13, .invokevirtual 310, 3), (16, .ifCond .ne 12, 3), (19, .aload_n 0, 1), (20, .bipush 45, 2), (22, .invokevirtual 310, 3), (25, .ifCond .eq 31, 3), (28, .aload_n 0, 1), (29, .getfield 281, 3), (32, .istore_n 2, 1), (33, .aload_n 0, 1), (34, .invokevirtual 298, 3), (37, .aload_n 0, 1), (38, .iload_n 1, 1), (39, .invokevirtual 323, 3), (42, .ifCond .ne 5, 3), (45, .iconst 0, 1), (46, .ireturn, 1), (47, .aload_n 0, 1), (48, .iconst 2, 1), (49, .iload_n 2, 1), (50, .invokevirtual 313, 3), (53, .goto (-43), 3), (56, .iconst 1, 1), (57, .ireturn, 1)]
def kX11_term : List (Nat × Instr × Nat) := [(0, .aload_n 0, 1), (1, .iload_n 1, 1), (2, .invokevirtual 326, 3), (5, .ifCond .ne 5, 3), (8, .iconst 0, 1), (9, .ireturn, 1), (10, .aload_n 0, 1), (11, .bipush 42, 2), (13, .invokevirtual 310, 3), (16, .ifCond .ne 12, 3), (19, .aload_n 0, 1), (20, .bipush 47, 2), (22, .invokevirtual 310, 3), (25, .ifCond .eq 31, 3), (28, .aload_n 0, 1), (29, .getfield 281, 3), (32, .istore_n 2, 1), (33, .aload_n 0, 1), (34, .invokevirtual 298, 3), (37, .aload_n 0, 1), (38, .iload_n 1, 1), (39, .invokevirtual 326, 3), (42, .ifCond .ne 5, 3), (45, .iconst 0, 1), (46, .ireturn, 1), (47, .aload_n 0, 1), (48, .iconst 2, 1), (49, .iload_n 2, 1), (50, .invokevirtual 313, 3), (53, .goto (-43), 3), (56, .iconst 1, 1), (57, .ireturn, 1)]
def kX11_part0 : List (Nat × Instr × Nat) := [(0, .aload_n 0, 1), (1, .getfield 272, 3), (4, .iconst 2, 1), (5, .if_icmp .ne 28, 3), (8, .aload_n 0, 1), (9, .iconst 0, 1), (10, .aload_n 0, 1), (11, .getfield 287, 3), (14, .invokevirtual 313, 3), (17, .aload_n 0, 1), (18, .dup, 1), (19, .getfield 329, 3), (22, .iconst 1, 1), (23, .iadd, 1), (24, .putfield 329, 3), (27, .aload_n 0, 1), (28, .invokevirtual 298, 3), (31, .iconst 1, 1), (32, .ireturn, 1), (33, .aload_n 0, 1), (34, .getfield 272, 3), (37, .iconst 1, 1), (38, .if_icmp .ne 46, 3), (41, .aload_n 0, 1), (42, .getfield 281, 3), (45, .ifCond .eq 39, 3), (48, .iload_n 1, 1), (49, .aload_n 0, 1), (50, .getfield 281, 3), (53, .invokestatic 332, 3), (56, .ifCond .eq 28, 3), (59, .aload_n 0, 1), (60, .iconst 1, 1), (61, .aload_n 0, 1), (62, .getfield 281, 3), (65, .invokevirtual 313, 3), (68, .aload_n 0, 1), (69, .dup, 1), (70, .getfield 329, 3), (73, .iconst 1, 1), (74, .iadd, 1), (75, .putfield 329, 3), (78, .aload_n 0, 1), (79, .invokevirtual 298, 3), (82, .iconst 1, 1), (83, .ireturn, 1), (84, .aload_n 0, 1), (85, .bipush 33, 2), (87, .invokevirtual 310, 3), (90, .ifCond .eq 55, 3), (93, .aload_n 0, 1), (94, .getfield 335, 3), (97, .bipush 8, 2), (99, .if_icmp .ge 46, 3), (102, .aload_n 0, 1), (103, .dup, 1), (104, .getfield 335, 3), (107, .iconst 1, 1), (108, .iadd, 1), (109, .putfield 335, 3), (112, .aload_n 0, 1), (113, .invokevirtual 298, 3), (116, .aload_n 0, 1), (117, .iload_n 1, 1), (118, .invokevirtual 326, 3), (121, .ifCond .ne 5, 3), (124, .iconst 0, 1), (125, .ireturn, 1), (126, .aload_n 0, 1), (127, .dup, 1), (128, .getfield 335, 3), (131, .iconst 1, 1), (132, .isub, 1), (133, .putfield 335, 3), (136, .aload_n 0, 1), (137, .iconst 2, 1), (138, .bipush 33, 2), (140, .invokevirtual 313, 3), (143, .iconst 1, 1), (144, .ireturn, 1), (145, .aload_n 0, 1), (146, .bipush 40, 2), (148, .invokevirtual 310, 3), (151, .ifCond .eq 12, 3), (154, .aload_n 0, 1), (155, .getfield 338, 3), (158, .bipush 8, 2), (160, .if_icmp .ne 5, 3), (163, .iconst 0, 1), (164, .ireturn, 1), (165, .aload_n 0, 1), (166, .dup, 1), (167, .getfield 338, 3), (170, .iconst 1, 1), (171, .iadd, 1), (172, .putfield 338, 3), (175, .aload_n 0, 1), (176, .invokevirtual 298, 3), (179, .aload_n 0, 1), (180, .iload_n 1, 1), (181, .invokevirtual 341, 3), (184, .ifCond .eq 12, 3), (187, .aload_n 0, 1), (188, .bipush 41, 2), (190, .invokevirtual 310, 3), (193, .ifCond .ne 5, 3), (196, .iconst 0, 1), (197, .ireturn, 1), (198, .aload_n 0, 1), (199, .dup, 1), (200, .getfield 338, 3), (203, .iconst 1, 1), (204, .isub, 1), (205, .putfield 338, 3), (208, .aload_n 0, 1), (209, .invokevirtual 298, 3), (212, .iconst 1, 1), (213, .ireturn, 1)]
def kX11_parse : List (Nat × Instr × Nat) := [(0, .aload_n 0, 1), (1, .iconst 0, 1), (2, .putfield 270, 3), (5, .aload_n 0, 1), (6, .iconst 3, 1), (7, .putfield 272, 3), (10, .aload_n 0, 1), (11, .iconst 0, 1), (12, .putfield 338, 3), (15, .aload_n 0, 1), (16, .iconst 0, 1), (17, .putfield 335, 3), (20, .aload_n 0, 1), (21, .iconst 0, 1), (22, .putfield 304, 3), (25, .aload_n 0, 1), (26, .iconst 0, 1), (27, .putfield 329, 3), (30, .aload_n 0, 1), (31, .aload_n 0, 1), (32, .getfield 7, 3), (35, .iconst 2, 1), (36, .iaload, 1), (37, .bipush 10, 2), (39, .if_icmp .ge 18, 3), (42, .aload_n 0, 1), (43, .aload_n 0, 1), (44, .getfield 7, 3), (47, .iconst 2, 1), (48, .iaload, 1), (49, .invokevirtual 344, 3), (52, .iconst 4, 1), (53, .iadd, 1), (54, .goto 6, 3), (57, .sipush 2150, 3), (60, .putfield 301, 3), (63, .aload_n 0, 1), (64, .invokevirtual 298, 3), (67, .aload_n 0, 1), (68, .invokevirtual 347, 3), (71, .istore_n 1, 1), (72, .iload_n 1, 1), (73, .ifCond .lt 7, 3), (76, .iconst 1, 1), (77, .goto 4, 3), (80, .iconst 0, 1), (81, .istore_n 2, 1), (82, .iload_n 2, 1), (83, .ifCond .eq 28, 3), (86, .aload_n 0, 1), (87, .invokevirtual 298, 3), (90, .aload_n 0, 1), (91, .iload_n 1, 1), (92, .invokevirtual 341, 3), (95, .ifCond .eq 14, 3), (98, .aload_n 0, 1), (99, .getfield 272, 3), (102, .ifCond .ne 7, 3), (105, .iconst 1, 1), (106, .goto 4, 3), (109, .iconst 0, 1), (110, .istore_n 2, 1), (111, .aload_n 0, 1), (112, .iconst 0, 1), (113, .putfield 259, 3), (116, .iload_n 2, 1), (117, .ifCond .eq 7, 3), (120, .iload_n 1, 1), (121, .goto 4, 3), (124, .iconst (-1), 1), (125, .ireturn, 1)]
def kX11_wish : List (Nat × Instr × Nat) := [(0, .aload_n 0, 1), (1, .invokevirtual 350, 3), (4, .istore_n 1, 1), (5, .iload_n 1, 1), (6, .ifCond .ge 11, 3), (9, .bipush (-100), 2), (11, .aload_n 0, 1), (12, .getfield 275, 3), (15, .isub, 1), (16, .ireturn, 1), (17, .aload_n 0, 1), (18, .getfield 7, 3), (21, .iconst 2, 1), (22, .iaload, 1), (23, .bipush 10, 2), (25, .if_icmp .ne 6, 3), (28, .ldc 153, 2), (30, .ireturn, 1), (31, .aload_n 0, 1), (32, .aload_n 0, 1), (33, .getfield 7, 3), (36, .iconst 2, 1), (37, .iaload, 1), (38, .invokevirtual 344, 3), (41, .istore_n 2, 1), (42, .aload_n 0, 1), (43, .getfield 7, 3), (46, .iload_n 2, 1), (47, .iconst 0, 1), (48, .iadd, 1), (49, .iload_n 1, 1), (50, .iastore, 1), (51, .aload_n 0, 1), (52, .getfield 7, 3), (55, .iload_n 2, 1), (56, .iconst 1, 1), (57, .iadd, 1), (58, .aload_n 0, 1), (59, .getfield 329, 3), (62, .iastore, 1), (63, .aload_n 0, 1), (64, .getfield 7, 3), (67, .iload_n 2, 1), (68, .iconst 2, 1), (69, .iadd, 1), (70, .aload_n 0, 1), (71, .getfield 304, 3), (74, .iastore, 1), (75, .aload_n 0, 1), (76, .getfield 7, 3), (79, .iconst 2, 1), (80, .dup2, 1), (81, .iaload, 1), (82, .iconst 1, 1), (83, .iadd, 1), (84, .iastore, 1), (85, .aload_n 0, 1), (86, .getfield 7, 3), (89, .iconst 2, 1), (90, .iaload, 1), (91, .iconst 1, 1), (92, .isub, 1), (93, .ireturn, 1)]
def kX11_joined : List (Nat × Instr × Nat) := [(0, .iload_n 0, 1), (1, .tableswitch 196 38 62 #[182, 196, 196, 196, 123, 115, 196, 119, 196, 127, 196, 196, 196, 196, 196, 196, 196, 196, 196, 196, 196, 196, 149, 171, 160], 115), (116, .iload_n 1, 1), (117, .iload_n 2, 1), (118, .iadd, 1), (119, .ireturn, 1), (120, .iload_n 1, 1), (121, .iload_n 2, 1), (122, .isub, 1), (123, .ireturn, 1), (124, .iload_n 1, 1), (125, .iload_n 2, 1), (126, .imul, 1), (127, .ireturn, 1), (128, .iload_n 2, 1), (129, .ifCond .ne 7, 3), (132, .iconst 0, 1), (133, .goto 16, 3), (136, .iload_n 2, 1), (137, .iconst (-1), 1), (138, .if_icmp .ne 8, 3), (141, .iload_n 1, 1), (142, .ineg, 1), (143, .goto 6, 3), (146, .iload_n 1, 1), (147, .iload_n 2, 1), (148, .idiv, 1), (149, .ireturn, 1), (150, .iload_n 1, 1), (151, .iload_n 2, 1), (152, .if_icmp .ge 7, 3), (155, .iconst 1, 1), (156, .goto 4, 3), (159, .iconst 0, 1), (160, .ireturn, 1), (161, .iload_n 1, 1), (162, .iload_n 2, 1), (163, .if_icmp .le 7, 3), (166, .iconst 1, 1), (167, .goto 4, 3), (170, .iconst 0, 1), (171, .ireturn, 1), (172, .iload_n 1, 1), (173, .iload_n 2, 1), (174, .if_icmp .ne 7, 3), (177, .iconst 1, 1), (178, .goto 4, 3), (181, .iconst 0, 1), (182, .ireturn, 1), (183, .iload_n 1, 1), (184, .ifCond .eq 11, 3), (187, .iload_n 2, 1), (188, .ifCond .eq 7, 3), (191, .iconst 1, 1), (192, .goto 4, 3), (195, .iconst 0, 1), (196, .ireturn, 1), (197, .iload_n 1, 1), (198, .ifCond .ne 7, 3), (201, .iload_n 2, 1), (202, .ifCond .eq 7, 3), (205, .iconst 1, 1), (206, .goto 4, 3), (209, .iconst 0, 1), (210, .ireturn, 1)]
def kX11_worked : List (Nat × Instr × Nat) := [(0, .iconst 0, 1), (1, .istore_n 2, 1), (2, .iconst 0, 1), (3, .istore_n 3, 1), (4, .iload_n 3, 1), (5, .aload_n 0, 1), (6, .getfield 7, 3), (9, .aload_n 0, 1), (10, .iload_n 1, 1), (11, .invokevirtual 344, 3), (14, .iconst 2, 1), (15, .iadd, 1), (16, .iaload, 1), (17, .if_icmp .ge 146, 3), (20, .aload_n 0, 1), (21, .getfield 7, 3), (24, .aload_n 0, 1), (25, .iload_n 1, 1), (26, .invokevirtual 344, 3), (29, .iconst 4, 1), (30, .iadd, 1), (31, .iconst 2, 1), (32, .iload_n 3, 1), (33, .imul, 1), (34, .iadd, 1), (35, .iaload, 1), (36, .istore 4, 2), (38, .aload_n 0, 1), (39, .getfield 7, 3), (42, .aload_n 0, 1), (43, .iload_n 1, 1), (44, .invokevirtual 344, 3), (47, .iconst 4, 1), (48, .iadd, 1), (49, .iconst 2, 1), (50, .iload_n 3, 1), (51, .imul, 1), (52, .iadd, 1), (53, .iconst 1, 1), (54, .iadd, 1), (55, .iaload, 1), (56, .istore 5, 2), (58, .iload 4, 2), (60, .iconst 2, 1), (61, .if_icmp .eq 32, 3), (64, .aload_n 0, 1), (65, .getfield 64, 3), (68, .iload_n 2, 1), (69, .iload 4, 2), (71, .ifCond .ne 8, 3), (74, .iload 5, 2), (76, .goto 10, 3), (79, .aload_n 0, 1), (80, .getfield 61, 3), (83, .iload 5, 2), (85, .iaload, 1), (86, .iastore, 1), (87, .iinc 2 1, 3), (90, .goto 67, 3), (93, .iload 5, 2), (95, .bipush 33, 2), (97, .if_icmp .ne 30, 3), (100, .aload_n 0, 1), (101, .getfield 64, 3), (104, .iload_n 2, 1), (105, .iconst 1, 1), (106, .isub, 1), (107, .aload_n 0, 1), (108, .getfield 64, 3), (111, .iload_n 2, 1), (112, .iconst 1, 1), (113, .isub, 1), (114, .iaload, 1), (115, .ifCond .ne 7, 3), (118, .iconst 1, 1), (119, .goto 4, 3), (122, .iconst 0, 1), (123, .iastore, 1), (124, .goto 33, 3), (127, .iinc 2 (-1), 3), (130, .aload_n 0, 1), (131, .getfield 64, 3), (134, .iload_n 2, 1), (135, .iconst 1, 1), (136, .isub, 1), (137, .iload 5, 2), (139, .aload_n 0, 1), (140, .getfield 64, 3), (143, .iload_n 2, 1), (144, .iconst 1, 1), (145, .isub, 1), (146, .iaload, 1), (147, .aload_n 0, 1), (148, .getfield 64, 3), (151, .iload_n 2, 1), (152, .iaload, 1), (153, .invokestatic 353, 3), (156, .iastore, 1), (157, .iinc 3 1, 3), (160, .goto (-156), 3), (163, .aload_n 0, 1), (164, .getfield 64, 3), (167, .iconst 0, 1), (168, .iaload, 1), (169, .ireturn, 1)]
def kX11_givenBy : List (Nat × Instr × Nat) := [(0, .aload_n 0, 1), (1, .getfield 7, 3), (4, .aload_n 0, 1), (5, .iload_n 1, 1), (6, .invokevirtual 344, 3), (9, .iaload, 1), (10, .istore_n 2, 1), (11, .aload_n 0, 1), (12, .invokevirtual 196, 3), (15, .istore_n 3, 1), (16, .iload_n 2, 1), (17, .bipush 8, 2), (19, .if_icmp .ne 50, 3), (22, .aload_n 0, 1), (23, .getfield 61, 3), (26, .bipush 119, 2), (28, .aload_n 0, 1), (29, .getfield 99, 3), (32, .iastore, 1), (33, .aload_n 0, 1), (34, .getfield 61, 3), (37, .bipush 104, 2), (39, .aload_n 0, 1), (40, .getfield 103, 3), (43, .iastore, 1), (44, .aload_n 0, 1), (45, .getfield 61, 3), (48, .bipush 108, 2), (50, .aload_n 0, 1), (51, .invokevirtual 132, 3), (54, .iastore, 1), (55, .aload_n 0, 1), (56, .getfield 61, 3), (59, .bipush 117, 2), (61, .aload_n 0, 1), (62, .invokevirtual 199, 3), (65, .iastore, 1), (66, .goto 106, 3), (69, .aload_n 0, 1), (70, .iload_n 2, 1), (71, .invokevirtual 157, 3), (74, .ifCond .ne 5, 3), (77, .iconst 0, 1), (78, .ireturn, 1), (79, .aload_n 0, 1), (80, .getfield 61, 3), (83, .bipush 120, 2), (85, .aload_n 0, 1), (86, .getfield 49, 3), (89, .iload_n 2, 1), (90, .iaload, 1), (91, .iastore, 1), (92, .aload_n 0, 1), (93, .getfield 61, 3), (96, .bipush 121, 2), (98, .aload_n 0, 1), (99, .getfield 52, 3), (102, .iload_n 2, 1), (103, .iaload, 1), (104, .iastore, 1), (105, .aload_n 0, 1), (106, .getfield 61, 3), (109, .bipush 119, 2), (111, .aload_n 0, 1), (112, .iload_n 2, 1), (113, .invokevirtual 110, 3), (116, .iastore, 1), (117, .aload_n 0, 1), (118, .getfield 61, 3), (121, .bipush 104, 2), (123, .aload_n 0, 1), (124, .iload_n 2, 1), (125, .invokevirtual 117, 3), (128, .iastore, 1), (129, .aload_n 0, 1), (130, .getfield 61, 3), (133, .bipush 112, 2), (135, .aload_n 0, 1), (136, .getfield 7, 3), (139, .aload_n 0, 1), (140, .iload_n 2, 1), (141, .invokevirtual 95, 3), (144, .iconst 3, 1), (145, .iadd, 1), (146, .iaload, 1), (147, .iastore, 1), (148, .aload_n 0, 1), (149, .getfield 61, 3), (152, .bipush 116, 2), (154, .aload_n 0, 1), (155, .iload_n 2, 1), (156, .invokevirtual 145, 3), (159, .iastore, 1), (160, .aload_n 0, 1), (161, .getfield 61, 3), (164, .bipush 103, 2), (166, .aload_n 0, 1), (167, .iload_n 2, 1), (168, .invokevirtual 170, 3), (171, .iastore, 1), (172, .aload_n 0, 1), (173, .iload_n 1, 1), (174, .invokevirtual 357, 3), (177, .ireturn, 1)]
def kX11_of : List (Nat × Instr × Nat) := [(0, .aload_n 0, 1), (1, .iload_n 1, 1), (2, .invokevirtual 360, 3), (5, .ifCond .eq 15, 3), (8, .iload_n 2, 1), (9, .i2l, 1), (10, .lconst 0, 1), (11, .ldc2_w 240, 3), (14, .invokestatic 77, 3), (17, .ifCond .ne 6, 3), (20, .ldc 152, 2), (22, .ireturn, 1), (23, .aload_n 0, 1), (24, .iload_n 1, 1), (25, .invokevirtual 363, 3), (28, .istore_n 3, 1), (29, .iload_n 2, 1), (30, .iconst 2, 1), (31, .if_icmp .ge 18, 3), (34, .aload_n 0, 1), (35, .getfield 7, 3), (38, .aload_n 0, 1), (39, .iload_n 1, 1), (40, .invokevirtual 344, 3), (43, .iload_n 2, 1), (44, .iadd, 1), (45, .iaload, 1), (46, .goto 21, 3), (49, .iload_n 2, 1), (50, .iconst 3, 1), (51, .if_icmp .ne 7, 3), (54, .iload_n 3, 1), (55, .goto 12, 3), (58, .iload_n 3, 1), (59, .ifCond .eq 7, 3), (62, .iconst 1, 1), (63, .goto 4, 3), (66, .iconst 0, 1), (67, .ireturn, 1)]
def kX11_missed : List (Nat × Instr × Nat) := [(0, .iconst 0, 1), (1, .istore_n 1, 1), (2, .iload_n 1, 1), (3, .aload_n 0, 1), (4, .getfield 7, 3), (7, .iconst 2, 1), (8, .iaload, 1), (9, .if_icmp .ge 19, 3), (12, .aload_n 0, 1), (13, .iload_n 1, 1), (14, .invokevirtual 363, 3), (17, .ifCond .ne 5, 3), (20, .iload_n 1, 1), (21, .ireturn, 1), (22, .iinc 1 1, 3), (25, .goto (-23), 3), (28, .ldc 76, 2), (30, .ireturn, 1)]
def kX11_stow : List (Nat × Instr × Nat) := [(0, .aload_n 0, 1), (1, .getfield 7, 3), (4, .iconst 3, 1), (5, .iaload, 1), (6, .bipush 8, 2), (8, .if_icmp .ne 6, 3), (11, .ldc 153, 2), (13, .ireturn, 1), (14, .bipush 110, 2), (16, .iconst 3, 1), (17, .aload_n 0, 1), (18, .getfield 7, 3), (21, .iconst 3, 1), (22, .iaload, 1), (23, .imul, 1), (24, .iadd, 1), (25, .istore_n 1, 1), (26, .aload_n 0, 1), (27, .invokevirtual 129, 3), (30, .aload_n 0, 1), (31, .invokevirtual 253, 3), (34, .istore_n 2, 1), (35, .aload_n 0, 1), (36, .getfield 7, 3), (39, .iload_n 1, 1), (40, .aload_n 0, 1), (41, .getfield 99, 3), (44, .aload_n 0, 1), (45, .getfield 103, 3), (48, .imul, 1), (49, .iastore, 1), (50, .aload_n 0, 1), (51, .getfield 7, 3), (54, .iload_n 1, 1), (55, .iconst 1, 1), (56, .iadd, 1), (57, .aload_n 0, 1), (58, .invokevirtual 132, 3), (61, .iastore, 1), (62, .aload_n 0, 1), (63, .getfield 7, 3), (66, .iload_n 1, 1), (67, .iconst 2, 1), (68, .iadd, 1), (69, .iload_n 2, 1), (70, .ifCond .ge 7, 3), (73, .iconst 0, 1), (74, .goto 8, 3), (77, .aload_n 0, 1), (78, .iload_n 2, 1), (79, .invokevirtual 145, 3), (82, .iastore, 1), (83, .aload_n 0, 1), (84, .getfield 7, 3), (87, .iconst 3, 1), (88, .dup2, 1), (89, .iaload, 1), (90, .iconst 1, 1), (91, .iadd, 1), (92, .iastore, 1), (93, .aload_n 0, 1), (94, .getfield 7, 3), (97, .iconst 3, 1), (98, .iaload, 1), (99, .iconst 1, 1), (100, .isub, 1), (101, .ireturn, 1)]
def kX11_isBeaten : List (Nat × Instr × Nat) := [(0, .bipush 110, 2), (2, .iconst 3, 1), (3, .iload_n 1, 1), (4, .imul, 1), (5, .iadd, 1), (6, .istore_n 2, 1), (7, .iconst 0, 1), (8, .istore_n 3, 1), (9, .iconst 0, 1), (10, .istore 4, 2), (12, .iload 4, 2), (14, .aload_n 0, 1), (15, .getfield 7, 3), (18, .iconst 3, 1), (19, .iaload, 1), (20, .if_icmp .ge 152, 3), (23, .bipush 110, 2), (25, .iconst 3, 1), (26, .iload 4, 2), (28, .imul, 1), (29, .iadd, 1), (30, .istore 5, 2), (32, .aload_n 0, 1), (33, .getfield 7, 3), (36, .iload 5, 2), (38, .iaload, 1), (39, .aload_n 0, 1), (40, .getfield 7, 3), (43, .iload_n 2, 1), (44, .iaload, 1), (45, .if_icmp .gt 47, 3), (48, .aload_n 0, 1), (49, .getfield 7, 3), (52, .iload 5, 2), (54, .iconst 1, 1), (55, .iadd, 1), (56, .iaload, 1), (57, .aload_n 0, 1), (58, .getfield 7, 3), (61, .iload_n 2, 1), (62, .iconst 1, 1), (63, .iadd, 1), (64, .iaload, 1), (65, .if_icmp .gt 27, 3), (68, .aload_n 0, 1), (69, .getfield 7, 3), (72, .iload 5, 2), (74, .iconst 2, 1), (75, .iadd, 1), (76, .iaload, 1), (77, .aload_n 0, 1), (78, .getfield 7, 3), (81, .iload_n 2, 1), (82, .iconst 2, 1), (83, .iadd, 1), (84, .iaload, 1), (85, .if_icmp .gt 7, 3), (88, .iconst 1, 1), (89, .goto 4, 3), (92, .iconst 0, 1), (93, .istore 6, 2), (95, .iload_n 3, 1), (96, .ifCond .ne 64, 3), (99, .iload 6, 2), (101, .ifCond .eq 63, 3), (104, .aload_n 0, 1), (105, .getfield 7, 3), (108, .iload 5, 2), (110, .iaload, 1), (111, .aload_n 0, 1), (112, .getfield 7, 3), (115, .iload_n 2, 1), (116, .iaload, 1), (117, .if_icmp .lt 43, 3), (120, .aload_n 0, 1), (121, .getfield 7, 3), (124, .iload 5, 2), (126, .iconst 1, 1), (127, .iadd, 1), (128, .iaload, 1), (129, .aload_n 0, 1), (130, .getfield 7, 3), (133, .iload_n 2, 1), (134, .iconst 1, 1), (135, .iadd, 1), (136, .iaload, 1), (137, .if_icmp .lt 23, 3), (140, .aload_n 0, 1), (141, .getfield 7, 3), (144, .iload 5, 2), (146, .iconst 2, 1), (147, .iadd, 1), (148, .iaload, 1), (149, .aload_n 0, 1), (150, .getfield 7, 3), (153, .iload_n 2, 1), (154, .iconst 2, 1), (155, .iadd, 1), (156, .iaload, 1), (157, .if_icmp .ge 7, 3), (160, .iconst 1, 1), (161, .goto 4, 3), (164, .iconst 0, 1), (165, .istore_n 3, 1), (166, .iinc 4 1, 3), (169, .goto (-157), 3), (172, .iload_n 3, 1), (173, .ireturn, 1)]
def kX11_stowed : List (Nat × Instr × Nat) := [(0, .iload_n 1, 1), (1, .i2l, 1), (2, .lconst 0, 1), (3, .aload_n 0, 1), (4, .getfield 7, 3), (7, .iconst 3, 1), (8, .iaload, 1), (9, .iconst 1, 1), (10, .isub, 1), (11, .i2l, 1), (12, .invokestatic 77, 3), (15, .ifCond .eq 15, 3), (18, .iload_n 2, 1), (19, .i2l, 1), (20, .lconst 0, 1), (21, .ldc2_w 240, 3), (24, .invokestatic 77, 3), (27, .ifCond .ne 6, 3), (30, .ldc 152, 2), (32, .ireturn, 1), (33, .iload_n 2, 1), (34, .iconst 3, 1), (35, .if_icmp .ge 19, 3), (38, .aload_n 0, 1), (39, .getfield 7, 3), (42, .bipush 110, 2), (44, .iconst 3, 1), (45, .iload_n 1, 1), (46, .imul, 1), (47, .iadd, 1), (48, .iload_n 2, 1), (49, .iadd, 1), (50, .iaload, 1), (51, .goto 16, 3), (54, .aload_n 0, 1), (55, .iload_n 1, 1), (56, .invokevirtual 366, 3), (59, .ifCond .eq 7, 3), (62, .iconst 1, 1), (63, .goto 4, 3), (66, .iconst 0, 1), (67, .ireturn, 1)]
def kX11_front : List (Nat × Instr × Nat) := [(0, .iconst 0, 1), (1, .istore_n 1, 1), (2, .iconst 0, 1), (3, .istore_n 2, 1), (4, .iload_n 2, 1), (5, .aload_n 0, 1), (6, .getfield 7, 3), (9, .iconst 3, 1), (10, .iaload, 1), (11, .if_icmp .ge 27, 3), (14, .iload_n 1, 1), (15, .aload_n 0, 1), (16, .iload_n 2, 1), (17, .invokevirtual 366, 3), (20, .ifCond .eq 7, 3), (23, .iconst 0, 1), (24, .goto 6, 3), (27, .iconst 1, 1), (28, .iload_n 2, 1), (29, .ishl, 1), (30, .ior, 1), (31, .istore_n 1, 1), (32, .iinc 2 1, 3), (35, .goto (-31), 3), (38, .iload_n 1, 1), (39, .ireturn, 1)]
def kX11_isSheet : List (Nat × Instr × Nat) := [(0, .iload_n 0, 1), (1, .i2l, 1), (2, .lconst 0, 1), (3, .ldc2_w 240, 3), (6, .invokestatic 77, 3), (9, .ireturn, 1)]
def kX11_sheet : List (Nat × Instr × Nat) := [(0, .iload_n 1, 1), (1, .invokestatic 369, 3), (4, .ifCond .eq 27, 3), (7, .iload_n 2, 1), (8, .i2l, 1), (9, .ldc2_w 372, 3), (12, .ldc2_w 191, 3), (15, .invokestatic 77, 3), (18, .ifCond .eq 13, 3), (21, .iload_n 2, 1), (22, .ifCond .lt 12, 3), (25, .iload_n 3, 1), (26, .bipush 24, 2), (28, .if_icmp .le 6, 3), (31, .ldc 152, 2), (33, .ireturn, 1), (34, .iload_n 2, 1), (35, .ifCond .lt 11, 3), (38, .iload_n 3, 1), (39, .ifCond .ge 7, 3), (42, .ldc_w 374, 3), (45, .ireturn, 1), (46, .aload_n 0, 1), (47, .getfield 22, 3), (50, .iload_n 1, 1), (51, .iload_n 2, 1), (52, .iastore, 1), (53, .aload_n 0, 1), (54, .getfield 25, 3), (57, .iload_n 1, 1), (58, .iload_n 2, 1), (59, .ifCond .ge 7, 3), (62, .iconst 0, 1), (63, .goto 4, 3), (66, .iload_n 3, 1), (67, .iastore, 1), (68, .iconst 0, 1), (69, .istore 4, 2), (71, .iload 4, 2), (73, .bipush 24, 2), (75, .if_icmp .ge 22, 3), (78, .aload_n 0, 1), (79, .getfield 28, 3), (82, .bipush 24, 2), (84, .iload_n 1, 1), (85, .imul, 1), (86, .iload 4, 2), (88, .iadd, 1), (89, .iconst 0, 1), (90, .iastore, 1), (91, .iinc 4 1, 3), (94, .goto (-23), 3), (97, .aload_n 0, 1), (98, .getfield 25, 3), (101, .iload_n 1, 1), (102, .iaload, 1), (103, .ireturn, 1)]
def kX11_mark : List (Nat × Instr × Nat) := [(0, .iload_n 1, 1), (1, .invokestatic 369, 3), (4, .ifCond .ne 6, 3), (7, .ldc 152, 2), (9, .ireturn, 1), (10, .aload_n 0, 1), (11, .getfield 22, 3), (14, .iload_n 1, 1), (15, .iaload, 1), (16, .ifCond .ge 7, 3), (19, .ldc_w 375, 3), (22, .ireturn, 1), (23, .iload_n 2, 1), (24, .i2l, 1), (25, .lconst 0, 1), (26, .aload_n 0, 1), (27, .getfield 25, 3), (30, .iload_n 1, 1), (31, .iaload, 1), (32, .iconst 1, 1), (33, .isub, 1), (34, .i2l, 1), (35, .invokestatic 77, 3), (38, .ifCond .ne 7, 3), (41, .ldc_w 376, 3), (44, .ireturn, 1), (45, .aload_n 0, 1), (46, .getfield 28, 3), (49, .bipush 24, 2), (51, .iload_n 1, 1), (52, .imul, 1), (53, .iload_n 2, 1), (54, .iadd, 1), (55, .iaload, 1), (56, .istore 4, 2), (58, .aload_n 0, 1), (59, .getfield 28, 3), (62, .bipush 24, 2), (64, .iload_n 1, 1), (65, .imul, 1), (66, .iload_n 2, 1), (67, .iadd, 1), (68, .aload_n 0, 1), (69, .getfield 22, 3), (72, .iload_n 1, 1), (73, .iaload, 1), (74, .ifCond .ne 13, 3), (77, .iload_n 3, 1), (78, .bipush 16, 2), (80, .ishl, 1), (81, .bipush 16, 2), (83, .ishr, 1), (84, .goto 4, 3), (87, .iload_n 3, 1), (88, .iastore, 1), (89, .iload 4, 2), (91, .ireturn, 1)]
def kX11_powers : List (Nat × Instr × Nat) := [(0, .iload_n 1, 1), (1, .invokestatic 369, 3), (4, .ifCond .ne 6, 3), (7, .ldc 152, 2), (9, .ireturn, 1), (10, .aload_n 0, 1), (11, .getfield 22, 3), (14, .iload_n 1, 1), (15, .iaload, 1), (16, .ifCond .ge 7, 3), (19, .ldc_w 375, 3), (22, .ireturn, 1), (23, .aload_n 0, 1), (24, .getfield 7, 3), (27, .iconst 0, 1), (28, .iaload, 1), (29, .istore_n 3, 1), (30, .iload_n 2, 1), (31, .ifCond .lt 19, 3), (34, .iload_n 2, 1), (35, .i2l, 1), (36, .iload_n 3, 1), (37, .i2l, 1), (38, .ladd, 1), (39, .aload_n 0, 1), (40, .getfield 25, 3), (43, .iload_n 1, 1), (44, .iaload, 1), (45, .i2l, 1), (46, .lcmp, 1), (47, .ifCond .le 7, 3), (50, .ldc_w 376, 3), (53, .ireturn, 1), (54, .iconst 0, 1), (55, .istore 4, 2), (57, .iload 4, 2), (59, .iload_n 3, 1), (60, .if_icmp .ge 37, 3), (63, .aload_n 0, 1), (64, .getfield 28, 3), (67, .bipush 24, 2), (69, .iload_n 1, 1), (70, .imul, 1), (71, .iload_n 2, 1), (72, .iadd, 1), (73, .iload 4, 2), (75, .iadd, 1), (76, .iaload, 1), (77, .i2l, 1), (78, .lconst 0, 1), (79, .ldc2_w 177, 3), (82, .invokestatic 77, 3), (85, .ifCond .ne 6, 3), (88, .ldc 176, 2), (90, .ireturn, 1), (91, .iinc 4 1, 3), (94, .goto (-37), 3), (97, .iconst 0, 1), (98, .istore 4, 2), (100, .iconst 0, 1), (101, .istore 5, 2), (103, .iload 5, 2), (105, .iload_n 3, 1), (106, .if_icmp .ge 54, 3), (109, .aload_n 0, 1), (110, .getfield 28, 3), (113, .bipush 24, 2), (115, .iload_n 1, 1), (116, .imul, 1), (117, .iload_n 2, 1), (118, .iadd, 1), (119, .iload 5, 2), (121, .iadd, 1), (122, .iaload, 1), (123, .istore 6, 2), (125, .iload 4, 2), (127, .aload_n 0, 1), (128, .aload_n 0, 1), (129, .iload 5, 2), (131, .invokevirtual 95, 3), (134, .iconst 3, 1), (135, .iadd, 1), (136, .iload 6, 2), (138, .invokevirtual 179, 3), (141, .iload 6, 2), (143, .if_icmp .ne 7, 3), (146, .iconst 0, 1), (147, .goto 4, 3), (150, .iconst 1, 1), (151, .iadd, 1), (152, .istore 4, 2), (154, .iinc 5 1, 3), (157, .goto (-54), 3), (160, .iload 4, 2), (162, .ireturn, 1)]
def kX11_copy : List (Nat × Instr × Nat) := [(0, .iload_n 1, 1), (1, .invokestatic 369, 3), (4, .ifCond .eq 10, 3), (7, .iload_n 3, 1), (8, .invokestatic 369, 3), (11, .ifCond .ne 6, 3), (14, .ldc 152, 2), (16, .ireturn, 1), (17, .aload_n 0, 1), (18, .getfield 22, 3), (21, .iload_n 1, 1), (22, .iaload, 1), (23, .ifCond .lt 12, 3), (26, .aload_n 0, 1), (27, .getfield 22, 3), (30, .iload_n 3, 1), (31, .iaload, 1), (32, .ifCond .ge 7, 3), (35, .ldc_w 375, 3), (38, .ireturn, 1), (39, .aload_n 0, 1), (40, .getfield 22, 3), (43, .iload_n 1, 1), (44, .iaload, 1), (45, .aload_n 0, 1), (46, .getfield 22, 3), (49, .iload_n 3, 1), (50, .iaload, 1), (51, .if_icmp .eq 6, 3), (54, .ldc 176, 2), (56, .ireturn, 1), (57, .iload_n 2, 1), (58, .ifCond .lt 48, 3), (61, .iload 4, 2), (63, .ifCond .lt 43, 3), (66, .iload 5, 2), (68, .ifCond .lt 38, 3), (71, .iload_n 2, 1), (72, .i2l, 1), (73, .iload 5, 2), (75, .i2l, 1), (76, .ladd, 1), (77, .aload_n 0, 1), (78, .getfield 25, 3), (81, .iload_n 1, 1), (82, .iaload, 1), (83, .i2l, 1), (84, .lcmp, 1), (85, .ifCond .gt 21, 3), (88, .iload 4, 2), (90, .i2l, 1), (91, .iload 5, 2), (93, .i2l, 1), (94, .ladd, 1), (95, .aload_n 0, 1), (96, .getfield 25, 3), (99, .iload_n 3, 1), (100, .iaload, 1), (101, .i2l, 1), (102, .lcmp, 1), (103, .ifCond .le 7, 3), (106, .ldc_w 376, 3), (109, .ireturn, 1), (110, .iconst 0, 1), (111, .istore 6, 2), (113, .iload 6, 2), (115, .iload 5, 2), (117, .if_icmp .ge 30, 3), (120, .aload_n 0, 1), (121, .getfield 67, 3), (124, .iload 6, 2), (126, .aload_n 0, 1), (127, .getfield 28, 3), (130, .bipush 24, 2), (132, .iload_n 1, 1), (133, .imul, 1), (134, .iload_n 2, 1), (135, .iadd, 1), (136, .iload 6, 2), (138, .iadd, 1), (139, .iaload, 1), (140, .iastore, 1), (141, .iinc 6 1, 3), (144, .goto (-31), 3), (147, .iconst 0, 1), (148, .istore 6, 2), (150, .iload 6, 2), (152, .iload 5, 2), (154, .if_icmp .ge 31, 3), (157, .aload_n 0, 1), (158, .getfield 28, 3), (161, .bipush 24, 2), (163, .iload_n 3, 1), (164, .imul, 1), (165, .iload 4, 2), (167, .iadd, 1), (168, .iload 6, 2), (170, .iadd, 1), (171, .aload_n 0, 1), (172, .getfield 67, 3), (175, .iload 6, 2), (177, .iaload, 1), (178, .iastore, 1), (179, .iinc 6 1, 3), (182, .goto (-32), 3), (185, .iload 5, 2), (187, .ireturn, 1)]
def kX11_isSlot : List (Nat × Instr × Nat) := [(0, .iload_n 0, 1), (1, .i2l, 1), (2, .lconst 0, 1), (3, .ldc2_w 182, 3), (6, .invokestatic 77, 3), (9, .ireturn, 1)]
def kX11_lay : List (Nat × Instr × Nat) := [(0, .iload_n 2, 1), (1, .ifCond .eq 33, 3), (4, .iload_n 2, 1), (5, .iconst 3, 1), (6, .if_icmp .eq 28, 3), (9, .iload_n 2, 1), (10, .iconst 1, 1), (11, .if_icmp .ne 11, 3), (14, .aload_n 0, 1), (15, .iload_n 3, 1), (16, .invokevirtual 157, 3), (19, .ifCond .ne 15, 3), (22, .iload_n 2, 1), (23, .iconst 2, 1), (24, .if_icmp .ne 14, 3), (27, .iload_n 3, 1), (28, .invokestatic 369, 3), (31, .ifCond .eq 7, 3), (34, .iconst 1, 1), (35, .goto 4, 3), (38, .iconst 0, 1), (39, .istore 4, 2), (41, .iload_n 1, 1), (42, .invokestatic 377, 3), (45, .ifCond .eq 8, 3), (48, .iload 4, 2), (50, .ifCond .ne 6, 3), (53, .ldc 152, 2), (55, .ireturn, 1), (56, .iload_n 2, 1), (57, .iconst 2, 1), (58, .if_icmp .ne 16, 3), (61, .aload_n 0, 1), (62, .getfield 22, 3), (65, .iload_n 3, 1), (66, .iaload, 1), (67, .ifCond .ge 7, 3), (70, .ldc_w 375, 3), (73, .ireturn, 1), (74, .aload_n 0, 1), (75, .getfield 31, 3), (78, .iload_n 1, 1), (79, .iaload, 1), (80, .istore 5, 2), (82, .aload_n 0, 1), (83, .getfield 31, 3), (86, .iload_n 1, 1), (87, .iload_n 2, 1), (88, .iastore, 1), (89, .aload_n 0, 1), (90, .getfield 34, 3), (93, .iload_n 1, 1), (94, .iload_n 3, 1), (95, .iastore, 1), (96, .iconst 0, 1), (97, .istore 6, 2), (99, .iload_n 2, 1), (100, .iconst 1, 1), (101, .if_icmp .ne 41, 3), (104, .iload 6, 2), (106, .bipush 6, 2), (108, .if_icmp .ge 34, 3), (111, .aload_n 0, 1), (112, .getfield 40, 3), (115, .bipush 24, 2), (117, .iload_n 1, 1), (118, .imul, 1), (119, .iload 6, 2), (121, .iadd, 1), (122, .aload_n 0, 1), (123, .getfield 7, 3), (126, .aload_n 0, 1), (127, .iload_n 3, 1), (128, .invokevirtual 95, 3), (131, .iload 6, 2), (133, .iadd, 1), (134, .iaload, 1), (135, .iastore, 1), (136, .iinc 6 1, 3), (139, .goto (-40), 3), (142, .iload_n 2, 1), (143, .iconst 2, 1), (144, .if_icmp .ne 55, 3), (147, .aload_n 0, 1), (148, .getfield 37, 3), (151, .iload_n 1, 1), (152, .aload_n 0, 1), (153, .getfield 25, 3), (156, .iload_n 3, 1), (157, .iaload, 1), (158, .iastore, 1), (159, .iconst 0, 1), (160, .istore 6, 2), (162, .iload 6, 2), (164, .bipush 24, 2), (166, .if_icmp .ge 33, 3), (169, .aload_n 0, 1), (170, .getfield 40, 3), (173, .bipush 24, 2), (175, .iload_n 1, 1), (176, .imul, 1), (177, .iload 6, 2), (179, .iadd, 1), (180, .aload_n 0, 1), (181, .getfield 28, 3), (184, .bipush 24, 2), (186, .iload_n 3, 1), (187, .imul, 1), (188, .iload 6, 2), (190, .iadd, 1), (191, .iaload, 1), (192, .iastore, 1), (193, .iinc 6 1, 3), (196, .goto (-34), 3), (199, .iload 5, 2), (201, .ireturn, 1)]
def kX11_ask : List (Nat × Instr × Nat) := [(0, .iload_n 1, 1), (1, .invokestatic 377, 3), (4, .ifCond .eq 15, 3), (7, .iload_n 2, 1), (8, .i2l, 1), (9, .lconst 0, 1), (10, .ldc2_w 148, 3), (13, .invokestatic 77, 3), (16, .ifCond .ne 6, 3), (19, .ldc 152, 2), (21, .ireturn, 1), (22, .aload_n 0, 1), (23, .getfield 31, 3), (26, .iload_n 1, 1), (27, .iaload, 1), (28, .ifCond .ne 7, 3), (31, .ldc_w 375, 3), (34, .ireturn, 1), (35, .bipush 24, 2), (37, .iload_n 1, 1), (38, .imul, 1), (39, .istore_n 3, 1), (40, .aload_n 0, 1), (41, .getfield 31, 3), (44, .iload_n 1, 1), (45, .iaload, 1), (46, .iconst 1, 1), (47, .if_icmp .ne 16, 3), (50, .aload_n 0, 1), (51, .getfield 40, 3), (54, .iload_n 3, 1), (55, .iaload, 1), (56, .iload_n 2, 1), (57, .invokestatic 173, 3), (60, .ifCond .ne 6, 3), (63, .ldc 176, 2), (65, .ireturn, 1), (66, .aload_n 0, 1), (67, .getfield 40, 3), (70, .iload_n 3, 1), (71, .iaload, 1), (72, .aload_n 0, 1), (73, .getfield 40, 3), (76, .iload_n 3, 1), (77, .iconst 1, 1), (78, .iadd, 1), (79, .iaload, 1), (80, .aload_n 0, 1), (81, .getfield 40, 3), (84, .iload_n 3, 1), (85, .iconst 2, 1), (86, .iadd, 1), (87, .iaload, 1), (88, .aload_n 0, 1), (89, .getfield 40, 3), (92, .iload_n 3, 1), (93, .iconst 3, 1), (94, .iadd, 1), (95, .iaload, 1), (96, .aload_n 0, 1), (97, .getfield 40, 3), (100, .iload_n 3, 1), (101, .iconst 5, 1), (102, .iadd, 1), (103, .iaload, 1), (104, .invokestatic 163, 3), (107, .ireturn, 1)]
def kX11_item : List (Nat × Instr × Nat) := [(0, .iload_n 1, 1), (1, .invokestatic 377, 3), (4, .ifCond .ne 6, 3), (7, .ldc 152, 2), (9, .ireturn, 1), (10, .aload_n 0, 1), (11, .getfield 31, 3), (14, .iload_n 1, 1), (15, .iaload, 1), (16, .iconst 2, 1), (17, .if_icmp .eq 21, 3), (20, .aload_n 0, 1), (21, .getfield 31, 3), (24, .iload_n 1, 1), (25, .iaload, 1), (26, .ifCond .ne 9, 3), (29, .ldc_w 375, 3), (32, .goto 5, 3), (35, .ldc 176, 2), (37, .ireturn, 1), (38, .iload_n 2, 1), (39, .i2l, 1), (40, .lconst 0, 1), (41, .aload_n 0, 1), (42, .getfield 37, 3), (45, .iload_n 1, 1), (46, .iaload, 1), (47, .iconst 1, 1), (48, .isub, 1), (49, .i2l, 1), (50, .invokestatic 77, 3), (53, .ifCond .eq 17, 3), (56, .aload_n 0, 1), (57, .getfield 40, 3), (60, .bipush 24, 2), (62, .iload_n 1, 1), (63, .imul, 1), (64, .iload_n 2, 1), (65, .iadd, 1), (66, .iaload, 1), (67, .goto 6, 3), (70, .ldc_w 376, 3), (73, .ireturn, 1)]
def kX11_rest : List (Nat × Instr × Nat) := [(0, .iload_n 1, 1), (1, .invokestatic 377, 3), (4, .ifCond .ne 6, 3), (7, .ldc 152, 2), (9, .ireturn, 1), (10, .aload_n 0, 1), (11, .getfield 31, 3), (14, .iload_n 1, 1), (15, .iaload, 1), (16, .iconst 3, 1), (17, .if_icmp .eq 21, 3), (20, .aload_n 0, 1), (21, .getfield 31, 3), (24, .iload_n 1, 1), (25, .iaload, 1), (26, .ifCond .ne 9, 3), (29, .ldc_w 375, 3), (32, .goto 5, 3), (35, .ldc 176, 2), (37, .ireturn, 1), (38, .iload_n 2, 1), (39, .ifCond .ne 8, 3), (42, .ldc 215, 2), (44, .goto 11, 3), (47, .aload_n 0, 1), (48, .getfield 34, 3), (51, .iload_n 1, 1), (52, .iaload, 1), (53, .iload_n 2, 1), (54, .irem, 1), (55, .ireturn, 1)]
def kX11_tell : List (Nat × Instr × Nat) := [(0, .aload_n 0, 1), (1, .getfield 380, 3), (4, .bipush 60, 2), (6, .if_icmp .ne 6, 3), (9, .ldc 153, 2), (11, .ireturn, 1), (12, .aload_n 0, 1), (13, .getfield 70, 3), (16, .aload_n 0, 1), (17, .getfield 380, 3), (20, .iload_n 1, 1), (21, .iastore, 1), (22, .aload_n 0, 1), (23, .dup, 1), (24, .getfield 380, 3), (27, .iconst 1, 1), (28, .iadd, 1), (29, .putfield 380, 3), (32, .aload_n 0, 1), (33, .getfield 380, 3), (36, .ireturn, 1)]
def kX11_setAside : List (Nat × Instr × Nat) := [(0, .iconst 0, 1), (1, .istore_n 3, 1), (2, .iload_n 3, 1), (3, .sipush 2350, 3), (6, .if_icmp .ge 15, 3), (9, .aload_n 2, 1), (10, .iload_n 3, 1), (11, .aload_n 1, 1), (12, .iload_n 3, 1), (13, .iaload, 1), (14, .iastore, 1), (15, .iinc 3 1, 3), (18, .goto (-16), 3), (21, .return_, 1)]
def kX11_check : List (Nat × Instr × Nat) := [(0, .aload_n 0, 1), (1, .getfield 380, 3), (4, .istore_n 2, 1), (5, .aload_n 0, 1), (6, .iconst 0, 1), (7, .putfield 380, 3), (10, .iload_n 1, 1), (11, .i2l, 1), (12, .lconst 1, 1), (13, .ldc2_w 383, 3), (16, .invokestatic 77, 3), (19, .ifCond .ne 6, 3), (22, .ldc 152, 2), (24, .ireturn, 1), (25, .aload_n 0, 1), (26, .getfield 385, 3), (29, .ifCond .eq 12, 3), (32, .aload_n 0, 1), (33, .getfield 13, 3), (36, .iconst 0, 1), (37, .iaload, 1), (38, .ifCond .ne 6, 3), (41, .ldc 215, 2), (43, .ireturn, 1), (44, .aload_n 0, 1), (45, .aload_n 0, 1), (46, .getfield 7, 3), (49, .aload_n 0, 1), (50, .getfield 16, 3), (53, .invokevirtual 389, 3), (56, .aload_n 0, 1), (57, .aload_n 0, 1), (58, .getfield 13, 3), (61, .aload_n 0, 1), (62, .getfield 7, 3), (65, .invokevirtual 389, 3), (68, .iconst 0, 1), (69, .istore_n 3, 1), (70, .iload_n 3, 1), (71, .iload_n 1, 1), (72, .if_icmp .ge 24, 3), (75, .aload_n 0, 1), (76, .iconst 0, 1), (77, .invokevirtual 224, 3), (80, .aload_n 0, 1), (81, .getfield 73, 3), (84, .iload_n 3, 1), (85, .aload_n 0, 1), (86, .invokevirtual 196, 3), (89, .iastore, 1), (90, .iinc 3 1, 3), (93, .goto (-23), 3), (96, .aload_n 0, 1), (97, .aload_n 0, 1), (98, .getfield 16, 3), (101, .aload_n 0, 1), (102, .getfield 7, 3), (105, .invokevirtual 389, 3), (108, .iconst 0, 1), (109, .istore_n 3, 1), (110, .iload_n 3, 1), (111, .iload_n 2, 1), (112, .if_icmp .ge 29, 3), (115, .iload_n 3, 1), (116, .iload_n 1, 1), (117, .if_icmp .ge 24, 3), (120, .aload_n 0, 1), (121, .getfield 70, 3), (124, .iload_n 3, 1), (125, .iaload, 1), (126, .aload_n 0, 1), (127, .getfield 73, 3), (130, .iload_n 3, 1), (131, .iaload, 1), (132, .if_icmp .ne 9, 3), (135, .iinc 3 1, 3), (138, .goto (-28), 3), (141, .iload_n 3, 1), (142, .iload_n 2, 1), (143, .if_icmp .ne 12, 3), (146, .iload_n 3, 1), (147, .iload_n 1, 1), (148, .if_icmp .ne 7, 3), (151, .iconst 0, 1), (152, .goto 6, 3), (155, .iconst 1, 1), (156, .iload_n 3, 1), (157, .iadd, 1), (158, .ireturn, 1)]
def kX11_keep : List (Nat × Instr × Nat) := [(0, .aload_n 0, 1), (1, .iconst 1, 1), (2, .putfield 385, 3), (5, .aload_n 0, 1), (6, .aload_n 0, 1), (7, .getfield 7, 3), (10, .aload_n 0, 1), (11, .getfield 13, 3), (14, .invokevirtual 389, 3), (17, .aload_n 0, 1), (18, .getfield 7, 3), (21, .iconst 0, 1), (22, .iaload, 1), (23, .ireturn, 1)]
def kX11_back : List (Nat × Instr × Nat) := [(0, .aload_n 0, 1), (1, .getfield 385, 3), (4, .ifCond .ne 6, 3), (7, .ldc 215, 2), (9, .ireturn, 1), (10, .aload_n 0, 1), (11, .aload_n 0, 1), (12, .getfield 13, 3), (15, .aload_n 0, 1), (16, .getfield 7, 3), (19, .invokevirtual 389, 3), (22, .aload_n 0, 1), (23, .iconst 0, 1), (24, .putfield 154, 3), (27, .aload_n 0, 1), (28, .getfield 7, 3), (31, .iconst 0, 1), (32, .iaload, 1), (33, .ireturn, 1)]
def kX11_count : List (Nat × Instr × Nat) := [(0, .iconst 0, 1), (1, .istore_n 2, 1), (2, .iload_n 1, 1), (3, .tableswitch 145 0 9 #[53, 60, 67, 74, 110, 117, 122, 128, 133, 138], 53), (56, .aload_n 0, 1), (57, .getfield 7, 3), (60, .iconst 0, 1), (61, .iaload, 1), (62, .ireturn, 1), (63, .aload_n 0, 1), (64, .getfield 7, 3), (67, .iconst 1, 1), (68, .iaload, 1), (69, .ireturn, 1), (70, .aload_n 0, 1), (71, .getfield 7, 3), (74, .iconst 2, 1), (75, .iaload, 1), (76, .ireturn, 1), (77, .iconst 0, 1), (78, .istore_n 3, 1), (79, .iload_n 3, 1), (80, .aload_n 0, 1), (81, .getfield 7, 3), (84, .iconst 2, 1), (85, .iaload, 1), (86, .if_icmp .ge 25, 3), (89, .iload_n 2, 1), (90, .aload_n 0, 1), (91, .iload_n 3, 1), (92, .invokevirtual 363, 3), (95, .ifCond .ne 7, 3), (98, .iconst 0, 1), (99, .goto 4, 3), (102, .iconst 1, 1), (103, .iadd, 1), (104, .istore_n 2, 1), (105, .iinc 3 1, 3), (108, .goto (-29), 3), (111, .iload_n 2, 1), (112, .ireturn, 1), (113, .aload_n 0, 1), (114, .getfield 7, 3), (117, .iconst 3, 1), (118, .iaload, 1), (119, .ireturn, 1), (120, .aload_n 0, 1), (121, .getfield 154, 3), (124, .ireturn, 1), (125, .aload_n 0, 1), (126, .iconst 1, 1), (127, .invokevirtual 120, 3), (130, .ireturn, 1), (131, .aload_n 0, 1), (132, .getfield 380, 3), (135, .ireturn, 1), (136, .aload_n 0, 1), (137, .getfield 259, 3), (140, .ireturn, 1), (141, .aload_n 0, 1), (142, .getfield 7, 3), (145, .iconst 4, 1), (146, .iaload, 1), (147, .ireturn, 1), (148, .ldc 152, 2), (150, .ireturn, 1)]
def kJ6_bitCount_0f7a4 : List (Nat × Instr × Nat) := [(0, .iload_n 0, 1), (1, .iload_n 0, 1), (2, .iconst 1, 1), (3, .iushr, 1), (4, .ldc_w 265, 3), (7, .iand, 1), (8, .isub, 1), (9, .istore_n 0, 1), (10, .iload_n 0, 1), (11, .ldc_w 266, 3), (14, .iand, 1), (15, .iload_n 0, 1), (16, .iconst 2, 1), (17, .iushr, 1), (18, .ldc_w 266, 3), (21, .iand, 1), (22, .iadd, 1), (23, .istore_n 0, 1), (24, .iload_n 0, 1), (25, .iload_n 0, 1), (26, .iconst 4, 1), (27, .iushr, 1), (28, .iadd, 1), (29, .ldc_w 267, 3), (32, .iand, 1), (33, .istore_n 0, 1), (34, .iload_n 0, 1), (35, .iload_n 0, 1), (36, .bipush 8, 2), (38, .iushr, 1), (39, .iadd, 1), (40, .istore_n 0, 1), (41, .iload_n 0, 1), (42, .iload_n 0, 1), (43, .bipush 16, 2), (45, .iushr, 1), (46, .iadd, 1), (47, .istore_n 0, 1), (48, .iload_n 0, 1), (49, .bipush 63, 2), (51, .iand, 1), (52, .ireturn, 1)]
def kL_law : List (Nat × Instr × Nat) := [(0, .new 7, 3), (3, .dup, 1), (4, .invokespecial 9, 3), (7, .astore_n 1, 1), (8, .new 10, 3), (11, .dup, 1), (12, .invokespecial 12, 3), (15, .astore_n 2, 1), (16, .iconst 0, 1), (17, .istore_n 3, 1), (18, .iload_n 3, 1), (19, .aload_n 0, 1), (20, .arraylength, 1), (21, .bipush 6, 2), (23, .isub, 1), (24, .if_icmp .gt 1333, 3), (27, .aload_n 0, 1), (28, .iload_n 3, 1), (29, .iaload, 1), (30, .bipush 63, 2), (32, .iand, 1), (33, .tableswitch 1318 0 38 #[171, 214, 247, 280, 313, 346, 379, 412, 445, 468, 501, 544, 557, 580, 613, 636, 669, 702, 715, 758, 781, 794, 827, 840, 853, 886, 899, 942, 985, 1018, 1081, 1124, 1157, 1190, 1223, 1246, 1269, 1282, 1295], 171), (204, .aload_n 1, 1), (205, .aload_n 0, 1), (206, .iload_n 3, 1), (207, .iconst 1, 1), (208, .iadd, 1), (209, .iaload, 1), (210, .aload_n 0, 1), (211, .iload_n 3, 1), (212, .iconst 2, 1), (213, .iadd, 1), (214, .iaload, 1), (215, .aload_n 0, 1), (216, .iload_n 3, 1), (217, .iconst 3, 1), (218, .iadd, 1), (219, .iaload, 1), (220, .invokevirtual 13, 3), (223, .aload_n 2, 1), (224, .aload_n 0, 1), (225, .iload_n 3, 1), (226, .iconst 1, 1), (227, .iadd, 1), (228, .iaload, 1), (229, .aload_n 0, 1), (230, .iload_n 3, 1), (231, .iconst 2, 1), (232, .iadd, 1), (233, .iaload, 1), (234, .aload_n 0, 1), (235, .iload_n 3, 1), (236, .iconst 3, 1), (237, .iadd, 1), (238, .iaload, 1), (239, .invokevirtual 17, 3), (242, .if_icmp .eq 1109, 3), (245, .iconst 0, 1), (246, .ireturn, 1), (247, .aload_n 1, 1), (248, .aload_n 0, 1), (249, .iload_n 3, 1), (250, .iconst 1, 1), (251, .iadd, 1), (252, .iaload, 1), (253, .aload_n 0, 1), (254, .iload_n 3, 1), (255, .iconst 2, 1), (256, .iadd, 1), (257, .iaload, 1), (258, .invokevirtual 18, 3), (261, .aload_n 2, 1), (262, .aload_n 0, 1), (263, .iload_n 3, 1), (264, .iconst 1, 1), (265, .iadd, 1), (266, .iaload, 1), (267, .aload_n 0, 1), (268, .iload_n 3, 1), (269, .iconst 2, 1), (270, .iadd, 1), (271, .iaload, 1), (272, .invokevirtual 22, 3), (275, .if_icmp .eq 1076, 3), (278, .iconst 0, 1), (279, .ireturn, 1), (280, .aload_n 1, 1), (281, .aload_n 0, 1), (282, .iload_n 3, 1), (283, .iconst 1, 1), (284, .iadd, 1), (285, .iaload, 1), (286, .aload_n 0, 1), (287, .iload_n 3, 1), (288, .iconst 2, 1), (289, .iadd, 1), (290, .iaload, 1), (291, .invokevirtual 23, 3), (294, .aload_n 2, 1), (295, .aload_n 0, 1), (296, .iload_n 3, 1), (297, .iconst 1, 1), (298, .iadd, 1), (299, .iaload, 1), (300, .aload_n 0, 1), (301, .iload_n 3, 1), (302, .iconst 2, 1), (303, .iadd, 1), (304, .iaload, 1), (305, .invokevirtual 26, 3), (308, .if_icmp .eq 1043, 3), (311, .iconst 0, 1), (312, .ireturn, 1), (313, .aload_n 1, 1), (314, .aload_n 0, 1), (315, .iload_n 3, 1), (316, .iconst 1, 1), (317, .iadd, 1), (318, .iaload, 1), (319, .aload_n 0, 1), (320, .iload_n 3, 1), (321, .iconst 2, 1), (322, .iadd, 1), (323, .iaload, 1), (324, .invokevirtual 27, 3), (327, .aload_n 2, 1), (328, .aload_n 0, 1), (329, .iload_n 3, 1), (330, .iconst 1, 1), (331, .iadd, 1), (332, .iaload, 1), (333, .aload_n 0, 1), (334, .iload_n 3, 1), (335, .iconst 2, 1), (336, .iadd, 1), (337, .iaload, 1), (338, .invokevirtual 30, 3), (341, .if_icmp .eq 1010, 3), (344, .iconst 0, 1), (345, .ireturn, 1), (346, .aload_n 1, 1), (347, .aload_n 0, 1), (348, .iload_n 3, 1), (349, .iconst 1, 1), (350, .iadd, 1), (351, .iaload, 1), (352, .aload_n 0, 1), (353, .iload_n 3, 1), (354, .iconst 2, 1), (355, .iadd, 1), (356, .iaload, 1), (357, .invokevirtual 31, 3), (360, .aload_n 2, 1), (361, .aload_n 0, 1), (362, .iload_n 3, 1), (363, .iconst 1, 1), (364, .iadd, 1), (365, .iaload, 1), (366, .aload_n 0, 1), (367, .iload_n 3, 1), (368, .iconst 2, 1), (369, .iadd, 1), (370, .iaload, 1), (371, .invokevirtual 34, 3), (374, .if_icmp .eq 977, 3), (377, .iconst 0, 1), (378, .ireturn, 1), (379, .aload_n 1, 1), (380, .aload_n 0, 1), (381, .iload_n 3, 1), (382, .iconst 1, 1), (383, .iadd, 1), (384, .iaload, 1), (385, .aload_n 0, 1), (386, .iload_n 3, 1), (387, .iconst 2, 1), (388, .iadd, 1), (389, .iaload, 1), (390, .invokevirtual 35, 3), (393, .aload_n 2, 1), (394, .aload_n 0, 1), (395, .iload_n 3, 1), (396, .iconst 1, 1), (397, .iadd, 1), (398, .iaload, 1), (399, .aload_n 0, 1), (400, .iload_n 3, 1), (401, .iconst 2, 1), (402, .iadd, 1), (403, .iaload, 1), (404, .invokevirtual 38, 3), (407, .if_icmp .eq 944, 3), (410, .iconst 0, 1), (411, .ireturn, 1), (412, .aload_n 1, 1), (413, .aload_n 0, 1), (414, .iload_n 3, 1), (415, .iconst 1, 1), (416, .iadd, 1), (417, .iaload, 1), (418, .aload_n 0, 1), (419, .iload_n 3, 1), (420, .iconst 2, 1), (421, .iadd, 1), (422, .iaload, 1), (423, .invokevirtual 39, 3), (426, .aload_n 2, 1), (427, .aload_n 0, 1), (428, .iload_n 3, 1), (429, .iconst 1, 1), (430, .iadd, 1), (431, .iaload, 1), (432, .aload_n 0, 1), (433, .iload_n 3, 1), (434, .iconst 2, 1), (435, .iadd, 1), (436, .iaload, 1), (437, .invokevirtual 42, 3), (440, .if_icmp .eq 911, 3), (443, .iconst 0, 1), (444, .ireturn, 1), (445, .aload_n 1, 1), (446, .aload_n 0, 1), (447, .iload_n 3, 1), (448, .iconst 1, 1), (449, .iadd, 1), (450, .iaload, 1), (451, .aload_n 0, 1), (452, .iload_n 3, 1), (453, .iconst 2, 1), (454, .iadd, 1), (455, .iaload, 1), (456, .invokevirtual 43, 3), (459, .aload_n 2, 1), (460, .aload_n 0, 1), (461, .iload_n 3, 1), (462, .iconst 1, 1), (463, .iadd, 1), (464, .iaload, 1), (465, .aload_n 0, 1), (466, .iload_n 3, 1), (467, .iconst 2, 1), (468, .iadd, 1), (469, .iaload, 1), (470, .invokevirtual 46, 3), (473, .if_icmp .eq 878, 3), (476, .iconst 0, 1), (477, .ireturn, 1), (478, .aload_n 1, 1), (479, .aload_n 0, 1), (480, .iload_n 3, 1), (481, .iconst 1, 1), (482, .iadd, 1), (483, .iaload, 1), (484, .invokevirtual 47, 3), (487, .aload_n 2, 1), (488, .aload_n 0, 1), (489, .iload_n 3, 1), (490, .iconst 1, 1), (491, .iadd, 1), (492, .iaload, 1), (493, .invokevirtual 51, 3), (496, .if_icmp .eq 855, 3), (499, .iconst 0, 1), (500, .ireturn, 1), (501, .aload_n 1, 1), (502, .aload_n 0, 1), (503, .iload_n 3, 1), (504, .iconst 1, 1), (505, .iadd, 1), (506, .iaload, 1), (507, .aload_n 0, 1), (508, .iload_n 3, 1), (509, .iconst 2, 1), (510, .iadd, 1), (511, .iaload, 1), (512, .invokevirtual 52, 3), (515, .aload_n 2, 1), (516, .aload_n 0, 1), (517, .iload_n 3, 1), (518, .iconst 1, 1), (519, .iadd, 1), (520, .iaload, 1), (521, .aload_n 0, 1), (522, .iload_n 3, 1), (523, .iconst 2, 1), (524, .iadd, 1), (525, .iaload, 1), (526, .invokevirtual 55, 3), (529, .if_icmp .eq 822, 3), (532, .iconst 0, 1), (533, .ireturn, 1), (534, .aload_n 1, 1), (535, .aload_n 0, 1), (536, .iload_n 3, 1), (537, .iconst 1, 1), (538, .iadd, 1), (539, .iaload, 1), (540, .aload_n 0, 1), (541, .iload_n 3, 1), (542, .iconst 2, 1), (543, .iadd, 1), (544, .iaload, 1), (545, .aload_n 0, 1), (546, .iload_n 3, 1), (547, .iconst 3, 1), (548, .iadd, 1), (549, .iaload, 1), (550, .invokevirtual 56, 3), (553, .aload_n 2, 1), (554, .aload_n 0, 1), (555, .iload_n 3, 1), (556, .iconst 1, 1), (557, .iadd, 1), (558, .iaload, 1), (559, .aload_n 0, 1), (560, .iload_n 3, 1), (561, .iconst 2, 1), (562, .iadd, 1), (563, .iaload, 1), (564, .aload_n 0, 1), (565, .iload_n 3, 1), (566, .iconst 3, 1), (567, .iadd, 1), (568, .iaload, 1), (569, .invokevirtual 59, 3), (572, .if_icmp .eq 779, 3), (575, .iconst 0, 1), (576, .ireturn, 1), (577, .aload_n 1, 1), (578, .invokevirtual 60, 3), (581, .aload_n 2, 1), (582, .invokevirtual 64, 3), (585, .if_icmp .eq 766, 3), (588, .iconst 0, 1), (589, .ireturn, 1), (590, .aload_n 1, 1), (591, .aload_n 0, 1), (592, .iload_n 3, 1), (593, .iconst 1, 1), (594, .iadd, 1), (595, .iaload, 1), (596, .invokevirtual 65, 3), (599, .aload_n 2, 1), (600, .aload_n 0, 1), (601, .iload_n 3, 1), (602, .iconst 1, 1), (603, .iadd, 1), (604, .iaload, 1), (605, .invokevirtual 68, 3), (608, .if_icmp .eq 743, 3), (611, .iconst 0, 1), (612, .ireturn, 1), (613, .aload_n 1, 1), (614, .aload_n 0, 1), (615, .iload_n 3, 1), (616, .iconst 1, 1), (617, .iadd, 1), (618, .iaload, 1), (619, .aload_n 0, 1), (620, .iload_n 3, 1), (621, .iconst 2, 1), (622, .iadd, 1), (623, .iaload, 1), (624, .invokevirtual 69, 3), (627, .aload_n 2, 1), (628, .aload_n 0, 1), (629, .iload_n 3, 1), (630, .iconst 1, 1), (631, .iadd, 1), (632, .iaload, 1), (633, .aload_n 0, 1), (634, .iload_n 3, 1), (635, .iconst 2, 1), (636, .iadd, 1), (637, .iaload, 1), (638, .invokevirtual 72, 3), (641, .if_icmp .eq 710, 3), (644, .iconst 0, 1), (645, .ireturn, 1), (646, .aload_n 1, 1), (647, .aload_n 0, 1), (648, .iload_n 3, 1), (649, .iconst 1, 1), (650, .iadd, 1), (651, .iaload, 1), (652, .invokevirtual 73, 3), (655, .aload_n 2, 1), (656, .aload_n 0, 1), (657, .iload_n 3, 1), (658, .iconst 1, 1), (659, .iadd, 1), (660, .iaload, 1), (661, .invokevirtual 76, 3), (664, .if_icmp .eq 687, 3), (667, .iconst 0, 1), (668, .ireturn, 1), (669, .aload_n 1, 1), (670, .aload_n 0, 1), (671, .iload_n 3, 1), (672, .iconst 1, 1), (673, .iadd, 1), (674, .iaload, 1), (675, .aload_n 0, 1), (676, .iload_n 3, 1), (677, .iconst 2, 1), (678, .iadd, 1), (679, .iaload, 1), (680, .invokevirtual 77, 3), (683, .aload_n 2, 1), (684, .aload_n 0, 1), (685, .iload_n 3, 1), (686, .iconst 1, 1), (687, .iadd, 1), (688, .iaload, 1), (689, .aload_n 0, 1), (690, .iload_n 3, 1), (691, .iconst 2, 1), (692, .iadd, 1), (693, .iaload, 1), (694, .invokevirtual 80, 3), (697, .if_icmp .eq 654, 3), (700, .iconst 0, 1), (701, .ireturn, 1), (702, .aload_n 1, 1), (703, .aload_n 0, 1), (704, .iload_n 3, 1), (705, .iconst 1, 1), (706, .iadd, 1), (707, .iaload, 1), (708, .aload_n 0, 1), (709, .iload_n 3, 1), (710, .iconst 2, 1), (711, .iadd, 1), (712, .iaload, 1), (713, .invokevirtual 81, 3), (716, .aload_n 2, 1), (717, .aload_n 0, 1), (718, .iload_n 3, 1), (719, .iconst 1, 1), (720, .iadd, 1), (721, .iaload, 1), (722, .aload_n 0, 1), (723, .iload_n 3, 1), (724, .iconst 2, 1), (725, .iadd, 1), (726, .iaload, 1), (727, .invokevirtual 84, 3), (730, .if_icmp .eq 621, 3), (733, .iconst 0, 1), (734, .ireturn, 1), (735, .aload_n 1, 1), (736, .invokevirtual 85, 3), (739, .aload_n 2, 1), (740, .invokevirtual 88, 3), (743, .if_icmp .eq 608, 3), (746, .iconst 0, 1), (747, .ireturn, 1), (748, .aload_n 1, 1), (749, .aload_n 0, 1), (750, .iload_n 3, 1), (751, .iconst 1, 1), (752, .iadd, 1), (753, .iaload, 1), (754, .aload_n 0, 1), (755, .iload_n 3, 1), (756, .iconst 2, 1), (757, .iadd, 1), (758, .iaload, 1), (759, .aload_n 0, 1), (760, .iload_n 3, 1), (761, .iconst 3, 1), (762, .iadd, 1), (763, .iaload, 1), (764, .invokevirtual 89, 3), (767, .aload_n 2, 1), (768, .aload_n 0, 1), (769, .iload_n 3, 1), (770, .iconst 1, 1), (771, .iadd, 1), (772, .iaload, 1), (773, .aload_n 0, 1), (774, .iload_n 3, 1), (775, .iconst 2, 1), (776, .iadd, 1), (777, .iaload, 1), (778, .aload_n 0, 1), (779, .iload_n 3, 1), (780, .iconst 3, 1), (781, .iadd, 1), (782, .iaload, 1), (783, .invokevirtual 92, 3), (786, .if_icmp .eq 565, 3), (789, .iconst 0, 1), (790, .ireturn, 1), (791, .aload_n 1, 1), (792, .aload_n 0, 1), (793, .iload_n 3, 1), (794, .iconst 1, 1), (795, .iadd, 1), (796, .iaload, 1), (797, .invokevirtual 93, 3), (800, .aload_n 2, 1), (801, .aload_n 0, 1), (802, .iload_n 3, 1), (803, .iconst 1, 1), (804, .iadd, 1), (805, .iaload, 1), (806, .invokevirtual 96, 3), (809, .if_icmp .eq 542, 3), (812, .iconst 0, 1), (813, .ireturn, 1), (814, .aload_n 1, 1), (815, .invokevirtual 97, 3), (818, .aload_n 2, 1), (819, .invokevirtual 100, 3), (822, .if_icmp .eq 529, 3), (825, .iconst 0, 1), (826, .ireturn, 1), (827, .aload_n 1, 1), (828, .aload_n 0, 1), (829, .iload_n 3, 1), (830, .iconst 1, 1), (831, .iadd, 1), (832, .iaload, 1), (833, .aload_n 0, 1), (834, .iload_n 3, 1), (835, .iconst 2, 1), (836, .iadd, 1), (837, .iaload, 1), (838, .invokevirtual 101, 3), (841, .aload_n 2, 1), (842, .aload_n 0, 1), (843, .iload_n 3, 1), (844, .iconst 1, 1), (845, .iadd, 1), (846, .iaload, 1), (847, .aload_n 0, 1), (848, .iload_n 3, 1), (849, .iconst 2, 1), (850, .iadd, 1), (851, .iaload, 1), (852, .invokevirtual 104, 3), (855, .if_icmp .eq 496, 3), (858, .iconst 0, 1), (859, .ireturn, 1), (860, .aload_n 1, 1), (861, .invokevirtual 105, 3), (864, .aload_n 2, 1), (865, .invokevirtual 108, 3), (868, .if_icmp .eq 483, 3), (871, .iconst 0, 1), (872, .ireturn, 1), (873, .aload_n 1, 1), (874, .invokevirtual 109, 3), (877, .aload_n 2, 1), (878, .invokevirtual 112, 3), (881, .if_icmp .eq 470, 3), (884, .iconst 0, 1), (885, .ireturn, 1), (886, .aload_n 1, 1), (887, .aload_n 0, 1), (888, .iload_n 3, 1), (889, .iconst 1, 1), (890, .iadd, 1), (891, .iaload, 1), (892, .aload_n 0, 1), (893, .iload_n 3, 1), (894, .iconst 2, 1), (895, .iadd, 1), (896, .iaload, 1), (897, .invokevirtual 113, 3), (900, .aload_n 2, 1), (901, .aload_n 0, 1), (902, .iload_n 3, 1), (903, .iconst 1, 1), (904, .iadd, 1), (905, .iaload, 1), (906, .aload_n 0, 1), (907, .iload_n 3, 1), (908, .iconst 2, 1), (909, .iadd, 1), (910, .iaload, 1), (911, .invokevirtual 116, 3), (914, .if_icmp .eq 437, 3), (917, .iconst 0, 1), (918, .ireturn, 1), (919, .aload_n 1, 1), (920, .invokevirtual 117, 3), (923, .aload_n 2, 1), (924, .invokevirtual 120, 3), (927, .if_icmp .eq 424, 3), (930, .iconst 0, 1), (931, .ireturn, 1), (932, .aload_n 1, 1), (933, .aload_n 0, 1), (934, .iload_n 3, 1), (935, .iconst 1, 1), (936, .iadd, 1), (937, .iaload, 1), (938, .aload_n 0, 1), (939, .iload_n 3, 1), (940, .iconst 2, 1), (941, .iadd, 1), (942, .iaload, 1), (943, .aload_n 0, 1), (944, .iload_n 3, 1), (945, .iconst 3, 1), (946, .iadd, 1), (947, .iaload, 1), (948, .invokevirtual 121, 3), (951, .aload_n 2, 1), (952, .aload_n 0, 1), (953, .iload_n 3, 1), (954, .iconst 1, 1), (955, .iadd, 1), (956, .iaload, 1), (957, .aload_n 0, 1), (958, .iload_n 3, 1), (959, .iconst 2, 1), (960, .iadd, 1), (961, .iaload, 1), (962, .aload_n 0, 1), (963, .iload_n 3, 1), (964, .iconst 3, 1), (965, .iadd, 1), (966, .iaload, 1), (967, .invokevirtual 124, 3), (970, .if_icmp .eq 381, 3), (973, .iconst 0, 1), (974, .ireturn, 1), (975, .aload_n 1, 1), (976, .aload_n 0, 1), (977, .iload_n 3, 1), (978, .iconst 1, 1), (979, .iadd, 1), (980, .iaload, 1), (981, .aload_n 0, 1), (982, .iload_n 3, 1), (983, .iconst 2, 1), (984, .iadd, 1), (985, .iaload, 1), (986, .aload_n 0, 1), (987, .iload_n 3, 1), (988, .iconst 3, 1), (989, .iadd, 1), (990, .iaload, 1), (991, .invokevirtual 125, 3), (994, .aload_n 2, 1), (995, .aload_n 0, 1), (996, .iload_n 3, 1), (997, .iconst 1, 1), (998, .iadd, 1), (999, .iaload, 1), (1000, .aload_n 0, 1), (1001, .iload_n 3, 1), (1002, .iconst 2, 1), (1003, .iadd, 1), (1004, .iaload, 1), (1005, .aload_n 0, 1), (1006, .iload_n 3, 1), (1007, .iconst 3, 1), (1008, .iadd, 1), (1009, .iaload, 1), (1010, .invokevirtual 128, 3), (1013, .if_icmp .eq 338, 3), (1016, .iconst 0, 1), (1017, .ireturn, 1), (1018, .aload_n 1, 1), (1019, .aload_n 0, 1), (1020, .iload_n 3, 1), (1021, .iconst 1, 1), (1022, .iadd, 1), (1023, .iaload, 1), (1024, .aload_n 0, 1), (1025, .iload_n 3, 1), (1026, .iconst 2, 1), (1027, .iadd, 1), (1028, .iaload, 1), (1029, .invokevirtual 129, 3), (1032, .aload_n 2, 1), (1033, .aload_n 0, 1), (1034, .iload_n 3, 1), (1035, .iconst 1, 1), (1036, .iadd, 1), (1037, .iaload, 1), (1038, .aload_n 0, 1), (1039, .iload_n 3, 1), (1040, .iconst 2, 1), (1041, .iadd, 1), (1042, .iaload, 1), (1043, .invokevirtual 132, 3), (1046, .if_icmp .eq 305, 3), (1049, .iconst 0, 1), (1050, .ireturn, 1), (1051, .aload_n 1, 1), (1052, .aload_n 0, 1), (1053, .iload_n 3, 1), (1054, .iconst 1, 1), (1055, .iadd, 1), (1056, .iaload, 1), (1057, .aload_n 0, 1), (1058, .iload_n 3, 1), (1059, .iconst 2, 1), (1060, .iadd, 1), (1061, .iaload, 1), (1062, .aload_n 0, 1), (1063, .iload_n 3, 1), (1064, .iconst 3, 1), (1065, .iadd, 1), (1066, .iaload, 1), (1067, .aload_n 0, 1), (1068, .iload_n 3, 1), (1069, .iconst 4, 1), (1070, .iadd, 1), (1071, .iaload, 1), (1072, .aload_n 0, 1), (1073, .iload_n 3, 1), (1074, .iconst 5, 1), (1075, .iadd, 1), (1076, .iaload, 1), (1077, .invokevirtual 133, 3), (1080, .aload_n 2, 1), (1081, .aload_n 0, 1), (1082, .iload_n 3, 1), (1083, .iconst 1, 1), (1084, .iadd, 1), (1085, .iaload, 1), (1086, .aload_n 0, 1), (1087, .iload_n 3, 1), (1088, .iconst 2, 1), (1089, .iadd, 1), (1090, .iaload, 1), (1091, .aload_n 0, 1), (1092, .iload_n 3, 1), (1093, .iconst 3, 1), (1094, .iadd, 1), (1095, .iaload, 1), (1096, .aload_n 0, 1), (1097, .iload_n 3, 1), (1098, .iconst 4, 1), (1099, .iadd, 1), (1100, .iaload, 1), (1101, .aload_n 0, 1), (1102, .iload_n 3, 1), (1103, .iconst 5, 1), (1104, .iadd, 1), (1105, .iaload, 1), (1106, .invokevirtual 137, 3), (1109, .if_icmp .eq 242, 3), (1112, .iconst 0, 1), (1113, .ireturn, 1), (1114, .aload_n 1, 1), (1115, .aload_n 0, 1), (1116, .iload_n 3, 1), (1117, .iconst 1, 1), (1118, .iadd, 1), (1119, .iaload, 1), (1120, .aload_n 0, 1), (1121, .iload_n 3, 1), (1122, .iconst 2, 1), (1123, .iadd, 1), (1124, .iaload, 1), (1125, .aload_n 0, 1), (1126, .iload_n 3, 1), (1127, .iconst 3, 1), (1128, .iadd, 1), (1129, .iaload, 1), (1130, .invokevirtual 138, 3), (1133, .aload_n 2, 1), (1134, .aload_n 0, 1), (1135, .iload_n 3, 1), (1136, .iconst 1, 1), (1137, .iadd, 1), (1138, .iaload, 1), (1139, .aload_n 0, 1), (1140, .iload_n 3, 1), (1141, .iconst 2, 1), (1142, .iadd, 1), (1143, .iaload, 1), (1144, .aload_n 0, 1), (1145, .iload_n 3, 1), (1146, .iconst 3, 1), (1147, .iadd, 1), (1148, .iaload, 1), (1149, .invokevirtual 141, 3), (1152, .if_icmp .eq 199, 3), (1155, .iconst 0, 1), (1156, .ireturn, 1), (1157, .aload_n 1, 1), (1158, .aload_n 0, 1), (1159, .iload_n 3, 1), (1160, .iconst 1, 1), (1161, .iadd, 1), (1162, .iaload, 1), (1163, .aload_n 0, 1), (1164, .iload_n 3, 1), (1165, .iconst 2, 1), (1166, .iadd, 1), (1167, .iaload, 1), (1168, .invokevirtual 142, 3), (1171, .aload_n 2, 1), (1172, .aload_n 0, 1), (1173, .iload_n 3, 1), (1174, .iconst 1, 1), (1175, .iadd, 1), (1176, .iaload, 1), (1177, .aload_n 0, 1), (1178, .iload_n 3, 1), (1179, .iconst 2, 1), (1180, .iadd, 1), (1181, .iaload, 1), (1182, .invokevirtual 145, 3), (1185, .if_icmp .eq 166, 3), (1188, .iconst 0, 1), (1189, .ireturn, 1), (1190, .aload_n 1, 1), (1191, .aload_n 0, 1), (1192, .iload_n 3, 1), (1193, .iconst 1, 1), (1194, .iadd, 1), (1195, .iaload, 1), (1196, .aload_n 0, 1), (1197, .iload_n 3, 1), (1198, .iconst 2, 1), (1199, .iadd, 1), (1200, .iaload, 1), (1201, .invokevirtual 146, 3), (1204, .aload_n 2, 1), (1205, .aload_n 0, 1), (1206, .iload_n 3, 1), (1207, .iconst 1, 1), (1208, .iadd, 1), (1209, .iaload, 1), (1210, .aload_n 0, 1), (1211, .iload_n 3, 1), (1212, .iconst 2, 1), (1213, .iadd, 1), (1214, .iaload, 1), (1215, .invokevirtual 149, 3), (1218, .if_icmp .eq 133, 3), (1221, .iconst 0, 1), (1222, .ireturn, 1), (1223, .aload_n 1, 1), (1224, .aload_n 0, 1), (1225, .iload_n 3, 1), (1226, .iconst 1, 1), (1227, .iadd, 1), (1228, .iaload, 1), (1229, .aload_n 0, 1), (1230, .iload_n 3, 1), (1231, .iconst 2, 1), (1232, .iadd, 1), (1233, .iaload, 1), (1234, .invokevirtual 150, 3), (1237, .aload_n 2, 1), (1238, .aload_n 0, 1), (1239, .iload_n 3, 1), (1240, .iconst 1, 1), (1241, .iadd, 1), (1242, .iaload, 1), (1243, .aload_n 0, 1), (1244, .iload_n 3, 1), (1245, .iconst 2, 1), (1246, .iadd, 1), (1247, .iaload, 1), (1248, .invokevirtual 153, 3), (1251, .if_icmp .eq 100, 3), (1254, .iconst 0, 1), (1255, .ireturn, 1), (1256, .aload_n 1, 1), (1257, .aload_n 0, 1), (1258, .iload_n 3, 1), (1259, .iconst 1, 1), (1260, .iadd, 1), (1261, .iaload, 1), (1262, .invokevirtual 154, 3), (1265, .aload_n 2, 1), (1266, .aload_n 0, 1), (1267, .iload_n 3, 1), (1268, .iconst 1, 1), (1269, .iadd, 1), (1270, .iaload, 1), (1271, .invokevirtual 157, 3), (1274, .if_icmp .eq 77, 3), (1277, .iconst 0, 1), (1278, .ireturn, 1), (1279, .aload_n 1, 1), (1280, .aload_n 0, 1), (1281, .iload_n 3, 1), (1282, .iconst 1, 1), (1283, .iadd, 1), (1284, .iaload, 1), (1285, .invokevirtual 158, 3), (1288, .aload_n 2, 1), (1289, .aload_n 0, 1), (1290, .iload_n 3, 1), (1291, .iconst 1, 1), (1292, .iadd, 1), (1293, .iaload, 1), (1294, .invokevirtual 161, 3), (1297, .if_icmp .eq 54, 3), (1300, .iconst 0, 1), (1301, .ireturn, 1), (1302, .aload_n 1, 1), (1303, .invokevirtual 162, 3), (1306, .aload_n 2, 1), (1307, .invokevirtual 165, 3), (1310, .if_icmp .eq 41, 3), (1313, .iconst 0, 1), (1314, .ireturn, 1), (1315, .aload_n 1, 1), (1316, .invokevirtual 166, 3), (1319, .aload_n 2, 1), (1320, .invokevirtual 169, 3), (1323, .if_icmp .eq 28, 3), (1326, .iconst 0, 1), (1327, .ireturn, 1), (1328, .aload_n 1, 1), (1329, .aload_n 0, 1), (1330, .iload_n 3, 1), (1331, .iconst 1, 1), (1332, .iadd, 1), (1333, .iaload, 1), (1334, .invokevirtual 170, 3), (1337, .aload_n 2, 1), (1338, .aload_n 0, 1), (1339, .iload_n 3, 1), (1340, .iconst 1, 1), (1341, .iadd, 1), (1342, .iaload, 1), (1343, .invokevirtual 173, 3), (1346, .if_icmp .eq 5, 3), (1349, .iconst 0, 1), (1350, .ireturn, 1), (1351, .iinc 3 6, 3), (1354, .goto (-1336), 3), (1357, .iconst 1, 1), (1358, .ireturn, 1)]
def mKl : List (List (Nat × Instr × Nat)) := [[], kX0_become, kX0_takeFrom, kX0_drawAs, kX0_drawNext, kX0_drawPrevious, kX0_isUnder, kX0_shapes, kX0_wideIn, kX0_highIn, kX0_bentHigh, kX0_room, kX0_worth, kX0_leastWide, kX0_leastHigh, kX0_ofItself, kX0_sharedAcross, kX0_sharedUp, kX0_touches, kX0_liesOver, [], kX1_takeFrom, kX1_has, kX1_addBlock, kX1_addNet, kX1_settle, kX1_seat, kX1_waste, kX1_blocksAbove, kX1_wireOf, kX1_wires, kX1_guessOf, kX1_wholeRoot, kX1_price, kX1_canDo, kX1_doMove, kX1_undoMove, kX1_stepFrom, kX1_roomsOn, kX1_greatestLeastWide, kX1_greatestLeastHigh, kX1_growsOf, kX1_reachBehind, kX1_heatOf, kX1_hottestBlock, kX1_greatestHeat, [], kX2_takeFrom, kX2_add, kX2_isBeaten, kX2_beats, [], kX3_addFour, kX3_readText, kX3_readHead, kX3_readOr, kX3_readAnd, kX3_readTest, kX3_readSum, kX3_readTerm, kX3_readPiece, kX3_readNot, kX3_readOpen, kX3_readNumber, kX3_readName, kX3_advance, kX3_sortOf, kX3_isWord, [], kX4_leastPrice, kX4_holdRows, kX4_firstOrder, kX4_nextOrder, [], kX5_become, kX5_takeFrom, kX5_hasRun, kX5_put, [], kX6_findingFor, [], kX7_addWish, kX7_takeFrom, [], kX8_forget, kX8_note, kX8_takeBack, [], kX9_begin, kX9_takeFrom, kX9_addNumber, kX9_addName, kX9_addSign, kX9_add, kX9_isOfAll, kX9_valueOn, kX9_push, kX9_negate, kX9_join, kX9_worked, kX9_truth, kX9_nameOfAll, kX9_nameOfBlock, [], kX10_block, kX10_told, kX10_as, kX10_power, kX10_rule, kX10_net, kX10_wire, kX10_at, kX10_whole, kX10_stands, kX10_move, kX10_undo, kX10_seed, kX10_walk, kX10_bound, kX10_best, kX10_touch, kX10_hottest, kX10_feed, kX10_trim, kX10_wish, kX10_of, kX10_missed, kX10_stow, kX10_stowed, kX10_front, kX10_sheet, kX10_mark, kX10_powers, kX10_copy, kX10_lay, kX10_ask, kX10_item, kX10_rest, kX10_tell, kX10_check, kX10_keep, kX10_back, kX10_count, kX10_metWishes, kX10_takePowers, kX10_swap, kX10_within, kX10_isKind, kX10_isPower, kX10_isSheet, kX10_isSlot, [], kX11_isIn, kX11_orNone, kX11_least, kX11_most, kX11_becomes, kX11_blockAt, kX11_textAt, kX11_isBlock, kX11_isText, kX11_shapesOf, kX11_isSoft, kX11_widthOf, kX11_heightOf, kX11_roomOf, kX11_worthOf, kX11_width, kX11_height, kX11_room, kX11_isAlike, kX11_findPlaces, kX11_onLayer, kX11_waste, kX11_wireOf, kX11_wires, kX11_priceNow, kX11_behind, kX11_growsOf, kX11_over, kX11_doTouch, kX11_heatOf, kX11_hottestNow, kX11_block, kX11_told, kX11_isOf, kX11_as, kX11_power, kX11_rule, kX11_ones, kX11_net, kX11_guessOf, kX11_wire, kX11_at, kX11_whole, kX11_placeIn, kX11_stands, kX11_swap, kX11_doMove, kX11_undoMove, kX11_isStuck, kX11_move, kX11_undo, kX11_seed, kX11_oneStep, kX11_walk, kX11_roomOn, kX11_leastOf, kX11_timesItself, kX11_tellRow, kX11_leastPrice, kX11_bound, kX11_best, kX11_touch, kX11_hottest, kX11_feed, kX11_trim, kX11_isLetter, kX11_isDigit, kX11_next, kX11_isSign, kX11_isWordAt, kX11_isLong, kX11_key, kX11_isName, kX11_step, kX11_either, kX11_both, kX11_test, kX11_sum, kX11_term, kX11_part0, kX11_parse, kX11_wish, kX11_joined, kX11_worked, kX11_givenBy, kX11_of, kX11_missed, kX11_stow, kX11_isBeaten, kX11_stowed, kX11_front, kX11_isSheet, kX11_sheet, kX11_mark, kX11_powers, kX11_copy, kX11_isSlot, kX11_lay, kX11_ask, kX11_item, kX11_rest, kX11_tell, kX11_setAside, kX11_check, kX11_keep, kX11_back, kX11_count, kJ6_bitCount_0f7a4, [], [], []]
end
section
def sw_is (i : Instr) : Bool := match i with
  | .tableswitch _ _ _ _ => true
  | .lookupswitch _ _ => true
  | _ => false
def il (i : Instr) : Nat := match i with
  | .bipush _ => 2
  | .iload _ => 2
  | .aload _ => 2
  | .lload _ => 2
  | .istore _ => 2
  | .astore _ => 2
  | .ldc _ => 2
  | .sipush _ => 3
  | .iinc _ _ => 3
  | .ldc_w _ => 3
  | .ldc2_w _ => 3
  | .goto _ => 3
  | .if_icmp _ _ => 3
  | .ifCond _ _ => 3
  | .getfield _ => 3
  | .putfield _ => 3
  | .getstatic _ => 3
  | .invokevirtual _ => 3
  | .invokestatic _ => 3
  | .invokespecial _ => 3
  | .new _ => 3
  | .anewarray _ => 3
  | .newarray _ => 2
  | _ => 1
def kok (cc : ByteArray) (K : List (Nat × Instr × Nat)) : Prop := ∀ q ∈ K, decode cc q.1 = .ok (q.2.1, q.2.2) ∧ (sw_is q.2.1 || q.2.2 == il q.2.1) = true
theorem t1 : kok cX0_become kX0_become := by unfold kok; decide +kernel
end
section
abbrev Sg : Type := Nat → Nat → Int32
abbrev AV : Type := Nat × Value
abbrev LO : Type := List (Option AV)
abbrev AS : Type := Nat × LO × List AV × Sg
def up (σ : Sg) (c k : Nat) (v : Int32) : Sg := fun q j => if q = c then (if j = k then v else σ q j) else σ q j
def cpy (σ : Sg) (c d sp dp n : Nat) : Sg := fun q j => if q = d then (if dp ≤ j ∧ j < dp + n then σ c (sp + (j - dp)) else σ q j) else σ q j
def kd (c : Nat) : Nat := match Nat.blt c 173 with
  | true => kdl.getD c 0
  | false => if 900 ≤ c ∧ c < 904 then 32 else if 950 ≤ c ∧ c < 954 then 30 else if c = 990 then 33 else 0
def rt (c k : Nat) : Nat := (rtl.getD c []).getD k 0
def ftg (t k : Nat) : Nat := (ftl.getD (t - 1) []).getD k 0
def fbo (t k : Nat) : Nat := (fbl.getD (t - 1) []).getD k 0
def aln (L c : Nat) : Nat := match Nat.blt c 173 with
  | true => lnl.getD c 0
  | false => match Nat.beq c 990 with
    | true => L
    | false => [6, 5, 5, 5].getD (c - 900) 0
def look (l : List (Nat × Nat × Nat × Nat)) (i : Nat) : Option (Nat × Nat) := match l with
  | [] => none
  | q :: r => match Nat.beq q.1 i with
    | true => some (q.2.1, q.2.2.1)
    | false => look r i
def lookK (l : List (Nat × Int32 × Nat)) (i : Nat) : Option Int32 := match l with
  | [] => none
  | q :: r => match Nat.beq q.1 i with
    | true => some q.2.1
    | false => lookK r i
def lookL (l : List (Nat × Int64 × Nat)) (i : Nat) : Option Int64 := match l with
  | [] => none
  | q :: r => match Nat.beq q.1 i with
    | true => some q.2.1
    | false => lookL r i
def lookS (l : List (Nat × Nat × Nat)) (i : Nat) : Option Nat := match l with
  | [] => none
  | q :: r => match Nat.beq q.1 i with
    | true => some q.2.1
    | false => lookS r i
def fr (ow i : Nat) : Option (Nat × Nat) := look (frl.getD ow []) i
def mr (ow i : Nat) : Option (Nat × Nat) := look (mrl.getD ow []) i
def gr (ow i : Nat) : Option (Nat × Nat) := look (grl.getD ow []) i
def kr (ow i : Nat) : Option Int32 := lookK (krl.getD ow []) i
def lr (ow i : Nat) : Option Int64 := lookL (lrl.getD ow []) i
def sr (ow i : Nat) : Option Nat := lookS (srl.getD ow []) i
def inb (i : Int32) (n : Nat) : Bool := !(decide (i < 0)) && Nat.blt i.toNatClampNeg n
theorem inb_iff {i : Int32} {n : Nat} : inb i n = true ↔ vp_in i n := by
  unfold inb vp_in
  simp only [Bool.and_eq_true, Bool.not_eq_true', decide_eq_false_iff_not, not_or, Nat.not_le]
  constructor
  · intro h; exact ⟨h.1, by simpa [Nat.blt_eq] using h.2⟩
  · intro h; exact ⟨h.1, by simpa [Nat.blt_eq] using h.2⟩
def lg (l : LO) (n : Nat) : Option AV := match l, n with
  | [], _ => none
  | a :: _, 0 => a
  | _ :: r, n + 1 => lg r n
def lst (l : LO) (n : Nat) (v : AV) : LO := match l, n with
  | [], _ => []
  | _ :: r, 0 => some v :: r
  | a :: r, n + 1 => a :: lst r n v
def noL (l : LO) : Bool := match l with
  | [] => true
  | some v :: r => Nat.beq v.2.category 1 && noL r
  | none :: r => noL r
def lle (l : LO) : Nat := match l with
  | [] => 0
  | _ :: r => lle r + 1
def jt (pc : Nat) (off : Int) : Nat := ((pc : Int) + off).toNat
def jok (pc : Nat) (off : Int) : Bool := decide (0 ≤ (pc : Int) + off)
def e_push (v : AV) (n pc : Nat) (lo : LO) (st : List AV) (σ : Sg) : Option AS := some (pc + n, lo, v :: st, σ)
def e_iload (i n pc : Nat) (lo : LO) (st : List AV) (σ : Sg) : Option AS := match lg lo i with
  | some (t, .int x) => some (pc + n, lo, (t, .int x) :: st, σ)
  | _ => none
def e_lload (i n pc : Nat) (lo : LO) (st : List AV) (σ : Sg) : Option AS := match lg lo i with
  | some (t, .long x) => some (pc + n, lo, (t, .long x) :: st, σ)
  | _ => none
def e_aload (i n pc : Nat) (lo : LO) (st : List AV) (σ : Sg) : Option AS := match lg lo i with
  | some (t, .ref x) => some (pc + n, lo, (t, .ref x) :: st, σ)
  | _ => none
def e_istore (i n pc : Nat) (lo : LO) (st : List AV) (σ : Sg) : Option AS := match st with
  | (t, .int x) :: r => match noL lo && Nat.blt i (lle lo) with
    | true => some (pc + n, lst lo i (t, .int x), r, σ)
    | false => none
  | _ => none
def e_astore (i n pc : Nat) (lo : LO) (st : List AV) (σ : Sg) : Option AS := match st with
  | (t, .ref x) :: r => match noL lo && Nat.blt i (lle lo) with
    | true => some (pc + n, lst lo i (t, .ref x), r, σ)
    | false => none
  | _ => none
def e_iinc (i : Nat) (k : Int) (pc : Nat) (lo : LO) (st : List AV) (σ : Sg) : Option AS := match lg lo i with
  | some (_, .int x) => match noL lo && Nat.blt i (lle lo) with
    | true => some (pc + 3, lst lo i (0, .int (x + Int32.ofInt k)), st, σ)
    | false => none
  | _ => none
def e_un (f : Int32 → Int32) (pc : Nat) (lo : LO) (st : List AV) (σ : Sg) : Option AS := match st with
  | (_, .int x) :: r => some (pc + 1, lo, (0, .int (f x)) :: r, σ)
  | _ => none
def e_bin (f : Int32 → Int32 → Int32) (pc : Nat) (lo : LO) (st : List AV) (σ : Sg) : Option AS := match st with
  | (_, .int y) :: (_, .int x) :: r => some (pc + 1, lo, (0, .int (f x y)) :: r, σ)
  | _ => none
def e_div (f : Int32 → Int32 → Int32) (pc : Nat) (lo : LO) (st : List AV) (σ : Sg) : Option AS := match st with
  | (_, .int y) :: (_, .int x) :: r => if y = 0 then none else some (pc + 1, lo, (0, .int (f x y)) :: r, σ)
  | _ => none
def e_i2l (pc : Nat) (lo : LO) (st : List AV) (σ : Sg) : Option AS := match st with
  | (_, .int x) :: r => some (pc + 1, lo, (0, .long x.toInt64) :: r, σ)
  | _ => none
def e_ladd (pc : Nat) (lo : LO) (st : List AV) (σ : Sg) : Option AS := match st with
  | (_, .long y) :: (_, .long x) :: r => some (pc + 1, lo, (0, .long (x + y)) :: r, σ)
  | _ => none
def e_lcmp (pc : Nat) (lo : LO) (st : List AV) (σ : Sg) : Option AS := match st with
  | (_, .long y) :: (_, .long x) :: r => some (pc + 1, lo, (0, .int (lg_cmp x y)) :: r, σ)
  | _ => none
def e_dup (pc : Nat) (lo : LO) (st : List AV) (σ : Sg) : Option AS := match st with
  | (t, .ref x) :: r => some (pc + 1, lo, (t, .ref x) :: (t, .ref x) :: r, σ)
  | (t, .int x) :: r => some (pc + 1, lo, (t, .int x) :: (t, .int x) :: r, σ)
  | _ => none
def e_dup2 (pc : Nat) (lo : LO) (st : List AV) (σ : Sg) : Option AS := match st with
  | (u, .int y) :: (t, .ref x) :: r => some (pc + 1, lo, (u, .int y) :: (t, .ref x) :: (u, .int y) :: (t, .ref x) :: r, σ)
  | _ => none
def e_pop (pc : Nat) (lo : LO) (st : List AV) (σ : Sg) : Option AS := match st with
  | (_, .int _) :: r => some (pc + 1, lo, r, σ)
  | _ => none
def e_goto (off : Int) (pc : Nat) (lo : LO) (st : List AV) (σ : Sg) : Option AS := match jok pc off with
  | true => some (jt pc off, lo, st, σ)
  | false => none
def e_if (o : Jvm.ClassFile.Cond) (off : Int) (pc : Nat) (lo : LO) (st : List AV) (σ : Sg) : Option AS := match st with
  | (_, .int x) :: r => match jok pc off with
    | false => none
    | true => match o with
      | .eq => if x = 0 then some (jt pc off, lo, r, σ) else some (pc + 3, lo, r, σ)
      | .ne => if x = 0 then some (pc + 3, lo, r, σ) else some (jt pc off, lo, r, σ)
      | .lt => if x < 0 then some (jt pc off, lo, r, σ) else some (pc + 3, lo, r, σ)
      | .ge => if 0 ≤ x then some (jt pc off, lo, r, σ) else some (pc + 3, lo, r, σ)
      | .gt => if 0 < x then some (jt pc off, lo, r, σ) else some (pc + 3, lo, r, σ)
      | .le => if x ≤ 0 then some (jt pc off, lo, r, σ) else some (pc + 3, lo, r, σ)
  | _ => none
def e_icmp (o : Jvm.ClassFile.Cond) (off : Int) (pc : Nat) (lo : LO) (st : List AV) (σ : Sg) : Option AS := match st with
  | (_, .int y) :: (_, .int x) :: r => match jok pc off with
    | false => none
    | true => match o with
      | .eq => if x = y then some (jt pc off, lo, r, σ) else some (pc + 3, lo, r, σ)
      | .ne => if x = y then some (pc + 3, lo, r, σ) else some (jt pc off, lo, r, σ)
      | .lt => if x < y then some (jt pc off, lo, r, σ) else some (pc + 3, lo, r, σ)
      | .ge => if y ≤ x then some (jt pc off, lo, r, σ) else some (pc + 3, lo, r, σ)
      | .gt => if y < x then some (jt pc off, lo, r, σ) else some (pc + 3, lo, r, σ)
      | .le => if x ≤ y then some (jt pc off, lo, r, σ) else some (pc + 3, lo, r, σ)
  | _ => none
def swT (x : Int32) (a d : Int) (pc : Nat) (lo : LO) (r : List AV) (σ : Sg) (os : List Int) : Option AS := match os with
  | [] => match jok pc d with
    | true => some (jt pc d, lo, r, σ)
    | false => none
  | o :: os => if x.toInt = a then (match jok pc o with
    | true => some (jt pc o, lo, r, σ)
    | false => none) else swT x (a + 1) d pc lo r σ os
def swL (x : Int32) (d : Int) (pc : Nat) (lo : LO) (r : List AV) (σ : Sg) (os : List (Int × Int)) : Option AS := match os with
  | [] => match jok pc d with
    | true => some (jt pc d, lo, r, σ)
    | false => none
  | o :: os => if x.toInt = o.1 then (match jok pc o.2 with
    | true => some (jt pc o.2, lo, r, σ)
    | false => none) else swL x d pc lo r σ os
def e_tsw (d a b : Int) (os : Array Int) (pc : Nat) (lo : LO) (st : List AV) (σ : Sg) : Option AS := match st with
  | (_, .int x) :: r => match decide (a + (os.toList.length : Int) = b + 1) with
    | true => swT x a d pc lo r σ os.toList
    | false => none
  | _ => none
def e_lsw (d : Int) (os : Array (Int × Int)) (pc : Nat) (lo : LO) (st : List AV) (σ : Sg) : Option AS := match st with
  | (_, .int x) :: r => match (os.toList.zip (os.toList.drop 1)).all (fun (a, next) => a.1 < next.1) with
    | true => swL x d pc lo r σ os.toList
    | false => none
  | _ => none
def e_get (ow i pc : Nat) (lo : LO) (st : List AV) (σ : Sg) : Option AS := match st with
  | (t, .ref c) :: r => match fr ow i with
    | some (u, k) => match Nat.beq t u with
      | true => match Nat.beq (ftg u k) 0 with
        | true => some (pc + 3, lo, (0, .int (σ c k)) :: r, σ)
        | false => some (pc + 3, lo, (ftg u k, .ref (rt c k)) :: r, σ)
      | false => none
    | none => none
  | _ => none
def e_put (ow i pc : Nat) (lo : LO) (st : List AV) (σ : Sg) : Option AS := match st with
  | (_, .int v) :: (t, .ref c) :: r => match fr ow i with
    | some (u, k) => match Nat.beq t u && Nat.beq (ftg u k) 0 with
      | true => match Nat.beq (fbo u k) 0 || v == 1 with
        | true => some (pc + 3, lo, r, up σ c k v)
        | false => none
      | false => none
    | none => none
  | _ => none
def e_ald (L pc : Nat) (lo : LO) (st : List AV) (σ : Sg) : Option AS := match st with
  | (_, .int i) :: (t, .ref c) :: r => match Nat.beq t 20 || Nat.beq t 32 with
    | true => if inb i (aln 0 c) then some (pc + 1, lo, (0, .int (σ c i.toNatClampNeg)) :: r, σ) else none
    | false => match Nat.beq t 33 with
      | true => if inb i L then some (pc + 1, lo, (0, .int (σ c i.toNatClampNeg)) :: r, σ) else none
      | false => none
  | _ => none
def e_ast (pc : Nat) (lo : LO) (st : List AV) (σ : Sg) : Option AS := match st with
  | (_, .int v) :: (_, .int i) :: (t, .ref c) :: r => match Nat.beq t 20 with
    | true => if inb i (aln 0 c) then some (pc + 1, lo, r, up σ c i.toNatClampNeg v) else none
    | false => none
  | _ => none
def elt (t : Nat) : Nat := [1, 10, 6, 7].getD (t - 21) 0
def e_aal (pc : Nat) (lo : LO) (st : List AV) (σ : Sg) : Option AS := match st with
  | (_, .int i) :: (t, .ref c) :: r => match Nat.ble 21 t && Nat.ble t 24 with
    | true => if inb i (aln 0 c) then some (pc + 1, lo, (elt t, .ref (rt c i.toNatClampNeg)) :: r, σ) else none
    | false => none
  | _ => none
def e_len (L pc : Nat) (lo : LO) (st : List AV) (σ : Sg) : Option AS := match st with
  | (t, .ref c) :: r => match Nat.beq t 33 with
    | true => some (pc + 1, lo, (0, .int (Int32.ofNat L)) :: r, σ)
    | false => match Nat.beq t 20 with
      | true => some (pc + 1, lo, (0, .int (Int32.ofNat (aln 0 c))) :: r, σ)
      | false => none
  | _ => none
def e_gst (ow i pc : Nat) (lo : LO) (st : List AV) (σ : Sg) : Option AS := match gr ow i with
  | some (j, _) => some (pc + 3, lo, (32, .ref (900 + j)) :: st, σ)
  | none => none
def e_ldc (ow i n pc : Nat) (lo : LO) (st : List AV) (σ : Sg) : Option AS := match kr ow i with
  | some v => some (pc + n, lo, (0, .int v) :: st, σ)
  | none => match Nat.beq n 2 with
    | true => match sr ow i with
      | some j => some (pc + n, lo, (30, .ref (950 + j)) :: st, σ)
      | none => none
    | false => none
def e_ldl (ow i pc : Nat) (lo : LO) (st : List AV) (σ : Sg) : Option AS := match lr ow i with
  | some v => some (pc + 3, lo, (0, .long v) :: st, σ)
  | none => none
def cpk (sp dp n : Int32) (a b : Nat) : Bool := !(decide (sp < 0)) && (!(decide (dp < 0)) && (!(decide (n < 0)) && (Nat.ble (sp.toNatClampNeg + n.toNatClampNeg) a && Nat.ble (dp.toNatClampNeg + n.toNatClampNeg) b)))
def rcat (r : List AV) : Nat := match r with
  | [] => 0
  | q :: r => q.2.category + rcat r
def e_ivs (ow i pc : Nat) (lo : LO) (st : List AV) (σ : Sg) : Option AS := match mr ow i with
  | some (3, _) => match st with
    | (_, .int y) :: (_, .int x) :: r => match Nat.ble (rcat r) 8 with
      | true => some (pc + 3, lo, (0, .int (if x < y then y else x)) :: r, σ)
      | false => none
    | _ => none
  | some (4, _) => match st with
    | (_, .int y) :: (_, .int x) :: r => match Nat.ble (rcat r) 8 with
      | true => some (pc + 3, lo, (0, .int (if y < x then y else x)) :: r, σ)
      | false => none
    | _ => none
  | some (5, _) => match st with
    | (_, .int n) :: (_, .int dp) :: (t, .ref d) :: (_, .int sp) :: (u, .ref c) :: r => match Nat.beq t 20 && (Nat.beq u 20 && Nat.ble (rcat r) 8) with
      | true => if cpk sp dp n (aln 0 c) (aln 0 d) then some (pc + 3, lo, r, cpy σ c d sp.toNatClampNeg dp.toNatClampNeg n.toNatClampNeg) else none
      | false => none
    | _ => none
  | _ => none
def ex (L ow : Nat) (i : Instr) (pc : Nat) (lo : LO) (st : List AV) (σ : Sg) : Option AS := match i with
  | .iconst n => e_push (0, .int (Int32.ofInt n)) 1 pc lo st σ
  | .bipush n => e_push (0, .int (Int8.ofInt n).toInt32) 2 pc lo st σ
  | .sipush n => e_push (0, .int (Int16.ofInt n).toInt32) 3 pc lo st σ
  | .lconst n => e_push (0, .long (Int64.ofNat (n : Nat))) 1 pc lo st σ
  | .iload_n n => e_iload n 1 pc lo st σ
  | .iload n => e_iload n 2 pc lo st σ
  | .lload_n n => e_lload n 1 pc lo st σ
  | .lload n => e_lload n 2 pc lo st σ
  | .aload_n n => e_aload n 1 pc lo st σ
  | .aload n => e_aload n 2 pc lo st σ
  | .istore_n n => e_istore n 1 pc lo st σ
  | .istore n => e_istore n 2 pc lo st σ
  | .astore_n n => e_astore n 1 pc lo st σ
  | .astore n => e_astore n 2 pc lo st σ
  | .iinc n k => e_iinc n k pc lo st σ
  | .iadd => e_bin (fun x y => x + y) pc lo st σ
  | .isub => e_bin (fun x y => x - y) pc lo st σ
  | .imul => e_bin (fun x y => x * y) pc lo st σ
  | .iand => e_bin (fun x y => x &&& y) pc lo st σ
  | .ior => e_bin (fun x y => x ||| y) pc lo st σ
  | .ishl => e_bin (fun x y => x <<< (y &&& 31)) pc lo st σ
  | .ishr => e_bin (fun x y => x >>> (y &&& 31)) pc lo st σ
  | .iushr => e_bin (fun x y => (x.toUInt32 >>> (y.toUInt32 &&& Int32.toUInt32 31)).toInt32) pc lo st σ
  | .idiv => e_div (fun x y => x / y) pc lo st σ
  | .irem => e_div (fun x y => x - x / y * y) pc lo st σ
  | .ineg => e_un (fun x => -x) pc lo st σ
  | .i2s => e_un (fun x => x.toInt16.toInt32) pc lo st σ
  | .i2c => e_un (fun x => (x.toUInt32 % 65536).toInt32) pc lo st σ
  | .i2l => e_i2l pc lo st σ
  | .ladd => e_ladd pc lo st σ
  | .lcmp => e_lcmp pc lo st σ
  | .dup => e_dup pc lo st σ
  | .dup2 => e_dup2 pc lo st σ
  | .pop => e_pop pc lo st σ
  | .goto o => e_goto o pc lo st σ
  | .ifCond o k => e_if o k pc lo st σ
  | .if_icmp o k => e_icmp o k pc lo st σ
  | .tableswitch d a b os => e_tsw d a b os pc lo st σ
  | .lookupswitch d os => e_lsw d os pc lo st σ
  | .getfield k => e_get ow k pc lo st σ
  | .putfield k => e_put ow k pc lo st σ
  | .iaload => e_ald L pc lo st σ
  | .iastore => e_ast pc lo st σ
  | .aaload => e_aal pc lo st σ
  | .arraylength => e_len L pc lo st σ
  | .getstatic k => e_gst ow k pc lo st σ
  | .ldc k => e_ldc ow k 2 pc lo st σ
  | .ldc_w k => e_ldc ow k 3 pc lo st σ
  | .ldc2_w k => e_ldl ow k pc lo st σ
  | .invokestatic k => e_ivs ow k pc lo st σ
  | _ => none
def fetch (K : List (Nat × Instr × Nat)) (pc : Nat) : Option Instr := match K with
  | [] => none
  | q :: r => match Nat.beq q.1 pc with
    | true => some q.2.1
    | false => fetch r pc
def ex1 (L ow : Nat) (K : List (Nat × Instr × Nat)) (q : AS) : Option AS := match fetch K q.1 with
  | some i => ex L ow i q.1 q.2.1 q.2.2.1 q.2.2.2
  | none => none
def run (L ow : Nat) (K : List (Nat × Instr × Nat)) (n : Nat) (q : AS) : Option AS := match n with
  | 0 => ex1 L ow K q
  | n + 1 => match ex1 L ow K q with
    | some q' => run L ow K n q'
    | none => none
theorem t_has1 (L : Nat) (c0 : Nat) (x1 : Int32) (σ : Sg) : run L 1 kX1_has 1 (0, [some (2, .ref c0), some (0, .int x1)], [], σ) = if x1 < 0 then some (16, [some (2, .ref c0), some (0, .int x1)], [], σ) else some (4, [some (2, .ref c0), some (0, .int x1)], [], σ) := rfl
theorem t_has2 (L : Nat) (c0 : Nat) (x1 : Int32) (σ : Sg) : run L 1 kX1_has 3 (4, [some (2, .ref c0), some (0, .int x1)], [], σ) = if σ c0 1 ≤ x1 then some (16, [some (2, .ref c0), some (0, .int x1)], [], σ) else some (12, [some (2, .ref c0), some (0, .int x1)], [], σ) := rfl
end
section
def cv (ad : Nat → Nat) (v : AV) : Value := match v.2 with
  | .ref c => .ref (ad c)
  | w => w
def prs (ad : Nat → Nat) (i : Nat) (l : LO) : List (Nat × Value) := match l with
  | [] => []
  | none :: r => prs ad (i + 1) r
  | some v :: r => (i, cv ad v) :: prs ad (i + 1) r
def vok (v : AV) : Prop := ∀ c, v.2 = .ref c → kd c = v.1 ∧ v.1 ≠ 0
def cex (ad : Nat → Nat) (cA : Nat → ClassId) (g : Nat → Int32) (c : Nat) : va_E :=
  if kd c = 20 then .inl (cA 0, aln 0 c, .inl g)
  else if 20 < kd c then .inl (cA (kd c - 20), aln 0 c, .inr (.inr (.inr (.inr (fun i => some (ad (rt c i)))))))
  else .inr (kd c - 1, (List.range (cN (kd c - 1))).map (fun k => if ftg (kd c) k = 0 then .int (g k) else .ref (ad (rt c k))))
def wsl (ad : Nat → Nat) (cA : Nat → ClassId) (σ : Sg) : va_W := (List.range 173).map (fun c => (ad c, cex ad cA (σ c) c))
def tysL (cA : Nat → ClassId) : List (ClassId × FieldType) := [(cA 0, .int), (cA 1, .object RX0), (cA 2, .object RX9), (cA 3, .object RX5), (cA 4, .object RX6)]
def TB : List Cond := lw_tbl.filter goodWord
def snm (j : Nat) : String := ["KIND_ABOVE", "RULE_LEAST", "RULE_MOST", "ORDERS"].getD j ""
def svl : List (List Int32) := [[-1, 0, 0, 2, 1, 0], [0, 0, 0, 0, 1], [9, 9, 9, 99, 240], [1, 1, 2, 6, 24]]
def sva (j i : Nat) : Int32 := (svl.getD j []).getD i 0
def stx (j : Nat) : String := ["all", "block", "whlu", "xywhptg"].getD j ""
def six (j : Nat) : Nat := [43, 53, 94, 96].getD j 0
def slen : List Nat := [3, 5, 4, 7]
def sbyt : List (List Int32) := [[97, 108, 108], [98, 108, 111, 99, 107], [119, 104, 108, 117], [120, 121, 119, 104, 112, 116, 103]]
def NW : List Cond := [.methodLinkNest RX1 128 yX10_swap RX10, .methodLinkNest RX4 70 yX10_swap RX10, .fieldLinkNest RX0 57 RX10 "KIND_ABOVE" "[I" RX10, .fieldLinkNest RX4 44 RX10 "ORDERS" "[I" RX10]
def EX (ad : Nat → Nat) (B0 L : Nat) (xs : Nat → Int32) (U : State) (H : Heap) : Prop :=
  (∀ j, j < 4 → va_Z RX10 (snm j) "[I" (.ref (ad (900 + j))) (fun q => B0 ≤ q) U H ∧ va_T .int (ad (900 + j)) (aln 0 (900 + j)) (fun i => .int (sva j i)) (fun q => B0 ≤ q) U H)
  ∧ (∀ j, j < 4 → vk_R RX3 (six j) (stx j) (ad (950 + j)) U)
  ∧ (∀ w ∈ NW, va_Nw w U)
  ∧ (va_X (ad 990) L xs U H ∧ ad 990 < H.size ∧ ¬ B0 ≤ ad 990)
  ∧ (∃ adV : Nat → Nat, vk_S 4 slen sbyt (fun j => ad (950 + j)) adV (fun q => B0 ≤ q) U H)
  ∧ va_Z "java/lang/String" "COMPACT_STRINGS" "Z" (.int 1) (fun q => B0 ≤ q) U H
  ∧ va_Zq "jdk/internal/util/Preconditions" "SIOOBE_FORMATTER" "Ljava/util/function/BiFunction;" (fun q => B0 ≤ q) U H
def SX (L : Nat) (xs : Nat → Int32) (σ : Sg) : Prop := (∀ j i, j < 4 → i < aln 0 (900 + j) → σ (900 + j) i = sva j i) ∧ ∀ i, i < L → σ 990 i = xs i
def ADok (ad : Nat → Nat) (B0 : Nat) : Prop := (∀ i j, i < 173 → j < 173 → ad i = ad j → i = j) ∧ ∀ i, i < 173 → B0 ≤ ad i
def GD (nL L : Nat) (xs : Nat → Int32) (q : AS) : Prop := q.2.1.length = nL ∧ (∀ v, some v ∈ q.2.1 → vok v) ∧ (∀ v ∈ q.2.2.1, vok v) ∧ SX L xs q.2.2.2
-- facts of the tables
theorem fr_ok : ∀ ow, ow < 12 → ∀ q ∈ frl.getD ow [], lw_tbl[q.2.2.2]? = some (Cond.fieldLink (cR ow) q.1 (cT (q.2.1 - 1) q.2.2.1).1 (cT (q.2.1 - 1) q.2.2.1).2.1 (cT (q.2.1 - 1) q.2.2.1).2.2.1) ∧ q.2.2.1 < cN (q.2.1 - 1) ∧ (1 ≤ q.2.1 ∧ q.2.1 ≤ 12) := by decide +kernel
theorem fr_law : ∀ ow, ow < 17 → 12 ≤ ow → frl.getD ow [] = [] := by decide +kernel
theorem rt_ok : ∀ c, c < 173 → ∀ k, k < cN (kd c - 1) → kd c ≤ 12 → ftg (kd c) k ≠ 0 → kd (rt c k) = ftg (kd c) k := by decide +kernel
theorem rt_ok2 : ∀ c, c < 173 → 21 ≤ kd c → ∀ k, k < aln 0 c → kd (rt c k) = elt (kd c) := by decide +kernel
theorem kd_in : ∀ c, c < 173 → (1 ≤ kd c ∧ kd c ≤ 12) ∨ (20 ≤ kd c ∧ kd c ≤ 24) := by decide +kernel
theorem ft_ok : ∀ t, t < 12 → ∀ k, k < cN t → ftg (t + 1) k = 0 → (cT t k).2.2.2 = false ∧ ((fbo (t + 1) k = 0 ∧ parseFieldDescriptor (cT t k).2.2.1 = some .int) ∨ parseFieldDescriptor (cT t k).2.2.1 = some .boolean) := by decide +kernel
theorem ft_ty : ∀ t, t < 12 → ∀ k, k < cN t → parseFieldDescriptor (cT t k).2.2.1 = some (cTy t k) := by decide +kernel
theorem ft_nm : ∀ t, t < 12 → ∀ a, a < cN t → ∀ b, b < cN t → a ≠ b → (cT t a).2.1 ≠ (cT t b).2.1 := by decide +kernel
theorem cl_at : ∀ t, t < 12 → cl12[t]? = some (cR t, cT t, cN t) := by
  intro t ht
  match t, ht with
  | 0, _ => rfl
  | 1, _ => rfl
  | 2, _ => rfl
  | 3, _ => rfl
  | 4, _ => rfl
  | 5, _ => rfl
  | 6, _ => rfl
  | 7, _ => rfl
  | 8, _ => rfl
  | 9, _ => rfl
  | 10, _ => rfl
  | 11, _ => rfl
  | t + 12, h => exact absurd h (by omega)
def wLl : List (List Nat) := [[149, 151, 153, 155, 157, 159, 161, 163, 165, 167], [204, 206, 208, 210, 212, 214, 216, 218, 220, 222, 224, 226, 228, 230], [249, 251, 253, 255], [356, 358, 360, 362, 364, 366], [309, 311, 313], [381, 383, 385], [406, 408, 410, 412], [286, 288, 290, 292], [328, 330, 332, 334, 336], [269, 271, 273, 275], [426, 428, 430, 432, 434, 436, 438, 440, 442, 444, 446], [1220, 1222, 1224, 1226, 1228, 1230, 1232, 1234, 1236, 1238, 1240, 1242, 1244, 1246, 1248, 1250, 1252, 1254, 1256, 1258, 1260, 1262, 1264, 1266, 1268, 1270, 1272, 1274, 1276, 1278, 1280, 1282, 1284, 1286, 1288, 1290, 1292, 1294, 1296, 1298]]
theorem wl_ok : ∀ t, t < 12 → ∀ k, k < cN t → lw_tbl[(wLl.getD t []).getD k 0]? = some (u_lay (cR t) (cT t) k) := by decide +kernel
theorem fb_ok : ∀ t, t < 12 → ∀ k, k < cN t → ftg (t + 1) k = 0 → parseFieldDescriptor (cT t k).2.2.1 = some .boolean → fbo (t + 1) k ≠ 0 := by decide +kernel
end
section
theorem EX.go {ad : Nat → Nat} {B0 L : Nat} {xs : Nat → Int32} {s U : State} {H H1 : Heap} (h : EX ad B0 L xs s H) (hW : s.WarmedH U.vm) (hz : H.size ≤ H1.size) (hq : ∀ a : Nat, a < H.size → ¬ B0 ≤ a → H1[a]? = H[a]?) : EX ad B0 L xs U H1 := by
  obtain ⟨h1, h2, h3, ⟨h4, h5, h6⟩, ⟨adV, h7⟩, h8, h9⟩ := h
  have ha := hW.alike
  refine ⟨fun j hj => ⟨((h1 j hj).1.moved ha).kept hq, ((h1 j hj).2.moved ha).kept hq⟩, fun j hj => (h2 j hj).warm hW, ?_, ⟨(h4.moved ha).kept (hq _ h5 h6), Nat.lt_of_lt_of_le h5 hz, h6⟩, ⟨adV, (h7.moved ha).kept hq⟩, (h8.moved ha).kept hq, (h9.moved ha).kept hq⟩
  intro w hw
  have h3' := h3 w hw
  simp only [NW, List.mem_cons, List.not_mem_nil, or_false] at hw
  rcases hw with rfl | rfl | rfl | rfl
  · exact va_Nw.warmM hW h3'
  · exact va_Nw.warmM hW h3'
  · exact va_Nw.warmF hW h3'
  · exact va_Nw.warmF hW h3'
theorem kd_lt {c t : Nat} (h : kd c = t) (ht : t ≠ 0) (h1 : t ≤ 24) : c < 173 := by
  unfold kd at h
  by_cases hc : c < 173
  · exact hc
  · have : Nat.blt c 173 = false := by
      cases hb : Nat.blt c 173 with
      | false => rfl
      | true => exact absurd (by simpa [Nat.blt_eq] using hb) hc
    rw [this] at h
    simp only at h
    split at h
    · omega
    · split at h
      · omega
      · split at h <;> omega
theorem aln_w {L c : Nat} (h : c < 173) : aln L c = aln 0 c := by
  unfold aln
  have : Nat.blt c 173 = true := by simpa [Nat.blt_eq] using h
  rw [this]
theorem wsl_get {ad : Nat → Nat} {cA : Nat → ClassId} {σ : Sg} {c : Nat} (h : c < 173) : (wsl ad cA σ)[c]? = some (ad c, cex ad cA (σ c) c) := by
  unfold wsl
  simp [List.getElem?_map, List.getElem?_range h]
theorem wsl_set {ad : Nat → Nat} {cA : Nat → ClassId} {σ σ' : Sg} {c : Nat} (hσ : ∀ q, q ≠ c → σ' q = σ q) : (wsl ad cA σ).set c (ad c, cex ad cA (σ' c) c) = wsl ad cA σ' := by
  apply List.ext_getElem?
  intro j
  rw [List.getElem?_set]
  by_cases hj : j < 173
  · rw [wsl_get hj]
    by_cases e : c = j
    · subst e
      rw [if_pos rfl, if_pos (by simpa [wsl] using hj), wsl_get hj]
    · rw [if_neg e, wsl_get hj, hσ j (fun h => e h.symm)]
  · have h1 : ∀ τ : Sg, (wsl ad cA τ)[j]? = none := fun τ => List.getElem?_eq_none (by simp [wsl]; omega)
    rw [h1 σ, h1 σ']
    by_cases e : c = j
    · rw [if_pos e, if_neg (by simp [wsl]; omega)]
    · rw [if_neg e]
theorem up_row {σ : Sg} {c k : Nat} {v : Int32} : up σ c k v c = upd (σ c) k v := by
  funext j; simp [up, upd]
theorem up_ne {σ : Sg} {c k q : Nat} {v : Int32} (h : q ≠ c) : up σ c k v q = σ q := by
  funext j; simp [up, h]
theorem cpy_row {σ : Sg} {c d sp dp n : Nat} : cpy σ c d sp dp n d = va_cpy (σ c) (σ d) sp dp n := by
  funext j; simp [cpy, va_cpy]
theorem cpy_ne {σ : Sg} {c d sp dp n q : Nat} (h : q ≠ d) : cpy σ c d sp dp n q = σ q := by
  funext j; simp [cpy, h]
theorem SX.ne {L : Nat} {xs : Nat → Int32} {σ σ' : Sg} {c : Nat} (h : SX L xs σ) (hc : c < 173) (hσ : ∀ q, q ≠ c → σ' q = σ q) : SX L xs σ' :=
  ⟨fun j i hj hi => by rw [hσ _ (by omega)]; exact h.1 j i hj hi, fun i hi => by rw [hσ _ (by omega)]; exact h.2 i hi⟩
theorem wslD {ad : Nat → Nat} {cA : Nat → ClassId} {B0 : Nat} (h : ADok ad B0) (σ : Sg) : va_D (fun q => B0 ≤ q) (wsl ad cA σ) := by
  have key : ∀ (i : Nat) (q : Nat × va_E), (wsl ad cA σ)[i]? = some q → i < 173 ∧ q.1 = ad i := by
    intro i q hi
    by_cases h1 : i < 173
    · rw [wsl_get h1] at hi
      exact ⟨h1, by rw [← Option.some.inj hi]⟩
    · rw [List.getElem?_eq_none (by simp [wsl]; omega)] at hi
      cases hi
  refine ⟨fun i j p q hi hj e => ?_, fun k q hk => ?_⟩
  · obtain ⟨i1, i2⟩ := key i p hi
    obtain ⟨j1, j2⟩ := key j q hj
    exact h.1 i j i1 j1 (by rw [← i2, ← j2, e])
  · obtain ⟨k1, k2⟩ := key k q hk
    show B0 ≤ q.1
    rw [k2]; exact h.2 k k1
theorem cex_arr {ad : Nat → Nat} {cA : Nat → ClassId} {g : Nat → Int32} {c : Nat} (h : kd c = 20) : cex ad cA g c = .inl (cA 0, aln 0 c, .inl g) := by simp [cex, h]
theorem cex_ref {ad : Nat → Nat} {cA : Nat → ClassId} {g : Nat → Int32} {c : Nat} (h : 20 < kd c) : cex ad cA g c = .inl (cA (kd c - 20), aln 0 c, .inr (.inr (.inr (.inr (fun i => some (ad (rt c i))))))) := by
  unfold cex
  rw [if_neg (by omega), if_pos h]
def fls (ad : Nat → Nat) (g : Nat → Int32) (c : Nat) : List Value := (List.range (cN (kd c - 1))).map (fun k => if ftg (kd c) k = 0 then .int (g k) else .ref (ad (rt c k)))
theorem cex_obj {ad : Nat → Nat} {cA : Nat → ClassId} {g : Nat → Int32} {c : Nat} (h : kd c ≤ 12) : cex ad cA g c = .inr (kd c - 1, fls ad g c) := by
  unfold cex fls
  rw [if_neg (by omega), if_neg (by omega)]
theorem fls_get {ad : Nat → Nat} {g : Nat → Int32} {c k : Nat} (hk : k < cN (kd c - 1)) : (fls ad g c)[k]? = some (if ftg (kd c) k = 0 then .int (g k) else .ref (ad (rt c k))) := by
  unfold fls
  simp [List.getElem?_map, List.getElem?_range hk]
theorem fls_len {ad : Nat → Nat} {g : Nat → Int32} {c : Nat} : (fls ad g c).length = cN (kd c - 1) := by simp [fls]
theorem fls_set {ad : Nat → Nat} {g : Nat → Int32} {c k : Nat} {v : Int32} (hf : ftg (kd c) k = 0) : (fls ad g c).set k (.int v) = fls ad (upd g k v) c := by
  apply List.ext_getElem?
  intro j
  rw [List.getElem?_set, fls_len]
  by_cases hj : j < cN (kd c - 1)
  · by_cases e : k = j
    · subst e
      rw [if_pos rfl, if_pos hj, fls_get hj, if_pos hf]
      simp [upd]
    · have : upd g k v j = g j := by unfold upd; rw [if_neg (fun h => e h.symm)]
      rw [if_neg e, fls_get hj, fls_get hj, this]
  · rw [List.getElem?_eq_none (l := fls ad (upd g k v) c) (by rw [fls_len]; omega), List.getElem?_eq_none (l := fls ad g c) (by rw [fls_len]; omega)]
    by_cases e : k = j
    · rw [if_pos e, if_neg (by omega)]
    · rw [if_neg e]
theorem lg_mem {lo : LO} {i : Nat} {v : AV} (h : lg lo i = some v) : some v ∈ lo := by
  induction lo generalizing i with
  | nil => simp [lg] at h
  | cons a r ih =>
    cases i with
    | zero => simp [lg] at h; simp [h]
    | succ n => simp [lg] at h; exact List.mem_cons_of_mem _ (ih h)
theorem prs_mem {ad : Nat → Nat} {lo : LO} {i j : Nat} {v : AV} (h : lg lo i = some v) : (j + i, cv ad v) ∈ prs ad j lo := by
  induction lo generalizing i j with
  | nil => simp [lg] at h
  | cons a r ih =>
    cases i with
    | zero =>
      simp [lg] at h
      subst h
      simp [prs]
    | succ n =>
      simp [lg] at h
      have := ih (j := j + 1) h
      rw [show j + 1 + n = j + (n + 1) by omega] at this
      cases a with
      | none => simpa [prs] using this
      | some w => simp [prs, this]
theorem prs_lg {ad : Nat → Nat} {lo : LO} {j : Nat} {q : Nat × Value} (h : q ∈ prs ad j lo) : ∃ i v, q = (j + i, cv ad v) ∧ lg lo i = some v := by
  induction lo generalizing j with
  | nil => simp [prs] at h
  | cons a r ih =>
    cases a with
    | none =>
      simp only [prs] at h
      obtain ⟨i, v, e, hl⟩ := ih h
      exact ⟨i + 1, v, by rw [e]; congr 1; omega, by simpa [lg] using hl⟩
    | some w =>
      simp only [prs, List.mem_cons] at h
      rcases h with h | h
      · exact ⟨0, w, by simpa using h, by simp [lg]⟩
      · obtain ⟨i, v, e, hl⟩ := ih h
        exact ⟨i + 1, v, by rw [e]; congr 1; omega, by simpa [lg] using hl⟩
theorem lst_len {lo : LO} {i : Nat} {v : AV} : (lst lo i v).length = lo.length := by
  induction lo generalizing i with
  | nil => simp [lst]
  | cons a r ih => cases i <;> simp [lst, ih]
theorem lle_len {lo : LO} : lle lo = lo.length := by
  induction lo with
  | nil => rfl
  | cons a r ih => simp [lle, ih]
theorem lst_mem {lo : LO} {i : Nat} {v w : AV} (h : some w ∈ lst lo i v) : w = v ∨ some w ∈ lo := by
  induction lo generalizing i with
  | nil => simp [lst] at h
  | cons a r ih =>
    cases i with
    | zero =>
      simp only [lst, List.mem_cons, Option.some.injEq] at h
      rcases h with h | h
      · exact Or.inl h
      · exact Or.inr (List.mem_cons_of_mem _ h)
    | succ n =>
      simp only [lst, List.mem_cons] at h
      rcases h with h | h
      · exact Or.inr (by rw [h]; exact List.mem_cons_self)
      · rcases ih h with h | h
        · exact Or.inl h
        · exact Or.inr (List.mem_cons_of_mem _ h)
theorem lg_lst {lo : LO} {i j : Nat} {v w : AV} (h : lg (lst lo i v) j = some w) : (j = i ∧ w = v) ∨ (j ≠ i ∧ lg lo j = some w) := by
  induction lo generalizing i j with
  | nil => simp [lst, lg] at h
  | cons a r ih =>
    cases i with
    | zero =>
      cases j with
      | zero => simp [lst, lg] at h; exact Or.inl ⟨rfl, h.symm⟩
      | succ n => simp [lst, lg] at h; exact Or.inr ⟨by omega, by simpa [lg] using h⟩
    | succ i =>
      cases j with
      | zero => simp [lst, lg] at h; exact Or.inr ⟨by omega, by simpa [lg] using h⟩
      | succ n =>
        simp [lst, lg] at h
        rcases ih h with ⟨e, e2⟩ | ⟨e, e2⟩
        · exact Or.inl ⟨by omega, e2⟩
        · exact Or.inr ⟨by omega, by simpa [lg] using e2⟩
theorem noL_lg {lo : LO} {j : Nat} {w : AV} (hn : noL lo = true) (h : lg lo j = some w) : w.2.category = 1 := by
  induction lo generalizing j with
  | nil => simp [lg] at h
  | cons a r ih =>
    cases a with
    | none =>
      cases j with
      | zero => simp [lg] at h
      | succ n => exact ih (by simpa [noL] using hn) (by simpa [lg] using h)
    | some v =>
      simp only [noL, Bool.and_eq_true] at hn
      cases j with
      | zero =>
        simp [lg] at h
        subst h
        exact Nat.eq_of_beq_eq_true hn.1
      | succ n => exact ih hn.2 (by simpa [lg] using h)
theorem lv_sto {ad : Nat → Nat} {ls : Array Slot} {nL i : Nat} {lo : LO} {v : AV} (hn : noL lo = true) (h : lv_has ls nL ((i, cv ad v) :: (prs ad 0 lo).filter (fun q => !(q.1 == i) && !(q.1 + 1 == i && q.2.category == 2)))) : lv_has ls nL (prs ad 0 (lst lo i v)) := by
  refine ⟨h.1, h.2.1, fun q hq => ?_⟩
  obtain ⟨j, w, e, hl⟩ := prs_lg hq
  rcases lg_lst hl with ⟨e1, e2⟩ | ⟨e1, e2⟩
  · subst e1; subst e2
    rw [e, Nat.zero_add]
    exact h.2.2 _ List.mem_cons_self
  · apply h.2.2
    apply List.mem_cons_of_mem
    rw [List.mem_filter]
    rw [e]
    refine ⟨prs_mem e2, ?_⟩
    have hc : (cv ad w).category = 1 := by
      have := noL_lg hn e2
      obtain ⟨t, u⟩ := w
      cases u <;> simp_all [cv, Value.category]
    simp [hc, e1]
theorem jok_eq {pc : Nat} {off : Int} (h : jok pc off = true) : (pc : Int) + off = ((jt pc off : Nat) : Int) := by
  unfold jok at h
  unfold jt
  have := of_decide_eq_true h
  omega
end
section
def FX (p : Program) (R : Room) (s : State) (m : MethodId) (args : Array Value) (c : Code) (nc ns : Nat) (ad : Nat → Nat) (cA : Nat → ClassId) (D : va_G) (B0 L : Nat) (xs : Nat → Int32) (cc : ByteArray) (nL ow : Nat) : Prop :=
  p.tables.exec = Jvm.exec ∧ c.code = cc ∧ c.maxLocals = nL ∧ s.vm.findClass (cR ow) = some m.cls ∧ (∀ w ∈ TB, w.before args s = true) ∧ va_K D cl12 (tysL cA) s ∧ EX ad B0 L xs s s.heap ∧ ADok ad B0 ∧ (1 ≤ R.frames ∧ 64 ≤ R.locals) ∧ nc ≤ R.cells ∧ ns ≤ R.slots ∧ ow < 17 ∧ L < 2 ^ 31
def WT (p : Program) (l : Launch) (e : Env) (R : Room) (s : State) (m : MethodId) (args : Array Value) (below : List Frame) (meth : Method) (c : Code) (nc ns : Nat) (Q : State → Prop) (ad : Nat → Nat) (cA : Nat → ClassId) (D : va_G) (B0 nL : Nat) (q : AS) : Prop :=
  ∀ (H : Heap) (locs : List Loc) (ls : Array Slot), lv_has ls nL (prs ad 0 q.2.1) → va_P D cl12 (wsl ad cA q.2.2.2) H → va_S (fun x => B0 ≤ x) s.heap H locs → W p l e R s m args below meth c H locs nc ns Q (F0 m q.1 ls (q.2.2.1.map (cv ad)))
section STP
variable {p : Program} {l : Launch} {e : Env} {R : Room} {s : State} {m : MethodId} {args : Array Value} {below : List Frame} {meth : Method} {c : Code} {nc ns : Nat} {Q : State → Prop} {ad : Nat → Nat} {cA : Nat → ClassId} {D : va_G} {B0 L : Nat} {xs : Nat → Int32} {cc : ByteArray} {nL ow : Nat}
variable {pc : Nat} {lo : LO} {st : List AV} {σ : Sg} {q' : AS}
theorem vok_i {t : Nat} {x : Int32} : vok (t, .int x) := fun _ h => by cases h
theorem vok_l {t : Nat} {x : Int64} : vok (t, .long x) := fun _ h => by cases h
theorem tb_mem {w : Cond} {i : Nat} (h : lw_tbl[i]? = some w) (hg : goodWord w = true) : w ∈ TB := List.mem_filter.mpr ⟨List.mem_of_getElem? h, hg⟩
theorem GD.push {v : AV} {pc' : Nat} (h : GD nL L xs (pc, lo, st, σ)) (hv : vok v) : GD nL L xs (pc', lo, v :: st, σ) :=
  ⟨h.1, h.2.1, fun w hw => by rcases List.mem_cons.mp hw with rfl | h1; exact hv; exact h.2.2.1 w h1, h.2.2.2⟩
theorem GD.tail {v : AV} (h : GD nL L xs (pc, lo, v :: st, σ)) : GD nL L xs (pc, lo, st, σ) :=
  ⟨h.1, h.2.1, fun w hw => h.2.2.1 w (List.mem_cons_of_mem _ hw), h.2.2.2⟩
theorem GD.head {v : AV} (h : GD nL L xs (pc, lo, v :: st, σ)) : vok v := h.2.2.1 v List.mem_cons_self
theorem GD.at {pc' : Nat} (h : GD nL L xs (pc, lo, st, σ)) : GD nL L xs (pc', lo, st, σ) := h
theorem GD.sto {v : AV} {i pc' : Nat} (h : GD nL L xs (pc, lo, st, σ)) (hv : vok v) : GD nL L xs (pc', lst lo i v, st, σ) :=
  ⟨by rw [← h.1]; exact lst_len, fun w hw => by rcases lst_mem hw with rfl | h1; exact hv; exact h.2.1 w h1, h.2.2.1, h.2.2.2⟩
-- one row for each shape of instruction: 'OKs' is what is shown of each
def OKs (p : Program) (l : Launch) (e : Env) (R : Room) (s : State) (m : MethodId) (args : Array Value) (below : List Frame) (meth : Method) (c : Code) (nc ns : Nat) (Q : State → Prop) (ad : Nat → Nat) (cA : Nat → ClassId) (D : va_G) (B0 L : Nat) (xs : Nat → Int32) (nL : Nat) (q q' : AS) : Prop :=
  GD nL L xs q' ∧ (WT p l e R s m args below meth c nc ns Q ad cA D B0 nL q' → WT p l e R s m args below meth c nc ns Q ad cA D B0 nL q)
theorem ok_push {v : AV} {n : Nat} (hg : GD nL L xs (pc, lo, st, σ)) (h : e_push v n pc lo st σ = some q') (hv : vok v) (row : ∀ (H : Heap) (locs : List Loc) (ls : Array Slot) (rest : List Value), W p l e R s m args below meth c H locs nc ns Q (F0 m (pc + n) ls (cv ad v :: rest)) → W p l e R s m args below meth c H locs nc ns Q (F0 m pc ls rest)) : OKs p l e R s m args below meth c nc ns Q ad cA D B0 L xs nL (pc, lo, st, σ) q' := by
  cases h
  exact ⟨hg.push hv, fun k H locs ls h1 h2 h3 => row H locs ls _ (k H locs ls h1 h2 h3)⟩
theorem ok_load {i n : Nat} {v : AV} (hg : GD nL L xs (pc, lo, st, σ)) (hl : lg lo i = some v) (row : ∀ (H : Heap) (locs : List Loc) (ls : Array Slot) (rest : List Value), ls[i]? = some (.val (cv ad v)) → W p l e R s m args below meth c H locs nc ns Q (F0 m (pc + n) ls (cv ad v :: rest)) → W p l e R s m args below meth c H locs nc ns Q (F0 m pc ls rest)) : OKs p l e R s m args below meth c nc ns Q ad cA D B0 L xs nL (pc, lo, st, σ) (pc + n, lo, v :: st, σ) := by
  refine ⟨hg.push (hg.2.1 v (lg_mem hl)), fun k H locs ls h1 h2 h3 => row H locs ls _ ?_ (k H locs ls h1 h2 h3)⟩
  have := h1.2.2 _ (prs_mem (ad := ad) (j := 0) hl)
  simpa using this
theorem ok_store {i n : Nat} {v : AV} {r : List AV} (hg : GD nL L xs (pc, lo, v :: r, σ)) (hc : (noL lo && Nat.blt i (lle lo)) = true) (row : ∀ (H : Heap) (locs : List Loc) (ls : Array Slot) (rest : List Value) (lv : List (Nat × Value)), lv_has ls nL lv → i < nL → (∀ ls' : Array Slot, lv_has ls' nL ((i, cv ad v) :: lv.filter (fun q => !(q.1 == i) && !(q.1 + 1 == i && q.2.category == 2))) → W p l e R s m args below meth c H locs nc ns Q (F0 m (pc + n) ls' rest)) → W p l e R s m args below meth c H locs nc ns Q (F0 m pc ls (cv ad v :: rest))) : OKs p l e R s m args below meth c nc ns Q ad cA D B0 L xs nL (pc, lo, v :: r, σ) (pc + n, lst lo i v, r, σ) := by
  simp only [Bool.and_eq_true] at hc
  have hi : i < nL := by
    rw [← hg.1, ← lle_len]; simpa [Nat.blt_eq] using hc.2
  refine ⟨hg.tail.sto hg.head, fun k H locs ls h1 h2 h3 => row H locs ls _ _ h1 hi (fun ls' h => k H locs ls' (lv_sto hc.1 h) h2 h3)⟩
theorem ok_un {f : Int32 → Int32} (hg : GD nL L xs (pc, lo, st, σ)) (h : e_un f pc lo st σ = some q') (row : ∀ (H : Heap) (locs : List Loc) (ls : Array Slot) (rest : List Value) (x : Int32), W p l e R s m args below meth c H locs nc ns Q (F0 m (pc + 1) ls (.int (f x) :: rest)) → W p l e R s m args below meth c H locs nc ns Q (F0 m pc ls (.int x :: rest))) : OKs p l e R s m args below meth c nc ns Q ad cA D B0 L xs nL (pc, lo, st, σ) q' := by
  unfold e_un at h
  split at h
  · cases h
    exact ⟨hg.tail.push vok_i, fun k H locs ls h1 h2 h3 => row H locs ls _ _ (k H locs ls h1 h2 h3)⟩
  · cases h
theorem ok_bin {f : Int32 → Int32 → Int32} (hg : GD nL L xs (pc, lo, st, σ)) (h : e_bin f pc lo st σ = some q') (row : ∀ (H : Heap) (locs : List Loc) (ls : Array Slot) (rest : List Value) (x y : Int32), W p l e R s m args below meth c H locs nc ns Q (F0 m (pc + 1) ls (.int (f x y) :: rest)) → W p l e R s m args below meth c H locs nc ns Q (F0 m pc ls (.int y :: .int x :: rest))) : OKs p l e R s m args below meth c nc ns Q ad cA D B0 L xs nL (pc, lo, st, σ) q' := by
  unfold e_bin at h
  split at h
  · cases h
    exact ⟨hg.tail.tail.push vok_i, fun k H locs ls h1 h2 h3 => row H locs ls _ _ _ (k H locs ls h1 h2 h3)⟩
  · cases h
theorem ok_div {f : Int32 → Int32 → Int32} (hg : GD nL L xs (pc, lo, st, σ)) (h : e_div f pc lo st σ = some q') (row : ∀ (H : Heap) (locs : List Loc) (ls : Array Slot) (rest : List Value) (x y : Int32), ¬ y = 0 → W p l e R s m args below meth c H locs nc ns Q (F0 m (pc + 1) ls (.int (f x y) :: rest)) → W p l e R s m args below meth c H locs nc ns Q (F0 m pc ls (.int y :: .int x :: rest))) : OKs p l e R s m args below meth c nc ns Q ad cA D B0 L xs nL (pc, lo, st, σ) q' := by
  unfold e_div at h
  split at h
  · split at h
    · cases h
    · rename_i hy
      cases h
      exact ⟨hg.tail.tail.push vok_i, fun k H locs ls h1 h2 h3 => row H locs ls _ _ _ hy (k H locs ls h1 h2 h3)⟩
  · cases h
theorem ok_if {o : Jvm.ClassFile.Cond} {off : Int} (hx : p.tables.exec = Jvm.exec) (hb : c.code = cc) (hd : decode cc pc = .ok (.ifCond o off, 3)) (hg : GD nL L xs (pc, lo, st, σ)) (h : e_if o off pc lo st σ = some q') : OKs p l e R s m args below meth c nc ns Q ad cA D B0 L xs nL (pc, lo, st, σ) q' := by
  unfold e_if at h
  split at h
  · rename_i t x r
    split at h
    · cases h
    · rename_i hj
      have hj' := jok_eq hj
      cases o
      all_goals (simp only at h; split at h <;> rename_i hc <;> cases h <;> refine ⟨hg.tail, fun k H locs ls h1 h2 h3 => ?_⟩)
      · exact lv_if_eq hx hb hd hj' (fun _ => k H locs ls h1 h2 h3) (fun z => absurd hc z)
      · exact lv_if_eq hx hb hd hj' (fun z => absurd z hc) (fun _ => k H locs ls h1 h2 h3)
      · exact lv_if_ne hx hb hd hj' (fun z => absurd hc z) (fun _ => k H locs ls h1 h2 h3)
      · exact lv_if_ne hx hb hd hj' (fun _ => k H locs ls h1 h2 h3) (fun z => absurd z hc)
      · exact lv_if_lt hx hb hd hj' (fun _ => k H locs ls h1 h2 h3) (fun z => absurd hc z)
      · exact lv_if_lt hx hb hd hj' (fun z => absurd z hc) (fun _ => k H locs ls h1 h2 h3)
      · exact lv_if_ge hx hb hd hj' (fun _ => k H locs ls h1 h2 h3) (fun z => absurd hc z)
      · exact lv_if_ge hx hb hd hj' (fun z => absurd z hc) (fun _ => k H locs ls h1 h2 h3)
      · exact lv_if_gt hx hb hd hj' (fun _ => k H locs ls h1 h2 h3) (fun z => absurd hc z)
      · exact lv_if_gt hx hb hd hj' (fun z => absurd z hc) (fun _ => k H locs ls h1 h2 h3)
      · exact lv_if_le hx hb hd hj' (fun _ => k H locs ls h1 h2 h3) (fun z => absurd hc z)
      · exact lv_if_le hx hb hd hj' (fun z => absurd z hc) (fun _ => k H locs ls h1 h2 h3)
  · cases h
theorem ok_icmp {o : Jvm.ClassFile.Cond} {off : Int} (hx : p.tables.exec = Jvm.exec) (hb : c.code = cc) (hd : decode cc pc = .ok (.if_icmp o off, 3)) (hg : GD nL L xs (pc, lo, st, σ)) (h : e_icmp o off pc lo st σ = some q') : OKs p l e R s m args below meth c nc ns Q ad cA D B0 L xs nL (pc, lo, st, σ) q' := by
  unfold e_icmp at h
  split at h
  · split at h
    · cases h
    · rename_i hj
      have hj' := jok_eq hj
      cases o
      all_goals (simp only at h; split at h <;> rename_i hc <;> cases h <;> refine ⟨hg.tail.tail, fun k H locs ls h1 h2 h3 => ?_⟩)
      · exact lv_icmp_eq hx hb hd hj' (fun _ => k H locs ls h1 h2 h3) (fun z => absurd hc z)
      · exact lv_icmp_eq hx hb hd hj' (fun z => absurd z hc) (fun _ => k H locs ls h1 h2 h3)
      · exact lv_icmp_ne hx hb hd hj' (fun z => absurd hc z) (fun _ => k H locs ls h1 h2 h3)
      · exact lv_icmp_ne hx hb hd hj' (fun _ => k H locs ls h1 h2 h3) (fun z => absurd z hc)
      · exact lv_icmp_lt hx hb hd hj' (fun _ => k H locs ls h1 h2 h3) (fun z => absurd hc z)
      · exact lv_icmp_lt hx hb hd hj' (fun z => absurd z hc) (fun _ => k H locs ls h1 h2 h3)
      · exact lv_icmp_ge hx hb hd hj' (fun _ => k H locs ls h1 h2 h3) (fun z => absurd hc z)
      · exact lv_icmp_ge hx hb hd hj' (fun z => absurd z hc) (fun _ => k H locs ls h1 h2 h3)
      · exact lv_icmp_gt hx hb hd hj' (fun _ => k H locs ls h1 h2 h3) (fun z => absurd hc z)
      · exact lv_icmp_gt hx hb hd hj' (fun z => absurd z hc) (fun _ => k H locs ls h1 h2 h3)
      · exact lv_icmp_le hx hb hd hj' (fun _ => k H locs ls h1 h2 h3) (fun z => absurd hc z)
      · exact lv_icmp_le hx hb hd hj' (fun z => absurd z hc) (fun _ => k H locs ls h1 h2 h3)
  · cases h
theorem look_mem {l : List (Nat × Nat × Nat × Nat)} {i : Nat} {r : Nat × Nat} (h : look l i = some r) : ∃ w, (i, r.1, r.2, w) ∈ l := by
  induction l with
  | nil => simp [look] at h
  | cons q t ih =>
    unfold look at h
    split at h
    · rename_i hb
      have := Nat.eq_of_beq_eq_true hb
      cases h
      exact ⟨q.2.2.2, by rw [← this]; exact List.mem_cons_self⟩
    · obtain ⟨w, hw⟩ := ih h
      exact ⟨w, List.mem_cons_of_mem _ hw⟩
theorem lay_in (t : Nat) (ht : t < 12) : ∀ w ∈ u_ws (cR t) (cT t) (cN t), w ∈ TB := by
  intro w hw
  obtain ⟨k, hk, rfl⟩ := List.mem_map.mp hw
  have hk := List.mem_range.mp hk
  refine tb_mem (wl_ok t ht k hk) ?_
  unfold u_lay
  split <;> rfl
theorem fr_at {i u k : Nat} (how : ow < 17) (h : fr ow i = some (u, k)) : Cond.fieldLink (cR ow) i (cT (u - 1) k).1 (cT (u - 1) k).2.1 (cT (u - 1) k).2.2.1 ∈ TB ∧ k < cN (u - 1) ∧ 1 ≤ u ∧ u ≤ 12 := by
  unfold fr at h
  by_cases h12 : 12 ≤ ow
  · rw [fr_law ow how h12] at h
    cases h
  · obtain ⟨w, hw⟩ := look_mem h
    obtain ⟨h1, h2, h3⟩ := fr_ok ow (by omega) _ hw
    exact ⟨tb_mem h1 rfl, h2, h3⟩
theorem ok_get {i : Nat} (X : FX p R s m args c nc ns ad cA D B0 L xs cc nL ow) (hd : decode cc pc = .ok (.getfield i, 3)) (hg : GD nL L xs (pc, lo, st, σ)) (h : e_get ow i pc lo st σ = some q') : OKs p l e R s m args below meth c nc ns Q ad cA D B0 L xs nL (pc, lo, st, σ) q' := by
  obtain ⟨hx, hb, hml, hown, hts, hK, hE, hA, hR, hc1, hc2, how, hL⟩ := X
  unfold e_get at h
  split at h
  · rename_i t a r
    split at h
    · rename_i u k hfr
      obtain ⟨hin, hk, hu1, hu2⟩ := fr_at how hfr
      split at h
      · rename_i hbq
        have htu := Nat.eq_of_beq_eq_true hbq
        subst htu
        obtain ⟨hka, -⟩ := hg.head a rfl
        simp only at hka
        have ha : a < 173 := kd_lt hka (by omega) (by omega)
        have hget : ∀ (v : Value), (if ftg t k = 0 then Value.int (σ a k) else .ref (ad (rt a k))) = v → ∀ (H : Heap) (locs : List Loc) (ls : Array Slot), va_P D cl12 (wsl ad cA σ) H → W p l e R s m args below meth c H locs nc ns Q (F0 m (pc + 3) ls (v :: r.map (cv ad))) → W p l e R s m args below meth c H locs nc ns Q (F0 m pc ls (.ref (ad a) :: r.map (cv ad))) := by
          intro v hv H locs ls hP kk
          have he := wsl_get (ad := ad) (cA := cA) (σ := σ) ha
          rw [cex_obj (by omega)] at he
          refine va_get (C := cR (t - 1)) (T := cT (t - 1)) (N := cN (t - 1)) (ci := kd a - 1) (ref := (cT (t - 1) k).1) hx hb hts (lay_in (t - 1) (by omega)) hown hK hP a he (by rw [hka]; exact cl_at (t - 1) (by omega)) k hk (hts _ hin) (fun _ h9 => h9) (v := v) ?_ hd kk
          rw [fls_get (by rw [hka]; exact hk), hka, hv]
        split at h
        · rename_i hf
          have hf := Nat.eq_of_beq_eq_true hf
          cases h
          exact ⟨hg.tail.push vok_i, fun kk H locs ls h1 h2 h3 => hget _ (if_pos hf) H locs ls h2 (kk H locs ls h1 h2 h3)⟩
        · rename_i hf
          have hf : ¬ ftg t k = 0 := Nat.ne_of_beq_eq_false hf
          cases h
          refine ⟨hg.tail.push ?_, fun kk H locs ls h1 h2 h3 => hget _ (if_neg hf) H locs ls h2 (kk H locs ls h1 h2 h3)⟩
          intro b hb'
          cases hb'
          exact ⟨by have := rt_ok a ha k (by rw [hka]; exact hk) (by omega) (by rw [hka]; exact hf); rw [hka] at this; exact this, hf⟩
      · cases h
    · cases h
  · cases h
theorem ok_put {i : Nat} (X : FX p R s m args c nc ns ad cA D B0 L xs cc nL ow) (hd : decode cc pc = .ok (.putfield i, 3)) (hg : GD nL L xs (pc, lo, st, σ)) (h : e_put ow i pc lo st σ = some q') : OKs p l e R s m args below meth c nc ns Q ad cA D B0 L xs nL (pc, lo, st, σ) q' := by
  obtain ⟨hx, hb, hml, hown, hts, hK, hE, hA, hR, hc1, hc2, how, hL⟩ := X
  unfold e_put at h
  split at h
  · rename_i t' v t a r
    split at h
    · rename_i u k hfr
      obtain ⟨hin, hk, hu1, hu2⟩ := fr_at how hfr
      split at h
      · rename_i hbq
        simp only [Bool.and_eq_true] at hbq
        have htu := Nat.eq_of_beq_eq_true hbq.1
        have hf := Nat.eq_of_beq_eq_true hbq.2
        subst htu
        obtain ⟨hka, -⟩ := hg.tail.head a rfl
        simp only at hka
        have ha : a < 173 := kd_lt hka (by omega) (by omega)
        split at h
        · rename_i hbo
          cases h
          have hne : ∀ q, q ≠ a → up σ a k v q = σ q := fun q hq => up_ne hq
          refine ⟨⟨hg.1, hg.2.1, fun w hw => hg.2.2.1 w (List.mem_cons_of_mem _ (List.mem_cons_of_mem _ hw)), hg.2.2.2.ne ha hne⟩, fun kk H locs ls h1 h2 h3 => ?_⟩
          have he := wsl_get (ad := ad) (cA := cA) (σ := σ) ha
          rw [cex_obj (by omega)] at he
          obtain ⟨hfin, hty⟩ := ft_ok (t - 1) (by omega) k hk (by rw [Nat.sub_add_cancel hu1]; exact hf)
          rw [Nat.sub_add_cancel hu1] at hty
          have key : ∀ ty, parseFieldDescriptor (cT (t - 1) k).2.2.1 = some ty → narrow ty (.int v) = .int v → fits ty (.int v) = true → W p l e R s m args below meth c H locs nc ns Q (F0 m pc ls (.int v :: .ref (ad a) :: r.map (cv ad))) := by
            intro ty hd1 hn1 hf1
            refine va_put (C := cR (t - 1)) (T := cT (t - 1)) (N := cN (t - 1)) (ci := kd a - 1) (ref := (cT (t - 1) k).1) (ty := ty) (v := .int v) hx hb hts (lay_in (t - 1) (by omega)) (cTy (t - 1)) (ft_ty (t - 1) (by omega)) (ft_nm (t - 1) (by omega)) hown hK h2 (wslD hA σ) h3 a he (by rw [hka]; exact cl_at (t - 1) (by omega)) k hk (hts _ hin) (fun _ h9 => h9) hfin hd1 hn1 hf1 (by rw [fls_len, hka]; exact hk) hd (fun H1 locs1 hP1 hD1 hS1 => kk H1 locs1 ls h1 ?_ hS1)
            have hs := wsl_set (ad := ad) (cA := cA) (σ := σ) (σ' := up σ a k v) (c := a) hne
            rw [up_row, cex_obj (by omega), ← fls_set (by rw [hka]; exact hf)] at hs
            rw [hs] at hP1
            exact hP1
          rcases hty with ⟨hb0, h9⟩ | h9
          · exact key _ h9 rfl rfl
          · simp only [Bool.or_eq_true] at hbo
            by_cases h1v : v = 1
            · subst h1v
              exact key _ h9 (by decide) (by decide)
            · rcases hbo with hbo | hbo
              · exact absurd (Nat.eq_of_beq_eq_true hbo) (fb_ok (t - 1) (by omega) k hk (by rw [Nat.sub_add_cancel hu1]; exact hf) h9 |> fun z => by rw [Nat.sub_add_cancel hu1] at z; exact z)
              · exact absurd (by simpa using hbo) h1v
        · cases h
      · cases h
    · cases h
  · cases h
end STP
end
section
theorem kr_ok : ∀ ow, ow < 17 → ∀ q ∈ krl.getD ow [], lw_tbl[q.2.2]? = some (Cond.constant (cR ow) q.1 q.2.1) := by decide +kernel
theorem lr_ok : ∀ ow, ow < 17 → ∀ q ∈ lrl.getD ow [], lw_tbl[q.2.2]? = some (Cond.constantLong (cR ow) q.1 q.2.1) := by decide +kernel
theorem gr_ok1 : ∀ ow, ow < 17 → ∀ q ∈ grl.getD ow [], q.2.1 < 4 ∧ (if q.2.2.1 = 0 then lw_tbl[q.2.2.2]? = some (Cond.fieldLink (cR ow) q.1 RX10 (snm q.2.1) "[I") else Cond.fieldLinkNest (cR ow) q.1 RX10 (snm q.2.1) "[I" RX10 ∈ NW) := by decide +kernel
theorem sr_ok : ∀ ow, ow < 17 → ∀ q ∈ srl.getD ow [], q.2.1 < 4 ∧ ow = 3 ∧ q.1 = six q.2.1 := by decide +kernel
theorem mr_ok3 : ∀ ow, ow < 17 → ∀ q ∈ mrl.getD ow [], (q.2.1 = 3 → lw_tbl[q.2.2.2]? = some (Cond.methodLink (cR ow) q.1 Lib.Math.max.name)) ∧ (q.2.1 = 4 → lw_tbl[q.2.2.2]? = some (Cond.methodLink (cR ow) q.1 Lib.Math.min.name)) ∧ (q.2.1 = 5 → lw_tbl[q.2.2.2]? = some (Cond.methodLink (cR ow) q.1 arraycopyName)) := by decide +kernel
theorem lookK_mem {l : List (Nat × Int32 × Nat)} {i : Nat} {r : Int32} (h : lookK l i = some r) : ∃ w, (i, r, w) ∈ l := by
  induction l with
  | nil => simp [lookK] at h
  | cons q t ih =>
    unfold lookK at h
    split at h
    · rename_i hb
      have := Nat.eq_of_beq_eq_true hb
      cases h
      exact ⟨q.2.2, by rw [← this]; exact List.mem_cons_self⟩
    · obtain ⟨w, hw⟩ := ih h
      exact ⟨w, List.mem_cons_of_mem _ hw⟩
theorem lookL_mem {l : List (Nat × Int64 × Nat)} {i : Nat} {r : Int64} (h : lookL l i = some r) : ∃ w, (i, r, w) ∈ l := by
  induction l with
  | nil => simp [lookL] at h
  | cons q t ih =>
    unfold lookL at h
    split at h
    · rename_i hb
      have := Nat.eq_of_beq_eq_true hb
      cases h
      exact ⟨q.2.2, by rw [← this]; exact List.mem_cons_self⟩
    · obtain ⟨w, hw⟩ := ih h
      exact ⟨w, List.mem_cons_of_mem _ hw⟩
theorem lookS_mem {l : List (Nat × Nat × Nat)} {i : Nat} {r : Nat} (h : lookS l i = some r) : ∃ w, (i, r, w) ∈ l := by
  induction l with
  | nil => simp [lookS] at h
  | cons q t ih =>
    unfold lookS at h
    split at h
    · rename_i hb
      have := Nat.eq_of_beq_eq_true hb
      cases h
      exact ⟨q.2.2, by rw [← this]; exact List.mem_cons_self⟩
    · obtain ⟨w, hw⟩ := ih h
      exact ⟨w, List.mem_cons_of_mem _ hw⟩
theorem kd_32 {c : Nat} (h : kd c = 32) : ∃ j, j < 4 ∧ c = 900 + j := by
  by_cases hc : c < 173
  · have := kd_in c hc; omega
  · unfold kd at h
    have hb : Nat.blt c 173 = false := by
      cases hb : Nat.blt c 173 with
      | false => rfl
      | true => exact absurd (by simpa [Nat.blt_eq] using hb) hc
    rw [hb] at h
    simp only at h
    split at h
    · exact ⟨c - 900, by omega, by omega⟩
    · split at h
      · omega
      · split at h <;> omega
theorem kd_33 {c : Nat} (h : kd c = 33) : c = 990 := by
  by_cases hc : c < 173
  · have := kd_in c hc; omega
  · unfold kd at h
    have hb : Nat.blt c 173 = false := by
      cases hb : Nat.blt c 173 with
      | false => rfl
      | true => exact absurd (by simpa [Nat.blt_eq] using hb) hc
    rw [hb] at h
    simp only at h
    split at h
    · omega
    · split at h
      · omega
      · split at h <;> omega
theorem aln_ext {L j : Nat} (hj : j < 4) : aln L (900 + j) = aln 0 (900 + j) := by
  match j, hj with
  | 0, _ => rfl
  | 1, _ => rfl
  | 2, _ => rfl
  | 3, _ => rfl
theorem rcat_map {ad : Nat → Nat} {r : List AV} : (((r.map (cv ad)).map fun v => v.category).sum) = rcat r := by
  induction r with
  | nil => rfl
  | cons q r ih =>
    have hc : (cv ad q).category = q.2.category := by
      obtain ⟨t, v⟩ := q
      cases v <;> rfl
    simp only [List.map_cons, List.sum_cons, rcat, ih, hc]
theorem nfw : nativeFrameWords "java/lang/System" "arraycopy" 5 + 11 ≤ 56 := by decide +kernel
section STP
variable {p : Program} {l : Launch} {e : Env} {R : Room} {s : State} {m : MethodId} {args : Array Value} {below : List Frame} {meth : Method} {c : Code} {nc ns : Nat} {Q : State → Prop} {ad : Nat → Nat} {cA : Nat → ClassId} {D : va_G} {B0 L : Nat} {xs : Nat → Int32} {cc : ByteArray} {nL ow : Nat}
variable {pc : Nat} {lo : LO} {st : List AV} {σ : Sg} {q' : AS}
theorem swT_ok {x : Int32} {d b : Int} {r : List AV} : ∀ (os : List Int) (a : Int), a + (os.length : Int) = b + 1 → swT x a d pc lo r σ os = some q' → ∃ o, q' = (jt pc o, lo, r, σ) ∧ jok pc o = true ∧ ((a ≤ x.toInt ∧ x.toInt ≤ b ∧ os[(x.toInt - a).toNat]? = some o) ∨ ((x.toInt < a ∨ b < x.toInt) ∧ o = d)) := by
  intro os
  induction os with
  | nil =>
    intro a hb h
    unfold swT at h
    split at h
    · rename_i hj
      cases h
      refine ⟨d, rfl, hj, Or.inr ⟨?_, rfl⟩⟩
      simp at hb; omega
    · cases h
  | cons o os ih =>
    intro a hb h
    unfold swT at h
    simp only [List.length_cons] at hb
    split at h
    · rename_i hx
      split at h
      · rename_i hj
        cases h
        refine ⟨o, rfl, hj, Or.inl ⟨by omega, by omega, ?_⟩⟩
        rw [hx]; simp
      · cases h
    · rename_i hx
      obtain ⟨o', h1, h2, h3⟩ := ih (a + 1) (by push_cast at hb ⊢; omega) h
      refine ⟨o', h1, h2, ?_⟩
      rcases h3 with ⟨h4, h5, h6⟩ | ⟨h4, h5⟩
      · refine Or.inl ⟨by omega, h5, ?_⟩
        have : (x.toInt - a).toNat = (x.toInt - (a + 1)).toNat + 1 := by omega
        rw [this]; simpa using h6
      · refine Or.inr ⟨?_, h5⟩
        omega
theorem ok_tsw {d a b : Int} {os : Array Int} {len : Nat} (hx : p.tables.exec = Jvm.exec) (hb : c.code = cc) (hd : decode cc pc = .ok (.tableswitch d a b os, len)) (hg : GD nL L xs (pc, lo, st, σ)) (h : e_tsw d a b os pc lo st σ = some q') : OKs p l e R s m args below meth c nc ns Q ad cA D B0 L xs nL (pc, lo, st, σ) q' := by
  unfold e_tsw at h
  split at h
  · rename_i t x r
    split at h
    · rename_i hlen
      obtain ⟨o, rfl, hj, h1⟩ := swT_ok os.toList a (of_decide_eq_true hlen) h
      refine ⟨hg.tail, fun k H locs ls h2 h3 h4 => ?_⟩
      rcases h1 with ⟨h5, h6, h7⟩ | ⟨h5, rfl⟩
      · exact lv_tableIn hx hb hd (by omega) (by omega) (by simpa using h7) (jok_eq hj) (k H locs ls h2 h3 h4)
      · exact lv_tableOut hx hb hd h5 (jok_eq hj) (k H locs ls h2 h3 h4)
    · cases h
  · cases h
theorem swL_ok {x : Int32} {d : Int} {r : List AV} : ∀ (os : List (Int × Int)), swL x d pc lo r σ os = some q' → q' = (jt pc (Op.lookupswitch.offset os d x.toInt), lo, r, σ) ∧ jok pc (Op.lookupswitch.offset os d x.toInt) = true := by
  intro os
  induction os with
  | nil =>
    intro h
    unfold swL at h
    split at h
    · rename_i hj
      cases h
      exact ⟨rfl, hj⟩
    · cases h
  | cons o os ih =>
    intro h
    obtain ⟨o1, o2⟩ := o
    unfold swL at h
    split at h
    · rename_i hx
      have e1 : Op.lookupswitch.offset ((o1, o2) :: os) d x.toInt = o2 := by
        simp only at hx
        unfold Op.lookupswitch.offset
        simp [hx]
      rw [e1]
      split at h
      · rename_i hj
        cases h
        exact ⟨rfl, hj⟩
      · cases h
    · rename_i hx
      have e1 : Op.lookupswitch.offset ((o1, o2) :: os) d x.toInt = Op.lookupswitch.offset os d x.toInt := by
        simp only at hx
        rw [Op.lookupswitch.offset]
        simp
        exact fun z => absurd z.symm hx
      rw [e1]
      exact ih h
theorem ok_lsw {d : Int} {os : Array (Int × Int)} {len : Nat} (hx : p.tables.exec = Jvm.exec) (hb : c.code = cc) (hd : decode cc pc = .ok (.lookupswitch d os, len)) (hg : GD nL L xs (pc, lo, st, σ)) (h : e_lsw d os pc lo st σ = some q') : OKs p l e R s m args below meth c nc ns Q ad cA D B0 L xs nL (pc, lo, st, σ) q' := by
  unfold e_lsw at h
  split at h
  · rename_i t x r
    split at h
    · rename_i hlen
      obtain ⟨rfl, hj⟩ := swL_ok os.toList h
      exact ⟨hg.tail, fun k H locs ls h2 h3 h4 => lv_lookup hx hb hd hlen rfl (jok_eq hj) (k H locs ls h2 h3 h4)⟩
    · cases h
  · cases h
theorem ok_ald (X : FX p R s m args c nc ns ad cA D B0 L xs cc nL ow) (hd : decode cc pc = .ok (.iaload, 1)) (hg : GD nL L xs (pc, lo, st, σ)) (h : e_ald L pc lo st σ = some q') : OKs p l e R s m args below meth c nc ns Q ad cA D B0 L xs nL (pc, lo, st, σ) q' := by
  obtain ⟨hx, hb, hml, hown, hts, hK, hE, hA, hR, hc1, hc2, how, hL⟩ := X
  unfold e_ald at h
  split at h
  · rename_i t' i t a r
    obtain ⟨hka, -⟩ := hg.tail.head a rfl
    simp only at hka
    split at h
    · rename_i ht
      split at h
      · rename_i hin
        have hin := inb_iff.mp hin
        cases h
        refine ⟨hg.tail.tail.push vok_i, fun k H locs ls h1 h2 h3 => ?_⟩
        simp only [Bool.or_eq_true] at ht
        rcases ht with ht | ht
        · have ht := Nat.eq_of_beq_eq_true ht
          subst ht
          have ha : a < 173 := kd_lt hka (by omega) (by omega)
          have he := wsl_get (ad := ad) (cA := cA) (σ := σ) ha
          rw [cex_arr hka] at he
          exact va_iald hx hb hK h2 a 0 he rfl hin hd (k H locs ls h1 h2 h3)
        · have ht := Nat.eq_of_beq_eq_true ht
          subst ht
          obtain ⟨j, hj, rfl⟩ := kd_32 hka
          have hlt : i.toNatClampNeg < aln 0 (900 + j) := Nat.not_le.mp fun q => hin (Or.inr q)
          exact va_ti hx hb (hE.1 j hj).2 h3 hin (v := .int (σ (900 + j) i.toNatClampNeg)) (by have e9 : σ (900 + j) i.toNatClampNeg = sva j i.toNatClampNeg := hg.2.2.2.1 j _ hj hlt; rw [e9]) hd (k H locs ls h1 h2 h3)
      · cases h
    · split at h
      · rename_i ht
        split at h
        · rename_i hin
          have hin := inb_iff.mp hin
          cases h
          refine ⟨hg.tail.tail.push vok_i, fun k H locs ls h1 h2 h3 => ?_⟩
          have ht := Nat.eq_of_beq_eq_true ht
          subst ht
          have e0 := kd_33 hka
          subst e0
          have hlt : i.toNatClampNeg < L := Nat.not_le.mp fun q => hin (Or.inr q)
          obtain ⟨-, -, -, ⟨hX, hbl, hbA⟩, -⟩ := hE
          refine va_sld hx hb hX hbl hbA h3 hin hd ?_
          have := k H locs ls h1 h2 h3
          simp only [List.map_cons, cv] at this
          have e9 : σ 990 i.toNatClampNeg = xs i.toNatClampNeg := hg.2.2.2.2 _ hlt
          rw [e9] at this
          exact this
        · cases h
      · cases h
  · cases h
theorem ok_ast (X : FX p R s m args c nc ns ad cA D B0 L xs cc nL ow) (hd : decode cc pc = .ok (.iastore, 1)) (hg : GD nL L xs (pc, lo, st, σ)) (h : e_ast pc lo st σ = some q') : OKs p l e R s m args below meth c nc ns Q ad cA D B0 L xs nL (pc, lo, st, σ) q' := by
  obtain ⟨hx, hb, hml, hown, hts, hK, hE, hA, hR, hc1, hc2, how, hL⟩ := X
  unfold e_ast at h
  split at h
  · rename_i t' v t'' i t a r
    split at h
    · rename_i ht
      have ht := Nat.eq_of_beq_eq_true ht
      subst ht
      split at h
      · rename_i hin
        have hin := inb_iff.mp hin
        obtain ⟨hka, -⟩ := hg.tail.tail.head a rfl
        simp only at hka
        have ha : a < 173 := kd_lt hka (by omega) (by omega)
        cases h
        have hne : ∀ q, q ≠ a → up σ a i.toNatClampNeg v q = σ q := fun q hq => up_ne hq
        refine ⟨⟨hg.1, hg.2.1, fun w hw => hg.2.2.1 w (List.mem_cons_of_mem _ (List.mem_cons_of_mem _ (List.mem_cons_of_mem _ hw))), hg.2.2.2.ne ha hne⟩, fun k H locs ls h1 h2 h3 => ?_⟩
        have he := wsl_get (ad := ad) (cA := cA) (σ := σ) ha
        rw [cex_arr hka] at he
        refine va_iast hx hb hK h2 (wslD hA σ) h3 a 0 he rfl hin hd (fun H1 locs1 hP1 hD1 hS1 => k H1 locs1 ls h1 ?_ hS1)
        have hs := wsl_set (ad := ad) (cA := cA) (σ := σ) (σ' := up σ a i.toNatClampNeg v) (c := a) hne
        rw [up_row, cex_arr hka] at hs
        rw [hs] at hP1
        exact hP1
      · cases h
    · cases h
  · cases h
theorem ok_aal (X : FX p R s m args c nc ns ad cA D B0 L xs cc nL ow) (hd : decode cc pc = .ok (.aaload, 1)) (hg : GD nL L xs (pc, lo, st, σ)) (h : e_aal pc lo st σ = some q') : OKs p l e R s m args below meth c nc ns Q ad cA D B0 L xs nL (pc, lo, st, σ) q' := by
  obtain ⟨hx, hb, hml, hown, hts, hK, hE, hA, hR, hc1, hc2, how, hL⟩ := X
  unfold e_aal at h
  split at h
  · rename_i t' i t a r
    split at h
    · rename_i ht
      simp only [Bool.and_eq_true] at ht
      have ht1 := Nat.le_of_ble_eq_true ht.1
      have ht2 := Nat.le_of_ble_eq_true ht.2
      split at h
      · rename_i hin
        have hin := inb_iff.mp hin
        obtain ⟨hka, -⟩ := hg.tail.head a rfl
        simp only at hka
        have ha : a < 173 := kd_lt hka (by omega) (by omega)
        cases h
        have hlt : i.toNatClampNeg < aln 0 a := Nat.not_le.mp fun q => hin (Or.inr q)
        refine ⟨hg.tail.tail.push ?_, fun k H locs ls h1 h2 h3 => ?_⟩
        · intro b hb'
          cases hb'
          have := rt_ok2 a ha (by omega) _ hlt
          rw [hka] at this
          refine ⟨this, ?_⟩
          have hh : t = 21 ∨ t = 22 ∨ t = 23 ∨ t = 24 := by omega
          have e9 : ∀ u, u = 21 ∨ u = 22 ∨ u = 23 ∨ u = 24 → elt u ≠ 0 := by intro u hu; rcases hu with rfl | rfl | rfl | rfl <;> decide
          exact e9 t hh
        · have he := wsl_get (ad := ad) (cA := cA) (σ := σ) ha
          rw [cex_ref (by omega), hka] at he
          have hty : ∃ C, (tysL cA)[t - 20]? = some (cA (t - 20), .object C) := by
            have hh : t = 21 ∨ t = 22 ∨ t = 23 ∨ t = 24 := by omega
            rcases hh with rfl | rfl | rfl | rfl <;> exact ⟨_, rfl⟩
          obtain ⟨C, hC⟩ := hty
          exact va_aldq hx hb hK h2 a (t - 20) he hC hin hd (k H locs ls h1 h2 h3)
      · cases h
    · cases h
  · cases h
theorem ok_len (X : FX p R s m args c nc ns ad cA D B0 L xs cc nL ow) (hd : decode cc pc = .ok (.arraylength, 1)) (hg : GD nL L xs (pc, lo, st, σ)) (h : e_len L pc lo st σ = some q') : OKs p l e R s m args below meth c nc ns Q ad cA D B0 L xs nL (pc, lo, st, σ) q' := by
  obtain ⟨hx, hb, hml, hown, hts, hK, hE, hA, hR, hc1, hc2, how, hL⟩ := X
  unfold e_len at h
  split at h
  · rename_i t a r
    obtain ⟨hka, -⟩ := hg.head a rfl
    simp only at hka
    split at h
    · rename_i ht
      cases h
      refine ⟨hg.tail.push vok_i, fun k H locs ls h1 h2 h3 => ?_⟩
      have ht := Nat.eq_of_beq_eq_true ht
      subst ht
      have e0 := kd_33 hka
      subst e0
      obtain ⟨-, -, -, ⟨hX, hbl, hbA⟩, -⟩ := hE
      exact va_slen hx hb hX hbl hbA h3 hd (k H locs ls h1 h2 h3)
    · split at h
      · rename_i ht
        cases h
        refine ⟨hg.tail.push vok_i, fun k H locs ls h1 h2 h3 => ?_⟩
        have ht := Nat.eq_of_beq_eq_true ht
        subst ht
        have ha : a < 173 := kd_lt hka (by omega) (by omega)
        have he := wsl_get (ad := ad) (cA := cA) (σ := σ) ha
        rw [cex_arr hka] at he
        exact va_alen hx hb hK h2 a 0 he (ty := .int) rfl rfl hd (k H locs ls h1 h2 h3)
      · cases h
  · cases h
theorem ok_gst {i : Nat} (X : FX p R s m args c nc ns ad cA D B0 L xs cc nL ow) (hd : decode cc pc = .ok (.getstatic i, 3)) (hg : GD nL L xs (pc, lo, st, σ)) (h : e_gst ow i pc lo st σ = some q') : OKs p l e R s m args below meth c nc ns Q ad cA D B0 L xs nL (pc, lo, st, σ) q' := by
  obtain ⟨hx, hb, hml, hown, hts, hK, hE, hA, hR, hc1, hc2, how, hL⟩ := X
  unfold e_gst at h
  split at h
  · rename_i j y hgr
    cases h
    obtain ⟨w, hw⟩ := look_mem hgr
    obtain ⟨hj, hlk⟩ := gr_ok1 ow how _ hw
    simp only at hj hlk
    refine ⟨hg.push ?_, fun k H locs ls h1 h2 h3 => ?_⟩
    · intro b hb'
      cases hb'
      refine ⟨?_, fun z => by cases z⟩
      match j, hj with
      | 0, _ => rfl
      | 1, _ => rfl
      | 2, _ => rfl
      | 3, _ => rfl
    · split at hlk
      · exact va_gets hx hb (hE.1 j hj).1 h3 hown (hts _ (tb_mem hlk rfl)) (fun _ h9 => h9) hd (k H locs ls h1 h2 h3)
      · exact va_getsN hx hb (hE.1 j hj).1 h3 hown (va_Nw.use rfl (hE.2.2.1 _ hlk)) (fun _ h9 => h9) hd (k H locs ls h1 h2 h3)
  · cases h
theorem ok_ldc {i n : Nat} (X : FX p R s m args c nc ns ad cA D B0 L xs cc nL ow) (hd : (n = 2 ∧ decode cc pc = .ok (.ldc i, 2)) ∨ (n = 3 ∧ decode cc pc = .ok (.ldc_w i, 3))) (hg : GD nL L xs (pc, lo, st, σ)) (h : e_ldc ow i n pc lo st σ = some q') : OKs p l e R s m args below meth c nc ns Q ad cA D B0 L xs nL (pc, lo, st, σ) q' := by
  obtain ⟨hx, hb, hml, hown, hts, hK, hE, hA, hR, hc1, hc2, how, hL⟩ := X
  unfold e_ldc at h
  split at h
  · rename_i v hk
    cases h
    obtain ⟨w, hw⟩ := lookK_mem hk
    have hlk := kr_ok ow how _ hw
    refine ⟨hg.push vok_i, fun k H locs ls h1 h2 h3 => ?_⟩
    rcases hd with ⟨rfl, hd⟩ | ⟨rfl, hd⟩
    · exact lv_ldc hx hb hown (hts _ (tb_mem hlk rfl)) hd (k H locs ls h1 h2 h3)
    · exact lv_ldcw hx hb hown (hts _ (tb_mem hlk rfl)) hd (k H locs ls h1 h2 h3)
  · split at h
    · rename_i hn
      have hn := Nat.eq_of_beq_eq_true hn
      subst hn
      split at h
      · rename_i j hj
        cases h
        obtain ⟨w, hw⟩ := lookS_mem hj
        obtain ⟨hj4, e3, hsx⟩ := sr_ok ow how _ hw
        simp only at hj4 hsx
        refine ⟨hg.push ?_, fun k H locs ls h1 h2 h3 => ?_⟩
        · intro b hb'
          cases hb'
          refine ⟨?_, fun z => by cases z⟩
          match j, hj4 with
          | 0, _ => rfl
          | 1, _ => rfl
          | 2, _ => rfl
          | 3, _ => rfl
        · rcases hd with ⟨-, hd⟩ | ⟨hd, -⟩
          · subst e3
            have hZ := hE.2.1 j hj4
            rw [← hsx] at hZ
            exact va_ldcS hx hb hown hZ hd (k H locs ls h1 h2 h3)
          · cases hd
      · cases h
    · cases h
theorem ok_ldl {i : Nat} (X : FX p R s m args c nc ns ad cA D B0 L xs cc nL ow) (hd : decode cc pc = .ok (.ldc2_w i, 3)) (hg : GD nL L xs (pc, lo, st, σ)) (h : e_ldl ow i pc lo st σ = some q') : OKs p l e R s m args below meth c nc ns Q ad cA D B0 L xs nL (pc, lo, st, σ) q' := by
  obtain ⟨hx, hb, hml, hown, hts, hK, hE, hA, hR, hc1, hc2, how, hL⟩ := X
  unfold e_ldl at h
  split at h
  · rename_i v hk
    cases h
    obtain ⟨w, hw⟩ := lookL_mem hk
    have hlk := lr_ok ow how _ hw
    exact ⟨hg.push vok_l, fun k H locs ls h1 h2 h3 => lv_ldc2 hx hb hown (hts _ (tb_mem hlk rfl)) hd (k H locs ls h1 h2 h3)⟩
  · cases h
end STP
end
section
theorem wd_max : lw_tbl[498]? = some (Cond.static Lib.Math.max.name) ∧ lw_tbl[499]? = some (Cond.code Lib.Math.max.name Lib.Math.max.code 2 (some .int)) ∧ lw_tbl[521]? = some (Cond.static Lib.Math.min.name) ∧ lw_tbl[522]? = some (Cond.code Lib.Math.min.name Lib.Math.min.code 2 (some .int)) ∧ lw_tbl[87]? = some (Cond.initialized "java/lang/Math") ∧ lw_tbl[745]? = some (Cond.native arraycopyName) ∧ lw_tbl[744]? = some (Cond.static arraycopyName) ∧ lw_tbl[89]? = some (Cond.initialized "java/lang/System") := by decide +kernel
section STP
variable {p : Program} {l : Launch} {e : Env} {R : Room} {s : State} {m : MethodId} {args : Array Value} {below : List Frame} {meth : Method} {c : Code} {nc ns : Nat} {Q : State → Prop} {ad : Nat → Nat} {cA : Nat → ClassId} {D : va_G} {B0 L : Nat} {xs : Nat → Int32} {cc : ByteArray} {nL ow : Nat}
variable {pc : Nat} {lo : LO} {st : List AV} {σ : Sg} {q' : AS}
theorem ok_ivs {i : Nat} (X : FX p R s m args c nc ns ad cA D B0 L xs cc nL ow) (hd : decode cc pc = .ok (.invokestatic i, 3)) (hg : GD nL L xs (pc, lo, st, σ)) (h : e_ivs ow i pc lo st σ = some q') : OKs p l e R s m args below meth c nc ns Q ad cA D B0 L xs nL (pc, lo, st, σ) q' := by
  obtain ⟨hx, hb, hml, hown, hts, hK, hE, hA, hR, hc1, hc2, how, hL⟩ := X
  obtain ⟨w1, w2, w3, w4, w5, w6, w7, w8⟩ := wd_max
  unfold e_ivs at h
  split at h
  · rename_i y hmr
    obtain ⟨w, hw⟩ := look_mem hmr
    have hlk := (mr_ok3 ow how _ hw).1 rfl
    split at h
    · split at h
      · rename_i hr
        have hr := Nat.le_of_ble_eq_true hr
        cases h
        refine ⟨hg.tail.tail.push vok_i, fun k H locs ls h1 h2 h3 => ?_⟩
        exact va_mmax hx hb (by rw [hml]; exact h1.1.symm) hown (hts _ (tb_mem hlk rfl)) (hts _ (tb_mem w1 rfl)) (hts _ (tb_mem w5 rfl)) (hts _ (tb_mem w2 rfl)) hR.1 (by rw [rcat_map]; omega) hc1 hc2 hd (k H locs ls h1 h2 h3)
      · cases h
    · cases h
  · rename_i y hmr
    obtain ⟨w, hw⟩ := look_mem hmr
    have hlk := (mr_ok3 ow how _ hw).2.1 rfl
    split at h
    · split at h
      · rename_i hr
        have hr := Nat.le_of_ble_eq_true hr
        cases h
        refine ⟨hg.tail.tail.push vok_i, fun k H locs ls h1 h2 h3 => ?_⟩
        exact va_mmin hx hb (by rw [hml]; exact h1.1.symm) hown (hts _ (tb_mem hlk rfl)) (hts _ (tb_mem w3 rfl)) (hts _ (tb_mem w5 rfl)) (hts _ (tb_mem w4 rfl)) hR.1 (by rw [rcat_map]; omega) hc1 hc2 hd (k H locs ls h1 h2 h3)
      · cases h
    · cases h
  · rename_i y hmr
    obtain ⟨w, hw⟩ := look_mem hmr
    have hlk := (mr_ok3 ow how _ hw).2.2 rfl
    split at h
    · rename_i t1 n t2 dp t d t3 sp u a r
      split at h
      · rename_i hr
        simp only [Bool.and_eq_true] at hr
        obtain ⟨ht, hu, hr⟩ := hr
        have ht := Nat.eq_of_beq_eq_true ht
        have hu := Nat.eq_of_beq_eq_true hu
        have hr := Nat.le_of_ble_eq_true hr
        subst ht
        subst hu
        split at h
        · rename_i hk
          unfold cpk at hk
          simp only [Bool.and_eq_true, Bool.not_eq_true', decide_eq_false_iff_not] at hk
          obtain ⟨k1, k2, k3, k4, k5⟩ := hk
          have k4 := Nat.le_of_ble_eq_true k4
          have k5 := Nat.le_of_ble_eq_true k5
          obtain ⟨hkd, -⟩ := hg.tail.tail.head d rfl
          obtain ⟨hka, -⟩ := hg.tail.tail.tail.tail.head a rfl
          simp only at hkd hka
          have hd3 : d < 173 := kd_lt hkd (by omega) (by omega)
          have ha3 : a < 173 := kd_lt hka (by omega) (by omega)
          cases h
          have hne : ∀ q, q ≠ d → cpy σ a d sp.toNatClampNeg dp.toNatClampNeg n.toNatClampNeg q = σ q := fun q hq => cpy_ne hq
          refine ⟨⟨hg.1, hg.2.1, hg.tail.tail.tail.tail.tail.2.2.1, hg.2.2.2.ne hd3 hne⟩, fun k H locs ls h1 h2 h3 => ?_⟩
          have he0 := wsl_get (ad := ad) (cA := cA) (σ := σ) ha3
          have he1 := wsl_get (ad := ad) (cA := cA) (σ := σ) hd3
          rw [cex_arr hka] at he0
          rw [cex_arr hkd] at he1
          refine va_copyi hx hb (by rw [hml]; exact h1.1.symm) hown (hts _ (tb_mem hlk rfl)) (hts _ (tb_mem w6 rfl)) (hts _ (tb_mem w7 rfl)) (hts _ (tb_mem w8 rfl)) hK h2 (wslD hA σ) h3 a d 0 0 (ty := .int) he0 he1 rfl rfl rfl k1 k2 k3 k4 k5 (fun _ _ => rfl) hR.1 (by rw [rcat_map]; have := nfw; omega) hd (fun H1 locs1 hP1 hD1 hS1 => k H1 locs1 ls h1 ?_ hS1)
          have hs := wsl_set (ad := ad) (cA := cA) (σ := σ) (σ' := cpy σ a d sp.toNatClampNeg dp.toNatClampNeg n.toNatClampNeg) (c := d) hne
          rw [cpy_row, cex_arr hkd] at hs
          rw [hs] at hP1
          exact hP1
        · cases h
      · cases h
    · cases h
  · cases h
set_option maxHeartbeats 4000000 in
theorem ex_ok {i : Instr} {len : Nat} (X : FX p R s m args c nc ns ad cA D B0 L xs cc nL ow) (hd : decode cc pc = .ok (i, len)) (hl : (sw_is i || len == il i) = true) (hg : GD nL L xs (pc, lo, st, σ)) (h : ex L ow i pc lo st σ = some q') : OKs p l e R s m args below meth c nc ns Q ad cA D B0 L xs nL (pc, lo, st, σ) q' := by
  obtain ⟨hx, hb, hml, hown, hts, hK, hE, hA, hR, hc1, hc2, how, hL⟩ := id X
  cases i
  all_goals first | exact absurd (show (none : Option AS) = some q' from h) (by simp) | skip
  all_goals first | (have hl := eq_of_beq (show (len == il _) = true from hl); subst hl) | skip
  all_goals (simp only [ex] at h)
  case iconst n => exact ok_push hg h vok_i (fun H locs ls rest k => lv_iconst hx hb hd rfl k)
  case bipush n => exact ok_push hg h vok_i (fun H locs ls rest k => lv_bipush hx hb hd rfl k)
  case sipush n => exact ok_push hg h vok_i (fun H locs ls rest k => lv_sipush hx hb hd rfl k)
  case lconst n => exact ok_push hg h vok_l (fun H locs ls rest k => lv_lconst hx hb hd rfl k)
  case iload_n n =>
    unfold e_iload at h
    split at h
    · rename_i hv; cases h; exact ok_load hg hv (fun H locs ls rest hr k => lv_iload_n hx hb hd rfl hr k)
    · cases h
  case iload n =>
    unfold e_iload at h
    split at h
    · rename_i hv; cases h; exact ok_load hg hv (fun H locs ls rest hr k => lv_iload hx hb hd hr k)
    · cases h
  case lload_n n =>
    unfold e_lload at h
    split at h
    · rename_i hv; cases h; exact ok_load hg hv (fun H locs ls rest hr k => lv_lload_n hx hb hd rfl hr k)
    · cases h
  case lload n =>
    unfold e_lload at h
    split at h
    · rename_i hv; cases h; exact ok_load hg hv (fun H locs ls rest hr k => lv_lload hx hb hd hr k)
    · cases h
  case aload_n n =>
    unfold e_aload at h
    split at h
    · rename_i hv; cases h; exact ok_load hg hv (fun H locs ls rest hr k => lv_aload_n hx hb hd rfl hr k)
    · cases h
  case aload n =>
    unfold e_aload at h
    split at h
    · rename_i hv; cases h; exact ok_load hg hv (fun H locs ls rest hr k => lv_aload hx hb hd hr k)
    · cases h
  case istore_n n =>
    unfold e_istore at h
    split at h
    · split at h
      · rename_i hc; cases h; exact ok_store hg hc (fun H locs ls rest lv hv hi k => lv_istore_n hx hb hd rfl hv hi rfl k)
      · cases h
    · cases h
  case istore n =>
    unfold e_istore at h
    split at h
    · split at h
      · rename_i hc; cases h; exact ok_store hg hc (fun H locs ls rest lv hv hi k => lv_istore hx hb hd hv hi rfl k)
      · cases h
    · cases h
  case astore_n n =>
    unfold e_astore at h
    split at h
    · split at h
      · rename_i hc; cases h; exact ok_store hg hc (fun H locs ls rest lv hv hi k => lv_astore_n hx hb hd rfl hv hi rfl k)
      · cases h
    · cases h
  case astore n =>
    unfold e_astore at h
    split at h
    · split at h
      · rename_i hc; cases h; exact ok_store hg hc (fun H locs ls rest lv hv hi k => lv_astore hx hb hd hv hi rfl k)
      · cases h
    · cases h
  case iinc n k0 =>
    unfold e_iinc at h
    split at h
    · rename_i t x hv
      split at h
      · rename_i hc
        cases h
        have hc' := hc
        simp only [Bool.and_eq_true] at hc'
        have hi : n < nL := by rw [← hg.1, ← lle_len]; simpa [Nat.blt_eq] using hc'.2
        refine ⟨hg.sto vok_i, fun k H locs ls h1 h2 h3 => ?_⟩
        have hm := prs_mem (ad := ad) (j := 0) hv
        rw [Nat.zero_add] at hm
        obtain ⟨kk, hkk⟩ := List.mem_iff_getElem?.mp hm
        exact lv_iinc hx hb hd h1 hkk rfl hi rfl (fun ls' h => k H locs ls' (lv_sto (v := (0, .int (x + Int32.ofInt k0))) hc'.1 h) h2 h3)
      · cases h
    · cases h
  case iadd => exact ok_bin hg h (fun H locs ls rest x y k => lv_iadd hx hb hd k)
  case isub => exact ok_bin hg h (fun H locs ls rest x y k => lv_isub hx hb hd k)
  case imul => exact ok_bin hg h (fun H locs ls rest x y k => lv_imul hx hb hd k)
  case iand => exact ok_bin hg h (fun H locs ls rest x y k => lv_iand hx hb hd k)
  case ior => exact ok_bin hg h (fun H locs ls rest x y k => lv_ior hx hb hd k)
  case ishl => exact ok_bin hg h (fun H locs ls rest x y k => lv_ishl hx hb hd k)
  case ishr => exact ok_bin hg h (fun H locs ls rest x y k => lv_ishr hx hb hd k)
  case iushr => exact ok_bin hg h (fun H locs ls rest x y k => lv_iushr hx hb hd rfl k)
  case idiv => exact ok_div hg h (fun H locs ls rest x y hy k => lv_idiv hx hb hd hy k)
  case irem => exact ok_div hg h (fun H locs ls rest x y hy k => lv_irem hx hb hd hy k)
  case ineg => exact ok_un hg h (fun H locs ls rest x k => lv_ineg hx hb hd k)
  case i2s => exact ok_un hg h (fun H locs ls rest x k => lv_i2s hx hb hd rfl k)
  case i2c => exact ok_un hg h (fun H locs ls rest x k => lv_i2c hx hb hd rfl k)
  case i2l =>
    unfold e_i2l at h
    split at h
    · cases h; exact ⟨hg.tail.push vok_l, fun k H locs ls h1 h2 h3 => lv_i2l hx hb hd rfl (k H locs ls h1 h2 h3)⟩
    · cases h
  case ladd =>
    unfold e_ladd at h
    split at h
    · cases h; exact ⟨hg.tail.tail.push vok_l, fun k H locs ls h1 h2 h3 => lv_ladd hx hb hd (k H locs ls h1 h2 h3)⟩
    · cases h
  case lcmp =>
    unfold e_lcmp at h
    split at h
    · cases h; exact ⟨hg.tail.tail.push vok_i, fun k H locs ls h1 h2 h3 => W.lcmp hx hb hd (k H locs ls h1 h2 h3)⟩
    · cases h
  case dup =>
    unfold e_dup at h
    split at h
    · cases h; exact ⟨hg.push hg.head, fun k H locs ls h1 h2 h3 => lv_dup hx hb hd rfl (k H locs ls h1 h2 h3)⟩
    · cases h; exact ⟨hg.push hg.head, fun k H locs ls h1 h2 h3 => lv_dup hx hb hd rfl (k H locs ls h1 h2 h3)⟩
    · cases h
  case dup2 =>
    unfold e_dup2 at h
    split at h
    · cases h; exact ⟨(hg.push hg.tail.head).push (pc := pc) hg.head, fun k H locs ls h1 h2 h3 => lv_dup2_11 hx hb hd rfl rfl (k H locs ls h1 h2 h3)⟩
    · cases h
  case pop =>
    unfold e_pop at h
    split at h
    · cases h; exact ⟨hg.tail, fun k H locs ls h1 h2 h3 => lv_pop hx hb hd rfl (k H locs ls h1 h2 h3)⟩
    · cases h
  case goto o =>
    unfold e_goto at h
    split at h
    · rename_i hj; cases h; exact ⟨hg, fun k H locs ls h1 h2 h3 => lv_goto hx hb hd (jok_eq hj) (k H locs ls h1 h2 h3)⟩
    · cases h
  case ifCond o k => exact ok_if hx hb hd hg h
  case if_icmp o k => exact ok_icmp hx hb hd hg h
  case tableswitch d a b os => exact ok_tsw hx hb hd hg h
  case lookupswitch d os => exact ok_lsw hx hb hd hg h
  case getfield k => exact ok_get X hd hg h
  case putfield k => exact ok_put X hd hg h
  case iaload => exact ok_ald X hd hg h
  case iastore => exact ok_ast X hd hg h
  case aaload => exact ok_aal X hd hg h
  case arraylength => exact ok_len X hd hg h
  case getstatic k => exact ok_gst X hd hg h
  case ldc k => exact ok_ldc X (Or.inl ⟨rfl, hd⟩) hg h
  case ldc_w k => exact ok_ldc X (Or.inr ⟨rfl, hd⟩) hg h
  case ldc2_w k => exact ok_ldl X hd hg h
  case invokestatic k => exact ok_ivs X hd hg h
theorem fetch_mem {K : List (Nat × Instr × Nat)} {i : Instr} (h : fetch K pc = some i) : ∃ len, (pc, i, len) ∈ K := by
  induction K with
  | nil => simp [fetch] at h
  | cons q t ih =>
    unfold fetch at h
    split at h
    · rename_i hb
      have := Nat.eq_of_beq_eq_true hb
      cases h
      exact ⟨q.2.2, by rw [← this]; exact List.mem_cons_self⟩
    · obtain ⟨w, hw⟩ := ih h
      exact ⟨w, List.mem_cons_of_mem _ hw⟩
theorem ex1_ok {K : List (Nat × Instr × Nat)} {q : AS} (hk : kok cc K) (X : FX p R s m args c nc ns ad cA D B0 L xs cc nL ow) (hg : GD nL L xs q) (h : ex1 L ow K q = some q') : OKs p l e R s m args below meth c nc ns Q ad cA D B0 L xs nL q q' := by
  obtain ⟨pc, lo, st, σ⟩ := q
  unfold ex1 at h
  split at h
  · rename_i i hf
    obtain ⟨len, hm⟩ := fetch_mem hf
    obtain ⟨h1, h2⟩ := hk _ hm
    exact ex_ok X h1 h2 hg h
  · cases h
theorem run_ok {K : List (Nat × Instr × Nat)} (hk : kok cc K) (X : FX p R s m args c nc ns ad cA D B0 L xs cc nL ow) : ∀ (n : Nat) (q q' : AS), GD nL L xs q → run L ow K n q = some q' → OKs p l e R s m args below meth c nc ns Q ad cA D B0 L xs nL q q' := by
  intro n
  induction n with
  | zero => intro q q' hg h; exact ex1_ok hk X hg h
  | succ n ih =>
    intro q q' hg h
    unfold run at h
    split at h
    · rename_i q1 h1
      obtain ⟨g1, k1⟩ := ex1_ok (l := l) (e := e) (below := below) (meth := meth) (Q := Q) hk X hg h1
      obtain ⟨g2, k2⟩ := ih q1 q' g1 h
      exact ⟨g2, fun k => k1 (k2 k)⟩
    · cases h
end STP
end
section
theorem tbl_in1 {w : Cond} (h : w ∈ tables_1_1) : w ∈ lw_tbl := List.mem_append_right _ (List.mem_append_left _ h)
theorem tbl_in2 {w : Cond} (h : w ∈ tables_1_2) : w ∈ lw_tbl := List.mem_append_right _ (List.mem_append_right _ (List.mem_append_left _ h))
theorem tbl_in3 {w : Cond} (h : w ∈ tables_1_3) : w ∈ lw_tbl := List.mem_append_right _ (List.mem_append_right _ (List.mem_append_right _ (List.mem_append_left _ h)))
theorem tbl_in4 {w : Cond} (h : w ∈ tables_1_4) : w ∈ lw_tbl := List.mem_append_right _ (List.mem_append_right _ (List.mem_append_right _ (List.mem_append_right _ (List.mem_append_left _ h))))
theorem tbl_in5 {w : Cond} (h : w ∈ tables_1_5) : w ∈ lw_tbl := List.mem_append_right _ (List.mem_append_right _ (List.mem_append_right _ (List.mem_append_right _ (List.mem_append_right _ (List.mem_append_left _ h)))))
theorem tbl_in6 {w : Cond} (h : w ∈ tables_1_6) : w ∈ lw_tbl := List.mem_append_right _ (List.mem_append_right _ (List.mem_append_right _ (List.mem_append_right _ (List.mem_append_right _ (List.mem_append_right _ (List.mem_append_left _ h))))))
theorem tbl_in7 {w : Cond} (h : w ∈ tables_1_7) : w ∈ lw_tbl := List.mem_append_right _ (List.mem_append_right _ (List.mem_append_right _ (List.mem_append_right _ (List.mem_append_right _ (List.mem_append_right _ (List.mem_append_right _ (h)))))))
theorem mc0 : Cond.code yX0_init cX0_init 1 none ∈ lw_tbl := tbl_in1 (List.mem_of_getElem? (i := 46) rfl)
theorem mc1 : Cond.code yX0_become cX0_become 4 none ∈ lw_tbl := tbl_in2 (List.mem_of_getElem? (i := 158) rfl)
theorem mc2 : Cond.code yX0_takeFrom cX0_takeFrom 2 none ∈ lw_tbl := tbl_in3 (List.mem_of_getElem? (i := 188) rfl)
theorem mc3 : Cond.code yX0_drawAs cX0_drawAs 2 none ∈ lw_tbl := tbl_in2 (List.mem_of_getElem? (i := 162) rfl)
theorem mc4 : Cond.code yX0_drawNext cX0_drawNext 1 none ∈ lw_tbl := tbl_in3 (List.mem_of_getElem? (i := 111) rfl)
theorem mc5 : Cond.code yX0_drawPrevious cX0_drawPrevious 1 none ∈ lw_tbl := tbl_in3 (List.mem_of_getElem? (i := 132) rfl)
theorem mc6 : Cond.code yX0_isUnder cX0_isUnder 4 (some .boolean) ∈ lw_tbl := tbl_in3 (List.mem_of_getElem? (i := 9) rfl)
theorem mc7 : Cond.code yX0_shapes cX0_shapes 1 (some .int) ∈ lw_tbl := tbl_in3 (List.mem_of_getElem? (i := 1) rfl)
theorem mc8 : Cond.code yX0_wideIn cX0_wideIn 2 (some .int) ∈ lw_tbl := tbl_in2 (List.mem_of_getElem? (i := 166) rfl)
theorem mc9 : Cond.code yX0_highIn cX0_highIn 2 (some .int) ∈ lw_tbl := tbl_in2 (List.mem_of_getElem? (i := 170) rfl)
theorem mc10 : Cond.code yX0_bentHigh cX0_bentHigh 3 (some .int) ∈ lw_tbl := tbl_in2 (List.mem_of_getElem? (i := 174) rfl)
theorem mc11 : Cond.code yX0_room cX0_room 1 (some .int) ∈ lw_tbl := tbl_in2 (List.mem_of_getElem? (i := 233) rfl)
theorem mc12 : Cond.code yX0_worth cX0_worth 1 (some .int) ∈ lw_tbl := tbl_in2 (List.mem_of_getElem? (i := 237) rfl)
theorem mc13 : Cond.code yX0_leastWide cX0_leastWide 3 (some .int) ∈ lw_tbl := tbl_in3 (List.mem_of_getElem? (i := 166) rfl)
theorem mc14 : Cond.code yX0_leastHigh cX0_leastHigh 3 (some .int) ∈ lw_tbl := tbl_in3 (List.mem_of_getElem? (i := 174) rfl)
theorem mc15 : Cond.code yX0_ofItself cX0_ofItself 2 (some .int) ∈ lw_tbl := tbl_in2 (List.mem_of_getElem? (i := 229) rfl)
theorem mc16 : Cond.code yX0_sharedAcross cX0_sharedAcross 2 (some .int) ∈ lw_tbl := tbl_in2 (List.mem_of_getElem? (i := 205) rfl)
theorem mc17 : Cond.code yX0_sharedUp cX0_sharedUp 2 (some .int) ∈ lw_tbl := tbl_in2 (List.mem_of_getElem? (i := 213) rfl)
theorem mc18 : Cond.code yX0_touches cX0_touches 4 (some .boolean) ∈ lw_tbl := tbl_in2 (List.mem_of_getElem? (i := 201) rfl)
theorem mc19 : Cond.code yX0_liesOver cX0_liesOver 2 (some .boolean) ∈ lw_tbl := tbl_in2 (List.mem_of_getElem? (i := 217) rfl)
theorem mc20 : Cond.code yX1_init cX1_init 2 none ∈ lw_tbl := tbl_in1 (List.mem_of_getElem? (i := 39) rfl)
theorem mc21 : Cond.code yX1_takeFrom cX1_takeFrom 3 none ∈ lw_tbl := tbl_in3 (List.mem_of_getElem? (i := 184) rfl)
theorem mc22 : Cond.code yX1_has cX1_has 2 (some .boolean) ∈ lw_tbl := tbl_in2 (List.mem_of_getElem? (i := 193) rfl)
theorem mc23 : Cond.code yX1_addBlock cX1_addBlock 5 (some .int) ∈ lw_tbl := tbl_in2 (List.mem_of_getElem? (i := 154) rfl)
theorem mc24 : Cond.code yX1_addNet cX1_addNet 3 (some .int) ∈ lw_tbl := tbl_in3 (List.mem_of_getElem? (i := 41) rfl)
theorem mc25 : Cond.code yX1_settle cX1_settle 2 none ∈ lw_tbl := tbl_in2 (List.mem_of_getElem? (i := 178) rfl)
theorem mc26 : Cond.code yX1_seat cX1_seat 8 none ∈ lw_tbl := tbl_in2 (List.mem_of_getElem? (i := 182) rfl)
theorem mc27 : Cond.code yX1_waste cX1_waste 4 (some .int) ∈ lw_tbl := tbl_in3 (List.mem_of_getElem? (i := 72) rfl)
theorem mc28 : Cond.code yX1_blocksAbove cX1_blocksAbove 3 (some .int) ∈ lw_tbl := tbl_in3 (List.mem_of_getElem? (i := 76) rfl)
theorem mc29 : Cond.code yX1_wireOf cX1_wireOf 13 (some .int) ∈ lw_tbl := tbl_in3 (List.mem_of_getElem? (i := 49) rfl)
theorem mc30 : Cond.code yX1_wires cX1_wires 3 (some .int) ∈ lw_tbl := tbl_in3 (List.mem_of_getElem? (i := 80) rfl)
theorem mc31 : Cond.code yX1_guessOf cX1_guessOf 4 (some .int) ∈ lw_tbl := tbl_in3 (List.mem_of_getElem? (i := 56) rfl)
theorem mc32 : Cond.code yX1_wholeRoot cX1_wholeRoot 3 (some .int) ∈ lw_tbl := tbl_in3 (List.mem_of_getElem? (i := 60) rfl)
theorem mc33 : Cond.code yX1_price cX1_price 2 (some .int) ∈ lw_tbl := tbl_in3 (List.mem_of_getElem? (i := 85) rfl)
theorem mc34 : Cond.code yX1_canDo cX1_canDo 3 (some .boolean) ∈ lw_tbl := tbl_in3 (List.mem_of_getElem? (i := 99) rfl)
theorem mc35 : Cond.code yX1_doMove cX1_doMove 4 none ∈ lw_tbl := tbl_in3 (List.mem_of_getElem? (i := 104) rfl)
theorem mc36 : Cond.code yX1_undoMove cX1_undoMove 4 none ∈ lw_tbl := tbl_in3 (List.mem_of_getElem? (i := 128) rfl)
theorem mc37 : Cond.code yX1_stepFrom cX1_stepFrom 8 (some .int) ∈ lw_tbl := tbl_in3 (List.mem_of_getElem? (i := 145) rfl)
theorem mc38 : Cond.code yX1_roomsOn cX1_roomsOn 4 (some .int) ∈ lw_tbl := tbl_in3 (List.mem_of_getElem? (i := 157) rfl)
theorem mc39 : Cond.code yX1_greatestLeastWide cX1_greatestLeastWide 3 (some .int) ∈ lw_tbl := tbl_in3 (List.mem_of_getElem? (i := 162) rfl)
theorem mc40 : Cond.code yX1_greatestLeastHigh cX1_greatestLeastHigh 3 (some .int) ∈ lw_tbl := tbl_in3 (List.mem_of_getElem? (i := 170) rfl)
theorem mc41 : Cond.code yX1_growsOf cX1_growsOf 3 (some .int) ∈ lw_tbl := tbl_in2 (List.mem_of_getElem? (i := 221) rfl)
theorem mc42 : Cond.code yX1_reachBehind cX1_reachBehind 6 (some .int) ∈ lw_tbl := tbl_in2 (List.mem_of_getElem? (i := 225) rfl)
theorem mc43 : Cond.code yX1_heatOf cX1_heatOf 5 (some .int) ∈ lw_tbl := tbl_in2 (List.mem_of_getElem? (i := 197) rfl)
theorem mc44 : Cond.code yX1_hottestBlock cX1_hottestBlock 5 (some .int) ∈ lw_tbl := tbl_in3 (List.mem_of_getElem? (i := 225) rfl)
theorem mc45 : Cond.code yX1_greatestHeat cX1_greatestHeat 1 (some .int) ∈ lw_tbl := tbl_in5 (List.mem_of_getElem? (i := 15) rfl)
theorem mc46 : Cond.code yX2_init cX2_init 1 none ∈ lw_tbl := tbl_in1 (List.mem_of_getElem? (i := 165) rfl)
theorem mc47 : Cond.code yX2_takeFrom cX2_takeFrom 2 none ∈ lw_tbl := tbl_in5 (List.mem_of_getElem? (i := 125) rfl)
theorem mc48 : Cond.code yX2_add cX2_add 2 (some .int) ∈ lw_tbl := tbl_in5 (List.mem_of_getElem? (i := 10) rfl)
theorem mc49 : Cond.code yX2_isBeaten cX2_isBeaten 3 (some .boolean) ∈ lw_tbl := tbl_in5 (List.mem_of_getElem? (i := 24) rfl)
theorem mc50 : Cond.code yX2_beats cX2_beats 5 (some .boolean) ∈ lw_tbl := tbl_in5 (List.mem_of_getElem? (i := 28) rfl)
theorem mc51 : Cond.code yX3_init cX3_init 1 none ∈ lw_tbl := tbl_in2 (List.mem_of_getElem? (i := 29) rfl)
theorem mc52 : Cond.code yX3_addFour cX3_addFour 3 none ∈ lw_tbl := tbl_in3 (List.mem_of_getElem? (i := 234) rfl)
theorem mc53 : Cond.code yX3_readText cX3_readText 1 (some .boolean) ∈ lw_tbl := tbl_in4 (List.mem_of_getElem? (i := 6) rfl)
theorem mc54 : Cond.code yX3_readHead cX3_readHead 1 (some .boolean) ∈ lw_tbl := tbl_in4 (List.mem_of_getElem? (i := 17) rfl)
theorem mc55 : Cond.code yX3_readOr cX3_readOr 5 (some .boolean) ∈ lw_tbl := tbl_in4 (List.mem_of_getElem? (i := 79) rfl)
theorem mc56 : Cond.code yX3_readAnd cX3_readAnd 5 (some .boolean) ∈ lw_tbl := tbl_in4 (List.mem_of_getElem? (i := 83) rfl)
theorem mc57 : Cond.code yX3_readTest cX3_readTest 5 (some .boolean) ∈ lw_tbl := tbl_in4 (List.mem_of_getElem? (i := 87) rfl)
theorem mc58 : Cond.code yX3_readSum cX3_readSum 6 (some .boolean) ∈ lw_tbl := tbl_in4 (List.mem_of_getElem? (i := 91) rfl)
theorem mc59 : Cond.code yX3_readTerm cX3_readTerm 6 (some .boolean) ∈ lw_tbl := tbl_in4 (List.mem_of_getElem? (i := 95) rfl)
theorem mc60 : Cond.code yX3_readPiece cX3_readPiece 3 (some .boolean) ∈ lw_tbl := tbl_in4 (List.mem_of_getElem? (i := 99) rfl)
theorem mc61 : Cond.code yX3_readNot cX3_readNot 4 (some .boolean) ∈ lw_tbl := tbl_in4 (List.mem_of_getElem? (i := 184) rfl)
theorem mc62 : Cond.code yX3_readOpen cX3_readOpen 3 (some .boolean) ∈ lw_tbl := tbl_in4 (List.mem_of_getElem? (i := 192) rfl)
theorem mc63 : Cond.code yX3_readNumber cX3_readNumber 3 (some .boolean) ∈ lw_tbl := tbl_in4 (List.mem_of_getElem? (i := 103) rfl)
theorem mc64 : Cond.code yX3_readName cX3_readName 2 (some .boolean) ∈ lw_tbl := tbl_in4 (List.mem_of_getElem? (i := 115) rfl)
theorem mc65 : Cond.code yX3_advance cX3_advance 4 none ∈ lw_tbl := tbl_in4 (List.mem_of_getElem? (i := 10) rfl)
theorem mc66 : Cond.code yX3_sortOf cX3_sortOf 1 (some .int) ∈ lw_tbl := tbl_in4 (List.mem_of_getElem? (i := 13) rfl)
theorem mc67 : Cond.code yX3_isWord cX3_isWord 3 (some .boolean) ∈ lw_tbl := tbl_in4 (List.mem_of_getElem? (i := 22) rfl)
theorem mc68 : Cond.code yX4_init cX4_init 1 none ∈ lw_tbl := tbl_in1 (List.mem_of_getElem? (i := 225) rfl)
theorem mc69 : Cond.code yX4_leastPrice cX4_leastPrice 7 (some .int) ∈ lw_tbl := tbl_in3 (List.mem_of_getElem? (i := 179) rfl)
theorem mc70 : Cond.code yX4_holdRows cX4_holdRows 2 none ∈ lw_tbl := tbl_in3 (List.mem_of_getElem? (i := 203) rfl)
theorem mc71 : Cond.code yX4_firstOrder cX4_firstOrder 3 none ∈ lw_tbl := tbl_in3 (List.mem_of_getElem? (i := 195) rfl)
theorem mc72 : Cond.code yX4_nextOrder cX4_nextOrder 6 none ∈ lw_tbl := tbl_in3 (List.mem_of_getElem? (i := 207) rfl)
theorem mc73 : Cond.code yX5_init cX5_init 1 none ∈ lw_tbl := tbl_in2 (List.mem_of_getElem? (i := 60) rfl)
theorem mc74 : Cond.code yX5_become cX5_become 4 none ∈ lw_tbl := tbl_in5 (List.mem_of_getElem? (i := 43) rfl)
theorem mc75 : Cond.code yX5_takeFrom cX5_takeFrom 2 none ∈ lw_tbl := tbl_in5 (List.mem_of_getElem? (i := 83) rfl)
theorem mc76 : Cond.code yX5_hasRun cX5_hasRun 3 (some .boolean) ∈ lw_tbl := tbl_in5 (List.mem_of_getElem? (i := 53) rfl)
theorem mc77 : Cond.code yX5_put cX5_put 4 (some .int) ∈ lw_tbl := tbl_in5 (List.mem_of_getElem? (i := 58) rfl)
theorem mc78 : Cond.code yX6_init cX6_init 1 none ∈ lw_tbl := tbl_in2 (List.mem_of_getElem? (i := 79) rfl)
theorem mc79 : Cond.code yX6_findingFor cX6_findingFor 2 (some .int) ∈ lw_tbl := tbl_in5 (List.mem_of_getElem? (i := 92) rfl)
theorem mc80 : Cond.code yX7_init cX7_init 2 none ∈ lw_tbl := tbl_in1 (List.mem_of_getElem? (i := 33) rfl)
theorem mc81 : Cond.code yX7_addWish cX7_addWish 2 (some .int) ∈ lw_tbl := tbl_in4 (List.mem_of_getElem? (i := 196) rfl)
theorem mc82 : Cond.code yX7_takeFrom cX7_takeFrom 3 none ∈ lw_tbl := tbl_in5 (List.mem_of_getElem? (i := 120) rfl)
theorem mc83 : Cond.code yX8_init cX8_init 1 none ∈ lw_tbl := tbl_in2 (List.mem_of_getElem? (i := 6) rfl)
theorem mc84 : Cond.code yX8_forget cX8_forget 1 none ∈ lw_tbl := tbl_in2 (List.mem_of_getElem? (i := 150) rfl)
theorem mc85 : Cond.code yX8_note cX8_note 4 none ∈ lw_tbl := tbl_in3 (List.mem_of_getElem? (i := 115) rfl)
theorem mc86 : Cond.code yX8_takeBack cX8_takeBack 2 none ∈ lw_tbl := tbl_in3 (List.mem_of_getElem? (i := 124) rfl)
theorem mc87 : Cond.code yX9_init cX9_init 1 none ∈ lw_tbl := tbl_in1 (List.mem_of_getElem? (i := 187) rfl)
theorem mc88 : Cond.code yX9_begin cX9_begin 2 none ∈ lw_tbl := tbl_in4 (List.mem_of_getElem? (i := 74) rfl)
theorem mc89 : Cond.code yX9_takeFrom cX9_takeFrom 2 none ∈ lw_tbl := tbl_in4 (List.mem_of_getElem? (i := 200) rfl)
theorem mc90 : Cond.code yX9_addNumber cX9_addNumber 2 none ∈ lw_tbl := tbl_in4 (List.mem_of_getElem? (i := 107) rfl)
theorem mc91 : Cond.code yX9_addName cX9_addName 2 none ∈ lw_tbl := tbl_in4 (List.mem_of_getElem? (i := 180) rfl)
theorem mc92 : Cond.code yX9_addSign cX9_addSign 2 none ∈ lw_tbl := tbl_in4 (List.mem_of_getElem? (i := 188) rfl)
theorem mc93 : Cond.code yX9_add cX9_add 2 none ∈ lw_tbl := tbl_in4 (List.mem_of_getElem? (i := 111) rfl)
theorem mc94 : Cond.code yX9_isOfAll cX9_isOfAll 1 (some .boolean) ∈ lw_tbl := tbl_in4 (List.mem_of_getElem? (i := 119) rfl)
theorem mc95 : Cond.code yX9_valueOn cX9_valueOn 6 (some .int) ∈ lw_tbl := tbl_in4 (List.mem_of_getElem? (i := 210) rfl)
theorem mc96 : Cond.code yX9_push cX9_push 3 (some .int) ∈ lw_tbl := tbl_in4 (List.mem_of_getElem? (i := 215) rfl)
theorem mc97 : Cond.code yX9_negate cX9_negate 2 (some .int) ∈ lw_tbl := tbl_in4 (List.mem_of_getElem? (i := 229) rfl)
theorem mc98 : Cond.code yX9_join cX9_join 3 (some .int) ∈ lw_tbl := tbl_in4 (List.mem_of_getElem? (i := 235) rfl)
theorem mc99 : Cond.code yX9_worked cX9_worked 3 (some .int) ∈ lw_tbl := tbl_in4 (List.mem_of_getElem? (i := 238) rfl)
theorem mc100 : Cond.code yX9_truth cX9_truth 1 (some .int) ∈ lw_tbl := tbl_in4 (List.mem_of_getElem? (i := 232) rfl)
theorem mc101 : Cond.code yX9_nameOfAll cX9_nameOfAll 2 (some .int) ∈ lw_tbl := tbl_in4 (List.mem_of_getElem? (i := 218) rfl)
theorem mc102 : Cond.code yX9_nameOfBlock cX9_nameOfBlock 4 (some .int) ∈ lw_tbl := tbl_in4 (List.mem_of_getElem? (i := 224) rfl)
theorem mc103 : Cond.code yX10_init cX10_init 2 none ∈ lw_tbl := tbl_in1 (List.mem_of_getElem? (i := 25) rfl)
theorem mc104 : Cond.code yX10_block cX10_block 4 (some .int) ∈ lw_tbl := tbl_in2 (List.mem_of_getElem? (i := 138) rfl)
theorem mc105 : Cond.code yX10_told cX10_told 5 (some .int) ∈ lw_tbl := tbl_in2 (List.mem_of_getElem? (i := 189) rfl)
theorem mc106 : Cond.code yX10_as cX10_as 4 (some .int) ∈ lw_tbl := tbl_in3 (List.mem_of_getElem? (i := 5) rfl)
theorem mc107 : Cond.code yX10_power cX10_power 4 (some .int) ∈ lw_tbl := tbl_in3 (List.mem_of_getElem? (i := 16) rfl)
theorem mc108 : Cond.code yX10_rule cX10_rule 4 (some .int) ∈ lw_tbl := tbl_in3 (List.mem_of_getElem? (i := 23) rfl)
theorem mc109 : Cond.code yX10_net cX10_net 3 (some .int) ∈ lw_tbl := tbl_in3 (List.mem_of_getElem? (i := 31) rfl)
theorem mc110 : Cond.code yX10_wire cX10_wire 4 (some .int) ∈ lw_tbl := tbl_in3 (List.mem_of_getElem? (i := 45) rfl)
theorem mc111 : Cond.code yX10_at cX10_at 3 (some .int) ∈ lw_tbl := tbl_in3 (List.mem_of_getElem? (i := 64) rfl)
theorem mc112 : Cond.code yX10_whole cX10_whole 3 (some .int) ∈ lw_tbl := tbl_in3 (List.mem_of_getElem? (i := 68) rfl)
theorem mc113 : Cond.code yX10_stands cX10_stands 4 (some .int) ∈ lw_tbl := tbl_in3 (List.mem_of_getElem? (i := 90) rfl)
theorem mc114 : Cond.code yX10_move cX10_move 5 (some .int) ∈ lw_tbl := tbl_in3 (List.mem_of_getElem? (i := 95) rfl)
theorem mc115 : Cond.code yX10_undo cX10_undo 1 (some .int) ∈ lw_tbl := tbl_in3 (List.mem_of_getElem? (i := 120) rfl)
theorem mc116 : Cond.code yX10_seed cX10_seed 3 (some .int) ∈ lw_tbl := tbl_in3 (List.mem_of_getElem? (i := 137) rfl)
theorem mc117 : Cond.code yX10_walk cX10_walk 5 (some .int) ∈ lw_tbl := tbl_in3 (List.mem_of_getElem? (i := 141) rfl)
theorem mc118 : Cond.code yX10_bound cX10_bound 3 (some .int) ∈ lw_tbl := tbl_in3 (List.mem_of_getElem? (i := 153) rfl)
theorem mc119 : Cond.code yX10_best cX10_best 4 (some .int) ∈ lw_tbl := tbl_in3 (List.mem_of_getElem? (i := 212) rfl)
theorem mc120 : Cond.code yX10_touch cX10_touch 4 (some .int) ∈ lw_tbl := tbl_in3 (List.mem_of_getElem? (i := 216) rfl)
theorem mc121 : Cond.code yX10_hottest cX10_hottest 1 (some .int) ∈ lw_tbl := tbl_in3 (List.mem_of_getElem? (i := 221) rfl)
theorem mc122 : Cond.code yX10_feed cX10_feed 4 (some .int) ∈ lw_tbl := tbl_in3 (List.mem_of_getElem? (i := 230) rfl)
theorem mc123 : Cond.code yX10_trim cX10_trim 2 (some .int) ∈ lw_tbl := tbl_in3 (List.mem_of_getElem? (i := 238) rfl)
theorem mc124 : Cond.code yX10_wish cX10_wish 2 (some .int) ∈ lw_tbl := tbl_in4 (List.mem_of_getElem? (i := 2) rfl)
theorem mc125 : Cond.code yX10_of cX10_of 4 (some .int) ∈ lw_tbl := tbl_in4 (List.mem_of_getElem? (i := 206) rfl)
theorem mc126 : Cond.code yX10_missed cX10_missed 2 (some .int) ∈ lw_tbl := tbl_in5 (List.mem_of_getElem? (i := 2) rfl)
theorem mc127 : Cond.code yX10_stow cX10_stow 1 (some .int) ∈ lw_tbl := tbl_in5 (List.mem_of_getElem? (i := 6) rfl)
theorem mc128 : Cond.code yX10_stowed cX10_stowed 4 (some .int) ∈ lw_tbl := tbl_in5 (List.mem_of_getElem? (i := 20) rfl)
theorem mc129 : Cond.code yX10_front cX10_front 3 (some .int) ∈ lw_tbl := tbl_in5 (List.mem_of_getElem? (i := 32) rfl)
theorem mc130 : Cond.code yX10_sheet cX10_sheet 4 (some .int) ∈ lw_tbl := tbl_in5 (List.mem_of_getElem? (i := 36) rfl)
theorem mc131 : Cond.code yX10_mark cX10_mark 5 (some .int) ∈ lw_tbl := tbl_in5 (List.mem_of_getElem? (i := 48) rfl)
theorem mc132 : Cond.code yX10_powers cX10_powers 6 (some .int) ∈ lw_tbl := tbl_in5 (List.mem_of_getElem? (i := 62) rfl)
theorem mc133 : Cond.code yX10_copy cX10_copy 8 (some .int) ∈ lw_tbl := tbl_in5 (List.mem_of_getElem? (i := 70) rfl)
theorem mc134 : Cond.code yX10_lay cX10_lay 6 (some .int) ∈ lw_tbl := tbl_in5 (List.mem_of_getElem? (i := 75) rfl)
theorem mc135 : Cond.code yX10_ask cX10_ask 5 (some .int) ∈ lw_tbl := tbl_in5 (List.mem_of_getElem? (i := 88) rfl)
theorem mc136 : Cond.code yX10_item cX10_item 5 (some .int) ∈ lw_tbl := tbl_in5 (List.mem_of_getElem? (i := 99) rfl)
theorem mc137 : Cond.code yX10_rest cX10_rest 4 (some .int) ∈ lw_tbl := tbl_in5 (List.mem_of_getElem? (i := 103) rfl)
theorem mc138 : Cond.code yX10_tell cX10_tell 2 (some .int) ∈ lw_tbl := tbl_in5 (List.mem_of_getElem? (i := 107) rfl)
theorem mc139 : Cond.code yX10_check cX10_check 6 (some .int) ∈ lw_tbl := tbl_in5 (List.mem_of_getElem? (i := 111) rfl)
theorem mc140 : Cond.code yX10_keep cX10_keep 1 (some .int) ∈ lw_tbl := tbl_in5 (List.mem_of_getElem? (i := 116) rfl)
theorem mc141 : Cond.code yX10_back cX10_back 1 (some .int) ∈ lw_tbl := tbl_in5 (List.mem_of_getElem? (i := 130) rfl)
theorem mc142 : Cond.code yX10_count cX10_count 2 (some .int) ∈ lw_tbl := tbl_in5 (List.mem_of_getElem? (i := 134) rfl)
theorem mc143 : Cond.code yX10_metWishes cX10_metWishes 3 (some .int) ∈ lw_tbl := tbl_in5 (List.mem_of_getElem? (i := 138) rfl)
theorem mc144 : Cond.code yX10_takePowers cX10_takePowers 6 (some .int) ∈ lw_tbl := tbl_in5 (List.mem_of_getElem? (i := 66) rfl)
theorem mc145 : Cond.code yX10_swap cX10_swap 4 none ∈ lw_tbl := tbl_in3 (List.mem_of_getElem? (i := 107) rfl)
theorem mc146 : Cond.code yX10_within cX10_within 3 (some .boolean) ∈ lw_tbl := tbl_in2 (List.mem_of_getElem? (i := 144) rfl)
theorem mc147 : Cond.code yX10_isKind cX10_isKind 1 (some .boolean) ∈ lw_tbl := tbl_in2 (List.mem_of_getElem? (i := 141) rfl)
theorem mc148 : Cond.code yX10_isPower cX10_isPower 1 (some .boolean) ∈ lw_tbl := tbl_in3 (List.mem_of_getElem? (i := 19) rfl)
theorem mc149 : Cond.code yX10_isSheet cX10_isSheet 1 (some .boolean) ∈ lw_tbl := tbl_in5 (List.mem_of_getElem? (i := 39) rfl)
theorem mc150 : Cond.code yX10_isSlot cX10_isSlot 1 (some .boolean) ∈ lw_tbl := tbl_in5 (List.mem_of_getElem? (i := 78) rfl)
theorem mc151 : Cond.code yX11_init cX11_init 2 none ∈ lw_tbl := tbl_in5 (List.mem_of_getElem? (i := 144) rfl)
theorem mc152 : Cond.code yX11_isIn cX11_isIn 6 (some .boolean) ∈ lw_tbl := tbl_in6 (List.mem_of_getElem? (i := 34) rfl)
theorem mc153 : Cond.code yX11_orNone cX11_orNone 1 (some .int) ∈ lw_tbl := tbl_in7 (List.mem_of_getElem? (i := 33) rfl)
theorem mc154 : Cond.code yX11_least cX11_least 2 (some .int) ∈ lw_tbl := tbl_in6 (List.mem_of_getElem? (i := 100) rfl)
theorem mc155 : Cond.code yX11_most cX11_most 2 (some .int) ∈ lw_tbl := tbl_in6 (List.mem_of_getElem? (i := 70) rfl)
theorem mc156 : Cond.code yX11_becomes cX11_becomes 4 (some .int) ∈ lw_tbl := tbl_in6 (List.mem_of_getElem? (i := 129) rfl)
theorem mc157 : Cond.code yX11_blockAt cX11_blockAt 2 (some .int) ∈ lw_tbl := tbl_in6 (List.mem_of_getElem? (i := 41) rfl)
theorem mc158 : Cond.code yX11_textAt cX11_textAt 2 (some .int) ∈ lw_tbl := tbl_in7 (List.mem_of_getElem? (i := 53) rfl)
theorem mc159 : Cond.code yX11_isBlock cX11_isBlock 2 (some .boolean) ∈ lw_tbl := tbl_in6 (List.mem_of_getElem? (i := 49) rfl)
theorem mc160 : Cond.code yX11_isText cX11_isText 2 (some .boolean) ∈ lw_tbl := tbl_in7 (List.mem_of_getElem? (i := 124) rfl)
theorem mc161 : Cond.code yX11_shapesOf cX11_shapesOf 2 (some .int) ∈ lw_tbl := tbl_in6 (List.mem_of_getElem? (i := 90) rfl)
theorem mc162 : Cond.code yX11_isSoft cX11_isSoft 1 (some .boolean) ∈ lw_tbl := tbl_in6 (List.mem_of_getElem? (i := 67) rfl)
theorem mc163 : Cond.code yX11_widthOf cX11_widthOf 4 (some .int) ∈ lw_tbl := tbl_in6 (List.mem_of_getElem? (i := 64) rfl)
theorem mc164 : Cond.code yX11_heightOf cX11_heightOf 5 (some .int) ∈ lw_tbl := tbl_in6 (List.mem_of_getElem? (i := 77) rfl)
theorem mc165 : Cond.code yX11_roomOf cX11_roomOf 4 (some .int) ∈ lw_tbl := tbl_in6 (List.mem_of_getElem? (i := 84) rfl)
theorem mc166 : Cond.code yX11_worthOf cX11_worthOf 6 (some .int) ∈ lw_tbl := tbl_in6 (List.mem_of_getElem? (i := 87) rfl)
theorem mc167 : Cond.code yX11_width cX11_width 3 (some .int) ∈ lw_tbl := tbl_in6 (List.mem_of_getElem? (i := 61) rfl)
theorem mc168 : Cond.code yX11_height cX11_height 3 (some .int) ∈ lw_tbl := tbl_in6 (List.mem_of_getElem? (i := 74) rfl)
theorem mc169 : Cond.code yX11_room cX11_room 3 (some .int) ∈ lw_tbl := tbl_in6 (List.mem_of_getElem? (i := 81) rfl)
theorem mc170 : Cond.code yX11_isAlike cX11_isAlike 3 (some .boolean) ∈ lw_tbl := tbl_in6 (List.mem_of_getElem? (i := 57) rfl)
theorem mc171 : Cond.code yX11_findPlaces cX11_findPlaces 6 none ∈ lw_tbl := tbl_in6 (List.mem_of_getElem? (i := 53) rfl)
theorem mc172 : Cond.code yX11_onLayer cX11_onLayer 4 (some .int) ∈ lw_tbl := tbl_in6 (List.mem_of_getElem? (i := 180) rfl)
theorem mc173 : Cond.code yX11_waste cX11_waste 3 (some .int) ∈ lw_tbl := tbl_in6 (List.mem_of_getElem? (i := 176) rfl)
theorem mc174 : Cond.code yX11_wireOf cX11_wireOf 12 (some .int) ∈ lw_tbl := tbl_in6 (List.mem_of_getElem? (i := 152) rfl)
theorem mc175 : Cond.code yX11_wires cX11_wires 3 (some .int) ∈ lw_tbl := tbl_in6 (List.mem_of_getElem? (i := 172) rfl)
theorem mc176 : Cond.code yX11_priceNow cX11_priceNow 2 (some .int) ∈ lw_tbl := tbl_in6 (List.mem_of_getElem? (i := 168) rfl)
theorem mc177 : Cond.code yX11_behind cX11_behind 7 (some .int) ∈ lw_tbl := tbl_in6 (List.mem_of_getElem? (i := 112) rfl)
theorem mc178 : Cond.code yX11_growsOf cX11_growsOf 2 (some .int) ∈ lw_tbl := tbl_in6 (List.mem_of_getElem? (i := 108) rfl)
theorem mc179 : Cond.code yX11_over cX11_over 4 (some .int) ∈ lw_tbl := tbl_in6 (List.mem_of_getElem? (i := 97) rfl)
theorem mc180 : Cond.code yX11_doTouch cX11_doTouch 5 (some .boolean) ∈ lw_tbl := tbl_in6 (List.mem_of_getElem? (i := 104) rfl)
theorem mc181 : Cond.code yX11_heatOf cX11_heatOf 5 (some .int) ∈ lw_tbl := tbl_in6 (List.mem_of_getElem? (i := 94) rfl)
theorem mc182 : Cond.code yX11_hottestNow cX11_hottestNow 3 (some .int) ∈ lw_tbl := tbl_in7 (List.mem_of_getElem? (i := 30) rfl)
theorem mc183 : Cond.code yX11_block cX11_block 6 (some .int) ∈ lw_tbl := tbl_in6 (List.mem_of_getElem? (i := 30) rfl)
theorem mc184 : Cond.code yX11_told cX11_told 4 (some .int) ∈ lw_tbl := tbl_in6 (List.mem_of_getElem? (i := 45) rfl)
theorem mc185 : Cond.code yX11_isOf cX11_isOf 2 (some .boolean) ∈ lw_tbl := tbl_in6 (List.mem_of_getElem? (i := 119) rfl)
theorem mc186 : Cond.code yX11_as cX11_as 3 (some .int) ∈ lw_tbl := tbl_in6 (List.mem_of_getElem? (i := 116) rfl)
theorem mc187 : Cond.code yX11_power cX11_power 3 (some .int) ∈ lw_tbl := tbl_in6 (List.mem_of_getElem? (i := 124) rfl)
theorem mc188 : Cond.code yX11_rule cX11_rule 3 (some .int) ∈ lw_tbl := tbl_in6 (List.mem_of_getElem? (i := 133) rfl)
theorem mc189 : Cond.code yX11_ones cX11_ones 3 (some .int) ∈ lw_tbl := tbl_in6 (List.mem_of_getElem? (i := 142) rfl)
theorem mc190 : Cond.code yX11_net cX11_net 3 (some .int) ∈ lw_tbl := tbl_in6 (List.mem_of_getElem? (i := 138) rfl)
theorem mc191 : Cond.code yX11_guessOf cX11_guessOf 4 (some .int) ∈ lw_tbl := tbl_in6 (List.mem_of_getElem? (i := 156) rfl)
theorem mc192 : Cond.code yX11_wire cX11_wire 3 (some .int) ∈ lw_tbl := tbl_in6 (List.mem_of_getElem? (i := 147) rfl)
theorem mc193 : Cond.code yX11_at cX11_at 3 (some .int) ∈ lw_tbl := tbl_in6 (List.mem_of_getElem? (i := 160) rfl)
theorem mc194 : Cond.code yX11_whole cX11_whole 3 (some .int) ∈ lw_tbl := tbl_in6 (List.mem_of_getElem? (i := 164) rfl)
theorem mc195 : Cond.code yX11_placeIn cX11_placeIn 4 (some .int) ∈ lw_tbl := tbl_in6 (List.mem_of_getElem? (i := 189) rfl)
theorem mc196 : Cond.code yX11_stands cX11_stands 5 (some .int) ∈ lw_tbl := tbl_in6 (List.mem_of_getElem? (i := 184) rfl)
theorem mc197 : Cond.code yX11_swap cX11_swap 5 none ∈ lw_tbl := tbl_in6 (List.mem_of_getElem? (i := 206) rfl)
theorem mc198 : Cond.code yX11_doMove cX11_doMove 5 none ∈ lw_tbl := tbl_in6 (List.mem_of_getElem? (i := 202) rfl)
theorem mc199 : Cond.code yX11_undoMove cX11_undoMove 4 none ∈ lw_tbl := tbl_in6 (List.mem_of_getElem? (i := 214) rfl)
theorem mc200 : Cond.code yX11_isStuck cX11_isStuck 3 (some .boolean) ∈ lw_tbl := tbl_in6 (List.mem_of_getElem? (i := 197) rfl)
theorem mc201 : Cond.code yX11_move cX11_move 5 (some .int) ∈ lw_tbl := tbl_in6 (List.mem_of_getElem? (i := 193) rfl)
theorem mc202 : Cond.code yX11_undo cX11_undo 1 (some .int) ∈ lw_tbl := tbl_in6 (List.mem_of_getElem? (i := 210) rfl)
theorem mc203 : Cond.code yX11_seed cX11_seed 2 (some .int) ∈ lw_tbl := tbl_in6 (List.mem_of_getElem? (i := 218) rfl)
theorem mc204 : Cond.code yX11_oneStep cX11_oneStep 9 none ∈ lw_tbl := tbl_in6 (List.mem_of_getElem? (i := 228) rfl)
theorem mc205 : Cond.code yX11_walk cX11_walk 4 (some .int) ∈ lw_tbl := tbl_in6 (List.mem_of_getElem? (i := 222) rfl)
theorem mc206 : Cond.code yX11_roomOn cX11_roomOn 4 (some .int) ∈ lw_tbl := tbl_in6 (List.mem_of_getElem? (i := 239) rfl)
theorem mc207 : Cond.code yX11_leastOf cX11_leastOf 7 (some .int) ∈ lw_tbl := tbl_in7 (List.mem_of_getElem? (i := 14) rfl)
theorem mc208 : Cond.code yX11_timesItself cX11_timesItself 4 (some .int) ∈ lw_tbl := tbl_in7 (List.mem_of_getElem? (i := 6) rfl)
theorem mc209 : Cond.code yX11_tellRow cX11_tellRow 7 (some .boolean) ∈ lw_tbl := tbl_in7 (List.mem_of_getElem? (i := 10) rfl)
theorem mc210 : Cond.code yX11_leastPrice cX11_leastPrice 7 (some .int) ∈ lw_tbl := tbl_in7 (List.mem_of_getElem? (i := 3) rfl)
theorem mc211 : Cond.code yX11_bound cX11_bound 2 (some .int) ∈ lw_tbl := tbl_in6 (List.mem_of_getElem? (i := 233) rfl)
theorem mc212 : Cond.code yX11_best cX11_best 5 (some .int) ∈ lw_tbl := tbl_in7 (List.mem_of_getElem? (i := 18) rfl)
theorem mc213 : Cond.code yX11_touch cX11_touch 3 (some .int) ∈ lw_tbl := tbl_in7 (List.mem_of_getElem? (i := 22) rfl)
theorem mc214 : Cond.code yX11_hottest cX11_hottest 1 (some .int) ∈ lw_tbl := tbl_in7 (List.mem_of_getElem? (i := 26) rfl)
theorem mc215 : Cond.code yX11_feed cX11_feed 6 (some .int) ∈ lw_tbl := tbl_in7 (List.mem_of_getElem? (i := 37) rfl)
theorem mc216 : Cond.code yX11_trim cX11_trim 2 (some .int) ∈ lw_tbl := tbl_in7 (List.mem_of_getElem? (i := 41) rfl)
theorem mc217 : Cond.code yX11_isLetter cX11_isLetter 2 (some .boolean) ∈ lw_tbl := tbl_in7 (List.mem_of_getElem? (i := 61) rfl)
theorem mc218 : Cond.code yX11_isDigit cX11_isDigit 2 (some .boolean) ∈ lw_tbl := tbl_in7 (List.mem_of_getElem? (i := 67) rfl)
theorem mc219 : Cond.code yX11_next cX11_next 3 none ∈ lw_tbl := tbl_in7 (List.mem_of_getElem? (i := 57) rfl)
theorem mc220 : Cond.code yX11_isSign cX11_isSign 2 (some .boolean) ∈ lw_tbl := tbl_in7 (List.mem_of_getElem? (i := 116) rfl)
theorem mc221 : Cond.code yX11_isWordAt cX11_isWordAt 6 (some .boolean) ∈ lw_tbl := tbl_in7 (List.mem_of_getElem? (i := 77) rfl)
theorem mc222 : Cond.code yX11_isLong cX11_isLong 8 (some .boolean) ∈ lw_tbl := tbl_in7 (List.mem_of_getElem? (i := 81) rfl)
theorem mc223 : Cond.code yX11_key cX11_key 1 (some .int) ∈ lw_tbl := tbl_in7 (List.mem_of_getElem? (i := 73) rfl)
theorem mc224 : Cond.code yX11_isName cX11_isName 2 (some .boolean) ∈ lw_tbl := tbl_in7 (List.mem_of_getElem? (i := 112) rfl)
theorem mc225 : Cond.code yX11_step cX11_step 3 none ∈ lw_tbl := tbl_in7 (List.mem_of_getElem? (i := 109) rfl)
theorem mc226 : Cond.code yX11_either cX11_either 2 (some .boolean) ∈ lw_tbl := tbl_in7 (List.mem_of_getElem? (i := 85) rfl)
theorem mc227 : Cond.code yX11_both cX11_both 2 (some .boolean) ∈ lw_tbl := tbl_in7 (List.mem_of_getElem? (i := 89) rfl)
theorem mc228 : Cond.code yX11_test cX11_test 3 (some .boolean) ∈ lw_tbl := tbl_in7 (List.mem_of_getElem? (i := 93) rfl)
theorem mc229 : Cond.code yX11_sum cX11_sum 3 (some .boolean) ∈ lw_tbl := tbl_in7 (List.mem_of_getElem? (i := 97) rfl)
theorem mc230 : Cond.code yX11_term cX11_term 3 (some .boolean) ∈ lw_tbl := tbl_in7 (List.mem_of_getElem? (i := 101) rfl)
theorem mc231 : Cond.code yX11_part0 cX11_part0 2 (some .boolean) ∈ lw_tbl := tbl_in7 (List.mem_of_getElem? (i := 105) rfl)
theorem mc232 : Cond.code yX11_parse cX11_parse 3 (some .int) ∈ lw_tbl := tbl_in7 (List.mem_of_getElem? (i := 49) rfl)
theorem mc233 : Cond.code yX11_wish cX11_wish 3 (some .int) ∈ lw_tbl := tbl_in7 (List.mem_of_getElem? (i := 45) rfl)
theorem mc234 : Cond.code yX11_joined cX11_joined 3 (some .int) ∈ lw_tbl := tbl_in7 (List.mem_of_getElem? (i := 135) rfl)
theorem mc235 : Cond.code yX11_worked cX11_worked 6 (some .int) ∈ lw_tbl := tbl_in7 (List.mem_of_getElem? (i := 132) rfl)
theorem mc236 : Cond.code yX11_givenBy cX11_givenBy 4 (some .int) ∈ lw_tbl := tbl_in7 (List.mem_of_getElem? (i := 128) rfl)
theorem mc237 : Cond.code yX11_of cX11_of 4 (some .int) ∈ lw_tbl := tbl_in7 (List.mem_of_getElem? (i := 120) rfl)
theorem mc238 : Cond.code yX11_missed cX11_missed 2 (some .int) ∈ lw_tbl := tbl_in7 (List.mem_of_getElem? (i := 139) rfl)
theorem mc239 : Cond.code yX11_stow cX11_stow 3 (some .int) ∈ lw_tbl := tbl_in7 (List.mem_of_getElem? (i := 143) rfl)
theorem mc240 : Cond.code yX11_isBeaten cX11_isBeaten 7 (some .boolean) ∈ lw_tbl := tbl_in7 (List.mem_of_getElem? (i := 151) rfl)
theorem mc241 : Cond.code yX11_stowed cX11_stowed 3 (some .int) ∈ lw_tbl := tbl_in7 (List.mem_of_getElem? (i := 147) rfl)
theorem mc242 : Cond.code yX11_front cX11_front 3 (some .int) ∈ lw_tbl := tbl_in7 (List.mem_of_getElem? (i := 155) rfl)
theorem mc243 : Cond.code yX11_isSheet cX11_isSheet 1 (some .boolean) ∈ lw_tbl := tbl_in7 (List.mem_of_getElem? (i := 162) rfl)
theorem mc244 : Cond.code yX11_sheet cX11_sheet 5 (some .int) ∈ lw_tbl := tbl_in7 (List.mem_of_getElem? (i := 159) rfl)
theorem mc245 : Cond.code yX11_mark cX11_mark 5 (some .int) ∈ lw_tbl := tbl_in7 (List.mem_of_getElem? (i := 168) rfl)
theorem mc246 : Cond.code yX11_powers cX11_powers 7 (some .int) ∈ lw_tbl := tbl_in7 (List.mem_of_getElem? (i := 174) rfl)
theorem mc247 : Cond.code yX11_copy cX11_copy 7 (some .int) ∈ lw_tbl := tbl_in7 (List.mem_of_getElem? (i := 178) rfl)
theorem mc248 : Cond.code yX11_isSlot cX11_isSlot 1 (some .boolean) ∈ lw_tbl := tbl_in7 (List.mem_of_getElem? (i := 185) rfl)
theorem mc249 : Cond.code yX11_lay cX11_lay 7 (some .int) ∈ lw_tbl := tbl_in7 (List.mem_of_getElem? (i := 182) rfl)
theorem mc250 : Cond.code yX11_ask cX11_ask 4 (some .int) ∈ lw_tbl := tbl_in7 (List.mem_of_getElem? (i := 189) rfl)
theorem mc251 : Cond.code yX11_item cX11_item 3 (some .int) ∈ lw_tbl := tbl_in7 (List.mem_of_getElem? (i := 193) rfl)
theorem mc252 : Cond.code yX11_rest cX11_rest 3 (some .int) ∈ lw_tbl := tbl_in7 (List.mem_of_getElem? (i := 197) rfl)
theorem mc253 : Cond.code yX11_tell cX11_tell 2 (some .int) ∈ lw_tbl := tbl_in7 (List.mem_of_getElem? (i := 201) rfl)
theorem mc254 : Cond.code yX11_setAside cX11_setAside 4 none ∈ lw_tbl := tbl_in7 (List.mem_of_getElem? (i := 210) rfl)
theorem mc255 : Cond.code yX11_check cX11_check 4 (some .int) ∈ lw_tbl := tbl_in7 (List.mem_of_getElem? (i := 205) rfl)
theorem mc256 : Cond.code yX11_keep cX11_keep 1 (some .int) ∈ lw_tbl := tbl_in7 (List.mem_of_getElem? (i := 214) rfl)
theorem mc257 : Cond.code yX11_back cX11_back 1 (some .int) ∈ lw_tbl := tbl_in7 (List.mem_of_getElem? (i := 218) rfl)
theorem mc258 : Cond.code yX11_count cX11_count 4 (some .int) ∈ lw_tbl := tbl_in7 (List.mem_of_getElem? (i := 222) rfl)
theorem mc259 : Cond.code yJ6_bitCount_0f7a4 cJ6_bitCount_0f7a4 1 (some .int) ∈ lw_tbl := tbl_in3 (List.mem_of_getElem? (i := 34) rfl)
theorem mc260 : Cond.code yJ0_length_8abf5 cJ0_length_8abf5 1 (some .int) ∈ lw_tbl := tbl_in4 (List.mem_of_getElem? (i := 26) rfl)
theorem mc261 : Cond.code yJ0_charAt_5068e cJ0_charAt_5068e 2 (some .char) ∈ lw_tbl := tbl_in4 (List.mem_of_getElem? (i := 36) rfl)
theorem mc262 : Cond.code yJ0_indexOf_0f7a4 cJ0_indexOf_0f7a4 2 (some .int) ∈ lw_tbl := tbl_in4 (List.mem_of_getElem? (i := 125) rfl)
end
section
def mY (m : Nat) : MethodName := mYl.getD m yX0_init
def mC (m : Nat) : ByteArray := mCl.getD m cX0_init
def mL (m : Nat) : Nat := mLl.getD m 0
def mR (m : Nat) : Option FieldType := mRl.getD m none
def mA (m : Nat) : List Nat := mAl.getD m []
def mO (m : Nat) : Nat := mOl.getD m 0
def mS (m : Nat) : Bool := mSl.getD m false
def mW (m : Nat) : List Cond := Cond.code (mY m) (mC m) (mL m) (mR m) :: TB
theorem mt_code : ∀ m, m < 263 → Cond.code (mY m) (mC m) (mL m) (mR m) ∈ lw_tbl := by
  intro m hm
  match m, hm with
  | 0, _ => exact mc0
  | 1, _ => exact mc1
  | 2, _ => exact mc2
  | 3, _ => exact mc3
  | 4, _ => exact mc4
  | 5, _ => exact mc5
  | 6, _ => exact mc6
  | 7, _ => exact mc7
  | 8, _ => exact mc8
  | 9, _ => exact mc9
  | 10, _ => exact mc10
  | 11, _ => exact mc11
  | 12, _ => exact mc12
  | 13, _ => exact mc13
  | 14, _ => exact mc14
  | 15, _ => exact mc15
  | 16, _ => exact mc16
  | 17, _ => exact mc17
  | 18, _ => exact mc18
  | 19, _ => exact mc19
  | 20, _ => exact mc20
  | 21, _ => exact mc21
  | 22, _ => exact mc22
  | 23, _ => exact mc23
  | 24, _ => exact mc24
  | 25, _ => exact mc25
  | 26, _ => exact mc26
  | 27, _ => exact mc27
  | 28, _ => exact mc28
  | 29, _ => exact mc29
  | 30, _ => exact mc30
  | 31, _ => exact mc31
  | 32, _ => exact mc32
  | 33, _ => exact mc33
  | 34, _ => exact mc34
  | 35, _ => exact mc35
  | 36, _ => exact mc36
  | 37, _ => exact mc37
  | 38, _ => exact mc38
  | 39, _ => exact mc39
  | 40, _ => exact mc40
  | 41, _ => exact mc41
  | 42, _ => exact mc42
  | 43, _ => exact mc43
  | 44, _ => exact mc44
  | 45, _ => exact mc45
  | 46, _ => exact mc46
  | 47, _ => exact mc47
  | 48, _ => exact mc48
  | 49, _ => exact mc49
  | 50, _ => exact mc50
  | 51, _ => exact mc51
  | 52, _ => exact mc52
  | 53, _ => exact mc53
  | 54, _ => exact mc54
  | 55, _ => exact mc55
  | 56, _ => exact mc56
  | 57, _ => exact mc57
  | 58, _ => exact mc58
  | 59, _ => exact mc59
  | 60, _ => exact mc60
  | 61, _ => exact mc61
  | 62, _ => exact mc62
  | 63, _ => exact mc63
  | 64, _ => exact mc64
  | 65, _ => exact mc65
  | 66, _ => exact mc66
  | 67, _ => exact mc67
  | 68, _ => exact mc68
  | 69, _ => exact mc69
  | 70, _ => exact mc70
  | 71, _ => exact mc71
  | 72, _ => exact mc72
  | 73, _ => exact mc73
  | 74, _ => exact mc74
  | 75, _ => exact mc75
  | 76, _ => exact mc76
  | 77, _ => exact mc77
  | 78, _ => exact mc78
  | 79, _ => exact mc79
  | 80, _ => exact mc80
  | 81, _ => exact mc81
  | 82, _ => exact mc82
  | 83, _ => exact mc83
  | 84, _ => exact mc84
  | 85, _ => exact mc85
  | 86, _ => exact mc86
  | 87, _ => exact mc87
  | 88, _ => exact mc88
  | 89, _ => exact mc89
  | 90, _ => exact mc90
  | 91, _ => exact mc91
  | 92, _ => exact mc92
  | 93, _ => exact mc93
  | 94, _ => exact mc94
  | 95, _ => exact mc95
  | 96, _ => exact mc96
  | 97, _ => exact mc97
  | 98, _ => exact mc98
  | 99, _ => exact mc99
  | 100, _ => exact mc100
  | 101, _ => exact mc101
  | 102, _ => exact mc102
  | 103, _ => exact mc103
  | 104, _ => exact mc104
  | 105, _ => exact mc105
  | 106, _ => exact mc106
  | 107, _ => exact mc107
  | 108, _ => exact mc108
  | 109, _ => exact mc109
  | 110, _ => exact mc110
  | 111, _ => exact mc111
  | 112, _ => exact mc112
  | 113, _ => exact mc113
  | 114, _ => exact mc114
  | 115, _ => exact mc115
  | 116, _ => exact mc116
  | 117, _ => exact mc117
  | 118, _ => exact mc118
  | 119, _ => exact mc119
  | 120, _ => exact mc120
  | 121, _ => exact mc121
  | 122, _ => exact mc122
  | 123, _ => exact mc123
  | 124, _ => exact mc124
  | 125, _ => exact mc125
  | 126, _ => exact mc126
  | 127, _ => exact mc127
  | 128, _ => exact mc128
  | 129, _ => exact mc129
  | 130, _ => exact mc130
  | 131, _ => exact mc131
  | 132, _ => exact mc132
  | 133, _ => exact mc133
  | 134, _ => exact mc134
  | 135, _ => exact mc135
  | 136, _ => exact mc136
  | 137, _ => exact mc137
  | 138, _ => exact mc138
  | 139, _ => exact mc139
  | 140, _ => exact mc140
  | 141, _ => exact mc141
  | 142, _ => exact mc142
  | 143, _ => exact mc143
  | 144, _ => exact mc144
  | 145, _ => exact mc145
  | 146, _ => exact mc146
  | 147, _ => exact mc147
  | 148, _ => exact mc148
  | 149, _ => exact mc149
  | 150, _ => exact mc150
  | 151, _ => exact mc151
  | 152, _ => exact mc152
  | 153, _ => exact mc153
  | 154, _ => exact mc154
  | 155, _ => exact mc155
  | 156, _ => exact mc156
  | 157, _ => exact mc157
  | 158, _ => exact mc158
  | 159, _ => exact mc159
  | 160, _ => exact mc160
  | 161, _ => exact mc161
  | 162, _ => exact mc162
  | 163, _ => exact mc163
  | 164, _ => exact mc164
  | 165, _ => exact mc165
  | 166, _ => exact mc166
  | 167, _ => exact mc167
  | 168, _ => exact mc168
  | 169, _ => exact mc169
  | 170, _ => exact mc170
  | 171, _ => exact mc171
  | 172, _ => exact mc172
  | 173, _ => exact mc173
  | 174, _ => exact mc174
  | 175, _ => exact mc175
  | 176, _ => exact mc176
  | 177, _ => exact mc177
  | 178, _ => exact mc178
  | 179, _ => exact mc179
  | 180, _ => exact mc180
  | 181, _ => exact mc181
  | 182, _ => exact mc182
  | 183, _ => exact mc183
  | 184, _ => exact mc184
  | 185, _ => exact mc185
  | 186, _ => exact mc186
  | 187, _ => exact mc187
  | 188, _ => exact mc188
  | 189, _ => exact mc189
  | 190, _ => exact mc190
  | 191, _ => exact mc191
  | 192, _ => exact mc192
  | 193, _ => exact mc193
  | 194, _ => exact mc194
  | 195, _ => exact mc195
  | 196, _ => exact mc196
  | 197, _ => exact mc197
  | 198, _ => exact mc198
  | 199, _ => exact mc199
  | 200, _ => exact mc200
  | 201, _ => exact mc201
  | 202, _ => exact mc202
  | 203, _ => exact mc203
  | 204, _ => exact mc204
  | 205, _ => exact mc205
  | 206, _ => exact mc206
  | 207, _ => exact mc207
  | 208, _ => exact mc208
  | 209, _ => exact mc209
  | 210, _ => exact mc210
  | 211, _ => exact mc211
  | 212, _ => exact mc212
  | 213, _ => exact mc213
  | 214, _ => exact mc214
  | 215, _ => exact mc215
  | 216, _ => exact mc216
  | 217, _ => exact mc217
  | 218, _ => exact mc218
  | 219, _ => exact mc219
  | 220, _ => exact mc220
  | 221, _ => exact mc221
  | 222, _ => exact mc222
  | 223, _ => exact mc223
  | 224, _ => exact mc224
  | 225, _ => exact mc225
  | 226, _ => exact mc226
  | 227, _ => exact mc227
  | 228, _ => exact mc228
  | 229, _ => exact mc229
  | 230, _ => exact mc230
  | 231, _ => exact mc231
  | 232, _ => exact mc232
  | 233, _ => exact mc233
  | 234, _ => exact mc234
  | 235, _ => exact mc235
  | 236, _ => exact mc236
  | 237, _ => exact mc237
  | 238, _ => exact mc238
  | 239, _ => exact mc239
  | 240, _ => exact mc240
  | 241, _ => exact mc241
  | 242, _ => exact mc242
  | 243, _ => exact mc243
  | 244, _ => exact mc244
  | 245, _ => exact mc245
  | 246, _ => exact mc246
  | 247, _ => exact mc247
  | 248, _ => exact mc248
  | 249, _ => exact mc249
  | 250, _ => exact mc250
  | 251, _ => exact mc251
  | 252, _ => exact mc252
  | 253, _ => exact mc253
  | 254, _ => exact mc254
  | 255, _ => exact mc255
  | 256, _ => exact mc256
  | 257, _ => exact mc257
  | 258, _ => exact mc258
  | 259, _ => exact mc259
  | 260, _ => exact mc260
  | 261, _ => exact mc261
  | 262, _ => exact mc262
  | m + 263, h => exact absurd h (by omega)
end
section
theorem mt_init : ∀ m, m < 263 → lw_tbl[wNl.getD m 0]? = some (Cond.initialized (mY m).cls) ∧ (mY m).cls = cR (mO m) ∧ mL m ≤ 40 ∧ ((mY m).cls ≠ "java/lang/invoke/MethodHandle" ∧ (mY m).cls ≠ "java/lang/invoke/VarHandle") := by decide +kernel
theorem mt_desc : ∀ m, m < 263 → (parseMethodDescriptor (mY m).desc).map (fun d => d.parameters.length) = some ((mA m).length - (if mS m then 0 else 1)) := by decide +kernel
theorem mt_stat : ∀ m, m < 263 → if mS m then lw_tbl[wIl.getD m 0]? = some (Cond.static (mY m)) else lw_tbl[wIl.getD m 0]? = some (Cond.instanceMethod (mY m)) := by decide +kernel
theorem mt_sel : ∀ m, m < 263 → mS m = true ∨ (mY m).name = "<init>" ∨ lw_tbl[wSl.getD m 0]? = some (Cond.selects (mY m).cls (mY m) (mY m)) := by decide +kernel
theorem mt_plain : ∀ m, m < 260 → plainName (mY m).cls = true := by decide +kernel
theorem mr_ok0 : ∀ ow, ow < 17 → ∀ q ∈ mrl.getD ow [], q.2.1 = 0 → lw_tbl[q.2.2.2]? = some (Cond.methodLink (cR ow) q.1 (mY q.2.2.1)) := by decide +kernel
theorem mr_ok0s : ∀ ow, ow < 17 → ∀ q ∈ mrl.getD ow [], q.2.1 = 0 → (mS q.2.2.1 = false ∧ (mY q.2.2.1).name ≠ "<init>") := by decide +kernel
theorem mr_ok1 : ∀ ow, ow < 17 → ∀ q ∈ mrl.getD ow [], q.2.1 = 1 → lw_tbl[q.2.2.2]? = some (Cond.methodLink (cR ow) q.1 (mY q.2.2.1)) := by decide +kernel
theorem mr_ok12 : ∀ ow, ow < 17 → ∀ q ∈ mrl.getD ow [], (q.2.1 = 1 ∨ q.2.1 = 2) → mS q.2.2.1 = true := by decide +kernel
theorem mr_ok2 : ∀ ow, ow < 17 → ∀ q ∈ mrl.getD ow [], q.2.1 = 2 → Cond.methodLinkNest (cR ow) q.1 (mY q.2.2.1) RX10 ∈ NW := by decide +kernel
theorem mr_lt : ∀ ow, ow < 17 → ∀ q ∈ mrl.getD ow [], q.2.2.1 < 263 := by decide +kernel
end
section
abbrev GP : Type := Launch × (Nat → Nat) × (Nat → ClassId) × va_G × Nat × Nat × (Nat → Int32)
abbrev gl (g : GP) : Launch := g.1
abbrev ga (g : GP) : Nat → Nat := g.2.1
abbrev gc (g : GP) : Nat → ClassId := g.2.2.1
abbrev gD (g : GP) : va_G := g.2.2.2.1
abbrev gB (g : GP) : Nat := g.2.2.2.2.1
abbrev gL (g : GP) : Nat := g.2.2.2.2.2.1
abbrev gx (g : GP) : Nat → Int32 := g.2.2.2.2.2.2
def rmD (d : Nat) : Room := { frames := d, cells := 0, slots := 0, locals := 64 * d }
def OQ (g : GP) (r : Option Int32) (σ' : Sg) : Array Value → State → Outcome → State → Prop := fun _ st oc t => oc = .returned (r.map Value.int) ∧ SX (gL g) (gx g) σ' ∧ va_P (gD g) cl12 (wsl (ga g) (gc g) σ') t.heap ∧ va_F (fun q => gB g ≤ q) st t
def OP (g : GP) (as : List AV) (σ : Sg) : Array Value → State → Prop := va_Pc (as.map (cv (ga g))) (fun U => va_P (gD g) cl12 (wsl (ga g) (gc g) σ) U.heap ∧ va_K (gD g) cl12 (tysL (gc g)) U ∧ EX (ga g) (gB g) (gL g) (gx g) U U.heap)
def Ok (g : GP) (d m : Nat) (as : List AV) (σ : Sg) (r : Option Int32) (σ' : Sg) : Prop := ADok (ga g) (gB g) → gL g < 2 ^ 31 → (∀ v ∈ as, vok v) → SX (gL g) (gx g) σ → Met (gl g) (mY m) (mW m) (rmD d) (OP g as σ) (OQ g r σ') 0 0 (fun q => gB g ≤ q)
def rp (r : Option Int32) : List AV := match r with
  | some v => [(0, .int v)]
  | none => []
theorem rp_map {ad : Nat → Nat} {r : Option Int32} {rest : List AV} : (rp r ++ rest).map (cv ad) = (r.map Value.int).toList ++ rest.map (cv ad) := by
  cases r <;> rfl
theorem rp_vok {r : Option Int32} : ∀ v ∈ rp r, vok v := by
  cases r with
  | none => intro v h; cases h
  | some x => intro v h; rw [List.mem_singleton.mp h]; exact vok_i
theorem OP_blind {g : GP} {as : List AV} {σ : Sg} : FrameBlind (OP g as σ) := by
  intro a U f mk q
  obtain ⟨q0, qP, qK, qE⟩ := q
  refine ⟨q0, qP, va_K.moved (u := U) (U := U.calling f mk a) (Vm.Alike.refl U.vm) qK, ?_⟩
  obtain ⟨h1, h2, h3, ⟨h4, h5, h6⟩, ⟨adV, h7⟩, h8, h9⟩ := qE
  have ha : U.vm.Alike (U.calling f mk a).vm := Vm.Alike.refl U.vm
  refine ⟨fun j hj => ⟨(h1 j hj).1.moved ha, (h1 j hj).2.moved ha⟩, fun j hj => (h2 j hj).same rfl, ?_, ⟨h4.moved ha, h5, h6⟩, ⟨adV, h7.moved ha⟩, h8.moved ha, h9.moved ha⟩
  intro w hw
  have h3' := h3 w hw
  simp only [NW, List.mem_cons, List.not_mem_nil, or_false] at hw
  rcases hw with rfl | rfl | rfl | rfl <;> exact va_Nw.same rfl rfl h3'
theorem goodTB (m : Nat) (hm : m < 263) : GoodIn TB (mW m) := by
  intro w hw
  rcases List.mem_cons.mp hw with rfl | h
  · exact ⟨List.mem_filter.mpr ⟨mt_code m hm, rfl⟩, good_of_word rfl⟩
  · exact ⟨h, good_of_word (List.mem_filter.mp h).2⟩
section CLL
variable {g : GP} {p : Program} {e : Env} {R : Room} {s : State} {m : MethodId} {args : Array Value} {below : List Frame} {meth : Method} {c : Code} {nc ns : Nat} {Q : State → Prop} {cc : ByteArray} {nL ow : Nat}
variable {pc : Nat} {lo : LO} {st rest : List AV} {σ σ1 : Sg} {r : Option Int32} {d mm i : Nat} {K : List (Nat × Instr × Nat)}
theorem wt_after (X : FX p R s m args c nc ns (ga g) (gc g) (gD g) (gB g) (gL g) (gx g) cc nL ow) (hg : GD nL (gL g) (gx g) (pc, lo, rest, σ)) {st0 : List Value} {a : Array Value}
    (hr : ∀ (H : Heap) (locs : List Loc) (ls : Array Slot), lv_has ls nL (prs (ga g) 0 lo) → va_P (gD g) cl12 (wsl (ga g) (gc g) σ) H → va_S (fun x => gB g ≤ x) s.heap H locs → va_Run p (gl g) e R s m args below meth c H locs nc ns 0 0 (F0 m pc ls st0) (rest.map (cv (ga g))) (OQ g r σ1 a) (fun q => gB g ≤ q)) :
    (GD nL (gL g) (gx g) (pc + 3, lo, rp r ++ rest, σ1) → WT p (gl g) e R s m args below meth c nc ns Q (ga g) (gc g) (gD g) (gB g) nL (pc + 3, lo, rp r ++ rest, σ1)) → ∀ (H : Heap) (locs : List Loc) (ls : Array Slot), lv_has ls nL (prs (ga g) 0 lo) → va_P (gD g) cl12 (wsl (ga g) (gc g) σ) H → va_S (fun x => gB g ≤ x) s.heap H locs → W p (gl g) e R s m args below meth c H locs nc ns Q (F0 m pc ls st0) := by
  intro k H locs ls h1 h2 h3
  have hr := hr H locs ls h1 h2 h3
  intro T hT X1
  obtain ⟨v, st₀, t, T', L1, h0, X', hL1, e1, e2, ⟨hv, hSX, hb, hz, hkk⟩, stp⟩ := hr T hT X1
  rw [h0] at hz hkk
  have hv : v = r.map Value.int := by
    have := hv; simpa using this
  subst hv
  have gd : GD nL (gL g) (gx g) (pc + 3, lo, rp r ++ rest, σ1) := ⟨hg.1, hg.2.1, fun v hv => by
    rcases List.mem_append.mp hv with h | h
    · exact rp_vok v h
    · exact hg.2.2.1 v h, hSX⟩
  have k1 := k gd T'.heap (locs ++ L1) ls h1 (by rw [e1]; exact hb)
    ⟨Nat.le_trans h3.1 (by rw [e1]; exact hz), fun q q1 q2 => by rw [e1, hkk q (Nat.lt_of_lt_of_le q1 h3.1) q2]; exact h3.2.1 q q1 q2, fun q hq => by
      rcases List.mem_append.mp hq with h | h
      · exact h3.2.2 q h
      · exact hL1 q h⟩ T' rfl X'
  obtain ⟨t2, a1, b1⟩ := k1
  rw [rp_map] at a1
  exact ⟨t2, stp t2 a1, b1⟩
theorem ex_U (X : FX p R s m args c nc ns (ga g) (gc g) (gD g) (gB g) (gL g) (gx g) cc nL ow) {H : Heap} {locs : List Loc} (h2 : va_P (gD g) cl12 (wsl (ga g) (gc g) σ) H) (h3 : va_S (fun x => gB g ≤ x) s.heap H locs) {as : List AV} : ∀ U : State, U.heap = H → s.WarmedH U.vm → OP g as σ (as.map (cv (ga g))).toArray U := by
  obtain ⟨hx, hb, hml, hown, hts, hK, hE, hA, hR, hc1, hc2, how, hL⟩ := X
  intro U hU hW
  refine ⟨rfl, by rw [hU]; exact h2, va_K.moved hW.alike hK, ?_⟩
  refine hE.go hW (by rw [hU]; exact h3.1) (fun a q1 q2 => by rw [hU]; exact h3.2.1 a q1 q2)
theorem wt_callV0 (X : FX p R s m args c nc ns (ga g) (gc g) (gD g) (gB g) (gL g) (gx g) cc nL ow) (hk : kok cc K) (hf : fetch K pc = some (.invokevirtual i)) (hm : mr ow i = some (0, mm)) {t a : Nat} {as : List AV} (hst : st = as.reverse ++ (t, .ref a) :: rest) (hrc : ∀ (H : Heap) (locs : List Loc), va_P (gD g) cl12 (wsl (ga g) (gc g) σ) H → va_S (fun x => gB g ≤ x) s.heap H locs → ∃ cell : Cell, H[ga g a]? = some cell ∧ cell.vm.isStatics = false ∧ s.vm.findClass (mY mm).cls = some cell.cls) (hn : as.length + 1 = (mA mm).length) (hr : rcat rest ≤ 8) (hR : d + 1 ≤ R.frames ∧ 64 * (d + 1) ≤ R.locals) (hg : GD nL (gL g) (gx g) (pc, lo, st, σ)) (hO : Ok g d mm ((t, .ref a) :: as) σ r σ1) :
    (GD nL (gL g) (gx g) (pc + 3, lo, rp r ++ rest, σ1) → WT p (gl g) e R s m args below meth c nc ns Q (ga g) (gc g) (gD g) (gB g) nL (pc + 3, lo, rp r ++ rest, σ1)) → (WT p (gl g) e R s m args below meth c nc ns Q (ga g) (gc g) (gD g) (gB g) nL (pc, lo, st, σ)) := by
  obtain ⟨hx, hb, hml, hown, hts, hK, hE, hA, hR0, hc1, hc2, how, hL⟩ := id X
  obtain ⟨len, hmem⟩ := fetch_mem hf
  obtain ⟨hd, hlen⟩ := hk _ hmem
  have hlen := eq_of_beq (show (len == il (.invokevirtual i)) = true from hlen)
  subst hlen
  subst hst
  obtain ⟨w, hw⟩ := look_mem hm
  have hlink := mr_ok0 ow how _ hw rfl
  obtain ⟨hstt, hini⟩ := mr_ok0s ow how _ hw rfl
  have hlt := mr_lt ow how _ hw
  simp only at hlink hstt hini hlt
  obtain ⟨i1, i2, i3, i4⟩ := mt_init mm hlt
  have hdesc := mt_desc mm hlt
  have hinst := mt_stat mm hlt
  rw [hstt] at hdesc hinst
  simp only [Bool.false_eq_true, if_false] at hdesc hinst
  have hsel : lw_tbl[wSl.getD mm 0]? = some (Cond.selects (mY mm).cls (mY mm) (mY mm)) := by
    rcases mt_sel mm hlt with h | h | h
    · rw [hstt] at h; cases h
    · exact absurd h hini
    · exact h
  have hv : ∀ v ∈ ((t, Value.ref a) :: as : List AV), vok v := by
    intro v hv
    apply hg.2.2.1
    rcases List.mem_cons.mp hv with rfl | h
    · simp
    · simp [h]
  have hM := hO hA hL hv hg.2.2.2
  refine (fun z k H locs ls h1 h2 h3 => z k H locs ls h1 h2 h3) (wt_after (e := e) (below := below) (meth := meth) (Q := Q) (pc := pc) (rest := rest) (r := r) (σ1 := σ1) (st0 := (as.reverse ++ (t, Value.ref a) :: rest).map (cv (ga g))) (a := (Value.ref (ga g a) :: as.map (cv (ga g))).toArray) X ⟨hg.1, hg.2.1, fun v hv => hg.2.2.1 v (List.mem_append_right _ (List.mem_cons_of_mem _ hv)), hg.2.2.2⟩ ?_)
  · intro H locs ls h1 h2 h3
    have hrecv := hrc H locs h2 h3
    refine va_runV (n := as.length) (As := as.map (cv (ga g))) ⟨hx, hb, hml, hown, hts⟩ hM (cwV (ws' := TB) as.length hts ?_ rfl rfl rfl ⟨rfl, i4.1, i4.2, ?_⟩ ⟨?_, ?_⟩) ⟨OP_blind, hrecv, ?_⟩ rfl (by simp) h1.1 ?_ ?_ hd ⟨by omega, by omega⟩
    · intro w hw
      simp only [wsV, List.cons_append, List.nil_append, List.mem_cons] at hw
      rcases hw with rfl | rfl | rfl | rfl | hw
      · exact ⟨tb_mem hlink rfl, good_of_word rfl⟩
      · exact ⟨tb_mem hinst rfl, good_of_word rfl⟩
      · exact ⟨tb_mem hsel rfl, good_of_word rfl⟩
      · exact ⟨tb_mem i1 rfl, good_of_word rfl⟩
      · exact goodTB mm hlt w hw
    · rw [hdesc]; congr 1; omega
    · exact hR.1
    · show 8 + (mL mm + 11) + 64 * d ≤ R.locals
      omega
    · have := ex_U X h2 h3 (as := (t, Value.ref a) :: as)
      simpa [cv] using this
    · simp [cv, List.map_reverse]
    · show 2 * 0 + ((rest.map (cv (ga g))).map fun v => v.category).sum ≤ 8
      rw [rcat_map]; omega
theorem wt_callV (X : FX p R s m args c nc ns (ga g) (gc g) (gD g) (gB g) (gL g) (gx g) cc nL ow) (hk : kok cc K) (hf : fetch K pc = some (.invokevirtual i)) (hm : mr ow i = some (0, mm)) {t a : Nat} {as : List AV} (hst : st = as.reverse ++ (t, .ref a) :: rest) (ht : t = mO mm + 1) (ht2 : t ≤ 12) (hn : as.length + 1 = (mA mm).length) (hr : rcat rest ≤ 8) (hR : d + 1 ≤ R.frames ∧ 64 * (d + 1) ≤ R.locals) (hg : GD nL (gL g) (gx g) (pc, lo, st, σ)) (hO : Ok g d mm ((t, .ref a) :: as) σ r σ1) :
    (GD nL (gL g) (gx g) (pc + 3, lo, rp r ++ rest, σ1) → WT p (gl g) e R s m args below meth c nc ns Q (ga g) (gc g) (gD g) (gB g) nL (pc + 3, lo, rp r ++ rest, σ1)) → (WT p (gl g) e R s m args below meth c nc ns Q (ga g) (gc g) (gD g) (gB g) nL (pc, lo, st, σ)) := by
  refine wt_callV0 X hk hf hm hst ?_ hn hr hR hg hO
  intro H locs h2 h3
  obtain ⟨hx, hb, hml, hown, hts, hK, hE, hA, hR0, hc1, hc2, how, hL⟩ := id X
  obtain ⟨w, hw⟩ := look_mem hm
  have hlt := mr_lt ow how _ hw
  obtain ⟨i1, i2, i3, i4⟩ := mt_init mm hlt
  have hka := (hg.2.2.1 (t, .ref a) (by rw [hst]; simp) a rfl).1
  simp only at hka
  have ha : a < 173 := kd_lt hka (by omega) (by omega)
  have he := wsl_get (ad := ga g) (cA := gc g) (σ := σ) ha
  rw [cex_obj (by omega), hka] at he
  have hrecv := va_recv hK h2 (cl_at (t - 1) (by omega)) he
  have hcls : cR (t - 1) = (mY mm).cls := by rw [i2]; congr 1; omega
  simp only [hcls] at hrecv
  exact hrecv
theorem kd_30 {a : Nat} (h : kd a = 30) : ∃ j, j < 4 ∧ a = 950 + j := by
  by_cases hc : a < 173
  · have := kd_in a hc; omega
  · unfold kd at h
    have hb : Nat.blt a 173 = false := by
      cases hb : Nat.blt a 173 with
      | false => rfl
      | true => exact absurd (by simpa [Nat.blt_eq] using hb) hc
    rw [hb] at h
    simp only at h
    split at h
    · omega
    · split at h
      · exact ⟨a - 950, by omega, by omega⟩
      · split at h <;> omega
theorem wt_callT (X : FX p R s m args c nc ns (ga g) (gc g) (gD g) (gB g) (gL g) (gx g) cc nL ow) (hk : kok cc K) (hf : fetch K pc = some (.invokevirtual i)) (hm : mr ow i = some (0, mm)) {a : Nat} {as : List AV} (hst : st = as.reverse ++ (30, .ref a) :: rest) (ht : mO mm = 13) (hn : as.length + 1 = (mA mm).length) (hr : rcat rest ≤ 8) (hR : d + 1 ≤ R.frames ∧ 64 * (d + 1) ≤ R.locals) (hg : GD nL (gL g) (gx g) (pc, lo, st, σ)) (hO : Ok g d mm ((30, .ref a) :: as) σ r σ1) :
    (GD nL (gL g) (gx g) (pc + 3, lo, rp r ++ rest, σ1) → WT p (gl g) e R s m args below meth c nc ns Q (ga g) (gc g) (gD g) (gB g) nL (pc + 3, lo, rp r ++ rest, σ1)) → (WT p (gl g) e R s m args below meth c nc ns Q (ga g) (gc g) (gD g) (gB g) nL (pc, lo, st, σ)) := by
  refine wt_callV0 X hk hf hm hst ?_ hn hr hR hg hO
  intro H locs h2 h3
  obtain ⟨hx, hb, hml, hown, hts, hK, hE, hA, hR0, hc1, hc2, how, hL⟩ := id X
  obtain ⟨w, hw⟩ := look_mem hm
  have hlt := mr_lt ow how _ hw
  obtain ⟨i1, i2, i3, i4⟩ := mt_init mm hlt
  have hka := (hg.2.2.1 (30, .ref a) (by rw [hst]; simp) a rfl).1
  simp only at hka
  obtain ⟨j, hj, rfl⟩ := kd_30 hka
  obtain ⟨-, -, -, -, ⟨adV, h7⟩, -⟩ := hE
  have := vk_recv h7 hj h3
  rw [i2, ht]
  exact this
theorem wt_callS (X : FX p R s m args c nc ns (ga g) (gc g) (gD g) (gB g) (gL g) (gx g) cc nL ow) (hk : kok cc K) (hf : fetch K pc = some (.invokestatic i)) {kk : Nat} (hm : mr ow i = some (kk, mm)) (hkk : kk = 1 ∨ kk = 2) {as : List AV} (hst : st = as.reverse ++ rest) (hn : as.length = (mA mm).length) (hr : rcat rest ≤ 8) (hR : d + 1 ≤ R.frames ∧ 64 * (d + 1) ≤ R.locals) (hg : GD nL (gL g) (gx g) (pc, lo, st, σ)) (hO : Ok g d mm as σ r σ1) :
    (GD nL (gL g) (gx g) (pc + 3, lo, rp r ++ rest, σ1) → WT p (gl g) e R s m args below meth c nc ns Q (ga g) (gc g) (gD g) (gB g) nL (pc + 3, lo, rp r ++ rest, σ1)) → (WT p (gl g) e R s m args below meth c nc ns Q (ga g) (gc g) (gD g) (gB g) nL (pc, lo, st, σ)) := by
  obtain ⟨hx, hb, hml, hown, hts, hK, hE, hA, hR0, hc1, hc2, how, hL⟩ := id X
  obtain ⟨len, hmem⟩ := fetch_mem hf
  obtain ⟨hd, hlen⟩ := hk _ hmem
  have hlen := eq_of_beq (show (len == il (.invokestatic i)) = true from hlen)
  subst hlen
  subst hst
  obtain ⟨w, hw⟩ := look_mem hm
  have h1' := mr_ok1 ow how _ hw
  have h2' := mr_ok2 ow how _ hw
  have hlt := mr_lt ow how _ hw
  have hstt := mr_ok12 ow how _ hw hkk
  simp only at h1' h2' hlt hstt
  obtain ⟨i1, i2, i3, i4⟩ := mt_init mm hlt
  have hdesc := mt_desc mm hlt
  have hstat := mt_stat mm hlt
  rw [hstt] at hdesc hstat
  simp only [if_true] at hdesc hstat
  have hv : ∀ v ∈ as, vok v := fun v hv => hg.2.2.1 v (List.mem_append_left _ (List.mem_reverse.mpr hv))
  have hM := hO hA hL hv hg.2.2.2
  have hdd : (mY mm).cls ≠ "java/lang/invoke/MethodHandle" ∧ (mY mm).cls ≠ "java/lang/invoke/VarHandle" ∧ (parseMethodDescriptor (mY mm).desc).map (fun d => d.parameters.length) = some as.length := ⟨i4.1, i4.2, by rw [hdesc, hn]; rfl⟩
  have hRR : (rmD d).frames + 1 ≤ R.frames ∧ 8 + (mL mm + 11) + (rmD d).locals ≤ R.locals := ⟨hR.1, by show 8 + (mL mm + 11) + 64 * d ≤ R.locals; omega⟩
  refine (fun z k H locs ls h1 h2 h3 => z k H locs ls h1 h2 h3) (wt_after (e := e) (below := below) (meth := meth) (Q := Q) (pc := pc) (rest := rest) (r := r) (σ1 := σ1) (st0 := (as.reverse ++ rest).map (cv (ga g))) (a := (as.map (cv (ga g))).toArray) X ⟨hg.1, hg.2.1, fun v hv => hg.2.2.1 v (List.mem_append_right _ hv), hg.2.2.2⟩ ?_)
  · intro H locs ls h1 h2 h3
    have hpre : PreS s H (OP g as σ) (as.map (cv (ga g))) := ⟨OP_blind, ex_U X h2 h3⟩
    have hstk : ((as.reverse ++ rest).map (cv (ga g))) = (as.map (cv (ga g))).reverse ++ rest.map (cv (ga g)) := by simp [List.map_reverse]
    have hroom : 2 * 0 + ((rest.map (cv (ga g))).map fun v => v.category).sum ≤ 8 := by rw [rcat_map]; omega
    rcases hkk with rfl | rfl
    · refine va_runS (n := as.length) (As := as.map (cv (ga g))) ⟨hx, hb, hml, hown, hts⟩ hM ⟨callB_of (ws' := TB) as.length hts (goodTB mm hlt) rfl rfl rfl (hts _ (tb_mem i1 rfl)) (hts _ (tb_mem (h1' rfl) rfl)) hdd hRR, hts _ (tb_mem hstat rfl)⟩ hpre rfl (by simp) h1.1 hstk hroom hd ⟨by omega, by omega⟩
    · refine va_runSN (n := as.length) (As := as.map (cv (ga g))) ⟨hx, hb, hml, hown, hts⟩ hM ⟨va_cnB (ws' := TB) as.length hts (goodTB mm hlt) rfl rfl rfl (hE.2.2.1 _ (h2' rfl)) (hts _ (tb_mem i1 rfl)) hdd hRR, hts _ (tb_mem hstat rfl), trivial⟩ hpre rfl (by simp) h1.1 hstk hroom hd ⟨by omega, by omega⟩
end CLL
end
section
-- a method by its number, owner, room for names, bytes, answer, code table
abbrev MI : Type := Nat × Nat × Nat × ByteArray × Option FieldType × List (Nat × Instr × Nat)
abbrev iN (I : MI) : Nat := I.1
abbrev iO (I : MI) : Nat := I.2.1
abbrev iL (I : MI) : Nat := I.2.2.1
abbrev iC (I : MI) : ByteArray := I.2.2.2.1
abbrev iR (I : MI) : Option FieldType := I.2.2.2.2.1
abbrev iK (I : MI) : List (Nat × Instr × Nat) := I.2.2.2.2.2
def MIok (I : MI) : Prop := iN I < 260 ∧ mO (iN I) = iO I ∧ mL (iN I) = iL I ∧ mC (iN I) = iC I ∧ mR (iN I) = iR I ∧ kok (iC I) (iK I) ∧ iO I < 17
def WC (g : GP) (I : MI) (d : Nat) (r : Option Int32) (σ' : Sg) (q : AS) : Prop :=
  ∀ (p : Program) (e : Env) (s : State) (m : MethodId) (args : Array Value) (below : List Frame) (meth : Method) (c : Code), FX p (rmD d) s m args c 0 0 (ga g) (gc g) (gD g) (gB g) (gL g) (gx g) (iC I) (iL I) (iO I) → meth.sig.returnType = iR I → meth.locks = false → GD (iL I) (gL g) (gx g) q →
    WT p (gl g) e (rmD d) s m args below meth c 0 0 (MQ below (OQ g r σ') args s 0 0 (fun q => gB g ≤ q)) (ga g) (gc g) (gD g) (gB g) (iL I) q
def WR (g : GP) (I : MI) (d : Nat) (q : AS) (o : Option (Option Int32 × Sg)) : Prop := MIok I → ∀ r σ', o = some (r, σ') → WC g I d r σ' q
section WCS
variable {g : GP} {I : MI} {d : Nat} {r : Option Int32} {σ' : Sg} {q q1 q2 : AS} {o o1 o2 : Option (Option Int32 × Sg)}
theorem wc_run (hI : MIok I) (n : Nat) (h : run (gL g) (iO I) (iK I) n q = some q1) (k : WC g I d r σ' q1) : WC g I d r σ' q := by
  intro p e s m args below meth c X hr hl hg
  obtain ⟨-, -, -, -, -, hk, -⟩ := hI
  obtain ⟨g1, k1⟩ := run_ok (l := gl g) (e := e) (below := below) (meth := meth) (Q := MQ below (OQ g r σ') args s 0 0 (fun q => gB g ≤ q)) hk X n q q1 hg h
  exact k1 (k p e s m args below meth c X hr hl g1)
theorem wr_go (n : Nat) (h : run (gL g) (iO I) (iK I) n q = some q1) (k : WR g I d q1 o) : WR g I d q o := fun hI r σ' ho => wc_run hI n h (k hI r σ' ho)
theorem wr_if {c : Prop} {dc : Decidable c} (n : Nat) (h : run (gL g) (iO I) (iK I) n q = @ite _ c dc (some q1) (some q2)) (k1 : c → WR g I d q1 o1) (k2 : ¬ c → WR g I d q2 o2) : WR g I d q (@ite _ c dc o1 o2) := by
  intro hI r σ' ho
  by_cases hc : c
  · rw [if_pos hc] at h ho
    exact wc_run hI n h (k1 hc hI r σ' ho)
  · rw [if_neg hc] at h ho
    exact wc_run hI n h (k2 hc hI r σ' ho)
theorem wr_ck {c : Prop} {dc : Decidable c} (n : Nat) (h : run (gL g) (iO I) (iK I) n q = @ite _ c dc (some q1) none) (k1 : c → WR g I d q1 o1) : WR g I d q (@ite _ c dc o1 none) := by
  intro hI r σ' ho
  by_cases hc : c
  · rw [if_pos hc] at h ho
    exact wc_run hI n h (k1 hc hI r σ' ho)
  · rw [if_neg hc] at ho; cases ho
theorem wr_nk {c : Prop} {dc : Decidable c} (n : Nat) (h : run (gL g) (iO I) (iK I) n q = @ite _ c dc none (some q1)) (k1 : ¬ c → WR g I d q1 o1) : WR g I d q (@ite _ c dc none o1) := by
  intro hI r σ' ho
  by_cases hc : c
  · rw [if_pos hc] at ho; cases ho
  · rw [if_neg hc] at h ho
    exact wc_run hI n h (k1 hc hI r σ' ho)
def dro (a b : LO) : Prop := match a, b with
  | [], [] => True
  | x :: a, y :: b => (y = none ∨ y = x) ∧ dro a b
  | _, _ => False
theorem dro_lg {a b : LO} (h : dro a b) : a.length = b.length ∧ ∀ i v, lg b i = some v → lg a i = some v := by
  induction a generalizing b with
  | nil =>
    cases b with
    | nil => exact ⟨rfl, fun _ _ h => h⟩
    | cons y b => simp [dro] at h
  | cons x a ih =>
    cases b with
    | nil => simp [dro] at h
    | cons y b =>
      simp only [dro] at h
      obtain ⟨h1, h2⟩ := h
      obtain ⟨i1, i2⟩ := ih h2
      refine ⟨by simp [i1], fun i v hv => ?_⟩
      cases i with
      | zero =>
        simp only [lg] at hv ⊢
        rcases h1 with rfl | rfl
        · cases hv
        · exact hv
      | succ n => simp only [lg] at hv ⊢; exact i2 n v hv
theorem mem_lg {l : LO} {v : AV} (h : some v ∈ l) : ∃ i, lg l i = some v := by
  induction l with
  | nil => cases h
  | cons a l ih =>
    rcases List.mem_cons.mp h with h | h
    · exact ⟨0, by simp [lg, h]⟩
    · obtain ⟨i, hi⟩ := ih h
      exact ⟨i + 1, by simpa [lg] using hi⟩
theorem wr_dro {pc : Nat} {lo lo' : LO} {st : List AV} {σ : Sg} (h : dro lo lo') (k : WR g I d (pc, lo', st, σ) o) : WR g I d (pc, lo, st, σ) o := by
  intro hI r σ' ho p e s m args below meth c X hr hl hg
  obtain ⟨h1, h2⟩ := dro_lg h
  have b := k hI r σ' ho p e s m args below meth c X hr hl ⟨by rw [← hg.1]; exact h1.symm, fun v hv => by
    obtain ⟨i, hi⟩ := mem_lg hv
    exact hg.2.1 v (lg_mem (h2 i v hi)), hg.2.2.1, hg.2.2.2⟩
  refine fun H locs ls l1 l2 l3 => b H locs ls ⟨l1.1, l1.2.1, fun z hz => ?_⟩ l2 l3
  obtain ⟨i, v, e1, e2⟩ := prs_lg hz
  rw [e1]
  exact l1.2.2 _ (prs_mem (h2 i v e2))
theorem wr_callV {pc i mm t a : Nat} {lo : LO} {st rest as : List AV} {σ : Sg} {oc : Option (Option Int32 × Sg)} {f : Option Int32 → Sg → Option (Option Int32 × Sg)} (hf : fetch (iK I) pc = some (.invokevirtual i)) (hm : mr (iO I) i = some (0, mm)) (hst : st = as.reverse ++ (t, .ref a) :: rest) (ht : t = mO mm + 1 ∧ t ≤ 12) (hn : as.length + 1 = (mA mm).length) (hr : rcat rest ≤ 8)
    (hO : ∀ r σ1, oc = some (r, σ1) → Ok g d mm ((t, .ref a) :: as) σ r σ1) (k : ∀ r σ1, oc = some (r, σ1) → WR g I (d + 1) (pc + 3, lo, rp r ++ rest, σ1) (f r σ1)) : WR g I (d + 1) (pc, lo, st, σ) (oc.bind (fun z => f z.1 z.2)) := by
  intro hI r σ' ho
  cases hoc : oc with
  | none => rw [hoc] at ho; cases ho
  | some z =>
    obtain ⟨r1, σ1⟩ := z
    rw [hoc] at ho
    intro p e s m args below meth c X hr' hl hg
    obtain ⟨-, -, -, -, -, hk, -⟩ := id hI
    have k1 := wt_callV (g := g) (e := e) (below := below) (meth := meth) (Q := MQ below (OQ g r σ') args s 0 0 (fun q => gB g ≤ q)) (d := d) (r := r1) (σ1 := σ1) X hk hf hm hst ht.1 ht.2 hn hr ⟨Nat.le_refl _, Nat.le_refl _⟩ hg (hO r1 σ1 hoc)
    exact k1 (fun g1 => k r1 σ1 hoc hI r σ' ho p e s m args below meth c X hr' hl g1)
theorem wr_callT {pc i mm a : Nat} {lo : LO} {st rest as : List AV} {σ : Sg} {oc : Option (Option Int32 × Sg)} {f : Option Int32 → Sg → Option (Option Int32 × Sg)} (hf : fetch (iK I) pc = some (.invokevirtual i)) (hm : mr (iO I) i = some (0, mm)) (hst : st = as.reverse ++ (30, .ref a) :: rest) (ht : mO mm = 13) (hn : as.length + 1 = (mA mm).length) (hr : rcat rest ≤ 8)
    (hO : ∀ r σ1, oc = some (r, σ1) → Ok g d mm ((30, .ref a) :: as) σ r σ1) (k : ∀ r σ1, oc = some (r, σ1) → WR g I (d + 1) (pc + 3, lo, rp r ++ rest, σ1) (f r σ1)) : WR g I (d + 1) (pc, lo, st, σ) (oc.bind (fun z => f z.1 z.2)) := by
  intro hI r σ' ho
  cases hoc : oc with
  | none => rw [hoc] at ho; cases ho
  | some z =>
    obtain ⟨r1, σ1⟩ := z
    rw [hoc] at ho
    intro p e s m args below meth c X hr' hl hg
    obtain ⟨-, -, -, -, -, hk, -⟩ := id hI
    have k1 := wt_callT (g := g) (e := e) (below := below) (meth := meth) (Q := MQ below (OQ g r σ') args s 0 0 (fun q => gB g ≤ q)) (d := d) (r := r1) (σ1 := σ1) X hk hf hm hst ht hn hr ⟨Nat.le_refl _, Nat.le_refl _⟩ hg (hO r1 σ1 hoc)
    exact k1 (fun g1 => k r1 σ1 hoc hI r σ' ho p e s m args below meth c X hr' hl g1)
theorem wr_callS {pc i mm kk : Nat} {lo : LO} {st rest as : List AV} {σ : Sg} {oc : Option (Option Int32 × Sg)} {f : Option Int32 → Sg → Option (Option Int32 × Sg)} (hf : fetch (iK I) pc = some (.invokestatic i)) (hm : mr (iO I) i = some (kk, mm)) (hkk : kk = 1 ∨ kk = 2) (hst : st = as.reverse ++ rest) (hn : as.length = (mA mm).length) (hr : rcat rest ≤ 8)
    (hO : ∀ r σ1, oc = some (r, σ1) → Ok g d mm as σ r σ1) (k : ∀ r σ1, oc = some (r, σ1) → WR g I (d + 1) (pc + 3, lo, rp r ++ rest, σ1) (f r σ1)) : WR g I (d + 1) (pc, lo, st, σ) (oc.bind (fun z => f z.1 z.2)) := by
  intro hI r σ' ho
  cases hoc : oc with
  | none => rw [hoc] at ho; cases ho
  | some z =>
    obtain ⟨r1, σ1⟩ := z
    rw [hoc] at ho
    intro p e s m args below meth c X hr' hl hg
    obtain ⟨-, -, -, -, -, hk, -⟩ := id hI
    have k1 := wt_callS (g := g) (e := e) (below := below) (meth := meth) (Q := MQ below (OQ g r σ') args s 0 0 (fun q => gB g ≤ q)) (d := d) (r := r1) (σ1 := σ1) X hk hf hm hkk hst hn hr ⟨Nat.le_refl _, Nat.le_refl _⟩ hg (hO r1 σ1 hoc)
    exact k1 (fun g1 => k r1 σ1 hoc hI r σ' ho p e s m args below meth c X hr' hl g1)
theorem wr_iret {pc : Nat} {lo : LO} {t : Nat} {v : Int32} {σ : Sg} {ty : FieldType} (hf : fetch (iK I) pc = some .ireturn) (hty : iR I = some ty) (hn : narrow ty (.int v) = .int v) : WR g I d (pc, lo, [(t, .int v)], σ) (some (some v, σ)) := by
  intro hI r σ' ho p e s m args below meth c X hr hl hg
  cases ho
  obtain ⟨-, -, -, -, -, hk, -⟩ := hI
  obtain ⟨len, hmem⟩ := fetch_mem hf
  obtain ⟨hd, hlen⟩ := hk _ hmem
  have hlen := eq_of_beq (show (len == il .ireturn) = true from hlen)
  subst hlen
  refine fun H locs ls h1 h2 h3 => ?_
  exact W.zret X.1 X.2.1 (by rw [hr, hty]) hn (fun t ht hW => ⟨rfl, hg.2.2.2, by rw [ht]; exact h2, h3.F ht⟩) h3.2.2 hd hl
theorem wr_vret {pc : Nat} {lo : LO} {σ : Sg} (hf : fetch (iK I) pc = some .return_) (hty : iR I = none) : WR g I d (pc, lo, [], σ) (some (none, σ)) := by
  intro hI r σ' ho p e s m args below meth c X hr hl hg
  cases ho
  obtain ⟨-, -, -, -, -, hk, -⟩ := hI
  obtain ⟨len, hmem⟩ := fetch_mem hf
  obtain ⟨hd, hlen⟩ := hk _ hmem
  have hlen := eq_of_beq (show (len == il .return_) = true from hlen)
  subst hlen
  refine fun H locs ls h1 h2 h3 => ?_
  exact W.vret X.1 X.2.1 (by rw [hr, hty]) (fun t ht hW => ⟨rfl, hg.2.2.2, by rw [ht]; exact h2, h3.F ht⟩) h3.2.2 hd hl
end WCS
def lent (as : List AV) : LO := match as with
  | [] => []
  | v :: r => if v.2.category = 2 then some v :: none :: lent r else some v :: lent r
def ent (n : Nat) (as : List AV) : LO := lent as ++ List.replicate (n - (lent as).length) none
theorem cv_cat {ad : Nat → Nat} {v : AV} : (cv ad v).category = v.2.category := by
  obtain ⟨t, v⟩ := v
  cases v <;> rfl
theorem lent_args {ad : Nat → Nat} (k : Nat) : ∀ (as : List AV) (i : Nat), prs ad i (lent as ++ List.replicate k none) = lv_args i (as.map (cv ad)) := by
  intro as
  induction as with
  | nil =>
    intro i
    simp only [lent, List.nil_append, List.map_nil, lv_args]
    induction k generalizing i with
    | zero => rfl
    | succ k ih => simp only [List.replicate_succ, prs]; exact ih (i + 1)
  | cons v r ih =>
    intro i
    simp only [lent, List.map_cons, lv_args, cv_cat]
    split
    · simp only [List.cons_append, prs, ih]
    · simp only [List.cons_append, prs, ih]
theorem lent_len {ad : Nat → Nat} : ∀ as : List AV, (lg_sl (as.map (cv ad))).length = (lent as).length := by
  intro as
  induction as with
  | nil => rfl
  | cons v r ih =>
    simp only [lg_sl, List.map_cons, List.flatMap_cons, List.length_append, cv_cat, lent] at ih ⊢
    split
    · simp only [List.length_cons, List.length_nil]; omega
    · simp only [List.length_cons, List.length_nil]; omega
theorem lent_mem {as : List AV} {v : AV} (h : some v ∈ lent as) : v ∈ as := by
  induction as with
  | nil => cases h
  | cons w r ih =>
    simp only [lent] at h
    split at h
    · simp only [List.mem_cons, Option.some.injEq, reduceCtorEq, false_or] at h
      rcases h with h | h
      · rw [h]; exact List.mem_cons_self
      · exact List.mem_cons_of_mem _ (ih h)
    · simp only [List.mem_cons, Option.some.injEq] at h
      rcases h with h | h
      · rw [h]; exact List.mem_cons_self
      · exact List.mem_cons_of_mem _ (ih h)
theorem ent_mem {n : Nat} {as : List AV} {v : AV} (h : some v ∈ ent n as) : v ∈ as := by
  unfold ent at h
  rcases List.mem_append.mp h with h | h
  · exact lent_mem h
  · have := List.eq_of_mem_replicate h
    cases this
set_option maxHeartbeats 2000000 in
theorem ok_of {g : GP} {I : MI} {d : Nat} {as : List AV} {σ : Sg} {o : Option (Option Int32 × Sg)} (hI : MIok I) (hd : 1 ≤ d) (hlen : (lent as).length ≤ iL I) (k : WR g I d (0, ent (iL I) as, [], σ) o) : ∀ r σ', o = some (r, σ') → Ok g d (iN I) as σ r σ' := by
  intro r σ' ho hA hL hv hS
  have kk := k hI r σ' ho
  obtain ⟨hlt, hO, hmL, hmC, hmR, hk, how⟩ := id hI
  have hgd : GD (iL I) (gL g) (gx g) (0, ent (iL I) as, [], σ) := by
    refine ⟨?_, fun v hv' => hv v (ent_mem hv'), fun v hv' => absurd hv' List.not_mem_nil, hS⟩
    simp only [ent, List.length_append, List.length_replicate]; omega
  have hmt := mt_init (iN I) (by omega)
  have body : ∀ p e s m args below meth c s₁, BodyLoose p (gl g) (mY (iN I)) (headSpec (mW (iN I)) (rmD d)) (mC (iN I)) (mL (iN I)) (mR (iN I)) e s m args below meth c s₁ → c.maxLocals = mL (iN I) → OP g as σ args s → W p (gl g) e (headSpec (mW (iN I)) (rmD d)).room s m args below meth c s.heap [] 0 0 (MQ below (OQ g r σ') args s 0 0 (fun q => gB g ≤ q)) (entryFrame m args (mL (iN I))) := by
    intro p e s m args below meth c s₁ B hml hvp
    obtain ⟨rfl, hP, hK, hE⟩ := hvp
    have hts := atoms_spec (ws := mW (iN I)) B.pre
    have hown : s.vm.findClass (cR (iO I)) = some m.cls := by
      rw [← hO, ← hmt.2.1]; exact findClass_of_methodNamed B.named
    have X : FX p (rmD d) s m (as.map (cv (ga g))).toArray c 0 0 (ga g) (gc g) (gD g) (gB g) (gL g) (gx g) (iC I) (iL I) (iO I) := ⟨B.exec, by rw [← hmC]; exact B.bytes, by rw [hml, hmL], hown, fun w hw => hts w (List.mem_cons_of_mem _ hw), hK, hE, hA, ⟨hd, by show 64 ≤ 64 * d; omega⟩, Nat.zero_le _, Nat.zero_le _, how, hL⟩
    have b := kk p e s m _ below meth c X (by rw [← hmR]; exact B.returns) B.notSynchronized hgd
    rw [lg_entry_eq]
    have hl := lv_entry (as.map (cv (ga g))) (n := mL (iN I)) (by rw [lent_len, hmL]; exact hlen)
    rw [← lent_args (ad := ga g) (iL I - (lent as).length) as 0] at hl
    rw [hmL] at hl ⊢
    exact b s.heap [] _ hl hP va_S.rf
  refine Met.ofW (cc := mC (iN I)) (maxL := mL (iN I)) (ret := mR (iN I)) (mt_plain (iN I) (by omega)) rfl ?_
  intro p e s m args below meth c s₁ B hml hvp
  exact body p e s m args below meth c s₁ B hml hvp
end
section
abbrev RO : Type := Option (Int32 × Sg)
def lt {α β : Type} (v : α) (b : α → β) : β := b v
def FU : Nat := 4096
def bn (oc : RO) (f : Int32 → Sg → RO) : RO := oc.bind (fun z => f z.1 z.2)
def bv (oc : RO) (f : Sg → RO) : RO := oc.bind (fun z => f z.2)
abbrev ai (x : Int32) : Option AV := some (0, .int x)
abbrev ar (t c : Nat) : Option AV := some (t, .ref c)
abbrev al (x : Int64) : Option AV := some (0, .long x)
abbrev bi (x : Int32) : AV := (0, .int x)
abbrev br (t c : Nat) : AV := (t, .ref c)
abbrev bl (x : Int64) : AV := (0, .long x)
def rI (o : RO) : Option (Option Int32 × Sg) := o.map (fun z => (some z.1, z.2))
def rV (o : RO) : Option (Option Int32 × Sg) := o.map (fun z => (none, z.2))
def rX (t : Option FieldType) (o : RO) : Option (Option Int32 × Sg) := match t with
  | some _ => rI o
  | none => rV o
def WS (g : GP) (I : MI) (d : Nat) (q : AS) (o : RO) : Prop := WR g I d q (rX (iR I) o)
theorem rX_ite {t : Option FieldType} {c : Prop} {dc : Decidable c} {a b : RO} : rX t (@ite _ c dc a b) = @ite _ c dc (rX t a) (rX t b) := by
  by_cases h : c <;> simp [h]
theorem rX_none {t : Option FieldType} : rX t none = none := by cases t <;> rfl
theorem rX_bind {t : Option FieldType} {oc : RO} {f : Int32 → Sg → RO} : rX t (oc.bind (fun z => f z.1 z.2)) = (rI oc).bind (fun z => rX t (f (z.1.getD 0) z.2)) := by
  cases oc with
  | none => simp [rX_none, rI]
  | some z => simp [rI]
theorem rX_bindV {t : Option FieldType} {oc : RO} {f : Sg → RO} : rX t (oc.bind (fun z => f z.2)) = (rV oc).bind (fun z => rX t (f z.2)) := by
  cases oc with
  | none => simp [rX_none, rV]
  | some z => simp [rV]
section WSS
variable {g : GP} {I : MI} {d : Nat} {q q1 q2 : AS} {o o1 o2 : RO}
theorem ws_none : WS g I d q none := by
  intro hI r σ' ho
  rw [rX_none] at ho; cases ho
theorem ws_go (n : Nat) (h : run (gL g) (iO I) (iK I) n q = some q1) (k : WS g I d q1 o) : WS g I d q o := wr_go n h k
theorem ws_if {c : Prop} {dc : Decidable c} (n : Nat) (q1 q2 : AS) (h : run (gL g) (iO I) (iK I) n q = @ite _ c dc (some q1) (some q2)) (k1 : c → WS g I d q1 o1) (k2 : ¬ c → WS g I d q2 o2) : WS g I d q (@ite _ c dc o1 o2) := by
  unfold WS; rw [rX_ite]; exact wr_if n h k1 k2
theorem ws_ck {c : Prop} {dc : Decidable c} (n : Nat) (q1 : AS) (h : run (gL g) (iO I) (iK I) n q = @ite _ c dc (some q1) none) (k1 : c → WS g I d q1 o1) : WS g I d q (@ite _ c dc o1 none) := by
  unfold WS; rw [rX_ite, rX_none]; exact wr_ck n h k1
theorem ws_nk {c : Prop} {dc : Decidable c} (n : Nat) (q1 : AS) (h : run (gL g) (iO I) (iK I) n q = @ite _ c dc none (some q1)) (k1 : ¬ c → WS g I d q1 o1) : WS g I d q (@ite _ c dc none o1) := by
  unfold WS; rw [rX_ite, rX_none]; exact wr_nk n h k1
theorem ws_lt {α : Type} {v : α} {b : α → RO} (n : Nat) (qf : α → AS) (h : run (gL g) (iO I) (iK I) n q = some (qf v)) (k : ∀ y, WS g I d (qf y) (b y)) : WS g I d q (lt v b) := wr_go n h (k v)
theorem ws_lt0 {α : Type} {v : α} {b : α → RO} (qf : α → AS) (h : q = qf v) (k : ∀ y, WS g I d (qf y) (b y)) : WS g I d q (lt v b) := by subst h; exact k v
theorem ws_dro {pc : Nat} {lo lo' : LO} {st : List AV} {σ : Sg} (h : dro lo lo') (k : WS g I d (pc, lo', st, σ) o) : WS g I d (pc, lo, st, σ) o := wr_dro h k
theorem ws_callV {pc i mm t a : Nat} {lo : LO} {st : List AV} {σ : Sg} {oc : RO} {f : Int32 → Sg → RO} (as rest : List AV) (hf : fetch (iK I) pc = some (.invokevirtual i)) (hm : mr (iO I) i = some (0, mm)) (hst : st = as.reverse ++ (t, .ref a) :: rest) (ht : t = mO mm + 1 ∧ t ≤ 12) (hn : as.length + 1 = (mA mm).length) (hr : rcat rest ≤ 8)
    (hO : ∀ v σ1, oc = some (v, σ1) → Ok g d mm ((t, .ref a) :: as) σ (some v) σ1) (k : ∀ v σ1, WS g I (d + 1) (pc + 3, lo, bi v :: rest, σ1) (f v σ1)) : WS g I (d + 1) (pc, lo, st, σ) (bn oc f) := by
  cases oc with
  | none => exact ws_none
  | some z => exact wr_callV (f := fun r y => rX (iR I) (f (r.getD 0) y)) (oc := some (some z.1, z.2)) hf hm hst ht hn hr (fun r σ1 h => by cases h; exact hO z.1 z.2 rfl) (fun r σ1 h => by cases h; exact k z.1 z.2)
theorem ws_callT {pc i mm a : Nat} {lo : LO} {st : List AV} {σ : Sg} {oc : RO} {f : Int32 → Sg → RO} (as rest : List AV) (hf : fetch (iK I) pc = some (.invokevirtual i)) (hm : mr (iO I) i = some (0, mm)) (hst : st = as.reverse ++ (30, .ref a) :: rest) (ht : mO mm = 13) (hn : as.length + 1 = (mA mm).length) (hr : rcat rest ≤ 8)
    (hO : ∀ v σ1, oc = some (v, σ1) → Ok g d mm ((30, .ref a) :: as) σ (some v) σ1) (k : ∀ v σ1, WS g I (d + 1) (pc + 3, lo, bi v :: rest, σ1) (f v σ1)) : WS g I (d + 1) (pc, lo, st, σ) (bn oc f) := by
  cases oc with
  | none => exact ws_none
  | some z => exact wr_callT (f := fun r y => rX (iR I) (f (r.getD 0) y)) (oc := some (some z.1, z.2)) hf hm hst ht hn hr (fun r σ1 h => by cases h; exact hO z.1 z.2 rfl) (fun r σ1 h => by cases h; exact k z.1 z.2)
theorem ws_callVV {pc i mm t a : Nat} {lo : LO} {st : List AV} {σ : Sg} {oc : RO} {f : Sg → RO} (as rest : List AV) (hf : fetch (iK I) pc = some (.invokevirtual i)) (hm : mr (iO I) i = some (0, mm)) (hst : st = as.reverse ++ (t, .ref a) :: rest) (ht : t = mO mm + 1 ∧ t ≤ 12) (hn : as.length + 1 = (mA mm).length) (hr : rcat rest ≤ 8)
    (hO : ∀ v σ1, oc = some (v, σ1) → Ok g d mm ((t, .ref a) :: as) σ none σ1) (k : ∀ σ1, WS g I (d + 1) (pc + 3, lo, rest, σ1) (f σ1)) : WS g I (d + 1) (pc, lo, st, σ) (bv oc f) := by
  cases oc with
  | none => exact ws_none
  | some z => exact wr_callV (f := fun _ y => rX (iR I) (f y)) (oc := some (none, z.2)) hf hm hst ht hn hr (fun r σ1 h => by cases h; exact hO z.1 z.2 rfl) (fun r σ1 h => by cases h; exact k z.2)
theorem ws_callS {pc i mm kk : Nat} {lo : LO} {st : List AV} {σ : Sg} {oc : RO} {f : Int32 → Sg → RO} (as rest : List AV) (hf : fetch (iK I) pc = some (.invokestatic i)) (hm : mr (iO I) i = some (kk, mm)) (hkk : kk = 1 ∨ kk = 2) (hst : st = as.reverse ++ rest) (hn : as.length = (mA mm).length) (hr : rcat rest ≤ 8)
    (hO : ∀ v σ1, oc = some (v, σ1) → Ok g d mm as σ (some v) σ1) (k : ∀ v σ1, WS g I (d + 1) (pc + 3, lo, bi v :: rest, σ1) (f v σ1)) : WS g I (d + 1) (pc, lo, st, σ) (bn oc f) := by
  cases oc with
  | none => exact ws_none
  | some z => exact wr_callS (f := fun r y => rX (iR I) (f (r.getD 0) y)) (oc := some (some z.1, z.2)) hf hm hkk hst hn hr (fun r σ1 h => by cases h; exact hO z.1 z.2 rfl) (fun r σ1 h => by cases h; exact k z.1 z.2)
theorem ws_callSV {pc i mm kk : Nat} {lo : LO} {st : List AV} {σ : Sg} {oc : RO} {f : Sg → RO} (as rest : List AV) (hf : fetch (iK I) pc = some (.invokestatic i)) (hm : mr (iO I) i = some (kk, mm)) (hkk : kk = 1 ∨ kk = 2) (hst : st = as.reverse ++ rest) (hn : as.length = (mA mm).length) (hr : rcat rest ≤ 8)
    (hO : ∀ v σ1, oc = some (v, σ1) → Ok g d mm as σ none σ1) (k : ∀ σ1, WS g I (d + 1) (pc + 3, lo, rest, σ1) (f σ1)) : WS g I (d + 1) (pc, lo, st, σ) (bv oc f) := by
  cases oc with
  | none => exact ws_none
  | some z => exact wr_callS (f := fun _ y => rX (iR I) (f y)) (oc := some (none, z.2)) hf hm hkk hst hn hr (fun r σ1 h => by cases h; exact hO z.1 z.2 rfl) (fun r σ1 h => by cases h; exact k z.2)
def WO (g : GP) (I : MI) (d : Nat) (X : Option AS) (o : RO) : Prop := MIok I → ∀ r σ', rX (iR I) o = some (r, σ') → ∃ q', X = some q' ∧ WC g I d r σ' q'
theorem wo_some (k : WS g I d q o) : WO g I d (some q) o := fun hI r σ' h => ⟨q, rfl, k hI r σ' h⟩
theorem wo_ite {c : Prop} {dc : Decidable c} {X1 X2 : Option AS} (k1 : c → WO g I d X1 o1) (k2 : ¬ c → WO g I d X2 o2) : WO g I d (@ite _ c dc X1 X2) (@ite _ c dc o1 o2) := by
  intro hI r σ' h
  by_cases hc : c
  · rw [if_pos hc] at h ⊢; exact k1 hc hI r σ' h
  · rw [if_neg hc] at h ⊢; exact k2 hc hI r σ' h
theorem ws_of {X : Option AS} (n : Nat) (h : run (gL g) (iO I) (iK I) n q = X) (k : WO g I d X o) : WS g I d q o := by
  intro hI r σ' ho
  obtain ⟨q', hq, hk⟩ := k hI r σ' ho
  exact wc_run hI n (by rw [h, hq]) hk
theorem ws_iret {pc t : Nat} {lo : LO} {v : Int32} {σ : Sg} (hf : fetch (iK I) pc = some .ireturn) (hty : iR I = some .int) : WS g I d (pc, lo, [(t, .int v)], σ) (some (v, σ)) := by
  unfold WS; rw [hty]; exact wr_iret hf hty rfl
theorem ws_zret {pc t : Nat} {lo : LO} {v : Int32} {σ : Sg} (hf : fetch (iK I) pc = some .ireturn) (hty : iR I = some .boolean) (hv : narrow .boolean (.int v) = .int v) : WS g I d (pc, lo, [(t, .int v)], σ) (some (v, σ)) := by
  unfold WS; rw [hty]; exact wr_iret hf hty hv
theorem ws_zretc {pc t : Nat} {lo : LO} {v : Int32} {σ : Sg} (hf : fetch (iK I) pc = some .ireturn) (hty : iR I = some .boolean) : WS g I d (pc, lo, [(t, .int v)], σ) (if v = 0 ∨ v = 1 then some (v, σ) else none) := by
  by_cases h : v = 0 ∨ v = 1
  · rw [if_pos h]
    refine ws_zret hf hty ?_
    rcases h with rfl | rfl <;> decide
  · rw [if_neg h]; exact ws_none
theorem ws_vret {pc : Nat} {lo : LO} {σ : Sg} (hf : fetch (iK I) pc = some .return_) (hty : iR I = none) : WS g I d (pc, lo, [], σ) (some (0, σ)) := by
  unfold WS; rw [hty]; exact wr_vret hf hty
theorem ok_ofI {n : Nat} {lo : LO} {as : List AV} {σ : Sg} {ty : FieldType} (hI : MIok I) (hn : iN I = n) (hty : iR I = some ty) (hlen : Nat.ble (lent as).length (iL I) = true) (he : ent (iL I) as = lo) (k : WS g I (d + 1) (0, lo, [], σ) o) : ∀ v σ', o = some (v, σ') → Ok g (d + 1) n as σ (some v) σ' := by
  intro v σ' ho
  subst hn
  subst he
  refine ok_of hI (by omega) (Nat.le_of_ble_eq_true hlen) k (some v) σ' ?_
  rw [hty, ho]; rfl
theorem ok_ofV {n : Nat} {lo : LO} {as : List AV} {σ : Sg} (hI : MIok I) (hn : iN I = n) (hty : iR I = none) (hlen : Nat.ble (lent as).length (iL I) = true) (he : ent (iL I) as = lo) (k : WS g I (d + 1) (0, lo, [], σ) o) : ∀ v σ', o = some (v, σ') → Ok g (d + 1) n as σ none σ' := by
  intro v σ' ho
  subst hn
  subst he
  refine ok_of hI (by omega) (Nat.le_of_ble_eq_true hlen) k none σ' ?_
  rw [hty, ho]; rfl
end WSS
end
section
def sLen (c : Nat) : Nat := slen.getD (c - 950) 0
def sByt (c : Nat) : List Int32 := sbyt.getD (c - 950) []
def ixo (x : Int32) : List Int32 → Nat → Int32
  | [], _ => -1
  | b :: l, k => if b = x then nI k else ixo x l (k + 1)
def s_J0_length_8abf5 (σ : Sg) (c : Nat) : RO := some (nI (sLen c), σ)
def s_J0_charAt_5068e (σ : Sg) (c : Nat) (i : Int32) : RO := if inb i (sLen c) = true then some ((sByt c).getD i.toNatClampNeg 0, σ) else none
def s_J0_indexOf_0f7a4 (σ : Sg) (c : Nat) (x : Int32) : RO := some (ixo x (sByt c) 0, σ)
/- the JDK's own methods over the four texts: raw values, the kit's rows -/
def JF (y : MethodName) (b : ByteArray) (n : Nat) (r : Option FieldType) (ow : Nat) : Prop := Cond.code y b n r ∈ lw_tbl ∧ Cond.initialized y.cls ∈ TB ∧ y.cls = cR ow ∧ (y.cls ≠ "java/lang/invoke/MethodHandle" ∧ y.cls ≠ "java/lang/invoke/VarHandle") ∧ Jvm.plainFor y = true ∧ ow < 17 ∧ n ≤ 40
def jW (y : MethodName) (b : ByteArray) (n : Nat) (r : Option FieldType) : List Cond := Cond.code y b n r :: TB
theorem goodJ {y : MethodName} {b : ByteArray} {n ow : Nat} {r : Option FieldType} (F : JF y b n r ow) : GoodIn TB (jW y b n r) := by
  intro w hw
  rcases List.mem_cons.mp hw with rfl | h
  · exact ⟨List.mem_filter.mpr ⟨F.1, rfl⟩, good_of_word rfl⟩
  · exact ⟨h, good_of_word (List.mem_filter.mp h).2⟩
def OPx (g : GP) (vs : List Value) (Φ : State → Heap → Prop) (σ : Sg) : Array Value → State → Prop := va_Pc vs (fun U => va_P (gD g) cl12 (wsl (ga g) (gc g) σ) U.heap ∧ va_K (gD g) cl12 (tysL (gc g)) U ∧ Φ U U.heap)
def Φ0 (g : GP) : State → Heap → Prop := fun U H => EX (ga g) (gB g) (gL g) (gx g) U H
def BT (g : GP) (b j : Nat) (U : State) (H : Heap) : Prop := va_T .byte b (slen.getD j 0) (fun i => .int ((sbyt.getD j []).getD i 0)) (fun q => gB g ≤ q) U H
def Φ1 (g : GP) (b j : Nat) : State → Heap → Prop := fun U H => EX (ga g) (gB g) (gL g) (gx g) U H ∧ BT g b j U H
def Ph (g : GP) (Φ : State → Heap → Prop) : Prop := (∀ U H, Φ U H → EX (ga g) (gB g) (gL g) (gx g) U H) ∧ (∀ (s U : State) (H H1 : Heap), Φ s H → s.WarmedH U.vm → H.size ≤ H1.size → (∀ a : Nat, a < H.size → ¬ gB g ≤ a → H1[a]? = H[a]?) → Φ U H1) ∧ (∀ (a : Array Value) (U : State) (f : JFrame) (mk : MethodId), Φ U U.heap → Φ (U.calling f mk a) U.heap)
theorem EX_bl {g : GP} (a : Array Value) (U : State) (f : JFrame) (mk : MethodId) (qE : EX (ga g) (gB g) (gL g) (gx g) U U.heap) : EX (ga g) (gB g) (gL g) (gx g) (U.calling f mk a) U.heap := by
  obtain ⟨h1, h2, h3, ⟨h4, h5, h6⟩, ⟨adV, h7⟩, h8, h9⟩ := qE
  have ha : U.vm.Alike (U.calling f mk a).vm := Vm.Alike.refl U.vm
  refine ⟨fun j hj => ⟨(h1 j hj).1.moved ha, (h1 j hj).2.moved ha⟩, fun j hj => (h2 j hj).same rfl, ?_, ⟨h4.moved ha, h5, h6⟩, ⟨adV, h7.moved ha⟩, h8.moved ha, h9.moved ha⟩
  intro w hw
  have h3' := h3 w hw
  simp only [NW, List.mem_cons, List.not_mem_nil, or_false] at hw
  rcases hw with rfl | rfl | rfl | rfl <;> exact va_Nw.same rfl rfl h3'
theorem Ph0 (g : GP) : Ph g (Φ0 g) := ⟨fun _ _ h => h, fun _ _ _ _ h hW hz hq => EX.go h hW hz hq, fun a U f mk h => EX_bl a U f mk h⟩
theorem Ph1 (g : GP) (b j : Nat) : Ph g (Φ1 g b j) := by
  refine ⟨fun _ _ h => h.1, fun s U H H1 h hW hz hq => ⟨EX.go h.1 hW hz hq, ?_⟩, fun a U f mk h => ⟨EX_bl a U f mk h.1, ?_⟩⟩
  · exact va_T.kept (va_T.moved hW.alike h.2) hq
  · exact va_T.moved (Vm.Alike.refl U.vm) h.2
theorem OPx_bl {g : GP} {vs : List Value} {Φ : State → Heap → Prop} {σ : Sg} (h : Ph g Φ) : FrameBlind (OPx g vs Φ σ) := by
  intro a U f mk q
  obtain ⟨q0, qP, qK, qE⟩ := q
  exact ⟨q0, qP, va_K.moved (u := U) (U := U.calling f mk a) (Vm.Alike.refl U.vm) qK, h.2.2 a U f mk qE⟩
theorem Met_ofWF {l : Launch} {y : MethodName} {ws ws' : List Cond} {rm : Room} {Pc : Array Value → State → Prop} {Qc : Array Value → State → Outcome → State → Prop} {mc ms : Nat} {free : Addr → Prop} {cc : ByteArray} {maxL : Nat} {ret : Option FieldType}
    (hy : Jvm.plainFor y = true) (hw : ws = Cond.code y cc maxL ret :: ws')
    (body : ∀ p e s m args below meth c s₁, BodyLoose p l y (headSpec ws rm) cc maxL ret e s m args below meth c s₁ → c.maxLocals = maxL → Pc args s →
      W p l e (headSpec ws rm).room s m args below meth c s.heap [] 0 0 (MQ below Qc args s mc ms free) (entryFrame m args maxL)) : Met l y ws rm Pc Qc mc ms free := by
  refine Jvm.Free.MetFree.of_bodySF (code := cc) (maxLocals := maxL) (ret := ret) hy ?_ ?_
  · intro args s m h hn
    obtain ⟨meth, c, h1, h2, h3, h4, h5, h6, -, -⟩ := Cond.code_spec hn (atoms_spec (ws := ws) h _ (by rw [hw]; exact List.mem_cons_self))
    exact ⟨meth, c, h1, h2, h3, h4, h5, h6⟩
  · intro p e s m args below meth c s₁ B hml hP _
    have hh0 : s₁.heap = s.heap := by rw [B.state]; rfl
    obtain ⟨t, a1, o, b1, b2, b3⟩ := body p e s m args below meth c s₁ B hml hP s₁ hh0 (Stand.of_body B)
    exact ⟨t, o, a1, b1, b2, ⟨b3.1, b3.2⟩⟩
def Ox (g : GP) (d : Nat) (y : MethodName) (b : ByteArray) (n : Nat) (rr : Option FieldType) (vs : List Value) (Φ : State → Heap → Prop) (σ : Sg) (r : Option Int32) : Prop := Met (gl g) y (jW y b n rr) (rmD d) (OPx g vs Φ σ) (OQ g r σ) 0 0 (fun q => gB g ≤ q)
abbrev FJ (g : GP) (p : Program) (d : Nat) (s : State) (m : MethodId) (args : Array Value) (c : Code) (cc : ByteArray) (nL ow : Nat) : Prop := FX p (rmD d) s m args c 0 0 (ga g) (gc g) (gD g) (gB g) (gL g) (gx g) cc nL ow
def WJ (g : GP) (p : Program) (e : Env) (d : Nat) (s : State) (m : MethodId) (args : Array Value) (below : List Frame) (meth : Method) (c : Code) (Q : State → Prop) (nL : Nat) (σ : Sg) (pc : Nat) (lv : List (Nat × Value)) (st : List Value) : Prop :=
  ∀ (H : Heap) (locs : List Loc) (ls : Array Slot), lv_has ls nL lv → va_P (gD g) cl12 (wsl (ga g) (gc g) σ) H → va_S (fun x => gB g ≤ x) s.heap H locs → W p (gl g) e (rmD d) s m args below meth c H locs 0 0 Q (F0 m pc ls st)
def GG (g : GP) (σ : Sg) : Prop := ADok (ga g) (gB g) ∧ gL g < 2 ^ 31 ∧ SX (gL g) (gx g) σ
theorem okx_of {g : GP} {d : Nat} {y : MethodName} {b : ByteArray} {n ow : Nat} {rr : Option FieldType} {vs : List Value} {Φ : State → Heap → Prop} {σ : Sg} {r : Option Int32} (F : JF y b n rr ow) (hd : 1 ≤ d) (hP0 : Ph g Φ) (lv : List (Nat × Value)) (hlv : lv_args 0 vs = lv) (hlen : (lg_sl vs).length ≤ n) (G : GG g σ)
    (k : ∀ p e s m args below meth c, FJ g p d s m args c b n ow → meth.sig.returnType = rr → meth.locks = false → Φ s s.heap → WJ g p e d s m args below meth c (MQ below (OQ g r σ) args s 0 0 (fun q => gB g ≤ q)) n σ 0 lv []) : Ox g d y b n rr vs Φ σ r := by
  obtain ⟨hA, hL, hS⟩ := G
  refine Met_ofWF (cc := b) (maxL := n) (ret := rr) F.2.2.2.2.1 rfl ?_
  intro p e s m args below meth c s₁ B hml hvp
  obtain ⟨rfl, hP, hK, hE⟩ := hvp
  have hts := atoms_spec (ws := jW y b n rr) B.pre
  have hown : s.vm.findClass (cR ow) = some m.cls := by
    rw [← F.2.2.1]; exact findClass_of_methodNamed B.named
  have X : FJ g p d s m vs.toArray c b n ow := ⟨B.exec, B.bytes, hml, hown, fun w hw => hts w (List.mem_cons_of_mem _ hw), hK, hP0.1 _ _ hE, hA, ⟨hd, by show 64 ≤ 64 * d; omega⟩, Nat.zero_le _, Nat.zero_le _, F.2.2.2.2.2.1, hL⟩
  have b1 := k p e s m _ below meth c X B.returns B.notSynchronized hE
  rw [lg_entry_eq]
  subst hlv
  exact b1 s.heap [] _ (lv_entry vs hlen) hP va_S.rf
section JST
variable {g : GP} {p : Program} {e : Env} {s : State} {m : MethodId} {args : Array Value} {below : List Frame} {meth : Method} {c : Code} {Q : State → Prop} {cc : ByteArray} {nL ow d : Nat} {σ : Sg} {pc : Nat} {lv : List (Nat × Value)} {st : List Value}
theorem j_iconst (X : FJ g p d s m args c cc nL ow) {n : Int} {v : Int32} (hd : decode cc pc = .ok (.iconst n, 1)) (hv : Int32.ofInt n = v) (k : WJ g p e d s m args below meth c Q nL σ (pc + 1) lv (.int v :: st)) : WJ g p e d s m args below meth c Q nL σ pc lv st := fun H locs ls h1 h2 h3 => lv_iconst X.1 X.2.1 hd hv (k H locs ls h1 h2 h3)
theorem j_sipush (X : FJ g p d s m args c cc nL ow) {n : Int} {v : Int32} (hd : decode cc pc = .ok (.sipush n, 3)) (hv : (Int16.ofInt n).toInt32 = v) (k : WJ g p e d s m args below meth c Q nL σ (pc + 3) lv (.int v :: st)) : WJ g p e d s m args below meth c Q nL σ pc lv st := fun H locs ls h1 h2 h3 => lv_sipush X.1 X.2.1 hd hv (k H locs ls h1 h2 h3)
theorem j_iload_n (X : FJ g p d s m args c cc nL ow) {q : Fin 4} {i : Nat} {x : Int32} (hd : decode cc pc = .ok (.iload_n q, 1)) (hi : (q : Nat) = i) (hl : (i, Value.int x) ∈ lv) (k : WJ g p e d s m args below meth c Q nL σ (pc + 1) lv (.int x :: st)) : WJ g p e d s m args below meth c Q nL σ pc lv st := fun H locs ls h1 h2 h3 => lv_iload_n X.1 X.2.1 hd hi (h1.2.2 _ hl) (k H locs ls h1 h2 h3)
theorem j_iload (X : FJ g p d s m args c cc nL ow) {i : Nat} {x : Int32} (hd : decode cc pc = .ok (.iload i, 2)) (hl : (i, Value.int x) ∈ lv) (k : WJ g p e d s m args below meth c Q nL σ (pc + 2) lv (.int x :: st)) : WJ g p e d s m args below meth c Q nL σ pc lv st := fun H locs ls h1 h2 h3 => lv_iload X.1 X.2.1 hd (h1.2.2 _ hl) (k H locs ls h1 h2 h3)
theorem j_aload_n (X : FJ g p d s m args c cc nL ow) {q : Fin 4} {i x : Nat} (hd : decode cc pc = .ok (.aload_n q, 1)) (hi : (q : Nat) = i) (hl : (i, Value.ref x) ∈ lv) (k : WJ g p e d s m args below meth c Q nL σ (pc + 1) lv (.ref x :: st)) : WJ g p e d s m args below meth c Q nL σ pc lv st := fun H locs ls h1 h2 h3 => lv_aload_n X.1 X.2.1 hd hi (h1.2.2 _ hl) (k H locs ls h1 h2 h3)
theorem j_istore_n (X : FJ g p d s m args c cc nL ow) {q : Fin 4} {i : Nat} {x : Int32} {lv' : List (Nat × Value)} (hd : decode cc pc = .ok (.istore_n q, 1)) (hi : (q : Nat) = i) (hn : i < nL) (hl : (i, Value.int x) :: lv.filter (fun q => !(q.1 == i) && !(q.1 + 1 == i && q.2.category == 2)) = lv') (k : WJ g p e d s m args below meth c Q nL σ (pc + 1) lv' st) : WJ g p e d s m args below meth c Q nL σ pc lv (.int x :: st) := fun H locs ls h1 h2 h3 => lv_istore_n X.1 X.2.1 hd hi h1 hn hl (fun ls' h' => k H locs ls' h' h2 h3)
theorem j_istore (X : FJ g p d s m args c cc nL ow) {i : Nat} {x : Int32} {lv' : List (Nat × Value)} (hd : decode cc pc = .ok (.istore i, 2)) (hn : i < nL) (hl : (i, Value.int x) :: lv.filter (fun q => !(q.1 == i) && !(q.1 + 1 == i && q.2.category == 2)) = lv') (k : WJ g p e d s m args below meth c Q nL σ (pc + 2) lv' st) : WJ g p e d s m args below meth c Q nL σ pc lv (.int x :: st) := fun H locs ls h1 h2 h3 => lv_istore X.1 X.2.1 hd h1 hn hl (fun ls' h' => k H locs ls' h' h2 h3)
theorem j_iinc (X : FJ g p d s m args c cc nL ow) {i t : Nat} {n : Int} {x v : Int32} {lv' : List (Nat × Value)} (hd : decode cc pc = .ok (.iinc i n, 3)) (hk : lv[t]? = some (i, .int x)) (hv : x + Int32.ofInt n = v) (hn : i < nL) (hl : (i, Value.int v) :: lv.filter (fun q => !(q.1 == i) && !(q.1 + 1 == i && q.2.category == 2)) = lv') (k : WJ g p e d s m args below meth c Q nL σ (pc + 3) lv' st) : WJ g p e d s m args below meth c Q nL σ pc lv st := fun H locs ls h1 h2 h3 => lv_iinc X.1 X.2.1 hd h1 hk hv hn hl (fun ls' h' => k H locs ls' h' h2 h3)
theorem j_iand (X : FJ g p d s m args c cc nL ow) {x y : Int32} (hd : decode cc pc = .ok (.iand, 1)) (k : WJ g p e d s m args below meth c Q nL σ (pc + 1) lv (.int (x &&& y) :: st)) : WJ g p e d s m args below meth c Q nL σ pc lv (.int y :: .int x :: st) := fun H locs ls h1 h2 h3 => lv_iand X.1 X.2.1 hd (k H locs ls h1 h2 h3)
theorem j_ishr (X : FJ g p d s m args c cc nL ow) {x y : Int32} (hd : decode cc pc = .ok (.ishr, 1)) (k : WJ g p e d s m args below meth c Q nL σ (pc + 1) lv (.int (x >>> (y &&& 31)) :: st)) : WJ g p e d s m args below meth c Q nL σ pc lv (.int y :: .int x :: st) := fun H locs ls h1 h2 h3 => lv_ishr X.1 X.2.1 hd (k H locs ls h1 h2 h3)
theorem j_i2c (X : FJ g p d s m args c cc nL ow) {x v : Int32} (hd : decode cc pc = .ok (.i2c, 1)) (hv : (x.toUInt32 % 65536).toInt32 = v) (k : WJ g p e d s m args below meth c Q nL σ (pc + 1) lv (.int v :: st)) : WJ g p e d s m args below meth c Q nL σ pc lv (.int x :: st) := fun H locs ls h1 h2 h3 => lv_i2c X.1 X.2.1 hd hv (k H locs ls h1 h2 h3)
theorem j_i2b (X : FJ g p d s m args c cc nL ow) {x v : Int32} (hd : decode cc pc = .ok (.i2b, 1)) (hv : x.toInt8.toInt32 = v) (k : WJ g p e d s m args below meth c Q nL σ (pc + 1) lv (.int v :: st)) : WJ g p e d s m args below meth c Q nL σ pc lv (.int x :: st) := fun H locs ls h1 h2 h3 => lv_i2b X.1 X.2.1 hd hv (k H locs ls h1 h2 h3)
theorem j_pop (X : FJ g p d s m args c cc nL ow) {x : Int32} (hd : decode cc pc = .ok (.pop, 1)) (k : WJ g p e d s m args below meth c Q nL σ (pc + 1) lv st) : WJ g p e d s m args below meth c Q nL σ pc lv (.int x :: st) := fun H locs ls h1 h2 h3 => lv_pop X.1 X.2.1 hd rfl (k H locs ls h1 h2 h3)
theorem j_goto (X : FJ g p d s m args c cc nL ow) {off : Int} {tgt : Nat} (hd : decode cc pc = .ok (.goto off, 3)) (ht : (pc : Int) + off = (tgt : Int)) (k : WJ g p e d s m args below meth c Q nL σ tgt lv st) : WJ g p e d s m args below meth c Q nL σ pc lv st := fun H locs ls h1 h2 h3 => lv_goto X.1 X.2.1 hd ht (k H locs ls h1 h2 h3)
theorem j_ifeq (X : FJ g p d s m args c cc nL ow) {x : Int32} {off : Int} {tgt : Nat} (hd : decode cc pc = .ok (.ifCond .eq off, 3)) (ht : (pc : Int) + off = (tgt : Int)) (kt : x = 0 → WJ g p e d s m args below meth c Q nL σ tgt lv st) (kf : ¬ x = 0 → WJ g p e d s m args below meth c Q nL σ (pc + 3) lv st) : WJ g p e d s m args below meth c Q nL σ pc lv (.int x :: st) := fun H locs ls h1 h2 h3 => lv_if_eq X.1 X.2.1 hd ht (fun z => kt z H locs ls h1 h2 h3) (fun z => kf z H locs ls h1 h2 h3)
theorem j_ifne (X : FJ g p d s m args c cc nL ow) {x : Int32} {off : Int} {tgt : Nat} (hd : decode cc pc = .ok (.ifCond .ne off, 3)) (ht : (pc : Int) + off = (tgt : Int)) (kt : ¬ x = 0 → WJ g p e d s m args below meth c Q nL σ tgt lv st) (kf : x = 0 → WJ g p e d s m args below meth c Q nL σ (pc + 3) lv st) : WJ g p e d s m args below meth c Q nL σ pc lv (.int x :: st) := fun H locs ls h1 h2 h3 => lv_if_ne X.1 X.2.1 hd ht (fun z => kt z H locs ls h1 h2 h3) (fun z => kf z H locs ls h1 h2 h3)
theorem j_iflt (X : FJ g p d s m args c cc nL ow) {x : Int32} {off : Int} {tgt : Nat} (hd : decode cc pc = .ok (.ifCond .lt off, 3)) (ht : (pc : Int) + off = (tgt : Int)) (kt : x < 0 → WJ g p e d s m args below meth c Q nL σ tgt lv st) (kf : ¬ x < 0 → WJ g p e d s m args below meth c Q nL σ (pc + 3) lv st) : WJ g p e d s m args below meth c Q nL σ pc lv (.int x :: st) := fun H locs ls h1 h2 h3 => lv_if_lt X.1 X.2.1 hd ht (fun z => kt z H locs ls h1 h2 h3) (fun z => kf z H locs ls h1 h2 h3)
theorem j_clt (X : FJ g p d s m args c cc nL ow) {x y : Int32} {off : Int} {tgt : Nat} (hd : decode cc pc = .ok (.if_icmp .lt off, 3)) (ht : (pc : Int) + off = (tgt : Int)) (kt : x < y → WJ g p e d s m args below meth c Q nL σ tgt lv st) (kf : ¬ x < y → WJ g p e d s m args below meth c Q nL σ (pc + 3) lv st) : WJ g p e d s m args below meth c Q nL σ pc lv (.int y :: .int x :: st) := fun H locs ls h1 h2 h3 => lv_icmp_lt X.1 X.2.1 hd ht (fun z => kt z H locs ls h1 h2 h3) (fun z => kf z H locs ls h1 h2 h3)
theorem j_cgt (X : FJ g p d s m args c cc nL ow) {x y : Int32} {off : Int} {tgt : Nat} (hd : decode cc pc = .ok (.if_icmp .gt off, 3)) (ht : (pc : Int) + off = (tgt : Int)) (kt : y < x → WJ g p e d s m args below meth c Q nL σ tgt lv st) (kf : ¬ y < x → WJ g p e d s m args below meth c Q nL σ (pc + 3) lv st) : WJ g p e d s m args below meth c Q nL σ pc lv (.int y :: .int x :: st) := fun H locs ls h1 h2 h3 => lv_icmp_gt X.1 X.2.1 hd ht (fun z => kt z H locs ls h1 h2 h3) (fun z => kf z H locs ls h1 h2 h3)
theorem j_cge (X : FJ g p d s m args c cc nL ow) {x y : Int32} {off : Int} {tgt : Nat} (hd : decode cc pc = .ok (.if_icmp .ge off, 3)) (ht : (pc : Int) + off = (tgt : Int)) (kt : y ≤ x → WJ g p e d s m args below meth c Q nL σ tgt lv st) (kf : ¬ y ≤ x → WJ g p e d s m args below meth c Q nL σ (pc + 3) lv st) : WJ g p e d s m args below meth c Q nL σ pc lv (.int y :: .int x :: st) := fun H locs ls h1 h2 h3 => lv_icmp_ge X.1 X.2.1 hd ht (fun z => kt z H locs ls h1 h2 h3) (fun z => kf z H locs ls h1 h2 h3)
theorem j_cne (X : FJ g p d s m args c cc nL ow) {x y : Int32} {off : Int} {tgt : Nat} (hd : decode cc pc = .ok (.if_icmp .ne off, 3)) (ht : (pc : Int) + off = (tgt : Int)) (kt : ¬ x = y → WJ g p e d s m args below meth c Q nL σ tgt lv st) (kf : x = y → WJ g p e d s m args below meth c Q nL σ (pc + 3) lv st) : WJ g p e d s m args below meth c Q nL σ pc lv (.int y :: .int x :: st) := fun H locs ls h1 h2 h3 => lv_icmp_ne X.1 X.2.1 hd ht (fun z => kt z H locs ls h1 h2 h3) (fun z => kf z H locs ls h1 h2 h3)
theorem j_getf (X : FJ g p d s m args c cc nL ow) {i w q : Nat} {o n ds : String} {v : Value} (hE : va_OF o n ds v q (fun x => gB g ≤ x) s s.heap) (hlk : lw_tbl[w]? = some (Cond.fieldLink (cR ow) i o n ds)) (hd : decode cc pc = .ok (.getfield i, 3)) (k : WJ g p e d s m args below meth c Q nL σ (pc + 3) lv (v :: st)) : WJ g p e d s m args below meth c Q nL σ pc lv (.ref q :: st) := fun H locs ls h1 h2 h3 => vk_getf X.1 X.2.1 hE h3 X.2.2.2.1 (X.2.2.2.2.1 _ (tb_mem hlk rfl)) (fun _ h => h) hd (k H locs ls h1 h2 h3)
theorem j_gets (X : FJ g p d s m args c cc nL ow) {i w : Nat} {o n ds : String} {v : Value} (hZ : va_Z o n ds v (fun x => gB g ≤ x) s s.heap) (hlk : lw_tbl[w]? = some (Cond.fieldLink (cR ow) i o n ds)) (hd : decode cc pc = .ok (.getstatic i, 3)) (k : WJ g p e d s m args below meth c Q nL σ (pc + 3) lv (v :: st)) : WJ g p e d s m args below meth c Q nL σ pc lv st := fun H locs ls h1 h2 h3 => va_gets X.1 X.2.1 hZ h3 X.2.2.2.1 (X.2.2.2.2.1 _ (tb_mem hlk rfl)) (fun _ h => h) hd (k H locs ls h1 h2 h3)
theorem j_len (X : FJ g p d s m args c cc nL ow) {b j : Nat} (hT : BT g b j s s.heap) (hd : decode cc pc = .ok (.arraylength, 1)) (k : WJ g p e d s m args below meth c Q nL σ (pc + 1) lv (.int (Int32.ofNat (slen.getD j 0)) :: st)) : WJ g p e d s m args below meth c Q nL σ pc lv (.ref b :: st) := fun H locs ls h1 h2 h3 => va_tlen X.1 X.2.1 hT h3 rfl hd (k H locs ls h1 h2 h3)
theorem j_bald (X : FJ g p d s m args c cc nL ow) {b j : Nat} {i : Int32} (hT : BT g b j s s.heap) (hi : vp_in i (slen.getD j 0)) (hd : decode cc pc = .ok (.baload, 1)) (k : WJ g p e d s m args below meth c Q nL σ (pc + 1) lv (.int ((sbyt.getD j []).getD i.toNatClampNeg 0) :: st)) : WJ g p e d s m args below meth c Q nL σ pc lv (.int i :: .ref b :: st) := fun H locs ls h1 h2 h3 => va_tb X.1 X.2.1 hT h3 hi rfl hd (k H locs ls h1 h2 h3)
theorem j_max (X : FJ g p d s m args c cc nL ow) {i w : Nat} {x y : Int32} (hlk : lw_tbl[w]? = some (Cond.methodLink (cR ow) i Lib.Math.max.name)) (hd : decode cc pc = .ok (.invokestatic i, 3)) (k : WJ g p e d s m args below meth c Q nL σ (pc + 3) lv [.int (if x < y then y else x)]) : WJ g p e d s m args below meth c Q nL σ pc lv [.int y, .int x] := by
  intro H locs ls h1 h2 h3
  obtain ⟨hx, hb, hml, hown, hts, hK, hE, hA, hR, hc1, hc2, how, hL⟩ := X
  obtain ⟨w1, w2, w3, w4, w5, w6, w7, w8⟩ := wd_max
  exact va_mmax hx hb (by rw [hml]; exact h1.1.symm) hown (hts _ (tb_mem hlk rfl)) (hts _ (tb_mem w1 rfl)) (hts _ (tb_mem w5 rfl)) (hts _ (tb_mem w2 rfl)) hR.1 (by have := hR.2; simp only [List.map_nil, List.sum_nil]; omega) hc1 hc2 hd (k H locs ls h1 h2 h3)
theorem j_min (X : FJ g p d s m args c cc nL ow) {i w : Nat} {x y : Int32} (hlk : lw_tbl[w]? = some (Cond.methodLink (cR ow) i Lib.Math.min.name)) (hd : decode cc pc = .ok (.invokestatic i, 3)) (k : WJ g p e d s m args below meth c Q nL σ (pc + 3) lv [.int (if y < x then y else x)]) : WJ g p e d s m args below meth c Q nL σ pc lv [.int y, .int x] := by
  intro H locs ls h1 h2 h3
  obtain ⟨hx, hb, hml, hown, hts, hK, hE, hA, hR, hc1, hc2, how, hL⟩ := X
  obtain ⟨w1, w2, w3, w4, w5, w6, w7, w8⟩ := wd_max
  exact va_mmin hx hb (by rw [hml]; exact h1.1.symm) hown (hts _ (tb_mem hlk rfl)) (hts _ (tb_mem w3 rfl)) (hts _ (tb_mem w5 rfl)) (hts _ (tb_mem w4 rfl)) hR.1 (by have := hR.2; simp only [List.map_nil, List.sum_nil]; omega) hc1 hc2 hd (k H locs ls h1 h2 h3)
theorem j_ret (X : FJ g p d s m args c cc nL ow) {v : Int32} {ty : FieldType} (hr : meth.sig.returnType = some ty) (hlk : meth.locks = false) (hn : narrow ty (.int v) = .int v) (hS : SX (gL g) (gx g) σ) (hd : decode cc pc = .ok (.ireturn, 1)) : WJ g p e d s m args below meth c (MQ below (OQ g (some v) σ) args s 0 0 (fun q => gB g ≤ q)) nL σ pc lv [.int v] := fun H locs ls h1 h2 h3 => W.zret X.1 X.2.1 hr hn (fun t ht hW => ⟨rfl, hS, by rw [ht]; exact h2, h3.F ht⟩) h3.2.2 hd hlk
theorem j_vret (X : FJ g p d s m args c cc nL ow) (hr : meth.sig.returnType = none) (hlk : meth.locks = false) (hS : SX (gL g) (gx g) σ) (hd : decode cc pc = .ok (.return_, 1)) : WJ g p e d s m args below meth c (MQ below (OQ g none σ) args s 0 0 (fun q => gB g ≤ q)) nL σ pc lv [] := fun H locs ls h1 h2 h3 => W.vret X.1 X.2.1 hr (fun t ht hW => ⟨rfl, hS, by rw [ht]; exact h2, h3.F ht⟩) h3.2.2 hd hlk
theorem j_after {vs st0 : List Value} {r : Option Int32} {a : Array Value} {H : Heap} {locs : List Loc} {ls : Array Slot} (h1 : lv_has ls nL lv) (h3 : va_S (fun x => gB g ≤ x) s.heap H locs) (hr : va_Run p (gl g) e (rmD d) s m args below meth c H locs 0 0 0 0 (F0 m pc ls st0) st (OQ g r σ a) (fun q => gB g ≤ q)) (k : WJ g p e d s m args below meth c Q nL σ (pc + 3) lv ((r.map Value.int).toList ++ st)) : W p (gl g) e (rmD d) s m args below meth c H locs 0 0 Q (F0 m pc ls st0) := by
  intro T hT X1
  obtain ⟨v, st₀, t, T', L1, h0, X', hL1, e1, e2, ⟨hv, hSX, hb, hz, hkk⟩, stp⟩ := hr T hT X1
  rw [h0] at hz hkk
  have hv : v = r.map Value.int := by
    have := hv; simpa using this
  subst hv
  obtain ⟨t2, a1, b1⟩ := k T'.heap (locs ++ L1) ls h1 (by rw [e1]; exact hb)
    ⟨Nat.le_trans h3.1 (by rw [e1]; exact hz), fun q q1 q2 => by rw [e1, hkk q (Nat.lt_of_lt_of_le q1 h3.1) q2]; exact h3.2.1 q q1 q2, fun q hq => by
      rcases List.mem_append.mp hq with h | h
      · exact h3.2.2 q h
      · exact hL1 q h⟩ T' rfl X'
  exact ⟨t2, stp t2 a1, b1⟩
theorem j_callS (X : FJ g p (d + 1) s m args c cc nL ow) {i w w' : Nat} {y : MethodName} {b : ByteArray} {n ow' : Nat} {rr : Option FieldType} {Φ : State → Heap → Prop} {r : Option Int32} (vs : List Value) (F : JF y b n rr ow') (hP0 : Ph g Φ) (hΦ : Φ s s.heap) (hM : Ox g d y b n rr vs Φ σ r) (hst : lw_tbl[w]? = some (Cond.static y)) (hlk : lw_tbl[w']? = some (Cond.methodLink (cR ow) i y)) (hds : (parseMethodDescriptor y.desc).map (fun d => d.parameters.length) = some vs.length) (hrm : (st.map fun v => v.category).sum ≤ 8) (hd : decode cc pc = .ok (.invokestatic i, 3)) {st0 : List Value} (hs0 : st0 = vs.reverse ++ st) (k : WJ g p e (d + 1) s m args below meth c Q nL σ (pc + 3) lv ((r.map Value.int).toList ++ st)) : WJ g p e (d + 1) s m args below meth c Q nL σ pc lv st0 := by
  intro H locs ls h1 h2 h3
  obtain ⟨hx, hb, hml, hown, hts, hK, hE, hA, hR, hc1, hc2, how, hL⟩ := X
  refine j_after (vs := vs) (r := r) (a := vs.toArray) h1 h3 ?_ k
  refine va_runS (n := vs.length) (As := vs) ⟨hx, hb, hml, hown, hts⟩ hM ⟨callB_of (ws' := TB) vs.length hts (goodJ F) rfl rfl rfl (hts _ F.2.1) (hts _ (tb_mem hlk rfl)) ⟨F.2.2.2.1.1, F.2.2.2.1.2, hds⟩ ⟨Nat.le_refl _, ?_⟩, hts _ (tb_mem hst rfl)⟩ ⟨OPx_bl hP0, ?_⟩ rfl rfl h1.1 hs0 ?_ hd ⟨Nat.le_refl _, Nat.le_refl _⟩
  · show 8 + (n + 11) + 64 * d ≤ 64 * (d + 1)
    have := F.2.2.2.2.2.2
    omega
  · intro U hU hW
    exact ⟨rfl, by rw [hU]; exact h2, va_K.moved hW.alike hK, hP0.2.1 s U s.heap U.heap hΦ hW (by rw [hU]; exact h3.1) (fun a q1 q2 => by rw [hU]; exact h3.2.1 a q1 q2)⟩
  · show 2 * 0 + _ ≤ 8
    omega
theorem j_callV (X : FJ g p (d + 1) s m args c cc nL ow) {i j w w' w'' : Nat} {y : MethodName} {b : ByteArray} {n : Nat} {rr : Option FieldType} {r : Option Int32} (vs : List Value) (hj : j < 4) (F : JF y b n rr 13) (hM : Ox g d y b n rr (.ref (ga g (950 + j)) :: vs) (Φ0 g) σ r) (hst : lw_tbl[w]? = some (Cond.instanceMethod y)) (hlk : lw_tbl[w']? = some (Cond.methodLink (cR ow) i y)) (hsl : lw_tbl[w'']? = some (Cond.selects y.cls y y)) (hds : (parseMethodDescriptor y.desc).map (fun d => d.parameters.length) = some vs.length) (hrm : (st.map fun v => v.category).sum ≤ 8) (hd : decode cc pc = .ok (.invokevirtual i, 3)) {st0 : List Value} (hs0 : st0 = vs.reverse ++ .ref (ga g (950 + j)) :: st) (k : WJ g p e (d + 1) s m args below meth c Q nL σ (pc + 3) lv ((r.map Value.int).toList ++ st)) : WJ g p e (d + 1) s m args below meth c Q nL σ pc lv st0 := by
  intro H locs ls h1 h2 h3
  obtain ⟨hx, hb, hml, hown, hts, hK, hE, hA, hR, hc1, hc2, how, hL⟩ := X
  obtain ⟨-, -, -, -, ⟨adV, h7⟩, -⟩ := id hE
  have hrecv := vk_recv h7 hj h3
  have hcls : y.cls = "java/lang/String" := F.2.2.1
  rw [← hcls] at hrecv
  refine j_after (vs := vs) (r := r) (a := (Value.ref (ga g (950 + j)) :: vs).toArray) h1 h3 ?_ k
  refine va_runV (n := vs.length) (As := vs) ⟨hx, hb, hml, hown, hts⟩ hM (cwV (ws' := TB) vs.length hts ?_ rfl rfl rfl ⟨rfl, F.2.2.2.1.1, F.2.2.2.1.2, hds⟩ ⟨Nat.le_refl _, ?_⟩) ⟨OPx_bl (Ph0 g), hrecv, ?_⟩ rfl rfl h1.1 hs0 ?_ hd ⟨Nat.le_refl _, Nat.le_refl _⟩
  · intro w hw
    simp only [wsV, List.cons_append, List.nil_append, List.mem_cons] at hw
    rcases hw with rfl | rfl | rfl | rfl | hw
    · exact ⟨tb_mem hlk rfl, good_of_word rfl⟩
    · exact ⟨tb_mem hst rfl, good_of_word rfl⟩
    · exact ⟨tb_mem hsl rfl, good_of_word rfl⟩
    · exact ⟨F.2.1, good_of_word rfl⟩
    · exact goodJ F w hw
  · show 8 + (n + 11) + 64 * d ≤ 64 * (d + 1)
    have := F.2.2.2.2.2.2
    omega
  · intro U hU hW
    exact ⟨rfl, by rw [hU]; exact h2, va_K.moved hW.alike hK, EX.go hE hW (by rw [hU]; exact h3.1) (fun a q1 q2 => by rw [hU]; exact h3.2.1 a q1 q2)⟩
  · show 2 * 0 + _ ≤ 8
    omega
end JST
theorem f_coder : JF yJ0_coder_7d493 cJ0_coder_7d493 1 (some .byte) 13 := ⟨tbl_in4 (List.mem_of_getElem? (i := 30) rfl), tb_mem (i := 90) (by decide +kernel) rfl, rfl, by decide +kernel, by decide +kernel, by decide, by decide⟩
theorem f_isL : JF yJ0_isLatin1_aae02 cJ0_isLatin1_aae02 1 (some .boolean) 13 := ⟨tbl_in4 (List.mem_of_getElem? (i := 40) rfl), tb_mem (i := 90) (by decide +kernel) rfl, rfl, by decide +kernel, by decide +kernel, by decide, by decide⟩
theorem f_len : JF yJ0_length_8abf5 cJ0_length_8abf5 1 (some .int) 13 := ⟨tbl_in4 (List.mem_of_getElem? (i := 26) rfl), tb_mem (i := 90) (by decide +kernel) rfl, rfl, by decide +kernel, by decide +kernel, by decide, by decide⟩
theorem f_cha : JF yJ0_charAt_5068e cJ0_charAt_5068e 2 (some .char) 13 := ⟨tbl_in4 (List.mem_of_getElem? (i := 36) rfl), tb_mem (i := 90) (by decide +kernel) rfl, rfl, by decide +kernel, by decide +kernel, by decide, by decide⟩
theorem f_ix1 : JF yJ0_indexOf_0f7a4 cJ0_indexOf_0f7a4 2 (some .int) 13 := ⟨tbl_in4 (List.mem_of_getElem? (i := 125) rfl), tb_mem (i := 90) (by decide +kernel) rfl, rfl, by decide +kernel, by decide +kernel, by decide, by decide⟩
theorem f_ix2 : JF yJ0_indexOf_7cf53 cJ0_indexOf_7cf53 3 (some .int) 13 := ⟨tbl_in4 (List.mem_of_getElem? (i := 129) rfl), tb_mem (i := 90) (by decide +kernel) rfl, rfl, by decide +kernel, by decide +kernel, by decide, by decide⟩
theorem f_chk : JF yJ0_checkIndex_df160 cJ0_checkIndex_df160 2 none 13 := ⟨tbl_in4 (List.mem_of_getElem? (i := 46) rfl), tb_mem (i := 90) (by decide +kernel) rfl, rfl, by decide +kernel, by decide +kernel, by decide, by decide⟩
theorem f_pre : JF yJ3_checkIndex_8e157 cJ3_checkIndex_8e157 3 (some .int) 15 := ⟨tbl_in4 (List.mem_of_getElem? (i := 51) rfl), tb_mem (i := 92) (by decide +kernel) rfl, rfl, by decide +kernel, by decide +kernel, by decide, by decide⟩
theorem f_lch : JF yJ1_charAt_3b067 cJ1_charAt_3b067 2 (some .char) 14 := ⟨tbl_in4 (List.mem_of_getElem? (i := 43) rfl), tb_mem (i := 91) (by decide +kernel) rfl, rfl, by decide +kernel, by decide +kernel, by decide, by decide⟩
theorem f_can : JF yJ1_canEncode_9a6ad cJ1_canEncode_9a6ad 1 (some .boolean) 14 := ⟨tbl_in4 (List.mem_of_getElem? (i := 136) rfl), tb_mem (i := 91) (by decide +kernel) rfl, rfl, by decide +kernel, by decide +kernel, by decide, by decide⟩
theorem f_lix : JF yJ1_indexOf_4cfef cJ1_indexOf_4cfef 4 (some .int) 14 := ⟨tbl_in4 (List.mem_of_getElem? (i := 133) rfl), tb_mem (i := 91) (by decide +kernel) rfl, rfl, by decide +kernel, by decide +kernel, by decide, by decide⟩
theorem f_ixc : JF yJ1_indexOfChar_4cfef cJ1_indexOfChar_4cfef 6 (some .int) 14 := ⟨tbl_in4 (List.mem_of_getElem? (i := 141) rfl), tb_mem (i := 91) (by decide +kernel) rfl, rfl, by decide +kernel, by decide +kernel, by decide, by decide⟩
section JMS
variable {g : GP} {σ : Sg} {j : Nat}
theorem jm_coder (d : Nat) (G : GG g σ) (hj : j < 4) : Ox g (d + 1) yJ0_coder_7d493 cJ0_coder_7d493 1 (some .byte) [.ref (ga g (950 + j))] (Φ0 g) σ (some 0) := by
  refine okx_of f_coder (by omega) (Ph0 g) [(0, .ref (ga g (950 + j)))] rfl (Nat.le_of_ble_eq_true rfl) G ?_
  intro p e s m args below meth c X hr hl hE
  obtain ⟨-, -, -, -, ⟨adV, h7, -⟩, hz, hq⟩ := id hE
  obtain ⟨o1, o2, o3, o4⟩ := h7 j hj
  refine j_gets X hz (w := 825) (i := 38) (by decide +kernel) (by decide +kernel) ?_
  refine j_ifeq X (off := 10) (tgt := 13) (by decide +kernel) (by decide) (fun z => absurd z (by decide)) (fun _ => ?_)
  refine j_aload_n X (q := 0) (i := 0) (by decide +kernel) rfl List.mem_cons_self ?_
  refine j_getf X o2 (w := 1738) (i := 15) (by decide +kernel) (by decide +kernel) ?_
  refine j_goto X (off := 4) (tgt := 14) (by decide +kernel) (by decide) ?_
  exact j_ret X hr hl (congrArg Value.int (by decide : (0 : Int32).toInt8.toInt32 = 0)) G.2.2 (by decide +kernel)
theorem jm_isL (d : Nat) (G : GG g σ) (hj : j < 4) : Ox g (d + 1) yJ0_isLatin1_aae02 cJ0_isLatin1_aae02 1 (some .boolean) [.ref (ga g (950 + j))] (Φ0 g) σ (some 1) := by
  refine okx_of f_isL (by omega) (Ph0 g) [(0, .ref (ga g (950 + j)))] rfl (Nat.le_of_ble_eq_true rfl) G ?_
  intro p e s m args below meth c X hr hl hE
  obtain ⟨-, -, -, -, ⟨adV, h7, -⟩, hz, hq⟩ := id hE
  obtain ⟨o1, o2, o3, o4⟩ := h7 j hj
  refine j_gets X hz (w := 825) (i := 38) (by decide +kernel) (by decide +kernel) ?_
  refine j_ifeq X (off := 14) (tgt := 17) (by decide +kernel) (by decide) (fun z => absurd z (by decide)) (fun _ => ?_)
  refine j_aload_n X (q := 0) (i := 0) (by decide +kernel) rfl List.mem_cons_self ?_
  refine j_getf X o2 (w := 1738) (i := 15) (by decide +kernel) (by decide +kernel) ?_
  refine j_ifne X (off := 7) (tgt := 17) (by decide +kernel) (by decide) (fun z => absurd rfl z) (fun _ => ?_)
  refine j_iconst X (n := 1) (v := 1) (by decide +kernel) rfl ?_
  refine j_goto X (off := 4) (tgt := 18) (by decide +kernel) (by decide) ?_
  exact j_ret X hr hl (congrArg Value.int (by decide : (1 : Int32) &&& 1 = 1)) G.2.2 (by decide +kernel)
theorem len_sh : ∀ j, j < 4 → Int32.ofNat (slen.getD j 0) >>> ((0 : Int32) &&& 31) = nI (slen.getD j 0) := by decide
theorem jm_len (d : Nat) (G : GG g σ) (hj : j < 4) : Ox g (d + 2) yJ0_length_8abf5 cJ0_length_8abf5 1 (some .int) [.ref (ga g (950 + j))] (Φ0 g) σ (some (nI (slen.getD j 0))) := by
  refine okx_of f_len (by omega) (Ph0 g) [(0, .ref (ga g (950 + j)))] rfl (Nat.le_of_ble_eq_true rfl) G ?_
  intro p e s m args below meth c X hr hl hE
  obtain ⟨-, -, -, -, ⟨adV, h7, -⟩, hz, hq⟩ := id hE
  obtain ⟨o1, o2, o3, o4⟩ := h7 j hj
  refine j_aload_n X (q := 0) (i := 0) (by decide +kernel) rfl List.mem_cons_self ?_
  refine j_getf X o3 (w := 1737) (i := 9) (by decide +kernel) (by decide +kernel) ?_
  refine j_len X (j := j) o4 (by decide +kernel) ?_
  refine j_aload_n X (q := 0) (i := 0) (by decide +kernel) rfl List.mem_cons_self ?_
  refine j_callV X (i := 335) (w := 822) (w' := 821) (w'' := 823) [] hj f_coder (jm_coder d G hj) (by decide +kernel) (by decide +kernel) (by decide +kernel) (by decide +kernel) (st := [.int (Int32.ofNat (slen.getD j 0))]) (Nat.le_of_ble_eq_true rfl) (by decide +kernel) rfl ?_
  refine j_ishr X (x := Int32.ofNat (slen.getD j 0)) (y := 0) (st := []) (by decide +kernel) ?_
  rw [len_sh j hj]
  exact j_ret X hr hl rfl G.2.2 (by decide +kernel)
theorem jm_pre (d : Nat) (G : GG g σ) {i n : Int32} {v : Value} (h0 : ¬ i < 0) (h1 : i < n) (hlv : lv_args 0 [.int i, .int n, v] = [(0, .int i), (1, .int n), (2, v)]) (hlen : (lg_sl [.int i, .int n, v]).length ≤ 3) : Ox g (d + 1) yJ3_checkIndex_8e157 cJ3_checkIndex_8e157 3 (some .int) [.int i, .int n, v] (Φ0 g) σ (some i) := by
  refine okx_of f_pre (by omega) (Ph0 g) [(0, .int i), (1, .int n), (2, v)] hlv hlen G ?_
  intro p e s m args below meth c X hr hl hE
  refine j_iload_n X (q := 0) (i := 0) (x := i) (by decide +kernel) rfl (by simp) ?_
  refine j_iflt X (off := 8) (tgt := 9) (by decide +kernel) (by decide) (fun z => absurd z h0) (fun _ => ?_)
  refine j_iload_n X (q := 0) (i := 0) (x := i) (by decide +kernel) rfl (by simp) ?_
  refine j_iload_n X (q := 1) (i := 1) (x := n) (by decide +kernel) rfl (by simp) ?_
  refine j_clt X (off := 10) (tgt := 16) (by decide +kernel) (by decide) (fun _ => ?_) (fun z => absurd h1 z)
  refine j_iload_n X (q := 0) (i := 0) (x := i) (by decide +kernel) rfl (by simp) ?_
  exact j_ret X hr hl rfl G.2.2 (by decide +kernel)
theorem jm_chk (d : Nat) (G : GG g σ) {i n : Int32} (h0 : ¬ i < 0) (h1 : i < n) : Ox g (d + 2) yJ0_checkIndex_df160 cJ0_checkIndex_df160 2 none [.int i, .int n] (Φ0 g) σ none := by
  refine okx_of f_chk (by omega) (Ph0 g) [(0, .int i), (1, .int n)] rfl (Nat.le_of_ble_eq_true rfl) G ?_
  intro p e s m args below meth c X hr hl hE
  obtain ⟨-, -, -, -, -, hz, hq⟩ := id hE
  refine j_iload_n X (q := 0) (i := 0) (x := i) (by decide +kernel) rfl (by simp) ?_
  refine j_iload_n X (q := 1) (i := 1) (x := n) (by decide +kernel) rfl (by simp) ?_
  have key : ∀ v : Value, va_Z "jdk/internal/util/Preconditions" "SIOOBE_FORMATTER" "Ljava/util/function/BiFunction;" v (fun q => gB g ≤ q) s s.heap → lv_args 0 [.int i, .int n, v] = [(0, .int i), (1, .int n), (2, v)] → (lg_sl [.int i, .int n, v]).length ≤ 3 → WJ g p e (d + 2) s m args below meth c (MQ below (OQ g none σ) args s 0 0 (fun q => gB g ≤ q)) 2 σ (0 + 1 + 1) [(0, .int i), (1, .int n)] [.int n, .int i] := by
    intro v hv hlv hlen
    refine j_gets X hv (w := 841) (i := 1053) (by decide +kernel) (by decide +kernel) ?_
    refine j_callS X (i := 1059) (w := 844) (w' := 843) [.int i, .int n, v] f_pre (Ph0 g) hE (jm_pre d G h0 h1 hlv hlen) (by decide +kernel) (by decide +kernel) (by show _ = some 3; decide +kernel) (st := []) (Nat.le_of_ble_eq_true rfl) (by decide +kernel) rfl ?_
    refine j_pop X (x := i) (st := []) (by decide +kernel) ?_
    exact j_vret X hr hl G.2.2 (by decide +kernel)
  rcases hq with hq | ⟨t, hq⟩
  · exact key _ hq rfl (Nat.le_of_ble_eq_true rfl)
  · exact key _ hq rfl (Nat.le_of_ble_eq_true rfl)
theorem by_c : ∀ j, j < 4 → ∀ t, t < 8 → ((((sbyt.getD j []).getD t 0 &&& 255).toUInt32 % 65536).toInt32 = (sbyt.getD j []).getD t 0 ∧ ((sbyt.getD j []).getD t 0).toUInt32.toUInt16.toUInt32.toInt32 = (sbyt.getD j []).getD t 0) := by decide +kernel
theorem sl_8 : ∀ j, j < 4 → slen.getD j 0 < 8 ∧ slen.getD j 0 = (sbyt.getD j []).length ∧ (0 : Int32) < Int32.ofNat (slen.getD j 0) := by decide +kernel
theorem inb_o {x : Int32} {n : Nat} (h : inb x n = true) (hn : n < 2 ^ 31) : ∃ t, t < n ∧ x = nI t := by
  have h1 := inb_iff.mp h
  have h2 : ¬ x < 0 := fun z => h1 (Or.inl z)
  have h3 : x.toNatClampNeg < n := Nat.not_le.mp fun z => h1 (Or.inr z)
  obtain ⟨N, hN, e⟩ := Jvm.int_eq_ofNat_of_bounds (n := x) (C := 2 ^ 31 - 1) (by omega) (Int32.not_lt.mp h2) (by
    have : x ≤ Int32.maxValue := Int32.le_maxValue x
    exact this)
  subst e
  refine ⟨N, ?_, rfl⟩
  rwa [show (Int32.ofNat N).toNatClampNeg = N from nI_clamp (by omega)] at h3
theorem jm_lch (d : Nat) (G : GG g σ) (hj : j < 4) (b : Nat) {t : Nat} (ht : t < slen.getD j 0) : Ox g (d + 3) yJ1_charAt_3b067 cJ1_charAt_3b067 2 (some .char) [.ref b, .int (nI t)] (Φ1 g b j) σ (some ((sbyt.getD j []).getD t 0)) := by
  obtain ⟨s8, -, -⟩ := sl_8 j hj
  obtain ⟨c1, c2⟩ := by_c j hj t (by omega)
  have hcl : (nI t).toNatClampNeg = t := nI_clamp (by omega)
  have h0 : ¬ nI t < 0 := nI_nlt (b := 0) (by omega) (by omega)
  have h1 : nI t < Int32.ofNat (slen.getD j 0) := nI_lt (b := slen.getD j 0) ht (by omega)
  refine okx_of f_lch (by omega) (Ph1 g b j) [(0, .ref b), (1, .int (nI t))] rfl (Nat.le_of_ble_eq_true rfl) G ?_
  intro p e s m args below meth c X hr hl hE
  refine j_iload_n X (q := 1) (i := 1) (x := nI t) (by decide +kernel) rfl (by simp) ?_
  refine j_aload_n X (q := 0) (i := 0) (x := b) (by decide +kernel) rfl (by simp) ?_
  refine j_len X (j := j) hE.2 (by decide +kernel) ?_
  refine j_callS X (i := 9) (w := 839) (w' := 838) [.int (nI t), .int (Int32.ofNat (slen.getD j 0))] f_chk (Ph0 g) hE.1 (jm_chk d G h0 h1) (by decide +kernel) (by decide +kernel) (by show _ = some 2; decide +kernel) (st := []) (Nat.le_of_ble_eq_true rfl) (by decide +kernel) rfl ?_
  refine j_aload_n X (q := 0) (i := 0) (x := b) (by decide +kernel) rfl (by simp) ?_
  refine j_iload_n X (q := 1) (i := 1) (x := nI t) (by decide +kernel) rfl (by simp) ?_
  refine j_bald X (j := j) (i := nI t) (st := []) hE.2 (vp_in_nI ht (by omega)) (by decide +kernel) ?_
  refine j_sipush X (n := 255) (v := 255) (by decide +kernel) rfl ?_
  refine j_iand X (y := 255) (st := []) (by decide +kernel) ?_
  rw [hcl]
  refine j_i2c X (st := []) (by decide +kernel) c1 ?_
  exact j_ret X hr hl (congrArg Value.int c2) G.2.2 (by decide +kernel)
theorem jm_cha (d : Nat) (G : GG g σ) (hj : j < 4) {t : Nat} (ht : t < slen.getD j 0) : Ox g (d + 4) yJ0_charAt_5068e cJ0_charAt_5068e 2 (some .char) [.ref (ga g (950 + j)), .int (nI t)] (Φ0 g) σ (some ((sbyt.getD j []).getD t 0)) := by
  obtain ⟨s8, -, -⟩ := sl_8 j hj
  obtain ⟨c1, c2⟩ := by_c j hj t (by omega)
  refine okx_of f_cha (by omega) (Ph0 g) [(0, .ref (ga g (950 + j))), (1, .int (nI t))] rfl (Nat.le_of_ble_eq_true rfl) G ?_
  intro p e s m args below meth c X hr hl hE
  obtain ⟨-, -, -, -, ⟨adV, h7, -⟩, hz, hq⟩ := id hE
  obtain ⟨o1, o2, o3, o4⟩ := h7 j hj
  refine j_aload_n X (q := 0) (i := 0) (by decide +kernel) rfl List.mem_cons_self ?_
  refine j_callV X (i := 492) (w := 832) (w' := 831) (w'' := 833) [] hj f_isL (jm_isL (d + 2) G hj) (by decide +kernel) (by decide +kernel) (by decide +kernel) (by decide +kernel) (st := []) (Nat.le_of_ble_eq_true rfl) (by decide +kernel) rfl ?_
  refine j_ifeq X (x := 1) (st := []) (off := 12) (tgt := 16) (by decide +kernel) (by decide) (fun z => absurd z (by decide)) (fun _ => ?_)
  refine j_aload_n X (q := 0) (i := 0) (by decide +kernel) rfl List.mem_cons_self ?_
  refine j_getf X o3 (w := 1737) (i := 9) (by decide +kernel) (by decide +kernel) ?_
  refine j_iload_n X (q := 1) (i := 1) (x := nI t) (by decide +kernel) rfl (by simp) ?_
  refine j_callS X (i := 495) (w := 836) (w' := 835) [.ref (adV j), .int (nI t)] f_lch (Ph1 g (adV j) j) ⟨hE, o4⟩ (jm_lch d G hj (adV j) ht) (by decide +kernel) (by decide +kernel) (by show _ = some 2; decide +kernel) (st := []) (Nat.le_of_ble_eq_true rfl) (by decide +kernel) rfl ?_
  exact j_ret X hr hl (congrArg Value.int c2) G.2.2 (by decide +kernel)
theorem jm_can (d : Nat) (G : GG g σ) (x : Int32) : Ox g (d + 1) yJ1_canEncode_9a6ad cJ1_canEncode_9a6ad 1 (some .boolean) [.int x] (Φ0 g) σ (some (if x < 0 then 0 else if 255 < x then 0 else 1)) := by
  refine okx_of f_can (by omega) (Ph0 g) [(0, .int x)] rfl (Nat.le_of_ble_eq_true rfl) G ?_
  intro p e s m args below meth c X hr hl hE
  refine j_iload_n X (q := 0) (i := 0) (x := x) (by decide +kernel) rfl (by simp) ?_
  refine j_iflt X (off := 14) (tgt := 15) (by decide +kernel) (by decide) (fun z => ?_) (fun z => ?_)
  · rw [if_pos z]
    refine j_iconst X (n := 0) (v := 0) (by decide +kernel) rfl ?_
    exact j_ret X hr hl (congrArg Value.int (by decide : (0 : Int32) &&& 1 = 0)) G.2.2 (by decide +kernel)
  · rw [if_neg z]
    refine j_iload_n X (q := 0) (i := 0) (x := x) (by decide +kernel) rfl (by simp) ?_
    refine j_sipush X (n := 255) (v := 255) (by decide +kernel) rfl ?_
    refine j_cgt X (off := 7) (tgt := 15) (by decide +kernel) (by decide) (fun z2 => ?_) (fun z2 => ?_)
    · rw [if_pos z2]
      refine j_iconst X (n := 0) (v := 0) (by decide +kernel) rfl ?_
      exact j_ret X hr hl (congrArg Value.int (by decide : (0 : Int32) &&& 1 = 0)) G.2.2 (by decide +kernel)
    · rw [if_neg z2]
      refine j_iconst X (n := 1) (v := 1) (by decide +kernel) rfl ?_
      refine j_goto X (off := 4) (tgt := 16) (by decide +kernel) (by decide) ?_
      exact j_ret X hr hl (congrArg Value.int (by decide : (1 : Int32) &&& 1 = 1)) G.2.2 (by decide +kernel)
theorem by_e0 : ∀ t, t < 256 → ∀ j, j < 4 → ∀ k, k < 8 → ((sbyt.getD j []).getD k 0 = (nI t).toInt8.toInt32 ↔ (sbyt.getD j []).getD k 0 = nI t) := by decide +kernel
theorem dropC {L : List Int32} {k : Nat} (h : k < L.length) : L.drop k = L.getD k 0 :: L.drop (k + 1) := by
  rw [List.drop_eq_getElem_cons h, List.getD_eq_getElem?_getD, List.getElem?_eq_getElem h]; rfl
theorem jm_ixc (d : Nat) (G : GG g σ) (hj : j < 4) (b : Nat) {t : Nat} (ht : t < 256) : Ox g (d + 1) yJ1_indexOfChar_4cfef cJ1_indexOfChar_4cfef 6 (some .int) [.ref b, .int (nI t), .int 0, .int (nI (slen.getD j 0))] (Φ1 g b j) σ (some (ixo (nI t) (sbyt.getD j []) 0)) := by
  obtain ⟨s8, sL, -⟩ := sl_8 j hj
  refine okx_of f_ixc (by omega) (Ph1 g b j) [(0, .ref b), (1, .int (nI t)), (2, .int 0), (3, .int (nI (slen.getD j 0)))] rfl (Nat.le_of_ble_eq_true rfl) G ?_
  intro p e s m args below meth c X hr hl hE
  refine j_iload_n X (q := 1) (i := 1) (x := nI t) (by decide +kernel) rfl (by simp) ?_
  refine j_i2b X (v := (nI t).toInt8.toInt32) (st := []) (by decide +kernel) rfl ?_
  refine j_istore X (i := 4) (st := []) (lv' := [(4, .int (nI t).toInt8.toInt32), (0, .ref b), (1, .int (nI t)), (2, .int 0), (3, .int (nI (slen.getD j 0)))]) (by decide +kernel) (by omega) rfl ?_
  refine j_iload_n X (q := 2) (i := 2) (x := 0) (by decide +kernel) rfl (by simp) ?_
  refine j_istore X (i := 5) (st := []) (lv' := [(5, .int 0), (4, .int (nI t).toInt8.toInt32), (0, .ref b), (1, .int (nI t)), (2, .int 0), (3, .int (nI (slen.getD j 0)))]) (by decide +kernel) (by omega) rfl ?_
  have loop : ∀ (f k : Nat), k + f = slen.getD j 0 → ixo (nI t) ((sbyt.getD j []).drop k) k = ixo (nI t) (sbyt.getD j []) 0 → WJ g p e (d + 1) s m args below meth c (MQ below (OQ g (some (ixo (nI t) (sbyt.getD j []) 0)) σ) args s 0 0 (fun q => gB g ≤ q)) 6 σ 7 [(5, .int (nI k)), (4, .int (nI t).toInt8.toInt32), (0, .ref b), (1, .int (nI t)), (2, .int 0), (3, .int (nI (slen.getD j 0)))] [] := by
    intro f
    induction f with
    | zero =>
      intro k hk he
      have hk : k = slen.getD j 0 := hk
      refine j_iload X (i := 5) (x := nI k) (by decide +kernel) (by simp) ?_
      refine j_iload_n X (q := 3) (i := 3) (x := nI (slen.getD j 0)) (by decide +kernel) rfl (by simp) ?_
      refine j_cge X (off := 21) (tgt := 31) (by decide +kernel) (by decide) (fun _ => ?_) (fun z => absurd (nI_le (a := slen.getD j 0) (b := k) (by omega) (by omega)) z)
      rw [← he, List.drop_eq_nil_of_le (by omega)]
      refine j_iconst X (n := -1) (v := -1) (by decide +kernel) rfl ?_
      exact j_ret X hr hl rfl G.2.2 (by decide +kernel)
    | succ f ih =>
      intro k hk he
      have hkl : k < slen.getD j 0 := by omega
      have hcl : (nI k).toNatClampNeg = k := nI_clamp (by omega)
      rw [dropC (show k < (sbyt.getD j []).length by omega)] at he
      refine j_iload X (i := 5) (x := nI k) (by decide +kernel) (by simp) ?_
      refine j_iload_n X (q := 3) (i := 3) (x := nI (slen.getD j 0)) (by decide +kernel) rfl (by simp) ?_
      refine j_cge X (off := 21) (tgt := 31) (by decide +kernel) (by decide) (fun z => absurd z (nI_ge (a := k) (b := slen.getD j 0) (by omega) (by omega))) (fun _ => ?_)
      refine j_aload_n X (q := 0) (i := 0) (x := b) (by decide +kernel) rfl (by simp) ?_
      refine j_iload X (i := 5) (x := nI k) (by decide +kernel) (by simp) ?_
      refine j_bald X (j := j) (i := nI k) (st := []) hE.2 (vp_in_nI hkl (by omega)) (by decide +kernel) ?_
      rw [hcl]
      refine j_iload X (i := 4) (x := (nI t).toInt8.toInt32) (by decide +kernel) (by simp) ?_
      refine j_cne X (off := 6) (tgt := 25) (by decide +kernel) (by decide) (fun z => ?_) (fun z => ?_)
      · have ne : ¬ (sbyt.getD j []).getD k 0 = nI t := fun q => z ((by_e0 t ht j hj k (by omega)).mpr q)
        rw [ixo, if_neg ne] at he
        refine j_iinc X (i := 5) (t := 0) (n := 1) (x := nI k) (v := nI (k + 1)) (lv' := [(5, .int (nI (k + 1))), (4, .int (nI t).toInt8.toInt32), (0, .ref b), (1, .int (nI t)), (2, .int 0), (3, .int (nI (slen.getD j 0)))]) (by decide +kernel) rfl (nI_1 k) (by omega) rfl ?_
        refine j_goto X (off := -21) (tgt := 7) (by decide +kernel) (by decide) ?_
        exact ih (k + 1) (by omega) he
      · have eq : (sbyt.getD j []).getD k 0 = nI t := (by_e0 t ht j hj k (by omega)).mp z
        rw [ixo, if_pos eq] at he
        rw [← he]
        refine j_iload X (i := 5) (x := nI k) (by decide +kernel) (by simp) ?_
        exact j_ret X hr hl rfl G.2.2 (by decide +kernel)
  exact loop (slen.getD j 0) 0 (by omega) rfl
theorem by_r : ∀ j, j < 4 → ∀ b ∈ sbyt.getD j [], ¬ b < 0 ∧ ¬ 255 < b := by decide +kernel
theorem ixo_n {x : Int32} : ∀ (L : List Int32) (k : Nat), (∀ b ∈ L, ¬ b = x) → ixo x L k = -1 := by
  intro L
  induction L with
  | nil => intro k _; rfl
  | cons b L ih =>
    intro k h
    rw [ixo, if_neg (h b List.mem_cons_self)]
    exact ih (k + 1) (fun c hc => h c (List.mem_cons_of_mem _ hc))
theorem in_255 {x : Int32} (h0 : ¬ x < 0) (h1 : ¬ 255 < x) : ∃ t, t < 256 ∧ x = nI t := by
  obtain ⟨N, hN, e⟩ := Jvm.int_eq_ofNat_of_bounds (n := x) (C := 255) (by omega) (Int32.not_lt.mp h0) (Int32.not_lt.mp h1)
  exact ⟨N, by omega, e⟩
theorem jm_lix (d : Nat) (G : GG g σ) (hj : j < 4) (b : Nat) (x : Int32) : Ox g (d + 2) yJ1_indexOf_4cfef cJ1_indexOf_4cfef 4 (some .int) [.ref b, .int x, .int 0, .int (nI (slen.getD j 0))] (Φ1 g b j) σ (some (ixo x (sbyt.getD j []) 0)) := by
  obtain ⟨s8, sL, sP⟩ := sl_8 j hj
  refine okx_of f_lix (by omega) (Ph1 g b j) [(0, .ref b), (1, .int x), (2, .int 0), (3, .int (nI (slen.getD j 0)))] rfl (Nat.le_of_ble_eq_true rfl) G ?_
  intro p e s m args below meth c X hr hl hE
  refine j_iload_n X (q := 1) (i := 1) (x := x) (by decide +kernel) rfl (by simp) ?_
  refine j_callS X (i := 88) (w := 929) (w' := 928) [.int x] f_can (Ph0 g) hE.1 (jm_can d G x) (by decide +kernel) (by decide +kernel) (by show _ = some 1; decide +kernel) (st := []) (Nat.le_of_ble_eq_true rfl) (by decide +kernel) rfl ?_
  refine j_ifne X (x := if x < 0 then 0 else if 255 < x then 0 else 1) (st := []) (off := 5) (tgt := 9) (by decide +kernel) (by decide) (fun z => ?_) (fun z => ?_)
  · have h0 : ¬ x < 0 := fun q => z (by rw [if_pos q])
    have h1 : ¬ 255 < x := fun q => z (by rw [if_neg h0, if_pos q])
    obtain ⟨t, ht, rfl⟩ := in_255 h0 h1
    refine j_iload_n X (q := 2) (i := 2) (x := 0) (by decide +kernel) rfl (by simp) ?_
    refine j_iconst X (n := 0) (v := 0) (by decide +kernel) rfl ?_
    refine j_max X (i := 92) (w := 931) (by decide +kernel) (by decide +kernel) ?_
    rw [ite_self]
    refine j_istore_n X (q := 2) (i := 2) (st := []) (lv' := [(2, .int 0), (0, .ref b), (1, .int (nI t)), (3, .int (nI (slen.getD j 0)))]) (by decide +kernel) rfl (by omega) rfl ?_
    refine j_iload_n X (q := 3) (i := 3) (x := nI (slen.getD j 0)) (by decide +kernel) rfl (by simp) ?_
    refine j_aload_n X (q := 0) (i := 0) (x := b) (by decide +kernel) rfl (by simp) ?_
    refine j_len X (j := j) hE.2 (by decide +kernel) ?_
    refine j_min X (i := 38) (w := 932) (by decide +kernel) (by decide +kernel) ?_
    have em : (if Int32.ofNat (slen.getD j 0) < nI (slen.getD j 0) then Int32.ofNat (slen.getD j 0) else nI (slen.getD j 0)) = nI (slen.getD j 0) := ite_self _
    rw [em]
    refine j_istore_n X (q := 3) (i := 3) (st := []) (lv' := [(3, .int (nI (slen.getD j 0))), (2, .int 0), (0, .ref b), (1, .int (nI t))]) (by decide +kernel) rfl (by omega) rfl ?_
    refine j_iload_n X (q := 2) (i := 2) (x := 0) (by decide +kernel) rfl (by simp) ?_
    refine j_iload_n X (q := 3) (i := 3) (x := nI (slen.getD j 0)) (by decide +kernel) rfl (by simp) ?_
    refine j_clt X (off := 5) (tgt := 29) (by decide +kernel) (by decide) (fun _ => ?_) (fun z => absurd sP z)
    refine j_aload_n X (q := 0) (i := 0) (x := b) (by decide +kernel) rfl (by simp) ?_
    refine j_iload_n X (q := 1) (i := 1) (x := nI t) (by decide +kernel) rfl (by simp) ?_
    refine j_iload_n X (q := 2) (i := 2) (x := 0) (by decide +kernel) rfl (by simp) ?_
    refine j_iload_n X (q := 3) (i := 3) (x := nI (slen.getD j 0)) (by decide +kernel) rfl (by simp) ?_
    refine j_callS X (i := 95) (w := 934) (w' := 933) [.ref b, .int (nI t), .int 0, .int (nI (slen.getD j 0))] f_ixc (Ph1 g b j) hE (jm_ixc d G hj b ht) (by decide +kernel) (by decide +kernel) (by show _ = some 4; decide +kernel) (st := []) (Nat.le_of_ble_eq_true rfl) (by decide +kernel) rfl ?_
    exact j_ret X hr hl rfl G.2.2 (by decide +kernel)
  · have hn : ixo x (sbyt.getD j []) 0 = -1 := by
      refine ixo_n _ _ (fun b0 hb0 q => ?_)
      obtain ⟨r1, r2⟩ := by_r j hj b0 hb0
      rw [q] at r1 r2
      rw [if_neg r1, if_neg r2] at z
      exact absurd z (by decide)
    rw [hn]
    refine j_iconst X (n := -1) (v := -1) (by decide +kernel) rfl ?_
    exact j_ret X hr hl rfl G.2.2 (by decide +kernel)
theorem jm_ix2 (d : Nat) (G : GG g σ) (hj : j < 4) (x : Int32) : Ox g (d + 3) yJ0_indexOf_7cf53 cJ0_indexOf_7cf53 3 (some .int) [.ref (ga g (950 + j)), .int x, .int 0] (Φ0 g) σ (some (ixo x (sbyt.getD j []) 0)) := by
  refine okx_of f_ix2 (by omega) (Ph0 g) [(0, .ref (ga g (950 + j))), (1, .int x), (2, .int 0)] rfl (Nat.le_of_ble_eq_true rfl) G ?_
  intro p e s m args below meth c X hr hl hE
  obtain ⟨-, -, -, -, ⟨adV, h7, -⟩, hz, hq⟩ := id hE
  obtain ⟨o1, o2, o3, o4⟩ := h7 j hj
  refine j_aload_n X (q := 0) (i := 0) (by decide +kernel) rfl List.mem_cons_self ?_
  refine j_callV X (i := 492) (w := 832) (w' := 831) (w'' := 833) [] hj f_isL (jm_isL (d + 1) G hj) (by decide +kernel) (by decide +kernel) (by decide +kernel) (by decide +kernel) (st := []) (Nat.le_of_ble_eq_true rfl) (by decide +kernel) rfl ?_
  refine j_ifeq X (x := 1) (st := []) (off := 19) (tgt := 23) (by decide +kernel) (by decide) (fun z => absurd z (by decide)) (fun _ => ?_)
  refine j_aload_n X (q := 0) (i := 0) (by decide +kernel) rfl List.mem_cons_self ?_
  refine j_getf X o3 (w := 1737) (i := 9) (by decide +kernel) (by decide +kernel) ?_
  refine j_iload_n X (q := 1) (i := 1) (x := x) (by decide +kernel) rfl (by simp) ?_
  refine j_iload_n X (q := 2) (i := 2) (x := 0) (by decide +kernel) rfl (by simp) ?_
  refine j_aload_n X (q := 0) (i := 0) (by decide +kernel) rfl List.mem_cons_self ?_
  refine j_callV X (i := 505) (w := 818) (w' := 924) (w'' := 819) [] hj f_len (jm_len d G hj) (by decide +kernel) (by decide +kernel) (by decide +kernel) (by decide +kernel) (st := [.int 0, .int x, .ref (adV j)]) (Nat.le_of_ble_eq_true rfl) (by decide +kernel) rfl ?_
  refine j_callS X (i := 637) (w := 926) (w' := 925) [.ref (adV j), .int x, .int 0, .int (nI (slen.getD j 0))] f_lix (Ph1 g (adV j) j) ⟨hE, o4⟩ (jm_lix d G hj (adV j) x) (by decide +kernel) (by decide +kernel) (by show _ = some 4; decide +kernel) (st := []) (Nat.le_of_ble_eq_true rfl) (by decide +kernel) rfl ?_
  refine j_goto X (off := 16) (tgt := 36) (by decide +kernel) (by decide) ?_
  exact j_ret X hr hl rfl G.2.2 (by decide +kernel)
theorem jm_ix1 (d : Nat) (G : GG g σ) (hj : j < 4) (x : Int32) : Ox g (d + 4) yJ0_indexOf_0f7a4 cJ0_indexOf_0f7a4 2 (some .int) [.ref (ga g (950 + j)), .int x] (Φ0 g) σ (some (ixo x (sbyt.getD j []) 0)) := by
  refine okx_of f_ix1 (by omega) (Ph0 g) [(0, .ref (ga g (950 + j))), (1, .int x)] rfl (Nat.le_of_ble_eq_true rfl) G ?_
  intro p e s m args below meth c X hr hl hE
  refine j_aload_n X (q := 0) (i := 0) (by decide +kernel) rfl List.mem_cons_self ?_
  refine j_iload_n X (q := 1) (i := 1) (x := x) (by decide +kernel) rfl (by simp) ?_
  refine j_iconst X (n := 0) (v := 0) (by decide +kernel) rfl ?_
  refine j_callV X (i := 633) (w := 921) (w' := 920) (w'' := 922) [.int x, .int 0] hj f_ix2 (jm_ix2 d G hj x) (by decide +kernel) (by decide +kernel) (by decide +kernel) (by show _ = some 2; decide +kernel) (st := []) (Nat.le_of_ble_eq_true rfl) (by decide +kernel) rfl ?_
  exact j_ret X hr hl rfl G.2.2 (by decide +kernel)
end JMS
theorem ok_J0_length_8abf5 (g : GP) (d : Nat) (σ : Sg) (c : Nat) : ∀ v σ', s_J0_length_8abf5 σ c = some (v, σ') → Ok g (d + 6) 260 [br 30 c] σ (some v) σ' := by
  intro v σ' h hA hL hv hS
  unfold s_J0_length_8abf5 at h
  obtain ⟨h1, h2⟩ := Prod.mk.inj (Option.some.inj h)
  rw [← h1, ← h2]
  obtain ⟨j, hj, rfl⟩ := kd_30 (hv _ List.mem_cons_self c rfl).1
  have eY : mY 260 = yJ0_length_8abf5 := rfl
  have eC : mC 260 = cJ0_length_8abf5 := rfl
  have eL : mL 260 = 1 := rfl
  have eR : mR 260 = some .int := rfl
  unfold mW
  rw [eY, eC, eL, eR]
  have := jm_len (d + 4) (σ := σ) ⟨hA, hL, hS⟩ hj
  have es : sLen (950 + j) = slen.getD j 0 := by unfold sLen; rw [Nat.add_sub_cancel_left]
  rw [es]
  exact this
theorem ok_J0_charAt_5068e (g : GP) (d : Nat) (σ : Sg) (c : Nat) (i : Int32) : ∀ v σ', s_J0_charAt_5068e σ c i = some (v, σ') → Ok g (d + 6) 261 [br 30 c, bi i] σ (some v) σ' := by
  intro v σ' h hA hL hv hS
  obtain ⟨j, hj, rfl⟩ := kd_30 (hv _ List.mem_cons_self c rfl).1
  have es : sLen (950 + j) = slen.getD j 0 := by unfold sLen; rw [Nat.add_sub_cancel_left]
  have eb : sByt (950 + j) = sbyt.getD j [] := by unfold sByt; rw [Nat.add_sub_cancel_left]
  unfold s_J0_charAt_5068e at h
  rw [es, eb] at h
  by_cases hi : inb i (slen.getD j 0) = true
  · rw [if_pos hi] at h
    obtain ⟨t, ht, rfl⟩ := inb_o hi (by have := (sl_8 j hj).1; omega)
    rw [show (nI t).toNatClampNeg = t from nI_clamp (by have := (sl_8 j hj).1; omega)] at h
    cases h
    have eY : mY 261 = yJ0_charAt_5068e := rfl
    have eC : mC 261 = cJ0_charAt_5068e := rfl
    have eL : mL 261 = 2 := rfl
    have eR : mR 261 = some .char := rfl
    unfold mW
    rw [eY, eC, eL, eR]
    have := jm_cha (d + 2) (σ := σ) ⟨hA, hL, hS⟩ hj ht
    exact this
  · rw [if_neg hi] at h; cases h
theorem ok_J0_indexOf_0f7a4 (g : GP) (d : Nat) (σ : Sg) (c : Nat) (x : Int32) : ∀ v σ', s_J0_indexOf_0f7a4 σ c x = some (v, σ') → Ok g (d + 6) 262 [br 30 c, bi x] σ (some v) σ' := by
  intro v σ' h hA hL hv hS
  unfold s_J0_indexOf_0f7a4 at h
  obtain ⟨h1, h2⟩ := Prod.mk.inj (Option.some.inj h)
  rw [← h1, ← h2]
  obtain ⟨j, hj, rfl⟩ := kd_30 (hv _ List.mem_cons_self c rfl).1
  have eb : sByt (950 + j) = sbyt.getD j [] := by unfold sByt; rw [Nat.add_sub_cancel_left]
  have eY : mY 262 = yJ0_indexOf_0f7a4 := rfl
  have eC : mC 262 = cJ0_indexOf_0f7a4 := rfl
  have eL : mL 262 = 2 := rfl
  have eR : mR 262 = some .int := rfl
  unfold mW
  rw [eY, eC, eL, eR, eb]
  have := jm_ix1 (d + 2) (σ := σ) ⟨hA, hL, hS⟩ hj x
  exact this
end
