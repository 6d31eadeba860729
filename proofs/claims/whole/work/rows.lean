section
-- ===== PART A: goes FIRST, ahead of the names: the tables' words, and 'selects' of the private methods out of them =====
/-- a private method of a class that the tables say can be made, by its rows of tables_1 -/
def lw_okq (q : MethodName × Nat) : Prop := (q.1.cls ≠ "java/lang/invoke/MethodHandle" ∧ q.1.cls ≠ "java/lang/invoke/VarHandle") ∧ Cond.instantiable q.1.cls q.2 ∈ tables_1 ∧ Cond.privateMethod q.1 ∈ tables_1 ∧ Cond.instanceMethod q.1 ∈ tables_1
theorem lw_p0 : lw_okq (⟨"PloughField", "tell", "(IIII)Z"⟩, 10) := ⟨⟨by decide +kernel, by decide +kernel⟩, List.mem_of_getElem? (i := 25) (by decide +kernel), List.mem_of_getElem? (i := 432) (by decide +kernel), List.mem_of_getElem? (i := 433) (by decide +kernel)⟩
theorem lw_p1 : lw_okq (⟨"PloughField$Table", "put", "(II)V"⟩, 4) := ⟨⟨by decide +kernel, by decide +kernel⟩, List.mem_of_getElem? (i := 39) (by decide +kernel), List.mem_of_getElem? (i := 445) (by decide +kernel), List.mem_of_getElem? (i := 446) (by decide +kernel)⟩
theorem lw_p2 : lw_okq (⟨"PloughField$World", "hear", "(I)V"⟩, 14) := ⟨⟨by decide +kernel, by decide +kernel⟩, List.mem_of_getElem? (i := 116) (by decide +kernel), List.mem_of_getElem? (i := 457) (by decide +kernel), List.mem_of_getElem? (i := 458) (by decide +kernel)⟩
theorem lw_p3 : lw_okq (⟨"PloughField$World", "adjust", "(II)V"⟩, 14) := ⟨⟨by decide +kernel, by decide +kernel⟩, List.mem_of_getElem? (i := 116) (by decide +kernel), List.mem_of_getElem? (i := 466) (by decide +kernel), List.mem_of_getElem? (i := 467) (by decide +kernel)⟩
theorem lw_p4 : lw_okq (⟨"PloughField$World", "bringCart", "(I)V"⟩, 14) := ⟨⟨by decide +kernel, by decide +kernel⟩, List.mem_of_getElem? (i := 116) (by decide +kernel), List.mem_of_getElem? (i := 471) (by decide +kernel), List.mem_of_getElem? (i := 472) (by decide +kernel)⟩
theorem lw_p5 : lw_okq (⟨"PloughField$World", "openWork", "(I)V"⟩, 14) := ⟨⟨by decide +kernel, by decide +kernel⟩, List.mem_of_getElem? (i := 116) (by decide +kernel), List.mem_of_getElem? (i := 495) (by decide +kernel), List.mem_of_getElem? (i := 496) (by decide +kernel)⟩
theorem lw_p6 : lw_okq (⟨"PloughField$Plants", "weigh", "(IJI)J"⟩, 11) := ⟨⟨by decide +kernel, by decide +kernel⟩, List.mem_of_getElem? (i := 154) (by decide +kernel), List.mem_of_getElem? (i := 521) (by decide +kernel), List.mem_of_getElem? (i := 522) (by decide +kernel)⟩
theorem lw_p7 : lw_okq (⟨"PloughField", "tellNewest", "(ILPloughField$Table;)I"⟩, 10) := ⟨⟨by decide +kernel, by decide +kernel⟩, List.mem_of_getElem? (i := 25) (by decide +kernel), List.mem_of_getElem? (i := 547) (by decide +kernel), List.mem_of_getElem? (i := 548) (by decide +kernel)⟩
theorem lw_p8 : lw_okq (⟨"PloughField", "addWork", "(III)I"⟩, 10) := ⟨⟨by decide +kernel, by decide +kernel⟩, List.mem_of_getElem? (i := 25) (by decide +kernel), List.mem_of_getElem? (i := 568) (by decide +kernel), List.mem_of_getElem? (i := 569) (by decide +kernel)⟩
theorem lw_p9 : lw_okq (⟨"PloughField$World", "passHour", "()V"⟩, 14) := ⟨⟨by decide +kernel, by decide +kernel⟩, List.mem_of_getElem? (i := 116) (by decide +kernel), List.mem_of_getElem? (i := 616) (by decide +kernel), List.mem_of_getElem? (i := 617) (by decide +kernel)⟩
theorem lw_p10 : lw_okq (⟨"PloughField$Ground", "lowestBeside", "(I)I"⟩, 6) := ⟨⟨by decide +kernel, by decide +kernel⟩, List.mem_of_getElem? (i := 122) (by decide +kernel), List.mem_of_getElem? (i := 634) (by decide +kernel), List.mem_of_getElem? (i := 635) (by decide +kernel)⟩
theorem lw_p11 : lw_okq (⟨"PloughField$World", "makeOffers", "()V"⟩, 14) := ⟨⟨by decide +kernel, by decide +kernel⟩, List.mem_of_getElem? (i := 116) (by decide +kernel), List.mem_of_getElem? (i := 645) (by decide +kernel), List.mem_of_getElem? (i := 646) (by decide +kernel)⟩
theorem lw_p12 : lw_okq (⟨"PloughField$World", "ofKind", "(I)I"⟩, 14) := ⟨⟨by decide +kernel, by decide +kernel⟩, List.mem_of_getElem? (i := 116) (by decide +kernel), List.mem_of_getElem? (i := 661) (by decide +kernel), List.mem_of_getElem? (i := 662) (by decide +kernel)⟩
theorem lw_p13 : lw_okq (⟨"PloughField$Paths", "takeNearest", "(I)I"⟩, 5) := ⟨⟨by decide +kernel, by decide +kernel⟩, List.mem_of_getElem? (i := 94) (by decide +kernel), List.mem_of_getElem? (i := 678) (by decide +kernel), List.mem_of_getElem? (i := 679) (by decide +kernel)⟩
theorem lw_p14 : lw_okq (⟨"PloughField$Paths", "goOnFrom", "(III)V"⟩, 5) := ⟨⟨by decide +kernel, by decide +kernel⟩, List.mem_of_getElem? (i := 94) (by decide +kernel), List.mem_of_getElem? (i := 682) (by decide +kernel), List.mem_of_getElem? (i := 683) (by decide +kernel)⟩
theorem lw_p15 : lw_okq (⟨"PloughField$World", "cheapest", "(II)I"⟩, 14) := ⟨⟨by decide +kernel, by decide +kernel⟩, List.mem_of_getElem? (i := 116) (by decide +kernel), List.mem_of_getElem? (i := 690) (by decide +kernel), List.mem_of_getElem? (i := 691) (by decide +kernel)⟩
def lw_privs_1 : List (MethodName × Nat) := [(⟨"PloughField", "tell", "(IIII)Z"⟩, 10), (⟨"PloughField$Table", "put", "(II)V"⟩, 4), (⟨"PloughField$World", "hear", "(I)V"⟩, 14), (⟨"PloughField$World", "adjust", "(II)V"⟩, 14), (⟨"PloughField$World", "bringCart", "(I)V"⟩, 14), (⟨"PloughField$World", "openWork", "(I)V"⟩, 14), (⟨"PloughField$Plants", "weigh", "(IJI)J"⟩, 11), (⟨"PloughField", "tellNewest", "(ILPloughField$Table;)I"⟩, 10), (⟨"PloughField", "addWork", "(III)I"⟩, 10), (⟨"PloughField$World", "passHour", "()V"⟩, 14), (⟨"PloughField$Ground", "lowestBeside", "(I)I"⟩, 6), (⟨"PloughField$World", "makeOffers", "()V"⟩, 14), (⟨"PloughField$World", "ofKind", "(I)I"⟩, 14), (⟨"PloughField$Paths", "takeNearest", "(I)I"⟩, 5), (⟨"PloughField$Paths", "goOnFrom", "(III)V"⟩, 5), (⟨"PloughField$World", "cheapest", "(II)I"⟩, 14)]
theorem lw_r1 : ∀ q ∈ lw_privs_1, lw_okq q := List.forall_mem_cons.mpr ⟨lw_p0, List.forall_mem_cons.mpr ⟨lw_p1, List.forall_mem_cons.mpr ⟨lw_p2, List.forall_mem_cons.mpr ⟨lw_p3, List.forall_mem_cons.mpr ⟨lw_p4, List.forall_mem_cons.mpr ⟨lw_p5, List.forall_mem_cons.mpr ⟨lw_p6, List.forall_mem_cons.mpr ⟨lw_p7, List.forall_mem_cons.mpr ⟨lw_p8, List.forall_mem_cons.mpr ⟨lw_p9, List.forall_mem_cons.mpr ⟨lw_p10, List.forall_mem_cons.mpr ⟨lw_p11, List.forall_mem_cons.mpr ⟨lw_p12, List.forall_mem_cons.mpr ⟨lw_p13, List.forall_mem_cons.mpr ⟨lw_p14, List.forall_mem_cons.mpr ⟨lw_p15, fun _ h => absurd h List.not_mem_nil⟩⟩⟩⟩⟩⟩⟩⟩⟩⟩⟩⟩⟩⟩⟩⟩
theorem lw_p16 : lw_okq (⟨"PloughField$World", "goalOf", "(II)I"⟩, 14) := ⟨⟨by decide +kernel, by decide +kernel⟩, List.mem_of_getElem? (i := 116) (by decide +kernel), List.mem_of_getElem? (i := 694) (by decide +kernel), List.mem_of_getElem? (i := 695) (by decide +kernel)⟩
theorem lw_p17 : lw_okq (⟨"PloughField$Paths", "isNearer", "(III)Z"⟩, 5) := ⟨⟨by decide +kernel, by decide +kernel⟩, List.mem_of_getElem? (i := 94) (by decide +kernel), List.mem_of_getElem? (i := 706) (by decide +kernel), List.mem_of_getElem? (i := 707) (by decide +kernel)⟩
theorem lw_p18 : lw_okq (⟨"PloughField$World", "takeOn", "(II)V"⟩, 14) := ⟨⟨by decide +kernel, by decide +kernel⟩, List.mem_of_getElem? (i := 116) (by decide +kernel), List.mem_of_getElem? (i := 715) (by decide +kernel), List.mem_of_getElem? (i := 716) (by decide +kernel)⟩
theorem lw_p19 : lw_okq (⟨"PloughField$World", "takeTurn", "(I)V"⟩, 14) := ⟨⟨by decide +kernel, by decide +kernel⟩, List.mem_of_getElem? (i := 116) (by decide +kernel), List.mem_of_getElem? (i := 719) (by decide +kernel), List.mem_of_getElem? (i := 720) (by decide +kernel)⟩
theorem lw_p20 : lw_okq (⟨"PloughField$World", "isAtWork", "(II)Z"⟩, 14) := ⟨⟨by decide +kernel, by decide +kernel⟩, List.mem_of_getElem? (i := 116) (by decide +kernel), List.mem_of_getElem? (i := 729) (by decide +kernel), List.mem_of_getElem? (i := 730) (by decide +kernel)⟩
theorem lw_p21 : lw_okq (⟨"PloughField$World", "doWork", "(II)V"⟩, 14) := ⟨⟨by decide +kernel, by decide +kernel⟩, List.mem_of_getElem? (i := 116) (by decide +kernel), List.mem_of_getElem? (i := 739) (by decide +kernel), List.mem_of_getElem? (i := 740) (by decide +kernel)⟩
theorem lw_p22 : lw_okq (⟨"PloughField$World", "move", "(I)V"⟩, 14) := ⟨⟨by decide +kernel, by decide +kernel⟩, List.mem_of_getElem? (i := 116) (by decide +kernel), List.mem_of_getElem? (i := 759) (by decide +kernel), List.mem_of_getElem? (i := 760) (by decide +kernel)⟩
theorem lw_p23 : lw_okq (⟨"PloughField$World", "leaveWork", "(II)V"⟩, 14) := ⟨⟨by decide +kernel, by decide +kernel⟩, List.mem_of_getElem? (i := 116) (by decide +kernel), List.mem_of_getElem? (i := 768) (by decide +kernel), List.mem_of_getElem? (i := 769) (by decide +kernel)⟩
theorem lw_p24 : lw_okq (⟨"PloughField$Plants", "drawLot", "(I)I"⟩, 11) := ⟨⟨by decide +kernel, by decide +kernel⟩, List.mem_of_getElem? (i := 154) (by decide +kernel), List.mem_of_getElem? (i := 793) (by decide +kernel), List.mem_of_getElem? (i := 794) (by decide +kernel)⟩
theorem lw_p25 : lw_okq (⟨"PloughField$Strips", "armsAsDealt", "()I"⟩, 1) := ⟨⟨by decide +kernel, by decide +kernel⟩, List.mem_of_getElem? (i := 378) (by decide +kernel), List.mem_of_getElem? (i := 930) (by decide +kernel), List.mem_of_getElem? (i := 931) (by decide +kernel)⟩
theorem lw_p26 : lw_okq (⟨"PloughField$Strips", "leadOf", "(I)I"⟩, 1) := ⟨⟨by decide +kernel, by decide +kernel⟩, List.mem_of_getElem? (i := 378) (by decide +kernel), List.mem_of_getElem? (i := 935) (by decide +kernel), List.mem_of_getElem? (i := 936) (by decide +kernel)⟩
theorem lw_p27 : lw_okq (⟨"PloughField$Strips", "waysWithLead", "(I)I"⟩, 1) := ⟨⟨by decide +kernel, by decide +kernel⟩, List.mem_of_getElem? (i := 378) (by decide +kernel), List.mem_of_getElem? (i := 940) (by decide +kernel), List.mem_of_getElem? (i := 941) (by decide +kernel)⟩
theorem lw_p28 : lw_okq (⟨"PloughField$Reader", "split", "(I)V"⟩, 9) := ⟨⟨by decide +kernel, by decide +kernel⟩, List.mem_of_getElem? (i := 305) (by decide +kernel), List.mem_of_getElem? (i := 972) (by decide +kernel), List.mem_of_getElem? (i := 973) (by decide +kernel)⟩
theorem lw_p29 : lw_okq (⟨"PloughField$Reader", "tokenFrom", "(III)I"⟩, 9) := ⟨⟨by decide +kernel, by decide +kernel⟩, List.mem_of_getElem? (i := 305) (by decide +kernel), List.mem_of_getElem? (i := 979) (by decide +kernel), List.mem_of_getElem? (i := 980) (by decide +kernel)⟩
theorem lw_p30 : lw_okq (⟨"PloughField$Reader", "wordBetween", "(II)I"⟩, 9) := ⟨⟨by decide +kernel, by decide +kernel⟩, List.mem_of_getElem? (i := 305) (by decide +kernel), List.mem_of_getElem? (i := 1068) (by decide +kernel), List.mem_of_getElem? (i := 1069) (by decide +kernel)⟩
theorem lw_p31 : lw_okq (⟨"PloughField$Reader", "numberBetween", "(II)I"⟩, 9) := ⟨⟨by decide +kernel, by decide +kernel⟩, List.mem_of_getElem? (i := 305) (by decide +kernel), List.mem_of_getElem? (i := 1094) (by decide +kernel), List.mem_of_getElem? (i := 1095) (by decide +kernel)⟩
def lw_privs_2 : List (MethodName × Nat) := [(⟨"PloughField$World", "goalOf", "(II)I"⟩, 14), (⟨"PloughField$Paths", "isNearer", "(III)Z"⟩, 5), (⟨"PloughField$World", "takeOn", "(II)V"⟩, 14), (⟨"PloughField$World", "takeTurn", "(I)V"⟩, 14), (⟨"PloughField$World", "isAtWork", "(II)Z"⟩, 14), (⟨"PloughField$World", "doWork", "(II)V"⟩, 14), (⟨"PloughField$World", "move", "(I)V"⟩, 14), (⟨"PloughField$World", "leaveWork", "(II)V"⟩, 14), (⟨"PloughField$Plants", "drawLot", "(I)I"⟩, 11), (⟨"PloughField$Strips", "armsAsDealt", "()I"⟩, 1), (⟨"PloughField$Strips", "leadOf", "(I)I"⟩, 1), (⟨"PloughField$Strips", "waysWithLead", "(I)I"⟩, 1), (⟨"PloughField$Reader", "split", "(I)V"⟩, 9), (⟨"PloughField$Reader", "tokenFrom", "(III)I"⟩, 9), (⟨"PloughField$Reader", "wordBetween", "(II)I"⟩, 9), (⟨"PloughField$Reader", "numberBetween", "(II)I"⟩, 9)]
theorem lw_r2 : ∀ q ∈ lw_privs_2, lw_okq q := List.forall_mem_cons.mpr ⟨lw_p16, List.forall_mem_cons.mpr ⟨lw_p17, List.forall_mem_cons.mpr ⟨lw_p18, List.forall_mem_cons.mpr ⟨lw_p19, List.forall_mem_cons.mpr ⟨lw_p20, List.forall_mem_cons.mpr ⟨lw_p21, List.forall_mem_cons.mpr ⟨lw_p22, List.forall_mem_cons.mpr ⟨lw_p23, List.forall_mem_cons.mpr ⟨lw_p24, List.forall_mem_cons.mpr ⟨lw_p25, List.forall_mem_cons.mpr ⟨lw_p26, List.forall_mem_cons.mpr ⟨lw_p27, List.forall_mem_cons.mpr ⟨lw_p28, List.forall_mem_cons.mpr ⟨lw_p29, List.forall_mem_cons.mpr ⟨lw_p30, List.forall_mem_cons.mpr ⟨lw_p31, fun _ h => absurd h List.not_mem_nil⟩⟩⟩⟩⟩⟩⟩⟩⟩⟩⟩⟩⟩⟩⟩⟩
theorem lw_p32 : lw_okq (⟨"PloughField$Reader", "addToken", "(II)V"⟩, 9) := ⟨⟨by decide +kernel, by decide +kernel⟩, List.mem_of_getElem? (i := 305) (by decide +kernel), List.mem_of_getElem? (i := 1098) (by decide +kernel), List.mem_of_getElem? (i := 1099) (by decide +kernel)⟩
theorem lw_p33 : lw_okq (⟨"PloughField$Reader", "here", "()I"⟩, 9) := ⟨⟨by decide +kernel, by decide +kernel⟩, List.mem_of_getElem? (i := 305) (by decide +kernel), List.mem_of_getElem? (i := 1102) (by decide +kernel), List.mem_of_getElem? (i := 1103) (by decide +kernel)⟩
theorem lw_p34 : lw_okq (⟨"PloughField$Reader", "readStatement", "()Z"⟩, 9) := ⟨⟨by decide +kernel, by decide +kernel⟩, List.mem_of_getElem? (i := 305) (by decide +kernel), List.mem_of_getElem? (i := 1106) (by decide +kernel), List.mem_of_getElem? (i := 1107) (by decide +kernel)⟩
theorem lw_p35 : lw_okq (⟨"PloughField$Reader", "emit", "(I)V"⟩, 9) := ⟨⟨by decide +kernel, by decide +kernel⟩, List.mem_of_getElem? (i := 305) (by decide +kernel), List.mem_of_getElem? (i := 1111) (by decide +kernel), List.mem_of_getElem? (i := 1112) (by decide +kernel)⟩
theorem lw_p36 : lw_okq (⟨"PloughField$Reader", "readSum", "(I)Z"⟩, 9) := ⟨⟨by decide +kernel, by decide +kernel⟩, List.mem_of_getElem? (i := 305) (by decide +kernel), List.mem_of_getElem? (i := 1115) (by decide +kernel), List.mem_of_getElem? (i := 1116) (by decide +kernel)⟩
theorem lw_p37 : lw_okq (⟨"PloughField$Reader", "readAtom", "(I)Z"⟩, 9) := ⟨⟨by decide +kernel, by decide +kernel⟩, List.mem_of_getElem? (i := 305) (by decide +kernel), List.mem_of_getElem? (i := 1119) (by decide +kernel), List.mem_of_getElem? (i := 1120) (by decide +kernel)⟩
theorem lw_p38 : lw_okq (⟨"PloughField$Reader", "accept", "(I)Z"⟩, 9) := ⟨⟨by decide +kernel, by decide +kernel⟩, List.mem_of_getElem? (i := 305) (by decide +kernel), List.mem_of_getElem? (i := 1123) (by decide +kernel), List.mem_of_getElem? (i := 1124) (by decide +kernel)⟩
theorem lw_p39 : lw_okq (⟨"PloughField$Reader", "readAny", "(I)Z"⟩, 9) := ⟨⟨by decide +kernel, by decide +kernel⟩, List.mem_of_getElem? (i := 305) (by decide +kernel), List.mem_of_getElem? (i := 1130) (by decide +kernel), List.mem_of_getElem? (i := 1131) (by decide +kernel)⟩
theorem lw_p40 : lw_okq (⟨"PloughField$Reader", "readOne", "(I)Z"⟩, 9) := ⟨⟨by decide +kernel, by decide +kernel⟩, List.mem_of_getElem? (i := 305) (by decide +kernel), List.mem_of_getElem? (i := 1134) (by decide +kernel), List.mem_of_getElem? (i := 1135) (by decide +kernel)⟩
theorem lw_p41 : lw_okq (⟨"PloughField$Reader", "placeHere", "()I"⟩, 9) := ⟨⟨by decide +kernel, by decide +kernel⟩, List.mem_of_getElem? (i := 305) (by decide +kernel), List.mem_of_getElem? (i := 1138) (by decide +kernel), List.mem_of_getElem? (i := 1139) (by decide +kernel)⟩
theorem lw_p42 : lw_okq (⟨"PloughField", "findsAct", "(I)Z"⟩, 10) := ⟨⟨by decide +kernel, by decide +kernel⟩, List.mem_of_getElem? (i := 25) (by decide +kernel), List.mem_of_getElem? (i := 1159) (by decide +kernel), List.mem_of_getElem? (i := 1160) (by decide +kernel)⟩
theorem lw_p43 : lw_okq (⟨"PloughField$Machine", "push", "(I)V"⟩, 8) := ⟨⟨by decide +kernel, by decide +kernel⟩, List.mem_of_getElem? (i := 343) (by decide +kernel), List.mem_of_getElem? (i := 1177) (by decide +kernel), List.mem_of_getElem? (i := 1178) (by decide +kernel)⟩
theorem lw_p44 : lw_okq (⟨"PloughField$Machine", "pop", "()I"⟩, 8) := ⟨⟨by decide +kernel, by decide +kernel⟩, List.mem_of_getElem? (i := 343) (by decide +kernel), List.mem_of_getElem? (i := 1181) (by decide +kernel), List.mem_of_getElem? (i := 1182) (by decide +kernel)⟩
theorem lw_p45 : lw_okq (⟨"PloughField$Machine", "apply", "(I[I)V"⟩, 8) := ⟨⟨by decide +kernel, by decide +kernel⟩, List.mem_of_getElem? (i := 343) (by decide +kernel), List.mem_of_getElem? (i := 1185) (by decide +kernel), List.mem_of_getElem? (i := 1186) (by decide +kernel)⟩
theorem lw_p46 : lw_okq (⟨"PloughField", "canLeaveOut", "(II)Z"⟩, 10) := ⟨⟨by decide +kernel, by decide +kernel⟩, List.mem_of_getElem? (i := 25) (by decide +kernel), List.mem_of_getElem? (i := 1213) (by decide +kernel), List.mem_of_getElem? (i := 1214) (by decide +kernel)⟩
theorem lw_p47 : lw_okq (⟨"PloughFieldModel", "begins", "()V"⟩, 65) := ⟨⟨by decide +kernel, by decide +kernel⟩, List.mem_of_getElem? (i := 1236) (by decide +kernel), List.mem_of_getElem? (i := 1242) (by decide +kernel), List.mem_of_getElem? (i := 1243) (by decide +kernel)⟩
def lw_privs_3 : List (MethodName × Nat) := [(⟨"PloughField$Reader", "addToken", "(II)V"⟩, 9), (⟨"PloughField$Reader", "here", "()I"⟩, 9), (⟨"PloughField$Reader", "readStatement", "()Z"⟩, 9), (⟨"PloughField$Reader", "emit", "(I)V"⟩, 9), (⟨"PloughField$Reader", "readSum", "(I)Z"⟩, 9), (⟨"PloughField$Reader", "readAtom", "(I)Z"⟩, 9), (⟨"PloughField$Reader", "accept", "(I)Z"⟩, 9), (⟨"PloughField$Reader", "readAny", "(I)Z"⟩, 9), (⟨"PloughField$Reader", "readOne", "(I)Z"⟩, 9), (⟨"PloughField$Reader", "placeHere", "()I"⟩, 9), (⟨"PloughField", "findsAct", "(I)Z"⟩, 10), (⟨"PloughField$Machine", "push", "(I)V"⟩, 8), (⟨"PloughField$Machine", "pop", "()I"⟩, 8), (⟨"PloughField$Machine", "apply", "(I[I)V"⟩, 8), (⟨"PloughField", "canLeaveOut", "(II)Z"⟩, 10), (⟨"PloughFieldModel", "begins", "()V"⟩, 65)]
theorem lw_r3 : ∀ q ∈ lw_privs_3, lw_okq q := List.forall_mem_cons.mpr ⟨lw_p32, List.forall_mem_cons.mpr ⟨lw_p33, List.forall_mem_cons.mpr ⟨lw_p34, List.forall_mem_cons.mpr ⟨lw_p35, List.forall_mem_cons.mpr ⟨lw_p36, List.forall_mem_cons.mpr ⟨lw_p37, List.forall_mem_cons.mpr ⟨lw_p38, List.forall_mem_cons.mpr ⟨lw_p39, List.forall_mem_cons.mpr ⟨lw_p40, List.forall_mem_cons.mpr ⟨lw_p41, List.forall_mem_cons.mpr ⟨lw_p42, List.forall_mem_cons.mpr ⟨lw_p43, List.forall_mem_cons.mpr ⟨lw_p44, List.forall_mem_cons.mpr ⟨lw_p45, List.forall_mem_cons.mpr ⟨lw_p46, List.forall_mem_cons.mpr ⟨lw_p47, fun _ h => absurd h List.not_mem_nil⟩⟩⟩⟩⟩⟩⟩⟩⟩⟩⟩⟩⟩⟩⟩⟩
theorem lw_p48 : lw_okq (⟨"PloughFieldModel", "tells", "(IIII)V"⟩, 65) := ⟨⟨by decide +kernel, by decide +kernel⟩, List.mem_of_getElem? (i := 1236) (by decide +kernel), List.mem_of_getElem? (i := 1453) (by decide +kernel), List.mem_of_getElem? (i := 1454) (by decide +kernel)⟩
theorem lw_p49 : lw_okq (⟨"PloughFieldModel", "does", "(I)V"⟩, 65) := ⟨⟨by decide +kernel, by decide +kernel⟩, List.mem_of_getElem? (i := 1236) (by decide +kernel), List.mem_of_getElem? (i := 1457) (by decide +kernel), List.mem_of_getElem? (i := 1458) (by decide +kernel)⟩
theorem lw_p50 : lw_okq (⟨"PloughFieldModel", "comes", "(I)V"⟩, 65) := ⟨⟨by decide +kernel, by decide +kernel⟩, List.mem_of_getElem? (i := 1236) (by decide +kernel), List.mem_of_getElem? (i := 1461) (by decide +kernel), List.mem_of_getElem? (i := 1462) (by decide +kernel)⟩
theorem lw_p51 : lw_okq (⟨"PloughFieldModel", "charged", "(I)V"⟩, 65) := ⟨⟨by decide +kernel, by decide +kernel⟩, List.mem_of_getElem? (i := 1236) (by decide +kernel), List.mem_of_getElem? (i := 1465) (by decide +kernel), List.mem_of_getElem? (i := 1466) (by decide +kernel)⟩
theorem lw_p52 : lw_okq (⟨"PloughFieldModel", "isBut", "(II)Z"⟩, 65) := ⟨⟨by decide +kernel, by decide +kernel⟩, List.mem_of_getElem? (i := 1236) (by decide +kernel), List.mem_of_getElem? (i := 1469) (by decide +kernel), List.mem_of_getElem? (i := 1470) (by decide +kernel)⟩
theorem lw_p53 : lw_okq (⟨"PloughFieldModel", "grows", "(I)V"⟩, 65) := ⟨⟨by decide +kernel, by decide +kernel⟩, List.mem_of_getElem? (i := 1236) (by decide +kernel), List.mem_of_getElem? (i := 1473) (by decide +kernel), List.mem_of_getElem? (i := 1474) (by decide +kernel)⟩
theorem lw_p54 : lw_okq (⟨"PloughFieldModel", "seen", "(II)V"⟩, 65) := ⟨⟨by decide +kernel, by decide +kernel⟩, List.mem_of_getElem? (i := 1236) (by decide +kernel), List.mem_of_getElem? (i := 1478) (by decide +kernel), List.mem_of_getElem? (i := 1479) (by decide +kernel)⟩
theorem lw_p55 : lw_okq (⟨"PloughFieldModel", "isCart", "(I)Z"⟩, 65) := ⟨⟨by decide +kernel, by decide +kernel⟩, List.mem_of_getElem? (i := 1236) (by decide +kernel), List.mem_of_getElem? (i := 1502) (by decide +kernel), List.mem_of_getElem? (i := 1503) (by decide +kernel)⟩
theorem lw_p56 : lw_okq (⟨"PloughFieldModel", "has", "(I)Z"⟩, 65) := ⟨⟨by decide +kernel, by decide +kernel⟩, List.mem_of_getElem? (i := 1236) (by decide +kernel), List.mem_of_getElem? (i := 1522) (by decide +kernel), List.mem_of_getElem? (i := 1523) (by decide +kernel)⟩
theorem lw_p57 : lw_okq (⟨"PloughFieldModel", "ways", "(IIZ)V"⟩, 65) := ⟨⟨by decide +kernel, by decide +kernel⟩, List.mem_of_getElem? (i := 1236) (by decide +kernel), List.mem_of_getElem? (i := 1545) (by decide +kernel), List.mem_of_getElem? (i := 1546) (by decide +kernel)⟩
theorem lw_p58 : lw_okq (⟨"PloughFieldModel", "mayEnter", "(II)Z"⟩, 65) := ⟨⟨by decide +kernel, by decide +kernel⟩, List.mem_of_getElem? (i := 1236) (by decide +kernel), List.mem_of_getElem? (i := 1557) (by decide +kernel), List.mem_of_getElem? (i := 1558) (by decide +kernel)⟩
theorem lw_p59 : lw_okq (⟨"PloughFieldModel", "heavy", "(II)I"⟩, 65) := ⟨⟨by decide +kernel, by decide +kernel⟩, List.mem_of_getElem? (i := 1236) (by decide +kernel), List.mem_of_getElem? (i := 1561) (by decide +kernel), List.mem_of_getElem? (i := 1562) (by decide +kernel)⟩
theorem lw_p60 : lw_okq (⟨"PloughFieldModel", "nextOf", "(II)I"⟩, 65) := ⟨⟨by decide +kernel, by decide +kernel⟩, List.mem_of_getElem? (i := 1236) (by decide +kernel), List.mem_of_getElem? (i := 1570) (by decide +kernel), List.mem_of_getElem? (i := 1571) (by decide +kernel)⟩
theorem lw_p61 : lw_okq (⟨"PloughFieldModel", "hour", "()V"⟩, 65) := ⟨⟨by decide +kernel, by decide +kernel⟩, List.mem_of_getElem? (i := 1236) (by decide +kernel), List.mem_of_getElem? (i := 1578) (by decide +kernel), List.mem_of_getElem? (i := 1579) (by decide +kernel)⟩
theorem lw_p62 : lw_okq (⟨"PloughFieldModel", "rains", "()V"⟩, 65) := ⟨⟨by decide +kernel, by decide +kernel⟩, List.mem_of_getElem? (i := 1236) (by decide +kernel), List.mem_of_getElem? (i := 1582) (by decide +kernel), List.mem_of_getElem? (i := 1583) (by decide +kernel)⟩
theorem lw_p63 : lw_okq (⟨"PloughFieldModel", "flows", "()V"⟩, 65) := ⟨⟨by decide +kernel, by decide +kernel⟩, List.mem_of_getElem? (i := 1236) (by decide +kernel), List.mem_of_getElem? (i := 1586) (by decide +kernel), List.mem_of_getElem? (i := 1587) (by decide +kernel)⟩
def lw_privs_4 : List (MethodName × Nat) := [(⟨"PloughFieldModel", "tells", "(IIII)V"⟩, 65), (⟨"PloughFieldModel", "does", "(I)V"⟩, 65), (⟨"PloughFieldModel", "comes", "(I)V"⟩, 65), (⟨"PloughFieldModel", "charged", "(I)V"⟩, 65), (⟨"PloughFieldModel", "isBut", "(II)Z"⟩, 65), (⟨"PloughFieldModel", "grows", "(I)V"⟩, 65), (⟨"PloughFieldModel", "seen", "(II)V"⟩, 65), (⟨"PloughFieldModel", "isCart", "(I)Z"⟩, 65), (⟨"PloughFieldModel", "has", "(I)Z"⟩, 65), (⟨"PloughFieldModel", "ways", "(IIZ)V"⟩, 65), (⟨"PloughFieldModel", "mayEnter", "(II)Z"⟩, 65), (⟨"PloughFieldModel", "heavy", "(II)I"⟩, 65), (⟨"PloughFieldModel", "nextOf", "(II)I"⟩, 65), (⟨"PloughFieldModel", "hour", "()V"⟩, 65), (⟨"PloughFieldModel", "rains", "()V"⟩, 65), (⟨"PloughFieldModel", "flows", "()V"⟩, 65)]
theorem lw_r4 : ∀ q ∈ lw_privs_4, lw_okq q := List.forall_mem_cons.mpr ⟨lw_p48, List.forall_mem_cons.mpr ⟨lw_p49, List.forall_mem_cons.mpr ⟨lw_p50, List.forall_mem_cons.mpr ⟨lw_p51, List.forall_mem_cons.mpr ⟨lw_p52, List.forall_mem_cons.mpr ⟨lw_p53, List.forall_mem_cons.mpr ⟨lw_p54, List.forall_mem_cons.mpr ⟨lw_p55, List.forall_mem_cons.mpr ⟨lw_p56, List.forall_mem_cons.mpr ⟨lw_p57, List.forall_mem_cons.mpr ⟨lw_p58, List.forall_mem_cons.mpr ⟨lw_p59, List.forall_mem_cons.mpr ⟨lw_p60, List.forall_mem_cons.mpr ⟨lw_p61, List.forall_mem_cons.mpr ⟨lw_p62, List.forall_mem_cons.mpr ⟨lw_p63, fun _ h => absurd h List.not_mem_nil⟩⟩⟩⟩⟩⟩⟩⟩⟩⟩⟩⟩⟩⟩⟩⟩
theorem lw_p64 : lw_okq (⟨"PloughFieldModel", "dries", "()V"⟩, 65) := ⟨⟨by decide +kernel, by decide +kernel⟩, List.mem_of_getElem? (i := 1236) (by decide +kernel), List.mem_of_getElem? (i := 1590) (by decide +kernel), List.mem_of_getElem? (i := 1591) (by decide +kernel)⟩
theorem lw_p65 : lw_okq (⟨"PloughFieldModel", "offers", "()V"⟩, 65) := ⟨⟨by decide +kernel, by decide +kernel⟩, List.mem_of_getElem? (i := 1236) (by decide +kernel), List.mem_of_getElem? (i := 1594) (by decide +kernel), List.mem_of_getElem? (i := 1595) (by decide +kernel)⟩
theorem lw_p66 : lw_okq (⟨"PloughFieldModel", "mayTake", "(II)Z"⟩, 65) := ⟨⟨by decide +kernel, by decide +kernel⟩, List.mem_of_getElem? (i := 1236) (by decide +kernel), List.mem_of_getElem? (i := 1598) (by decide +kernel), List.mem_of_getElem? (i := 1599) (by decide +kernel)⟩
theorem lw_p67 : lw_okq (⟨"PloughFieldModel", "acts", "(I)V"⟩, 65) := ⟨⟨by decide +kernel, by decide +kernel⟩, List.mem_of_getElem? (i := 1236) (by decide +kernel), List.mem_of_getElem? (i := 1602) (by decide +kernel), List.mem_of_getElem? (i := 1603) (by decide +kernel)⟩
theorem lw_p68 : lw_okq (⟨"PloughFieldModel", "gives", "(I)V"⟩, 65) := ⟨⟨by decide +kernel, by decide +kernel⟩, List.mem_of_getElem? (i := 1236) (by decide +kernel), List.mem_of_getElem? (i := 1606) (by decide +kernel), List.mem_of_getElem? (i := 1607) (by decide +kernel)⟩
theorem lw_p69 : lw_okq (⟨"PloughFieldModel", "moves", "(I)V"⟩, 65) := ⟨⟨by decide +kernel, by decide +kernel⟩, List.mem_of_getElem? (i := 1236) (by decide +kernel), List.mem_of_getElem? (i := 1611) (by decide +kernel), List.mem_of_getElem? (i := 1612) (by decide +kernel)⟩
theorem lw_p70 : lw_okq (⟨"PloughFieldModel", "works", "(I)V"⟩, 65) := ⟨⟨by decide +kernel, by decide +kernel⟩, List.mem_of_getElem? (i := 1236) (by decide +kernel), List.mem_of_getElem? (i := 1615) (by decide +kernel), List.mem_of_getElem? (i := 1616) (by decide +kernel)⟩
theorem lw_p71 : lw_okq (⟨"PloughFieldModel", "dies", "(II)V"⟩, 65) := ⟨⟨by decide +kernel, by decide +kernel⟩, List.mem_of_getElem? (i := 1236) (by decide +kernel), List.mem_of_getElem? (i := 1619) (by decide +kernel), List.mem_of_getElem? (i := 1620) (by decide +kernel)⟩
theorem lw_p72 : lw_okq (⟨"PloughFieldModel", "pulls", "(II)V"⟩, 65) := ⟨⟨by decide +kernel, by decide +kernel⟩, List.mem_of_getElem? (i := 1236) (by decide +kernel), List.mem_of_getElem? (i := 1623) (by decide +kernel), List.mem_of_getElem? (i := 1624) (by decide +kernel)⟩
theorem lw_p73 : lw_okq (⟨"PloughFieldModel", "drops", "(I)V"⟩, 65) := ⟨⟨by decide +kernel, by decide +kernel⟩, List.mem_of_getElem? (i := 1236) (by decide +kernel), List.mem_of_getElem? (i := 1627) (by decide +kernel), List.mem_of_getElem? (i := 1628) (by decide +kernel)⟩
theorem lw_p74 : lw_okq (⟨"PloughFieldModel", "enters", "(II)V"⟩, 65) := ⟨⟨by decide +kernel, by decide +kernel⟩, List.mem_of_getElem? (i := 1236) (by decide +kernel), List.mem_of_getElem? (i := 1631) (by decide +kernel), List.mem_of_getElem? (i := 1632) (by decide +kernel)⟩
theorem lw_p75 : lw_okq (⟨"PloughFieldModel", "ends", "()V"⟩, 65) := ⟨⟨by decide +kernel, by decide +kernel⟩, List.mem_of_getElem? (i := 1236) (by decide +kernel), List.mem_of_getElem? (i := 1635) (by decide +kernel), List.mem_of_getElem? (i := 1636) (by decide +kernel)⟩
theorem lw_p76 : lw_okq (⟨"PloughFieldModel", "lotIsLow", "()Z"⟩, 65) := ⟨⟨by decide +kernel, by decide +kernel⟩, List.mem_of_getElem? (i := 1236) (by decide +kernel), List.mem_of_getElem? (i := 1639) (by decide +kernel), List.mem_of_getElem? (i := 1640) (by decide +kernel)⟩
theorem lw_p77 : lw_okq (⟨"PloughFieldModel", "cellOf", "(II)I"⟩, 65) := ⟨⟨by decide +kernel, by decide +kernel⟩, List.mem_of_getElem? (i := 1236) (by decide +kernel), List.mem_of_getElem? (i := 1647) (by decide +kernel), List.mem_of_getElem? (i := 1648) (by decide +kernel)⟩
theorem lw_p78 : lw_okq (⟨"PloughFieldModel", "weeds", "(I)I"⟩, 65) := ⟨⟨by decide +kernel, by decide +kernel⟩, List.mem_of_getElem? (i := 1236) (by decide +kernel), List.mem_of_getElem? (i := 1651) (by decide +kernel), List.mem_of_getElem? (i := 1652) (by decide +kernel)⟩
theorem lw_p79 : lw_okq (⟨"PloughFieldModel", "illMany", "()I"⟩, 65) := ⟨⟨by decide +kernel, by decide +kernel⟩, List.mem_of_getElem? (i := 1236) (by decide +kernel), List.mem_of_getElem? (i := 1677) (by decide +kernel), List.mem_of_getElem? (i := 1678) (by decide +kernel)⟩
def lw_privs_5 : List (MethodName × Nat) := [(⟨"PloughFieldModel", "dries", "()V"⟩, 65), (⟨"PloughFieldModel", "offers", "()V"⟩, 65), (⟨"PloughFieldModel", "mayTake", "(II)Z"⟩, 65), (⟨"PloughFieldModel", "acts", "(I)V"⟩, 65), (⟨"PloughFieldModel", "gives", "(I)V"⟩, 65), (⟨"PloughFieldModel", "moves", "(I)V"⟩, 65), (⟨"PloughFieldModel", "works", "(I)V"⟩, 65), (⟨"PloughFieldModel", "dies", "(II)V"⟩, 65), (⟨"PloughFieldModel", "pulls", "(II)V"⟩, 65), (⟨"PloughFieldModel", "drops", "(I)V"⟩, 65), (⟨"PloughFieldModel", "enters", "(II)V"⟩, 65), (⟨"PloughFieldModel", "ends", "()V"⟩, 65), (⟨"PloughFieldModel", "lotIsLow", "()Z"⟩, 65), (⟨"PloughFieldModel", "cellOf", "(II)I"⟩, 65), (⟨"PloughFieldModel", "weeds", "(I)I"⟩, 65), (⟨"PloughFieldModel", "illMany", "()I"⟩, 65)]
theorem lw_r5 : ∀ q ∈ lw_privs_5, lw_okq q := List.forall_mem_cons.mpr ⟨lw_p64, List.forall_mem_cons.mpr ⟨lw_p65, List.forall_mem_cons.mpr ⟨lw_p66, List.forall_mem_cons.mpr ⟨lw_p67, List.forall_mem_cons.mpr ⟨lw_p68, List.forall_mem_cons.mpr ⟨lw_p69, List.forall_mem_cons.mpr ⟨lw_p70, List.forall_mem_cons.mpr ⟨lw_p71, List.forall_mem_cons.mpr ⟨lw_p72, List.forall_mem_cons.mpr ⟨lw_p73, List.forall_mem_cons.mpr ⟨lw_p74, List.forall_mem_cons.mpr ⟨lw_p75, List.forall_mem_cons.mpr ⟨lw_p76, List.forall_mem_cons.mpr ⟨lw_p77, List.forall_mem_cons.mpr ⟨lw_p78, List.forall_mem_cons.mpr ⟨lw_p79, fun _ h => absurd h List.not_mem_nil⟩⟩⟩⟩⟩⟩⟩⟩⟩⟩⟩⟩⟩⟩⟩⟩
theorem lw_p80 : lw_okq (⟨"PloughFieldModel", "isSpot", "(II)Z"⟩, 65) := ⟨⟨by decide +kernel, by decide +kernel⟩, List.mem_of_getElem? (i := 1236) (by decide +kernel), List.mem_of_getElem? (i := 1681) (by decide +kernel), List.mem_of_getElem? (i := 1682) (by decide +kernel)⟩
theorem lw_p81 : lw_okq (⟨"PloughFieldModel", "spreads", "(I[Z)V"⟩, 65) := ⟨⟨by decide +kernel, by decide +kernel⟩, List.mem_of_getElem? (i := 1236) (by decide +kernel), List.mem_of_getElem? (i := 1685) (by decide +kernel), List.mem_of_getElem? (i := 1686) (by decide +kernel)⟩
theorem lw_p82 : lw_okq (⟨"PloughFieldModel", "finds", "()V"⟩, 65) := ⟨⟨by decide +kernel, by decide +kernel⟩, List.mem_of_getElem? (i := 1236) (by decide +kernel), List.mem_of_getElem? (i := 1693) (by decide +kernel), List.mem_of_getElem? (i := 1694) (by decide +kernel)⟩
theorem lw_p83 : lw_okq (⟨"PloughFieldModel", "reached", "(II)I"⟩, 65) := ⟨⟨by decide +kernel, by decide +kernel⟩, List.mem_of_getElem? (i := 1236) (by decide +kernel), List.mem_of_getElem? (i := 1697) (by decide +kernel), List.mem_of_getElem? (i := 1698) (by decide +kernel)⟩
theorem lw_p84 : lw_okq (⟨"PloughFieldModel", "leadOf", "(I)I"⟩, 65) := ⟨⟨by decide +kernel, by decide +kernel⟩, List.mem_of_getElem? (i := 1236) (by decide +kernel), List.mem_of_getElem? (i := 1712) (by decide +kernel), List.mem_of_getElem? (i := 1713) (by decide +kernel)⟩
theorem lw_p85 : lw_okq (⟨"PloughFieldModel", "four", "(I)V"⟩, 65) := ⟨⟨by decide +kernel, by decide +kernel⟩, List.mem_of_getElem? (i := 1236) (by decide +kernel), List.mem_of_getElem? (i := 1725) (by decide +kernel), List.mem_of_getElem? (i := 1726) (by decide +kernel)⟩
theorem lw_p86 : lw_okq (⟨"PloughFieldModel", "blanks", "()V"⟩, 65) := ⟨⟨by decide +kernel, by decide +kernel⟩, List.mem_of_getElem? (i := 1236) (by decide +kernel), List.mem_of_getElem? (i := 1733) (by decide +kernel), List.mem_of_getElem? (i := 1734) (by decide +kernel)⟩
theorem lw_p87 : lw_okq (⟨"PloughFieldModel", "statement", "(I)Z"⟩, 65) := ⟨⟨by decide +kernel, by decide +kernel⟩, List.mem_of_getElem? (i := 1236) (by decide +kernel), List.mem_of_getElem? (i := 1737) (by decide +kernel), List.mem_of_getElem? (i := 1738) (by decide +kernel)⟩
theorem lw_p88 : lw_okq (⟨"PloughFieldModel", "takes", "(J)Z"⟩, 65) := ⟨⟨by decide +kernel, by decide +kernel⟩, List.mem_of_getElem? (i := 1236) (by decide +kernel), List.mem_of_getElem? (i := 1742) (by decide +kernel), List.mem_of_getElem? (i := 1743) (by decide +kernel)⟩
theorem lw_p89 : lw_okq (⟨"PloughFieldModel", "word", "()J"⟩, 65) := ⟨⟨by decide +kernel, by decide +kernel⟩, List.mem_of_getElem? (i := 1236) (by decide +kernel), List.mem_of_getElem? (i := 1746) (by decide +kernel), List.mem_of_getElem? (i := 1747) (by decide +kernel)⟩
theorem lw_p90 : lw_okq (⟨"PloughFieldModel", "ex", "()Z"⟩, 65) := ⟨⟨by decide +kernel, by decide +kernel⟩, List.mem_of_getElem? (i := 1236) (by decide +kernel), List.mem_of_getElem? (i := 1753) (by decide +kernel), List.mem_of_getElem? (i := 1754) (by decide +kernel)⟩
theorem lw_p91 : lw_okq (⟨"PloughFieldModel", "product", "()Z"⟩, 65) := ⟨⟨by decide +kernel, by decide +kernel⟩, List.mem_of_getElem? (i := 1236) (by decide +kernel), List.mem_of_getElem? (i := 1757) (by decide +kernel), List.mem_of_getElem? (i := 1758) (by decide +kernel)⟩
theorem lw_p92 : lw_okq (⟨"PloughFieldModel", "atom", "()Z"⟩, 65) := ⟨⟨by decide +kernel, by decide +kernel⟩, List.mem_of_getElem? (i := 1236) (by decide +kernel), List.mem_of_getElem? (i := 1761) (by decide +kernel), List.mem_of_getElem? (i := 1762) (by decide +kernel)⟩
theorem lw_p93 : lw_okq (⟨"PloughFieldModel", "takesNumber", "()Z"⟩, 65) := ⟨⟨by decide +kernel, by decide +kernel⟩, List.mem_of_getElem? (i := 1236) (by decide +kernel), List.mem_of_getElem? (i := 1765) (by decide +kernel), List.mem_of_getElem? (i := 1766) (by decide +kernel)⟩
theorem lw_p94 : lw_okq (⟨"PloughFieldModel", "puts", "(II)V"⟩, 65) := ⟨⟨by decide +kernel, by decide +kernel⟩, List.mem_of_getElem? (i := 1236) (by decide +kernel), List.mem_of_getElem? (i := 1769) (by decide +kernel), List.mem_of_getElem? (i := 1770) (by decide +kernel)⟩
theorem lw_p95 : lw_okq (⟨"PloughFieldModel", "opens", "()Z"⟩, 65) := ⟨⟨by decide +kernel, by decide +kernel⟩, List.mem_of_getElem? (i := 1236) (by decide +kernel), List.mem_of_getElem? (i := 1773) (by decide +kernel), List.mem_of_getElem? (i := 1774) (by decide +kernel)⟩
def lw_privs_6 : List (MethodName × Nat) := [(⟨"PloughFieldModel", "isSpot", "(II)Z"⟩, 65), (⟨"PloughFieldModel", "spreads", "(I[Z)V"⟩, 65), (⟨"PloughFieldModel", "finds", "()V"⟩, 65), (⟨"PloughFieldModel", "reached", "(II)I"⟩, 65), (⟨"PloughFieldModel", "leadOf", "(I)I"⟩, 65), (⟨"PloughFieldModel", "four", "(I)V"⟩, 65), (⟨"PloughFieldModel", "blanks", "()V"⟩, 65), (⟨"PloughFieldModel", "statement", "(I)Z"⟩, 65), (⟨"PloughFieldModel", "takes", "(J)Z"⟩, 65), (⟨"PloughFieldModel", "word", "()J"⟩, 65), (⟨"PloughFieldModel", "ex", "()Z"⟩, 65), (⟨"PloughFieldModel", "product", "()Z"⟩, 65), (⟨"PloughFieldModel", "atom", "()Z"⟩, 65), (⟨"PloughFieldModel", "takesNumber", "()Z"⟩, 65), (⟨"PloughFieldModel", "puts", "(II)V"⟩, 65), (⟨"PloughFieldModel", "opens", "()Z"⟩, 65)]
theorem lw_r6 : ∀ q ∈ lw_privs_6, lw_okq q := List.forall_mem_cons.mpr ⟨lw_p80, List.forall_mem_cons.mpr ⟨lw_p81, List.forall_mem_cons.mpr ⟨lw_p82, List.forall_mem_cons.mpr ⟨lw_p83, List.forall_mem_cons.mpr ⟨lw_p84, List.forall_mem_cons.mpr ⟨lw_p85, List.forall_mem_cons.mpr ⟨lw_p86, List.forall_mem_cons.mpr ⟨lw_p87, List.forall_mem_cons.mpr ⟨lw_p88, List.forall_mem_cons.mpr ⟨lw_p89, List.forall_mem_cons.mpr ⟨lw_p90, List.forall_mem_cons.mpr ⟨lw_p91, List.forall_mem_cons.mpr ⟨lw_p92, List.forall_mem_cons.mpr ⟨lw_p93, List.forall_mem_cons.mpr ⟨lw_p94, List.forall_mem_cons.mpr ⟨lw_p95, fun _ h => absurd h List.not_mem_nil⟩⟩⟩⟩⟩⟩⟩⟩⟩⟩⟩⟩⟩⟩⟩⟩
theorem lw_p96 : lw_okq (⟨"PloughFieldModel", "takesSign", "(I)Z"⟩, 65) := ⟨⟨by decide +kernel, by decide +kernel⟩, List.mem_of_getElem? (i := 1236) (by decide +kernel), List.mem_of_getElem? (i := 1777) (by decide +kernel), List.mem_of_getElem? (i := 1778) (by decide +kernel)⟩
theorem lw_p97 : lw_okq (⟨"PloughFieldModel", "any", "()Z"⟩, 65) := ⟨⟨by decide +kernel, by decide +kernel⟩, List.mem_of_getElem? (i := 1236) (by decide +kernel), List.mem_of_getElem? (i := 1793) (by decide +kernel), List.mem_of_getElem? (i := 1794) (by decide +kernel)⟩
theorem lw_p98 : lw_okq (⟨"PloughFieldModel", "all", "()Z"⟩, 65) := ⟨⟨by decide +kernel, by decide +kernel⟩, List.mem_of_getElem? (i := 1236) (by decide +kernel), List.mem_of_getElem? (i := 1797) (by decide +kernel), List.mem_of_getElem? (i := 1798) (by decide +kernel)⟩
theorem lw_p99 : lw_okq (⟨"PloughFieldModel", "single", "()Z"⟩, 65) := ⟨⟨by decide +kernel, by decide +kernel⟩, List.mem_of_getElem? (i := 1236) (by decide +kernel), List.mem_of_getElem? (i := 1801) (by decide +kernel), List.mem_of_getElem? (i := 1802) (by decide +kernel)⟩
theorem lw_p100 : lw_okq (⟨"PloughFieldModel", "toDo", "(I)I"⟩, 65) := ⟨⟨by decide +kernel, by decide +kernel⟩, List.mem_of_getElem? (i := 1236) (by decide +kernel), List.mem_of_getElem? (i := 1816) (by decide +kernel), List.mem_of_getElem? (i := 1817) (by decide +kernel)⟩
theorem lw_p101 : lw_okq (⟨"PloughFieldModel", "nextRain", "()I"⟩, 65) := ⟨⟨by decide +kernel, by decide +kernel⟩, List.mem_of_getElem? (i := 1236) (by decide +kernel), List.mem_of_getElem? (i := 1820) (by decide +kernel), List.mem_of_getElem? (i := 1821) (by decide +kernel)⟩
theorem lw_p102 : lw_okq (⟨"PloughFieldModel", "runs", "(II)J"⟩, 65) := ⟨⟨by decide +kernel, by decide +kernel⟩, List.mem_of_getElem? (i := 1236) (by decide +kernel), List.mem_of_getElem? (i := 1825) (by decide +kernel), List.mem_of_getElem? (i := 1826) (by decide +kernel)⟩
theorem lw_p103 : lw_okq (⟨"PloughFieldModel", "manyOf", "(II)I"⟩, 65) := ⟨⟨by decide +kernel, by decide +kernel⟩, List.mem_of_getElem? (i := 1236) (by decide +kernel), List.mem_of_getElem? (i := 1851) (by decide +kernel), List.mem_of_getElem? (i := 1852) (by decide +kernel)⟩
def lw_privs_7 : List (MethodName × Nat) := [(⟨"PloughFieldModel", "takesSign", "(I)Z"⟩, 65), (⟨"PloughFieldModel", "any", "()Z"⟩, 65), (⟨"PloughFieldModel", "all", "()Z"⟩, 65), (⟨"PloughFieldModel", "single", "()Z"⟩, 65), (⟨"PloughFieldModel", "toDo", "(I)I"⟩, 65), (⟨"PloughFieldModel", "nextRain", "()I"⟩, 65), (⟨"PloughFieldModel", "runs", "(II)J"⟩, 65), (⟨"PloughFieldModel", "manyOf", "(II)I"⟩, 65)]
theorem lw_r7 : ∀ q ∈ lw_privs_7, lw_okq q := List.forall_mem_cons.mpr ⟨lw_p96, List.forall_mem_cons.mpr ⟨lw_p97, List.forall_mem_cons.mpr ⟨lw_p98, List.forall_mem_cons.mpr ⟨lw_p99, List.forall_mem_cons.mpr ⟨lw_p100, List.forall_mem_cons.mpr ⟨lw_p101, List.forall_mem_cons.mpr ⟨lw_p102, List.forall_mem_cons.mpr ⟨lw_p103, fun _ h => absurd h List.not_mem_nil⟩⟩⟩⟩⟩⟩⟩⟩
def lw_privs : List (MethodName × Nat) := lw_privs_1 ++ (lw_privs_2 ++ (lw_privs_3 ++ (lw_privs_4 ++ (lw_privs_5 ++ (lw_privs_6 ++ (lw_privs_7))))))
def lw_tbl : List Cond := k2_sels lw_privs ++ tables_1
theorem lw_privs_ok : ∀ q ∈ lw_privs, lw_okq q := by
  show ∀ q ∈ lw_privs_1 ++ (lw_privs_2 ++ (lw_privs_3 ++ (lw_privs_4 ++ (lw_privs_5 ++ (lw_privs_6 ++ (lw_privs_7)))))), lw_okq q
  exact List.forall_mem_append.mpr ⟨lw_r1, List.forall_mem_append.mpr ⟨lw_r2, List.forall_mem_append.mpr ⟨lw_r3, List.forall_mem_append.mpr ⟨lw_r4, List.forall_mem_append.mpr ⟨lw_r5, List.forall_mem_append.mpr ⟨lw_r6, lw_r7⟩⟩⟩⟩⟩⟩
end
section
def RX0 : String := "PloughField$Book"
def TX0 : u_T := fun k => match k with
  | 0 => ("PloughField$Book", "log", "LPloughField$Table;", true)
  | 1 => ("PloughField$Book", "rains", "LPloughField$Table;", true)
  | 2 => ("PloughField$Book", "carts", "LPloughField$Table;", true)
  | 3 => ("PloughField$Book", "works", "LPloughField$Table;", true)
  | 4 => ("PloughField$Book", "kinds", "LPloughField$Table;", true)
  | _ => ("PloughField$Book", "lots", "LPloughField$Table;", true)
def tyX0 : Nat → FieldType := fun k => match k with
  | 0 => .object "PloughField$Table"
  | 1 => .object "PloughField$Table"
  | 2 => .object "PloughField$Table"
  | 3 => .object "PloughField$Table"
  | 4 => .object "PloughField$Table"
  | _ => .object "PloughField$Table"
theorem nmX0 : ∀ a, a < 6 → ∀ b, b < 6 → a ≠ b → (TX0 a).2.1 ≠ (TX0 b).2.1 := by decide +kernel
theorem tyX0_ok : ∀ k, k < 6 → parseFieldDescriptor (TX0 k).2.2.1 = some (tyX0 k) := by decide +kernel
abbrev cX0_init : ByteArray := prog_2_method_1_code
def yX0_init : MethodName := ⟨RX0, "<init>", "()V"⟩
abbrev cX0_hasRoom : ByteArray := prog_2_method_2_code
def yX0_hasRoom : MethodName := ⟨RX0, "hasRoom", "(LPloughField$Table;)Z"⟩
abbrev cX0_fallingAt : ByteArray := prog_2_method_3_code
def yX0_fallingAt : MethodName := ⟨RX0, "fallingAt", "(II)I"⟩
abbrev cX0_hoursToRain : ByteArray := prog_2_method_4_code
def yX0_hoursToRain : MethodName := ⟨RX0, "hoursToRain", "(I)I"⟩
def RX1 : String := "PloughField$Fleet"
def TX1 : u_T := fun k => match k with
  | 0 => ("PloughField$Fleet", "book", "LPloughField$Book;", true)
  | 1 => ("PloughField$Fleet", "place", "[I", true)
  | 2 => ("PloughField$Fleet", "power", "[I", true)
  | 3 => ("PloughField$Fleet", "doing", "[I", true)
  | 4 => ("PloughField$Fleet", "task", "[I", true)
  | _ => ("PloughField$Fleet", "map", "[J", true)
def tyX1 : Nat → FieldType := fun k => match k with
  | 0 => .object "PloughField$Book"
  | 1 => .array .int
  | 2 => .array .int
  | 3 => .array .int
  | 4 => .array .int
  | _ => .array .long
theorem nmX1 : ∀ a, a < 6 → ∀ b, b < 6 → a ≠ b → (TX1 a).2.1 ≠ (TX1 b).2.1 := by decide +kernel
theorem tyX1_ok : ∀ k, k < 6 → parseFieldDescriptor (TX1 k).2.2.1 = some (tyX1 k) := by decide +kernel
abbrev cX1_init : ByteArray := prog_3_method_1_code
def yX1_init : MethodName := ⟨RX1, "<init>", "(LPloughField$Book;)V"⟩
abbrev cX1_begin : ByteArray := prog_3_method_2_code
def yX1_begin : MethodName := ⟨RX1, "begin", "()V"⟩
abbrev cX1_bring : ByteArray := prog_3_method_3_code
def yX1_bring : MethodName := ⟨RX1, "bring", "(I)V"⟩
abbrev cX1_refill : ByteArray := prog_3_method_4_code
def yX1_refill : MethodName := ⟨RX1, "refill", "(I)V"⟩
abbrev cX1_isFlat : ByteArray := prog_3_method_5_code
def yX1_isFlat : MethodName := ⟨RX1, "isFlat", "(I)Z"⟩
abbrev cX1_plugIn : ByteArray := prog_3_method_6_code
def yX1_plugIn : MethodName := ⟨RX1, "plugIn", "(I)V"⟩
abbrev cX1_isReady : ByteArray := prog_3_method_7_code
def yX1_isReady : MethodName := ⟨RX1, "isReady", "(I)Z"⟩
abbrev cX1_hasPower : ByteArray := prog_3_method_8_code
def yX1_hasPower : MethodName := ⟨RX1, "hasPower", "(I)Z"⟩
abbrev cX1_isHome : ByteArray := prog_3_method_9_code
def yX1_isHome : MethodName := ⟨RX1, "isHome", "(I)Z"⟩
abbrev cX1_readyOnes : ByteArray := prog_3_method_10_code
def yX1_readyOnes : MethodName := ⟨RX1, "readyOnes", "()I"⟩
abbrev cX1_freeOneStuck : ByteArray := prog_3_method_11_code
def yX1_freeOneStuck : MethodName := ⟨RX1, "freeOneStuck", "(II)V"⟩
abbrev cX1_hearOf : ByteArray := prog_3_method_12_code
def yX1_hearOf : MethodName := ⟨RX1, "hearOf", "(II)V"⟩
abbrev cX1_cartsStuck : ByteArray := prog_3_method_13_code
def yX1_cartsStuck : MethodName := ⟨RX1, "cartsStuck", "()I"⟩
abbrev cX1_factOfCart : ByteArray := prog_3_method_14_code
def yX1_factOfCart : MethodName := ⟨RX1, "factOfCart", "(II)I"⟩
abbrev cX1_isPlace : ByteArray := prog_3_method_15_code
def yX1_isPlace : MethodName := ⟨RX1, "isPlace", "(I)Z"⟩
def RX2 : String := "PloughField$Ground"
def TX2 : u_T := fun k => match k with
  | 0 => ("PloughField$Ground", "height", "[I", true)
  | 1 => ("PloughField$Ground", "wet", "[I", true)
  | 2 => ("PloughField$Ground", "press", "[I", true)
  | 3 => ("PloughField$Ground", "change", "[I", true)
  | 4 => ("PloughField$Ground", "fallen", "J", false)
  | _ => ("PloughField$Ground", "lost", "J", false)
def tyX2 : Nat → FieldType := fun k => match k with
  | 0 => .array .int
  | 1 => .array .int
  | 2 => .array .int
  | 3 => .array .int
  | 4 => .long
  | _ => .long
theorem nmX2 : ∀ a, a < 6 → ∀ b, b < 6 → a ≠ b → (TX2 a).2.1 ≠ (TX2 b).2.1 := by decide +kernel
theorem tyX2_ok : ∀ k, k < 6 → parseFieldDescriptor (TX2 k).2.2.1 = some (tyX2 k) := by decide +kernel
abbrev cX2_init : ByteArray := prog_4_method_1_code
def yX2_init : MethodName := ⟨RX2, "<init>", "()V"⟩
abbrev cX2_begin : ByteArray := prog_4_method_2_code
def yX2_begin : MethodName := ⟨RX2, "begin", "()V"⟩
abbrev cX2_shape : ByteArray := prog_4_method_3_code
def yX2_shape : MethodName := ⟨RX2, "shape", "(III)V"⟩
abbrev cX2_rainOn : ByteArray := prog_4_method_4_code
def yX2_rainOn : MethodName := ⟨RX2, "rainOn", "(I)V"⟩
abbrev cX2_flow : ByteArray := prog_4_method_5_code
def yX2_flow : MethodName := ⟨RX2, "flow", "()V"⟩
abbrev cX2_dry : ByteArray := prog_4_method_6_code
def yX2_dry : MethodName := ⟨RX2, "dry", "()V"⟩
abbrev cX2_allWet : ByteArray := prog_4_method_7_code
def yX2_allWet : MethodName := ⟨RX2, "allWet", "()J"⟩
abbrev cX2_heavy : ByteArray := prog_4_method_8_code
def yX2_heavy : MethodName := ⟨RX2, "heavy", "(II)I"⟩
abbrev cX2_lowestBeside : ByteArray := prog_4_method_9_code
def yX2_lowestBeside : MethodName := ⟨RX2, "lowestBeside", "(I)I"⟩
def RX3 : String := "PloughField$Machine"
def TX3 : u_T := fun k => match k with
  | 0 => ("PloughField$Machine", "code", "[I", true)
  | 1 => ("PloughField$Machine", "stack", "[I", true)
  | 2 => ("PloughField$Machine", "codeSize", "I", false)
  | 3 => ("PloughField$Machine", "statements", "I", false)
  | 4 => ("PloughField$Machine", "stacked", "I", false)
  | 5 => ("PloughField$Machine", "statement", "I", false)
  | 6 => ("PloughField$Machine", "deed", "I", false)
  | _ => ("PloughField$Machine", "much", "I", false)
def tyX3 : Nat → FieldType := fun k => match k with
  | 0 => .array .int
  | 1 => .array .int
  | 2 => .int
  | 3 => .int
  | 4 => .int
  | 5 => .int
  | 6 => .int
  | _ => .int
theorem nmX3 : ∀ a, a < 8 → ∀ b, b < 8 → a ≠ b → (TX3 a).2.1 ≠ (TX3 b).2.1 := by decide +kernel
theorem tyX3_ok : ∀ k, k < 8 → parseFieldDescriptor (TX3 k).2.2.1 = some (tyX3 k) := by decide +kernel
abbrev cX3_init : ByteArray := prog_5_method_1_code
def yX3_init : MethodName := ⟨RX3, "<init>", "()V"⟩
abbrev cX3_takeOver : ByteArray := prog_5_method_2_code
def yX3_takeOver : MethodName := ⟨RX3, "takeOver", "([III)V"⟩
abbrev cX3_decide : ByteArray := prog_5_method_3_code
def yX3_decide : MethodName := ⟨RX3, "decide", "([I)Z"⟩
abbrev cX3_apply : ByteArray := prog_5_method_4_code
def yX3_apply : MethodName := ⟨RX3, "apply", "(I[I)V"⟩
abbrev cX3_joined : ByteArray := prog_5_method_5_code
def yX3_joined : MethodName := ⟨RX3, "joined", "(IJJ)I"⟩
abbrev cX3_held : ByteArray := prog_5_method_6_code
def yX3_held : MethodName := ⟨RX3, "held", "(J)I"⟩
abbrev cX3_push : ByteArray := prog_5_method_7_code
def yX3_push : MethodName := ⟨RX3, "push", "(I)V"⟩
abbrev cX3_pop : ByteArray := prog_5_method_8_code
def yX3_pop : MethodName := ⟨RX3, "pop", "()I"⟩
def RX4 : String := "PloughField$Outbreak"
def TX4 : u_T := fun k => match k with
  | _ => ("", "", "", false)
def tyX4 : Nat → FieldType := fun k => match k with
  | _ => .int
theorem nmX4 : ∀ a, a < 0 → ∀ b, b < 0 → a ≠ b → (TX4 a).2.1 ≠ (TX4 b).2.1 := by decide +kernel
theorem tyX4_ok : ∀ k, k < 0 → parseFieldDescriptor (TX4 k).2.2.1 = some (tyX4 k) := by decide +kernel
abbrev cX4_spotOf : ByteArray := prog_6_method_2_code
def yX4_spotOf : MethodName := ⟨RX4, "spotOf", "(JJII)I"⟩
abbrev cX4_pullOf : ByteArray := prog_6_method_3_code
def yX4_pullOf : MethodName := ⟨RX4, "pullOf", "(JJIII)I"⟩
abbrev cX4_cellsReached : ByteArray := prog_6_method_4_code
def yX4_cellsReached : MethodName := ⟨RX4, "cellsReached", "(JJIJI)I"⟩
abbrev cX4_cellNumbered : ByteArray := prog_6_method_5_code
def yX4_cellNumbered : MethodName := ⟨RX4, "cellNumbered", "(JI)I"⟩
abbrev cX4_reached : ByteArray := prog_6_method_6_code
def yX4_reached : MethodName := ⟨RX4, "reached", "(JJI)J"⟩
abbrev cX4_stepped : ByteArray := prog_6_method_7_code
def yX4_stepped : MethodName := ⟨RX4, "stepped", "(JJ)J"⟩
def RX5 : String := "PloughField$Paths"
def TX5 : u_T := fun k => match k with
  | 0 => ("PloughField$Paths", "keys", "[I", true)
  | 1 => ("PloughField$Paths", "firsts", "[I", true)
  | 2 => ("PloughField$Paths", "toll", "[I", true)
  | 3 => ("PloughField$Paths", "edge", "[I", true)
  | _ => ("PloughField$Paths", "edgeSize", "I", false)
def tyX5 : Nat → FieldType := fun k => match k with
  | 0 => .array .int
  | 1 => .array .int
  | 2 => .array .int
  | 3 => .array .int
  | _ => .int
theorem nmX5 : ∀ a, a < 5 → ∀ b, b < 5 → a ≠ b → (TX5 a).2.1 ≠ (TX5 b).2.1 := by decide +kernel
theorem tyX5_ok : ∀ k, k < 5 → parseFieldDescriptor (TX5 k).2.2.1 = some (tyX5 k) := by decide +kernel
abbrev cX5_init : ByteArray := prog_7_method_1_code
def yX5_init : MethodName := ⟨RX5, "<init>", "()V"⟩
abbrev cX5_search : ByteArray := prog_7_method_2_code
def yX5_search : MethodName := ⟨RX5, "search", "(ILPloughField$Table;LPloughField$Fleet;LPloughField$Ground;I)V"⟩
abbrev cX5_takeNearest : ByteArray := prog_7_method_3_code
def yX5_takeNearest : MethodName := ⟨RX5, "takeNearest", "(I)I"⟩
abbrev cX5_goOnFrom : ByteArray := prog_7_method_4_code
def yX5_goOnFrom : MethodName := ⟨RX5, "goOnFrom", "(III)V"⟩
abbrev cX5_hasWay : ByteArray := prog_7_method_5_code
def yX5_hasWay : MethodName := ⟨RX5, "hasWay", "(II)Z"⟩
abbrev cX5_costTo : ByteArray := prog_7_method_6_code
def yX5_costTo : MethodName := ⟨RX5, "costTo", "(II)I"⟩
abbrev cX5_stepsTo : ByteArray := prog_7_method_7_code
def yX5_stepsTo : MethodName := ⟨RX5, "stepsTo", "(II)I"⟩
abbrev cX5_firstTo : ByteArray := prog_7_method_8_code
def yX5_firstTo : MethodName := ⟨RX5, "firstTo", "(II)I"⟩
abbrev cX5_nearestBeside : ByteArray := prog_7_method_9_code
def yX5_nearestBeside : MethodName := ⟨RX5, "nearestBeside", "(II)I"⟩
abbrev cX5_isNearer : ByteArray := prog_7_method_10_code
def yX5_isNearer : MethodName := ⟨RX5, "isNearer", "(III)Z"⟩
def RX6 : String := "PloughField$Plants"
def TX6 : u_T := fun k => match k with
  | 0 => ("PloughField$Plants", "book", "LPloughField$Book;", true)
  | 1 => ("PloughField$Plants", "size", "[I", true)
  | 2 => ("PloughField$Plants", "seen", "[I", true)
  | 3 => ("PloughField$Plants", "got", "[I", true)
  | 4 => ("PloughField$Plants", "shown", "[I", true)
  | 5 => ("PloughField$Plants", "bare", "[I", true)
  | 6 => ("PloughField$Plants", "shares", "[I", true)
  | 7 => ("PloughField$Plants", "weighed", "[J", true)
  | 8 => ("PloughField$Plants", "stands", "J", false)
  | 9 => ("PloughField$Plants", "ill", "J", false)
  | _ => ("PloughField$Plants", "nextLot", "I", false)
def tyX6 : Nat → FieldType := fun k => match k with
  | 0 => .object "PloughField$Book"
  | 1 => .array .int
  | 2 => .array .int
  | 3 => .array .int
  | 4 => .array .int
  | 5 => .array .int
  | 6 => .array .int
  | 7 => .array .long
  | 8 => .long
  | 9 => .long
  | _ => .int
theorem nmX6 : ∀ a, a < 11 → ∀ b, b < 11 → a ≠ b → (TX6 a).2.1 ≠ (TX6 b).2.1 := by decide +kernel
theorem tyX6_ok : ∀ k, k < 11 → parseFieldDescriptor (TX6 k).2.2.1 = some (tyX6 k) := by decide +kernel
abbrev cX6_init : ByteArray := prog_8_method_1_code
def yX6_init : MethodName := ⟨RX6, "<init>", "(LPloughField$Book;)V"⟩
abbrev cX6_begin : ByteArray := prog_8_method_2_code
def yX6_begin : MethodName := ⟨RX6, "begin", "()V"⟩
abbrev cX6_standsOn : ByteArray := prog_8_method_3_code
def yX6_standsOn : MethodName := ⟨RX6, "standsOn", "(I)Z"⟩
abbrev cX6_isIll : ByteArray := prog_8_method_4_code
def yX6_isIll : MethodName := ⟨RX6, "isIll", "(I)Z"⟩
abbrev cX6_sow : ByteArray := prog_8_method_5_code
def yX6_sow : MethodName := ⟨RX6, "sow", "(II)V"⟩
abbrev cX6_expose : ByteArray := prog_8_method_6_code
def yX6_expose : MethodName := ⟨RX6, "expose", "(II)V"⟩
abbrev cX6_marksOn : ByteArray := prog_8_method_7_code
def yX6_marksOn : MethodName := ⟨RX6, "marksOn", "(I)I"⟩
abbrev cX6_see : ByteArray := prog_8_method_8_code
def yX6_see : MethodName := ⟨RX6, "see", "(II)V"⟩
abbrev cX6_weigh : ByteArray := prog_8_method_9_code
def yX6_weigh : MethodName := ⟨RX6, "weigh", "(IJI)J"⟩
abbrev cX6_shareOf : ByteArray := prog_8_method_10_code
def yX6_shareOf : MethodName := ⟨RX6, "shareOf", "(II)I"⟩
abbrev cX6_weedHundredths : ByteArray := prog_8_method_11_code
def yX6_weedHundredths : MethodName := ⟨RX6, "weedHundredths", "(I)I"⟩
abbrev cX6_sicken : ByteArray := prog_8_method_12_code
def yX6_sicken : MethodName := ⟨RX6, "sicken", "(IZ)V"⟩
abbrev cX6_nourish : ByteArray := prog_8_method_13_code
def yX6_nourish : MethodName := ⟨RX6, "nourish", "(II)V"⟩
abbrev cX6_remove : ByteArray := prog_8_method_14_code
def yX6_remove : MethodName := ⟨RX6, "remove", "(II)V"⟩
abbrev cX6_drown : ByteArray := prog_8_method_15_code
def yX6_drown : MethodName := ⟨RX6, "drown", "(LPloughField$Ground;)V"⟩
abbrev cX6_spread : ByteArray := prog_8_method_16_code
def yX6_spread : MethodName := ⟨RX6, "spread", "(II)V"⟩
abbrev cX6_drawLot : ByteArray := prog_8_method_17_code
def yX6_drawLot : MethodName := ⟨RX6, "drawLot", "(I)I"⟩
abbrev cX6_grow : ByteArray := prog_8_method_18_code
def yX6_grow : MethodName := ⟨RX6, "grow", "(LPloughField$Ground;)V"⟩
abbrev cX6_allGot : ByteArray := prog_8_method_19_code
def yX6_allGot : MethodName := ⟨RX6, "allGot", "()I"⟩
def RX7 : String := "PloughField$Reader"
def TX7 : u_T := fun k => match k with
  | 0 => ("PloughField$Reader", "tape", "[I", true)
  | 1 => ("PloughField$Reader", "tokens", "[I", true)
  | 2 => ("PloughField$Reader", "places", "[I", true)
  | 3 => ("PloughField$Reader", "code", "[I", true)
  | 4 => ("PloughField$Reader", "bytes", "I", false)
  | 5 => ("PloughField$Reader", "tokenCount", "I", false)
  | 6 => ("PloughField$Reader", "cursor", "I", false)
  | 7 => ("PloughField$Reader", "codeSize", "I", false)
  | _ => ("PloughField$Reader", "statements", "I", false)
def tyX7 : Nat → FieldType := fun k => match k with
  | 0 => .array .int
  | 1 => .array .int
  | 2 => .array .int
  | 3 => .array .int
  | 4 => .int
  | 5 => .int
  | 6 => .int
  | 7 => .int
  | _ => .int
theorem nmX7 : ∀ a, a < 9 → ∀ b, b < 9 → a ≠ b → (TX7 a).2.1 ≠ (TX7 b).2.1 := by decide +kernel
theorem tyX7_ok : ∀ k, k < 9 → parseFieldDescriptor (TX7 k).2.2.1 = some (tyX7 k) := by decide +kernel
abbrev cX7_init : ByteArray := prog_9_method_1_code
def yX7_init : MethodName := ⟨RX7, "<init>", "()V"⟩
abbrev cX7_hasRoomForFive : ByteArray := prog_9_method_2_code
def yX7_hasRoomForFive : MethodName := ⟨RX7, "hasRoomForFive", "()Z"⟩
abbrev cX7_append : ByteArray := prog_9_method_3_code
def yX7_append : MethodName := ⟨RX7, "append", "(I)V"⟩
abbrev cX7_read : ByteArray := prog_9_method_4_code
def yX7_read : MethodName := ⟨RX7, "read", "(I)I"⟩
abbrev cX7_split : ByteArray := prog_9_method_5_code
def yX7_split : MethodName := ⟨RX7, "split", "(I)V"⟩
abbrev cX7_addToken : ByteArray := prog_9_method_6_code
def yX7_addToken : MethodName := ⟨RX7, "addToken", "(II)V"⟩
abbrev cX7_tokenFrom : ByteArray := prog_9_method_7_code
def yX7_tokenFrom : MethodName := ⟨RX7, "tokenFrom", "(III)I"⟩
abbrev cX7_wordBetween : ByteArray := prog_9_method_8_code
def yX7_wordBetween : MethodName := ⟨RX7, "wordBetween", "(II)I"⟩
abbrev cX7_numberBetween : ByteArray := prog_9_method_9_code
def yX7_numberBetween : MethodName := ⟨RX7, "numberBetween", "(II)I"⟩
abbrev cX7_groupOf : ByteArray := prog_9_method_10_code
def yX7_groupOf : MethodName := ⟨RX7, "groupOf", "(I)I"⟩
abbrev cX7_readStatement : ByteArray := prog_9_method_11_code
def yX7_readStatement : MethodName := ⟨RX7, "readStatement", "()Z"⟩
abbrev cX7_readAny : ByteArray := prog_9_method_12_code
def yX7_readAny : MethodName := ⟨RX7, "readAny", "(I)Z"⟩
abbrev cX7_readOne : ByteArray := prog_9_method_13_code
def yX7_readOne : MethodName := ⟨RX7, "readOne", "(I)Z"⟩
abbrev cX7_readSum : ByteArray := prog_9_method_14_code
def yX7_readSum : MethodName := ⟨RX7, "readSum", "(I)Z"⟩
abbrev cX7_readAtom : ByteArray := prog_9_method_15_code
def yX7_readAtom : MethodName := ⟨RX7, "readAtom", "(I)Z"⟩
abbrev cX7_isOperator : ByteArray := prog_9_method_16_code
def yX7_isOperator : MethodName := ⟨RX7, "isOperator", "(I)Z"⟩
abbrev cX7_here : ByteArray := prog_9_method_17_code
def yX7_here : MethodName := ⟨RX7, "here", "()I"⟩
abbrev cX7_placeHere : ByteArray := prog_9_method_18_code
def yX7_placeHere : MethodName := ⟨RX7, "placeHere", "()I"⟩
abbrev cX7_accept : ByteArray := prog_9_method_19_code
def yX7_accept : MethodName := ⟨RX7, "accept", "(I)Z"⟩
abbrev cX7_emit : ByteArray := prog_9_method_20_code
def yX7_emit : MethodName := ⟨RX7, "emit", "(I)V"⟩
def RX8 : String := "PloughField$Strips"
def TX8 : u_T := fun k => match k with
  | _ => ("PloughField$Strips", "dealt", "LPloughField$Table;", true)
def tyX8 : Nat → FieldType := fun k => match k with
  | _ => .object "PloughField$Table"
theorem nmX8 : ∀ a, a < 1 → ∀ b, b < 1 → a ≠ b → (TX8 a).2.1 ≠ (TX8 b).2.1 := by decide +kernel
theorem tyX8_ok : ∀ k, k < 1 → parseFieldDescriptor (TX8 k).2.2.1 = some (tyX8 k) := by decide +kernel
abbrev cX8_init : ByteArray := prog_10_method_1_code
def yX8_init : MethodName := ⟨RX8, "<init>", "()V"⟩
abbrev cX8_lead : ByteArray := prog_10_method_2_code
def yX8_lead : MethodName := ⟨RX8, "lead", "()I"⟩
abbrev cX8_allWays : ByteArray := prog_10_method_3_code
def yX8_allWays : MethodName := ⟨RX8, "allWays", "()I"⟩
abbrev cX8_waysAsGood : ByteArray := prog_10_method_4_code
def yX8_waysAsGood : MethodName := ⟨RX8, "waysAsGood", "()I"⟩
abbrev cX8_waysWithLead : ByteArray := prog_10_method_5_code
def yX8_waysWithLead : MethodName := ⟨RX8, "waysWithLead", "(I)I"⟩
abbrev cX8_armsAsDealt : ByteArray := prog_10_method_6_code
def yX8_armsAsDealt : MethodName := ⟨RX8, "armsAsDealt", "()I"⟩
abbrev cX8_leadOf : ByteArray := prog_10_method_7_code
def yX8_leadOf : MethodName := ⟨RX8, "leadOf", "(I)I"⟩
def RX9 : String := "PloughField$Table"
def TX9 : u_T := fun k => match k with
  | 0 => ("PloughField$Table", "numbers", "[I", true)
  | 1 => ("PloughField$Table", "width", "I", true)
  | 2 => ("PloughField$Table", "most", "I", true)
  | _ => ("PloughField$Table", "size", "I", false)
def tyX9 : Nat → FieldType := fun k => match k with
  | 0 => .array .int
  | 1 => .int
  | 2 => .int
  | _ => .int
theorem nmX9 : ∀ a, a < 4 → ∀ b, b < 4 → a ≠ b → (TX9 a).2.1 ≠ (TX9 b).2.1 := by decide +kernel
theorem tyX9_ok : ∀ k, k < 4 → parseFieldDescriptor (TX9 k).2.2.1 = some (tyX9 k) := by decide +kernel
abbrev cX9_init : ByteArray := prog_11_method_1_code
def yX9_init : MethodName := ⟨RX9, "<init>", "(II)V"⟩
abbrev cX9_isFull : ByteArray := prog_11_method_2_code
def yX9_isFull : MethodName := ⟨RX9, "isFull", "()Z"⟩
abbrev cX9_has : ByteArray := prog_11_method_3_code
def yX9_has : MethodName := ⟨RX9, "has", "(I)Z"⟩
abbrev cX9_at : ByteArray := prog_11_method_4_code
def yX9_at : MethodName := ⟨RX9, "at", "(II)I"⟩
abbrev cX9_add : ByteArray := prog_11_method_5_code
def yX9_add : MethodName := ⟨RX9, "add", "(IIIIII)V"⟩
abbrev cX9_put : ByteArray := prog_11_method_6_code
def yX9_put : MethodName := ⟨RX9, "put", "(II)V"⟩
def RX10 : String := "PloughField$World"
def TX10 : u_T := fun k => match k with
  | 0 => ("PloughField$World", "book", "LPloughField$Book;", true)
  | 1 => ("PloughField$World", "paths", "LPloughField$Paths;", true)
  | 2 => ("PloughField$World", "ground", "LPloughField$Ground;", true)
  | 3 => ("PloughField$World", "plants", "LPloughField$Plants;", true)
  | 4 => ("PloughField$World", "fleet", "LPloughField$Fleet;", true)
  | 5 => ("PloughField$World", "workState", "[I", true)
  | 6 => ("PloughField$World", "workDoer", "[I", true)
  | 7 => ("PloughField$World", "settings", "[I", true)
  | 8 => ("PloughField$World", "now", "I", false)
  | 9 => ("PloughField$World", "heard", "I", false)
  | 10 => ("PloughField$World", "kindsTold", "I", false)
  | 11 => ("PloughField$World", "lotsTold", "I", false)
  | 12 => ("PloughField$World", "without", "I", false)
  | _ => ("PloughField$World", "leftOut", "I", false)
def tyX10 : Nat → FieldType := fun k => match k with
  | 0 => .object "PloughField$Book"
  | 1 => .object "PloughField$Paths"
  | 2 => .object "PloughField$Ground"
  | 3 => .object "PloughField$Plants"
  | 4 => .object "PloughField$Fleet"
  | 5 => .array .int
  | 6 => .array .int
  | 7 => .array .int
  | 8 => .int
  | 9 => .int
  | 10 => .int
  | 11 => .int
  | 12 => .int
  | _ => .int
theorem nmX10 : ∀ a, a < 14 → ∀ b, b < 14 → a ≠ b → (TX10 a).2.1 ≠ (TX10 b).2.1 := by decide +kernel
theorem tyX10_ok : ∀ k, k < 14 → parseFieldDescriptor (TX10 k).2.2.1 = some (tyX10 k) := by decide +kernel
abbrev cX10_init : ByteArray := prog_12_method_1_code
def yX10_init : MethodName := ⟨RX10, "<init>", "(LPloughField$Book;LPloughField$Paths;)V"⟩
abbrev cX10_begin : ByteArray := prog_12_method_2_code
def yX10_begin : MethodName := ⟨RX10, "begin", "(II)V"⟩
abbrev cX10_leavesOut : ByteArray := prog_12_method_3_code
def yX10_leavesOut : MethodName := ⟨RX10, "leavesOut", "(II)Z"⟩
abbrev cX10_playTo : ByteArray := prog_12_method_4_code
def yX10_playTo : MethodName := ⟨RX10, "playTo", "(I)V"⟩
abbrev cX10_hearTold : ByteArray := prog_12_method_5_code
def yX10_hearTold : MethodName := ⟨RX10, "hearTold", "()V"⟩
abbrev cX10_hear : ByteArray := prog_12_method_6_code
def yX10_hear : MethodName := ⟨RX10, "hear", "(I)V"⟩
abbrev cX10_adjust : ByteArray := prog_12_method_7_code
def yX10_adjust : MethodName := ⟨RX10, "adjust", "(II)V"⟩
abbrev cX10_bringCart : ByteArray := prog_12_method_8_code
def yX10_bringCart : MethodName := ⟨RX10, "bringCart", "(I)V"⟩
abbrev cX10_openWork : ByteArray := prog_12_method_9_code
def yX10_openWork : MethodName := ⟨RX10, "openWork", "(I)V"⟩
abbrev cX10_passHour : ByteArray := prog_12_method_10_code
def yX10_passHour : MethodName := ⟨RX10, "passHour", "()V"⟩
abbrev cX10_makeOffers : ByteArray := prog_12_method_11_code
def yX10_makeOffers : MethodName := ⟨RX10, "makeOffers", "()V"⟩
abbrev cX10_ofKind : ByteArray := prog_12_method_12_code
def yX10_ofKind : MethodName := ⟨RX10, "ofKind", "(I)I"⟩
abbrev cX10_cheapest : ByteArray := prog_12_method_13_code
def yX10_cheapest : MethodName := ⟨RX10, "cheapest", "(II)I"⟩
abbrev cX10_goalOf : ByteArray := prog_12_method_14_code
def yX10_goalOf : MethodName := ⟨RX10, "goalOf", "(II)I"⟩
abbrev cX10_takeOn : ByteArray := prog_12_method_15_code
def yX10_takeOn : MethodName := ⟨RX10, "takeOn", "(II)V"⟩
abbrev cX10_takeTurn : ByteArray := prog_12_method_16_code
def yX10_takeTurn : MethodName := ⟨RX10, "takeTurn", "(I)V"⟩
abbrev cX10_isAtWork : ByteArray := prog_12_method_17_code
def yX10_isAtWork : MethodName := ⟨RX10, "isAtWork", "(II)Z"⟩
abbrev cX10_doWork : ByteArray := prog_12_method_18_code
def yX10_doWork : MethodName := ⟨RX10, "doWork", "(II)V"⟩
abbrev cX10_move : ByteArray := prog_12_method_19_code
def yX10_move : MethodName := ⟨RX10, "move", "(I)V"⟩
abbrev cX10_leaveWork : ByteArray := prog_12_method_20_code
def yX10_leaveWork : MethodName := ⟨RX10, "leaveWork", "(II)V"⟩
abbrev cX10_factOfCell : ByteArray := prog_12_method_21_code
def yX10_factOfCell : MethodName := ⟨RX10, "factOfCell", "(II)I"⟩
abbrev cX10_gatherFacts : ByteArray := prog_12_method_22_code
def yX10_gatherFacts : MethodName := ⟨RX10, "gatherFacts", "(I[I)V"⟩
abbrev cX10_stateOfWork : ByteArray := prog_12_method_23_code
def yX10_stateOfWork : MethodName := ⟨RX10, "stateOfWork", "(I)I"⟩
abbrev cX10_doerOfWork : ByteArray := prog_12_method_24_code
def yX10_doerOfWork : MethodName := ⟨RX10, "doerOfWork", "(I)I"⟩
abbrev cX10_worksThatAre : ByteArray := prog_12_method_25_code
def yX10_worksThatAre : MethodName := ⟨RX10, "worksThatAre", "(I)I"⟩
def RX11 : String := "PloughField"
def TX11 : u_T := fun k => match k with
  | 0 => ("PloughField", "book", "LPloughField$Book;", true)
  | 1 => ("PloughField", "paths", "LPloughField$Paths;", true)
  | 2 => ("PloughField", "live", "LPloughField$World;", true)
  | 3 => ("PloughField", "ghost", "LPloughField$World;", true)
  | 4 => ("PloughField", "reader", "LPloughField$Reader;", true)
  | 5 => ("PloughField", "machine", "LPloughField$Machine;", true)
  | 6 => ("PloughField", "strips", "LPloughField$Strips;", true)
  | 7 => ("PloughField", "facts", "[I", true)
  | 8 => ("PloughField", "rulesTaken", "I", false)
  | _ => ("PloughField", "faultPlace", "I", false)
def tyX11 : Nat → FieldType := fun k => match k with
  | 0 => .object "PloughField$Book"
  | 1 => .object "PloughField$Paths"
  | 2 => .object "PloughField$World"
  | 3 => .object "PloughField$World"
  | 4 => .object "PloughField$Reader"
  | 5 => .object "PloughField$Machine"
  | 6 => .object "PloughField$Strips"
  | 7 => .array .int
  | 8 => .int
  | _ => .int
theorem nmX11 : ∀ a, a < 10 → ∀ b, b < 10 → a ≠ b → (TX11 a).2.1 ≠ (TX11 b).2.1 := by decide +kernel
theorem tyX11_ok : ∀ k, k < 10 → parseFieldDescriptor (TX11 k).2.2.1 = some (tyX11 k) := by decide +kernel
abbrev cX11_init : ByteArray := prog_1_method_1_code
def yX11_init : MethodName := ⟨RX11, "<init>", "()V"⟩
abbrev cX11_land : ByteArray := prog_1_method_2_code
def yX11_land : MethodName := ⟨RX11, "land", "(III)Z"⟩
abbrev cX11_set : ByteArray := prog_1_method_3_code
def yX11_set : MethodName := ⟨RX11, "set", "(II)Z"⟩
abbrev cX11_rain : ByteArray := prog_1_method_4_code
def yX11_rain : MethodName := ⟨RX11, "rain", "(III)I"⟩
abbrev cX11_cart : ByteArray := prog_1_method_5_code
def yX11_cart : MethodName := ⟨RX11, "cart", "(IIIII)I"⟩
abbrev cX11_charge : ByteArray := prog_1_method_6_code
def yX11_charge : MethodName := ⟨RX11, "charge", "(I)Z"⟩
abbrev cX11_work : ByteArray := prog_1_method_7_code
def yX11_work : MethodName := ⟨RX11, "work", "(III)I"⟩
abbrev cX11_lot : ByteArray := prog_1_method_8_code
def yX11_lot : MethodName := ⟨RX11, "lot", "(I)I"⟩
abbrev cX11_kind : ByteArray := prog_1_method_9_code
def yX11_kind : MethodName := ⟨RX11, "kind", "(ZIIIII)I"⟩
abbrev cX11_plant : ByteArray := prog_1_method_10_code
def yX11_plant : MethodName := ⟨RX11, "plant", "(I)Z"⟩
abbrev cX11_show : ByteArray := prog_1_method_11_code
def yX11_show : MethodName := ⟨RX11, "show", "(II)Z"⟩
abbrev cX11_look : ByteArray := prog_1_method_12_code
def yX11_look : MethodName := ⟨RX11, "look", "(II)Z"⟩
abbrev cX11_ill : ByteArray := prog_1_method_13_code
def yX11_ill : MethodName := ⟨RX11, "ill", "(IZ)Z"⟩
abbrev cX11_pass : ByteArray := prog_1_method_14_code
def yX11_pass : MethodName := ⟨RX11, "pass", "(I)I"⟩
abbrev cX11_cell : ByteArray := prog_1_method_15_code
def yX11_cell : MethodName := ⟨RX11, "cell", "(II)I"⟩
abbrev cX11_share : ByteArray := prog_1_method_16_code
def yX11_share : MethodName := ⟨RX11, "share", "(II)I"⟩
abbrev cX11_told : ByteArray := prog_1_method_17_code
def yX11_told : MethodName := ⟨RX11, "told", "(II)I"⟩
abbrev cX11_job : ByteArray := prog_1_method_18_code
def yX11_job : MethodName := ⟨RX11, "job", "(II)I"⟩
abbrev cX11_way : ByteArray := prog_1_method_19_code
def yX11_way : MethodName := ⟨RX11, "way", "(III)I"⟩
abbrev cX11_water : ByteArray := prog_1_method_20_code
def yX11_water : MethodName := ⟨RX11, "water", "(I)J"⟩
abbrev cX11_spot : ByteArray := prog_1_method_21_code
def yX11_spot : MethodName := ⟨RX11, "spot", "(II)I"⟩
abbrev cX11_pull : ByteArray := prog_1_method_22_code
def yX11_pull : MethodName := ⟨RX11, "pull", "(III)I"⟩
abbrev cX11_strip : ByteArray := prog_1_method_23_code
def yX11_strip : MethodName := ⟨RX11, "strip", "(II)I"⟩
abbrev cX11_better : ByteArray := prog_1_method_24_code
def yX11_better : MethodName := ⟨RX11, "better", "(I)I"⟩
abbrev cX11_feed : ByteArray := prog_1_method_25_code
def yX11_feed : MethodName := ⟨RX11, "feed", "(IIIII)I"⟩
abbrev cX11_rules : ByteArray := prog_1_method_26_code
def yX11_rules : MethodName := ⟨RX11, "rules", "(I)I"⟩
abbrev cX11_fault : ByteArray := prog_1_method_27_code
def yX11_fault : MethodName := ⟨RX11, "fault", "()I"⟩
abbrev cX11_act : ByteArray := prog_1_method_28_code
def yX11_act : MethodName := ⟨RX11, "act", "(II)I"⟩
abbrev cX11_plan : ByteArray := prog_1_method_29_code
def yX11_plan : MethodName := ⟨RX11, "plan", "(I)I"⟩
abbrev cX11_again : ByteArray := prog_1_method_30_code
def yX11_again : MethodName := ⟨RX11, "again", "(IIII)I"⟩
abbrev cX11_count : ByteArray := prog_1_method_31_code
def yX11_count : MethodName := ⟨RX11, "count", "(I)I"⟩
abbrev cX11_tell : ByteArray := prog_1_method_32_code
def yX11_tell : MethodName := ⟨RX11, "tell", "(IIII)Z"⟩
abbrev cX11_tellNewest : ByteArray := prog_1_method_33_code
def yX11_tellNewest : MethodName := ⟨RX11, "tellNewest", "(ILPloughField$Table;)I"⟩
abbrev cX11_addWork : ByteArray := prog_1_method_34_code
def yX11_addWork : MethodName := ⟨RX11, "addWork", "(III)I"⟩
abbrev cX11_findsAct : ByteArray := prog_1_method_35_code
def yX11_findsAct : MethodName := ⟨RX11, "findsAct", "(I)Z"⟩
abbrev cX11_canLeaveOut : ByteArray := prog_1_method_36_code
def yX11_canLeaveOut : MethodName := ⟨RX11, "canLeaveOut", "(II)Z"⟩
abbrev cX11_within : ByteArray := prog_1_method_37_code
def yX11_within : MethodName := ⟨RX11, "within", "(III)Z"⟩
abbrev cX11_isCell : ByteArray := prog_1_method_38_code
def yX11_isCell : MethodName := ⟨RX11, "isCell", "(I)Z"⟩
abbrev cX11_isOdds : ByteArray := prog_1_method_39_code
def yX11_isOdds : MethodName := ⟨RX11, "isOdds", "(I)Z"⟩
abbrev cX11_areMarks : ByteArray := prog_1_method_40_code
def yX11_areMarks : MethodName := ⟨RX11, "areMarks", "(I)Z"⟩
abbrev cX11_isSetting : ByteArray := prog_1_method_41_code
def yX11_isSetting : MethodName := ⟨RX11, "isSetting", "(II)Z"⟩
abbrev cX11_beside : ByteArray := prog_1_method_42_code
def yX11_beside : MethodName := ⟨RX11, "beside", "(II)I"⟩
abbrev cX11_far : ByteArray := prog_1_method_43_code
def yX11_far : MethodName := ⟨RX11, "far", "(II)I"⟩
abbrev cX11_bit : ByteArray := prog_1_method_44_code
def yX11_bit : MethodName := ⟨RX11, "bit", "(I)J"⟩
def RX12 : String := "PloughFieldModel"
def TX12 : u_T := fun k => match k with
  | 0 => ("PloughFieldModel", "f", "[I", true)
  | 1 => ("PloughFieldModel", "aside", "[I", true)
  | 2 => ("PloughFieldModel", "fell", "J", false)
  | 3 => ("PloughFieldModel", "lost", "J", false)
  | 4 => ("PloughFieldModel", "tolds", "I", false)
  | 5 => ("PloughFieldModel", "toldWhat", "[I", true)
  | 6 => ("PloughFieldModel", "toldAt", "[I", true)
  | 7 => ("PloughFieldModel", "toldA", "[I", true)
  | 8 => ("PloughFieldModel", "toldB", "[I", true)
  | 9 => ("PloughFieldModel", "toldC", "[I", true)
  | 10 => ("PloughFieldModel", "rains", "I", false)
  | 11 => ("PloughFieldModel", "carts", "I", false)
  | 12 => ("PloughFieldModel", "works", "I", false)
  | 13 => ("PloughFieldModel", "lots", "I", false)
  | 14 => ("PloughFieldModel", "kinds", "I", false)
  | 15 => ("PloughFieldModel", "rainFrom", "[I", true)
  | 16 => ("PloughFieldModel", "rainTo", "[I", true)
  | 17 => ("PloughFieldModel", "rainMuch", "[I", true)
  | 18 => ("PloughFieldModel", "cartKind", "[I", true)
  | 19 => ("PloughFieldModel", "weight", "[I", true)
  | 20 => ("PloughFieldModel", "sink", "[I", true)
  | 21 => ("PloughFieldModel", "home", "[I", true)
  | 22 => ("PloughFieldModel", "full", "[I", true)
  | 23 => ("PloughFieldModel", "workKind", "[I", true)
  | 24 => ("PloughFieldModel", "workCell", "[I", true)
  | 25 => ("PloughFieldModel", "workMuch", "[I", true)
  | 26 => ("PloughFieldModel", "lot", "[I", true)
  | 27 => ("PloughFieldModel", "prior", "[I", true)
  | 28 => ("PloughFieldModel", "odds", "[I", true)
  | 29 => ("PloughFieldModel", "isWeed", "[Z", true)
  | 30 => ("PloughFieldModel", "butWhat", "I", false)
  | 31 => ("PloughFieldModel", "butNumber", "I", false)
  | 32 => ("PloughFieldModel", "part", "[J", true)
  | 33 => ("PloughFieldModel", "away", "[J", true)
  | 34 => ("PloughFieldModel", "isDone", "[Z", true)
  | 35 => ("PloughFieldModel", "flow", "[I", true)
  | 36 => ("PloughFieldModel", "wasIll", "[Z", true)
  | 37 => ("PloughFieldModel", "fallsIll", "[Z", true)
  | 38 => ("PloughFieldModel", "steps", "[I", true)
  | 39 => ("PloughFieldModel", "gone", "[Z", true)
  | 40 => ("PloughFieldModel", "eight", "I", false)
  | 41 => ("PloughFieldModel", "eights", "[I", true)
  | 42 => ("PloughFieldModel", "strips", "I", false)
  | 43 => ("PloughFieldModel", "arm", "[I", true)
  | 44 => ("PloughFieldModel", "crop", "[I", true)
  | 45 => ("PloughFieldModel", "rules", "I", false)
  | 46 => ("PloughFieldModel", "stepMany", "I", false)
  | 47 => ("PloughFieldModel", "taped", "I", false)
  | 48 => ("PloughFieldModel", "size", "I", false)
  | 49 => ("PloughFieldModel", "at", "I", false)
  | 50 => ("PloughFieldModel", "deep", "I", false)
  | 51 => ("PloughFieldModel", "fault", "I", false)
  | 52 => ("PloughFieldModel", "statements", "[I", true)
  | 53 => ("PloughFieldModel", "sort", "[I", true)
  | 54 => ("PloughFieldModel", "from", "[I", true)
  | 55 => ("PloughFieldModel", "mid", "[I", true)
  | 56 => ("PloughFieldModel", "to", "[I", true)
  | 57 => ("PloughFieldModel", "step", "[I", true)
  | 58 => ("PloughFieldModel", "arg", "[I", true)
  | 59 => ("PloughFieldModel", "pile", "[J", true)
  | 60 => ("PloughFieldModel", "words", "[J", true)
  | 61 => ("PloughFieldModel", "tape", "[B", true)
  | 62 => ("PloughFieldModel", "text", "[B", true)
  | 63 => ("PloughFieldModel", "wordEnd", "I", false)
  | _ => ("PloughFieldModel", "read", "I", false)
def tyX12 : Nat → FieldType := fun k => match k with
  | 0 => .array .int
  | 1 => .array .int
  | 2 => .long
  | 3 => .long
  | 4 => .int
  | 5 => .array .int
  | 6 => .array .int
  | 7 => .array .int
  | 8 => .array .int
  | 9 => .array .int
  | 10 => .int
  | 11 => .int
  | 12 => .int
  | 13 => .int
  | 14 => .int
  | 15 => .array .int
  | 16 => .array .int
  | 17 => .array .int
  | 18 => .array .int
  | 19 => .array .int
  | 20 => .array .int
  | 21 => .array .int
  | 22 => .array .int
  | 23 => .array .int
  | 24 => .array .int
  | 25 => .array .int
  | 26 => .array .int
  | 27 => .array .int
  | 28 => .array .int
  | 29 => .array .boolean
  | 30 => .int
  | 31 => .int
  | 32 => .array .long
  | 33 => .array .long
  | 34 => .array .boolean
  | 35 => .array .int
  | 36 => .array .boolean
  | 37 => .array .boolean
  | 38 => .array .int
  | 39 => .array .boolean
  | 40 => .int
  | 41 => .array .int
  | 42 => .int
  | 43 => .array .int
  | 44 => .array .int
  | 45 => .int
  | 46 => .int
  | 47 => .int
  | 48 => .int
  | 49 => .int
  | 50 => .int
  | 51 => .int
  | 52 => .array .int
  | 53 => .array .int
  | 54 => .array .int
  | 55 => .array .int
  | 56 => .array .int
  | 57 => .array .int
  | 58 => .array .int
  | 59 => .array .long
  | 60 => .array .long
  | 61 => .array .byte
  | 62 => .array .byte
  | 63 => .int
  | _ => .int
theorem nmX12 : ∀ a, a < 65 → ∀ b, b < 65 → a ≠ b → (TX12 a).2.1 ≠ (TX12 b).2.1 := by decide +kernel
theorem tyX12_ok : ∀ k, k < 65 → parseFieldDescriptor (TX12 k).2.2.1 = some (tyX12 k) := by decide +kernel
abbrev cX12_init : ByteArray := prog_14_method_1_code
def yX12_init : MethodName := ⟨RX12, "<init>", "()V"⟩
abbrev cX12_begins : ByteArray := prog_14_method_2_code
def yX12_begins : MethodName := ⟨RX12, "begins", "()V"⟩
abbrev cX12_isIn : ByteArray := prog_14_method_3_code
def yX12_isIn : MethodName := ⟨RX12, "isIn", "(III)Z"⟩
abbrev cX12_one : ByteArray := prog_14_method_4_code
def yX12_one : MethodName := ⟨RX12, "one", "(Z)I"⟩
abbrev cX12_isCell : ByteArray := prog_14_method_5_code
def yX12_isCell : MethodName := ⟨RX12, "isCell", "(I)Z"⟩
abbrev cX12_far : ByteArray := prog_14_method_6_code
def yX12_far : MethodName := ⟨RX12, "far", "(II)I"⟩
abbrev cX12_beside : ByteArray := prog_14_method_7_code
def yX12_beside : MethodName := ⟨RX12, "beside", "(II)I"⟩
abbrev cX12_isBut : ByteArray := prog_14_method_8_code
def yX12_isBut : MethodName := ⟨RX12, "isBut", "(II)Z"⟩
abbrev cX12_tells : ByteArray := prog_14_method_9_code
def yX12_tells : MethodName := ⟨RX12, "tells", "(IIII)V"⟩
abbrev cX12_does : ByteArray := prog_14_method_10_code
def yX12_does : MethodName := ⟨RX12, "does", "(I)V"⟩
abbrev cX12_comes : ByteArray := prog_14_method_11_code
def yX12_comes : MethodName := ⟨RX12, "comes", "(I)V"⟩
abbrev cX12_charged : ByteArray := prog_14_method_12_code
def yX12_charged : MethodName := ⟨RX12, "charged", "(I)V"⟩
abbrev cX12_land : ByteArray := prog_14_method_13_code
def yX12_land : MethodName := ⟨RX12, "land", "(III)Z"⟩
abbrev cX12_isSet : ByteArray := prog_14_method_14_code
def yX12_isSet : MethodName := ⟨RX12, "isSet", "(II)Z"⟩
abbrev cX12_set : ByteArray := prog_14_method_15_code
def yX12_set : MethodName := ⟨RX12, "set", "(II)Z"⟩
abbrev cX12_rain : ByteArray := prog_14_method_16_code
def yX12_rain : MethodName := ⟨RX12, "rain", "(III)I"⟩
abbrev cX12_cart : ByteArray := prog_14_method_17_code
def yX12_cart : MethodName := ⟨RX12, "cart", "(IIIII)I"⟩
abbrev cX12_isCart : ByteArray := prog_14_method_18_code
def yX12_isCart : MethodName := ⟨RX12, "isCart", "(I)Z"⟩
abbrev cX12_charge : ByteArray := prog_14_method_19_code
def yX12_charge : MethodName := ⟨RX12, "charge", "(I)Z"⟩
abbrev cX12_work : ByteArray := prog_14_method_20_code
def yX12_work : MethodName := ⟨RX12, "work", "(III)I"⟩
abbrev cX12_lot : ByteArray := prog_14_method_21_code
def yX12_lot : MethodName := ⟨RX12, "lot", "(I)I"⟩
abbrev cX12_kind : ByteArray := prog_14_method_22_code
def yX12_kind : MethodName := ⟨RX12, "kind", "(ZIIIII)I"⟩
abbrev cX12_has : ByteArray := prog_14_method_23_code
def yX12_has : MethodName := ⟨RX12, "has", "(I)Z"⟩
abbrev cX12_plant : ByteArray := prog_14_method_24_code
def yX12_plant : MethodName := ⟨RX12, "plant", "(I)Z"⟩
abbrev cX12_show : ByteArray := prog_14_method_25_code
def yX12_show : MethodName := ⟨RX12, "show", "(II)Z"⟩
abbrev cX12_look : ByteArray := prog_14_method_26_code
def yX12_look : MethodName := ⟨RX12, "look", "(II)Z"⟩
abbrev cX12_ill : ByteArray := prog_14_method_27_code
def yX12_ill : MethodName := ⟨RX12, "ill", "(IZ)Z"⟩
abbrev cX12_grows : ByteArray := prog_14_method_28_code
def yX12_grows : MethodName := ⟨RX12, "grows", "(I)V"⟩
abbrev cX12_seen : ByteArray := prog_14_method_29_code
def yX12_seen : MethodName := ⟨RX12, "seen", "(II)V"⟩
abbrev cX12_dies : ByteArray := prog_14_method_30_code
def yX12_dies : MethodName := ⟨RX12, "dies", "(II)V"⟩
abbrev cX12_weeds : ByteArray := prog_14_method_31_code
def yX12_weeds : MethodName := ⟨RX12, "weeds", "(I)I"⟩
abbrev cX12_heavy : ByteArray := prog_14_method_32_code
def yX12_heavy : MethodName := ⟨RX12, "heavy", "(II)I"⟩
abbrev cX12_mayEnter : ByteArray := prog_14_method_33_code
def yX12_mayEnter : MethodName := ⟨RX12, "mayEnter", "(II)Z"⟩
abbrev cX12_isGoal : ByteArray := prog_14_method_34_code
def yX12_isGoal : MethodName := ⟨RX12, "isGoal", "(IIZ)Z"⟩
abbrev cX12_ways : ByteArray := prog_14_method_35_code
def yX12_ways : MethodName := ⟨RX12, "ways", "(IIZ)V"⟩
abbrev cX12_nextOf : ByteArray := prog_14_method_36_code
def yX12_nextOf : MethodName := ⟨RX12, "nextOf", "(II)I"⟩
abbrev cX12_way : ByteArray := prog_14_method_37_code
def yX12_way : MethodName := ⟨RX12, "way", "(III)I"⟩
abbrev cX12_rains : ByteArray := prog_14_method_38_code
def yX12_rains : MethodName := ⟨RX12, "rains", "()V"⟩
abbrev cX12_flows : ByteArray := prog_14_method_39_code
def yX12_flows : MethodName := ⟨RX12, "flows", "()V"⟩
abbrev cX12_dries : ByteArray := prog_14_method_40_code
def yX12_dries : MethodName := ⟨RX12, "dries", "()V"⟩
abbrev cX12_mayTake : ByteArray := prog_14_method_41_code
def yX12_mayTake : MethodName := ⟨RX12, "mayTake", "(II)Z"⟩
abbrev cX12_offers : ByteArray := prog_14_method_42_code
def yX12_offers : MethodName := ⟨RX12, "offers", "()V"⟩
abbrev cX12_gives : ByteArray := prog_14_method_43_code
def yX12_gives : MethodName := ⟨RX12, "gives", "(I)V"⟩
abbrev cX12_drops : ByteArray := prog_14_method_44_code
def yX12_drops : MethodName := ⟨RX12, "drops", "(I)V"⟩
abbrev cX12_works : ByteArray := prog_14_method_45_code
def yX12_works : MethodName := ⟨RX12, "works", "(I)V"⟩
abbrev cX12_pulls : ByteArray := prog_14_method_46_code
def yX12_pulls : MethodName := ⟨RX12, "pulls", "(II)V"⟩
abbrev cX12_moves : ByteArray := prog_14_method_47_code
def yX12_moves : MethodName := ⟨RX12, "moves", "(I)V"⟩
abbrev cX12_enters : ByteArray := prog_14_method_48_code
def yX12_enters : MethodName := ⟨RX12, "enters", "(II)V"⟩
abbrev cX12_acts : ByteArray := prog_14_method_49_code
def yX12_acts : MethodName := ⟨RX12, "acts", "(I)V"⟩
abbrev cX12_ends : ByteArray := prog_14_method_50_code
def yX12_ends : MethodName := ⟨RX12, "ends", "()V"⟩
abbrev cX12_lotIsLow : ByteArray := prog_14_method_51_code
def yX12_lotIsLow : MethodName := ⟨RX12, "lotIsLow", "()Z"⟩
abbrev cX12_hour : ByteArray := prog_14_method_52_code
def yX12_hour : MethodName := ⟨RX12, "hour", "()V"⟩
abbrev cX12_pass : ByteArray := prog_14_method_53_code
def yX12_pass : MethodName := ⟨RX12, "pass", "(I)I"⟩
abbrev cX12_cellOf : ByteArray := prog_14_method_54_code
def yX12_cellOf : MethodName := ⟨RX12, "cellOf", "(II)I"⟩
abbrev cX12_cell : ByteArray := prog_14_method_55_code
def yX12_cell : MethodName := ⟨RX12, "cell", "(II)I"⟩
abbrev cX12_share : ByteArray := prog_14_method_56_code
def yX12_share : MethodName := ⟨RX12, "share", "(II)I"⟩
abbrev cX12_told : ByteArray := prog_14_method_57_code
def yX12_told : MethodName := ⟨RX12, "told", "(II)I"⟩
abbrev cX12_job : ByteArray := prog_14_method_58_code
def yX12_job : MethodName := ⟨RX12, "job", "(II)I"⟩
abbrev cX12_water : ByteArray := prog_14_method_59_code
def yX12_water : MethodName := ⟨RX12, "water", "(I)J"⟩
abbrev cX12_spreads : ByteArray := prog_14_method_60_code
def yX12_spreads : MethodName := ⟨RX12, "spreads", "(I[Z)V"⟩
abbrev cX12_isSpot : ByteArray := prog_14_method_61_code
def yX12_isSpot : MethodName := ⟨RX12, "isSpot", "(II)Z"⟩
abbrev cX12_illMany : ByteArray := prog_14_method_62_code
def yX12_illMany : MethodName := ⟨RX12, "illMany", "()I"⟩
abbrev cX12_spot : ByteArray := prog_14_method_63_code
def yX12_spot : MethodName := ⟨RX12, "spot", "(II)I"⟩
abbrev cX12_finds : ByteArray := prog_14_method_64_code
def yX12_finds : MethodName := ⟨RX12, "finds", "()V"⟩
abbrev cX12_reached : ByteArray := prog_14_method_65_code
def yX12_reached : MethodName := ⟨RX12, "reached", "(II)I"⟩
abbrev cX12_bits : ByteArray := prog_14_method_66_code
def yX12_bits : MethodName := ⟨RX12, "bits", "(I)I"⟩
abbrev cX12_pull : ByteArray := prog_14_method_67_code
def yX12_pull : MethodName := ⟨RX12, "pull", "(III)I"⟩
abbrev cX12_strip : ByteArray := prog_14_method_68_code
def yX12_strip : MethodName := ⟨RX12, "strip", "(II)I"⟩
abbrev cX12_leadOf : ByteArray := prog_14_method_69_code
def yX12_leadOf : MethodName := ⟨RX12, "leadOf", "(I)I"⟩
abbrev cX12_better : ByteArray := prog_14_method_70_code
def yX12_better : MethodName := ⟨RX12, "better", "(I)I"⟩
abbrev cX12_again : ByteArray := prog_14_method_71_code
def yX12_again : MethodName := ⟨RX12, "again", "(IIII)I"⟩
abbrev cX12_feed : ByteArray := prog_14_method_72_code
def yX12_feed : MethodName := ⟨RX12, "feed", "(IIIII)I"⟩
abbrev cX12_four : ByteArray := prog_14_method_73_code
def yX12_four : MethodName := ⟨RX12, "four", "(I)V"⟩
abbrev cX12_blanks : ByteArray := prog_14_method_74_code
def yX12_blanks : MethodName := ⟨RX12, "blanks", "()V"⟩
abbrev cX12_word : ByteArray := prog_14_method_75_code
def yX12_word : MethodName := ⟨RX12, "word", "()J"⟩
abbrev cX12_takes : ByteArray := prog_14_method_76_code
def yX12_takes : MethodName := ⟨RX12, "takes", "(J)Z"⟩
abbrev cX12_takesSign : ByteArray := prog_14_method_77_code
def yX12_takesSign : MethodName := ⟨RX12, "takesSign", "(I)Z"⟩
abbrev cX12_takesNumber : ByteArray := prog_14_method_78_code
def yX12_takesNumber : MethodName := ⟨RX12, "takesNumber", "()Z"⟩
abbrev cX12_asked : ByteArray := prog_14_method_79_code
def yX12_asked : MethodName := ⟨RX12, "asked", "(J)I"⟩
abbrev cX12_puts : ByteArray := prog_14_method_80_code
def yX12_puts : MethodName := ⟨RX12, "puts", "(II)V"⟩
abbrev cX12_opens : ByteArray := prog_14_method_81_code
def yX12_opens : MethodName := ⟨RX12, "opens", "()Z"⟩
abbrev cX12_atom : ByteArray := prog_14_method_82_code
def yX12_atom : MethodName := ⟨RX12, "atom", "()Z"⟩
abbrev cX12_product : ByteArray := prog_14_method_83_code
def yX12_product : MethodName := ⟨RX12, "product", "()Z"⟩
abbrev cX12_ex : ByteArray := prog_14_method_84_code
def yX12_ex : MethodName := ⟨RX12, "ex", "()Z"⟩
abbrev cX12_single : ByteArray := prog_14_method_85_code
def yX12_single : MethodName := ⟨RX12, "single", "()Z"⟩
abbrev cX12_all : ByteArray := prog_14_method_86_code
def yX12_all : MethodName := ⟨RX12, "all", "()Z"⟩
abbrev cX12_any : ByteArray := prog_14_method_87_code
def yX12_any : MethodName := ⟨RX12, "any", "()Z"⟩
abbrev cX12_statement : ByteArray := prog_14_method_88_code
def yX12_statement : MethodName := ⟨RX12, "statement", "(I)Z"⟩
abbrev cX12_rules : ByteArray := prog_14_method_89_code
def yX12_rules : MethodName := ⟨RX12, "rules", "(I)I"⟩
abbrev cX12_fault : ByteArray := prog_14_method_90_code
def yX12_fault : MethodName := ⟨RX12, "fault", "()I"⟩
abbrev cX12_held : ByteArray := prog_14_method_91_code
def yX12_held : MethodName := ⟨RX12, "held", "(J)J"⟩
abbrev cX12_bit : ByteArray := prog_14_method_92_code
def yX12_bit : MethodName := ⟨RX12, "bit", "(Z)J"⟩
abbrev cX12_both : ByteArray := prog_14_method_93_code
def yX12_both : MethodName := ⟨RX12, "both", "(IJJ)J"⟩
abbrev cX12_runs : ByteArray := prog_14_method_94_code
def yX12_runs : MethodName := ⟨RX12, "runs", "(II)J"⟩
abbrev cX12_nextRain : ByteArray := prog_14_method_95_code
def yX12_nextRain : MethodName := ⟨RX12, "nextRain", "()I"⟩
abbrev cX12_toDo : ByteArray := prog_14_method_96_code
def yX12_toDo : MethodName := ⟨RX12, "toDo", "(I)I"⟩
abbrev cX12_act : ByteArray := prog_14_method_97_code
def yX12_act : MethodName := ⟨RX12, "act", "(II)I"⟩
abbrev cX12_plan : ByteArray := prog_14_method_98_code
def yX12_plan : MethodName := ⟨RX12, "plan", "(I)I"⟩
abbrev cX12_manyOf : ByteArray := prog_14_method_99_code
def yX12_manyOf : MethodName := ⟨RX12, "manyOf", "(II)I"⟩
abbrev cX12_count : ByteArray := prog_14_method_100_code
def yX12_count : MethodName := ⟨RX12, "count", "(I)I"⟩
def RJ11 : String := "java/lang/Character"
def TJ11 : u_T := fun k => match k with
  | _ => ("", "", "", false)
def tyJ11 : Nat → FieldType := fun k => match k with
  | _ => .int
theorem nmJ11 : ∀ a, a < 0 → ∀ b, b < 0 → a ≠ b → (TJ11 a).2.1 ≠ (TJ11 b).2.1 := by decide +kernel
theorem tyJ11_ok : ∀ k, k < 0 → parseFieldDescriptor (TJ11 k).2.2.1 = some (tyJ11 k) := by decide +kernel
abbrev cJ11_isValidCodePoint_9a6ad : ByteArray := prog_15_method_11_code
def yJ11_isValidCodePoint_9a6ad : MethodName := ⟨RJ11, "isValidCodePoint", "(I)Z"⟩
abbrev cJ11_highSurrogate_5068e : ByteArray := prog_15_method_28_code
def yJ11_highSurrogate_5068e : MethodName := ⟨RJ11, "highSurrogate", "(I)C"⟩
abbrev cJ11_lowSurrogate_5068e : ByteArray := prog_15_method_29_code
def yJ11_lowSurrogate_5068e : MethodName := ⟨RJ11, "lowSurrogate", "(I)C"⟩
def RJ6 : String := "java/lang/Integer"
def TJ6 : u_T := fun k => match k with
  | _ => ("", "", "", false)
def tyJ6 : Nat → FieldType := fun k => match k with
  | _ => .int
theorem nmJ6 : ∀ a, a < 0 → ∀ b, b < 0 → a ≠ b → (TJ6 a).2.1 ≠ (TJ6 b).2.1 := by decide +kernel
theorem tyJ6_ok : ∀ k, k < 0 → parseFieldDescriptor (TJ6 k).2.2.1 = some (tyJ6 k) := by decide +kernel
abbrev cJ6_bitCount_0f7a4 : ByteArray := prog_16_method_49_code
def yJ6_bitCount_0f7a4 : MethodName := ⟨RJ6, "bitCount", "(I)I"⟩
def RJ13 : String := "java/lang/Long"
def TJ13 : u_T := fun k => match k with
  | _ => ("", "", "", false)
def tyJ13 : Nat → FieldType := fun k => match k with
  | _ => .int
theorem nmJ13 : ∀ a, a < 0 → ∀ b, b < 0 → a ≠ b → (TJ13 a).2.1 ≠ (TJ13 b).2.1 := by decide +kernel
theorem tyJ13_ok : ∀ k, k < 0 → parseFieldDescriptor (TJ13 k).2.2.1 = some (tyJ13 k) := by decide +kernel
abbrev cJ13_bitCount_95d88 : ByteArray := prog_17_method_50_code
def yJ13_bitCount_95d88 : MethodName := ⟨RJ13, "bitCount", "(J)I"⟩
def RJ9 : String := "java/lang/Math"
def TJ9 : u_T := fun k => match k with
  | _ => ("", "", "", false)
def tyJ9 : Nat → FieldType := fun k => match k with
  | _ => .int
theorem nmJ9 : ∀ a, a < 0 → ∀ b, b < 0 → a ≠ b → (TJ9 a).2.1 ≠ (TJ9 b).2.1 := by decide +kernel
theorem tyJ9_ok : ∀ k, k < 0 → parseFieldDescriptor (TJ9 k).2.2.1 = some (tyJ9 k) := by decide +kernel
abbrev cJ9_abs_0f7a4 : ByteArray := prog_18_method_59_code
def yJ9_abs_0f7a4 : MethodName := ⟨RJ9, "abs", "(I)I"⟩
abbrev cJ9_max_7cf53 : ByteArray := prog_18_method_65_code
def yJ9_max_7cf53 : MethodName := ⟨RJ9, "max", "(II)I"⟩
abbrev cJ9_max_f86c9 : ByteArray := prog_18_method_66_code
def yJ9_max_f86c9 : MethodName := ⟨RJ9, "max", "(JJ)J"⟩
abbrev cJ9_min_7cf53 : ByteArray := prog_18_method_69_code
def yJ9_min_7cf53 : MethodName := ⟨RJ9, "min", "(II)I"⟩
abbrev cJ9_min_f86c9 : ByteArray := prog_18_method_70_code
def yJ9_min_f86c9 : MethodName := ⟨RJ9, "min", "(JJ)J"⟩
def RJ0 : String := "java/lang/String"
def TJ0 : u_T := fun k => match k with
  | _ => ("", "", "", false)
def tyJ0 : Nat → FieldType := fun k => match k with
  | _ => .int
theorem nmJ0 : ∀ a, a < 0 → ∀ b, b < 0 → a ≠ b → (TJ0 a).2.1 ≠ (TJ0 b).2.1 := by decide +kernel
theorem tyJ0_ok : ∀ k, k < 0 → parseFieldDescriptor (TJ0 k).2.2.1 = some (tyJ0 k) := by decide +kernel
abbrev cJ0_length_8abf5 : ByteArray := prog_19_method_54_code
def yJ0_length_8abf5 : MethodName := ⟨RJ0, "length", "()I"⟩
abbrev cJ0_charAt_5068e : ByteArray := prog_19_method_56_code
def yJ0_charAt_5068e : MethodName := ⟨RJ0, "charAt", "(I)C"⟩
abbrev cJ0_indexOf_0f7a4 : ByteArray := prog_19_method_79_code
def yJ0_indexOf_0f7a4 : MethodName := ⟨RJ0, "indexOf", "(I)I"⟩
abbrev cJ0_indexOf_7cf53 : ByteArray := prog_19_method_80_code
def yJ0_indexOf_7cf53 : MethodName := ⟨RJ0, "indexOf", "(II)I"⟩
abbrev cJ0_coder_7d493 : ByteArray := prog_19_method_152_code
def yJ0_coder_7d493 : MethodName := ⟨RJ0, "coder", "()B"⟩
abbrev cJ0_isLatin1_aae02 : ByteArray := prog_19_method_154_code
def yJ0_isLatin1_aae02 : MethodName := ⟨RJ0, "isLatin1", "()Z"⟩
abbrev cJ0_checkIndex_df160 : ByteArray := prog_19_method_155_code
def yJ0_checkIndex_df160 : MethodName := ⟨RJ0, "checkIndex", "(II)V"⟩
abbrev cJ0_checkBoundsBeginEnd_23922 : ByteArray := prog_19_method_158_code
def yJ0_checkBoundsBeginEnd_23922 : MethodName := ⟨RJ0, "checkBoundsBeginEnd", "(III)V"⟩
def RJ1 : String := "java/lang/StringLatin1"
def TJ1 : u_T := fun k => match k with
  | _ => ("", "", "", false)
def tyJ1 : Nat → FieldType := fun k => match k with
  | _ => .int
theorem nmJ1 : ∀ a, a < 0 → ∀ b, b < 0 → a ≠ b → (TJ1 a).2.1 ≠ (TJ1 b).2.1 := by decide +kernel
theorem tyJ1_ok : ∀ k, k < 0 → parseFieldDescriptor (TJ1 k).2.2.1 = some (tyJ1 k) := by decide +kernel
abbrev cJ1_charAt_3b067 : ByteArray := prog_20_method_2_code
def yJ1_charAt_3b067 : MethodName := ⟨RJ1, "charAt", "([BI)C"⟩
abbrev cJ1_canEncode_9a6ad : ByteArray := prog_20_method_4_code
def yJ1_canEncode_9a6ad : MethodName := ⟨RJ1, "canEncode", "(I)Z"⟩
abbrev cJ1_indexOf_4cfef : ByteArray := prog_20_method_22_code
def yJ1_indexOf_4cfef : MethodName := ⟨RJ1, "indexOf", "([BIII)I"⟩
abbrev cJ1_indexOfChar_4cfef : ByteArray := prog_20_method_23_code
def yJ1_indexOfChar_4cfef : MethodName := ⟨RJ1, "indexOfChar", "([BIII)I"⟩
def RJ2 : String := "java/lang/StringUTF16"
def TJ2 : u_T := fun k => match k with
  | _ => ("", "", "", false)
def tyJ2 : Nat → FieldType := fun k => match k with
  | _ => .int
theorem nmJ2 : ∀ a, a < 0 → ∀ b, b < 0 → a ≠ b → (TJ2 a).2.1 ≠ (TJ2 b).2.1 := by decide +kernel
theorem tyJ2_ok : ∀ k, k < 0 → parseFieldDescriptor (TJ2 k).2.2.1 = some (tyJ2 k) := by decide +kernel
abbrev cJ2_getChar_3b067 : ByteArray := prog_21_method_5_code
def yJ2_getChar_3b067 : MethodName := ⟨RJ2, "getChar", "([BI)C"⟩
abbrev cJ2_length_9d52b : ByteArray := prog_21_method_6_code
def yJ2_length_9d52b : MethodName := ⟨RJ2, "length", "([B)I"⟩
abbrev cJ2_indexOf_4cfef : ByteArray := prog_21_method_40_code
def yJ2_indexOf_4cfef : MethodName := ⟨RJ2, "indexOf", "([BIII)I"⟩
abbrev cJ2_indexOfChar_4cfef : ByteArray := prog_21_method_47_code
def yJ2_indexOfChar_4cfef : MethodName := ⟨RJ2, "indexOfChar", "([BIII)I"⟩
abbrev cJ2_indexOfCharUnsafe_4cfef : ByteArray := prog_21_method_48_code
def yJ2_indexOfCharUnsafe_4cfef : MethodName := ⟨RJ2, "indexOfCharUnsafe", "([BIII)I"⟩
abbrev cJ2_indexOfSupplementary_4cfef : ByteArray := prog_21_method_49_code
def yJ2_indexOfSupplementary_4cfef : MethodName := ⟨RJ2, "indexOfSupplementary", "([BIII)I"⟩
abbrev cJ2_charAt_3b067 : ByteArray := prog_21_method_83_code
def yJ2_charAt_3b067 : MethodName := ⟨RJ2, "charAt", "([BI)C"⟩
abbrev cJ2_checkIndex_2214a : ByteArray := prog_21_method_91_code
def yJ2_checkIndex_2214a : MethodName := ⟨RJ2, "checkIndex", "(I[B)V"⟩
abbrev cJ2_checkBoundsBeginEnd_d044e : ByteArray := prog_21_method_93_code
def yJ2_checkBoundsBeginEnd_d044e : MethodName := ⟨RJ2, "checkBoundsBeginEnd", "(II[B)V"⟩
def RJ10 : String := "java/lang/System"
def TJ10 : u_T := fun k => match k with
  | _ => ("", "", "", false)
def tyJ10 : Nat → FieldType := fun k => match k with
  | _ => .int
theorem nmJ10 : ∀ a, a < 0 → ∀ b, b < 0 → a ≠ b → (TJ10 a).2.1 ≠ (TJ10 b).2.1 := by decide +kernel
theorem tyJ10_ok : ∀ k, k < 0 → parseFieldDescriptor (TJ10 k).2.2.1 = some (tyJ10 k) := by decide +kernel
def RJ7 : String := "java/util/Arrays"
def TJ7 : u_T := fun k => match k with
  | _ => ("", "", "", false)
def tyJ7 : Nat → FieldType := fun k => match k with
  | _ => .int
theorem nmJ7 : ∀ a, a < 0 → ∀ b, b < 0 → a ≠ b → (TJ7 a).2.1 ≠ (TJ7 b).2.1 := by decide +kernel
theorem tyJ7_ok : ∀ k, k < 0 → parseFieldDescriptor (TJ7 k).2.2.1 = some (tyJ7 k) := by decide +kernel
abbrev cJ7_fill_d0a16 : ByteArray := prog_23_method_101_code
def yJ7_fill_d0a16 : MethodName := ⟨RJ7, "fill", "([JJ)V"⟩
abbrev cJ7_fill_53178 : ByteArray := prog_23_method_103_code
def yJ7_fill_53178 : MethodName := ⟨RJ7, "fill", "([II)V"⟩
def RJ3 : String := "jdk/internal/util/Preconditions"
def TJ3 : u_T := fun k => match k with
  | _ => ("", "", "", false)
def tyJ3 : Nat → FieldType := fun k => match k with
  | _ => .int
theorem nmJ3 : ∀ a, a < 0 → ∀ b, b < 0 → a ≠ b → (TJ3 a).2.1 ≠ (TJ3 b).2.1 := by decide +kernel
theorem tyJ3_ok : ∀ k, k < 0 → parseFieldDescriptor (TJ3 k).2.2.1 = some (tyJ3 k) := by decide +kernel
abbrev cJ3_checkIndex_8e157 : ByteArray := prog_24_method_11_code
def yJ3_checkIndex_8e157 : MethodName := ⟨RJ3, "checkIndex", "(IILjava/util/function/BiFunction;)I"⟩
abbrev cJ3_checkFromToIndex_8c36e : ByteArray := prog_24_method_12_code
def yJ3_checkFromToIndex_8c36e : MethodName := ⟨RJ3, "checkFromToIndex", "(IIILjava/util/function/BiFunction;)I"⟩
def RL : String := "PloughFieldLaw"
abbrev cL_law : ByteArray := code
def yL_law : MethodName := ⟨RL, "law", "([I)Z"⟩
end
section
/-! the cells of the class and of the reference: a cell is (group, which one of the group, part); groups: 0 what the class has once, 1 its worlds, 2 its tables, 3 the reference -/
abbrev am_C : Type := Nat × Nat × Nat
abbrev am_V : Type := Int32 ⊕ (Int64 ⊕ am_C)
abbrev am_I : Type := am_C → Nat → Int32
abbrev am_N : Type := am_C → Nat → Int64
abbrev am_Y : Type := MethodName × ByteArray × Nat × Option FieldType
def am_cap (x : Nat) : Nat := ([2000, 90, 40, 180, 30, 40, 24] : List Nat).getD x 0
def am_lyT : List (List (Nat → Nat × Nat)) := [
  [fun _ => (4, 10), fun _ => (4, 0), fun _ => (4, 4), fun _ => (0, 512), fun _ => (0, 512), fun _ => (0, 64), fun _ => (0, 64), fun _ => (4, 6), fun _ => (0, 500), fun _ => (0, 501), fun _ => (0, 501), fun _ => (0, 548), fun _ => (4, 3), fun _ => (0, 548), fun _ => (0, 64), fun _ => (4, 7), fun _ => (0, 8)],
  [fun _ => (4, 9), fun _ => (4, 2), fun _ => (0, 64), fun _ => (0, 64), fun _ => (0, 64), fun _ => (0, 64), fun _ => (4, 5), fun _ => (0, 64), fun _ => (0, 64), fun _ => (0, 64), fun _ => (0, 64), fun _ => (0, 64), fun _ => (0, 320), fun _ => (1, 5), fun _ => (4, 1), fun _ => (0, 8), fun _ => (0, 8), fun _ => (0, 8), fun _ => (0, 8), fun _ => (1, 8), fun _ => (0, 60), fun _ => (0, 60), fun _ => (0, 4)],
  [fun _ => (4, 8), fun x => (0, am_cap x)],
  [fun _ => (4, 11), fun _ => (0, 1635), fun _ => (0, 1635), fun _ => (0, 400), fun _ => (0, 400), fun _ => (0, 400), fun _ => (0, 400), fun _ => (0, 400), fun _ => (0, 30), fun _ => (0, 30), fun _ => (0, 30), fun _ => (0, 8), fun _ => (0, 8), fun _ => (0, 8), fun _ => (0, 8), fun _ => (0, 8), fun _ => (0, 60), fun _ => (0, 60), fun _ => (0, 60), fun _ => (0, 40), fun _ => (0, 5), fun _ => (0, 20), fun _ => (3, 5), fun _ => (1, 5), fun _ => (1, 64), fun _ => (3, 64), fun _ => (0, 64), fun _ => (3, 64), fun _ => (3, 64), fun _ => (0, 64), fun _ => (3, 64), fun _ => (0, 8), fun _ => (0, 12), fun _ => (0, 12), fun _ => (0, 9), fun _ => (0, 216), fun _ => (0, 216), fun _ => (0, 216), fun _ => (0, 216), fun _ => (0, 6300), fun _ => (0, 6300), fun _ => (1, 64), fun _ => (1, 8), fun _ => (2, 500), fun _ => (2, 500)]]
/-- what a cell is: (0 to 3: a row of int, long, byte, boolean; its length) or (4; its class) -/
def am_ly (c : am_C) : Nat × Nat := ((am_lyT.getD c.1 []).getD c.2.2 (fun _ => (9, 0))) c.2.1
def am_cl : List vw_C := [(RX0, TX0, 6), (RX1, TX1, 6), (RX2, TX2, 6), (RX3, TX3, 8), (RX5, TX5, 5), (RX6, TX6, 11), (RX7, TX7, 9), (RX8, TX8, 1), (RX9, TX9, 4), (RX10, TX10, 14), (RX11, TX11, 10), (RX12, TX12, 65)]
/-- the fields of a class: 0 int, 1 long, 2 a reference -/
def am_ftT : List (List Nat) := [[2, 2, 2, 2, 2, 2], [2, 2, 2, 2, 2, 2], [2, 2, 2, 2, 1, 1], [2, 2, 0, 0, 0, 0, 0, 0], [2, 2, 2, 2, 0], [2, 2, 2, 2, 2, 2, 2, 2, 1, 1, 0], [2, 2, 2, 2, 0, 0, 0, 0, 0], [2], [2, 0, 0, 0], [2, 2, 2, 2, 2, 2, 2, 2, 0, 0, 0, 0, 0, 0], [2, 2, 2, 2, 2, 2, 2, 2, 0, 0], [2, 2, 1, 1, 0, 2, 2, 2, 2, 2, 0, 0, 0, 0, 0, 2, 2, 2, 2, 2, 2, 2, 2, 2, 2, 2, 2, 2, 2, 2, 0, 0, 2, 2, 2, 2, 2, 2, 2, 2, 0, 2, 0, 2, 2, 0, 0, 0, 0, 0, 0, 0, 2, 2, 2, 2, 2, 2, 2, 2, 2, 2, 2, 0, 0]]
def am_ft (ci : Nat) : List Nat := am_ftT.getD ci []
def am_ptT : List (List (List (Nat → am_C))) := [
  [[fun _ => (0, 0, 1), fun _ => (0, 0, 2), fun _ => (1, 0, 0), fun _ => (1, 1, 0), fun _ => (0, 0, 7), fun _ => (0, 0, 12), fun _ => (0, 0, 15), fun _ => (0, 0, 16), fun _ => (0, 0, 0), fun _ => (0, 0, 0)],
   [fun _ => (2, 0, 0), fun _ => (2, 1, 0), fun _ => (2, 2, 0), fun _ => (2, 3, 0), fun _ => (2, 4, 0), fun _ => (2, 5, 0)],
   [fun _ => (0, 0, 3), fun _ => (0, 0, 4), fun _ => (0, 0, 5), fun _ => (0, 0, 6), fun _ => (0, 0, 0)],
   [],
   [],
   [],
   [],
   [fun _ => (0, 0, 8), fun _ => (0, 0, 9), fun _ => (0, 0, 10), fun _ => (0, 0, 11), fun _ => (0, 0, 0), fun _ => (0, 0, 0), fun _ => (0, 0, 0), fun _ => (0, 0, 0), fun _ => (0, 0, 0)],
   [],
   [],
   [],
   [],
   [fun _ => (0, 0, 13), fun _ => (0, 0, 14), fun _ => (0, 0, 0), fun _ => (0, 0, 0), fun _ => (0, 0, 0), fun _ => (0, 0, 0), fun _ => (0, 0, 0), fun _ => (0, 0, 0)],
   [],
   [],
   [fun _ => (2, 6, 0)],
   []],
  [[fun _ => (0, 0, 1), fun _ => (0, 0, 2), fun x => (1, x, 1), fun x => (1, x, 6), fun x => (1, x, 14), fun x => (1, x, 20), fun x => (1, x, 21), fun x => (1, x, 22), fun _ => (0, 0, 0), fun _ => (0, 0, 0), fun _ => (0, 0, 0), fun _ => (0, 0, 0), fun _ => (0, 0, 0), fun _ => (0, 0, 0)],
   [fun x => (1, x, 2), fun x => (1, x, 3), fun x => (1, x, 4), fun x => (1, x, 5), fun _ => (0, 0, 0), fun _ => (0, 0, 0)],
   [],
   [],
   [],
   [],
   [fun _ => (0, 0, 1), fun x => (1, x, 7), fun x => (1, x, 8), fun x => (1, x, 9), fun x => (1, x, 10), fun x => (1, x, 11), fun x => (1, x, 12), fun x => (1, x, 13), fun _ => (0, 0, 0), fun _ => (0, 0, 0), fun _ => (0, 0, 0)],
   [],
   [],
   [],
   [],
   [],
   [],
   [],
   [fun _ => (0, 0, 1), fun x => (1, x, 15), fun x => (1, x, 16), fun x => (1, x, 17), fun x => (1, x, 18), fun x => (1, x, 19)],
   [],
   [],
   [],
   [],
   [],
   [],
   [],
   []],
  [[fun x => (2, x, 1), fun _ => (0, 0, 0), fun _ => (0, 0, 0), fun _ => (0, 0, 0)],
   []],
  [[fun _ => (3, 0, 1), fun _ => (3, 0, 2), fun _ => (0, 0, 0), fun _ => (0, 0, 0), fun _ => (0, 0, 0), fun _ => (3, 0, 3), fun _ => (3, 0, 4), fun _ => (3, 0, 5), fun _ => (3, 0, 6), fun _ => (3, 0, 7), fun _ => (0, 0, 0), fun _ => (0, 0, 0), fun _ => (0, 0, 0), fun _ => (0, 0, 0), fun _ => (0, 0, 0), fun _ => (3, 0, 8), fun _ => (3, 0, 9), fun _ => (3, 0, 10), fun _ => (3, 0, 11), fun _ => (3, 0, 12), fun _ => (3, 0, 13), fun _ => (3, 0, 14), fun _ => (3, 0, 15), fun _ => (3, 0, 16), fun _ => (3, 0, 17), fun _ => (3, 0, 18), fun _ => (3, 0, 19), fun _ => (3, 0, 20), fun _ => (3, 0, 21), fun _ => (3, 0, 22), fun _ => (0, 0, 0), fun _ => (0, 0, 0), fun _ => (3, 0, 23), fun _ => (3, 0, 24), fun _ => (3, 0, 25), fun _ => (3, 0, 26), fun _ => (3, 0, 27), fun _ => (3, 0, 28), fun _ => (3, 0, 29), fun _ => (3, 0, 30), fun _ => (0, 0, 0), fun _ => (3, 0, 31), fun _ => (0, 0, 0), fun _ => (3, 0, 32), fun _ => (3, 0, 33), fun _ => (0, 0, 0), fun _ => (0, 0, 0), fun _ => (0, 0, 0), fun _ => (0, 0, 0), fun _ => (0, 0, 0), fun _ => (0, 0, 0), fun _ => (0, 0, 0), fun _ => (3, 0, 34), fun _ => (3, 0, 35), fun _ => (3, 0, 36), fun _ => (3, 0, 37), fun _ => (3, 0, 38), fun _ => (3, 0, 39), fun _ => (3, 0, 40), fun _ => (3, 0, 41), fun _ => (3, 0, 42), fun _ => (3, 0, 43), fun _ => (3, 0, 44), fun _ => (0, 0, 0), fun _ => (0, 0, 0)],
   [],
   [],
   [],
   [],
   [],
   [],
   [],
   [],
   [],
   [],
   [],
   [],
   [],
   [],
   [],
   [],
   [],
   [],
   [],
   [],
   [],
   [],
   [],
   [],
   [],
   [],
   [],
   [],
   [],
   [],
   [],
   [],
   [],
   [],
   [],
   [],
   [],
   [],
   [],
   [],
   [],
   [],
   [],
   []]]
/-- what a reference in a field points to, once the object is made -/
def am_pt (c : am_C) (j : Nat) : am_C := (((am_ptT.getD c.1 []).getD c.2.2 []).getD j (fun _ => (0, 0, 0))) c.2.1
end
section
/-! ===== the judgement jg: a method of the class or of the reference, at a place of its code, over the cells; no new cell is made ===== -/
def am_v (q : am_C → Nat) (v : am_V) : Value := match v with
  | .inl x => .int x
  | .inr (.inl x) => .long x
  | .inr (.inr c) => .ref (q c)
def am_f (q : am_C → Nat) (M : am_I) (N : am_N) (c : am_C) (j t : Nat) : Value := match t with
  | 0 => .int (M c j)
  | 1 => .long (N c j)
  | _ => .ref (q (am_pt c j))
def am_fs (q : am_C → Nat) (M : am_I) (N : am_N) (c : am_C) (ts : List Nat) : List Value := (List.range ts.length).map (fun j => am_f q M N c j (ts.getD j 0))
def am_e (q : am_C → Nat) (cA : Nat → ClassId) (M : am_I) (N : am_N) (c : am_C) : va_E := match am_ly c with
  | (0, n) => .inl (cA 0, n, .inl (M c))
  | (1, n) => .inl (cA 1, n, .inr (.inl (N c)))
  | (2, n) => .inl (cA 2, n, .inl (M c))
  | (3, n) => .inl (cA 3, n, .inl (M c))
  | (_, ci) => .inr (ci, am_fs q M N c (am_ft ci))
def am_w (q : am_C → Nat) (cA : Nat → ClassId) (dm : List am_C) (M : am_I) (N : am_N) : va_W := dm.map (fun c => (q c, am_e q cA M N c))
def am_s {α : Type} (M : am_C → Nat → α) (c : am_C) (f : Nat → α) : am_C → Nat → α := fun c' => if c' = c then f else M c'
def am_u (M : am_I) (c : am_C) (k : Nat) (x : Int32) : am_I := am_s M c (upd (M c) k x)
def am_ul (N : am_N) (c : am_C) (k : Nat) (x : Int64) : am_N := am_s N c (vp_updL (N c) k x)
theorem am_s_same {α : Type} (M : am_C → Nat → α) (c : am_C) (f : Nat → α) : am_s M c f c = f := by simp [am_s]
theorem am_s_other {α : Type} (M : am_C → Nat → α) {c c' : am_C} (f : Nat → α) (h : c' ≠ c) : am_s M c f c' = M c' := by simp [am_s, h]
theorem am_w_at {q : am_C → Nat} {cA : Nat → ClassId} {dm : List am_C} {M : am_I} {N : am_N} {k0 : Nat} {c : am_C} (h : dm[k0]? = some c) : (am_w q cA dm M N)[k0]? = some (q c, am_e q cA M N c) := by
  simp [am_w, h]
theorem am_e_congr {q : am_C → Nat} {cA : Nat → ClassId} {M M' : am_I} {N N' : am_N} {c : am_C} (h1 : M c = M' c) (h2 : N c = N' c) : am_e q cA M N c = am_e q cA M' N' c := by
  have e : ∀ ts, am_fs q M N c ts = am_fs q M' N' c ts := by
    intro ts
    unfold am_fs
    refine List.map_congr_left fun j _ => ?_
    unfold am_f
    split
    · rw [h1]
    · rw [h2]
    · rfl
  unfold am_e
  split
  · rw [h1]
  · rw [h2]
  · rw [h1]
  · rw [h1]
  · rw [e]
theorem am_w_set {q : am_C → Nat} {cA : Nat → ClassId} {dm : List am_C} {M M' : am_I} {N N' : am_N} {A : Nat → Prop} {k0 : Nat} {c : am_C} (hD : va_D A (am_w q cA dm M N)) (h : dm[k0]? = some c) (hM : ∀ c', c' ≠ c → M' c' = M c') (hN : ∀ c', c' ≠ c → N' c' = N c') :
    (am_w q cA dm M N).set k0 (q c, am_e q cA M' N' c) = am_w q cA dm M' N' := by
  apply List.ext_getElem?
  intro i
  by_cases hi : i = k0
  · subst hi
    have hl : i < (am_w q cA dm M N).length := (List.getElem?_eq_some_iff.mp (am_w_at h)).1
    rw [List.getElem?_set_self hl, am_w_at h]
  · rw [List.getElem?_set_ne (Ne.symm hi)]
    cases hc : dm[i]? with
    | none => simp [am_w, hc]
    | some c' =>
      rw [am_w_at hc, am_w_at hc]
      have hne : c' ≠ c := by
        intro z
        subst z
        exact hi (hD.1 i k0 _ _ (am_w_at hc) (am_w_at h) rfl)
      rw [am_e_congr (hM c' hne).symm (hN c' hne).symm]
theorem am_e_i {q : am_C → Nat} {cA : Nat → ClassId} {M : am_I} {N : am_N} {c : am_C} {n : Nat} (h : am_ly c = (0, n)) : am_e q cA M N c = .inl (cA 0, n, .inl (M c)) := by unfold am_e; rw [h]; rfl
theorem am_e_l {q : am_C → Nat} {cA : Nat → ClassId} {M : am_I} {N : am_N} {c : am_C} {n : Nat} (h : am_ly c = (1, n)) : am_e q cA M N c = .inl (cA 1, n, .inr (.inl (N c))) := by unfold am_e; rw [h]; rfl
theorem am_e_b {q : am_C → Nat} {cA : Nat → ClassId} {M : am_I} {N : am_N} {c : am_C} {n : Nat} (h : am_ly c = (2, n)) : am_e q cA M N c = .inl (cA 2, n, .inl (M c)) := by unfold am_e; rw [h]; rfl
theorem am_e_z {q : am_C → Nat} {cA : Nat → ClassId} {M : am_I} {N : am_N} {c : am_C} {n : Nat} (h : am_ly c = (3, n)) : am_e q cA M N c = .inl (cA 3, n, .inl (M c)) := by unfold am_e; rw [h]; rfl
theorem am_e_o {q : am_C → Nat} {cA : Nat → ClassId} {M : am_I} {N : am_N} {c : am_C} {ci : Nat} (h : am_ly c = (4, ci)) : am_e q cA M N c = .inr (ci, am_fs q M N c (am_ft ci)) := by unfold am_e; rw [h]; rfl
theorem am_fs_at {q : am_C → Nat} {M : am_I} {N : am_N} {c : am_C} {ts : List Nat} {k t : Nat} (h : ts[k]? = some t) : (am_fs q M N c ts)[k]? = some (am_f q M N c k t) := by
  have hl := (List.getElem?_eq_some_iff.mp h).1
  have h2 := (List.getElem?_eq_some_iff.mp h).2
  simp [am_fs, hl, List.getD_eq_getElem?_getD, h2]
theorem am_fs_len {q : am_C → Nat} {M : am_I} {N : am_N} {c : am_C} {ts : List Nat} : (am_fs q M N c ts).length = ts.length := by simp [am_fs]
theorem am_fs_set {q : am_C → Nat} {M M' : am_I} {N N' : am_N} {c : am_C} {ts : List Nat} {k t : Nat} (h : ts[k]? = some t) (hM : ∀ j, j ≠ k → M' c j = M c j) (hN : ∀ j, j ≠ k → N' c j = N c j) :
    (am_fs q M N c ts).set k (am_f q M' N' c k t) = am_fs q M' N' c ts := by
  apply List.ext_getElem?
  intro i
  by_cases hi : i = k
  · subst hi
    have hl : i < (am_fs q M N c ts).length := (List.getElem?_eq_some_iff.mp (am_fs_at h)).1
    rw [List.getElem?_set_self hl, am_fs_at h]
  · rw [List.getElem?_set_ne (Ne.symm hi)]
    cases hc : ts[i]? with
    | none =>
      have h1 : ts.length ≤ i := List.getElem?_eq_none_iff.mp hc
      rw [List.getElem?_eq_none (by rw [am_fs_len]; exact h1), List.getElem?_eq_none (by rw [am_fs_len]; exact h1)]
    | some t' =>
      rw [am_fs_at hc, am_fs_at hc]
      unfold am_f
      split
      · rw [hM i hi]
      · rw [hN i hi]
      · rfl
def am_tys (cA : Nat → ClassId) : List (ClassId × FieldType) := [(cA 0, .int), (cA 1, .long), (cA 2, .byte), (cA 3, .boolean)]
def am_s0 : String := ";+-*/()[]<>="
def am_s1 : String := "take look leave give if or and not weed wet press looks size ill rain given "
def am_slen : List Nat := [12, 76]
def am_sbyt : List (List Int32) := [[59, 43, 45, 42, 47, 40, 41, 91, 93, 60, 62, 61], [116, 97, 107, 101, 32, 108, 111, 111, 107, 32, 108, 101, 97, 118, 101, 32, 103, 105, 118, 101, 32, 105, 102, 32, 111, 114, 32, 97, 110, 100, 32, 110, 111, 116, 32, 119, 101, 101, 100, 32, 119, 101, 116, 32, 112, 114, 101, 115, 115, 32, 108, 111, 111, 107, 115, 32, 115, 105, 122, 101, 32, 105, 108, 108, 32, 114, 97, 105, 110, 32, 103, 105, 118, 101, 110, 32]]
/-- the tables' words that stay as they are; those on nest mates' members -/
def am_tb : List Cond := lw_tbl.filter goodWord
def am_isN (w : Cond) : Bool := match w with
  | .methodLinkNest .. => true
  | .fieldLinkNest .. => true
  | _ => false
def am_nst : List Cond := lw_tbl.filter am_isN
def am_nk (s : State) : Prop := ∀ w ∈ am_nst, va_Nw w s
theorem am_nk_warm {s U : State} (hW : s.WarmedH U.vm) (h : am_nk s) : am_nk U := by
  intro w hw
  have h1 := h w hw
  have h2 := (List.mem_filter.mp hw).2
  cases w <;> first | exact va_Nw.warmF hW h1 | exact va_Nw.warmM hW h1 | (simp [am_isN] at h2)
theorem am_nk_same {s U : State} (hv : s.vm = U.vm) (h : am_nk s) : am_nk U := by
  intro w hw
  have h1 := h w hw
  have h2 := (List.mem_filter.mp hw).2
  cases w <;> first | (simp [am_isN] at h2; done) | exact va_Nw.same rfl hv h1
theorem am_in {w : Cond} (i : Nat) (h : lw_tbl[i]? = some w) (hg : goodWord w = true) : w ∈ am_tb := List.mem_filter.mpr ⟨List.mem_of_getElem? h, hg⟩
theorem am_inN {w : Cond} (i : Nat) (h : lw_tbl[i]? = some w) (hg : am_isN w = true) : w ∈ am_nst := List.mem_filter.mpr ⟨List.mem_of_getElem? h, hg⟩
def am_sK (sk : (Nat → Nat) × (Nat → Nat)) (A : Nat → Prop) (s : State) (H : Heap) : Prop := vk_S 2 am_slen am_sbyt sk.1 sk.2 A s H ∧ vk_R RX7 73 am_s0 (sk.1 0) s ∧ vk_R RX7 86 am_s1 (sk.1 1) s ∧ am_nk s
/-- what holds while a method runs -/
def am_X (d : Nat) (μ : am_Y) (D : va_G) (cA : Nat → ClassId) (A : Nat → Prop) (sk : (Nat → Nat) × (Nat → Nat)) (p : Program) (R : Room) (s : State) (m : MethodId) (args : Array Value) (c : Code) (cells slots : Nat) : Prop :=
  p.tables.exec = Jvm.exec ∧ c.code = μ.2.1 ∧ c.maxLocals = μ.2.2.1 ∧ s.vm.findClass μ.1.cls = some m.cls ∧ (∀ w ∈ am_tb, w.before args s = true) ∧ va_K D am_cl (am_tys cA) s ∧ (∀ q, s.heap.size ≤ q → A q) ∧ d ≤ R.frames ∧ 60 * d ≤ R.locals ∧ cells ≤ R.cells ∧ slots ≤ R.slots ∧ am_sK sk A s s.heap
/-- the cells as they are in the heap -/
def am_at (D : va_G) (q : am_C → Nat) (cA : Nat → ClassId) (A : Nat → Prop) (dm : List am_C) (M : am_I) (N : am_N) (s : State) (H : Heap) (locs : List Loc) : Prop :=
  va_P D am_cl (am_w q cA dm M N) H ∧ va_D A (am_w q cA dm M N) ∧ va_S A s.heap H locs
/-- an instruction that returns v -/
def am_rt (cc : ByteArray) (ret : Option FieldType) (pc : Nat) (v : Option am_V) : Prop := match v with
  | none => decode cc pc = .ok (.return_, 1) ∧ ret = none
  | some (.inl x) => decode cc pc = .ok (.ireturn, 1) ∧ ∃ ty, ret = some ty ∧ narrow ty (.int x) = .int x
  | some (.inr (.inl _)) => decode cc pc = .ok (.lreturn, 1) ∧ ret = some .long
  | some (.inr (.inr _)) => False
def am_lc (q : am_C → Nat) (lv : List (Nat × am_V)) : List (Nat × Value) := lv.map (fun e => (e.1, am_v q e.2))
/-- from here on the method comes to its end, with an answer and cells of which 'post' holds -/
def jg (d : Nat) (μ : am_Y) (dm : List am_C) (pc : Nat) (lv : List (Nat × am_V)) (st : List am_V) (M : am_I) (N : am_N) (post : Option am_V → am_I → am_N → Prop) : Prop :=
  ∀ (D : va_G) (q : am_C → Nat) (cA : Nat → ClassId) (A : Nat → Prop) (sk : (Nat → Nat) × (Nat → Nat)) (p : Program) (l : Launch) (e : Env) (R : Room) (s : State) (m : MethodId) (args : Array Value) (below : List Frame) (meth : Method) (c : Code) (Q : State → Prop) (H : Heap) (locs : List Loc) (cells slots : Nat) (ls : Array Slot),
    am_X d μ D cA A sk p R s m args c cells slots →
    (∀ (H' : Heap) (locs' : List Loc) (pc' : Nat) (ls' : Array Slot) (v : Option am_V) (M' : am_I) (N' : am_N), am_at D q cA A dm M' N' s H' locs' → post v M' N' → am_rt μ.2.1 μ.2.2.2 pc' v → W p l e R s m args below meth c H' locs' cells slots Q (F0 m pc' ls' ((v.map (am_v q)).toList))) →
    am_at D q cA A dm M N s H locs → lv_has ls μ.2.2.1 (am_lc q lv) → W p l e R s m args below meth c H locs cells slots Q (F0 m pc ls (st.map (am_v q)))
end
section
/-! ===== the rules of jg, an instruction each ===== -/
def am_cat (v : am_V) : Nat := match v with
  | .inr (.inl _) => 2
  | _ => 1
theorem am_cat_v (q : am_C → Nat) (v : am_V) : (am_v q v).category = am_cat v := by
  rcases v with x | x | x <;> rfl
def am_rem (x y : Int32) : Int32 := x - x / y * y
def am_reml (x y : Int64) : Int64 := x - x / y * y
def am_st1 (lv : List (Nat × am_V)) (i : Nat) (v : am_V) : List (Nat × am_V) := (i, v) :: lv.filter (fun q => !(q.1 == i) && !(q.1 + 1 == i && am_cat q.2 == 2))
def am_st2 (lv : List (Nat × am_V)) (i : Nat) (v : am_V) : List (Nat × am_V) := (i, v) :: lv.filter (fun q => !(q.1 == i) && (!(q.1 == i + 1) && !(q.1 + 1 == i && am_cat q.2 == 2)))
theorem am_lc_st1 (q : am_C → Nat) (lv : List (Nat × am_V)) (i : Nat) (v : am_V) : (i, am_v q v) :: (am_lc q lv).filter (fun z => !(z.1 == i) && !(z.1 + 1 == i && z.2.category == 2)) = am_lc q (am_st1 lv i v) := by
  simp only [am_lc, am_st1, List.map_cons, List.filter_map, Function.comp_def, am_cat_v]
theorem am_lc_st2 (q : am_C → Nat) (lv : List (Nat × am_V)) (i : Nat) (v : am_V) : (i, am_v q v) :: (am_lc q lv).filter (fun z => !(z.1 == i) && (!(z.1 == i + 1) && !(z.1 + 1 == i && z.2.category == 2))) = am_lc q (am_st2 lv i v) := by
  simp only [am_lc, am_st2, List.map_cons, List.filter_map, Function.comp_def, am_cat_v]
theorem am_lc_at {q : am_C → Nat} {lv : List (Nat × am_V)} {k i : Nat} {v : am_V} (h : lv[k]? = some (i, v)) : (am_lc q lv)[k]? = some (i, am_v q v) := by simp [am_lc, h]
def am_lp (lv : List (Nat × am_V)) (ks : List Nat) : List (Nat × am_V) := ks.filterMap (fun k => lv[k]?)
theorem am_lc_sub {q : am_C → Nat} {lv lv' : List (Nat × am_V)} {ls : Array Slot} {nL : Nat} (ks : List Nat) (h : am_lp lv ks = lv') (hl : lv_has ls nL (am_lc q lv)) : lv_has ls nL (am_lc q lv') := by
  refine lv_sub hl ks ?_
  subst h
  simp [lv_pick, am_lp, am_lc, List.map_filterMap]

section JR
variable {d : Nat} {μ : am_Y} {dm : List am_C} {pc : Nat} {lv : List (Nat × am_V)} {st : List am_V} {M : am_I} {N : am_N} {post : Option am_V → am_I → am_N → Prop}
theorem j_iadd {x y : Int32} (hd : decode μ.2.1 pc = .ok (.iadd, 1)) (kk : jg d μ dm (pc + 1) lv (.inl (x + y) :: st) M N post) : jg d μ dm pc lv (.inl y :: .inl x :: st) M N post :=
  fun D q cA A sk p l e R s m args below meth c Q H locs cells slots ls hX hr ha hl => lv_iadd hX.1 hX.2.1 hd (kk D q cA A sk p l e R s m args below meth c Q H locs cells slots ls hX hr ha hl)
theorem j_isub {x y : Int32} (hd : decode μ.2.1 pc = .ok (.isub, 1)) (kk : jg d μ dm (pc + 1) lv (.inl (x - y) :: st) M N post) : jg d μ dm pc lv (.inl y :: .inl x :: st) M N post :=
  fun D q cA A sk p l e R s m args below meth c Q H locs cells slots ls hX hr ha hl => lv_isub hX.1 hX.2.1 hd (kk D q cA A sk p l e R s m args below meth c Q H locs cells slots ls hX hr ha hl)
theorem j_imul {x y : Int32} (hd : decode μ.2.1 pc = .ok (.imul, 1)) (kk : jg d μ dm (pc + 1) lv (.inl (x * y) :: st) M N post) : jg d μ dm pc lv (.inl y :: .inl x :: st) M N post :=
  fun D q cA A sk p l e R s m args below meth c Q H locs cells slots ls hX hr ha hl => lv_imul hX.1 hX.2.1 hd (kk D q cA A sk p l e R s m args below meth c Q H locs cells slots ls hX hr ha hl)
theorem j_iand {x y : Int32} (hd : decode μ.2.1 pc = .ok (.iand, 1)) (kk : jg d μ dm (pc + 1) lv (.inl (x &&& y) :: st) M N post) : jg d μ dm pc lv (.inl y :: .inl x :: st) M N post :=
  fun D q cA A sk p l e R s m args below meth c Q H locs cells slots ls hX hr ha hl => lv_iand hX.1 hX.2.1 hd (kk D q cA A sk p l e R s m args below meth c Q H locs cells slots ls hX hr ha hl)
theorem j_ior {x y : Int32} (hd : decode μ.2.1 pc = .ok (.ior, 1)) (kk : jg d μ dm (pc + 1) lv (.inl (x ||| y) :: st) M N post) : jg d μ dm pc lv (.inl y :: .inl x :: st) M N post :=
  fun D q cA A sk p l e R s m args below meth c Q H locs cells slots ls hX hr ha hl => lv_ior hX.1 hX.2.1 hd (kk D q cA A sk p l e R s m args below meth c Q H locs cells slots ls hX hr ha hl)
theorem j_ixor {x y : Int32} (hd : decode μ.2.1 pc = .ok (.ixor, 1)) (kk : jg d μ dm (pc + 1) lv (.inl (x ^^^ y) :: st) M N post) : jg d μ dm pc lv (.inl y :: .inl x :: st) M N post :=
  fun D q cA A sk p l e R s m args below meth c Q H locs cells slots ls hX hr ha hl => lv_ixor hX.1 hX.2.1 hd (kk D q cA A sk p l e R s m args below meth c Q H locs cells slots ls hX hr ha hl)
theorem j_ishl {x y : Int32} (hd : decode μ.2.1 pc = .ok (.ishl, 1)) (kk : jg d μ dm (pc + 1) lv (.inl (x <<< (y &&& 31)) :: st) M N post) : jg d μ dm pc lv (.inl y :: .inl x :: st) M N post :=
  fun D q cA A sk p l e R s m args below meth c Q H locs cells slots ls hX hr ha hl => lv_ishl hX.1 hX.2.1 hd (kk D q cA A sk p l e R s m args below meth c Q H locs cells slots ls hX hr ha hl)
theorem j_ishr {x y : Int32} (hd : decode μ.2.1 pc = .ok (.ishr, 1)) (kk : jg d μ dm (pc + 1) lv (.inl (x >>> (y &&& 31)) :: st) M N post) : jg d μ dm pc lv (.inl y :: .inl x :: st) M N post :=
  fun D q cA A sk p l e R s m args below meth c Q H locs cells slots ls hX hr ha hl => lv_ishr hX.1 hX.2.1 hd (kk D q cA A sk p l e R s m args below meth c Q H locs cells slots ls hX hr ha hl)
theorem j_idiv {x y : Int32} (hd : decode μ.2.1 pc = .ok (.idiv, 1)) (hne : ¬ y = 0) (kk : jg d μ dm (pc + 1) lv (.inl (x / y) :: st) M N post) : jg d μ dm pc lv (.inl y :: .inl x :: st) M N post :=
  fun D q cA A sk p l e R s m args below meth c Q H locs cells slots ls hX hr ha hl => lv_idiv hX.1 hX.2.1 hd hne (kk D q cA A sk p l e R s m args below meth c Q H locs cells slots ls hX hr ha hl)
theorem j_irem {x y : Int32} (hd : decode μ.2.1 pc = .ok (.irem, 1)) (hne : ¬ y = 0) (kk : jg d μ dm (pc + 1) lv (.inl (am_rem x y) :: st) M N post) : jg d μ dm pc lv (.inl y :: .inl x :: st) M N post :=
  fun D q cA A sk p l e R s m args below meth c Q H locs cells slots ls hX hr ha hl => lv_irem hX.1 hX.2.1 hd hne (kk D q cA A sk p l e R s m args below meth c Q H locs cells slots ls hX hr ha hl)
theorem j_ineg {x : Int32} (hd : decode μ.2.1 pc = .ok (.ineg, 1)) (kk : jg d μ dm (pc + 1) lv (.inl (-x) :: st) M N post) : jg d μ dm pc lv (.inl x :: st) M N post :=
  fun D q cA A sk p l e R s m args below meth c Q H locs cells slots ls hX hr ha hl => lv_ineg hX.1 hX.2.1 hd (kk D q cA A sk p l e R s m args below meth c Q H locs cells slots ls hX hr ha hl)
theorem j_iushr {x y : Int32} (hd : decode μ.2.1 pc = .ok (.iushr, 1)) (kk : jg d μ dm (pc + 1) lv (.inl (x.toUInt32 >>> (y.toUInt32 &&& Int32.toUInt32 31)).toInt32 :: st) M N post) : jg d μ dm pc lv (.inl y :: .inl x :: st) M N post :=
  fun D q cA A sk p l e R s m args below meth c Q H locs cells slots ls hX hr ha hl => lv_iushr hX.1 hX.2.1 hd rfl (kk D q cA A sk p l e R s m args below meth c Q H locs cells slots ls hX hr ha hl)
theorem j_ladd {x y : Int64} (hd : decode μ.2.1 pc = .ok (.ladd, 1)) (kk : jg d μ dm (pc + 1) lv (.inr (.inl (x + y)) :: st) M N post) : jg d μ dm pc lv (.inr (.inl y) :: .inr (.inl x) :: st) M N post :=
  fun D q cA A sk p l e R s m args below meth c Q H locs cells slots ls hX hr ha hl => lv_ladd hX.1 hX.2.1 hd (kk D q cA A sk p l e R s m args below meth c Q H locs cells slots ls hX hr ha hl)
theorem j_lsub {x y : Int64} (hd : decode μ.2.1 pc = .ok (.lsub, 1)) (kk : jg d μ dm (pc + 1) lv (.inr (.inl (x - y)) :: st) M N post) : jg d μ dm pc lv (.inr (.inl y) :: .inr (.inl x) :: st) M N post :=
  fun D q cA A sk p l e R s m args below meth c Q H locs cells slots ls hX hr ha hl => lv_lsub hX.1 hX.2.1 hd (kk D q cA A sk p l e R s m args below meth c Q H locs cells slots ls hX hr ha hl)
theorem j_lmul {x y : Int64} (hd : decode μ.2.1 pc = .ok (.lmul, 1)) (kk : jg d μ dm (pc + 1) lv (.inr (.inl (x * y)) :: st) M N post) : jg d μ dm pc lv (.inr (.inl y) :: .inr (.inl x) :: st) M N post :=
  fun D q cA A sk p l e R s m args below meth c Q H locs cells slots ls hX hr ha hl => lv_lmul hX.1 hX.2.1 hd (kk D q cA A sk p l e R s m args below meth c Q H locs cells slots ls hX hr ha hl)
theorem j_land {x y : Int64} (hd : decode μ.2.1 pc = .ok (.land, 1)) (kk : jg d μ dm (pc + 1) lv (.inr (.inl (x &&& y)) :: st) M N post) : jg d μ dm pc lv (.inr (.inl y) :: .inr (.inl x) :: st) M N post :=
  fun D q cA A sk p l e R s m args below meth c Q H locs cells slots ls hX hr ha hl => lv_land hX.1 hX.2.1 hd (kk D q cA A sk p l e R s m args below meth c Q H locs cells slots ls hX hr ha hl)
theorem j_lor {x y : Int64} (hd : decode μ.2.1 pc = .ok (.lor, 1)) (kk : jg d μ dm (pc + 1) lv (.inr (.inl (x ||| y)) :: st) M N post) : jg d μ dm pc lv (.inr (.inl y) :: .inr (.inl x) :: st) M N post :=
  fun D q cA A sk p l e R s m args below meth c Q H locs cells slots ls hX hr ha hl => lv_lor hX.1 hX.2.1 hd (kk D q cA A sk p l e R s m args below meth c Q H locs cells slots ls hX hr ha hl)
theorem j_lxor {x y : Int64} (hd : decode μ.2.1 pc = .ok (.lxor, 1)) (kk : jg d μ dm (pc + 1) lv (.inr (.inl (x ^^^ y)) :: st) M N post) : jg d μ dm pc lv (.inr (.inl y) :: .inr (.inl x) :: st) M N post :=
  fun D q cA A sk p l e R s m args below meth c Q H locs cells slots ls hX hr ha hl => lv_lxor hX.1 hX.2.1 hd (kk D q cA A sk p l e R s m args below meth c Q H locs cells slots ls hX hr ha hl)
theorem j_ldiv {x y : Int64} (hd : decode μ.2.1 pc = .ok (.ldiv, 1)) (hne : ¬ y = 0) (kk : jg d μ dm (pc + 1) lv (.inr (.inl (x / y)) :: st) M N post) : jg d μ dm pc lv (.inr (.inl y) :: .inr (.inl x) :: st) M N post :=
  fun D q cA A sk p l e R s m args below meth c Q H locs cells slots ls hX hr ha hl => lv_ldiv hX.1 hX.2.1 hd hne (kk D q cA A sk p l e R s m args below meth c Q H locs cells slots ls hX hr ha hl)
theorem j_lrem {x y : Int64} (hd : decode μ.2.1 pc = .ok (.lrem, 1)) (hne : ¬ y = 0) (kk : jg d μ dm (pc + 1) lv (.inr (.inl (am_reml x y)) :: st) M N post) : jg d μ dm pc lv (.inr (.inl y) :: .inr (.inl x) :: st) M N post :=
  fun D q cA A sk p l e R s m args below meth c Q H locs cells slots ls hX hr ha hl => lv_lrem hX.1 hX.2.1 hd hne (kk D q cA A sk p l e R s m args below meth c Q H locs cells slots ls hX hr ha hl)
theorem j_lshl {x : Int64} {y : Int32} (hd : decode μ.2.1 pc = .ok (.lshl, 1)) (kk : jg d μ dm (pc + 1) lv (.inr (.inl (x <<< (y.toInt64 &&& 63))) :: st) M N post) : jg d μ dm pc lv (.inl y :: .inr (.inl x) :: st) M N post :=
  fun D q cA A sk p l e R s m args below meth c Q H locs cells slots ls hX hr ha hl => lv_lshl hX.1 hX.2.1 hd rfl (kk D q cA A sk p l e R s m args below meth c Q H locs cells slots ls hX hr ha hl)
theorem j_lushr {x : Int64} {y : Int32} (hd : decode μ.2.1 pc = .ok (.lushr, 1)) (kk : jg d μ dm (pc + 1) lv (.inr (.inl (x.toUInt64 >>> (y.toInt64.toUInt64 &&& Int64.toUInt64 63)).toInt64) :: st) M N post) : jg d μ dm pc lv (.inl y :: .inr (.inl x) :: st) M N post :=
  fun D q cA A sk p l e R s m args below meth c Q H locs cells slots ls hX hr ha hl => lv_lushr hX.1 hX.2.1 hd rfl (kk D q cA A sk p l e R s m args below meth c Q H locs cells slots ls hX hr ha hl)
theorem j_i2l {x : Int32} (hd : decode μ.2.1 pc = .ok (.i2l, 1)) (kk : jg d μ dm (pc + 1) lv (.inr (.inl x.toInt64) :: st) M N post) : jg d μ dm pc lv (.inl x :: st) M N post :=
  fun D q cA A sk p l e R s m args below meth c Q H locs cells slots ls hX hr ha hl => lv_i2l hX.1 hX.2.1 hd rfl (kk D q cA A sk p l e R s m args below meth c Q H locs cells slots ls hX hr ha hl)
theorem j_l2i {x : Int64} (hd : decode μ.2.1 pc = .ok (.l2i, 1)) (kk : jg d μ dm (pc + 1) lv (.inl x.toInt32 :: st) M N post) : jg d μ dm pc lv (.inr (.inl x) :: st) M N post :=
  fun D q cA A sk p l e R s m args below meth c Q H locs cells slots ls hX hr ha hl => lv_l2i hX.1 hX.2.1 hd rfl (kk D q cA A sk p l e R s m args below meth c Q H locs cells slots ls hX hr ha hl)
theorem j_i2b {x : Int32} (hd : decode μ.2.1 pc = .ok (.i2b, 1)) (kk : jg d μ dm (pc + 1) lv (.inl x.toInt8.toInt32 :: st) M N post) : jg d μ dm pc lv (.inl x :: st) M N post :=
  fun D q cA A sk p l e R s m args below meth c Q H locs cells slots ls hX hr ha hl => lv_i2b hX.1 hX.2.1 hd rfl (kk D q cA A sk p l e R s m args below meth c Q H locs cells slots ls hX hr ha hl)
theorem j_i2c {x : Int32} (hd : decode μ.2.1 pc = .ok (.i2c, 1)) (kk : jg d μ dm (pc + 1) lv (.inl (x.toUInt32 % 65536).toInt32 :: st) M N post) : jg d μ dm pc lv (.inl x :: st) M N post :=
  fun D q cA A sk p l e R s m args below meth c Q H locs cells slots ls hX hr ha hl => lv_i2c hX.1 hX.2.1 hd rfl (kk D q cA A sk p l e R s m args below meth c Q H locs cells slots ls hX hr ha hl)
theorem j_iconst {n : Int} {v : Int32} (hd : decode μ.2.1 pc = .ok (.iconst n, 1)) (hv : Int32.ofInt n = v) (kk : jg d μ dm (pc + 1) lv (.inl v :: st) M N post) : jg d μ dm pc lv st M N post :=
  fun D q cA A sk p l e R s m args below meth c Q H locs cells slots ls hX hr ha hl => lv_iconst hX.1 hX.2.1 hd hv (kk D q cA A sk p l e R s m args below meth c Q H locs cells slots ls hX hr ha hl)
theorem j_bipush {n : Int} {v : Int32} (hd : decode μ.2.1 pc = .ok (.bipush n, 2)) (hv : (Int8.ofInt n).toInt32 = v) (kk : jg d μ dm (pc + 2) lv (.inl v :: st) M N post) : jg d μ dm pc lv st M N post :=
  fun D q cA A sk p l e R s m args below meth c Q H locs cells slots ls hX hr ha hl => lv_bipush hX.1 hX.2.1 hd hv (kk D q cA A sk p l e R s m args below meth c Q H locs cells slots ls hX hr ha hl)
theorem j_sipush {n : Int} {v : Int32} (hd : decode μ.2.1 pc = .ok (.sipush n, 3)) (hv : (Int16.ofInt n).toInt32 = v) (kk : jg d μ dm (pc + 3) lv (.inl v :: st) M N post) : jg d μ dm pc lv st M N post :=
  fun D q cA A sk p l e R s m args below meth c Q H locs cells slots ls hX hr ha hl => lv_sipush hX.1 hX.2.1 hd hv (kk D q cA A sk p l e R s m args below meth c Q H locs cells slots ls hX hr ha hl)
theorem j_lconst {n : Fin 2} {v : Int64} (hd : decode μ.2.1 pc = .ok (.lconst n, 1)) (hv : Int64.ofNat (n : Nat) = v) (kk : jg d μ dm (pc + 1) lv (.inr (.inl v) :: st) M N post) : jg d μ dm pc lv st M N post :=
  fun D q cA A sk p l e R s m args below meth c Q H locs cells slots ls hX hr ha hl => lv_lconst hX.1 hX.2.1 hd hv (kk D q cA A sk p l e R s m args below meth c Q H locs cells slots ls hX hr ha hl)
theorem j_ldc {n : Nat} {v : Int32} (hd : decode μ.2.1 pc = .ok (.ldc n, 2)) (hv : Jvm.Cond.constant μ.1.cls n v ∈ am_tb) (kk : jg d μ dm (pc + 2) lv (.inl v :: st) M N post) : jg d μ dm pc lv st M N post :=
  fun D q cA A sk p l e R s m args below meth c Q H locs cells slots ls hX hr ha hl => lv_ldc hX.1 hX.2.1 hX.2.2.2.1 (hX.2.2.2.2.1 _ hv) hd (kk D q cA A sk p l e R s m args below meth c Q H locs cells slots ls hX hr ha hl)
theorem j_ldcw {n : Nat} {v : Int32} (hd : decode μ.2.1 pc = .ok (.ldc_w n, 3)) (hv : Jvm.Cond.constant μ.1.cls n v ∈ am_tb) (kk : jg d μ dm (pc + 3) lv (.inl v :: st) M N post) : jg d μ dm pc lv st M N post :=
  fun D q cA A sk p l e R s m args below meth c Q H locs cells slots ls hX hr ha hl => lv_ldcw hX.1 hX.2.1 hX.2.2.2.1 (hX.2.2.2.2.1 _ hv) hd (kk D q cA A sk p l e R s m args below meth c Q H locs cells slots ls hX hr ha hl)
theorem j_ldc2 {n : Nat} {v : Int64} (hd : decode μ.2.1 pc = .ok (.ldc2_w n, 3)) (hv : Jvm.Cond.constantLong μ.1.cls n v ∈ am_tb) (kk : jg d μ dm (pc + 3) lv (.inr (.inl v) :: st) M N post) : jg d μ dm pc lv st M N post :=
  fun D q cA A sk p l e R s m args below meth c Q H locs cells slots ls hX hr ha hl => lv_ldc2 hX.1 hX.2.1 hX.2.2.2.1 (hX.2.2.2.2.1 _ hv) hd (kk D q cA A sk p l e R s m args below meth c Q H locs cells slots ls hX hr ha hl)
theorem j_iload_n (k : Nat) {n : Fin 4} {x : Int32} (hd : decode μ.2.1 pc = .ok (.iload_n n, 1)) (hk : lv[k]? = some ((n : Nat), .inl x)) (kk : jg d μ dm (pc + 1) lv (.inl x :: st) M N post) : jg d μ dm pc lv st M N post :=
  fun D q cA A sk p l e R s m args below meth c Q H locs cells slots ls hX hr ha hl => lv_iload_n hX.1 hX.2.1 hd rfl (lv_at hl k (am_lc_at hk)) (kk D q cA A sk p l e R s m args below meth c Q H locs cells slots ls hX hr ha hl)
theorem j_iload (k : Nat) {i : Nat} {x : Int32} (hd : decode μ.2.1 pc = .ok (.iload i, 2)) (hk : lv[k]? = some (i, .inl x)) (kk : jg d μ dm (pc + 2) lv (.inl x :: st) M N post) : jg d μ dm pc lv st M N post :=
  fun D q cA A sk p l e R s m args below meth c Q H locs cells slots ls hX hr ha hl => lv_iload hX.1 hX.2.1 hd (lv_at hl k (am_lc_at hk)) (kk D q cA A sk p l e R s m args below meth c Q H locs cells slots ls hX hr ha hl)
theorem j_lload_n (k : Nat) {n : Fin 4} {x : Int64} (hd : decode μ.2.1 pc = .ok (.lload_n n, 1)) (hk : lv[k]? = some ((n : Nat), .inr (.inl x))) (kk : jg d μ dm (pc + 1) lv (.inr (.inl x) :: st) M N post) : jg d μ dm pc lv st M N post :=
  fun D q cA A sk p l e R s m args below meth c Q H locs cells slots ls hX hr ha hl => lv_lload_n hX.1 hX.2.1 hd rfl (lv_at hl k (am_lc_at hk)) (kk D q cA A sk p l e R s m args below meth c Q H locs cells slots ls hX hr ha hl)
theorem j_lload (k : Nat) {i : Nat} {x : Int64} (hd : decode μ.2.1 pc = .ok (.lload i, 2)) (hk : lv[k]? = some (i, .inr (.inl x))) (kk : jg d μ dm (pc + 2) lv (.inr (.inl x) :: st) M N post) : jg d μ dm pc lv st M N post :=
  fun D q cA A sk p l e R s m args below meth c Q H locs cells slots ls hX hr ha hl => lv_lload hX.1 hX.2.1 hd (lv_at hl k (am_lc_at hk)) (kk D q cA A sk p l e R s m args below meth c Q H locs cells slots ls hX hr ha hl)
theorem j_aload_n (k : Nat) {n : Fin 4} {x : am_C} (hd : decode μ.2.1 pc = .ok (.aload_n n, 1)) (hk : lv[k]? = some ((n : Nat), .inr (.inr x))) (kk : jg d μ dm (pc + 1) lv (.inr (.inr x) :: st) M N post) : jg d μ dm pc lv st M N post :=
  fun D q cA A sk p l e R s m args below meth c Q H locs cells slots ls hX hr ha hl => lv_aload_n hX.1 hX.2.1 hd rfl (lv_at hl k (am_lc_at hk)) (kk D q cA A sk p l e R s m args below meth c Q H locs cells slots ls hX hr ha hl)
theorem j_aload (k : Nat) {i : Nat} {x : am_C} (hd : decode μ.2.1 pc = .ok (.aload i, 2)) (hk : lv[k]? = some (i, .inr (.inr x))) (kk : jg d μ dm (pc + 2) lv (.inr (.inr x) :: st) M N post) : jg d μ dm pc lv st M N post :=
  fun D q cA A sk p l e R s m args below meth c Q H locs cells slots ls hX hr ha hl => lv_aload hX.1 hX.2.1 hd (lv_at hl k (am_lc_at hk)) (kk D q cA A sk p l e R s m args below meth c Q H locs cells slots ls hX hr ha hl)
theorem j_istore_n {lv2 : List (Nat × am_V)} {n : Fin 4} {x : Int32} (hd : decode μ.2.1 pc = .ok (.istore_n n, 1)) (hn : (n : Nat) < μ.2.2.1) (hs : am_st1 lv (n : Nat) (.inl x) = lv2) (kk : jg d μ dm (pc + 1) lv2 st M N post) : jg d μ dm pc lv (.inl x :: st) M N post :=
  fun D q cA A sk p l e R s m args below meth c Q H locs cells slots ls hX hr ha hl => lv_istore_n hX.1 hX.2.1 hd rfl hl hn ((am_lc_st1 q lv (n : Nat) (.inl x)).trans (congrArg (am_lc q) hs)) (fun ls hl => kk D q cA A sk p l e R s m args below meth c Q H locs cells slots ls hX hr ha hl)
theorem j_istore {lv2 : List (Nat × am_V)} {i : Nat} {x : Int32} (hd : decode μ.2.1 pc = .ok (.istore i, 2)) (hn : i < μ.2.2.1) (hs : am_st1 lv i (.inl x) = lv2) (kk : jg d μ dm (pc + 2) lv2 st M N post) : jg d μ dm pc lv (.inl x :: st) M N post :=
  fun D q cA A sk p l e R s m args below meth c Q H locs cells slots ls hX hr ha hl => lv_istore hX.1 hX.2.1 hd hl hn ((am_lc_st1 q lv i (.inl x)).trans (congrArg (am_lc q) hs)) (fun ls hl => kk D q cA A sk p l e R s m args below meth c Q H locs cells slots ls hX hr ha hl)
theorem j_lstore_n {lv2 : List (Nat × am_V)} {n : Fin 4} {x : Int64} (hd : decode μ.2.1 pc = .ok (.lstore_n n, 1)) (hn : (n : Nat) + 1 < μ.2.2.1) (hs : am_st2 lv (n : Nat) (.inr (.inl x)) = lv2) (kk : jg d μ dm (pc + 1) lv2 st M N post) : jg d μ dm pc lv (.inr (.inl x) :: st) M N post :=
  fun D q cA A sk p l e R s m args below meth c Q H locs cells slots ls hX hr ha hl => lv_lstore_n hX.1 hX.2.1 hd rfl hl hn ((am_lc_st2 q lv (n : Nat) (.inr (.inl x))).trans (congrArg (am_lc q) hs)) (fun ls hl => kk D q cA A sk p l e R s m args below meth c Q H locs cells slots ls hX hr ha hl)
theorem j_lstore {lv2 : List (Nat × am_V)} {i : Nat} {x : Int64} (hd : decode μ.2.1 pc = .ok (.lstore i, 2)) (hn : i + 1 < μ.2.2.1) (hs : am_st2 lv i (.inr (.inl x)) = lv2) (kk : jg d μ dm (pc + 2) lv2 st M N post) : jg d μ dm pc lv (.inr (.inl x) :: st) M N post :=
  fun D q cA A sk p l e R s m args below meth c Q H locs cells slots ls hX hr ha hl => lv_lstore hX.1 hX.2.1 hd hl hn ((am_lc_st2 q lv i (.inr (.inl x))).trans (congrArg (am_lc q) hs)) (fun ls hl => kk D q cA A sk p l e R s m args below meth c Q H locs cells slots ls hX hr ha hl)
theorem j_astore_n {lv2 : List (Nat × am_V)} {n : Fin 4} {x : am_C} (hd : decode μ.2.1 pc = .ok (.astore_n n, 1)) (hn : (n : Nat) < μ.2.2.1) (hs : am_st1 lv (n : Nat) (.inr (.inr x)) = lv2) (kk : jg d μ dm (pc + 1) lv2 st M N post) : jg d μ dm pc lv (.inr (.inr x) :: st) M N post :=
  fun D q cA A sk p l e R s m args below meth c Q H locs cells slots ls hX hr ha hl => lv_astore_n hX.1 hX.2.1 hd rfl hl hn ((am_lc_st1 q lv (n : Nat) (.inr (.inr x))).trans (congrArg (am_lc q) hs)) (fun ls hl => kk D q cA A sk p l e R s m args below meth c Q H locs cells slots ls hX hr ha hl)
theorem j_astore {lv2 : List (Nat × am_V)} {i : Nat} {x : am_C} (hd : decode μ.2.1 pc = .ok (.astore i, 2)) (hn : i < μ.2.2.1) (hs : am_st1 lv i (.inr (.inr x)) = lv2) (kk : jg d μ dm (pc + 2) lv2 st M N post) : jg d μ dm pc lv (.inr (.inr x) :: st) M N post :=
  fun D q cA A sk p l e R s m args below meth c Q H locs cells slots ls hX hr ha hl => lv_astore hX.1 hX.2.1 hd hl hn ((am_lc_st1 q lv i (.inr (.inr x))).trans (congrArg (am_lc q) hs)) (fun ls hl => kk D q cA A sk p l e R s m args below meth c Q H locs cells slots ls hX hr ha hl)
theorem j_iinc (k : Nat) {lv2 : List (Nat × am_V)} {i : Nat} {n : Int} {x : Int32} {v : Int32} (hd : decode μ.2.1 pc = .ok (.iinc i n, 3)) (hk : lv[k]? = some (i, .inl x)) (hv : x + Int32.ofInt n = v) (hn : i < μ.2.2.1) (hs : am_st1 lv i (.inl v) = lv2) (kk : jg d μ dm (pc + 3) lv2 st M N post) : jg d μ dm pc lv st M N post :=
  fun D q cA A sk p l e R s m args below meth c Q H locs cells slots ls hX hr ha hl => lv_iinc hX.1 hX.2.1 hd hl (am_lc_at hk) hv hn ((am_lc_st1 q lv i (.inl v)).trans (congrArg (am_lc q) hs)) (fun ls hl => kk D q cA A sk p l e R s m args below meth c Q H locs cells slots ls hX hr ha hl)
theorem j_dup {v : am_V} (hd : decode μ.2.1 pc = .ok (.dup, 1)) (hv : am_cat v = 1) (kk : jg d μ dm (pc + 1) lv (v :: v :: st) M N post) : jg d μ dm pc lv (v :: st) M N post :=
  fun D q cA A sk p l e R s m args below meth c Q H locs cells slots ls hX hr ha hl => lv_dup hX.1 hX.2.1 hd ((am_cat_v q v).trans hv) (kk D q cA A sk p l e R s m args below meth c Q H locs cells slots ls hX hr ha hl)
theorem j_pop {v : am_V} (hd : decode μ.2.1 pc = .ok (.pop, 1)) (hv : am_cat v = 1) (kk : jg d μ dm (pc + 1) lv st M N post) : jg d μ dm pc lv (v :: st) M N post :=
  fun D q cA A sk p l e R s m args below meth c Q H locs cells slots ls hX hr ha hl => lv_pop hX.1 hX.2.1 hd ((am_cat_v q v).trans hv) (kk D q cA A sk p l e R s m args below meth c Q H locs cells slots ls hX hr ha hl)
theorem j_dup2 {v u : am_V} (hd : decode μ.2.1 pc = .ok (.dup2, 1)) (hv : am_cat v = 1) (hu : am_cat u = 1) (kk : jg d μ dm (pc + 1) lv (v :: u :: v :: u :: st) M N post) : jg d μ dm pc lv (v :: u :: st) M N post :=
  fun D q cA A sk p l e R s m args below meth c Q H locs cells slots ls hX hr ha hl => lv_dup2_11 hX.1 hX.2.1 hd ((am_cat_v q v).trans hv) ((am_cat_v q u).trans hu) (kk D q cA A sk p l e R s m args below meth c Q H locs cells slots ls hX hr ha hl)
theorem j_dup2L {x : Int64} (hd : decode μ.2.1 pc = .ok (.dup2, 1)) (kk : jg d μ dm (pc + 1) lv (.inr (.inl x) :: .inr (.inl x) :: st) M N post) : jg d μ dm pc lv (.inr (.inl x) :: st) M N post :=
  fun D q cA A sk p l e R s m args below meth c Q H locs cells slots ls hX hr ha hl => lv_dup2_2 hX.1 hX.2.1 hd rfl (kk D q cA A sk p l e R s m args below meth c Q H locs cells slots ls hX hr ha hl)
theorem j_dup_x1 {v u : am_V} (hd : decode μ.2.1 pc = .ok (.dup_x1, 1)) (hv : am_cat v = 1) (hu : am_cat u = 1) (kk : jg d μ dm (pc + 1) lv (v :: u :: v :: st) M N post) : jg d μ dm pc lv (v :: u :: st) M N post :=
  fun D q cA A sk p l e R s m args below meth c Q H locs cells slots ls hX hr ha hl => lv_dup_x1 hX.1 hX.2.1 hd ((am_cat_v q v).trans hv) ((am_cat_v q u).trans hu) (kk D q cA A sk p l e R s m args below meth c Q H locs cells slots ls hX hr ha hl)
theorem j_if_eq {x : Int32} {off : Int} {tgt : Nat} (hd : decode μ.2.1 pc = .ok (.ifCond .eq off, 3)) (ht : (pc : Int) + off = (tgt : Int)) (kt : x = 0 → jg d μ dm tgt lv st M N post) (kf : ¬ (x = 0) → jg d μ dm (pc + 3) lv st M N post) : jg d μ dm pc lv (.inl x :: st) M N post :=
  fun D q cA A sk p l e R s m args below meth c Q H locs cells slots ls hX hr ha hl => lv_if_eq hX.1 hX.2.1 hd ht (fun h => kt h D q cA A sk p l e R s m args below meth c Q H locs cells slots ls hX hr ha hl) (fun h => kf h D q cA A sk p l e R s m args below meth c Q H locs cells slots ls hX hr ha hl)
theorem j_icmp_eq {x y : Int32} {off : Int} {tgt : Nat} (hd : decode μ.2.1 pc = .ok (.if_icmp .eq off, 3)) (ht : (pc : Int) + off = (tgt : Int)) (kt : x = y → jg d μ dm tgt lv st M N post) (kf : ¬ (x = y) → jg d μ dm (pc + 3) lv st M N post) : jg d μ dm pc lv (.inl y :: .inl x :: st) M N post :=
  fun D q cA A sk p l e R s m args below meth c Q H locs cells slots ls hX hr ha hl => lv_icmp_eq hX.1 hX.2.1 hd ht (fun h => kt h D q cA A sk p l e R s m args below meth c Q H locs cells slots ls hX hr ha hl) (fun h => kf h D q cA A sk p l e R s m args below meth c Q H locs cells slots ls hX hr ha hl)
theorem j_if_ne {x : Int32} {off : Int} {tgt : Nat} (hd : decode μ.2.1 pc = .ok (.ifCond .ne off, 3)) (ht : (pc : Int) + off = (tgt : Int)) (kt : ¬ x = 0 → jg d μ dm tgt lv st M N post) (kf : x = 0 → jg d μ dm (pc + 3) lv st M N post) : jg d μ dm pc lv (.inl x :: st) M N post :=
  fun D q cA A sk p l e R s m args below meth c Q H locs cells slots ls hX hr ha hl => lv_if_ne hX.1 hX.2.1 hd ht (fun h => kt h D q cA A sk p l e R s m args below meth c Q H locs cells slots ls hX hr ha hl) (fun h => kf h D q cA A sk p l e R s m args below meth c Q H locs cells slots ls hX hr ha hl)
theorem j_icmp_ne {x y : Int32} {off : Int} {tgt : Nat} (hd : decode μ.2.1 pc = .ok (.if_icmp .ne off, 3)) (ht : (pc : Int) + off = (tgt : Int)) (kt : ¬ x = y → jg d μ dm tgt lv st M N post) (kf : x = y → jg d μ dm (pc + 3) lv st M N post) : jg d μ dm pc lv (.inl y :: .inl x :: st) M N post :=
  fun D q cA A sk p l e R s m args below meth c Q H locs cells slots ls hX hr ha hl => lv_icmp_ne hX.1 hX.2.1 hd ht (fun h => kt h D q cA A sk p l e R s m args below meth c Q H locs cells slots ls hX hr ha hl) (fun h => kf h D q cA A sk p l e R s m args below meth c Q H locs cells slots ls hX hr ha hl)
theorem j_if_lt {x : Int32} {off : Int} {tgt : Nat} (hd : decode μ.2.1 pc = .ok (.ifCond .lt off, 3)) (ht : (pc : Int) + off = (tgt : Int)) (kt : x < 0 → jg d μ dm tgt lv st M N post) (kf : ¬ (x < 0) → jg d μ dm (pc + 3) lv st M N post) : jg d μ dm pc lv (.inl x :: st) M N post :=
  fun D q cA A sk p l e R s m args below meth c Q H locs cells slots ls hX hr ha hl => lv_if_lt hX.1 hX.2.1 hd ht (fun h => kt h D q cA A sk p l e R s m args below meth c Q H locs cells slots ls hX hr ha hl) (fun h => kf h D q cA A sk p l e R s m args below meth c Q H locs cells slots ls hX hr ha hl)
theorem j_icmp_lt {x y : Int32} {off : Int} {tgt : Nat} (hd : decode μ.2.1 pc = .ok (.if_icmp .lt off, 3)) (ht : (pc : Int) + off = (tgt : Int)) (kt : x < y → jg d μ dm tgt lv st M N post) (kf : ¬ (x < y) → jg d μ dm (pc + 3) lv st M N post) : jg d μ dm pc lv (.inl y :: .inl x :: st) M N post :=
  fun D q cA A sk p l e R s m args below meth c Q H locs cells slots ls hX hr ha hl => lv_icmp_lt hX.1 hX.2.1 hd ht (fun h => kt h D q cA A sk p l e R s m args below meth c Q H locs cells slots ls hX hr ha hl) (fun h => kf h D q cA A sk p l e R s m args below meth c Q H locs cells slots ls hX hr ha hl)
theorem j_if_ge {x : Int32} {off : Int} {tgt : Nat} (hd : decode μ.2.1 pc = .ok (.ifCond .ge off, 3)) (ht : (pc : Int) + off = (tgt : Int)) (kt : 0 ≤ x → jg d μ dm tgt lv st M N post) (kf : ¬ (0 ≤ x) → jg d μ dm (pc + 3) lv st M N post) : jg d μ dm pc lv (.inl x :: st) M N post :=
  fun D q cA A sk p l e R s m args below meth c Q H locs cells slots ls hX hr ha hl => lv_if_ge hX.1 hX.2.1 hd ht (fun h => kt h D q cA A sk p l e R s m args below meth c Q H locs cells slots ls hX hr ha hl) (fun h => kf h D q cA A sk p l e R s m args below meth c Q H locs cells slots ls hX hr ha hl)
theorem j_icmp_ge {x y : Int32} {off : Int} {tgt : Nat} (hd : decode μ.2.1 pc = .ok (.if_icmp .ge off, 3)) (ht : (pc : Int) + off = (tgt : Int)) (kt : y ≤ x → jg d μ dm tgt lv st M N post) (kf : ¬ (y ≤ x) → jg d μ dm (pc + 3) lv st M N post) : jg d μ dm pc lv (.inl y :: .inl x :: st) M N post :=
  fun D q cA A sk p l e R s m args below meth c Q H locs cells slots ls hX hr ha hl => lv_icmp_ge hX.1 hX.2.1 hd ht (fun h => kt h D q cA A sk p l e R s m args below meth c Q H locs cells slots ls hX hr ha hl) (fun h => kf h D q cA A sk p l e R s m args below meth c Q H locs cells slots ls hX hr ha hl)
theorem j_if_gt {x : Int32} {off : Int} {tgt : Nat} (hd : decode μ.2.1 pc = .ok (.ifCond .gt off, 3)) (ht : (pc : Int) + off = (tgt : Int)) (kt : 0 < x → jg d μ dm tgt lv st M N post) (kf : ¬ (0 < x) → jg d μ dm (pc + 3) lv st M N post) : jg d μ dm pc lv (.inl x :: st) M N post :=
  fun D q cA A sk p l e R s m args below meth c Q H locs cells slots ls hX hr ha hl => lv_if_gt hX.1 hX.2.1 hd ht (fun h => kt h D q cA A sk p l e R s m args below meth c Q H locs cells slots ls hX hr ha hl) (fun h => kf h D q cA A sk p l e R s m args below meth c Q H locs cells slots ls hX hr ha hl)
theorem j_icmp_gt {x y : Int32} {off : Int} {tgt : Nat} (hd : decode μ.2.1 pc = .ok (.if_icmp .gt off, 3)) (ht : (pc : Int) + off = (tgt : Int)) (kt : y < x → jg d μ dm tgt lv st M N post) (kf : ¬ (y < x) → jg d μ dm (pc + 3) lv st M N post) : jg d μ dm pc lv (.inl y :: .inl x :: st) M N post :=
  fun D q cA A sk p l e R s m args below meth c Q H locs cells slots ls hX hr ha hl => lv_icmp_gt hX.1 hX.2.1 hd ht (fun h => kt h D q cA A sk p l e R s m args below meth c Q H locs cells slots ls hX hr ha hl) (fun h => kf h D q cA A sk p l e R s m args below meth c Q H locs cells slots ls hX hr ha hl)
theorem j_if_le {x : Int32} {off : Int} {tgt : Nat} (hd : decode μ.2.1 pc = .ok (.ifCond .le off, 3)) (ht : (pc : Int) + off = (tgt : Int)) (kt : x ≤ 0 → jg d μ dm tgt lv st M N post) (kf : ¬ (x ≤ 0) → jg d μ dm (pc + 3) lv st M N post) : jg d μ dm pc lv (.inl x :: st) M N post :=
  fun D q cA A sk p l e R s m args below meth c Q H locs cells slots ls hX hr ha hl => lv_if_le hX.1 hX.2.1 hd ht (fun h => kt h D q cA A sk p l e R s m args below meth c Q H locs cells slots ls hX hr ha hl) (fun h => kf h D q cA A sk p l e R s m args below meth c Q H locs cells slots ls hX hr ha hl)
theorem j_icmp_le {x y : Int32} {off : Int} {tgt : Nat} (hd : decode μ.2.1 pc = .ok (.if_icmp .le off, 3)) (ht : (pc : Int) + off = (tgt : Int)) (kt : x ≤ y → jg d μ dm tgt lv st M N post) (kf : ¬ (x ≤ y) → jg d μ dm (pc + 3) lv st M N post) : jg d μ dm pc lv (.inl y :: .inl x :: st) M N post :=
  fun D q cA A sk p l e R s m args below meth c Q H locs cells slots ls hX hr ha hl => lv_icmp_le hX.1 hX.2.1 hd ht (fun h => kt h D q cA A sk p l e R s m args below meth c Q H locs cells slots ls hX hr ha hl) (fun h => kf h D q cA A sk p l e R s m args below meth c Q H locs cells slots ls hX hr ha hl)
theorem am_cmp_eq (x y : Int64) : (lg_cmp x y = 0) ↔ x = y := lg_cmp_eq x y
theorem am_cmp_lt (x y : Int64) : (lg_cmp x y < 0) ↔ x < y := lg_cmp_lt x y
theorem am_cmp_gt (x y : Int64) : (0 < lg_cmp x y) ↔ y < x := lg_cmp_gt x y
theorem am_cmp_ge (x y : Int64) : (0 ≤ lg_cmp x y) ↔ y ≤ x := lg_cmp_ge x y
theorem am_cmp_le (x y : Int64) : (lg_cmp x y ≤ 0) ↔ x ≤ y := lg_cmp_le x y
theorem am_cmp_ne (x y : Int64) : (¬ lg_cmp x y = 0) ↔ ¬ x = y := not_congr (am_cmp_eq x y)
theorem j_lcmp_eq {x y : Int64} {off : Int} {tgt : Nat} (hd : decode μ.2.1 pc = .ok (.lcmp, 1)) (hd2 : decode μ.2.1 (pc + 1) = .ok (.ifCond .eq off, 3)) (ht : ((pc + 1 : Nat) : Int) + off = (tgt : Int)) (kt : x = y → jg d μ dm tgt lv st M N post) (kf : ¬ (x = y) → jg d μ dm (pc + 1 + 3) lv st M N post) : jg d μ dm pc lv (.inr (.inl y) :: .inr (.inl x) :: st) M N post :=
  fun D q cA A sk p l e R s m args below meth c Q H locs cells slots ls hX hr ha hl => W.lcmp hX.1 hX.2.1 hd (lv_if_eq hX.1 hX.2.1 hd2 ht (fun h => kt ((am_cmp_eq x y).mp h) D q cA A sk p l e R s m args below meth c Q H locs cells slots ls hX hr ha hl) (fun h => kf (fun z => h ((am_cmp_eq x y).mpr z)) D q cA A sk p l e R s m args below meth c Q H locs cells slots ls hX hr ha hl))
theorem j_lcmp_ne {x y : Int64} {off : Int} {tgt : Nat} (hd : decode μ.2.1 pc = .ok (.lcmp, 1)) (hd2 : decode μ.2.1 (pc + 1) = .ok (.ifCond .ne off, 3)) (ht : ((pc + 1 : Nat) : Int) + off = (tgt : Int)) (kt : ¬ x = y → jg d μ dm tgt lv st M N post) (kf : x = y → jg d μ dm (pc + 1 + 3) lv st M N post) : jg d μ dm pc lv (.inr (.inl y) :: .inr (.inl x) :: st) M N post :=
  fun D q cA A sk p l e R s m args below meth c Q H locs cells slots ls hX hr ha hl => W.lcmp hX.1 hX.2.1 hd (lv_if_ne hX.1 hX.2.1 hd2 ht (fun h => kt ((am_cmp_ne x y).mp h) D q cA A sk p l e R s m args below meth c Q H locs cells slots ls hX hr ha hl) (fun h => kf ((am_cmp_eq x y).mp h) D q cA A sk p l e R s m args below meth c Q H locs cells slots ls hX hr ha hl))
theorem j_lcmp_lt {x y : Int64} {off : Int} {tgt : Nat} (hd : decode μ.2.1 pc = .ok (.lcmp, 1)) (hd2 : decode μ.2.1 (pc + 1) = .ok (.ifCond .lt off, 3)) (ht : ((pc + 1 : Nat) : Int) + off = (tgt : Int)) (kt : x < y → jg d μ dm tgt lv st M N post) (kf : ¬ (x < y) → jg d μ dm (pc + 1 + 3) lv st M N post) : jg d μ dm pc lv (.inr (.inl y) :: .inr (.inl x) :: st) M N post :=
  fun D q cA A sk p l e R s m args below meth c Q H locs cells slots ls hX hr ha hl => W.lcmp hX.1 hX.2.1 hd (lv_if_lt hX.1 hX.2.1 hd2 ht (fun h => kt ((am_cmp_lt x y).mp h) D q cA A sk p l e R s m args below meth c Q H locs cells slots ls hX hr ha hl) (fun h => kf (fun z => h ((am_cmp_lt x y).mpr z)) D q cA A sk p l e R s m args below meth c Q H locs cells slots ls hX hr ha hl))
theorem j_lcmp_ge {x y : Int64} {off : Int} {tgt : Nat} (hd : decode μ.2.1 pc = .ok (.lcmp, 1)) (hd2 : decode μ.2.1 (pc + 1) = .ok (.ifCond .ge off, 3)) (ht : ((pc + 1 : Nat) : Int) + off = (tgt : Int)) (kt : y ≤ x → jg d μ dm tgt lv st M N post) (kf : ¬ (y ≤ x) → jg d μ dm (pc + 1 + 3) lv st M N post) : jg d μ dm pc lv (.inr (.inl y) :: .inr (.inl x) :: st) M N post :=
  fun D q cA A sk p l e R s m args below meth c Q H locs cells slots ls hX hr ha hl => W.lcmp hX.1 hX.2.1 hd (lv_if_ge hX.1 hX.2.1 hd2 ht (fun h => kt ((am_cmp_ge x y).mp h) D q cA A sk p l e R s m args below meth c Q H locs cells slots ls hX hr ha hl) (fun h => kf (fun z => h ((am_cmp_ge x y).mpr z)) D q cA A sk p l e R s m args below meth c Q H locs cells slots ls hX hr ha hl))
theorem j_lcmp_gt {x y : Int64} {off : Int} {tgt : Nat} (hd : decode μ.2.1 pc = .ok (.lcmp, 1)) (hd2 : decode μ.2.1 (pc + 1) = .ok (.ifCond .gt off, 3)) (ht : ((pc + 1 : Nat) : Int) + off = (tgt : Int)) (kt : y < x → jg d μ dm tgt lv st M N post) (kf : ¬ (y < x) → jg d μ dm (pc + 1 + 3) lv st M N post) : jg d μ dm pc lv (.inr (.inl y) :: .inr (.inl x) :: st) M N post :=
  fun D q cA A sk p l e R s m args below meth c Q H locs cells slots ls hX hr ha hl => W.lcmp hX.1 hX.2.1 hd (lv_if_gt hX.1 hX.2.1 hd2 ht (fun h => kt ((am_cmp_gt x y).mp h) D q cA A sk p l e R s m args below meth c Q H locs cells slots ls hX hr ha hl) (fun h => kf (fun z => h ((am_cmp_gt x y).mpr z)) D q cA A sk p l e R s m args below meth c Q H locs cells slots ls hX hr ha hl))
theorem j_lcmp_le {x y : Int64} {off : Int} {tgt : Nat} (hd : decode μ.2.1 pc = .ok (.lcmp, 1)) (hd2 : decode μ.2.1 (pc + 1) = .ok (.ifCond .le off, 3)) (ht : ((pc + 1 : Nat) : Int) + off = (tgt : Int)) (kt : x ≤ y → jg d μ dm tgt lv st M N post) (kf : ¬ (x ≤ y) → jg d μ dm (pc + 1 + 3) lv st M N post) : jg d μ dm pc lv (.inr (.inl y) :: .inr (.inl x) :: st) M N post :=
  fun D q cA A sk p l e R s m args below meth c Q H locs cells slots ls hX hr ha hl => W.lcmp hX.1 hX.2.1 hd (lv_if_le hX.1 hX.2.1 hd2 ht (fun h => kt ((am_cmp_le x y).mp h) D q cA A sk p l e R s m args below meth c Q H locs cells slots ls hX hr ha hl) (fun h => kf (fun z => h ((am_cmp_le x y).mpr z)) D q cA A sk p l e R s m args below meth c Q H locs cells slots ls hX hr ha hl))
theorem j_goto {off : Int} {tgt : Nat} (hd : decode μ.2.1 pc = .ok (.goto off, 3)) (ht : (pc : Int) + off = (tgt : Int)) (kk : jg d μ dm tgt lv st M N post) : jg d μ dm pc lv st M N post :=
  fun D q cA A sk p l e R s m args below meth c Q H locs cells slots ls hX hr ha hl => lv_goto hX.1 hX.2.1 hd ht (kk D q cA A sk p l e R s m args below meth c Q H locs cells slots ls hX hr ha hl)
theorem j_tableOut {dflt lo hi : Int} {offs : Array Int} {len : Nat} {x : Int32} {tgt : Nat} (hd : decode μ.2.1 pc = .ok (.tableswitch dflt lo hi offs, len)) (h : x.toInt < lo ∨ hi < x.toInt) (ht : (pc : Int) + dflt = (tgt : Int)) (kk : jg d μ dm tgt lv st M N post) : jg d μ dm pc lv (.inl x :: st) M N post :=
  fun D q cA A sk p l e R s m args below meth c Q H locs cells slots ls hX hr ha hl => lv_tableOut hX.1 hX.2.1 hd h ht (kk D q cA A sk p l e R s m args below meth c Q H locs cells slots ls hX hr ha hl)
theorem j_tableIn {dflt lo hi : Int} {offs : Array Int} {len : Nat} {x : Int32} {off : Int} {tgt : Nat} (hd : decode μ.2.1 pc = .ok (.tableswitch dflt lo hi offs, len)) (h1 : ¬ x.toInt < lo) (h2 : ¬ hi < x.toInt) (ho : offs[(x.toInt - lo).toNat]? = some off) (ht : (pc : Int) + off = (tgt : Int)) (kk : jg d μ dm tgt lv st M N post) : jg d μ dm pc lv (.inl x :: st) M N post :=
  fun D q cA A sk p l e R s m args below meth c Q H locs cells slots ls hX hr ha hl => lv_tableIn hX.1 hX.2.1 hd h1 h2 ho ht (kk D q cA A sk p l e R s m args below meth c Q H locs cells slots ls hX hr ha hl)
theorem j_lookup {dflt : Int} {ps : Array (Int × Int)} {len : Nat} {x : Int32} {off : Int} {tgt : Nat} (hd : decode μ.2.1 pc = .ok (.lookupswitch dflt ps, len)) (hp : (ps.toList.zip (ps.toList.drop 1)).all (fun (a, next) => a.1 < next.1) = true) (ho : Op.lookupswitch.offset ps.toList dflt x.toInt = off) (ht : (pc : Int) + off = (tgt : Int)) (kk : jg d μ dm tgt lv st M N post) : jg d μ dm pc lv (.inl x :: st) M N post :=
  fun D q cA A sk p l e R s m args below meth c Q H locs cells slots ls hX hr ha hl => lv_lookup hX.1 hX.2.1 hd hp ho ht (kk D q cA A sk p l e R s m args below meth c Q H locs cells slots ls hX hr ha hl)
/-- fewer locals, in another order -/
theorem j_sub {lv2 : List (Nat × am_V)} (ks : List Nat) (hs : am_lp lv ks = lv2) (kk : jg d μ dm pc lv2 st M N post) : jg d μ dm pc lv st M N post :=
  fun D q cA A sk p l e R s m args below meth c Q H locs cells slots ls hX hr ha hl => kk D q cA A sk p l e R s m args below meth c Q H locs cells slots ls hX hr ha (am_lc_sub ks hs hl)
theorem j_post {post2 : Option am_V → am_I → am_N → Prop} (h : ∀ v M' N', post2 v M' N' → post v M' N') (kk : jg d μ dm pc lv st M N post2) : jg d μ dm pc lv st M N post :=
  fun D q cA A sk p l e R s m args below meth c Q H locs cells slots ls hX hr ha hl => kk D q cA A sk p l e R s m args below meth c Q H locs cells slots ls hX (fun H' locs' pc' ls' v M' N' h1 h2 h3 => hr H' locs' pc' ls' v M' N' h1 (h v M' N' h2) h3) ha hl
/-- returns -/
theorem j_vret (hd : decode μ.2.1 pc = .ok (.return_, 1)) (h0 : μ.2.2.2 = none) (hp : post none M N) : jg d μ dm pc lv [] M N post :=
  fun D q cA A sk p l e R s m args below meth c Q H locs cells slots ls hX hr ha hl => hr H locs pc ls none M N ha hp ⟨hd, h0⟩
theorem j_iret {x : Int32} (hd : decode μ.2.1 pc = .ok (.ireturn, 1)) (h0 : μ.2.2.2 = some .int) (hp : post (some (.inl x)) M N) : jg d μ dm pc lv [.inl x] M N post :=
  fun D q cA A sk p l e R s m args below meth c Q H locs cells slots ls hX hr ha hl => hr H locs pc ls (some (.inl x)) M N ha hp ⟨hd, _, h0, rfl⟩
theorem j_zret {x : Int32} (hd : decode μ.2.1 pc = .ok (.ireturn, 1)) (h0 : μ.2.2.2 = some .boolean) (hx : x = 0 ∨ x = 1) (hp : post (some (.inl x)) M N) : jg d μ dm pc lv [.inl x] M N post :=
  fun D q cA A sk p l e R s m args below meth c Q H locs cells slots ls hX hr ha hl => hr H locs pc ls (some (.inl x)) M N ha hp ⟨hd, _, h0, by rcases hx with rfl | rfl <;> rfl⟩
theorem j_lret {x : Int64} (hd : decode μ.2.1 pc = .ok (.lreturn, 1)) (h0 : μ.2.2.2 = some .long) (hp : post (some (.inr (.inl x))) M N) : jg d μ dm pc lv [.inr (.inl x)] M N post :=
  fun D q cA A sk p l e R s m args below meth c Q H locs cells slots ls hX hr ha hl => hr H locs pc ls (some (.inr (.inl x))) M N ha hp ⟨hd, h0⟩

end JR
end
section
/-! ===== the rules of jg on the heap, and calls ===== -/
/-- what is known of a class -/
def am_CB (ci : Nat) (C : String) (T : u_T) (n : Nat) (ty : Nat → FieldType) : Prop :=
  am_cl[ci]? = some (C, T, n) ∧ (∀ w ∈ u_ws C T n, w ∈ am_tb) ∧ (∀ k, k < n → parseFieldDescriptor (T k).2.2.1 = some (ty k)) ∧ (∀ a, a < n → ∀ b, b < n → a ≠ b → (T a).2.1 ≠ (T b).2.1) ∧ (am_ft ci).length = n ∧ ∀ k, k < n → (T k).1 = C
/-- the field k, of kind t, of the class ci, named by entry idx of own's file -/
def am_FS (own : String) (idx ci k t : Nat) : Prop :=
  ∃ (C : String) (T : u_T) (n : Nat) (ty : Nat → FieldType), am_CB ci C T n ty ∧ (am_ft ci)[k]? = some t ∧ k < n ∧
    (Cond.fieldLink own idx C (T k).2.1 (T k).2.2.1 ∈ am_tb ∨ ∃ host, Cond.fieldLinkNest own idx C (T k).2.1 (T k).2.2.1 host ∈ am_nst)
/-- it can be written, and holds ints (or longs) -/
def am_FW (own : String) (idx ci k t : Nat) : Prop :=
  ∃ (C : String) (T : u_T) (n : Nat) (ty : Nat → FieldType), am_CB ci C T n ty ∧ (am_ft ci)[k]? = some t ∧ k < n ∧ (T k).2.2.2 = false ∧ ((t = 0 ∧ parseFieldDescriptor (T k).2.2.1 = some .int) ∨ (t = 1 ∧ parseFieldDescriptor (T k).2.2.1 = some .long)) ∧
    (Cond.fieldLink own idx C (T k).2.1 (T k).2.2.1 ∈ am_tb ∨ ∃ host, Cond.fieldLinkNest own idx C (T k).2.1 (T k).2.2.1 host ∈ am_nst)
section JH
variable {d : Nat} {μ : am_Y} {dm : List am_C} {pc : Nat} {lv : List (Nat × am_V)} {st : List am_V} {M : am_I} {N : am_N} {post : Option am_V → am_I → am_N → Prop}
theorem j_get {a : am_C} {idx ci k t : Nat} {v : am_V} (hd : decode μ.2.1 pc = .ok (.getfield idx, 3)) (hf : am_FS μ.1.cls idx ci k t) (hc : a ∈ dm) (hly : am_ly a = (4, ci)) (hv : ∀ q : am_C → Nat, am_f q M N a k t = am_v q v)
    (kk : jg d μ dm (pc + 3) lv (v :: st) M N post) : jg d μ dm pc lv (.inr (.inr a) :: st) M N post := by
  intro D q cA A sk p l e R s m args below meth c Q H locs cells slots ls hX hr ha hl
  obtain ⟨k0, h0⟩ := List.getElem?_of_mem hc
  obtain ⟨C, T, n, ty, ⟨h1, h2, -, -, h5, h6⟩, h7, h8, h9⟩ := hf
  have he := am_w_at (q := q) (cA := cA) (M := M) (N := N) h0
  rw [am_e_o hly] at he
  have hg : (am_fs q M N a (am_ft ci))[k]? = some (am_v q v) := by rw [am_fs_at h7, hv]
  rcases h9 with h9 | ⟨host, h9⟩
  · exact va_get hX.1 hX.2.1 hX.2.2.2.2.1 h2 hX.2.2.2.1 hX.2.2.2.2.2.1 ha.1 k0 he h1 k h8 (hX.2.2.2.2.1 _ h9) (fun x hx => by rw [h6 k h8] at hx; exact hx) hg hd (kk D q cA A sk p l e R s m args below meth c Q H locs cells slots ls hX hr ha hl)
  · exact va_getN hX.1 hX.2.1 hX.2.2.2.2.1 h2 hX.2.2.2.1 hX.2.2.2.2.2.1 ha.1 k0 he h1 k h8 (va_Nw.use rfl (hX.2.2.2.2.2.2.2.2.2.2.2.2.2.2 _ h9)) (fun x hx => by rw [h6 k h8] at hx; exact hx) hg hd (kk D q cA A sk p l e R s m args below meth c Q H locs cells slots ls hX hr ha hl)
theorem j_getI {a : am_C} {idx ci k : Nat} (hd : decode μ.2.1 pc = .ok (.getfield idx, 3)) (hf : am_FS μ.1.cls idx ci k 0) (hc : a ∈ dm) (hly : am_ly a = (4, ci))
    (kk : jg d μ dm (pc + 3) lv (.inl (M a k) :: st) M N post) : jg d μ dm pc lv (.inr (.inr a) :: st) M N post := j_get hd hf hc hly (fun _ => rfl) kk
theorem j_getL {a : am_C} {idx ci k : Nat} (hd : decode μ.2.1 pc = .ok (.getfield idx, 3)) (hf : am_FS μ.1.cls idx ci k 1) (hc : a ∈ dm) (hly : am_ly a = (4, ci))
    (kk : jg d μ dm (pc + 3) lv (.inr (.inl (N a k)) :: st) M N post) : jg d μ dm pc lv (.inr (.inr a) :: st) M N post := j_get hd hf hc hly (fun _ => rfl) kk
theorem j_getR {a b : am_C} {idx ci k : Nat} (hd : decode μ.2.1 pc = .ok (.getfield idx, 3)) (hf : am_FS μ.1.cls idx ci k 2) (hc : a ∈ dm) (hly : am_ly a = (4, ci)) (hp : am_pt a k = b)
    (kk : jg d μ dm (pc + 3) lv (.inr (.inr b) :: st) M N post) : jg d μ dm pc lv (.inr (.inr a) :: st) M N post := j_get hd hf hc hly (fun q => by subst hp; rfl) kk
theorem j_put {a : am_C} {idx ci k t : Nat} {v : am_V} {M' : am_I} {N' : am_N} (hd : decode μ.2.1 pc = .ok (.putfield idx, 3)) (hf : am_FW μ.1.cls idx ci k t) (hc : a ∈ dm) (hly : am_ly a = (4, ci)) (hv : ∀ q : am_C → Nat, am_f q M' N' a k t = am_v q v)
    (hn : (t = 0 → ∃ x, v = .inl x) ∧ (t = 1 → ∃ x, v = .inr (.inl x))) (hM : ∀ c', c' ≠ a → M' c' = M c') (hN : ∀ c', c' ≠ a → N' c' = N c') (hM1 : ∀ j, j ≠ k → M' a j = M a j) (hN1 : ∀ j, j ≠ k → N' a j = N a j)
    (kk : jg d μ dm (pc + 3) lv st M' N' post) : jg d μ dm pc lv (v :: .inr (.inr a) :: st) M N post := by
  intro D q cA A sk p l e R s m args below meth c Q H locs cells slots ls hX hr ha hl
  obtain ⟨k0, h0⟩ := List.getElem?_of_mem hc
  obtain ⟨C, T, n, ty, ⟨h1, h2, h3, h4, h5, h6⟩, h7, h8, h10, h11, h9⟩ := hf
  have he := am_w_at (q := q) (cA := cA) (M := M) (N := N) h0
  rw [am_e_o hly] at he
  have hset : (am_w q cA dm M N).set k0 (q a, .inr (ci, (am_fs q M N a (am_ft ci)).set k (am_v q v))) = am_w q cA dm M' N' := by
    rw [← hv q, am_fs_set h7 hM1 hN1, ← am_e_o (cA := cA) hly]
    exact am_w_set ha.2.1 h0 hM hN
  obtain ⟨ty1, hty1, hnar, hfit⟩ : ∃ ty1, parseFieldDescriptor (T k).2.2.1 = some ty1 ∧ narrow ty1 (am_v q v) = am_v q v ∧ fits ty1 (am_v q v) = true := by
    rcases h11 with ⟨e, h⟩ | ⟨e, h⟩
    · obtain ⟨x, rfl⟩ := hn.1 e
      exact ⟨_, h, rfl, rfl⟩
    · obtain ⟨x, rfl⟩ := hn.2 e
      exact ⟨_, h, rfl, rfl⟩
  have hlen : k < (am_fs q M N a (am_ft ci)).length := by rw [am_fs_len, h5]; exact h8
  have next : ∀ (H1 : Heap) (locs1 : List Loc), va_P D am_cl ((am_w q cA dm M N).set k0 (q a, .inr (ci, (am_fs q M N a (am_ft ci)).set k (am_v q v)))) H1 → va_D A ((am_w q cA dm M N).set k0 (q a, .inr (ci, (am_fs q M N a (am_ft ci)).set k (am_v q v)))) → va_S A s.heap H1 locs1 → W p l e R s m args below meth c H1 locs1 cells slots Q (F0 m (pc + 3) ls (st.map (am_v q))) := by
    intro H1 locs1 g1 g2 g3
    rw [hset] at g1 g2
    exact kk D q cA A sk p l e R s m args below meth c Q H1 locs1 cells slots ls hX hr ⟨g1, g2, g3⟩ hl
  rcases h9 with h9 | ⟨host, h9⟩
  · exact va_put hX.1 hX.2.1 hX.2.2.2.2.1 h2 ty h3 h4 hX.2.2.2.1 hX.2.2.2.2.2.1 ha.1 ha.2.1 ha.2.2 k0 he h1 k h8 (hX.2.2.2.2.1 _ h9) (fun x hx => by rw [h6 k h8] at hx; exact hx) h10 hty1 hnar hfit hlen hd next
  · exact va_putN hX.1 hX.2.1 hX.2.2.2.2.1 h2 ty h3 h4 hX.2.2.2.1 hX.2.2.2.2.2.1 ha.1 ha.2.1 ha.2.2 k0 he h1 k h8 (va_Nw.use rfl (hX.2.2.2.2.2.2.2.2.2.2.2.2.2.2 _ h9)) (fun x hx => by rw [h6 k h8] at hx; exact hx) h10 hty1 hnar hfit hlen hd next
theorem j_putI {a : am_C} {idx ci k : Nat} {x : Int32} (hd : decode μ.2.1 pc = .ok (.putfield idx, 3)) (hf : am_FW μ.1.cls idx ci k 0) (hc : a ∈ dm) (hly : am_ly a = (4, ci))
    (kk : jg d μ dm (pc + 3) lv st (am_u M a k x) N post) : jg d μ dm pc lv (.inl x :: .inr (.inr a) :: st) M N post :=
  j_put hd hf hc hly (fun _ => by show Value.int (am_u M a k x a k) = _; unfold am_u; rw [am_s_same]; simp [upd, am_v]) ⟨fun _ => ⟨x, rfl⟩, fun h => (by cases h)⟩ (fun c' h => am_s_other M _ h) (fun _ _ => rfl) (fun j hj => by simp only [am_u, am_s_same]; simp [upd, hj]) (fun _ _ => rfl) kk
theorem j_putL {a : am_C} {idx ci k : Nat} {x : Int64} (hd : decode μ.2.1 pc = .ok (.putfield idx, 3)) (hf : am_FW μ.1.cls idx ci k 1) (hc : a ∈ dm) (hly : am_ly a = (4, ci))
    (kk : jg d μ dm (pc + 3) lv st M (am_ul N a k x) post) : jg d μ dm pc lv (.inr (.inl x) :: .inr (.inr a) :: st) M N post :=
  j_put hd hf hc hly (fun _ => by show Value.long (am_ul N a k x a k) = _; unfold am_ul; rw [am_s_same]; simp [vp_updL, am_v]) ⟨fun h => (by cases h), fun _ => ⟨x, rfl⟩⟩ (fun _ _ => rfl) (fun c' h => am_s_other N _ h) (fun _ _ => rfl) (fun j hj => by simp only [am_ul, am_s_same]; simp [vp_updL, hj]) kk
theorem j_iald {a : am_C} {n : Nat} {i : Int32} (hd : decode μ.2.1 pc = .ok (.iaload, 1)) (hc : a ∈ dm) (hly : am_ly a = (0, n)) (hin : vp_in i n)
    (kk : jg d μ dm (pc + 1) lv (.inl (M a i.toNatClampNeg) :: st) M N post) : jg d μ dm pc lv (.inl i :: .inr (.inr a) :: st) M N post := by
  intro D q cA A sk p l e R s m args below meth c Q H locs cells slots ls hX hr ha hl
  obtain ⟨k0, h0⟩ := List.getElem?_of_mem hc
  have he := am_w_at (q := q) (cA := cA) (M := M) (N := N) h0
  rw [am_e_i hly] at he
  exact va_iald hX.1 hX.2.1 hX.2.2.2.2.2.1 ha.1 k0 0 he rfl hin hd (kk D q cA A sk p l e R s m args below meth c Q H locs cells slots ls hX hr ha hl)
theorem j_lald {a : am_C} {n : Nat} {i : Int32} (hd : decode μ.2.1 pc = .ok (.laload, 1)) (hc : a ∈ dm) (hly : am_ly a = (1, n)) (hin : vp_in i n)
    (kk : jg d μ dm (pc + 1) lv ( .inr (.inl (N a i.toNatClampNeg)) :: st) M N post) : jg d μ dm pc lv (.inl i :: .inr (.inr a) :: st) M N post := by
  intro D q cA A sk p l e R s m args below meth c Q H locs cells slots ls hX hr ha hl
  obtain ⟨k0, h0⟩ := List.getElem?_of_mem hc
  have he := am_w_at (q := q) (cA := cA) (M := M) (N := N) h0
  rw [am_e_l hly] at he
  exact va_lald hX.1 hX.2.1 hX.2.2.2.2.2.1 ha.1 k0 1 he rfl hin hd (kk D q cA A sk p l e R s m args below meth c Q H locs cells slots ls hX hr ha hl)
theorem j_bald {a : am_C} {n : Nat} {i : Int32} (hd : decode μ.2.1 pc = .ok (.baload, 1)) (hc : a ∈ dm) (hly : am_ly a = (2, n)) (hin : vp_in i n)
    (kk : jg d μ dm (pc + 1) lv (.inl (M a i.toNatClampNeg) :: st) M N post) : jg d μ dm pc lv (.inl i :: .inr (.inr a) :: st) M N post := by
  intro D q cA A sk p l e R s m args below meth c Q H locs cells slots ls hX hr ha hl
  obtain ⟨k0, h0⟩ := List.getElem?_of_mem hc
  have he := am_w_at (q := q) (cA := cA) (M := M) (N := N) h0
  rw [am_e_b hly] at he
  exact va_bald hX.1 hX.2.1 hX.2.2.2.2.2.1 ha.1 k0 2 he rfl hin hd (kk D q cA A sk p l e R s m args below meth c Q H locs cells slots ls hX hr ha hl)
theorem j_zald {a : am_C} {n : Nat} {i : Int32} (hd : decode μ.2.1 pc = .ok (.baload, 1)) (hc : a ∈ dm) (hly : am_ly a = (3, n)) (hin : vp_in i n)
    (kk : jg d μ dm (pc + 1) lv (.inl (M a i.toNatClampNeg) :: st) M N post) : jg d μ dm pc lv (.inl i :: .inr (.inr a) :: st) M N post := by
  intro D q cA A sk p l e R s m args below meth c Q H locs cells slots ls hX hr ha hl
  obtain ⟨k0, h0⟩ := List.getElem?_of_mem hc
  have he := am_w_at (q := q) (cA := cA) (M := M) (N := N) h0
  rw [am_e_z hly] at he
  exact va_zald hX.1 hX.2.1 hX.2.2.2.2.2.1 ha.1 k0 3 he rfl hin hd (kk D q cA A sk p l e R s m args below meth c Q H locs cells slots ls hX hr ha hl)
theorem j_iast {a : am_C} {n : Nat} {i : Int32} {x : Int32} (hd : decode μ.2.1 pc = .ok (.iastore, 1)) (hc : a ∈ dm) (hly : am_ly a = (0, n)) (hin : vp_in i n)
    (kk : jg d μ dm (pc + 1) lv st (am_u M a i.toNatClampNeg x) N post) : jg d μ dm pc lv (.inl x :: .inl i :: .inr (.inr a) :: st) M N post := by
  intro D q cA A sk p l e R s m args below meth c Q H locs cells slots ls hX hr ha hl
  obtain ⟨k0, h0⟩ := List.getElem?_of_mem hc
  have he := am_w_at (q := q) (cA := cA) (M := M) (N := N) h0
  rw [am_e_i hly] at he
  have hset : (am_w q cA dm M N).set k0 (q a, .inl (cA 0, n, (.inl (upd (M a) i.toNatClampNeg x)))) = am_w q cA dm (am_u M a i.toNatClampNeg x) N := by
    have e1 : am_e q cA (am_u M a i.toNatClampNeg x) N a = .inl (cA 0, n, (.inl (upd (M a) i.toNatClampNeg x))) := by rw [am_e_i hly]; simp only [am_u, am_ul, am_s_same]
    rw [← e1]
    exact am_w_set ha.2.1 h0 (fun c' h => am_s_other M _ h) (fun c' h => rfl)
  refine va_iast hX.1 hX.2.1 hX.2.2.2.2.2.1 ha.1 ha.2.1 ha.2.2 k0 0 he rfl hin hd (fun H1 locs1 g1 g2 g3 => ?_)
  rw [hset] at g1 g2
  exact kk D q cA A sk p l e R s m args below meth c Q H1 locs1 cells slots ls hX hr ⟨g1, g2, g3⟩ hl
theorem j_last {a : am_C} {n : Nat} {i : Int32} {x : Int64} (hd : decode μ.2.1 pc = .ok (.lastore, 1)) (hc : a ∈ dm) (hly : am_ly a = (1, n)) (hin : vp_in i n)
    (kk : jg d μ dm (pc + 1) lv st M (am_ul N a i.toNatClampNeg x) post) : jg d μ dm pc lv (.inr (.inl x) :: .inl i :: .inr (.inr a) :: st) M N post := by
  intro D q cA A sk p l e R s m args below meth c Q H locs cells slots ls hX hr ha hl
  obtain ⟨k0, h0⟩ := List.getElem?_of_mem hc
  have he := am_w_at (q := q) (cA := cA) (M := M) (N := N) h0
  rw [am_e_l hly] at he
  have hset : (am_w q cA dm M N).set k0 (q a, .inl (cA 1, n, (.inr (.inl (vp_updL (N a) i.toNatClampNeg x))))) = am_w q cA dm M (am_ul N a i.toNatClampNeg x) := by
    have e1 : am_e q cA M (am_ul N a i.toNatClampNeg x) a = .inl (cA 1, n, (.inr (.inl (vp_updL (N a) i.toNatClampNeg x)))) := by rw [am_e_l hly]; simp only [am_u, am_ul, am_s_same]
    rw [← e1]
    exact am_w_set ha.2.1 h0 (fun c' h => rfl) (fun c' h => am_s_other N _ h)
  refine va_last hX.1 hX.2.1 hX.2.2.2.2.2.1 ha.1 ha.2.1 ha.2.2 k0 1 he rfl hin hd (fun H1 locs1 g1 g2 g3 => ?_)
  rw [hset] at g1 g2
  exact kk D q cA A sk p l e R s m args below meth c Q H1 locs1 cells slots ls hX hr ⟨g1, g2, g3⟩ hl
theorem j_bast {a : am_C} {n : Nat} {i : Int32} {x : Int32} (hd : decode μ.2.1 pc = .ok (.bastore, 1)) (hc : a ∈ dm) (hly : am_ly a = (2, n)) (hin : vp_in i n)
    (kk : jg d μ dm (pc + 1) lv st (am_u M a i.toNatClampNeg (vp_nar .byte x)) N post) : jg d μ dm pc lv (.inl x :: .inl i :: .inr (.inr a) :: st) M N post := by
  intro D q cA A sk p l e R s m args below meth c Q H locs cells slots ls hX hr ha hl
  obtain ⟨k0, h0⟩ := List.getElem?_of_mem hc
  have he := am_w_at (q := q) (cA := cA) (M := M) (N := N) h0
  rw [am_e_b hly] at he
  have hset : (am_w q cA dm M N).set k0 (q a, .inl (cA 2, n, (.inl (upd (M a) i.toNatClampNeg (vp_nar .byte x))))) = am_w q cA dm (am_u M a i.toNatClampNeg (vp_nar .byte x)) N := by
    have e1 : am_e q cA (am_u M a i.toNatClampNeg (vp_nar .byte x)) N a = .inl (cA 2, n, (.inl (upd (M a) i.toNatClampNeg (vp_nar .byte x)))) := by rw [am_e_b hly]; simp only [am_u, am_ul, am_s_same]
    rw [← e1]
    exact am_w_set ha.2.1 h0 (fun c' h => am_s_other M _ h) (fun c' h => rfl)
  refine va_bast hX.1 hX.2.1 hX.2.2.2.2.2.1 ha.1 ha.2.1 ha.2.2 k0 2 he rfl hin hd (fun H1 locs1 g1 g2 g3 => ?_)
  rw [hset] at g1 g2
  exact kk D q cA A sk p l e R s m args below meth c Q H1 locs1 cells slots ls hX hr ⟨g1, g2, g3⟩ hl
theorem j_zast {a : am_C} {n : Nat} {i : Int32} {x : Int32} (hd : decode μ.2.1 pc = .ok (.bastore, 1)) (hc : a ∈ dm) (hly : am_ly a = (3, n)) (hin : vp_in i n)
    (kk : jg d μ dm (pc + 1) lv st (am_u M a i.toNatClampNeg (vp_nar .boolean x)) N post) : jg d μ dm pc lv (.inl x :: .inl i :: .inr (.inr a) :: st) M N post := by
  intro D q cA A sk p l e R s m args below meth c Q H locs cells slots ls hX hr ha hl
  obtain ⟨k0, h0⟩ := List.getElem?_of_mem hc
  have he := am_w_at (q := q) (cA := cA) (M := M) (N := N) h0
  rw [am_e_z hly] at he
  have hset : (am_w q cA dm M N).set k0 (q a, .inl (cA 3, n, (.inl (upd (M a) i.toNatClampNeg (vp_nar .boolean x))))) = am_w q cA dm (am_u M a i.toNatClampNeg (vp_nar .boolean x)) N := by
    have e1 : am_e q cA (am_u M a i.toNatClampNeg (vp_nar .boolean x)) N a = .inl (cA 3, n, (.inl (upd (M a) i.toNatClampNeg (vp_nar .boolean x)))) := by rw [am_e_z hly]; simp only [am_u, am_ul, am_s_same]
    rw [← e1]
    exact am_w_set ha.2.1 h0 (fun c' h => am_s_other M _ h) (fun c' h => rfl)
  refine va_zast hX.1 hX.2.1 hX.2.2.2.2.2.1 ha.1 ha.2.1 ha.2.2 k0 3 he rfl hin hd (fun H1 locs1 g1 g2 g3 => ?_)
  rw [hset] at g1 g2
  exact kk D q cA A sk p l e R s m args below meth c Q H1 locs1 cells slots ls hX hr ⟨g1, g2, g3⟩ hl
theorem j_aleni {a : am_C} {n : Nat} {v : Int32} (hd : decode μ.2.1 pc = .ok (.arraylength, 1)) (hc : a ∈ dm) (hly : am_ly a = (0, n)) (hv : Int32.ofNat n = v)
    (kk : jg d μ dm (pc + 1) lv (.inl v :: st) M N post) : jg d μ dm pc lv (.inr (.inr a) :: st) M N post := by
  intro D q cA A sk p l e R s m args below meth c Q H locs cells slots ls hX hr ha hl
  obtain ⟨k0, h0⟩ := List.getElem?_of_mem hc
  have he := am_w_at (q := q) (cA := cA) (M := M) (N := N) h0
  rw [am_e_i hly] at he
  exact va_alen hX.1 hX.2.1 hX.2.2.2.2.2.1 ha.1 k0 0 he (ty := .int) rfl hv hd (kk D q cA A sk p l e R s m args below meth c Q H locs cells slots ls hX hr ha hl)
theorem j_alenl {a : am_C} {n : Nat} {v : Int32} (hd : decode μ.2.1 pc = .ok (.arraylength, 1)) (hc : a ∈ dm) (hly : am_ly a = (1, n)) (hv : Int32.ofNat n = v)
    (kk : jg d μ dm (pc + 1) lv (.inl v :: st) M N post) : jg d μ dm pc lv (.inr (.inr a) :: st) M N post := by
  intro D q cA A sk p l e R s m args below meth c Q H locs cells slots ls hX hr ha hl
  obtain ⟨k0, h0⟩ := List.getElem?_of_mem hc
  have he := am_w_at (q := q) (cA := cA) (M := M) (N := N) h0
  rw [am_e_l hly] at he
  exact va_alen hX.1 hX.2.1 hX.2.2.2.2.2.1 ha.1 k0 1 he (ty := .long) rfl hv hd (kk D q cA A sk p l e R s m args below meth c Q H locs cells slots ls hX hr ha hl)
theorem j_alenb {a : am_C} {n : Nat} {v : Int32} (hd : decode μ.2.1 pc = .ok (.arraylength, 1)) (hc : a ∈ dm) (hly : am_ly a = (2, n)) (hv : Int32.ofNat n = v)
    (kk : jg d μ dm (pc + 1) lv (.inl v :: st) M N post) : jg d μ dm pc lv (.inr (.inr a) :: st) M N post := by
  intro D q cA A sk p l e R s m args below meth c Q H locs cells slots ls hX hr ha hl
  obtain ⟨k0, h0⟩ := List.getElem?_of_mem hc
  have he := am_w_at (q := q) (cA := cA) (M := M) (N := N) h0
  rw [am_e_b hly] at he
  exact va_alen hX.1 hX.2.1 hX.2.2.2.2.2.1 ha.1 k0 2 he (ty := .byte) rfl hv hd (kk D q cA A sk p l e R s m args below meth c Q H locs cells slots ls hX hr ha hl)
theorem j_alenz {a : am_C} {n : Nat} {v : Int32} (hd : decode μ.2.1 pc = .ok (.arraylength, 1)) (hc : a ∈ dm) (hly : am_ly a = (3, n)) (hv : Int32.ofNat n = v)
    (kk : jg d μ dm (pc + 1) lv (.inl v :: st) M N post) : jg d μ dm pc lv (.inr (.inr a) :: st) M N post := by
  intro D q cA A sk p l e R s m args below meth c Q H locs cells slots ls hX hr ha hl
  obtain ⟨k0, h0⟩ := List.getElem?_of_mem hc
  have he := am_w_at (q := q) (cA := cA) (M := M) (N := N) h0
  rw [am_e_z hly] at he
  exact va_alen hX.1 hX.2.1 hX.2.2.2.2.2.1 ha.1 k0 3 he (ty := .boolean) rfl hv hd (kk D q cA A sk p l e R s m args below meth c Q H locs cells slots ls hX hr ha hl)
end JH
end
section
/-! ===== calls ===== -/
def am_rm (d : Nat) : Room := { frames := d, cells := 0, slots := 0, locals := 60 * d }
def am_ws (ν : am_Y) : List Cond := Cond.code ν.1 ν.2.1 ν.2.2.1 ν.2.2.2 :: am_tb
def am_args : Nat → List am_V → List (Nat × am_V)
  | _, [] => []
  | i, v :: vs => (i, v) :: am_args (if am_cat v = 2 then i + 2 else i + 1) vs
theorem am_args_lc (q : am_C → Nat) (vs : List am_V) : ∀ i, am_lc q (am_args i vs) = lv_args i (vs.map (am_v q)) := by
  induction vs with
  | nil => intro i; rfl
  | cons v vs ih =>
    intro i
    show (i, am_v q v) :: am_lc q (am_args (if am_cat v = 2 then i + 2 else i + 1) vs) = (i, am_v q v) :: lv_args (if (am_v q v).category = 2 then i + 2 else i + 1) (vs.map (am_v q))
    rw [ih, am_cat_v]
def am_sz (vs : List am_V) : Nat := (vs.map am_cat).sum
theorem am_sl_len (q : am_C → Nat) (vs : List am_V) : (lg_sl (vs.map (am_v q))).length = am_sz vs := by
  induction vs with
  | nil => rfl
  | cons v vs ih =>
    unfold am_sz at ih ⊢
    simp only [List.map_cons, List.sum_cons, ← ih]
    rcases v with x | x | x <;> simp [lg_sl, am_v, am_cat, Value.category] <;> omega
/-- what is known of a method -/
def am_MB (ν : am_Y) (n : Nat) : Prop :=
  plainFor ν.1 = true ∧ Cond.code ν.1 ν.2.1 ν.2.2.1 ν.2.2.2 ∈ am_tb ∧ Cond.initialized ν.1.cls ∈ am_tb ∧ (ν.1.cls ≠ "java/lang/invoke/MethodHandle" ∧ ν.1.cls ≠ "java/lang/invoke/VarHandle" ∧ (parseMethodDescriptor ν.1.desc).map (fun d => d.parameters.length) = some n) ∧ ν.2.2.1 ≤ 41
def am_Qc (D : va_G) (q : am_C → Nat) (cA : Nat → ClassId) (dm : List am_C) (w0 : va_W) (sz : Nat) (post : Option am_V → am_I → am_N → Prop) : Array Value → State → Outcome → State → Prop := fun _ st oc t =>
  (∃ (v : Option am_V) (M' : am_I) (N' : am_N), oc = .returned (v.map (am_v q)) ∧ post v M' N' ∧ va_P D am_cl (am_w q cA dm M' N') t.heap ∧ va_D (va_A w0 sz) (am_w q cA dm M' N')) ∧ va_F (va_A w0 sz) st t
def am_Pc (D : va_G) (q : am_C → Nat) (cA : Nat → ClassId) (sk : (Nat → Nat) × (Nat → Nat)) (w0 : va_W) (sz : Nat) : State → Prop := fun U =>
  U.heap.size = sz ∧ va_P D am_cl w0 U.heap ∧ va_K D am_cl (am_tys cA) U ∧ va_D (fun _ => True) w0 ∧ am_sK sk (va_A w0 sz) U U.heap
theorem am_ofW {l : Launch} {y : MethodName} {ws ws' : List Cond} {rm : Room} {Pc : Array Value → State → Prop} {Qc : Array Value → State → Outcome → State → Prop} {mc ms : Nat} {free : Addr → Prop} {cc : ByteArray} {maxL : Nat} {ret : Option FieldType}
    (hy : plainFor y = true) (hw : ws = Cond.code y cc maxL ret :: ws')
    (body : ∀ p e s m args below meth c s₁, BodyLoose p l y (headSpec ws rm) cc maxL ret e s m args below meth c s₁ → c.maxLocals = maxL → Pc args s →
      W p l e (headSpec ws rm).room s m args below meth c s.heap [] 0 0 (MQ below Qc args s mc ms free) (entryFrame m args maxL)) : Met l y ws rm Pc Qc mc ms free := by
  refine MetFree.of_bodySF (code := cc) (maxLocals := maxL) (ret := ret) hy ?_ ?_
  · intro args s m h hn
    obtain ⟨meth, c, h1, h2, h3, h4, h5, h6, -, -⟩ := Cond.code_spec hn (atoms_spec (ws := ws) h _ (by rw [hw]; exact List.mem_cons_self))
    exact ⟨meth, c, h1, h2, h3, h4, h5, h6⟩
  · intro p e s m args below meth c s₁ B hml hP _
    have hh0 : s₁.heap = s.heap := by rw [B.state]; rfl
    obtain ⟨t, a1, o, b1, b2, b3⟩ := body p e s m args below meth c s₁ B hml hP s₁ hh0 (Stand.of_body B)
    exact ⟨t, o, a1, b1, b2, ⟨b3.1, b3.2⟩⟩
set_option maxHeartbeats 1000000 in
/-- a method's judgement at its entry is its contract -/
theorem j_met {d n : Nat} {ν : am_Y} {dm : List am_C} {As : List am_V} {M : am_I} {N : am_N} {post : Option am_V → am_I → am_N → Prop} (hB : am_MB ν n) (hlen : am_sz As ≤ ν.2.2.1) (hJ : jg d ν dm 0 (am_args 0 As) [] M N post)
    (l : Launch) (D : va_G) (q : am_C → Nat) (cA : Nat → ClassId) (sk : (Nat → Nat) × (Nat → Nat)) (sz : Nat) :
    Met l ν.1 (am_ws ν) (am_rm d) (va_Pc (As.map (am_v q)) (am_Pc D q cA sk (am_w q cA dm M N) sz)) (am_Qc D q cA dm (am_w q cA dm M N) sz post) 0 0 (va_A (am_w q cA dm M N) sz) := by
  refine am_ofW (cc := ν.2.1) (maxL := ν.2.2.1) (ret := ν.2.2.2) hB.1 rfl ?_
  intro p e s m args below meth c s₁ B hml hv
  obtain ⟨rfl, hsz, hP, hK, hD0, hsk⟩ := hv
  have hts0 := atoms_spec (ws := am_ws ν) B.pre
  have hts : ∀ w ∈ am_tb, w.before (As.map (am_v q)).toArray s = true := fun w hw => hts0 w (List.mem_cons_of_mem _ hw)
  have hown : s.vm.findClass ν.1.cls = some m.cls := findClass_of_methodNamed B.named
  have hlocks := B.notSynchronized
  subst hsz
  have hD := hD0.self (sz := s.heap.size)
  have hl := lv_entry (As.map (am_v q)) (n := ν.2.2.1) (by rw [am_sl_len]; exact hlen)
  rw [lg_entry_eq]
  rw [← am_args_lc q As 0] at hl
  refine hJ D q cA (va_A (am_w q cA dm M N) s.heap.size) sk p l e (headSpec (am_ws ν) (am_rm d)).room s m (As.map (am_v q)).toArray below meth c _ s.heap [] 0 0 _ ⟨B.exec, B.bytes, hml, hown, hts, hK, fun _ h => Or.inr h, Nat.le_refl _, Nat.le_refl _, Nat.zero_le _, Nat.zero_le _, hsk⟩ ?_ ⟨hP, hD, va_S.rf⟩ hl
  intro H' locs' pc' ls' v M' N' ha hp hrt
  have fin : ∀ t : State, t.heap = H' → s.WarmedH t.vm → am_Qc D q cA dm (am_w q cA dm M N) s.heap.size post (As.map (am_v q)).toArray s (.returned (v.map (am_v q))) t := by
    intro t ht hW
    exact ⟨⟨v, M', N', rfl, hp, by rw [ht]; exact ha.1, ha.2.1⟩, ha.2.2.F ht⟩
  have hr := B.returns
  rcases v with _ | x | x | x
  · exact W.vret B.exec B.bytes (hr.trans hrt.2) fin ha.2.2.2.2 hrt.1
  · obtain ⟨h1, ty, h2, h3⟩ := hrt
    exact W.zret B.exec B.bytes (hr.trans h2) h3 fin ha.2.2.2.2 h1
  · exact W.lret B.exec B.bytes (hr.trans hrt.2) fin ha.2.2.2.2 hrt.1
  · exact absurd hrt id
theorem am_ws_good (ν : am_Y) {n : Nat} (hB : am_MB ν n) : GoodIn am_tb (am_ws ν) := by
  have h : ∀ w ∈ am_tb, w ∈ am_tb ∧ ((w.onTables && w.keeps) = true ∨ ∃ ty, w = .arrayClass ty) := fun w hw => ⟨hw, good_of_word (List.mem_filter.mp hw).2⟩
  intro w hw
  rcases List.mem_cons.mp hw with rfl | hw
  · exact h _ hB.2.1
  · exact h _ hw
section JC
variable {p : Program} {l : Launch} {e : Env} {R : Room} {s : State} {m : MethodId} {args : Array Value} {below : List Frame} {meth : Method} {c : Code} {H : Heap} {locs : List Loc} {cells slots : Nat} {Q : State → Prop}
theorem am_sub {A : Nat → Prop} {w0 : va_W} (hD : va_D A w0) (hS : va_S A s.heap H locs) (hA : ∀ q, s.heap.size ≤ q → A q) : ∀ q, va_A w0 H.size q → A q := by
  intro q h
  rcases h with ⟨k, e, h⟩ | h
  · exact hD.2 k _ h
  · exact hA q (Nat.le_trans hS.1 h)
theorem am_call {D : va_G} {q : am_C → Nat} {cA : Nat → ClassId} {A : Nat → Prop} {dm : List am_C} {M : am_I} {N : am_N} {post : Option am_V → am_I → am_N → Prop} {a : Array Value} {pc : Nat} {ls : Array Slot} {st0 rest : List Value}
    (hr : va_Run p l e R s m args below meth c H locs cells slots 0 0 (F0 m pc ls st0) rest (am_Qc D q cA dm (am_w q cA dm M N) H.size post a) (va_A (am_w q cA dm M N) H.size)) (ha : am_at D q cA A dm M N s H locs) (hA : ∀ q, s.heap.size ≤ q → A q)
    (kk : ∀ (v : Option am_V) (M' : am_I) (N' : am_N) (H1 : Heap) (locs1 : List Loc), post v M' N' → am_at D q cA A dm M' N' s H1 locs1 → W p l e R s m args below meth c H1 locs1 cells slots Q (F0 m (pc + 3) ls ((v.map (am_v q)).toList ++ rest))) : W p l e R s m args below meth c H locs cells slots Q (F0 m pc ls st0) := by
  obtain ⟨hP, hD, hS⟩ := ha
  have hsub := am_sub hD hS hA
  intro T hT X
  obtain ⟨v, st₀, t, T', L, h0, X', hL, e1, e2, ⟨⟨v', M', N', hv, hp, hP1, hD1⟩, hz, hk⟩, st⟩ := hr T hT X
  cases hv
  rw [h0] at hz hk
  obtain ⟨t2, a1, b1⟩ := kk v' M' N' T'.heap (locs ++ L) hp ⟨by rw [e1]; exact hP1, hD1.weaken (fun _ _ _ h => hsub _ h),
    ⟨Nat.le_trans hS.1 (by rw [e1]; exact hz), fun q h1 h2 => by rw [e1, hk q (Nat.lt_of_lt_of_le h1 hS.1) (fun z => h2 (hsub q z))]; exact hS.2.1 q h1 h2, fun q hq => by
      rcases List.mem_append.mp hq with h | h
      · exact hS.2.2 q h
      · exact hsub _ (hL q h)⟩⟩ T' rfl X'
  exact ⟨t2, st t2 a1, b1⟩
theorem am_pre {D : va_G} {q : am_C → Nat} {cA : Nat → ClassId} {A : Nat → Prop} {sk : (Nat → Nat) × (Nat → Nat)} {dm : List am_C} {M : am_I} {N : am_N} {As : List am_V} (hK : va_K D am_cl (am_tys cA) s) (hsk : am_sK sk A s s.heap) (ha : am_at D q cA A dm M N s H locs) (hA : ∀ q, s.heap.size ≤ q → A q) :
    PreS s H (va_Pc (As.map (am_v q)) (am_Pc D q cA sk (am_w q cA dm M N) H.size)) (As.map (am_v q)) := by
  obtain ⟨hP, hD, hS⟩ := ha
  refine ⟨fun a U g mk h => ?_, fun U hU hW => ⟨rfl, by rw [hU], by rw [hU]; exact hP, va_K.moved hW.alike hK, hD.weaken (fun _ _ _ _ => trivial), ?_⟩⟩
  · obtain ⟨h1, h2, h3, h4, h5, h6⟩ := h
    exact ⟨h1, h2, h3, va_K.moved (u := U) (U := U.calling g mk a) (Vm.Alike.refl U.vm) h4, h5, vk_S.moved (u := U) (U := U.calling g mk a) (Vm.Alike.refl U.vm) h6.1, vk_R.same (u := U) rfl h6.2.1, vk_R.same (u := U) rfl h6.2.2.1, am_nk_same (s := U) rfl h6.2.2.2⟩
  · refine ⟨?_, vk_R.warm hW hsk.2.1, vk_R.warm hW hsk.2.2.1, am_nk_warm hW hsk.2.2.2⟩
    rw [hU]
    exact ((vk_S.kept hsk.1 (fun a h1 h2 => hS.2.1 a h1 h2)).moved hW.alike).narrow (am_sub hD hS hA)
end JC
/-- a call of a static method -/
def am_SS (own : String) (idx : Nat) (ν : am_Y) : Prop := (Cond.methodLink own idx ν.1 ∈ am_tb ∨ ∃ host, Cond.methodLinkNest own idx ν.1 host ∈ am_nst) ∧ Cond.static ν.1 ∈ am_tb
/-- a call of an instance's method, which no class below overrides -/
def am_VS (own : String) (idx : Nat) (ν : am_Y) : Prop := (Cond.methodLink own idx ν.1 ∈ am_tb ∨ ∃ host, Cond.methodLinkNest own idx ν.1 host ∈ am_nst) ∧ Cond.instanceMethod ν.1 ∈ am_tb ∧ Cond.selects ν.1.cls ν.1 ν.1 ∈ am_tb
section JV
variable {d d' : Nat} {μ ν : am_Y} {dm : List am_C} {pc : Nat} {lv : List (Nat × am_V)} {st : List am_V} {M : am_I} {N : am_N} {post post2 : Option am_V → am_I → am_N → Prop}
theorem am_cats (q : am_C → Nat) (st : List am_V) : ((st.map (am_v q)).map fun v => v.category).sum = am_sz st := by
  unfold am_sz
  rw [List.map_map]
  congr 1
  exact List.map_congr_left fun v _ => am_cat_v q v
set_option maxHeartbeats 1000000 in
theorem j_invS {idx n : Nat} {As stA : List am_V} (hd : decode μ.2.1 pc = .ok (.invokestatic idx, 3)) (hs : am_SS μ.1.cls idx ν) (hB : am_MB ν n) (hn : As.length = n) (hst : stA = As.reverse ++ st) (hlen : am_sz As ≤ ν.2.2.1) (hrest : am_sz st ≤ 8) (hdd : d' < d)
    (hJ : jg d' ν dm 0 (am_args 0 As) [] M N post2) (kk : ∀ v M' N', post2 v M' N' → jg d μ dm (pc + 3) lv (v.toList ++ st) M' N' post) : jg d μ dm pc lv stA M N post := by
  intro D q cA A sk p l e R s m args below meth c Q H locs cells slots ls hX hr ha hl
  obtain ⟨hx, hb, hml, hown, hts, hK, hA, hf, hlo, hce, hslo, hsk⟩ := id hX
  have hM := j_met hB hlen hJ l D q cA sk H.size
  have hG := am_ws_good ν hB
  have hrm : (am_rm d').frames + 1 ≤ R.frames ∧ 8 + (ν.2.2.1 + 11) + (am_rm d').locals ≤ R.locals := by
    have h5 := hB.2.2.2.2
    show d' + 1 ≤ R.frames ∧ 8 + (ν.2.2.1 + 11) + 60 * d' ≤ R.locals
    omega
  have hstk : (stA.map (am_v q)) = (As.map (am_v q)).reverse ++ st.map (am_v q) := by rw [hst, List.map_append, List.map_reverse]
  have hroom : 2 * (F0 m pc ls (stA.map (am_v q))).monitorRoom + ((st.map (am_v q)).map fun v => v.category).sum ≤ 8 := lv_room (by rw [am_cats]; exact hrest)
  have run : va_Run p l e R s m args below meth c H locs cells slots 0 0 (F0 m pc ls (stA.map (am_v q))) (st.map (am_v q)) (am_Qc D q cA dm (am_w q cA dm M N) H.size post2 (As.map (am_v q)).toArray) (va_A (am_w q cA dm M N) H.size) := by
    rcases hs.1 with h | ⟨host, h⟩
    · exact va_runS ⟨hx, hb, hml, hown, hts⟩ hM ⟨callB_of n hts hG rfl rfl rfl (hts _ hB.2.2.1) (hts _ h) hB.2.2.2.1 hrm, hts _ hs.2⟩ (am_pre hK hsk ha hA) rfl (by rw [List.length_map]; exact hn) hl.1 hstk hroom hd ⟨hce, hslo⟩
    · exact va_runSN ⟨hx, hb, hml, hown, hts⟩ hM ⟨va_cnB n hts hG rfl rfl rfl (hsk.2.2.2 _ h) (hts _ hB.2.2.1) hB.2.2.2.1 hrm, hts _ hs.2, trivial⟩ (am_pre hK hsk ha hA) rfl (by rw [List.length_map]; exact hn) hl.1 hstk hroom hd ⟨hce, hslo⟩
  refine am_call run ha hA (fun v M' N' H1 locs1 hp ha1 => ?_)
  have := kk v M' N' hp D q cA A sk p l e R s m args below meth c Q H1 locs1 cells slots ls hX hr ha1 hl
  cases v with
  | none => exact this
  | some v => exact this
set_option maxHeartbeats 1000000 in
theorem j_invV {idx n ci : Nat} {a : am_C} {T : u_T} {nf : Nat} {As stA : List am_V} (hd : decode μ.2.1 pc = .ok (.invokevirtual idx, 3)) (hs : am_VS μ.1.cls idx ν) (hB : am_MB ν n) (hn : As.length = n) (hst : stA = As.reverse ++ .inr (.inr a) :: st) (hlen : am_sz (.inr (.inr a) :: As) ≤ ν.2.2.1) (hrest : am_sz st ≤ 8) (hdd : d' < d)
    (hc : a ∈ dm) (hly : am_ly a = (4, ci)) (hcl : am_cl[ci]? = some (ν.1.cls, T, nf))
    (hJ : jg d' ν dm 0 (am_args 0 (.inr (.inr a) :: As)) [] M N post2) (kk : ∀ v M' N', post2 v M' N' → jg d μ dm (pc + 3) lv (v.toList ++ st) M' N' post) : jg d μ dm pc lv stA M N post := by
  intro D q cA A sk p l e R s m args below meth c Q H locs cells slots ls hX hr ha hl
  obtain ⟨hx, hb, hml, hown, hts, hK, hA, hf, hlo, hce, hslo, hsk⟩ := id hX
  have hM := j_met hB hlen hJ l D q cA sk H.size
  have hG := am_ws_good ν hB
  have hrm : (am_rm d').frames + 1 ≤ R.frames ∧ 8 + (ν.2.2.1 + 11) + (am_rm d').locals ≤ R.locals := by
    have h5 := hB.2.2.2.2
    show d' + 1 ≤ R.frames ∧ 8 + (ν.2.2.1 + 11) + 60 * d' ≤ R.locals
    omega
  have hstk : (stA.map (am_v q)) = (As.map (am_v q)).reverse ++ .ref (q a) :: st.map (am_v q) := by rw [hst, List.map_append, List.map_reverse]; rfl
  have hroom : 2 * (F0 m pc ls (stA.map (am_v q))).monitorRoom + ((st.map (am_v q)).map fun v => v.category).sum ≤ 8 := lv_room (by rw [am_cats]; exact hrest)
  obtain ⟨k0, h0⟩ := List.getElem?_of_mem hc
  have he := am_w_at (q := q) (cA := cA) (M := M) (N := N) h0
  rw [am_e_o hly] at he
  have hpre := am_pre (As := .inr (.inr a) :: As) hK hsk ha hA
  have run : va_Run p l e R s m args below meth c H locs cells slots 0 0 (F0 m pc ls (stA.map (am_v q))) (st.map (am_v q)) (am_Qc D q cA dm (am_w q cA dm M N) H.size post2 (Value.ref (q a) :: As.map (am_v q)).toArray) (va_A (am_w q cA dm M N) H.size) := by
    rcases hs.1 with h | ⟨host, h⟩
    · exact va_runV (C := ν.1.cls) ⟨hx, hb, hml, hown, hts⟩ hM ⟨callB_of n hts hG rfl rfl rfl (hts _ hB.2.2.1) (hts _ h) hB.2.2.2.1 hrm, hts _ hs.2.1, hts _ hs.2.2⟩ ⟨hpre.1, va_recv hK ha.1 hcl he, hpre.2⟩ rfl (by rw [List.length_map]; exact hn) hl.1 hstk hroom hd ⟨hce, hslo⟩
    · exact va_runVN (C := ν.1.cls) ⟨hx, hb, hml, hown, hts⟩ hM ⟨va_cnB n hts hG rfl rfl rfl (hsk.2.2.2 _ h) (hts _ hB.2.2.1) hB.2.2.2.1 hrm, hts _ hs.2.1, hts _ hs.2.2⟩ ⟨hpre.1, va_recv hK ha.1 hcl he, hpre.2⟩ rfl (by rw [List.length_map]; exact hn) hl.1 hstk hroom hd ⟨hce, hslo⟩
  refine am_call run ha hA (fun v M' N' H1 locs1 hp ha1 => ?_)
  have := kk v M' N' hp D q cA A sk p l e R s m args below meth c Q H1 locs1 cells slots ls hX hr ha1 hl
  cases v with
  | none => exact this
  | some v => exact this
end JV
end
section
/-! ===== what the written-out methods use ===== -/
def am_pi (post : Int32 → am_I → am_N → Prop) : Option am_V → am_I → am_N → Prop := fun v M N => ∃ r, v = some (.inl r) ∧ post r M N
def am_pl (post : Int64 → am_I → am_N → Prop) : Option am_V → am_I → am_N → Prop := fun v M N => ∃ r, v = some (.inr (.inl r)) ∧ post r M N
def am_pv (post : am_I → am_N → Prop) : Option am_V → am_I → am_N → Prop := fun v M N => v = none ∧ post M N
def am_d0 (dm : List am_C) : Prop := ∀ i, i < 17 → (0, 0, i) ∈ dm
def am_d1 (dm : List am_C) (b : Nat) : Prop := ∀ i, i < 23 → (1, b, i) ∈ dm
def am_d2 (dm : List am_C) : Prop := ∀ t, t < 7 → ∀ i, i < 2 → (2, t, i) ∈ dm
def am_d3 (dm : List am_C) : Prop := ∀ i, i < 45 → (3, 0, i) ∈ dm
def am_fill {α : Type} (M : am_C → Nat → α) (a : am_C) (n : Nat) (v : α) : am_C → Nat → α := am_s M a (fun j => if j < n then v else M a j)
theorem am_mem_all {big ws : List Cond} (ps : List Nat) (hp : ws = ps.filterMap (fun i => big[i]?)) (h : ws.all goodWord = true) : ∀ w ∈ ws, w ∈ big.filter goodWord := by
  intro w hw
  have h1 := List.all_eq_true.mp h w hw
  rw [hp] at hw
  obtain ⟨i, -, hi⟩ := List.mem_filterMap.mp hw
  exact List.mem_filter.mpr ⟨List.mem_of_getElem? hi, h1⟩
theorem am_sw0 {x : Int32} {n : Nat} (h : ∀ k, k < n + 1 → ¬ x = nI k) : x.toInt < 0 ∨ ((n : Nat) : Int) < x.toInt := by
  by_cases h0 : x.toInt < 0
  · exact Or.inl h0
  · refine Or.inr ?_
    have hx : x = nI x.toInt.toNat := by
      have h1 : x.toInt = ((x.toInt.toNat : Nat) : Int) := by omega
      have h2 : x.toInt.toNat < 2 ^ 31 := by have := x.toInt_lt; omega
      apply Int32.toInt_inj.mp
      rw [nI_toInt h2]
      exact h1
    rcases Nat.lt_or_ge x.toInt.toNat (n + 1) with h3 | h3
    · exact absurd hx (h _ h3)
    · omega
theorem am_sw2 {x : Int32} {n : Nat} (h : ∀ k, k < n + 1 → ¬ x = nI (k + 2)) : x.toInt < 2 ∨ ((n + 2 : Nat) : Int) < x.toInt := by
  by_cases h0 : x.toInt < 2
  · exact Or.inl h0
  · refine Or.inr ?_
    have h2 : x.toInt.toNat < 2 ^ 31 := by have := x.toInt_lt; omega
    have hx : x = nI (x.toInt.toNat - 2 + 2) := by
      have h1 : x.toInt = ((x.toInt.toNat - 2 + 2 : Nat) : Int) := by omega
      apply Int32.toInt_inj.mp
      rw [nI_toInt (by omega)]
      exact h1
    rcases Nat.lt_or_ge (x.toInt.toNat - 2) (n + 1) with h3 | h3
    · exact absurd hx (h _ h3)
    · omega
section JS
variable {d : Nat} {μ : am_Y} {dm : List am_C} {pc : Nat} {lv : List (Nat × am_V)} {st : List am_V} {M : am_I} {N : am_N} {post : Option am_V → am_I → am_N → Prop}
theorem j_topi {x : Int32} (kk : ∀ y : Int32, y = x → jg d μ dm pc lv (.inl y :: st) M N post) : jg d μ dm pc lv (.inl x :: st) M N post := kk x rfl
theorem j_topl {x : Int64} (kk : ∀ y : Int64, y = x → jg d μ dm pc lv (.inr (.inl y) :: st) M N post) : jg d μ dm pc lv (.inr (.inl x) :: st) M N post := kk x rfl
theorem j_tabK {dflt lo hi : Int} {offs : Array Int} {len : Nat} {x k : Int32} {off : Int} {tgt : Nat} (hd : decode μ.2.1 pc = .ok (.tableswitch dflt lo hi offs, len)) (hx : x = k) (h1 : ¬ k.toInt < lo) (h2 : ¬ hi < k.toInt) (ho : offs[(k.toInt - lo).toNat]? = some off) (ht : (pc : Int) + off = (tgt : Int)) (kk : jg d μ dm tgt lv st M N post) : jg d μ dm pc lv (.inl x :: st) M N post := by
  subst hx
  exact j_tableIn hd h1 h2 ho ht kk
theorem j_copy {idx n0 n1 : Nat} {a0 a1 : am_C} {sp dp n : Int32} (hd : decode μ.2.1 pc = .ok (.invokestatic idx, 3)) (hlink : Cond.methodLink μ.1.cls idx arraycopyName ∈ am_tb ∧ Cond.native arraycopyName ∈ am_tb ∧ Cond.static arraycopyName ∈ am_tb ∧ Cond.initialized "java/lang/System" ∈ am_tb) (hc0 : a0 ∈ dm) (hc1 : a1 ∈ dm) (hly0 : am_ly a0 = (0, n0)) (hly1 : am_ly a1 = (0, n1))
    (h1 : ¬ sp < 0) (h2 : ¬ dp < 0) (h3 : ¬ n < 0) (h4 : sp.toNatClampNeg + n.toNatClampNeg ≤ n0) (h5 : dp.toNatClampNeg + n.toNatClampNeg ≤ n1) (hst : am_sz st ≤ 8) (hdd : 1 ≤ d)
    (kk : jg d μ dm (pc + 3) lv st (am_s M a1 (va_cpy (M a0) (M a1) sp.toNatClampNeg dp.toNatClampNeg n.toNatClampNeg)) N post) : jg d μ dm pc lv (.inl n :: .inl dp :: .inr (.inr a1) :: .inl sp :: .inr (.inr a0) :: st) M N post := by
  intro D q cA A sk p l e R s m args below meth c Q H locs cells slots ls hX hr ha hl
  obtain ⟨hx, hb, hml, hown, hts, hK, hA, hf, hlo, hce, hslo, hsk⟩ := id hX
  obtain ⟨k0, g0⟩ := List.getElem?_of_mem hc0
  obtain ⟨k1, g1⟩ := List.getElem?_of_mem hc1
  have e0 := am_w_at (q := q) (cA := cA) (M := M) (N := N) g0
  have e1 := am_w_at (q := q) (cA := cA) (M := M) (N := N) g1
  rw [am_e_i hly0] at e0
  rw [am_e_i hly1] at e1
  refine va_copyi hx hb (hml.trans hl.1.symm) hown (hts _ hlink.1) (hts _ hlink.2.1) (hts _ hlink.2.2.1) (hts _ hlink.2.2.2) hK ha.1 ha.2.1 ha.2.2 k0 k1 0 0 e0 e1 (ty := .int) rfl rfl rfl h1 h2 h3 h4 h5 (fun _ _ => rfl) (by omega) ?_ hd (fun H1 locs1 f1 f2 f3 => ?_)
  · rw [am_cats]
    have e9 : nativeFrameWords "java/lang/System" "arraycopy" 5 = 7 := by decide
    rw [e9]
    omega
  · have hset : (am_w q cA dm M N).set k1 (q a1, .inl (cA 0, n1, .inl (va_cpy (M a0) (M a1) sp.toNatClampNeg dp.toNatClampNeg n.toNatClampNeg))) = am_w q cA dm (am_s M a1 (va_cpy (M a0) (M a1) sp.toNatClampNeg dp.toNatClampNeg n.toNatClampNeg)) N := by
      have e2 : am_e q cA (am_s M a1 (va_cpy (M a0) (M a1) sp.toNatClampNeg dp.toNatClampNeg n.toNatClampNeg)) N a1 = .inl (cA 0, n1, .inl (va_cpy (M a0) (M a1) sp.toNatClampNeg dp.toNatClampNeg n.toNatClampNeg)) := by rw [am_e_i hly1]; simp only [am_s_same]
      rw [← e2]
      exact am_w_set ha.2.1 g1 (fun c' h => am_s_other M _ h) (fun c' h => rfl)
    rw [hset] at f1 f2
    exact kk D q cA A sk p l e R s m args below meth c Q H1 locs1 cells slots ls hX hr ⟨f1, f2, f3⟩ hl
end JS
end
section
/-! ===== the methods, the classes, the links ===== -/
theorem am_in0 {w : Cond} (i : Nat) (h : (k2_sels lw_privs)[i]? = some w) (hg : goodWord w = true) : w ∈ am_tb := List.mem_filter.mpr ⟨List.mem_append_left _ (List.mem_of_getElem? h), hg⟩
theorem am_t1 {w : Cond} (i : Nat) (h : tables_1_1[i]? = some w) : w ∈ lw_tbl := List.mem_append_right _ ((List.mem_append_left _ (List.mem_of_getElem? h)))
theorem am_in1 {w : Cond} (i : Nat) (h : tables_1_1[i]? = some w) (hg : goodWord w = true) : w ∈ am_tb := List.mem_filter.mpr ⟨am_t1 i h, hg⟩
theorem am_inN1 {w : Cond} (i : Nat) (h : tables_1_1[i]? = some w) (hg : am_isN w = true) : w ∈ am_nst := List.mem_filter.mpr ⟨am_t1 i h, hg⟩
theorem am_t2 {w : Cond} (i : Nat) (h : tables_1_2[i]? = some w) : w ∈ lw_tbl := List.mem_append_right _ (List.mem_append_right _ ((List.mem_append_left _ (List.mem_of_getElem? h))))
theorem am_in2 {w : Cond} (i : Nat) (h : tables_1_2[i]? = some w) (hg : goodWord w = true) : w ∈ am_tb := List.mem_filter.mpr ⟨am_t2 i h, hg⟩
theorem am_inN2 {w : Cond} (i : Nat) (h : tables_1_2[i]? = some w) (hg : am_isN w = true) : w ∈ am_nst := List.mem_filter.mpr ⟨am_t2 i h, hg⟩
theorem am_t3 {w : Cond} (i : Nat) (h : tables_1_3[i]? = some w) : w ∈ lw_tbl := List.mem_append_right _ (List.mem_append_right _ (List.mem_append_right _ ((List.mem_append_left _ (List.mem_of_getElem? h)))))
theorem am_in3 {w : Cond} (i : Nat) (h : tables_1_3[i]? = some w) (hg : goodWord w = true) : w ∈ am_tb := List.mem_filter.mpr ⟨am_t3 i h, hg⟩
theorem am_inN3 {w : Cond} (i : Nat) (h : tables_1_3[i]? = some w) (hg : am_isN w = true) : w ∈ am_nst := List.mem_filter.mpr ⟨am_t3 i h, hg⟩
theorem am_t4 {w : Cond} (i : Nat) (h : tables_1_4[i]? = some w) : w ∈ lw_tbl := List.mem_append_right _ (List.mem_append_right _ (List.mem_append_right _ (List.mem_append_right _ ((List.mem_append_left _ (List.mem_of_getElem? h))))))
theorem am_in4 {w : Cond} (i : Nat) (h : tables_1_4[i]? = some w) (hg : goodWord w = true) : w ∈ am_tb := List.mem_filter.mpr ⟨am_t4 i h, hg⟩
theorem am_inN4 {w : Cond} (i : Nat) (h : tables_1_4[i]? = some w) (hg : am_isN w = true) : w ∈ am_nst := List.mem_filter.mpr ⟨am_t4 i h, hg⟩
theorem am_t5 {w : Cond} (i : Nat) (h : tables_1_5[i]? = some w) : w ∈ lw_tbl := List.mem_append_right _ (List.mem_append_right _ (List.mem_append_right _ (List.mem_append_right _ (List.mem_append_right _ ((List.mem_append_left _ (List.mem_of_getElem? h)))))))
theorem am_in5 {w : Cond} (i : Nat) (h : tables_1_5[i]? = some w) (hg : goodWord w = true) : w ∈ am_tb := List.mem_filter.mpr ⟨am_t5 i h, hg⟩
theorem am_inN5 {w : Cond} (i : Nat) (h : tables_1_5[i]? = some w) (hg : am_isN w = true) : w ∈ am_nst := List.mem_filter.mpr ⟨am_t5 i h, hg⟩
theorem am_t6 {w : Cond} (i : Nat) (h : tables_1_6[i]? = some w) : w ∈ lw_tbl := List.mem_append_right _ (List.mem_append_right _ (List.mem_append_right _ (List.mem_append_right _ (List.mem_append_right _ (List.mem_append_right _ ((List.mem_append_left _ (List.mem_of_getElem? h))))))))
theorem am_in6 {w : Cond} (i : Nat) (h : tables_1_6[i]? = some w) (hg : goodWord w = true) : w ∈ am_tb := List.mem_filter.mpr ⟨am_t6 i h, hg⟩
theorem am_inN6 {w : Cond} (i : Nat) (h : tables_1_6[i]? = some w) (hg : am_isN w = true) : w ∈ am_nst := List.mem_filter.mpr ⟨am_t6 i h, hg⟩
theorem am_t7 {w : Cond} (i : Nat) (h : tables_1_7[i]? = some w) : w ∈ lw_tbl := List.mem_append_right _ (List.mem_append_right _ (List.mem_append_right _ (List.mem_append_right _ (List.mem_append_right _ (List.mem_append_right _ (List.mem_append_right _ ((List.mem_append_left _ (List.mem_of_getElem? h)))))))))
theorem am_in7 {w : Cond} (i : Nat) (h : tables_1_7[i]? = some w) (hg : goodWord w = true) : w ∈ am_tb := List.mem_filter.mpr ⟨am_t7 i h, hg⟩
theorem am_inN7 {w : Cond} (i : Nat) (h : tables_1_7[i]? = some w) (hg : am_isN w = true) : w ∈ am_nst := List.mem_filter.mpr ⟨am_t7 i h, hg⟩
theorem am_t8 {w : Cond} (i : Nat) (h : tables_1_8[i]? = some w) : w ∈ lw_tbl := List.mem_append_right _ (List.mem_append_right _ (List.mem_append_right _ (List.mem_append_right _ (List.mem_append_right _ (List.mem_append_right _ (List.mem_append_right _ (List.mem_append_right _ (List.mem_of_getElem? h))))))))
theorem am_in8 {w : Cond} (i : Nat) (h : tables_1_8[i]? = some w) (hg : goodWord w = true) : w ∈ am_tb := List.mem_filter.mpr ⟨am_t8 i h, hg⟩
theorem am_inN8 {w : Cond} (i : Nat) (h : tables_1_8[i]? = some w) (hg : am_isN w = true) : w ∈ am_nst := List.mem_filter.mpr ⟨am_t8 i h, hg⟩
def mX0_init : am_Y := (yX0_init, cX0_init, 1, none)
def mX0_hasRoom : am_Y := (yX0_hasRoom, cX0_hasRoom, 2, (some .boolean))
def mX0_fallingAt : am_Y := (yX0_fallingAt, cX0_fallingAt, 5, (some .int))
def mX0_hoursToRain : am_Y := (yX0_hoursToRain, cX0_hoursToRain, 4, (some .int))
def mX1_init : am_Y := (yX1_init, cX1_init, 2, none)
def mX1_begin : am_Y := (yX1_begin, cX1_begin, 1, none)
def mX1_bring : am_Y := (yX1_bring, cX1_bring, 2, none)
def mX1_refill : am_Y := (yX1_refill, cX1_refill, 2, none)
def mX1_isFlat : am_Y := (yX1_isFlat, cX1_isFlat, 2, (some .boolean))
def mX1_plugIn : am_Y := (yX1_plugIn, cX1_plugIn, 3, none)
def mX1_isReady : am_Y := (yX1_isReady, cX1_isReady, 2, (some .boolean))
def mX1_hasPower : am_Y := (yX1_hasPower, cX1_hasPower, 2, (some .boolean))
def mX1_isHome : am_Y := (yX1_isHome, cX1_isHome, 2, (some .boolean))
def mX1_readyOnes : am_Y := (yX1_readyOnes, cX1_readyOnes, 3, (some .int))
def mX1_freeOneStuck : am_Y := (yX1_freeOneStuck, cX1_freeOneStuck, 4, none)
def mX1_hearOf : am_Y := (yX1_hearOf, cX1_hearOf, 4, none)
def mX1_cartsStuck : am_Y := (yX1_cartsStuck, cX1_cartsStuck, 3, (some .int))
def mX1_factOfCart : am_Y := (yX1_factOfCart, cX1_factOfCart, 3, (some .int))
def mX1_isPlace : am_Y := (yX1_isPlace, cX1_isPlace, 1, (some .boolean))
def mX2_init : am_Y := (yX2_init, cX2_init, 1, none)
def mX2_begin : am_Y := (yX2_begin, cX2_begin, 1, none)
def mX2_shape : am_Y := (yX2_shape, cX2_shape, 4, none)
def mX2_rainOn : am_Y := (yX2_rainOn, cX2_rainOn, 3, none)
def mX2_flow : am_Y := (yX2_flow, cX2_flow, 4, none)
def mX2_dry : am_Y := (yX2_dry, cX2_dry, 2, none)
def mX2_allWet : am_Y := (yX2_allWet, cX2_allWet, 4, (some .long))
def mX2_heavy : am_Y := (yX2_heavy, cX2_heavy, 3, (some .int))
def mX2_lowestBeside : am_Y := (yX2_lowestBeside, cX2_lowestBeside, 5, (some .int))
def mX3_init : am_Y := (yX3_init, cX3_init, 1, none)
def mX3_takeOver : am_Y := (yX3_takeOver, cX3_takeOver, 4, none)
def mX3_decide : am_Y := (yX3_decide, cX3_decide, 5, (some .boolean))
def mX3_apply : am_Y := (yX3_apply, cX3_apply, 6, none)
def mX3_joined : am_Y := (yX3_joined, cX3_joined, 5, (some .int))
def mX3_held : am_Y := (yX3_held, cX3_held, 2, (some .int))
def mX3_push : am_Y := (yX3_push, cX3_push, 2, none)
def mX3_pop : am_Y := (yX3_pop, cX3_pop, 1, (some .int))
def mX4_spotOf : am_Y := (yX4_spotOf, cX4_spotOf, 8, (some .int))
def mX4_pullOf : am_Y := (yX4_pullOf, cX4_pullOf, 14, (some .int))
def mX4_cellsReached : am_Y := (yX4_cellsReached, cX4_cellsReached, 12, (some .int))
def mX4_cellNumbered : am_Y := (yX4_cellNumbered, cX4_cellNumbered, 5, (some .int))
def mX4_reached : am_Y := (yX4_reached, cX4_reached, 10, (some .long))
def mX4_stepped : am_Y := (yX4_stepped, cX4_stepped, 6, (some .long))
def mX5_init : am_Y := (yX5_init, cX5_init, 1, none)
def mX5_search : am_Y := (yX5_search, cX5_search, 11, none)
def mX5_takeNearest : am_Y := (yX5_takeNearest, cX5_takeNearest, 4, (some .int))
def mX5_goOnFrom : am_Y := (yX5_goOnFrom, cX5_goOnFrom, 8, none)
def mX5_hasWay : am_Y := (yX5_hasWay, cX5_hasWay, 3, (some .boolean))
def mX5_costTo : am_Y := (yX5_costTo, cX5_costTo, 3, (some .int))
def mX5_stepsTo : am_Y := (yX5_stepsTo, cX5_stepsTo, 3, (some .int))
def mX5_firstTo : am_Y := (yX5_firstTo, cX5_firstTo, 3, (some .int))
def mX5_nearestBeside : am_Y := (yX5_nearestBeside, cX5_nearestBeside, 6, (some .int))
def mX5_isNearer : am_Y := (yX5_isNearer, cX5_isNearer, 4, (some .boolean))
def mX6_init : am_Y := (yX6_init, cX6_init, 2, none)
def mX6_begin : am_Y := (yX6_begin, cX6_begin, 1, none)
def mX6_standsOn : am_Y := (yX6_standsOn, cX6_standsOn, 2, (some .boolean))
def mX6_isIll : am_Y := (yX6_isIll, cX6_isIll, 2, (some .boolean))
def mX6_sow : am_Y := (yX6_sow, cX6_sow, 8, none)
def mX6_expose : am_Y := (yX6_expose, cX6_expose, 3, none)
def mX6_marksOn : am_Y := (yX6_marksOn, cX6_marksOn, 2, (some .int))
def mX6_see : am_Y := (yX6_see, cX6_see, 6, none)
def mX6_weigh : am_Y := (yX6_weigh, cX6_weigh, 10, (some .long))
def mX6_shareOf : am_Y := (yX6_shareOf, cX6_shareOf, 3, (some .int))
def mX6_weedHundredths : am_Y := (yX6_weedHundredths, cX6_weedHundredths, 5, (some .int))
def mX6_sicken : am_Y := (yX6_sicken, cX6_sicken, 3, none)
def mX6_nourish : am_Y := (yX6_nourish, cX6_nourish, 3, none)
def mX6_remove : am_Y := (yX6_remove, cX6_remove, 3, none)
def mX6_drown : am_Y := (yX6_drown, cX6_drown, 3, none)
def mX6_spread : am_Y := (yX6_spread, cX6_spread, 8, none)
def mX6_drawLot : am_Y := (yX6_drawLot, cX6_drawLot, 3, (some .int))
def mX6_grow : am_Y := (yX6_grow, cX6_grow, 3, none)
def mX6_allGot : am_Y := (yX6_allGot, cX6_allGot, 3, (some .int))
def mX7_init : am_Y := (yX7_init, cX7_init, 1, none)
def mX7_hasRoomForFive : am_Y := (yX7_hasRoomForFive, cX7_hasRoomForFive, 1, (some .boolean))
def mX7_append : am_Y := (yX7_append, cX7_append, 3, none)
def mX7_read : am_Y := (yX7_read, cX7_read, 4, (some .int))
def mX7_split : am_Y := (yX7_split, cX7_split, 5, none)
def mX7_addToken : am_Y := (yX7_addToken, cX7_addToken, 3, none)
def mX7_tokenFrom : am_Y := (yX7_tokenFrom, cX7_tokenFrom, 5, (some .int))
def mX7_wordBetween : am_Y := (yX7_wordBetween, cX7_wordBetween, 7, (some .int))
def mX7_numberBetween : am_Y := (yX7_numberBetween, cX7_numberBetween, 5, (some .int))
def mX7_groupOf : am_Y := (yX7_groupOf, cX7_groupOf, 1, (some .int))
def mX7_readStatement : am_Y := (yX7_readStatement, cX7_readStatement, 2, (some .boolean))
def mX7_readAny : am_Y := (yX7_readAny, cX7_readAny, 6, (some .boolean))
def mX7_readOne : am_Y := (yX7_readOne, cX7_readOne, 5, (some .boolean))
def mX7_readSum : am_Y := (yX7_readSum, cX7_readSum, 7, (some .boolean))
def mX7_readAtom : am_Y := (yX7_readAtom, cX7_readAtom, 3, (some .boolean))
def mX7_isOperator : am_Y := (yX7_isOperator, cX7_isOperator, 1, (some .boolean))
def mX7_here : am_Y := (yX7_here, cX7_here, 1, (some .int))
def mX7_placeHere : am_Y := (yX7_placeHere, cX7_placeHere, 1, (some .int))
def mX7_accept : am_Y := (yX7_accept, cX7_accept, 3, (some .boolean))
def mX7_emit : am_Y := (yX7_emit, cX7_emit, 2, none)
def mX8_init : am_Y := (yX8_init, cX8_init, 1, none)
def mX8_lead : am_Y := (yX8_lead, cX8_lead, 1, (some .int))
def mX8_allWays : am_Y := (yX8_allWays, cX8_allWays, 1, (some .int))
def mX8_waysAsGood : am_Y := (yX8_waysAsGood, cX8_waysAsGood, 1, (some .int))
def mX8_waysWithLead : am_Y := (yX8_waysWithLead, cX8_waysWithLead, 5, (some .int))
def mX8_armsAsDealt : am_Y := (yX8_armsAsDealt, cX8_armsAsDealt, 3, (some .int))
def mX8_leadOf : am_Y := (yX8_leadOf, cX8_leadOf, 6, (some .int))
def mX9_init : am_Y := (yX9_init, cX9_init, 3, none)
def mX9_isFull : am_Y := (yX9_isFull, cX9_isFull, 1, (some .boolean))
def mX9_has : am_Y := (yX9_has, cX9_has, 2, (some .boolean))
def mX9_at : am_Y := (yX9_at, cX9_at, 3, (some .int))
def mX9_add : am_Y := (yX9_add, cX9_add, 7, none)
def mX9_put : am_Y := (yX9_put, cX9_put, 3, none)
def mX10_init : am_Y := (yX10_init, cX10_init, 3, none)
def mX10_begin : am_Y := (yX10_begin, cX10_begin, 3, none)
def mX10_leavesOut : am_Y := (yX10_leavesOut, cX10_leavesOut, 3, (some .boolean))
def mX10_playTo : am_Y := (yX10_playTo, cX10_playTo, 3, none)
def mX10_hearTold : am_Y := (yX10_hearTold, cX10_hearTold, 2, none)
def mX10_hear : am_Y := (yX10_hear, cX10_hear, 4, none)
def mX10_adjust : am_Y := (yX10_adjust, cX10_adjust, 3, none)
def mX10_bringCart : am_Y := (yX10_bringCart, cX10_bringCart, 2, none)
def mX10_openWork : am_Y := (yX10_openWork, cX10_openWork, 2, none)
def mX10_passHour : am_Y := (yX10_passHour, cX10_passHour, 2, none)
def mX10_makeOffers : am_Y := (yX10_makeOffers, cX10_makeOffers, 6, none)
def mX10_ofKind : am_Y := (yX10_ofKind, cX10_ofKind, 4, (some .int))
def mX10_cheapest : am_Y := (yX10_cheapest, cX10_cheapest, 8, (some .int))
def mX10_goalOf : am_Y := (yX10_goalOf, cX10_goalOf, 4, (some .int))
def mX10_takeOn : am_Y := (yX10_takeOn, cX10_takeOn, 3, none)
def mX10_takeTurn : am_Y := (yX10_takeTurn, cX10_takeTurn, 2, none)
def mX10_isAtWork : am_Y := (yX10_isAtWork, cX10_isAtWork, 4, (some .boolean))
def mX10_doWork : am_Y := (yX10_doWork, cX10_doWork, 4, none)
def mX10_move : am_Y := (yX10_move, cX10_move, 5, none)
def mX10_leaveWork : am_Y := (yX10_leaveWork, cX10_leaveWork, 4, none)
def mX10_factOfCell : am_Y := (yX10_factOfCell, cX10_factOfCell, 4, (some .int))
def mX10_gatherFacts : am_Y := (yX10_gatherFacts, cX10_gatherFacts, 3, none)
def mX10_stateOfWork : am_Y := (yX10_stateOfWork, cX10_stateOfWork, 2, (some .int))
def mX10_doerOfWork : am_Y := (yX10_doerOfWork, cX10_doerOfWork, 2, (some .int))
def mX10_worksThatAre : am_Y := (yX10_worksThatAre, cX10_worksThatAre, 4, (some .int))
def mX11_init : am_Y := (yX11_init, cX11_init, 1, none)
def mX11_land : am_Y := (yX11_land, cX11_land, 4, (some .boolean))
def mX11_set : am_Y := (yX11_set, cX11_set, 3, (some .boolean))
def mX11_rain : am_Y := (yX11_rain, cX11_rain, 4, (some .int))
def mX11_cart : am_Y := (yX11_cart, cX11_cart, 6, (some .int))
def mX11_charge : am_Y := (yX11_charge, cX11_charge, 2, (some .boolean))
def mX11_work : am_Y := (yX11_work, cX11_work, 4, (some .int))
def mX11_lot : am_Y := (yX11_lot, cX11_lot, 2, (some .int))
def mX11_kind : am_Y := (yX11_kind, cX11_kind, 7, (some .int))
def mX11_plant : am_Y := (yX11_plant, cX11_plant, 2, (some .boolean))
def mX11_show : am_Y := (yX11_show, cX11_show, 3, (some .boolean))
def mX11_look : am_Y := (yX11_look, cX11_look, 3, (some .boolean))
def mX11_ill : am_Y := (yX11_ill, cX11_ill, 3, (some .boolean))
def mX11_pass : am_Y := (yX11_pass, cX11_pass, 2, (some .int))
def mX11_cell : am_Y := (yX11_cell, cX11_cell, 3, (some .int))
def mX11_share : am_Y := (yX11_share, cX11_share, 3, (some .int))
def mX11_told : am_Y := (yX11_told, cX11_told, 3, (some .int))
def mX11_job : am_Y := (yX11_job, cX11_job, 3, (some .int))
def mX11_way : am_Y := (yX11_way, cX11_way, 4, (some .int))
def mX11_water : am_Y := (yX11_water, cX11_water, 2, (some .long))
def mX11_spot : am_Y := (yX11_spot, cX11_spot, 3, (some .int))
def mX11_pull : am_Y := (yX11_pull, cX11_pull, 4, (some .int))
def mX11_strip : am_Y := (yX11_strip, cX11_strip, 3, (some .int))
def mX11_better : am_Y := (yX11_better, cX11_better, 2, (some .int))
def mX11_feed : am_Y := (yX11_feed, cX11_feed, 6, (some .int))
def mX11_rules : am_Y := (yX11_rules, cX11_rules, 2, (some .int))
def mX11_fault : am_Y := (yX11_fault, cX11_fault, 1, (some .int))
def mX11_act : am_Y := (yX11_act, cX11_act, 3, (some .int))
def mX11_plan : am_Y := (yX11_plan, cX11_plan, 2, (some .int))
def mX11_again : am_Y := (yX11_again, cX11_again, 5, (some .int))
def mX11_count : am_Y := (yX11_count, cX11_count, 2, (some .int))
def mX11_tell : am_Y := (yX11_tell, cX11_tell, 5, (some .boolean))
def mX11_tellNewest : am_Y := (yX11_tellNewest, cX11_tellNewest, 4, (some .int))
def mX11_addWork : am_Y := (yX11_addWork, cX11_addWork, 4, (some .int))
def mX11_findsAct : am_Y := (yX11_findsAct, cX11_findsAct, 2, (some .boolean))
def mX11_canLeaveOut : am_Y := (yX11_canLeaveOut, cX11_canLeaveOut, 3, (some .boolean))
def mX11_within : am_Y := (yX11_within, cX11_within, 3, (some .boolean))
def mX11_isCell : am_Y := (yX11_isCell, cX11_isCell, 1, (some .boolean))
def mX11_isOdds : am_Y := (yX11_isOdds, cX11_isOdds, 1, (some .boolean))
def mX11_areMarks : am_Y := (yX11_areMarks, cX11_areMarks, 1, (some .boolean))
def mX11_isSetting : am_Y := (yX11_isSetting, cX11_isSetting, 2, (some .boolean))
def mX11_beside : am_Y := (yX11_beside, cX11_beside, 2, (some .int))
def mX11_far : am_Y := (yX11_far, cX11_far, 2, (some .int))
def mX11_bit : am_Y := (yX11_bit, cX11_bit, 1, (some .long))
def mX12_init : am_Y := (yX12_init, cX12_init, 1, none)
def mX12_begins : am_Y := (yX12_begins, cX12_begins, 2, none)
def mX12_isIn : am_Y := (yX12_isIn, cX12_isIn, 3, (some .boolean))
def mX12_one : am_Y := (yX12_one, cX12_one, 1, (some .int))
def mX12_isCell : am_Y := (yX12_isCell, cX12_isCell, 1, (some .boolean))
def mX12_far : am_Y := (yX12_far, cX12_far, 2, (some .int))
def mX12_beside : am_Y := (yX12_beside, cX12_beside, 2, (some .int))
def mX12_isBut : am_Y := (yX12_isBut, cX12_isBut, 3, (some .boolean))
def mX12_tells : am_Y := (yX12_tells, cX12_tells, 5, none)
def mX12_does : am_Y := (yX12_does, cX12_does, 4, none)
def mX12_comes : am_Y := (yX12_comes, cX12_comes, 2, none)
def mX12_charged : am_Y := (yX12_charged, cX12_charged, 2, none)
def mX12_land : am_Y := (yX12_land, cX12_land, 4, (some .boolean))
def mX12_isSet : am_Y := (yX12_isSet, cX12_isSet, 2, (some .boolean))
def mX12_set : am_Y := (yX12_set, cX12_set, 3, (some .boolean))
def mX12_rain : am_Y := (yX12_rain, cX12_rain, 4, (some .int))
def mX12_cart : am_Y := (yX12_cart, cX12_cart, 6, (some .int))
def mX12_isCart : am_Y := (yX12_isCart, cX12_isCart, 2, (some .boolean))
def mX12_charge : am_Y := (yX12_charge, cX12_charge, 2, (some .boolean))
def mX12_work : am_Y := (yX12_work, cX12_work, 4, (some .int))
def mX12_lot : am_Y := (yX12_lot, cX12_lot, 2, (some .int))
def mX12_kind : am_Y := (yX12_kind, cX12_kind, 7, (some .int))
def mX12_has : am_Y := (yX12_has, cX12_has, 2, (some .boolean))
def mX12_plant : am_Y := (yX12_plant, cX12_plant, 2, (some .boolean))
def mX12_show : am_Y := (yX12_show, cX12_show, 3, (some .boolean))
def mX12_look : am_Y := (yX12_look, cX12_look, 3, (some .boolean))
def mX12_ill : am_Y := (yX12_ill, cX12_ill, 3, (some .boolean))
def mX12_grows : am_Y := (yX12_grows, cX12_grows, 4, none)
def mX12_seen : am_Y := (yX12_seen, cX12_seen, 7, none)
def mX12_dies : am_Y := (yX12_dies, cX12_dies, 3, none)
def mX12_weeds : am_Y := (yX12_weeds, cX12_weeds, 5, (some .int))
def mX12_heavy : am_Y := (yX12_heavy, cX12_heavy, 3, (some .int))
def mX12_mayEnter : am_Y := (yX12_mayEnter, cX12_mayEnter, 3, (some .boolean))
def mX12_isGoal : am_Y := (yX12_isGoal, cX12_isGoal, 3, (some .boolean))
def mX12_ways : am_Y := (yX12_ways, cX12_ways, 6, none)
def mX12_nextOf : am_Y := (yX12_nextOf, cX12_nextOf, 5, (some .int))
def mX12_way : am_Y := (yX12_way, cX12_way, 6, (some .int))
def mX12_rains : am_Y := (yX12_rains, cX12_rains, 3, none)
def mX12_flows : am_Y := (yX12_flows, cX12_flows, 4, none)
def mX12_dries : am_Y := (yX12_dries, cX12_dries, 2, none)
def mX12_mayTake : am_Y := (yX12_mayTake, cX12_mayTake, 3, (some .boolean))
def mX12_offers : am_Y := (yX12_offers, cX12_offers, 8, none)
def mX12_gives : am_Y := (yX12_gives, cX12_gives, 2, none)
def mX12_drops : am_Y := (yX12_drops, cX12_drops, 3, none)
def mX12_works : am_Y := (yX12_works, cX12_works, 4, none)
def mX12_pulls : am_Y := (yX12_pulls, cX12_pulls, 4, none)
def mX12_moves : am_Y := (yX12_moves, cX12_moves, 7, none)
def mX12_enters : am_Y := (yX12_enters, cX12_enters, 4, none)
def mX12_acts : am_Y := (yX12_acts, cX12_acts, 2, none)
def mX12_ends : am_Y := (yX12_ends, cX12_ends, 3, none)
def mX12_lotIsLow : am_Y := (yX12_lotIsLow, cX12_lotIsLow, 2, (some .boolean))
def mX12_hour : am_Y := (yX12_hour, cX12_hour, 2, none)
def mX12_pass : am_Y := (yX12_pass, cX12_pass, 3, (some .int))
def mX12_cellOf : am_Y := (yX12_cellOf, cX12_cellOf, 4, (some .int))
def mX12_cell : am_Y := (yX12_cell, cX12_cell, 3, (some .int))
def mX12_share : am_Y := (yX12_share, cX12_share, 3, (some .int))
def mX12_told : am_Y := (yX12_told, cX12_told, 5, (some .int))
def mX12_job : am_Y := (yX12_job, cX12_job, 3, (some .int))
def mX12_water : am_Y := (yX12_water, cX12_water, 5, (some .long))
def mX12_spreads : am_Y := (yX12_spreads, cX12_spreads, 6, none)
def mX12_isSpot : am_Y := (yX12_isSpot, cX12_isSpot, 5, (some .boolean))
def mX12_illMany : am_Y := (yX12_illMany, cX12_illMany, 3, (some .int))
def mX12_spot : am_Y := (yX12_spot, cX12_spot, 5, (some .int))
def mX12_finds : am_Y := (yX12_finds, cX12_finds, 4, none)
def mX12_reached : am_Y := (yX12_reached, cX12_reached, 5, (some .int))
def mX12_bits : am_Y := (yX12_bits, cX12_bits, 3, (some .int))
def mX12_pull : am_Y := (yX12_pull, cX12_pull, 8, (some .int))
def mX12_strip : am_Y := (yX12_strip, cX12_strip, 3, (some .int))
def mX12_leadOf : am_Y := (yX12_leadOf, cX12_leadOf, 6, (some .int))
def mX12_better : am_Y := (yX12_better, cX12_better, 6, (some .int))
def mX12_again : am_Y := (yX12_again, cX12_again, 13, (some .int))
def mX12_feed : am_Y := (yX12_feed, cX12_feed, 6, (some .int))
def mX12_four : am_Y := (yX12_four, cX12_four, 3, none)
def mX12_blanks : am_Y := (yX12_blanks, cX12_blanks, 1, none)
def mX12_word : am_Y := (yX12_word, cX12_word, 3, (some .long))
def mX12_takes : am_Y := (yX12_takes, cX12_takes, 3, (some .boolean))
def mX12_takesSign : am_Y := (yX12_takesSign, cX12_takesSign, 2, (some .boolean))
def mX12_takesNumber : am_Y := (yX12_takesNumber, cX12_takesNumber, 2, (some .boolean))
def mX12_asked : am_Y := (yX12_asked, cX12_asked, 2, (some .int))
def mX12_puts : am_Y := (yX12_puts, cX12_puts, 3, none)
def mX12_opens : am_Y := (yX12_opens, cX12_opens, 1, (some .boolean))
def mX12_atom : am_Y := (yX12_atom, cX12_atom, 2, (some .boolean))
def mX12_product : am_Y := (yX12_product, cX12_product, 2, (some .boolean))
def mX12_ex : am_Y := (yX12_ex, cX12_ex, 2, (some .boolean))
def mX12_single : am_Y := (yX12_single, cX12_single, 2, (some .boolean))
def mX12_all : am_Y := (yX12_all, cX12_all, 1, (some .boolean))
def mX12_any : am_Y := (yX12_any, cX12_any, 1, (some .boolean))
def mX12_statement : am_Y := (yX12_statement, cX12_statement, 2, (some .boolean))
def mX12_rules : am_Y := (yX12_rules, cX12_rules, 4, (some .int))
def mX12_fault : am_Y := (yX12_fault, cX12_fault, 1, (some .int))
def mX12_held : am_Y := (yX12_held, cX12_held, 2, (some .long))
def mX12_bit : am_Y := (yX12_bit, cX12_bit, 1, (some .long))
def mX12_both : am_Y := (yX12_both, cX12_both, 5, (some .long))
def mX12_runs : am_Y := (yX12_runs, cX12_runs, 6, (some .long))
def mX12_nextRain : am_Y := (yX12_nextRain, cX12_nextRain, 3, (some .int))
def mX12_toDo : am_Y := (yX12_toDo, cX12_toDo, 4, (some .int))
def mX12_act : am_Y := (yX12_act, cX12_act, 4, (some .int))
def mX12_plan : am_Y := (yX12_plan, cX12_plan, 3, (some .int))
def mX12_manyOf : am_Y := (yX12_manyOf, cX12_manyOf, 5, (some .int))
def mX12_count : am_Y := (yX12_count, cX12_count, 4, (some .int))
def mJ6_bitCount_0f7a4 : am_Y := (yJ6_bitCount_0f7a4, cJ6_bitCount_0f7a4, 1, (some .int))
def mJ13_bitCount_95d88 : am_Y := (yJ13_bitCount_95d88, cJ13_bitCount_95d88, 2, (some .int))
def mJ9_abs_0f7a4 : am_Y := (yJ9_abs_0f7a4, cJ9_abs_0f7a4, 1, (some .int))
def mJ9_max_7cf53 : am_Y := (yJ9_max_7cf53, cJ9_max_7cf53, 2, (some .int))
def mJ9_max_f86c9 : am_Y := (yJ9_max_f86c9, cJ9_max_f86c9, 4, (some .long))
def mJ9_min_7cf53 : am_Y := (yJ9_min_7cf53, cJ9_min_7cf53, 2, (some .int))
def mJ9_min_f86c9 : am_Y := (yJ9_min_f86c9, cJ9_min_f86c9, 4, (some .long))
def mJ7_fill_d0a16 : am_Y := (yJ7_fill_d0a16, cJ7_fill_d0a16, 5, none)
def mJ7_fill_53178 : am_Y := (yJ7_fill_53178, cJ7_fill_53178, 4, none)
set_option maxRecDepth 100000 in
theorem cb0 : am_CB 0 RX0 TX0 6 tyX0 := ⟨rfl, am_mem_all [184, 186, 188, 190, 192, 194] (by decide +kernel) (by decide +kernel), tyX0_ok, nmX0, rfl, by decide +kernel⟩
set_option maxRecDepth 100000 in
theorem cb1 : am_CB 1 RX1 TX1 6 tyX1 := ⟨rfl, am_mem_all [322, 324, 326, 328, 330, 332] (by decide +kernel) (by decide +kernel), tyX1_ok, nmX1, rfl, by decide +kernel⟩
set_option maxRecDepth 100000 in
theorem cb2 : am_CB 2 RX2 TX2 6 tyX2 := ⟨rfl, am_mem_all [244, 246, 248, 250, 252, 254] (by decide +kernel) (by decide +kernel), tyX2_ok, nmX2, rfl, by decide +kernel⟩
set_option maxRecDepth 100000 in
theorem cb3 : am_CB 3 RX3 TX3 8 tyX3 := ⟨rfl, am_mem_all [464, 466, 468, 470, 472, 474, 476, 478] (by decide +kernel) (by decide +kernel), tyX3_ok, nmX3, rfl, by decide +kernel⟩
set_option maxRecDepth 100000 in
theorem cb4 : am_CB 4 RX5 TX5 5 tyX5 := ⟨rfl, am_mem_all [208, 210, 212, 214, 216] (by decide +kernel) (by decide +kernel), tyX5_ok, nmX5, rfl, by decide +kernel⟩
set_option maxRecDepth 100000 in
theorem cb5 : am_CB 5 RX6 TX6 11 tyX6 := ⟨rfl, am_mem_all [280, 282, 284, 286, 288, 290, 292, 294, 296, 298, 300] (by decide +kernel) (by decide +kernel), tyX6_ok, nmX6, rfl, by decide +kernel⟩
set_option maxRecDepth 100000 in
theorem cb6 : am_CB 6 RX7 TX7 9 tyX7 := ⟨rfl, am_mem_all [427, 429, 431, 433, 435, 437, 439, 441, 443] (by decide +kernel) (by decide +kernel), tyX7_ok, nmX7, rfl, by decide +kernel⟩
set_option maxRecDepth 100000 in
theorem cb7 : am_CB 7 RX8 TX8 1 tyX8 := ⟨rfl, am_mem_all [491] (by decide +kernel) (by decide +kernel), tyX8_ok, nmX8, rfl, by decide +kernel⟩
set_option maxRecDepth 100000 in
theorem cb8 : am_CB 8 RX9 TX9 4 tyX9 := ⟨rfl, am_mem_all [156, 158, 160, 162] (by decide +kernel) (by decide +kernel), tyX9_ok, nmX9, rfl, by decide +kernel⟩
set_option maxRecDepth 100000 in
theorem cb9 : am_CB 9 RX10 TX10 14 tyX10 := ⟨rfl, am_mem_all [379, 381, 383, 385, 387, 389, 391, 393, 395, 397, 399, 401, 403, 405] (by decide +kernel) (by decide +kernel), tyX10_ok, nmX10, rfl, by decide +kernel⟩
set_option maxRecDepth 100000 in
theorem cb10 : am_CB 10 RX11 TX11 10 tyX11 := ⟨rfl, am_mem_all [504, 506, 508, 510, 512, 514, 516, 518, 520, 522] (by decide +kernel) (by decide +kernel), tyX11_ok, nmX11, rfl, by decide +kernel⟩
set_option maxRecDepth 100000 in
theorem cb11 : am_CB 11 RX12 TX12 65 tyX12 := ⟨rfl, am_mem_all [1414, 1416, 1418, 1420, 1422, 1424, 1426, 1428, 1430, 1432, 1434, 1436, 1438, 1440, 1442, 1444, 1446, 1448, 1450, 1452, 1454, 1456, 1458, 1460, 1462, 1464, 1466, 1468, 1470, 1472, 1474, 1476, 1478, 1480, 1482, 1484, 1486, 1488, 1490, 1492, 1494, 1496, 1498, 1500, 1502, 1504, 1506, 1508, 1510, 1512, 1514, 1516, 1518, 1520, 1522, 1524, 1526, 1528, 1530, 1532, 1534, 1536, 1538, 1540, 1542] (by decide +kernel) (by decide +kernel), tyX12_ok, nmX12, rfl, by decide +kernel⟩
set_option maxRecDepth 100000 in
theorem fsRX0_14 : am_FS RX0 14 0 0 2 := ⟨RX0, TX0, 6, tyX0, cb0, rfl, by decide, Or.inl (am_in1 62 rfl rfl)⟩
set_option maxRecDepth 100000 in
theorem fsRX0_20 : am_FS RX0 20 0 1 2 := ⟨RX0, TX0, 6, tyX0, cb0, rfl, by decide, Or.inl (am_in1 65 rfl rfl)⟩
set_option maxRecDepth 100000 in
theorem fsRX0_39 : am_FS RX0 39 8 3 0 := ⟨RX9, TX9, 4, tyX9, cb8, rfl, by decide, Or.inr ⟨"PloughField", am_inN1 48 rfl rfl⟩⟩
set_option maxRecDepth 100000 in
theorem fwRX0_39 : am_FW RX0 39 8 3 0 := ⟨RX9, TX9, 4, tyX9, cb8, rfl, by decide, rfl, Or.inl ⟨rfl, by decide +kernel⟩, Or.inr ⟨"PloughField", am_inN1 48 rfl rfl⟩⟩
set_option maxRecDepth 100000 in
theorem fsRX1_9 : am_FS RX1 9 1 1 2 := ⟨RX1, TX1, 6, tyX1, cb1, rfl, by decide, Or.inl (am_in1 207 rfl rfl)⟩
set_option maxRecDepth 100000 in
theorem fsRX1_15 : am_FS RX1 15 1 2 2 := ⟨RX1, TX1, 6, tyX1, cb1, rfl, by decide, Or.inl (am_in1 210 rfl rfl)⟩
set_option maxRecDepth 100000 in
theorem fsRX1_18 : am_FS RX1 18 1 3 2 := ⟨RX1, TX1, 6, tyX1, cb1, rfl, by decide, Or.inl (am_in1 212 rfl rfl)⟩
set_option maxRecDepth 100000 in
theorem fsRX1_21 : am_FS RX1 21 1 4 2 := ⟨RX1, TX1, 6, tyX1, cb1, rfl, by decide, Or.inl (am_in1 214 rfl rfl)⟩
set_option maxRecDepth 100000 in
theorem fsRX1_24 : am_FS RX1 24 1 5 2 := ⟨RX1, TX1, 6, tyX1, cb1, rfl, by decide, Or.inl (am_in1 216 rfl rfl)⟩
set_option maxRecDepth 100000 in
theorem fsRX1_28 : am_FS RX1 28 1 0 2 := ⟨RX1, TX1, 6, tyX1, cb1, rfl, by decide, Or.inl (am_in1 206 rfl rfl)⟩
set_option maxRecDepth 100000 in
theorem fsRX1_45 : am_FS RX1 45 0 2 2 := ⟨RX0, TX0, 6, tyX0, cb0, rfl, by decide, Or.inr ⟨"PloughField", am_inN1 68 rfl rfl⟩⟩
set_option maxRecDepth 100000 in
theorem fsRX10_9 : am_FS RX10 9 9 5 2 := ⟨RX10, TX10, 14, tyX10, cb9, rfl, by decide, Or.inl (am_in2 24 rfl rfl)⟩
set_option maxRecDepth 100000 in
theorem fsRX10_15 : am_FS RX10 15 9 6 2 := ⟨RX10, TX10, 14, tyX10, cb9, rfl, by decide, Or.inl (am_in2 25 rfl rfl)⟩
set_option maxRecDepth 100000 in
theorem fsRX10_18 : am_FS RX10 18 9 7 2 := ⟨RX10, TX10, 14, tyX10, cb9, rfl, by decide, Or.inl (am_in2 26 rfl rfl)⟩
set_option maxRecDepth 100000 in
theorem fsRX10_21 : am_FS RX10 21 9 0 2 := ⟨RX10, TX10, 14, tyX10, cb9, rfl, by decide, Or.inl (am_in2 16 rfl rfl)⟩
set_option maxRecDepth 100000 in
theorem fsRX10_25 : am_FS RX10 25 9 1 2 := ⟨RX10, TX10, 14, tyX10, cb9, rfl, by decide, Or.inl (am_in2 17 rfl rfl)⟩
set_option maxRecDepth 100000 in
theorem fsRX10_32 : am_FS RX10 32 9 2 2 := ⟨RX10, TX10, 14, tyX10, cb9, rfl, by decide, Or.inl (am_in2 18 rfl rfl)⟩
set_option maxRecDepth 100000 in
theorem fsRX10_41 : am_FS RX10 41 9 3 2 := ⟨RX10, TX10, 14, tyX10, cb9, rfl, by decide, Or.inl (am_in2 20 rfl rfl)⟩
set_option maxRecDepth 100000 in
theorem fsRX10_48 : am_FS RX10 48 9 4 2 := ⟨RX10, TX10, 14, tyX10, cb9, rfl, by decide, Or.inl (am_in2 22 rfl rfl)⟩
set_option maxRecDepth 100000 in
theorem fsRX10_66 : am_FS RX10 66 9 8 0 := ⟨RX10, TX10, 14, tyX10, cb9, rfl, by decide, Or.inl (am_in2 28 rfl rfl)⟩
set_option maxRecDepth 100000 in
theorem fwRX10_66 : am_FW RX10 66 9 8 0 := ⟨RX10, TX10, 14, tyX10, cb9, rfl, by decide, rfl, Or.inl ⟨rfl, by decide +kernel⟩, Or.inl (am_in2 28 rfl rfl)⟩
set_option maxRecDepth 100000 in
theorem fsRX10_70 : am_FS RX10 70 9 9 0 := ⟨RX10, TX10, 14, tyX10, cb9, rfl, by decide, Or.inl (am_in2 30 rfl rfl)⟩
set_option maxRecDepth 100000 in
theorem fwRX10_70 : am_FW RX10 70 9 9 0 := ⟨RX10, TX10, 14, tyX10, cb9, rfl, by decide, rfl, Or.inl ⟨rfl, by decide +kernel⟩, Or.inl (am_in2 30 rfl rfl)⟩
set_option maxRecDepth 100000 in
theorem fsRX10_73 : am_FS RX10 73 9 10 0 := ⟨RX10, TX10, 14, tyX10, cb9, rfl, by decide, Or.inl (am_in2 31 rfl rfl)⟩
set_option maxRecDepth 100000 in
theorem fwRX10_73 : am_FW RX10 73 9 10 0 := ⟨RX10, TX10, 14, tyX10, cb9, rfl, by decide, rfl, Or.inl ⟨rfl, by decide +kernel⟩, Or.inl (am_in2 31 rfl rfl)⟩
set_option maxRecDepth 100000 in
theorem fsRX10_76 : am_FS RX10 76 9 11 0 := ⟨RX10, TX10, 14, tyX10, cb9, rfl, by decide, Or.inl (am_in2 32 rfl rfl)⟩
set_option maxRecDepth 100000 in
theorem fwRX10_76 : am_FW RX10 76 9 11 0 := ⟨RX10, TX10, 14, tyX10, cb9, rfl, by decide, rfl, Or.inl ⟨rfl, by decide +kernel⟩, Or.inl (am_in2 32 rfl rfl)⟩
set_option maxRecDepth 100000 in
theorem fsRX10_79 : am_FS RX10 79 9 12 0 := ⟨RX10, TX10, 14, tyX10, cb9, rfl, by decide, Or.inl (am_in2 33 rfl rfl)⟩
set_option maxRecDepth 100000 in
theorem fwRX10_79 : am_FW RX10 79 9 12 0 := ⟨RX10, TX10, 14, tyX10, cb9, rfl, by decide, rfl, Or.inl ⟨rfl, by decide +kernel⟩, Or.inl (am_in2 33 rfl rfl)⟩
set_option maxRecDepth 100000 in
theorem fsRX10_82 : am_FS RX10 82 9 13 0 := ⟨RX10, TX10, 14, tyX10, cb9, rfl, by decide, Or.inl (am_in2 34 rfl rfl)⟩
set_option maxRecDepth 100000 in
theorem fwRX10_82 : am_FW RX10 82 9 13 0 := ⟨RX10, TX10, 14, tyX10, cb9, rfl, by decide, rfl, Or.inl ⟨rfl, by decide +kernel⟩, Or.inl (am_in2 34 rfl rfl)⟩
set_option maxRecDepth 100000 in
theorem fsRX10_91 : am_FS RX10 91 0 0 2 := ⟨RX0, TX0, 6, tyX0, cb0, rfl, by decide, Or.inr ⟨"PloughField", am_inN1 63 rfl rfl⟩⟩
set_option maxRecDepth 100000 in
theorem fsRX10_97 : am_FS RX10 97 8 3 0 := ⟨RX9, TX9, 4, tyX9, cb8, rfl, by decide, Or.inr ⟨"PloughField", am_inN1 49 rfl rfl⟩⟩
set_option maxRecDepth 100000 in
theorem fwRX10_97 : am_FW RX10 97 8 3 0 := ⟨RX9, TX9, 4, tyX9, cb8, rfl, by decide, rfl, Or.inl ⟨rfl, by decide +kernel⟩, Or.inr ⟨"PloughField", am_inN1 49 rfl rfl⟩⟩
set_option maxRecDepth 100000 in
theorem fsRX10_182 : am_FS RX10 182 0 3 2 := ⟨RX0, TX0, 6, tyX0, cb0, rfl, by decide, Or.inr ⟨"PloughField", am_inN1 72 rfl rfl⟩⟩
set_option maxRecDepth 100000 in
theorem fsRX10_189 : am_FS RX10 189 0 2 2 := ⟨RX0, TX0, 6, tyX0, cb0, rfl, by decide, Or.inr ⟨"PloughField", am_inN1 70 rfl rfl⟩⟩
set_option maxRecDepth 100000 in
theorem fsRX10_216 : am_FS RX10 216 1 4 2 := ⟨RX1, TX1, 6, tyX1, cb1, rfl, by decide, Or.inr ⟨"PloughField", am_inN1 215 rfl rfl⟩⟩
set_option maxRecDepth 100000 in
theorem fsRX10_219 : am_FS RX10 219 1 3 2 := ⟨RX1, TX1, 6, tyX1, cb1, rfl, by decide, Or.inr ⟨"PloughField", am_inN1 213 rfl rfl⟩⟩
set_option maxRecDepth 100000 in
theorem fsRX10_241 : am_FS RX10 241 1 1 2 := ⟨RX1, TX1, 6, tyX1, cb1, rfl, by decide, Or.inr ⟨"PloughField", am_inN1 209 rfl rfl⟩⟩
set_option maxRecDepth 100000 in
theorem fsRX10_268 : am_FS RX10 268 1 2 2 := ⟨RX1, TX1, 6, tyX1, cb1, rfl, by decide, Or.inr ⟨"PloughField", am_inN1 211 rfl rfl⟩⟩
set_option maxRecDepth 100000 in
theorem fsRX10_271 : am_FS RX10 271 2 2 2 := ⟨RX2, TX2, 6, tyX2, cb2, rfl, by decide, Or.inr ⟨"PloughField", am_inN1 134 rfl rfl⟩⟩
set_option maxRecDepth 100000 in
theorem fsRX10_277 : am_FS RX10 277 2 1 2 := ⟨RX2, TX2, 6, tyX2, cb2, rfl, by decide, Or.inr ⟨"PloughField", am_inN1 131 rfl rfl⟩⟩
set_option maxRecDepth 100000 in
theorem fsRX10_286 : am_FS RX10 286 2 0 2 := ⟨RX2, TX2, 6, tyX2, cb2, rfl, by decide, Or.inr ⟨"PloughField", am_inN1 128 rfl rfl⟩⟩
set_option maxRecDepth 100000 in
theorem fsRX10_289 : am_FS RX10 289 5 1 2 := ⟨RX6, TX6, 11, tyX6, cb5, rfl, by decide, Or.inr ⟨"PloughField", am_inN1 161 rfl rfl⟩⟩
set_option maxRecDepth 100000 in
theorem fsRX10_294 : am_FS RX10 294 5 2 2 := ⟨RX6, TX6, 11, tyX6, cb5, rfl, by decide, Or.inr ⟨"PloughField", am_inN1 163 rfl rfl⟩⟩
set_option maxRecDepth 100000 in
theorem fsRX10_297 : am_FS RX10 297 5 3 2 := ⟨RX6, TX6, 11, tyX6, cb5, rfl, by decide, Or.inr ⟨"PloughField", am_inN1 165 rfl rfl⟩⟩
set_option maxRecDepth 100000 in
theorem fsRX10_303 : am_FS RX10 303 5 5 2 := ⟨RX6, TX6, 11, tyX6, cb5, rfl, by decide, Or.inr ⟨"PloughField", am_inN1 168 rfl rfl⟩⟩
set_option maxRecDepth 100000 in
theorem fsRX11_10 : am_FS RX11 10 10 0 2 := ⟨RX11, TX11, 10, tyX11, cb10, rfl, by decide, Or.inl (am_in2 150 rfl rfl)⟩
set_option maxRecDepth 100000 in
theorem fsRX11_19 : am_FS RX11 19 10 1 2 := ⟨RX11, TX11, 10, tyX11, cb10, rfl, by decide, Or.inl (am_in2 151 rfl rfl)⟩
set_option maxRecDepth 100000 in
theorem fsRX11_28 : am_FS RX11 28 10 2 2 := ⟨RX11, TX11, 10, tyX11, cb10, rfl, by decide, Or.inl (am_in2 152 rfl rfl)⟩
set_option maxRecDepth 100000 in
theorem fsRX11_32 : am_FS RX11 32 10 3 2 := ⟨RX11, TX11, 10, tyX11, cb10, rfl, by decide, Or.inl (am_in2 153 rfl rfl)⟩
set_option maxRecDepth 100000 in
theorem fsRX11_38 : am_FS RX11 38 10 4 2 := ⟨RX11, TX11, 10, tyX11, cb10, rfl, by decide, Or.inl (am_in2 154 rfl rfl)⟩
set_option maxRecDepth 100000 in
theorem fsRX11_45 : am_FS RX11 45 10 5 2 := ⟨RX11, TX11, 10, tyX11, cb10, rfl, by decide, Or.inl (am_in2 155 rfl rfl)⟩
set_option maxRecDepth 100000 in
theorem fsRX11_52 : am_FS RX11 52 10 6 2 := ⟨RX11, TX11, 10, tyX11, cb10, rfl, by decide, Or.inl (am_in2 156 rfl rfl)⟩
set_option maxRecDepth 100000 in
theorem fsRX11_56 : am_FS RX11 56 10 7 2 := ⟨RX11, TX11, 10, tyX11, cb10, rfl, by decide, Or.inl (am_in2 157 rfl rfl)⟩
set_option maxRecDepth 100000 in
theorem fsRX11_60 : am_FS RX11 60 10 8 0 := ⟨RX11, TX11, 10, tyX11, cb10, rfl, by decide, Or.inl (am_in2 158 rfl rfl)⟩
set_option maxRecDepth 100000 in
theorem fwRX11_60 : am_FW RX11 60 10 8 0 := ⟨RX11, TX11, 10, tyX11, cb10, rfl, by decide, rfl, Or.inl ⟨rfl, by decide +kernel⟩, Or.inl (am_in2 158 rfl rfl)⟩
set_option maxRecDepth 100000 in
theorem fsRX11_64 : am_FS RX11 64 10 9 0 := ⟨RX11, TX11, 10, tyX11, cb10, rfl, by decide, Or.inl (am_in2 159 rfl rfl)⟩
set_option maxRecDepth 100000 in
theorem fwRX11_64 : am_FW RX11 64 10 9 0 := ⟨RX11, TX11, 10, tyX11, cb10, rfl, by decide, rfl, Or.inl ⟨rfl, by decide +kernel⟩, Or.inl (am_in2 159 rfl rfl)⟩
set_option maxRecDepth 100000 in
theorem fsRX11_83 : am_FS RX11 83 9 8 0 := ⟨RX10, TX10, 14, tyX10, cb9, rfl, by decide, Or.inr ⟨"PloughField", am_inN2 29 rfl rfl⟩⟩
set_option maxRecDepth 100000 in
theorem fwRX11_83 : am_FW RX11 83 9 8 0 := ⟨RX10, TX10, 14, tyX10, cb9, rfl, by decide, rfl, Or.inl ⟨rfl, by decide +kernel⟩, Or.inr ⟨"PloughField", am_inN2 29 rfl rfl⟩⟩
set_option maxRecDepth 100000 in
theorem fsRX11_86 : am_FS RX11 86 0 1 2 := ⟨RX0, TX0, 6, tyX0, cb0, rfl, by decide, Or.inr ⟨"PloughField", am_inN1 66 rfl rfl⟩⟩
set_option maxRecDepth 100000 in
theorem fsRX11_104 : am_FS RX11 104 0 2 2 := ⟨RX0, TX0, 6, tyX0, cb0, rfl, by decide, Or.inr ⟨"PloughField", am_inN1 69 rfl rfl⟩⟩
set_option maxRecDepth 100000 in
theorem fsRX11_110 : am_FS RX11 110 9 4 2 := ⟨RX10, TX10, 14, tyX10, cb9, rfl, by decide, Or.inr ⟨"PloughField", am_inN2 23 rfl rfl⟩⟩
set_option maxRecDepth 100000 in
theorem fsRX11_123 : am_FS RX11 123 0 5 2 := ⟨RX0, TX0, 6, tyX0, cb0, rfl, by decide, Or.inr ⟨"PloughField", am_inN1 78 rfl rfl⟩⟩
set_option maxRecDepth 100000 in
theorem fsRX11_129 : am_FS RX11 129 0 4 2 := ⟨RX0, TX0, 6, tyX0, cb0, rfl, by decide, Or.inr ⟨"PloughField", am_inN1 76 rfl rfl⟩⟩
set_option maxRecDepth 100000 in
theorem fsRX11_132 : am_FS RX11 132 9 3 2 := ⟨RX10, TX10, 14, tyX10, cb9, rfl, by decide, Or.inr ⟨"PloughField", am_inN2 21 rfl rfl⟩⟩
set_option maxRecDepth 100000 in
theorem fsRX11_141 : am_FS RX11 141 8 3 0 := ⟨RX9, TX9, 4, tyX9, cb8, rfl, by decide, Or.inr ⟨"PloughField", am_inN1 51 rfl rfl⟩⟩
set_option maxRecDepth 100000 in
theorem fwRX11_141 : am_FW RX11 141 8 3 0 := ⟨RX9, TX9, 4, tyX9, cb8, rfl, by decide, rfl, Or.inl ⟨rfl, by decide +kernel⟩, Or.inr ⟨"PloughField", am_inN1 51 rfl rfl⟩⟩
set_option maxRecDepth 100000 in
theorem fsRX11_164 : am_FS RX11 164 0 3 2 := ⟨RX0, TX0, 6, tyX0, cb0, rfl, by decide, Or.inr ⟨"PloughField", am_inN1 73 rfl rfl⟩⟩
set_option maxRecDepth 100000 in
theorem fsRX11_177 : am_FS RX11 177 9 2 2 := ⟨RX10, TX10, 14, tyX10, cb9, rfl, by decide, Or.inr ⟨"PloughField", am_inN2 19 rfl rfl⟩⟩
set_option maxRecDepth 100000 in
theorem fsRX11_181 : am_FS RX11 181 9 7 2 := ⟨RX10, TX10, 14, tyX10, cb9, rfl, by decide, Or.inr ⟨"PloughField", am_inN2 27 rfl rfl⟩⟩
set_option maxRecDepth 100000 in
theorem fsRX11_206 : am_FS RX11 206 2 4 1 := ⟨RX2, TX2, 6, tyX2, cb2, rfl, by decide, Or.inr ⟨"PloughField", am_inN1 137 rfl rfl⟩⟩
set_option maxRecDepth 100000 in
theorem fwRX11_206 : am_FW RX11 206 2 4 1 := ⟨RX2, TX2, 6, tyX2, cb2, rfl, by decide, rfl, Or.inr ⟨rfl, by decide +kernel⟩, Or.inr ⟨"PloughField", am_inN1 137 rfl rfl⟩⟩
set_option maxRecDepth 100000 in
theorem fsRX11_210 : am_FS RX11 210 2 5 1 := ⟨RX2, TX2, 6, tyX2, cb2, rfl, by decide, Or.inr ⟨"PloughField", am_inN1 139 rfl rfl⟩⟩
set_option maxRecDepth 100000 in
theorem fwRX11_210 : am_FW RX11 210 2 5 1 := ⟨RX2, TX2, 6, tyX2, cb2, rfl, by decide, rfl, Or.inr ⟨rfl, by decide +kernel⟩, Or.inr ⟨"PloughField", am_inN1 139 rfl rfl⟩⟩
set_option maxRecDepth 100000 in
theorem fsRX11_215 : am_FS RX11 215 5 8 1 := ⟨RX6, TX6, 11, tyX6, cb5, rfl, by decide, Or.inr ⟨"PloughField", am_inN1 172 rfl rfl⟩⟩
set_option maxRecDepth 100000 in
theorem fwRX11_215 : am_FW RX11 215 5 8 1 := ⟨RX6, TX6, 11, tyX6, cb5, rfl, by decide, rfl, Or.inr ⟨rfl, by decide +kernel⟩, Or.inr ⟨"PloughField", am_inN1 172 rfl rfl⟩⟩
set_option maxRecDepth 100000 in
theorem fsRX11_218 : am_FS RX11 218 5 9 1 := ⟨RX6, TX6, 11, tyX6, cb5, rfl, by decide, Or.inr ⟨"PloughField", am_inN1 174 rfl rfl⟩⟩
set_option maxRecDepth 100000 in
theorem fwRX11_218 : am_FW RX11 218 5 9 1 := ⟨RX6, TX6, 11, tyX6, cb5, rfl, by decide, rfl, Or.inr ⟨rfl, by decide +kernel⟩, Or.inr ⟨"PloughField", am_inN1 174 rfl rfl⟩⟩
set_option maxRecDepth 100000 in
theorem fsRX11_231 : am_FS RX11 231 7 0 2 := ⟨RX8, TX8, 1, tyX8, cb7, rfl, by decide, Or.inr ⟨"PloughField", am_inN2 146 rfl rfl⟩⟩
set_option maxRecDepth 100000 in
theorem fsRX11_255 : am_FS RX11 255 6 4 0 := ⟨RX7, TX7, 9, tyX7, cb6, rfl, by decide, Or.inr ⟨"PloughField", am_inN2 76 rfl rfl⟩⟩
set_option maxRecDepth 100000 in
theorem fwRX11_255 : am_FW RX11 255 6 4 0 := ⟨RX7, TX7, 9, tyX7, cb6, rfl, by decide, rfl, Or.inl ⟨rfl, by decide +kernel⟩, Or.inr ⟨"PloughField", am_inN2 76 rfl rfl⟩⟩
set_option maxRecDepth 100000 in
theorem fsRX11_261 : am_FS RX11 261 6 3 2 := ⟨RX7, TX7, 9, tyX7, cb6, rfl, by decide, Or.inr ⟨"PloughField", am_inN2 74 rfl rfl⟩⟩
set_option maxRecDepth 100000 in
theorem fsRX11_264 : am_FS RX11 264 6 7 0 := ⟨RX7, TX7, 9, tyX7, cb6, rfl, by decide, Or.inr ⟨"PloughField", am_inN2 80 rfl rfl⟩⟩
set_option maxRecDepth 100000 in
theorem fwRX11_264 : am_FW RX11 264 6 7 0 := ⟨RX7, TX7, 9, tyX7, cb6, rfl, by decide, rfl, Or.inl ⟨rfl, by decide +kernel⟩, Or.inr ⟨"PloughField", am_inN2 80 rfl rfl⟩⟩
set_option maxRecDepth 100000 in
theorem fsRX11_267 : am_FS RX11 267 6 8 0 := ⟨RX7, TX7, 9, tyX7, cb6, rfl, by decide, Or.inr ⟨"PloughField", am_inN2 82 rfl rfl⟩⟩
set_option maxRecDepth 100000 in
theorem fwRX11_267 : am_FW RX11 267 6 8 0 := ⟨RX7, TX7, 9, tyX7, cb6, rfl, by decide, rfl, Or.inl ⟨rfl, by decide +kernel⟩, Or.inr ⟨"PloughField", am_inN2 82 rfl rfl⟩⟩
set_option maxRecDepth 100000 in
theorem fsRX11_277 : am_FS RX11 277 3 5 0 := ⟨RX3, TX3, 8, tyX3, cb3, rfl, by decide, Or.inr ⟨"PloughField", am_inN2 115 rfl rfl⟩⟩
set_option maxRecDepth 100000 in
theorem fwRX11_277 : am_FW RX11 277 3 5 0 := ⟨RX3, TX3, 8, tyX3, cb3, rfl, by decide, rfl, Or.inl ⟨rfl, by decide +kernel⟩, Or.inr ⟨"PloughField", am_inN2 115 rfl rfl⟩⟩
set_option maxRecDepth 100000 in
theorem fsRX11_280 : am_FS RX11 280 3 6 0 := ⟨RX3, TX3, 8, tyX3, cb3, rfl, by decide, Or.inr ⟨"PloughField", am_inN2 117 rfl rfl⟩⟩
set_option maxRecDepth 100000 in
theorem fwRX11_280 : am_FW RX11 280 3 6 0 := ⟨RX3, TX3, 8, tyX3, cb3, rfl, by decide, rfl, Or.inl ⟨rfl, by decide +kernel⟩, Or.inr ⟨"PloughField", am_inN2 117 rfl rfl⟩⟩
set_option maxRecDepth 100000 in
theorem fsRX11_283 : am_FS RX11 283 3 7 0 := ⟨RX3, TX3, 8, tyX3, cb3, rfl, by decide, Or.inr ⟨"PloughField", am_inN2 119 rfl rfl⟩⟩
set_option maxRecDepth 100000 in
theorem fwRX11_283 : am_FW RX11 283 3 7 0 := ⟨RX3, TX3, 8, tyX3, cb3, rfl, by decide, rfl, Or.inl ⟨rfl, by decide +kernel⟩, Or.inr ⟨"PloughField", am_inN2 119 rfl rfl⟩⟩
set_option maxRecDepth 100000 in
theorem fsRX11_304 : am_FS RX11 304 0 0 2 := ⟨RX0, TX0, 6, tyX0, cb0, rfl, by decide, Or.inr ⟨"PloughField", am_inN1 64 rfl rfl⟩⟩
set_option maxRecDepth 100000 in
theorem fsRX11_316 : am_FS RX11 316 3 3 0 := ⟨RX3, TX3, 8, tyX3, cb3, rfl, by decide, Or.inr ⟨"PloughField", am_inN2 112 rfl rfl⟩⟩
set_option maxRecDepth 100000 in
theorem fwRX11_316 : am_FW RX11 316 3 3 0 := ⟨RX3, TX3, 8, tyX3, cb3, rfl, by decide, rfl, Or.inl ⟨rfl, by decide +kernel⟩, Or.inr ⟨"PloughField", am_inN2 112 rfl rfl⟩⟩
set_option maxRecDepth 100000 in
theorem fsRX12_7 : am_FS RX12 7 11 0 2 := ⟨RX12, TX12, 65, tyX12, cb11, rfl, by decide, Or.inl (am_in6 45 rfl rfl)⟩
set_option maxRecDepth 100000 in
theorem fsRX12_13 : am_FS RX12 13 11 1 2 := ⟨RX12, TX12, 65, tyX12, cb11, rfl, by decide, Or.inl (am_in6 46 rfl rfl)⟩
set_option maxRecDepth 100000 in
theorem fsRX12_16 : am_FS RX12 16 11 5 2 := ⟨RX12, TX12, 65, tyX12, cb11, rfl, by decide, Or.inl (am_in6 50 rfl rfl)⟩
set_option maxRecDepth 100000 in
theorem fsRX12_19 : am_FS RX12 19 11 6 2 := ⟨RX12, TX12, 65, tyX12, cb11, rfl, by decide, Or.inl (am_in6 51 rfl rfl)⟩
set_option maxRecDepth 100000 in
theorem fsRX12_22 : am_FS RX12 22 11 7 2 := ⟨RX12, TX12, 65, tyX12, cb11, rfl, by decide, Or.inl (am_in6 52 rfl rfl)⟩
set_option maxRecDepth 100000 in
theorem fsRX12_25 : am_FS RX12 25 11 8 2 := ⟨RX12, TX12, 65, tyX12, cb11, rfl, by decide, Or.inl (am_in6 53 rfl rfl)⟩
set_option maxRecDepth 100000 in
theorem fsRX12_28 : am_FS RX12 28 11 9 2 := ⟨RX12, TX12, 65, tyX12, cb11, rfl, by decide, Or.inl (am_in6 54 rfl rfl)⟩
set_option maxRecDepth 100000 in
theorem fsRX12_31 : am_FS RX12 31 11 15 2 := ⟨RX12, TX12, 65, tyX12, cb11, rfl, by decide, Or.inl (am_in6 60 rfl rfl)⟩
set_option maxRecDepth 100000 in
theorem fsRX12_34 : am_FS RX12 34 11 16 2 := ⟨RX12, TX12, 65, tyX12, cb11, rfl, by decide, Or.inl (am_in6 61 rfl rfl)⟩
set_option maxRecDepth 100000 in
theorem fsRX12_37 : am_FS RX12 37 11 17 2 := ⟨RX12, TX12, 65, tyX12, cb11, rfl, by decide, Or.inl (am_in6 62 rfl rfl)⟩
set_option maxRecDepth 100000 in
theorem fsRX12_40 : am_FS RX12 40 11 18 2 := ⟨RX12, TX12, 65, tyX12, cb11, rfl, by decide, Or.inl (am_in6 63 rfl rfl)⟩
set_option maxRecDepth 100000 in
theorem fsRX12_43 : am_FS RX12 43 11 19 2 := ⟨RX12, TX12, 65, tyX12, cb11, rfl, by decide, Or.inl (am_in6 64 rfl rfl)⟩
set_option maxRecDepth 100000 in
theorem fsRX12_46 : am_FS RX12 46 11 20 2 := ⟨RX12, TX12, 65, tyX12, cb11, rfl, by decide, Or.inl (am_in6 65 rfl rfl)⟩
set_option maxRecDepth 100000 in
theorem fsRX12_49 : am_FS RX12 49 11 21 2 := ⟨RX12, TX12, 65, tyX12, cb11, rfl, by decide, Or.inl (am_in6 66 rfl rfl)⟩
set_option maxRecDepth 100000 in
theorem fsRX12_52 : am_FS RX12 52 11 22 2 := ⟨RX12, TX12, 65, tyX12, cb11, rfl, by decide, Or.inl (am_in6 67 rfl rfl)⟩
set_option maxRecDepth 100000 in
theorem fsRX12_55 : am_FS RX12 55 11 23 2 := ⟨RX12, TX12, 65, tyX12, cb11, rfl, by decide, Or.inl (am_in6 68 rfl rfl)⟩
set_option maxRecDepth 100000 in
theorem fsRX12_58 : am_FS RX12 58 11 24 2 := ⟨RX12, TX12, 65, tyX12, cb11, rfl, by decide, Or.inl (am_in6 69 rfl rfl)⟩
set_option maxRecDepth 100000 in
theorem fsRX12_61 : am_FS RX12 61 11 25 2 := ⟨RX12, TX12, 65, tyX12, cb11, rfl, by decide, Or.inl (am_in6 70 rfl rfl)⟩
set_option maxRecDepth 100000 in
theorem fsRX12_64 : am_FS RX12 64 11 26 2 := ⟨RX12, TX12, 65, tyX12, cb11, rfl, by decide, Or.inl (am_in6 71 rfl rfl)⟩
set_option maxRecDepth 100000 in
theorem fsRX12_67 : am_FS RX12 67 11 27 2 := ⟨RX12, TX12, 65, tyX12, cb11, rfl, by decide, Or.inl (am_in6 72 rfl rfl)⟩
set_option maxRecDepth 100000 in
theorem fsRX12_70 : am_FS RX12 70 11 28 2 := ⟨RX12, TX12, 65, tyX12, cb11, rfl, by decide, Or.inl (am_in6 73 rfl rfl)⟩
set_option maxRecDepth 100000 in
theorem fsRX12_73 : am_FS RX12 73 11 29 2 := ⟨RX12, TX12, 65, tyX12, cb11, rfl, by decide, Or.inl (am_in6 74 rfl rfl)⟩
set_option maxRecDepth 100000 in
theorem fsRX12_77 : am_FS RX12 77 11 30 0 := ⟨RX12, TX12, 65, tyX12, cb11, rfl, by decide, Or.inl (am_in6 75 rfl rfl)⟩
set_option maxRecDepth 100000 in
theorem fwRX12_77 : am_FW RX12 77 11 30 0 := ⟨RX12, TX12, 65, tyX12, cb11, rfl, by decide, rfl, Or.inl ⟨rfl, by decide +kernel⟩, Or.inl (am_in6 75 rfl rfl)⟩
set_option maxRecDepth 100000 in
theorem fsRX12_81 : am_FS RX12 81 11 32 2 := ⟨RX12, TX12, 65, tyX12, cb11, rfl, by decide, Or.inl (am_in6 77 rfl rfl)⟩
set_option maxRecDepth 100000 in
theorem fsRX12_85 : am_FS RX12 85 11 33 2 := ⟨RX12, TX12, 65, tyX12, cb11, rfl, by decide, Or.inl (am_in6 78 rfl rfl)⟩
set_option maxRecDepth 100000 in
theorem fsRX12_88 : am_FS RX12 88 11 34 2 := ⟨RX12, TX12, 65, tyX12, cb11, rfl, by decide, Or.inl (am_in6 79 rfl rfl)⟩
set_option maxRecDepth 100000 in
theorem fsRX12_91 : am_FS RX12 91 11 35 2 := ⟨RX12, TX12, 65, tyX12, cb11, rfl, by decide, Or.inl (am_in6 80 rfl rfl)⟩
set_option maxRecDepth 100000 in
theorem fsRX12_94 : am_FS RX12 94 11 36 2 := ⟨RX12, TX12, 65, tyX12, cb11, rfl, by decide, Or.inl (am_in6 81 rfl rfl)⟩
set_option maxRecDepth 100000 in
theorem fsRX12_97 : am_FS RX12 97 11 37 2 := ⟨RX12, TX12, 65, tyX12, cb11, rfl, by decide, Or.inl (am_in6 82 rfl rfl)⟩
set_option maxRecDepth 100000 in
theorem fsRX12_100 : am_FS RX12 100 11 38 2 := ⟨RX12, TX12, 65, tyX12, cb11, rfl, by decide, Or.inl (am_in6 83 rfl rfl)⟩
set_option maxRecDepth 100000 in
theorem fsRX12_103 : am_FS RX12 103 11 39 2 := ⟨RX12, TX12, 65, tyX12, cb11, rfl, by decide, Or.inl (am_in6 84 rfl rfl)⟩
set_option maxRecDepth 100000 in
theorem fsRX12_106 : am_FS RX12 106 11 41 2 := ⟨RX12, TX12, 65, tyX12, cb11, rfl, by decide, Or.inl (am_in6 86 rfl rfl)⟩
set_option maxRecDepth 100000 in
theorem fsRX12_109 : am_FS RX12 109 11 43 2 := ⟨RX12, TX12, 65, tyX12, cb11, rfl, by decide, Or.inl (am_in6 88 rfl rfl)⟩
set_option maxRecDepth 100000 in
theorem fsRX12_112 : am_FS RX12 112 11 44 2 := ⟨RX12, TX12, 65, tyX12, cb11, rfl, by decide, Or.inl (am_in6 89 rfl rfl)⟩
set_option maxRecDepth 100000 in
theorem fsRX12_115 : am_FS RX12 115 11 51 0 := ⟨RX12, TX12, 65, tyX12, cb11, rfl, by decide, Or.inl (am_in6 96 rfl rfl)⟩
set_option maxRecDepth 100000 in
theorem fwRX12_115 : am_FW RX12 115 11 51 0 := ⟨RX12, TX12, 65, tyX12, cb11, rfl, by decide, rfl, Or.inl ⟨rfl, by decide +kernel⟩, Or.inl (am_in6 96 rfl rfl)⟩
set_option maxRecDepth 100000 in
theorem fsRX12_118 : am_FS RX12 118 11 52 2 := ⟨RX12, TX12, 65, tyX12, cb11, rfl, by decide, Or.inl (am_in6 97 rfl rfl)⟩
set_option maxRecDepth 100000 in
theorem fsRX12_121 : am_FS RX12 121 11 53 2 := ⟨RX12, TX12, 65, tyX12, cb11, rfl, by decide, Or.inl (am_in6 98 rfl rfl)⟩
set_option maxRecDepth 100000 in
theorem fsRX12_124 : am_FS RX12 124 11 54 2 := ⟨RX12, TX12, 65, tyX12, cb11, rfl, by decide, Or.inl (am_in6 99 rfl rfl)⟩
set_option maxRecDepth 100000 in
theorem fsRX12_127 : am_FS RX12 127 11 55 2 := ⟨RX12, TX12, 65, tyX12, cb11, rfl, by decide, Or.inl (am_in6 100 rfl rfl)⟩
set_option maxRecDepth 100000 in
theorem fsRX12_130 : am_FS RX12 130 11 56 2 := ⟨RX12, TX12, 65, tyX12, cb11, rfl, by decide, Or.inl (am_in6 101 rfl rfl)⟩
set_option maxRecDepth 100000 in
theorem fsRX12_133 : am_FS RX12 133 11 57 2 := ⟨RX12, TX12, 65, tyX12, cb11, rfl, by decide, Or.inl (am_in6 102 rfl rfl)⟩
set_option maxRecDepth 100000 in
theorem fsRX12_136 : am_FS RX12 136 11 58 2 := ⟨RX12, TX12, 65, tyX12, cb11, rfl, by decide, Or.inl (am_in6 103 rfl rfl)⟩
set_option maxRecDepth 100000 in
theorem fsRX12_139 : am_FS RX12 139 11 59 2 := ⟨RX12, TX12, 65, tyX12, cb11, rfl, by decide, Or.inl (am_in6 104 rfl rfl)⟩
set_option maxRecDepth 100000 in
theorem fsRX12_142 : am_FS RX12 142 11 60 2 := ⟨RX12, TX12, 65, tyX12, cb11, rfl, by decide, Or.inl (am_in6 105 rfl rfl)⟩
set_option maxRecDepth 100000 in
theorem fsRX12_145 : am_FS RX12 145 11 61 2 := ⟨RX12, TX12, 65, tyX12, cb11, rfl, by decide, Or.inl (am_in6 106 rfl rfl)⟩
set_option maxRecDepth 100000 in
theorem fsRX12_149 : am_FS RX12 149 11 62 2 := ⟨RX12, TX12, 65, tyX12, cb11, rfl, by decide, Or.inl (am_in6 107 rfl rfl)⟩
set_option maxRecDepth 100000 in
theorem fsRX12_155 : am_FS RX12 155 11 2 1 := ⟨RX12, TX12, 65, tyX12, cb11, rfl, by decide, Or.inl (am_in6 47 rfl rfl)⟩
set_option maxRecDepth 100000 in
theorem fwRX12_155 : am_FW RX12 155 11 2 1 := ⟨RX12, TX12, 65, tyX12, cb11, rfl, by decide, rfl, Or.inr ⟨rfl, by decide +kernel⟩, Or.inl (am_in6 47 rfl rfl)⟩
set_option maxRecDepth 100000 in
theorem fsRX12_159 : am_FS RX12 159 11 3 1 := ⟨RX12, TX12, 65, tyX12, cb11, rfl, by decide, Or.inl (am_in6 48 rfl rfl)⟩
set_option maxRecDepth 100000 in
theorem fwRX12_159 : am_FW RX12 159 11 3 1 := ⟨RX12, TX12, 65, tyX12, cb11, rfl, by decide, rfl, Or.inr ⟨rfl, by decide +kernel⟩, Or.inl (am_in6 48 rfl rfl)⟩
set_option maxRecDepth 100000 in
theorem fsRX12_172 : am_FS RX12 172 11 31 0 := ⟨RX12, TX12, 65, tyX12, cb11, rfl, by decide, Or.inl (am_in6 76 rfl rfl)⟩
set_option maxRecDepth 100000 in
theorem fwRX12_172 : am_FW RX12 172 11 31 0 := ⟨RX12, TX12, 65, tyX12, cb11, rfl, by decide, rfl, Or.inl ⟨rfl, by decide +kernel⟩, Or.inl (am_in6 76 rfl rfl)⟩
set_option maxRecDepth 100000 in
theorem fsRX12_175 : am_FS RX12 175 11 4 0 := ⟨RX12, TX12, 65, tyX12, cb11, rfl, by decide, Or.inl (am_in6 49 rfl rfl)⟩
set_option maxRecDepth 100000 in
theorem fwRX12_175 : am_FW RX12 175 11 4 0 := ⟨RX12, TX12, 65, tyX12, cb11, rfl, by decide, rfl, Or.inl ⟨rfl, by decide +kernel⟩, Or.inl (am_in6 49 rfl rfl)⟩
set_option maxRecDepth 100000 in
theorem fsRX12_210 : am_FS RX12 210 11 10 0 := ⟨RX12, TX12, 65, tyX12, cb11, rfl, by decide, Or.inl (am_in6 55 rfl rfl)⟩
set_option maxRecDepth 100000 in
theorem fwRX12_210 : am_FW RX12 210 11 10 0 := ⟨RX12, TX12, 65, tyX12, cb11, rfl, by decide, rfl, Or.inl ⟨rfl, by decide +kernel⟩, Or.inl (am_in6 55 rfl rfl)⟩
set_option maxRecDepth 100000 in
theorem fsRX12_213 : am_FS RX12 213 11 11 0 := ⟨RX12, TX12, 65, tyX12, cb11, rfl, by decide, Or.inl (am_in6 56 rfl rfl)⟩
set_option maxRecDepth 100000 in
theorem fwRX12_213 : am_FW RX12 213 11 11 0 := ⟨RX12, TX12, 65, tyX12, cb11, rfl, by decide, rfl, Or.inl ⟨rfl, by decide +kernel⟩, Or.inl (am_in6 56 rfl rfl)⟩
set_option maxRecDepth 100000 in
theorem fsRX12_219 : am_FS RX12 219 11 12 0 := ⟨RX12, TX12, 65, tyX12, cb11, rfl, by decide, Or.inl (am_in6 57 rfl rfl)⟩
set_option maxRecDepth 100000 in
theorem fwRX12_219 : am_FW RX12 219 11 12 0 := ⟨RX12, TX12, 65, tyX12, cb11, rfl, by decide, rfl, Or.inl ⟨rfl, by decide +kernel⟩, Or.inl (am_in6 57 rfl rfl)⟩
set_option maxRecDepth 100000 in
theorem fsRX12_222 : am_FS RX12 222 11 13 0 := ⟨RX12, TX12, 65, tyX12, cb11, rfl, by decide, Or.inl (am_in6 58 rfl rfl)⟩
set_option maxRecDepth 100000 in
theorem fwRX12_222 : am_FW RX12 222 11 13 0 := ⟨RX12, TX12, 65, tyX12, cb11, rfl, by decide, rfl, Or.inl ⟨rfl, by decide +kernel⟩, Or.inl (am_in6 58 rfl rfl)⟩
set_option maxRecDepth 100000 in
theorem fsRX12_225 : am_FS RX12 225 11 14 0 := ⟨RX12, TX12, 65, tyX12, cb11, rfl, by decide, Or.inl (am_in6 59 rfl rfl)⟩
set_option maxRecDepth 100000 in
theorem fwRX12_225 : am_FW RX12 225 11 14 0 := ⟨RX12, TX12, 65, tyX12, cb11, rfl, by decide, rfl, Or.inl ⟨rfl, by decide +kernel⟩, Or.inl (am_in6 59 rfl rfl)⟩
set_option maxRecDepth 100000 in
theorem fsRX12_341 : am_FS RX12 341 11 40 0 := ⟨RX12, TX12, 65, tyX12, cb11, rfl, by decide, Or.inl (am_in6 85 rfl rfl)⟩
set_option maxRecDepth 100000 in
theorem fwRX12_341 : am_FW RX12 341 11 40 0 := ⟨RX12, TX12, 65, tyX12, cb11, rfl, by decide, rfl, Or.inl ⟨rfl, by decide +kernel⟩, Or.inl (am_in6 85 rfl rfl)⟩
set_option maxRecDepth 100000 in
theorem fsRX12_353 : am_FS RX12 353 11 42 0 := ⟨RX12, TX12, 65, tyX12, cb11, rfl, by decide, Or.inl (am_in6 87 rfl rfl)⟩
set_option maxRecDepth 100000 in
theorem fwRX12_353 : am_FW RX12 353 11 42 0 := ⟨RX12, TX12, 65, tyX12, cb11, rfl, by decide, rfl, Or.inl ⟨rfl, by decide +kernel⟩, Or.inl (am_in6 87 rfl rfl)⟩
set_option maxRecDepth 100000 in
theorem fsRX12_360 : am_FS RX12 360 11 47 0 := ⟨RX12, TX12, 65, tyX12, cb11, rfl, by decide, Or.inl (am_in6 92 rfl rfl)⟩
set_option maxRecDepth 100000 in
theorem fwRX12_360 : am_FW RX12 360 11 47 0 := ⟨RX12, TX12, 65, tyX12, cb11, rfl, by decide, rfl, Or.inl ⟨rfl, by decide +kernel⟩, Or.inl (am_in6 92 rfl rfl)⟩
set_option maxRecDepth 100000 in
theorem fsRX12_366 : am_FS RX12 366 11 49 0 := ⟨RX12, TX12, 65, tyX12, cb11, rfl, by decide, Or.inl (am_in6 94 rfl rfl)⟩
set_option maxRecDepth 100000 in
theorem fwRX12_366 : am_FW RX12 366 11 49 0 := ⟨RX12, TX12, 65, tyX12, cb11, rfl, by decide, rfl, Or.inl ⟨rfl, by decide +kernel⟩, Or.inl (am_in6 94 rfl rfl)⟩
set_option maxRecDepth 100000 in
theorem fsRX12_369 : am_FS RX12 369 11 48 0 := ⟨RX12, TX12, 65, tyX12, cb11, rfl, by decide, Or.inl (am_in6 93 rfl rfl)⟩
set_option maxRecDepth 100000 in
theorem fwRX12_369 : am_FW RX12 369 11 48 0 := ⟨RX12, TX12, 65, tyX12, cb11, rfl, by decide, rfl, Or.inl ⟨rfl, by decide +kernel⟩, Or.inl (am_in6 93 rfl rfl)⟩
set_option maxRecDepth 100000 in
theorem fsRX12_375 : am_FS RX12 375 11 63 0 := ⟨RX12, TX12, 65, tyX12, cb11, rfl, by decide, Or.inl (am_in6 108 rfl rfl)⟩
set_option maxRecDepth 100000 in
theorem fwRX12_375 : am_FW RX12 375 11 63 0 := ⟨RX12, TX12, 65, tyX12, cb11, rfl, by decide, rfl, Or.inl ⟨rfl, by decide +kernel⟩, Or.inl (am_in6 108 rfl rfl)⟩
set_option maxRecDepth 100000 in
theorem fsRX12_382 : am_FS RX12 382 11 64 0 := ⟨RX12, TX12, 65, tyX12, cb11, rfl, by decide, Or.inl (am_in6 109 rfl rfl)⟩
set_option maxRecDepth 100000 in
theorem fwRX12_382 : am_FW RX12 382 11 64 0 := ⟨RX12, TX12, 65, tyX12, cb11, rfl, by decide, rfl, Or.inl ⟨rfl, by decide +kernel⟩, Or.inl (am_in6 109 rfl rfl)⟩
set_option maxRecDepth 100000 in
theorem fsRX12_401 : am_FS RX12 401 11 46 0 := ⟨RX12, TX12, 65, tyX12, cb11, rfl, by decide, Or.inl (am_in6 91 rfl rfl)⟩
set_option maxRecDepth 100000 in
theorem fwRX12_401 : am_FW RX12 401 11 46 0 := ⟨RX12, TX12, 65, tyX12, cb11, rfl, by decide, rfl, Or.inl ⟨rfl, by decide +kernel⟩, Or.inl (am_in6 91 rfl rfl)⟩
set_option maxRecDepth 100000 in
theorem fsRX12_404 : am_FS RX12 404 11 50 0 := ⟨RX12, TX12, 65, tyX12, cb11, rfl, by decide, Or.inl (am_in6 95 rfl rfl)⟩
set_option maxRecDepth 100000 in
theorem fwRX12_404 : am_FW RX12 404 11 50 0 := ⟨RX12, TX12, 65, tyX12, cb11, rfl, by decide, rfl, Or.inl ⟨rfl, by decide +kernel⟩, Or.inl (am_in6 95 rfl rfl)⟩
set_option maxRecDepth 100000 in
theorem fsRX12_461 : am_FS RX12 461 11 45 0 := ⟨RX12, TX12, 65, tyX12, cb11, rfl, by decide, Or.inl (am_in6 90 rfl rfl)⟩
set_option maxRecDepth 100000 in
theorem fwRX12_461 : am_FW RX12 461 11 45 0 := ⟨RX12, TX12, 65, tyX12, cb11, rfl, by decide, rfl, Or.inl ⟨rfl, by decide +kernel⟩, Or.inl (am_in6 90 rfl rfl)⟩
set_option maxRecDepth 100000 in
theorem fsRX2_9 : am_FS RX2 9 2 0 2 := ⟨RX2, TX2, 6, tyX2, cb2, rfl, by decide, Or.inl (am_in1 127 rfl rfl)⟩
set_option maxRecDepth 100000 in
theorem fsRX2_15 : am_FS RX2 15 2 1 2 := ⟨RX2, TX2, 6, tyX2, cb2, rfl, by decide, Or.inl (am_in1 129 rfl rfl)⟩
set_option maxRecDepth 100000 in
theorem fsRX2_18 : am_FS RX2 18 2 2 2 := ⟨RX2, TX2, 6, tyX2, cb2, rfl, by decide, Or.inl (am_in1 132 rfl rfl)⟩
set_option maxRecDepth 100000 in
theorem fsRX2_21 : am_FS RX2 21 2 3 2 := ⟨RX2, TX2, 6, tyX2, cb2, rfl, by decide, Or.inl (am_in1 135 rfl rfl)⟩
set_option maxRecDepth 100000 in
theorem fsRX2_30 : am_FS RX2 30 2 4 1 := ⟨RX2, TX2, 6, tyX2, cb2, rfl, by decide, Or.inl (am_in1 136 rfl rfl)⟩
set_option maxRecDepth 100000 in
theorem fwRX2_30 : am_FW RX2 30 2 4 1 := ⟨RX2, TX2, 6, tyX2, cb2, rfl, by decide, rfl, Or.inr ⟨rfl, by decide +kernel⟩, Or.inl (am_in1 136 rfl rfl)⟩
set_option maxRecDepth 100000 in
theorem fsRX2_34 : am_FS RX2 34 2 5 1 := ⟨RX2, TX2, 6, tyX2, cb2, rfl, by decide, Or.inl (am_in1 138 rfl rfl)⟩
set_option maxRecDepth 100000 in
theorem fwRX2_34 : am_FW RX2 34 2 5 1 := ⟨RX2, TX2, 6, tyX2, cb2, rfl, by decide, rfl, Or.inr ⟨rfl, by decide +kernel⟩, Or.inl (am_in1 138 rfl rfl)⟩
set_option maxRecDepth 100000 in
theorem fsRX3_9 : am_FS RX3 9 3 0 2 := ⟨RX3, TX3, 8, tyX3, cb3, rfl, by decide, Or.inl (am_in2 108 rfl rfl)⟩
set_option maxRecDepth 100000 in
theorem fsRX3_15 : am_FS RX3 15 3 1 2 := ⟨RX3, TX3, 8, tyX3, cb3, rfl, by decide, Or.inl (am_in2 109 rfl rfl)⟩
set_option maxRecDepth 100000 in
theorem fsRX3_24 : am_FS RX3 24 3 2 0 := ⟨RX3, TX3, 8, tyX3, cb3, rfl, by decide, Or.inl (am_in2 110 rfl rfl)⟩
set_option maxRecDepth 100000 in
theorem fwRX3_24 : am_FW RX3 24 3 2 0 := ⟨RX3, TX3, 8, tyX3, cb3, rfl, by decide, rfl, Or.inl ⟨rfl, by decide +kernel⟩, Or.inl (am_in2 110 rfl rfl)⟩
set_option maxRecDepth 100000 in
theorem fsRX3_34 : am_FS RX3 34 3 3 0 := ⟨RX3, TX3, 8, tyX3, cb3, rfl, by decide, Or.inl (am_in2 111 rfl rfl)⟩
set_option maxRecDepth 100000 in
theorem fwRX3_34 : am_FW RX3 34 3 3 0 := ⟨RX3, TX3, 8, tyX3, cb3, rfl, by decide, rfl, Or.inl ⟨rfl, by decide +kernel⟩, Or.inl (am_in2 111 rfl rfl)⟩
set_option maxRecDepth 100000 in
theorem fsRX3_37 : am_FS RX3 37 3 4 0 := ⟨RX3, TX3, 8, tyX3, cb3, rfl, by decide, Or.inl (am_in2 113 rfl rfl)⟩
set_option maxRecDepth 100000 in
theorem fwRX3_37 : am_FW RX3 37 3 4 0 := ⟨RX3, TX3, 8, tyX3, cb3, rfl, by decide, rfl, Or.inl ⟨rfl, by decide +kernel⟩, Or.inl (am_in2 113 rfl rfl)⟩
set_option maxRecDepth 100000 in
theorem fsRX3_40 : am_FS RX3 40 3 5 0 := ⟨RX3, TX3, 8, tyX3, cb3, rfl, by decide, Or.inl (am_in2 114 rfl rfl)⟩
set_option maxRecDepth 100000 in
theorem fwRX3_40 : am_FW RX3 40 3 5 0 := ⟨RX3, TX3, 8, tyX3, cb3, rfl, by decide, rfl, Or.inl ⟨rfl, by decide +kernel⟩, Or.inl (am_in2 114 rfl rfl)⟩
set_option maxRecDepth 100000 in
theorem fsRX3_51 : am_FS RX3 51 3 7 0 := ⟨RX3, TX3, 8, tyX3, cb3, rfl, by decide, Or.inl (am_in2 118 rfl rfl)⟩
set_option maxRecDepth 100000 in
theorem fwRX3_51 : am_FW RX3 51 3 7 0 := ⟨RX3, TX3, 8, tyX3, cb3, rfl, by decide, rfl, Or.inl ⟨rfl, by decide +kernel⟩, Or.inl (am_in2 118 rfl rfl)⟩
set_option maxRecDepth 100000 in
theorem fsRX3_54 : am_FS RX3 54 3 6 0 := ⟨RX3, TX3, 8, tyX3, cb3, rfl, by decide, Or.inl (am_in2 116 rfl rfl)⟩
set_option maxRecDepth 100000 in
theorem fwRX3_54 : am_FW RX3 54 3 6 0 := ⟨RX3, TX3, 8, tyX3, cb3, rfl, by decide, rfl, Or.inl ⟨rfl, by decide +kernel⟩, Or.inl (am_in2 116 rfl rfl)⟩
set_option maxRecDepth 100000 in
theorem fsRX5_9 : am_FS RX5 9 4 0 2 := ⟨RX5, TX5, 5, tyX5, cb4, rfl, by decide, Or.inl (am_in1 99 rfl rfl)⟩
set_option maxRecDepth 100000 in
theorem fsRX5_15 : am_FS RX5 15 4 1 2 := ⟨RX5, TX5, 5, tyX5, cb4, rfl, by decide, Or.inl (am_in1 100 rfl rfl)⟩
set_option maxRecDepth 100000 in
theorem fsRX5_18 : am_FS RX5 18 4 2 2 := ⟨RX5, TX5, 5, tyX5, cb4, rfl, by decide, Or.inl (am_in1 101 rfl rfl)⟩
set_option maxRecDepth 100000 in
theorem fsRX5_21 : am_FS RX5 21 4 3 2 := ⟨RX5, TX5, 5, tyX5, cb4, rfl, by decide, Or.inl (am_in1 102 rfl rfl)⟩
set_option maxRecDepth 100000 in
theorem fsRX5_42 : am_FS RX5 42 1 5 2 := ⟨RX1, TX1, 6, tyX1, cb1, rfl, by decide, Or.inr ⟨"PloughField", am_inN1 217 rfl rfl⟩⟩
set_option maxRecDepth 100000 in
theorem fsRX5_52 : am_FS RX5 52 2 2 2 := ⟨RX2, TX2, 6, tyX2, cb2, rfl, by decide, Or.inr ⟨"PloughField", am_inN1 133 rfl rfl⟩⟩
set_option maxRecDepth 100000 in
theorem fsRX5_55 : am_FS RX5 55 1 1 2 := ⟨RX1, TX1, 6, tyX1, cb1, rfl, by decide, Or.inr ⟨"PloughField", am_inN1 208 rfl rfl⟩⟩
set_option maxRecDepth 100000 in
theorem fsRX5_62 : am_FS RX5 62 4 4 0 := ⟨RX5, TX5, 5, tyX5, cb4, rfl, by decide, Or.inl (am_in1 103 rfl rfl)⟩
set_option maxRecDepth 100000 in
theorem fwRX5_62 : am_FW RX5 62 4 4 0 := ⟨RX5, TX5, 5, tyX5, cb4, rfl, by decide, rfl, Or.inl ⟨rfl, by decide +kernel⟩, Or.inl (am_in1 103 rfl rfl)⟩
set_option maxRecDepth 100000 in
theorem fsRX6_9 : am_FS RX6 9 5 1 2 := ⟨RX6, TX6, 11, tyX6, cb5, rfl, by decide, Or.inl (am_in1 160 rfl rfl)⟩
set_option maxRecDepth 100000 in
theorem fsRX6_15 : am_FS RX6 15 5 2 2 := ⟨RX6, TX6, 11, tyX6, cb5, rfl, by decide, Or.inl (am_in1 162 rfl rfl)⟩
set_option maxRecDepth 100000 in
theorem fsRX6_18 : am_FS RX6 18 5 3 2 := ⟨RX6, TX6, 11, tyX6, cb5, rfl, by decide, Or.inl (am_in1 164 rfl rfl)⟩
set_option maxRecDepth 100000 in
theorem fsRX6_21 : am_FS RX6 21 5 4 2 := ⟨RX6, TX6, 11, tyX6, cb5, rfl, by decide, Or.inl (am_in1 166 rfl rfl)⟩
set_option maxRecDepth 100000 in
theorem fsRX6_24 : am_FS RX6 24 5 5 2 := ⟨RX6, TX6, 11, tyX6, cb5, rfl, by decide, Or.inl (am_in1 167 rfl rfl)⟩
set_option maxRecDepth 100000 in
theorem fsRX6_27 : am_FS RX6 27 5 6 2 := ⟨RX6, TX6, 11, tyX6, cb5, rfl, by decide, Or.inl (am_in1 169 rfl rfl)⟩
set_option maxRecDepth 100000 in
theorem fsRX6_30 : am_FS RX6 30 5 7 2 := ⟨RX6, TX6, 11, tyX6, cb5, rfl, by decide, Or.inl (am_in1 170 rfl rfl)⟩
set_option maxRecDepth 100000 in
theorem fsRX6_34 : am_FS RX6 34 5 0 2 := ⟨RX6, TX6, 11, tyX6, cb5, rfl, by decide, Or.inl (am_in1 159 rfl rfl)⟩
set_option maxRecDepth 100000 in
theorem fsRX6_44 : am_FS RX6 44 5 8 1 := ⟨RX6, TX6, 11, tyX6, cb5, rfl, by decide, Or.inl (am_in1 171 rfl rfl)⟩
set_option maxRecDepth 100000 in
theorem fwRX6_44 : am_FW RX6 44 5 8 1 := ⟨RX6, TX6, 11, tyX6, cb5, rfl, by decide, rfl, Or.inr ⟨rfl, by decide +kernel⟩, Or.inl (am_in1 171 rfl rfl)⟩
set_option maxRecDepth 100000 in
theorem fsRX6_48 : am_FS RX6 48 5 9 1 := ⟨RX6, TX6, 11, tyX6, cb5, rfl, by decide, Or.inl (am_in1 173 rfl rfl)⟩
set_option maxRecDepth 100000 in
theorem fwRX6_48 : am_FW RX6 48 5 9 1 := ⟨RX6, TX6, 11, tyX6, cb5, rfl, by decide, rfl, Or.inr ⟨rfl, by decide +kernel⟩, Or.inl (am_in1 173 rfl rfl)⟩
set_option maxRecDepth 100000 in
theorem fsRX6_51 : am_FS RX6 51 5 10 0 := ⟨RX6, TX6, 11, tyX6, cb5, rfl, by decide, Or.inl (am_in1 175 rfl rfl)⟩
set_option maxRecDepth 100000 in
theorem fwRX6_51 : am_FW RX6 51 5 10 0 := ⟨RX6, TX6, 11, tyX6, cb5, rfl, by decide, rfl, Or.inl ⟨rfl, by decide +kernel⟩, Or.inl (am_in1 175 rfl rfl)⟩
set_option maxRecDepth 100000 in
theorem fsRX6_66 : am_FS RX6 66 0 4 2 := ⟨RX0, TX0, 6, tyX0, cb0, rfl, by decide, Or.inr ⟨"PloughField", am_inN1 75 rfl rfl⟩⟩
set_option maxRecDepth 100000 in
theorem fsRX6_97 : am_FS RX6 97 2 1 2 := ⟨RX2, TX2, 6, tyX2, cb2, rfl, by decide, Or.inr ⟨"PloughField", am_inN1 130 rfl rfl⟩⟩
set_option maxRecDepth 100000 in
theorem fsRX6_113 : am_FS RX6 113 0 5 2 := ⟨RX0, TX0, 6, tyX0, cb0, rfl, by decide, Or.inr ⟨"PloughField", am_inN1 79 rfl rfl⟩⟩
set_option maxRecDepth 100000 in
theorem fsRX7_11 : am_FS RX7 11 6 0 2 := ⟨RX7, TX7, 9, tyX7, cb6, rfl, by decide, Or.inl (am_in2 70 rfl rfl)⟩
set_option maxRecDepth 100000 in
theorem fsRX7_15 : am_FS RX7 15 6 1 2 := ⟨RX7, TX7, 9, tyX7, cb6, rfl, by decide, Or.inl (am_in2 71 rfl rfl)⟩
set_option maxRecDepth 100000 in
theorem fsRX7_18 : am_FS RX7 18 6 2 2 := ⟨RX7, TX7, 9, tyX7, cb6, rfl, by decide, Or.inl (am_in2 72 rfl rfl)⟩
set_option maxRecDepth 100000 in
theorem fsRX7_21 : am_FS RX7 21 6 3 2 := ⟨RX7, TX7, 9, tyX7, cb6, rfl, by decide, Or.inl (am_in2 73 rfl rfl)⟩
set_option maxRecDepth 100000 in
theorem fsRX7_24 : am_FS RX7 24 6 4 0 := ⟨RX7, TX7, 9, tyX7, cb6, rfl, by decide, Or.inl (am_in2 75 rfl rfl)⟩
set_option maxRecDepth 100000 in
theorem fwRX7_24 : am_FW RX7 24 6 4 0 := ⟨RX7, TX7, 9, tyX7, cb6, rfl, by decide, rfl, Or.inl ⟨rfl, by decide +kernel⟩, Or.inl (am_in2 75 rfl rfl)⟩
set_option maxRecDepth 100000 in
theorem fsRX7_38 : am_FS RX7 38 6 6 0 := ⟨RX7, TX7, 9, tyX7, cb6, rfl, by decide, Or.inl (am_in2 78 rfl rfl)⟩
set_option maxRecDepth 100000 in
theorem fwRX7_38 : am_FW RX7 38 6 6 0 := ⟨RX7, TX7, 9, tyX7, cb6, rfl, by decide, rfl, Or.inl ⟨rfl, by decide +kernel⟩, Or.inl (am_in2 78 rfl rfl)⟩
set_option maxRecDepth 100000 in
theorem fsRX7_41 : am_FS RX7 41 6 7 0 := ⟨RX7, TX7, 9, tyX7, cb6, rfl, by decide, Or.inl (am_in2 79 rfl rfl)⟩
set_option maxRecDepth 100000 in
theorem fwRX7_41 : am_FW RX7 41 6 7 0 := ⟨RX7, TX7, 9, tyX7, cb6, rfl, by decide, rfl, Or.inl ⟨rfl, by decide +kernel⟩, Or.inl (am_in2 79 rfl rfl)⟩
set_option maxRecDepth 100000 in
theorem fsRX7_44 : am_FS RX7 44 6 8 0 := ⟨RX7, TX7, 9, tyX7, cb6, rfl, by decide, Or.inl (am_in2 81 rfl rfl)⟩
set_option maxRecDepth 100000 in
theorem fwRX7_44 : am_FW RX7 44 6 8 0 := ⟨RX7, TX7, 9, tyX7, cb6, rfl, by decide, rfl, Or.inl ⟨rfl, by decide +kernel⟩, Or.inl (am_in2 81 rfl rfl)⟩
set_option maxRecDepth 100000 in
theorem fsRX7_58 : am_FS RX7 58 6 5 0 := ⟨RX7, TX7, 9, tyX7, cb6, rfl, by decide, Or.inl (am_in2 77 rfl rfl)⟩
set_option maxRecDepth 100000 in
theorem fwRX7_58 : am_FW RX7 58 6 5 0 := ⟨RX7, TX7, 9, tyX7, cb6, rfl, by decide, rfl, Or.inl ⟨rfl, by decide +kernel⟩, Or.inl (am_in2 77 rfl rfl)⟩
set_option maxRecDepth 100000 in
theorem fsRX8_14 : am_FS RX8 14 7 0 2 := ⟨RX8, TX8, 1, tyX8, cb7, rfl, by decide, Or.inl (am_in2 145 rfl rfl)⟩
set_option maxRecDepth 100000 in
theorem fsRX8_38 : am_FS RX8 38 8 3 0 := ⟨RX9, TX9, 4, tyX9, cb8, rfl, by decide, Or.inr ⟨"PloughField", am_inN1 50 rfl rfl⟩⟩
set_option maxRecDepth 100000 in
theorem fwRX8_38 : am_FW RX8 38 8 3 0 := ⟨RX9, TX9, 4, tyX9, cb8, rfl, by decide, rfl, Or.inl ⟨rfl, by decide +kernel⟩, Or.inr ⟨"PloughField", am_inN1 50 rfl rfl⟩⟩
set_option maxRecDepth 100000 in
theorem fsRX9_7 : am_FS RX9 7 8 2 0 := ⟨RX9, TX9, 4, tyX9, cb8, rfl, by decide, Or.inl (am_in1 46 rfl rfl)⟩
set_option maxRecDepth 100000 in
theorem fsRX9_13 : am_FS RX9 13 8 1 0 := ⟨RX9, TX9, 4, tyX9, cb8, rfl, by decide, Or.inl (am_in1 45 rfl rfl)⟩
set_option maxRecDepth 100000 in
theorem fsRX9_16 : am_FS RX9 16 8 0 2 := ⟨RX9, TX9, 4, tyX9, cb8, rfl, by decide, Or.inl (am_in1 44 rfl rfl)⟩
set_option maxRecDepth 100000 in
theorem fsRX9_20 : am_FS RX9 20 8 3 0 := ⟨RX9, TX9, 4, tyX9, cb8, rfl, by decide, Or.inl (am_in1 47 rfl rfl)⟩
set_option maxRecDepth 100000 in
theorem fwRX9_20 : am_FW RX9 20 8 3 0 := ⟨RX9, TX9, 4, tyX9, cb8, rfl, by decide, rfl, Or.inl ⟨rfl, by decide +kernel⟩, Or.inl (am_in1 47 rfl rfl)⟩
set_option maxRecDepth 100000 in
theorem mbJ13_bitCount_95d88 : am_MB mJ13_bitCount_95d88 1 := ⟨by decide +kernel, am_in4 115 rfl rfl, am_in1 15 rfl rfl, ⟨by decide, by decide, by decide +kernel⟩, by decide⟩
set_option maxRecDepth 100000 in
theorem mbJ6_bitCount_0f7a4 : am_MB mJ6_bitCount_0f7a4 1 := ⟨by decide +kernel, am_in4 189 rfl rfl, am_in1 17 rfl rfl, ⟨by decide, by decide, by decide +kernel⟩, by decide⟩
set_option maxRecDepth 100000 in
theorem mbJ7_fill_53178 : am_MB mJ7_fill_53178 2 := ⟨by decide +kernel, am_in2 1 rfl rfl, am_in1 9 rfl rfl, ⟨by decide, by decide, by decide +kernel⟩, by decide⟩
set_option maxRecDepth 100000 in
theorem mbJ7_fill_d0a16 : am_MB mJ7_fill_d0a16 2 := ⟨by decide +kernel, am_in2 14 rfl rfl, am_in1 9 rfl rfl, ⟨by decide, by decide, by decide +kernel⟩, by decide⟩
set_option maxRecDepth 100000 in
theorem mbJ9_abs_0f7a4 : am_MB mJ9_abs_0f7a4 1 := ⟨by decide +kernel, am_in4 17 rfl rfl, am_in1 14 rfl rfl, ⟨by decide, by decide, by decide +kernel⟩, by decide⟩
set_option maxRecDepth 100000 in
theorem mbJ9_max_7cf53 : am_MB mJ9_max_7cf53 2 := ⟨by decide +kernel, am_in5 53 rfl rfl, am_in1 14 rfl rfl, ⟨by decide, by decide, by decide +kernel⟩, by decide⟩
set_option maxRecDepth 100000 in
theorem mbJ9_max_f86c9 : am_MB mJ9_max_f86c9 2 := ⟨by decide +kernel, am_in6 1 rfl rfl, am_in1 14 rfl rfl, ⟨by decide, by decide, by decide +kernel⟩, by decide⟩
set_option maxRecDepth 100000 in
theorem mbJ9_min_7cf53 : am_MB mJ9_min_7cf53 2 := ⟨by decide +kernel, am_in3 208 rfl rfl, am_in1 14 rfl rfl, ⟨by decide, by decide, by decide +kernel⟩, by decide⟩
set_option maxRecDepth 100000 in
theorem mbJ9_min_f86c9 : am_MB mJ9_min_f86c9 2 := ⟨by decide +kernel, am_in5 238 rfl rfl, am_in1 14 rfl rfl, ⟨by decide, by decide, by decide +kernel⟩, by decide⟩
set_option maxRecDepth 100000 in
theorem mbX0_fallingAt : am_MB mX0_fallingAt 2 := ⟨by decide, am_in3 142 rfl rfl, am_in1 2 rfl rfl, ⟨by decide, by decide, by decide +kernel⟩, by decide⟩
set_option maxRecDepth 100000 in
theorem mbX0_hasRoom : am_MB mX0_hasRoom 1 := ⟨by decide, am_in3 64 rfl rfl, am_in1 2 rfl rfl, ⟨by decide, by decide, by decide +kernel⟩, by decide⟩
set_option maxRecDepth 100000 in
theorem mbX0_hoursToRain : am_MB mX0_hoursToRain 1 := ⟨by decide, am_in5 209 rfl rfl, am_in1 2 rfl rfl, ⟨by decide, by decide, by decide +kernel⟩, by decide⟩
set_option maxRecDepth 100000 in
theorem mbX10_adjust : am_MB mX10_adjust 2 := ⟨by decide, am_in2 228 rfl rfl, am_in1 5 rfl rfl, ⟨by decide, by decide, by decide +kernel⟩, by decide⟩
set_option maxRecDepth 100000 in
theorem mbX10_begin : am_MB mX10_begin 2 := ⟨by decide, am_in1 234 rfl rfl, am_in1 5 rfl rfl, ⟨by decide, by decide, by decide +kernel⟩, by decide⟩
set_option maxRecDepth 100000 in
theorem mbX10_bringCart : am_MB mX10_bringCart 1 := ⟨by decide, am_in2 233 rfl rfl, am_in1 5 rfl rfl, ⟨by decide, by decide, by decide +kernel⟩, by decide⟩
set_option maxRecDepth 100000 in
theorem mbX10_cheapest : am_MB mX10_cheapest 2 := ⟨by decide, am_in3 212 rfl rfl, am_in1 5 rfl rfl, ⟨by decide, by decide, by decide +kernel⟩, by decide⟩
set_option maxRecDepth 100000 in
theorem mbX10_doWork : am_MB mX10_doWork 2 := ⟨by decide, am_in4 21 rfl rfl, am_in1 5 rfl rfl, ⟨by decide, by decide, by decide +kernel⟩, by decide⟩
set_option maxRecDepth 100000 in
theorem mbX10_doerOfWork : am_MB mX10_doerOfWork 1 := ⟨by decide, am_in4 132 rfl rfl, am_in1 5 rfl rfl, ⟨by decide, by decide, by decide +kernel⟩, by decide⟩
set_option maxRecDepth 100000 in
theorem mbX10_factOfCell : am_MB mX10_factOfCell 2 := ⟨by decide, am_in4 88 rfl rfl, am_in1 5 rfl rfl, ⟨by decide, by decide, by decide +kernel⟩, by decide⟩
set_option maxRecDepth 100000 in
theorem mbX10_gatherFacts : am_MB mX10_gatherFacts 2 := ⟨by decide, am_in5 205 rfl rfl, am_in1 5 rfl rfl, ⟨by decide, by decide, by decide +kernel⟩, by decide⟩
set_option maxRecDepth 100000 in
theorem mbX10_goalOf : am_MB mX10_goalOf 2 := ⟨by decide, am_in3 216 rfl rfl, am_in1 5 rfl rfl, ⟨by decide, by decide, by decide +kernel⟩, by decide⟩
set_option maxRecDepth 100000 in
theorem mbX10_hear : am_MB mX10_hear 1 := ⟨by decide, am_in2 219 rfl rfl, am_in1 5 rfl rfl, ⟨by decide, by decide, by decide +kernel⟩, by decide⟩
set_option maxRecDepth 100000 in
theorem mbX10_hearTold : am_MB mX10_hearTold 0 := ⟨by decide, am_in2 211 rfl rfl, am_in1 5 rfl rfl, ⟨by decide, by decide, by decide +kernel⟩, by decide⟩
set_option maxRecDepth 100000 in
theorem mbX10_isAtWork : am_MB mX10_isAtWork 2 := ⟨by decide, am_in4 11 rfl rfl, am_in1 5 rfl rfl, ⟨by decide, by decide, by decide +kernel⟩, by decide⟩
set_option maxRecDepth 100000 in
theorem mbX10_leaveWork : am_MB mX10_leaveWork 2 := ⟨by decide, am_in4 50 rfl rfl, am_in1 5 rfl rfl, ⟨by decide, by decide, by decide +kernel⟩, by decide⟩
set_option maxRecDepth 100000 in
theorem mbX10_leavesOut : am_MB mX10_leavesOut 2 := ⟨by decide, am_in2 237 rfl rfl, am_in1 5 rfl rfl, ⟨by decide, by decide, by decide +kernel⟩, by decide⟩
set_option maxRecDepth 100000 in
theorem mbX10_makeOffers : am_MB mX10_makeOffers 0 := ⟨by decide, am_in3 167 rfl rfl, am_in1 5 rfl rfl, ⟨by decide, by decide, by decide +kernel⟩, by decide⟩
set_option maxRecDepth 100000 in
theorem mbX10_move : am_MB mX10_move 1 := ⟨by decide, am_in4 41 rfl rfl, am_in1 5 rfl rfl, ⟨by decide, by decide, by decide +kernel⟩, by decide⟩
set_option maxRecDepth 100000 in
theorem mbX10_ofKind : am_MB mX10_ofKind 1 := ⟨by decide, am_in3 183 rfl rfl, am_in1 5 rfl rfl, ⟨by decide, by decide, by decide +kernel⟩, by decide⟩
set_option maxRecDepth 100000 in
theorem mbX10_openWork : am_MB mX10_openWork 1 := ⟨by decide, am_in3 17 rfl rfl, am_in1 5 rfl rfl, ⟨by decide, by decide, by decide +kernel⟩, by decide⟩
set_option maxRecDepth 100000 in
theorem mbX10_passHour : am_MB mX10_passHour 0 := ⟨by decide, am_in3 138 rfl rfl, am_in1 5 rfl rfl, ⟨by decide, by decide, by decide +kernel⟩, by decide⟩
set_option maxRecDepth 100000 in
theorem mbX10_playTo : am_MB mX10_playTo 1 := ⟨by decide, am_in3 133 rfl rfl, am_in1 5 rfl rfl, ⟨by decide, by decide, by decide +kernel⟩, by decide⟩
set_option maxRecDepth 100000 in
theorem mbX10_stateOfWork : am_MB mX10_stateOfWork 1 := ⟨by decide, am_in4 128 rfl rfl, am_in1 5 rfl rfl, ⟨by decide, by decide, by decide +kernel⟩, by decide⟩
set_option maxRecDepth 100000 in
theorem mbX10_takeOn : am_MB mX10_takeOn 2 := ⟨by decide, am_in3 237 rfl rfl, am_in1 5 rfl rfl, ⟨by decide, by decide, by decide +kernel⟩, by decide⟩
set_option maxRecDepth 100000 in
theorem mbX10_takeTurn : am_MB mX10_takeTurn 1 := ⟨by decide, am_in4 1 rfl rfl, am_in1 5 rfl rfl, ⟨by decide, by decide, by decide +kernel⟩, by decide⟩
set_option maxRecDepth 100000 in
theorem mbX10_worksThatAre : am_MB mX10_worksThatAre 1 := ⟨by decide, am_in6 25 rfl rfl, am_in1 5 rfl rfl, ⟨by decide, by decide, by decide +kernel⟩, by decide⟩
set_option maxRecDepth 100000 in
theorem mbX11_act : am_MB mX11_act 2 := ⟨by decide, am_in5 197 rfl rfl, am_in1 1 rfl rfl, ⟨by decide, by decide, by decide +kernel⟩, by decide⟩
set_option maxRecDepth 100000 in
theorem mbX11_addWork : am_MB mX11_addWork 3 := ⟨by decide, am_in3 90 rfl rfl, am_in1 1 rfl rfl, ⟨by decide, by decide, by decide +kernel⟩, by decide⟩
set_option maxRecDepth 100000 in
theorem mbX11_again : am_MB mX11_again 4 := ⟨by decide, am_in6 11 rfl rfl, am_in1 1 rfl rfl, ⟨by decide, by decide, by decide +kernel⟩, by decide⟩
set_option maxRecDepth 100000 in
theorem mbX11_areMarks : am_MB mX11_areMarks 1 := ⟨by decide, am_in3 113 rfl rfl, am_in1 1 rfl rfl, ⟨by decide, by decide, by decide +kernel⟩, by decide⟩
set_option maxRecDepth 100000 in
theorem mbX11_beside : am_MB mX11_beside 2 := ⟨by decide, am_in3 159 rfl rfl, am_in1 1 rfl rfl, ⟨by decide, by decide, by decide +kernel⟩, by decide⟩
set_option maxRecDepth 100000 in
theorem mbX11_better : am_MB mX11_better 1 := ⟨by decide, am_in4 200 rfl rfl, am_in1 1 rfl rfl, ⟨by decide, by decide, by decide +kernel⟩, by decide⟩
set_option maxRecDepth 100000 in
theorem mbX11_bit : am_MB mX11_bit 1 := ⟨by decide, am_in3 29 rfl rfl, am_in1 1 rfl rfl, ⟨by decide, by decide, by decide +kernel⟩, by decide⟩
set_option maxRecDepth 100000 in
theorem mbX11_canLeaveOut : am_MB mX11_canLeaveOut 2 := ⟨by decide, am_in6 15 rfl rfl, am_in1 1 rfl rfl, ⟨by decide, by decide, by decide +kernel⟩, by decide⟩
set_option maxRecDepth 100000 in
theorem mbX11_cart : am_MB mX11_cart 5 := ⟨by decide, am_in3 73 rfl rfl, am_in1 1 rfl rfl, ⟨by decide, by decide, by decide +kernel⟩, by decide⟩
set_option maxRecDepth 100000 in
theorem mbX11_cell : am_MB mX11_cell 2 := ⟨by decide, am_in4 84 rfl rfl, am_in1 1 rfl rfl, ⟨by decide, by decide, by decide +kernel⟩, by decide⟩
set_option maxRecDepth 100000 in
theorem mbX11_charge : am_MB mX11_charge 1 := ⟨by decide, am_in3 77 rfl rfl, am_in1 1 rfl rfl, ⟨by decide, by decide, by decide +kernel⟩, by decide⟩
set_option maxRecDepth 100000 in
theorem mbX11_count : am_MB mX11_count 1 := ⟨by decide, am_in6 21 rfl rfl, am_in1 1 rfl rfl, ⟨by decide, by decide, by decide +kernel⟩, by decide⟩
set_option maxRecDepth 100000 in
theorem mbX11_far : am_MB mX11_far 2 := ⟨by decide, am_in4 14 rfl rfl, am_in1 1 rfl rfl, ⟨by decide, by decide, by decide +kernel⟩, by decide⟩
set_option maxRecDepth 100000 in
theorem mbX11_fault : am_MB mX11_fault 0 := ⟨by decide, am_in5 193 rfl rfl, am_in1 1 rfl rfl, ⟨by decide, by decide, by decide +kernel⟩, by decide⟩
set_option maxRecDepth 100000 in
theorem mbX11_feed : am_MB mX11_feed 5 := ⟨by decide, am_in4 233 rfl rfl, am_in1 1 rfl rfl, ⟨by decide, by decide, by decide +kernel⟩, by decide⟩
set_option maxRecDepth 100000 in
theorem mbX11_findsAct : am_MB mX11_findsAct 1 := ⟨by decide, am_in5 201 rfl rfl, am_in1 1 rfl rfl, ⟨by decide, by decide, by decide +kernel⟩, by decide⟩
set_option maxRecDepth 100000 in
theorem mbX11_ill : am_MB mX11_ill 2 := ⟨by decide, am_in3 121 rfl rfl, am_in1 1 rfl rfl, ⟨by decide, by decide, by decide +kernel⟩, by decide⟩
set_option maxRecDepth 100000 in
theorem mbX11_isCell : am_MB mX11_isCell 1 := ⟨by decide, am_in2 187 rfl rfl, am_in1 1 rfl rfl, ⟨by decide, by decide, by decide +kernel⟩, by decide⟩
set_option maxRecDepth 100000 in
theorem mbX11_isOdds : am_MB mX11_isOdds 1 := ⟨by decide, am_in3 101 rfl rfl, am_in1 1 rfl rfl, ⟨by decide, by decide, by decide +kernel⟩, by decide⟩
set_option maxRecDepth 100000 in
theorem mbX11_isSetting : am_MB mX11_isSetting 2 := ⟨by decide, am_in3 56 rfl rfl, am_in1 1 rfl rfl, ⟨by decide, by decide, by decide +kernel⟩, by decide⟩
set_option maxRecDepth 100000 in
theorem mbX11_job : am_MB mX11_job 2 := ⟨by decide, am_in4 123 rfl rfl, am_in1 1 rfl rfl, ⟨by decide, by decide, by decide +kernel⟩, by decide⟩
set_option maxRecDepth 100000 in
theorem mbX11_kind : am_MB mX11_kind 6 := ⟨by decide, am_in3 98 rfl rfl, am_in1 1 rfl rfl, ⟨by decide, by decide, by decide +kernel⟩, by decide⟩
set_option maxRecDepth 100000 in
theorem mbX11_land : am_MB mX11_land 3 := ⟨by decide, am_in2 184 rfl rfl, am_in1 1 rfl rfl, ⟨by decide, by decide, by decide +kernel⟩, by decide⟩
set_option maxRecDepth 100000 in
theorem mbX11_look : am_MB mX11_look 2 := ⟨by decide, am_in3 117 rfl rfl, am_in1 1 rfl rfl, ⟨by decide, by decide, by decide +kernel⟩, by decide⟩
set_option maxRecDepth 100000 in
theorem mbX11_lot : am_MB mX11_lot 1 := ⟨by decide, am_in3 94 rfl rfl, am_in1 1 rfl rfl, ⟨by decide, by decide, by decide +kernel⟩, by decide⟩
set_option maxRecDepth 100000 in
theorem mbX11_pass : am_MB mX11_pass 1 := ⟨by decide, am_in3 129 rfl rfl, am_in1 1 rfl rfl, ⟨by decide, by decide, by decide +kernel⟩, by decide⟩
set_option maxRecDepth 100000 in
theorem mbX11_plan : am_MB mX11_plan 1 := ⟨by decide, am_in6 5 rfl rfl, am_in1 1 rfl rfl, ⟨by decide, by decide, by decide +kernel⟩, by decide⟩
set_option maxRecDepth 100000 in
theorem mbX11_plant : am_MB mX11_plant 1 := ⟨by decide, am_in3 105 rfl rfl, am_in1 1 rfl rfl, ⟨by decide, by decide, by decide +kernel⟩, by decide⟩
set_option maxRecDepth 100000 in
theorem mbX11_pull : am_MB mX11_pull 3 := ⟨by decide, am_in4 174 rfl rfl, am_in1 1 rfl rfl, ⟨by decide, by decide, by decide +kernel⟩, by decide⟩
set_option maxRecDepth 100000 in
theorem mbX11_rain : am_MB mX11_rain 3 := ⟨by decide, am_in3 60 rfl rfl, am_in1 1 rfl rfl, ⟨by decide, by decide, by decide +kernel⟩, by decide⟩
set_option maxRecDepth 100000 in
theorem mbX11_rules : am_MB mX11_rules 1 := ⟨by decide, am_in5 5 rfl rfl, am_in1 1 rfl rfl, ⟨by decide, by decide, by decide +kernel⟩, by decide⟩
set_option maxRecDepth 100000 in
theorem mbX11_set : am_MB mX11_set 2 := ⟨by decide, am_in3 53 rfl rfl, am_in1 1 rfl rfl, ⟨by decide, by decide, by decide +kernel⟩, by decide⟩
set_option maxRecDepth 100000 in
theorem mbX11_share : am_MB mX11_share 2 := ⟨by decide, am_in4 103 rfl rfl, am_in1 1 rfl rfl, ⟨by decide, by decide, by decide +kernel⟩, by decide⟩
set_option maxRecDepth 100000 in
theorem mbX11_show : am_MB mX11_show 2 := ⟨by decide, am_in3 110 rfl rfl, am_in1 1 rfl rfl, ⟨by decide, by decide, by decide +kernel⟩, by decide⟩
set_option maxRecDepth 100000 in
theorem mbX11_spot : am_MB mX11_spot 2 := ⟨by decide, am_in4 157 rfl rfl, am_in1 1 rfl rfl, ⟨by decide, by decide, by decide +kernel⟩, by decide⟩
set_option maxRecDepth 100000 in
theorem mbX11_strip : am_MB mX11_strip 2 := ⟨by decide, am_in4 196 rfl rfl, am_in1 1 rfl rfl, ⟨by decide, by decide, by decide +kernel⟩, by decide⟩
set_option maxRecDepth 100000 in
theorem mbX11_tell : am_MB mX11_tell 4 := ⟨by decide, am_in2 194 rfl rfl, am_in1 1 rfl rfl, ⟨by decide, by decide, by decide +kernel⟩, by decide⟩
set_option maxRecDepth 100000 in
theorem mbX11_tellNewest : am_MB mX11_tellNewest 2 := ⟨by decide, am_in3 69 rfl rfl, am_in1 1 rfl rfl, ⟨by decide, by decide, by decide +kernel⟩, by decide⟩
set_option maxRecDepth 100000 in
theorem mbX11_told : am_MB mX11_told 2 := ⟨by decide, am_in4 108 rfl rfl, am_in1 1 rfl rfl, ⟨by decide, by decide, by decide +kernel⟩, by decide⟩
set_option maxRecDepth 100000 in
theorem mbX11_water : am_MB mX11_water 1 := ⟨by decide, am_in4 148 rfl rfl, am_in1 1 rfl rfl, ⟨by decide, by decide, by decide +kernel⟩, by decide⟩
set_option maxRecDepth 100000 in
theorem mbX11_way : am_MB mX11_way 3 := ⟨by decide, am_in4 136 rfl rfl, am_in1 1 rfl rfl, ⟨by decide, by decide, by decide +kernel⟩, by decide⟩
set_option maxRecDepth 100000 in
theorem mbX11_within : am_MB mX11_within 3 := ⟨by decide, am_in2 190 rfl rfl, am_in1 1 rfl rfl, ⟨by decide, by decide, by decide +kernel⟩, by decide⟩
set_option maxRecDepth 100000 in
theorem mbX11_work : am_MB mX11_work 3 := ⟨by decide, am_in3 86 rfl rfl, am_in1 1 rfl rfl, ⟨by decide, by decide, by decide +kernel⟩, by decide⟩
set_option maxRecDepth 100000 in
theorem mbX12_act : am_MB mX12_act 2 := ⟨by decide, am_in8 134 rfl rfl, am_in1 13 rfl rfl, ⟨by decide, by decide, by decide +kernel⟩, by decide⟩
set_option maxRecDepth 100000 in
theorem mbX12_acts : am_MB mX12_acts 1 := ⟨by decide, am_in7 164 rfl rfl, am_in1 13 rfl rfl, ⟨by decide, by decide, by decide +kernel⟩, by decide⟩
set_option maxRecDepth 100000 in
theorem mbX12_again : am_MB mX12_again 4 := ⟨by decide, am_in8 39 rfl rfl, am_in1 13 rfl rfl, ⟨by decide, by decide, by decide +kernel⟩, by decide⟩
set_option maxRecDepth 100000 in
theorem mbX12_all : am_MB mX12_all 0 := ⟨by decide, am_in8 119 rfl rfl, am_in1 13 rfl rfl, ⟨by decide, by decide, by decide +kernel⟩, by decide⟩
set_option maxRecDepth 100000 in
theorem mbX12_any : am_MB mX12_any 0 := ⟨by decide, am_in8 115 rfl rfl, am_in1 13 rfl rfl, ⟨by decide, by decide, by decide +kernel⟩, by decide⟩
set_option maxRecDepth 100000 in
theorem mbX12_asked : am_MB mX12_asked 1 := ⟨by decide, am_in8 102 rfl rfl, am_in1 13 rfl rfl, ⟨by decide, by decide, by decide +kernel⟩, by decide⟩
set_option maxRecDepth 100000 in
theorem mbX12_atom : am_MB mX12_atom 0 := ⟨by decide, am_in8 83 rfl rfl, am_in1 13 rfl rfl, ⟨by decide, by decide, by decide +kernel⟩, by decide⟩
set_option maxRecDepth 100000 in
theorem mbX12_begins : am_MB mX12_begins 0 := ⟨by decide, am_in6 44 rfl rfl, am_in1 13 rfl rfl, ⟨by decide, by decide, by decide +kernel⟩, by decide⟩
set_option maxRecDepth 100000 in
theorem mbX12_beside : am_MB mX12_beside 2 := ⟨by decide, am_in7 126 rfl rfl, am_in1 13 rfl rfl, ⟨by decide, by decide, by decide +kernel⟩, by decide⟩
set_option maxRecDepth 100000 in
theorem mbX12_better : am_MB mX12_better 1 := ⟨by decide, am_in8 30 rfl rfl, am_in1 13 rfl rfl, ⟨by decide, by decide, by decide +kernel⟩, by decide⟩
set_option maxRecDepth 100000 in
theorem mbX12_bit : am_MB mX12_bit 1 := ⟨by decide, am_in8 158 rfl rfl, am_in1 13 rfl rfl, ⟨by decide, by decide, by decide +kernel⟩, by decide⟩
set_option maxRecDepth 100000 in
theorem mbX12_bits : am_MB mX12_bits 1 := ⟨by decide, am_in8 22 rfl rfl, am_in1 13 rfl rfl, ⟨by decide, by decide, by decide +kernel⟩, by decide⟩
set_option maxRecDepth 100000 in
theorem mbX12_blanks : am_MB mX12_blanks 0 := ⟨by decide, am_in8 55 rfl rfl, am_in1 13 rfl rfl, ⟨by decide, by decide, by decide +kernel⟩, by decide⟩
set_option maxRecDepth 100000 in
theorem mbX12_both : am_MB mX12_both 3 := ⟨by decide, am_in8 150 rfl rfl, am_in1 13 rfl rfl, ⟨by decide, by decide, by decide +kernel⟩, by decide⟩
set_option maxRecDepth 100000 in
theorem mbX12_cart : am_MB mX12_cart 5 := ⟨by decide, am_in7 56 rfl rfl, am_in1 13 rfl rfl, ⟨by decide, by decide, by decide +kernel⟩, by decide⟩
set_option maxRecDepth 100000 in
theorem mbX12_cell : am_MB mX12_cell 2 := ⟨by decide, am_in7 205 rfl rfl, am_in1 13 rfl rfl, ⟨by decide, by decide, by decide +kernel⟩, by decide⟩
set_option maxRecDepth 100000 in
theorem mbX12_cellOf : am_MB mX12_cellOf 2 := ⟨by decide, am_in7 209 rfl rfl, am_in1 13 rfl rfl, ⟨by decide, by decide, by decide +kernel⟩, by decide⟩
set_option maxRecDepth 100000 in
theorem mbX12_charge : am_MB mX12_charge 1 := ⟨by decide, am_in7 60 rfl rfl, am_in1 13 rfl rfl, ⟨by decide, by decide, by decide +kernel⟩, by decide⟩
set_option maxRecDepth 100000 in
theorem mbX12_charged : am_MB mX12_charged 1 := ⟨by decide, am_in7 27 rfl rfl, am_in1 13 rfl rfl, ⟨by decide, by decide, by decide +kernel⟩, by decide⟩
set_option maxRecDepth 100000 in
theorem mbX12_comes : am_MB mX12_comes 1 := ⟨by decide, am_in7 23 rfl rfl, am_in1 13 rfl rfl, ⟨by decide, by decide, by decide +kernel⟩, by decide⟩
set_option maxRecDepth 100000 in
theorem mbX12_count : am_MB mX12_count 1 := ⟨by decide, am_in8 169 rfl rfl, am_in1 13 rfl rfl, ⟨by decide, by decide, by decide +kernel⟩, by decide⟩
set_option maxRecDepth 100000 in
theorem mbX12_dies : am_MB mX12_dies 2 := ⟨by decide, am_in7 181 rfl rfl, am_in1 13 rfl rfl, ⟨by decide, by decide, by decide +kernel⟩, by decide⟩
set_option maxRecDepth 100000 in
theorem mbX12_does : am_MB mX12_does 1 := ⟨by decide, am_in7 19 rfl rfl, am_in1 13 rfl rfl, ⟨by decide, by decide, by decide +kernel⟩, by decide⟩
set_option maxRecDepth 100000 in
theorem mbX12_dries : am_MB mX12_dries 0 := ⟨by decide, am_in7 152 rfl rfl, am_in1 13 rfl rfl, ⟨by decide, by decide, by decide +kernel⟩, by decide⟩
set_option maxRecDepth 100000 in
theorem mbX12_drops : am_MB mX12_drops 1 := ⟨by decide, am_in7 189 rfl rfl, am_in1 13 rfl rfl, ⟨by decide, by decide, by decide +kernel⟩, by decide⟩
set_option maxRecDepth 100000 in
theorem mbX12_ends : am_MB mX12_ends 0 := ⟨by decide, am_in7 197 rfl rfl, am_in1 13 rfl rfl, ⟨by decide, by decide, by decide +kernel⟩, by decide⟩
set_option maxRecDepth 100000 in
theorem mbX12_enters : am_MB mX12_enters 2 := ⟨by decide, am_in7 193 rfl rfl, am_in1 13 rfl rfl, ⟨by decide, by decide, by decide +kernel⟩, by decide⟩
set_option maxRecDepth 100000 in
theorem mbX12_ex : am_MB mX12_ex 0 := ⟨by decide, am_in8 75 rfl rfl, am_in1 13 rfl rfl, ⟨by decide, by decide, by decide +kernel⟩, by decide⟩
set_option maxRecDepth 100000 in
theorem mbX12_far : am_MB mX12_far 2 := ⟨by decide, am_in7 113 rfl rfl, am_in1 13 rfl rfl, ⟨by decide, by decide, by decide +kernel⟩, by decide⟩
set_option maxRecDepth 100000 in
theorem mbX12_fault : am_MB mX12_fault 0 := ⟨by decide, am_in8 130 rfl rfl, am_in1 13 rfl rfl, ⟨by decide, by decide, by decide +kernel⟩, by decide⟩
set_option maxRecDepth 100000 in
theorem mbX12_feed : am_MB mX12_feed 5 := ⟨by decide, am_in8 43 rfl rfl, am_in1 13 rfl rfl, ⟨by decide, by decide, by decide +kernel⟩, by decide⟩
set_option maxRecDepth 100000 in
theorem mbX12_finds : am_MB mX12_finds 0 := ⟨by decide, am_in8 15 rfl rfl, am_in1 13 rfl rfl, ⟨by decide, by decide, by decide +kernel⟩, by decide⟩
set_option maxRecDepth 100000 in
theorem mbX12_flows : am_MB mX12_flows 0 := ⟨by decide, am_in7 148 rfl rfl, am_in1 13 rfl rfl, ⟨by decide, by decide, by decide +kernel⟩, by decide⟩
set_option maxRecDepth 100000 in
theorem mbX12_four : am_MB mX12_four 1 := ⟨by decide, am_in8 47 rfl rfl, am_in1 13 rfl rfl, ⟨by decide, by decide, by decide +kernel⟩, by decide⟩
set_option maxRecDepth 100000 in
theorem mbX12_gives : am_MB mX12_gives 1 := ⟨by decide, am_in7 168 rfl rfl, am_in1 13 rfl rfl, ⟨by decide, by decide, by decide +kernel⟩, by decide⟩
set_option maxRecDepth 100000 in
theorem mbX12_grows : am_MB mX12_grows 1 := ⟨by decide, am_in7 35 rfl rfl, am_in1 13 rfl rfl, ⟨by decide, by decide, by decide +kernel⟩, by decide⟩
set_option maxRecDepth 100000 in
theorem mbX12_has : am_MB mX12_has 1 := ⟨by decide, am_in7 84 rfl rfl, am_in1 13 rfl rfl, ⟨by decide, by decide, by decide +kernel⟩, by decide⟩
set_option maxRecDepth 100000 in
theorem mbX12_heavy : am_MB mX12_heavy 2 := ⟨by decide, am_in7 123 rfl rfl, am_in1 13 rfl rfl, ⟨by decide, by decide, by decide +kernel⟩, by decide⟩
set_option maxRecDepth 100000 in
theorem mbX12_held : am_MB mX12_held 1 := ⟨by decide, am_in8 153 rfl rfl, am_in1 13 rfl rfl, ⟨by decide, by decide, by decide +kernel⟩, by decide⟩
set_option maxRecDepth 100000 in
theorem mbX12_hour : am_MB mX12_hour 0 := ⟨by decide, am_in7 140 rfl rfl, am_in1 13 rfl rfl, ⟨by decide, by decide, by decide +kernel⟩, by decide⟩
set_option maxRecDepth 100000 in
theorem mbX12_ill : am_MB mX12_ill 2 := ⟨by decide, am_in7 96 rfl rfl, am_in1 13 rfl rfl, ⟨by decide, by decide, by decide +kernel⟩, by decide⟩
set_option maxRecDepth 100000 in
theorem mbX12_illMany : am_MB mX12_illMany 0 := ⟨by decide, am_in7 239 rfl rfl, am_in1 13 rfl rfl, ⟨by decide, by decide, by decide +kernel⟩, by decide⟩
set_option maxRecDepth 100000 in
theorem mbX12_isBut : am_MB mX12_isBut 2 := ⟨by decide, am_in7 31 rfl rfl, am_in1 13 rfl rfl, ⟨by decide, by decide, by decide +kernel⟩, by decide⟩
set_option maxRecDepth 100000 in
theorem mbX12_isCart : am_MB mX12_isCart 1 := ⟨by decide, am_in7 64 rfl rfl, am_in1 13 rfl rfl, ⟨by decide, by decide, by decide +kernel⟩, by decide⟩
set_option maxRecDepth 100000 in
theorem mbX12_isCell : am_MB mX12_isCell 1 := ⟨by decide, am_in7 8 rfl rfl, am_in1 13 rfl rfl, ⟨by decide, by decide, by decide +kernel⟩, by decide⟩
set_option maxRecDepth 100000 in
theorem mbX12_isGoal : am_MB mX12_isGoal 3 := ⟨by decide, am_in7 110 rfl rfl, am_in1 13 rfl rfl, ⟨by decide, by decide, by decide +kernel⟩, by decide⟩
set_option maxRecDepth 100000 in
theorem mbX12_isIn : am_MB mX12_isIn 3 := ⟨by decide, am_in7 11 rfl rfl, am_in1 13 rfl rfl, ⟨by decide, by decide, by decide +kernel⟩, by decide⟩
set_option maxRecDepth 100000 in
theorem mbX12_isSet : am_MB mX12_isSet 2 := ⟨by decide, am_in7 48 rfl rfl, am_in1 13 rfl rfl, ⟨by decide, by decide, by decide +kernel⟩, by decide⟩
set_option maxRecDepth 100000 in
theorem mbX12_isSpot : am_MB mX12_isSpot 2 := ⟨by decide, am_in8 3 rfl rfl, am_in1 13 rfl rfl, ⟨by decide, by decide, by decide +kernel⟩, by decide⟩
set_option maxRecDepth 100000 in
theorem mbX12_job : am_MB mX12_job 2 := ⟨by decide, am_in7 226 rfl rfl, am_in1 13 rfl rfl, ⟨by decide, by decide, by decide +kernel⟩, by decide⟩
set_option maxRecDepth 100000 in
theorem mbX12_kind : am_MB mX12_kind 6 := ⟨by decide, am_in7 76 rfl rfl, am_in1 13 rfl rfl, ⟨by decide, by decide, by decide +kernel⟩, by decide⟩
set_option maxRecDepth 100000 in
theorem mbX12_land : am_MB mX12_land 3 := ⟨by decide, am_in7 5 rfl rfl, am_in1 13 rfl rfl, ⟨by decide, by decide, by decide +kernel⟩, by decide⟩
set_option maxRecDepth 100000 in
theorem mbX12_leadOf : am_MB mX12_leadOf 1 := ⟨by decide, am_in8 34 rfl rfl, am_in1 13 rfl rfl, ⟨by decide, by decide, by decide +kernel⟩, by decide⟩
set_option maxRecDepth 100000 in
theorem mbX12_look : am_MB mX12_look 2 := ⟨by decide, am_in7 92 rfl rfl, am_in1 13 rfl rfl, ⟨by decide, by decide, by decide +kernel⟩, by decide⟩
set_option maxRecDepth 100000 in
theorem mbX12_lot : am_MB mX12_lot 1 := ⟨by decide, am_in7 72 rfl rfl, am_in1 13 rfl rfl, ⟨by decide, by decide, by decide +kernel⟩, by decide⟩
set_option maxRecDepth 100000 in
theorem mbX12_lotIsLow : am_MB mX12_lotIsLow 0 := ⟨by decide, am_in7 201 rfl rfl, am_in1 13 rfl rfl, ⟨by decide, by decide, by decide +kernel⟩, by decide⟩
set_option maxRecDepth 100000 in
theorem mbX12_manyOf : am_MB mX12_manyOf 2 := ⟨by decide, am_in8 173 rfl rfl, am_in1 13 rfl rfl, ⟨by decide, by decide, by decide +kernel⟩, by decide⟩
set_option maxRecDepth 100000 in
theorem mbX12_mayEnter : am_MB mX12_mayEnter 2 := ⟨by decide, am_in7 119 rfl rfl, am_in1 13 rfl rfl, ⟨by decide, by decide, by decide +kernel⟩, by decide⟩
set_option maxRecDepth 100000 in
theorem mbX12_mayTake : am_MB mX12_mayTake 2 := ⟨by decide, am_in7 160 rfl rfl, am_in1 13 rfl rfl, ⟨by decide, by decide, by decide +kernel⟩, by decide⟩
set_option maxRecDepth 100000 in
theorem mbX12_moves : am_MB mX12_moves 1 := ⟨by decide, am_in7 173 rfl rfl, am_in1 13 rfl rfl, ⟨by decide, by decide, by decide +kernel⟩, by decide⟩
set_option maxRecDepth 100000 in
theorem mbX12_nextOf : am_MB mX12_nextOf 2 := ⟨by decide, am_in7 132 rfl rfl, am_in1 13 rfl rfl, ⟨by decide, by decide, by decide +kernel⟩, by decide⟩
set_option maxRecDepth 100000 in
theorem mbX12_nextRain : am_MB mX12_nextRain 0 := ⟨by decide, am_in8 142 rfl rfl, am_in1 13 rfl rfl, ⟨by decide, by decide, by decide +kernel⟩, by decide⟩
set_option maxRecDepth 100000 in
theorem mbX12_offers : am_MB mX12_offers 0 := ⟨by decide, am_in7 156 rfl rfl, am_in1 13 rfl rfl, ⟨by decide, by decide, by decide +kernel⟩, by decide⟩
set_option maxRecDepth 100000 in
theorem mbX12_one : am_MB mX12_one 1 := ⟨by decide, am_in7 99 rfl rfl, am_in1 13 rfl rfl, ⟨by decide, by decide, by decide +kernel⟩, by decide⟩
set_option maxRecDepth 100000 in
theorem mbX12_opens : am_MB mX12_opens 0 := ⟨by decide, am_in8 95 rfl rfl, am_in1 13 rfl rfl, ⟨by decide, by decide, by decide +kernel⟩, by decide⟩
set_option maxRecDepth 100000 in
theorem mbX12_pass : am_MB mX12_pass 1 := ⟨by decide, am_in7 136 rfl rfl, am_in1 13 rfl rfl, ⟨by decide, by decide, by decide +kernel⟩, by decide⟩
set_option maxRecDepth 100000 in
theorem mbX12_plan : am_MB mX12_plan 1 := ⟨by decide, am_in8 163 rfl rfl, am_in1 13 rfl rfl, ⟨by decide, by decide, by decide +kernel⟩, by decide⟩
set_option maxRecDepth 100000 in
theorem mbX12_plant : am_MB mX12_plant 1 := ⟨by decide, am_in7 80 rfl rfl, am_in1 13 rfl rfl, ⟨by decide, by decide, by decide +kernel⟩, by decide⟩
set_option maxRecDepth 100000 in
theorem mbX12_product : am_MB mX12_product 0 := ⟨by decide, am_in8 79 rfl rfl, am_in1 13 rfl rfl, ⟨by decide, by decide, by decide +kernel⟩, by decide⟩
set_option maxRecDepth 100000 in
theorem mbX12_pull : am_MB mX12_pull 3 := ⟨by decide, am_in8 11 rfl rfl, am_in1 13 rfl rfl, ⟨by decide, by decide, by decide +kernel⟩, by decide⟩
set_option maxRecDepth 100000 in
theorem mbX12_pulls : am_MB mX12_pulls 2 := ⟨by decide, am_in7 185 rfl rfl, am_in1 13 rfl rfl, ⟨by decide, by decide, by decide +kernel⟩, by decide⟩
set_option maxRecDepth 100000 in
theorem mbX12_puts : am_MB mX12_puts 2 := ⟨by decide, am_in8 91 rfl rfl, am_in1 13 rfl rfl, ⟨by decide, by decide, by decide +kernel⟩, by decide⟩
set_option maxRecDepth 100000 in
theorem mbX12_rain : am_MB mX12_rain 3 := ⟨by decide, am_in7 52 rfl rfl, am_in1 13 rfl rfl, ⟨by decide, by decide, by decide +kernel⟩, by decide⟩
set_option maxRecDepth 100000 in
theorem mbX12_rains : am_MB mX12_rains 0 := ⟨by decide, am_in7 144 rfl rfl, am_in1 13 rfl rfl, ⟨by decide, by decide, by decide +kernel⟩, by decide⟩
set_option maxRecDepth 100000 in
theorem mbX12_reached : am_MB mX12_reached 2 := ⟨by decide, am_in8 19 rfl rfl, am_in1 13 rfl rfl, ⟨by decide, by decide, by decide +kernel⟩, by decide⟩
set_option maxRecDepth 100000 in
theorem mbX12_rules : am_MB mX12_rules 1 := ⟨by decide, am_in8 51 rfl rfl, am_in1 13 rfl rfl, ⟨by decide, by decide, by decide +kernel⟩, by decide⟩
set_option maxRecDepth 100000 in
theorem mbX12_runs : am_MB mX12_runs 2 := ⟨by decide, am_in8 147 rfl rfl, am_in1 13 rfl rfl, ⟨by decide, by decide, by decide +kernel⟩, by decide⟩
set_option maxRecDepth 100000 in
theorem mbX12_seen : am_MB mX12_seen 2 := ⟨by decide, am_in7 40 rfl rfl, am_in1 13 rfl rfl, ⟨by decide, by decide, by decide +kernel⟩, by decide⟩
set_option maxRecDepth 100000 in
theorem mbX12_set : am_MB mX12_set 2 := ⟨by decide, am_in7 45 rfl rfl, am_in1 13 rfl rfl, ⟨by decide, by decide, by decide +kernel⟩, by decide⟩
set_option maxRecDepth 100000 in
theorem mbX12_share : am_MB mX12_share 2 := ⟨by decide, am_in7 218 rfl rfl, am_in1 13 rfl rfl, ⟨by decide, by decide, by decide +kernel⟩, by decide⟩
set_option maxRecDepth 100000 in
theorem mbX12_show : am_MB mX12_show 2 := ⟨by decide, am_in7 88 rfl rfl, am_in1 13 rfl rfl, ⟨by decide, by decide, by decide +kernel⟩, by decide⟩
set_option maxRecDepth 100000 in
theorem mbX12_single : am_MB mX12_single 0 := ⟨by decide, am_in8 123 rfl rfl, am_in1 13 rfl rfl, ⟨by decide, by decide, by decide +kernel⟩, by decide⟩
set_option maxRecDepth 100000 in
theorem mbX12_spot : am_MB mX12_spot 2 := ⟨by decide, am_in7 235 rfl rfl, am_in1 13 rfl rfl, ⟨by decide, by decide, by decide +kernel⟩, by decide⟩
set_option maxRecDepth 100000 in
theorem mbX12_spreads : am_MB mX12_spreads 2 := ⟨by decide, am_in8 7 rfl rfl, am_in1 13 rfl rfl, ⟨by decide, by decide, by decide +kernel⟩, by decide⟩
set_option maxRecDepth 100000 in
theorem mbX12_statement : am_MB mX12_statement 1 := ⟨by decide, am_in8 59 rfl rfl, am_in1 13 rfl rfl, ⟨by decide, by decide, by decide +kernel⟩, by decide⟩
set_option maxRecDepth 100000 in
theorem mbX12_strip : am_MB mX12_strip 2 := ⟨by decide, am_in8 26 rfl rfl, am_in1 13 rfl rfl, ⟨by decide, by decide, by decide +kernel⟩, by decide⟩
set_option maxRecDepth 100000 in
theorem mbX12_takes : am_MB mX12_takes 1 := ⟨by decide, am_in8 64 rfl rfl, am_in1 13 rfl rfl, ⟨by decide, by decide, by decide +kernel⟩, by decide⟩
set_option maxRecDepth 100000 in
theorem mbX12_takesNumber : am_MB mX12_takesNumber 0 := ⟨by decide, am_in8 87 rfl rfl, am_in1 13 rfl rfl, ⟨by decide, by decide, by decide +kernel⟩, by decide⟩
set_option maxRecDepth 100000 in
theorem mbX12_takesSign : am_MB mX12_takesSign 1 := ⟨by decide, am_in8 99 rfl rfl, am_in1 13 rfl rfl, ⟨by decide, by decide, by decide +kernel⟩, by decide⟩
set_option maxRecDepth 100000 in
theorem mbX12_tells : am_MB mX12_tells 4 := ⟨by decide, am_in7 15 rfl rfl, am_in1 13 rfl rfl, ⟨by decide, by decide, by decide +kernel⟩, by decide⟩
set_option maxRecDepth 100000 in
theorem mbX12_toDo : am_MB mX12_toDo 1 := ⟨by decide, am_in8 138 rfl rfl, am_in1 13 rfl rfl, ⟨by decide, by decide, by decide +kernel⟩, by decide⟩
set_option maxRecDepth 100000 in
theorem mbX12_told : am_MB mX12_told 2 := ⟨by decide, am_in7 222 rfl rfl, am_in1 13 rfl rfl, ⟨by decide, by decide, by decide +kernel⟩, by decide⟩
set_option maxRecDepth 100000 in
theorem mbX12_water : am_MB mX12_water 1 := ⟨by decide, am_in7 230 rfl rfl, am_in1 13 rfl rfl, ⟨by decide, by decide, by decide +kernel⟩, by decide⟩
set_option maxRecDepth 100000 in
theorem mbX12_way : am_MB mX12_way 3 := ⟨by decide, am_in7 103 rfl rfl, am_in1 13 rfl rfl, ⟨by decide, by decide, by decide +kernel⟩, by decide⟩
set_option maxRecDepth 100000 in
theorem mbX12_ways : am_MB mX12_ways 3 := ⟨by decide, am_in7 107 rfl rfl, am_in1 13 rfl rfl, ⟨by decide, by decide, by decide +kernel⟩, by decide⟩
set_option maxRecDepth 100000 in
theorem mbX12_weeds : am_MB mX12_weeds 1 := ⟨by decide, am_in7 213 rfl rfl, am_in1 13 rfl rfl, ⟨by decide, by decide, by decide +kernel⟩, by decide⟩
set_option maxRecDepth 100000 in
theorem mbX12_word : am_MB mX12_word 0 := ⟨by decide, am_in8 68 rfl rfl, am_in1 13 rfl rfl, ⟨by decide, by decide, by decide +kernel⟩, by decide⟩
set_option maxRecDepth 100000 in
theorem mbX12_work : am_MB mX12_work 3 := ⟨by decide, am_in7 68 rfl rfl, am_in1 13 rfl rfl, ⟨by decide, by decide, by decide +kernel⟩, by decide⟩
set_option maxRecDepth 100000 in
theorem mbX12_works : am_MB mX12_works 1 := ⟨by decide, am_in7 177 rfl rfl, am_in1 13 rfl rfl, ⟨by decide, by decide, by decide +kernel⟩, by decide⟩
set_option maxRecDepth 100000 in
theorem mbX1_begin : am_MB mX1_begin 0 := ⟨by decide, am_in2 10 rfl rfl, am_in1 8 rfl rfl, ⟨by decide, by decide, by decide +kernel⟩, by decide⟩
set_option maxRecDepth 100000 in
theorem mbX1_bring : am_MB mX1_bring 1 := ⟨by decide, am_in3 1 rfl rfl, am_in1 8 rfl rfl, ⟨by decide, by decide, by decide +kernel⟩, by decide⟩
set_option maxRecDepth 100000 in
theorem mbX1_cartsStuck : am_MB mX1_cartsStuck 0 := ⟨by decide, am_in6 30 rfl rfl, am_in1 8 rfl rfl, ⟨by decide, by decide, by decide +kernel⟩, by decide⟩
set_option maxRecDepth 100000 in
theorem mbX1_factOfCart : am_MB mX1_factOfCart 2 := ⟨by decide, am_in4 112 rfl rfl, am_in1 8 rfl rfl, ⟨by decide, by decide, by decide +kernel⟩, by decide⟩
set_option maxRecDepth 100000 in
theorem mbX1_freeOneStuck : am_MB mX1_freeOneStuck 2 := ⟨by decide, am_in4 37 rfl rfl, am_in1 8 rfl rfl, ⟨by decide, by decide, by decide +kernel⟩, by decide⟩
set_option maxRecDepth 100000 in
theorem mbX1_hasPower : am_MB mX1_hasPower 1 := ⟨by decide, am_in3 179 rfl rfl, am_in1 8 rfl rfl, ⟨by decide, by decide, by decide +kernel⟩, by decide⟩
set_option maxRecDepth 100000 in
theorem mbX1_hearOf : am_MB mX1_hearOf 2 := ⟨by decide, am_in4 55 rfl rfl, am_in1 8 rfl rfl, ⟨by decide, by decide, by decide +kernel⟩, by decide⟩
set_option maxRecDepth 100000 in
theorem mbX1_isFlat : am_MB mX1_isFlat 1 := ⟨by decide, am_in3 13 rfl rfl, am_in1 8 rfl rfl, ⟨by decide, by decide, by decide +kernel⟩, by decide⟩
set_option maxRecDepth 100000 in
theorem mbX1_isHome : am_MB mX1_isHome 1 := ⟨by decide, am_in4 61 rfl rfl, am_in1 8 rfl rfl, ⟨by decide, by decide, by decide +kernel⟩, by decide⟩
set_option maxRecDepth 100000 in
theorem mbX1_isPlace : am_MB mX1_isPlace 1 := ⟨by decide, am_in3 4 rfl rfl, am_in1 8 rfl rfl, ⟨by decide, by decide, by decide +kernel⟩, by decide⟩
set_option maxRecDepth 100000 in
theorem mbX1_isReady : am_MB mX1_isReady 1 := ⟨by decide, am_in3 175 rfl rfl, am_in1 8 rfl rfl, ⟨by decide, by decide, by decide +kernel⟩, by decide⟩
set_option maxRecDepth 100000 in
theorem mbX1_plugIn : am_MB mX1_plugIn 1 := ⟨by decide, am_in4 5 rfl rfl, am_in1 8 rfl rfl, ⟨by decide, by decide, by decide +kernel⟩, by decide⟩
set_option maxRecDepth 100000 in
theorem mbX1_readyOnes : am_MB mX1_readyOnes 0 := ⟨by decide, am_in3 171 rfl rfl, am_in1 8 rfl rfl, ⟨by decide, by decide, by decide +kernel⟩, by decide⟩
set_option maxRecDepth 100000 in
theorem mbX1_refill : am_MB mX1_refill 1 := ⟨by decide, am_in3 9 rfl rfl, am_in1 8 rfl rfl, ⟨by decide, by decide, by decide +kernel⟩, by decide⟩
set_option maxRecDepth 100000 in
theorem mbX2_allWet : am_MB mX2_allWet 0 := ⟨by decide, am_in4 152 rfl rfl, am_in1 6 rfl rfl, ⟨by decide, by decide, by decide +kernel⟩, by decide⟩
set_option maxRecDepth 100000 in
theorem mbX2_begin : am_MB mX2_begin 0 := ⟨by decide, am_in1 238 rfl rfl, am_in1 6 rfl rfl, ⟨by decide, by decide, by decide +kernel⟩, by decide⟩
set_option maxRecDepth 100000 in
theorem mbX2_dry : am_MB mX2_dry 0 := ⟨by decide, am_in3 163 rfl rfl, am_in1 6 rfl rfl, ⟨by decide, by decide, by decide +kernel⟩, by decide⟩
set_option maxRecDepth 100000 in
theorem mbX2_flow : am_MB mX2_flow 0 := ⟨by decide, am_in3 152 rfl rfl, am_in1 6 rfl rfl, ⟨by decide, by decide, by decide +kernel⟩, by decide⟩
set_option maxRecDepth 100000 in
theorem mbX2_heavy : am_MB mX2_heavy 2 := ⟨by decide, am_in3 194 rfl rfl, am_in1 6 rfl rfl, ⟨by decide, by decide, by decide +kernel⟩, by decide⟩
set_option maxRecDepth 100000 in
theorem mbX2_lowestBeside : am_MB mX2_lowestBeside 1 := ⟨by decide, am_in3 156 rfl rfl, am_in1 6 rfl rfl, ⟨by decide, by decide, by decide +kernel⟩, by decide⟩
set_option maxRecDepth 100000 in
theorem mbX2_rainOn : am_MB mX2_rainOn 1 := ⟨by decide, am_in3 147 rfl rfl, am_in1 6 rfl rfl, ⟨by decide, by decide, by decide +kernel⟩, by decide⟩
set_option maxRecDepth 100000 in
theorem mbX2_shape : am_MB mX2_shape 3 := ⟨by decide, am_in2 223 rfl rfl, am_in1 6 rfl rfl, ⟨by decide, by decide, by decide +kernel⟩, by decide⟩
set_option maxRecDepth 100000 in
theorem mbX3_apply : am_MB mX3_apply 2 := ⟨by decide, am_in5 227 rfl rfl, am_in1 11 rfl rfl, ⟨by decide, by decide, by decide +kernel⟩, by decide⟩
set_option maxRecDepth 100000 in
theorem mbX3_decide : am_MB mX3_decide 1 := ⟨by decide, am_in5 215 rfl rfl, am_in1 11 rfl rfl, ⟨by decide, by decide, by decide +kernel⟩, by decide⟩
set_option maxRecDepth 100000 in
theorem mbX3_held : am_MB mX3_held 1 := ⟨by decide, am_in5 233 rfl rfl, am_in1 11 rfl rfl, ⟨by decide, by decide, by decide +kernel⟩, by decide⟩
set_option maxRecDepth 100000 in
theorem mbX3_joined : am_MB mX3_joined 3 := ⟨by decide, am_in5 230 rfl rfl, am_in1 11 rfl rfl, ⟨by decide, by decide, by decide +kernel⟩, by decide⟩
set_option maxRecDepth 100000 in
theorem mbX3_pop : am_MB mX3_pop 0 := ⟨by decide, am_in5 223 rfl rfl, am_in1 11 rfl rfl, ⟨by decide, by decide, by decide +kernel⟩, by decide⟩
set_option maxRecDepth 100000 in
theorem mbX3_push : am_MB mX3_push 1 := ⟨by decide, am_in5 219 rfl rfl, am_in1 11 rfl rfl, ⟨by decide, by decide, by decide +kernel⟩, by decide⟩
set_option maxRecDepth 100000 in
theorem mbX3_takeOver : am_MB mX3_takeOver 3 := ⟨by decide, am_in5 184 rfl rfl, am_in1 11 rfl rfl, ⟨by decide, by decide, by decide +kernel⟩, by decide⟩
set_option maxRecDepth 100000 in
theorem mbX4_cellNumbered : am_MB mX4_cellNumbered 2 := ⟨by decide, am_in4 183 rfl rfl, am_in1 16 rfl rfl, ⟨by decide, by decide, by decide +kernel⟩, by decide⟩
set_option maxRecDepth 100000 in
theorem mbX4_cellsReached : am_MB mX4_cellsReached 5 := ⟨by decide, am_in4 186 rfl rfl, am_in1 16 rfl rfl, ⟨by decide, by decide, by decide +kernel⟩, by decide⟩
set_option maxRecDepth 100000 in
theorem mbX4_pullOf : am_MB mX4_pullOf 5 := ⟨by decide, am_in4 177 rfl rfl, am_in1 16 rfl rfl, ⟨by decide, by decide, by decide +kernel⟩, by decide⟩
set_option maxRecDepth 100000 in
theorem mbX4_reached : am_MB mX4_reached 3 := ⟨by decide, am_in4 164 rfl rfl, am_in1 16 rfl rfl, ⟨by decide, by decide, by decide +kernel⟩, by decide⟩
set_option maxRecDepth 100000 in
theorem mbX4_spotOf : am_MB mX4_spotOf 4 := ⟨by decide, am_in4 160 rfl rfl, am_in1 16 rfl rfl, ⟨by decide, by decide, by decide +kernel⟩, by decide⟩
set_option maxRecDepth 100000 in
theorem mbX4_stepped : am_MB mX4_stepped 2 := ⟨by decide, am_in4 167 rfl rfl, am_in1 16 rfl rfl, ⟨by decide, by decide, by decide +kernel⟩, by decide⟩
set_option maxRecDepth 100000 in
theorem mbX5_costTo : am_MB mX5_costTo 2 := ⟨by decide, am_in3 233 rfl rfl, am_in1 4 rfl rfl, ⟨by decide, by decide, by decide +kernel⟩, by decide⟩
set_option maxRecDepth 100000 in
theorem mbX5_firstTo : am_MB mX5_firstTo 2 := ⟨by decide, am_in4 45 rfl rfl, am_in1 4 rfl rfl, ⟨by decide, by decide, by decide +kernel⟩, by decide⟩
set_option maxRecDepth 100000 in
theorem mbX5_goOnFrom : am_MB mX5_goOnFrom 3 := ⟨by decide, am_in3 204 rfl rfl, am_in1 4 rfl rfl, ⟨by decide, by decide, by decide +kernel⟩, by decide⟩
set_option maxRecDepth 100000 in
theorem mbX5_hasWay : am_MB mX5_hasWay 2 := ⟨by decide, am_in3 224 rfl rfl, am_in1 4 rfl rfl, ⟨by decide, by decide, by decide +kernel⟩, by decide⟩
set_option maxRecDepth 100000 in
theorem mbX5_isNearer : am_MB mX5_isNearer 3 := ⟨by decide, am_in3 228 rfl rfl, am_in1 4 rfl rfl, ⟨by decide, by decide, by decide +kernel⟩, by decide⟩
set_option maxRecDepth 100000 in
theorem mbX5_nearestBeside : am_MB mX5_nearestBeside 2 := ⟨by decide, am_in3 220 rfl rfl, am_in1 4 rfl rfl, ⟨by decide, by decide, by decide +kernel⟩, by decide⟩
set_option maxRecDepth 100000 in
theorem mbX5_search : am_MB mX5_search 5 := ⟨by decide, am_in3 187 rfl rfl, am_in1 4 rfl rfl, ⟨by decide, by decide, by decide +kernel⟩, by decide⟩
set_option maxRecDepth 100000 in
theorem mbX5_stepsTo : am_MB mX5_stepsTo 2 := ⟨by decide, am_in4 143 rfl rfl, am_in1 4 rfl rfl, ⟨by decide, by decide, by decide +kernel⟩, by decide⟩
set_option maxRecDepth 100000 in
theorem mbX5_takeNearest : am_MB mX5_takeNearest 1 := ⟨by decide, am_in3 200 rfl rfl, am_in1 4 rfl rfl, ⟨by decide, by decide, by decide +kernel⟩, by decide⟩
set_option maxRecDepth 100000 in
theorem mbX6_allGot : am_MB mX6_allGot 0 := ⟨by decide, am_in6 34 rfl rfl, am_in1 7 rfl rfl, ⟨by decide, by decide, by decide +kernel⟩, by decide⟩
set_option maxRecDepth 100000 in
theorem mbX6_begin : am_MB mX6_begin 0 := ⟨by decide, am_in2 5 rfl rfl, am_in1 7 rfl rfl, ⟨by decide, by decide, by decide +kernel⟩, by decide⟩
set_option maxRecDepth 100000 in
theorem mbX6_drawLot : am_MB mX6_drawLot 1 := ⟨by decide, am_in4 75 rfl rfl, am_in1 7 rfl rfl, ⟨by decide, by decide, by decide +kernel⟩, by decide⟩
set_option maxRecDepth 100000 in
theorem mbX6_drown : am_MB mX6_drown 1 := ⟨by decide, am_in4 65 rfl rfl, am_in1 7 rfl rfl, ⟨by decide, by decide, by decide +kernel⟩, by decide⟩
set_option maxRecDepth 100000 in
theorem mbX6_expose : am_MB mX6_expose 2 := ⟨by decide, am_in3 35 rfl rfl, am_in1 7 rfl rfl, ⟨by decide, by decide, by decide +kernel⟩, by decide⟩
set_option maxRecDepth 100000 in
theorem mbX6_grow : am_MB mX6_grow 1 := ⟨by decide, am_in4 79 rfl rfl, am_in1 7 rfl rfl, ⟨by decide, by decide, by decide +kernel⟩, by decide⟩
set_option maxRecDepth 100000 in
theorem mbX6_isIll : am_MB mX6_isIll 1 := ⟨by decide, am_in3 125 rfl rfl, am_in1 7 rfl rfl, ⟨by decide, by decide, by decide +kernel⟩, by decide⟩
set_option maxRecDepth 100000 in
theorem mbX6_marksOn : am_MB mX6_marksOn 1 := ⟨by decide, am_in4 25 rfl rfl, am_in1 7 rfl rfl, ⟨by decide, by decide, by decide +kernel⟩, by decide⟩
set_option maxRecDepth 100000 in
theorem mbX6_nourish : am_MB mX6_nourish 2 := ⟨by decide, am_in4 33 rfl rfl, am_in1 7 rfl rfl, ⟨by decide, by decide, by decide +kernel⟩, by decide⟩
set_option maxRecDepth 100000 in
theorem mbX6_remove : am_MB mX6_remove 2 := ⟨by decide, am_in4 29 rfl rfl, am_in1 7 rfl rfl, ⟨by decide, by decide, by decide +kernel⟩, by decide⟩
set_option maxRecDepth 100000 in
theorem mbX6_see : am_MB mX6_see 2 := ⟨by decide, am_in3 39 rfl rfl, am_in1 7 rfl rfl, ⟨by decide, by decide, by decide +kernel⟩, by decide⟩
set_option maxRecDepth 100000 in
theorem mbX6_shareOf : am_MB mX6_shareOf 2 := ⟨by decide, am_in4 98 rfl rfl, am_in1 7 rfl rfl, ⟨by decide, by decide, by decide +kernel⟩, by decide⟩
set_option maxRecDepth 100000 in
theorem mbX6_sicken : am_MB mX6_sicken 2 := ⟨by decide, am_in3 48 rfl rfl, am_in1 7 rfl rfl, ⟨by decide, by decide, by decide +kernel⟩, by decide⟩
set_option maxRecDepth 100000 in
theorem mbX6_sow : am_MB mX6_sow 2 := ⟨by decide, am_in3 21 rfl rfl, am_in1 7 rfl rfl, ⟨by decide, by decide, by decide +kernel⟩, by decide⟩
set_option maxRecDepth 100000 in
theorem mbX6_spread : am_MB mX6_spread 2 := ⟨by decide, am_in4 70 rfl rfl, am_in1 7 rfl rfl, ⟨by decide, by decide, by decide +kernel⟩, by decide⟩
set_option maxRecDepth 100000 in
theorem mbX6_standsOn : am_MB mX6_standsOn 1 := ⟨by decide, am_in3 26 rfl rfl, am_in1 7 rfl rfl, ⟨by decide, by decide, by decide +kernel⟩, by decide⟩
set_option maxRecDepth 100000 in
theorem mbX6_weedHundredths : am_MB mX6_weedHundredths 1 := ⟨by decide, am_in4 94 rfl rfl, am_in1 7 rfl rfl, ⟨by decide, by decide, by decide +kernel⟩, by decide⟩
set_option maxRecDepth 100000 in
theorem mbX6_weigh : am_MB mX6_weigh 3 := ⟨by decide, am_in3 43 rfl rfl, am_in1 7 rfl rfl, ⟨by decide, by decide, by decide +kernel⟩, by decide⟩
set_option maxRecDepth 100000 in
theorem mbX7_accept : am_MB mX7_accept 1 := ⟨by decide, am_in5 165 rfl rfl, am_in1 10 rfl rfl, ⟨by decide, by decide, by decide +kernel⟩, by decide⟩
set_option maxRecDepth 100000 in
theorem mbX7_addToken : am_MB mX7_addToken 2 := ⟨by decide, am_in5 140 rfl rfl, am_in1 10 rfl rfl, ⟨by decide, by decide, by decide +kernel⟩, by decide⟩
set_option maxRecDepth 100000 in
theorem mbX7_append : am_MB mX7_append 1 := ⟨by decide, am_in5 1 rfl rfl, am_in1 10 rfl rfl, ⟨by decide, by decide, by decide +kernel⟩, by decide⟩
set_option maxRecDepth 100000 in
theorem mbX7_emit : am_MB mX7_emit 1 := ⟨by decide, am_in5 153 rfl rfl, am_in1 10 rfl rfl, ⟨by decide, by decide, by decide +kernel⟩, by decide⟩
set_option maxRecDepth 100000 in
theorem mbX7_groupOf : am_MB mX7_groupOf 1 := ⟨by decide, am_in5 17 rfl rfl, am_in1 10 rfl rfl, ⟨by decide, by decide, by decide +kernel⟩, by decide⟩
set_option maxRecDepth 100000 in
theorem mbX7_hasRoomForFive : am_MB mX7_hasRoomForFive 0 := ⟨by decide, am_in4 237 rfl rfl, am_in1 10 rfl rfl, ⟨by decide, by decide, by decide +kernel⟩, by decide⟩
set_option maxRecDepth 100000 in
theorem mbX7_here : am_MB mX7_here 0 := ⟨by decide, am_in5 144 rfl rfl, am_in1 10 rfl rfl, ⟨by decide, by decide, by decide +kernel⟩, by decide⟩
set_option maxRecDepth 100000 in
theorem mbX7_isOperator : am_MB mX7_isOperator 1 := ⟨by decide, am_in5 168 rfl rfl, am_in1 10 rfl rfl, ⟨by decide, by decide, by decide +kernel⟩, by decide⟩
set_option maxRecDepth 100000 in
theorem mbX7_numberBetween : am_MB mX7_numberBetween 2 := ⟨by decide, am_in5 136 rfl rfl, am_in1 10 rfl rfl, ⟨by decide, by decide, by decide +kernel⟩, by decide⟩
set_option maxRecDepth 100000 in
theorem mbX7_placeHere : am_MB mX7_placeHere 0 := ⟨by decide, am_in5 180 rfl rfl, am_in1 10 rfl rfl, ⟨by decide, by decide, by decide +kernel⟩, by decide⟩
set_option maxRecDepth 100000 in
theorem mbX7_read : am_MB mX7_read 1 := ⟨by decide, am_in5 9 rfl rfl, am_in1 10 rfl rfl, ⟨by decide, by decide, by decide +kernel⟩, by decide⟩
set_option maxRecDepth 100000 in
theorem mbX7_readAny : am_MB mX7_readAny 1 := ⟨by decide, am_in5 172 rfl rfl, am_in1 10 rfl rfl, ⟨by decide, by decide, by decide +kernel⟩, by decide⟩
set_option maxRecDepth 100000 in
theorem mbX7_readAtom : am_MB mX7_readAtom 1 := ⟨by decide, am_in5 161 rfl rfl, am_in1 10 rfl rfl, ⟨by decide, by decide, by decide +kernel⟩, by decide⟩
set_option maxRecDepth 100000 in
theorem mbX7_readOne : am_MB mX7_readOne 1 := ⟨by decide, am_in5 176 rfl rfl, am_in1 10 rfl rfl, ⟨by decide, by decide, by decide +kernel⟩, by decide⟩
set_option maxRecDepth 100000 in
theorem mbX7_readStatement : am_MB mX7_readStatement 0 := ⟨by decide, am_in5 148 rfl rfl, am_in1 10 rfl rfl, ⟨by decide, by decide, by decide +kernel⟩, by decide⟩
set_option maxRecDepth 100000 in
theorem mbX7_readSum : am_MB mX7_readSum 1 := ⟨by decide, am_in5 157 rfl rfl, am_in1 10 rfl rfl, ⟨by decide, by decide, by decide +kernel⟩, by decide⟩
set_option maxRecDepth 100000 in
theorem mbX7_split : am_MB mX7_split 1 := ⟨by decide, am_in5 14 rfl rfl, am_in1 10 rfl rfl, ⟨by decide, by decide, by decide +kernel⟩, by decide⟩
set_option maxRecDepth 100000 in
theorem mbX7_tokenFrom : am_MB mX7_tokenFrom 3 := ⟨by decide, am_in5 21 rfl rfl, am_in1 10 rfl rfl, ⟨by decide, by decide, by decide +kernel⟩, by decide⟩
set_option maxRecDepth 100000 in
theorem mbX7_wordBetween : am_MB mX7_wordBetween 2 := ⟨by decide, am_in5 110 rfl rfl, am_in1 10 rfl rfl, ⟨by decide, by decide, by decide +kernel⟩, by decide⟩
set_option maxRecDepth 100000 in
theorem mbX8_allWays : am_MB mX8_allWays 0 := ⟨by decide, am_in4 226 rfl rfl, am_in1 12 rfl rfl, ⟨by decide, by decide, by decide +kernel⟩, by decide⟩
set_option maxRecDepth 100000 in
theorem mbX8_armsAsDealt : am_MB mX8_armsAsDealt 0 := ⟨by decide, am_in4 212 rfl rfl, am_in1 12 rfl rfl, ⟨by decide, by decide, by decide +kernel⟩, by decide⟩
set_option maxRecDepth 100000 in
theorem mbX8_lead : am_MB mX8_lead 0 := ⟨by decide, am_in4 208 rfl rfl, am_in1 12 rfl rfl, ⟨by decide, by decide, by decide +kernel⟩, by decide⟩
set_option maxRecDepth 100000 in
theorem mbX8_leadOf : am_MB mX8_leadOf 1 := ⟨by decide, am_in4 217 rfl rfl, am_in1 12 rfl rfl, ⟨by decide, by decide, by decide +kernel⟩, by decide⟩
set_option maxRecDepth 100000 in
theorem mbX8_waysAsGood : am_MB mX8_waysAsGood 0 := ⟨by decide, am_in4 204 rfl rfl, am_in1 12 rfl rfl, ⟨by decide, by decide, by decide +kernel⟩, by decide⟩
set_option maxRecDepth 100000 in
theorem mbX8_waysWithLead : am_MB mX8_waysWithLead 1 := ⟨by decide, am_in4 222 rfl rfl, am_in1 12 rfl rfl, ⟨by decide, by decide, by decide +kernel⟩, by decide⟩
set_option maxRecDepth 100000 in
theorem mbX9_add : am_MB mX9_add 6 := ⟨by decide, am_in2 202 rfl rfl, am_in1 3 rfl rfl, ⟨by decide, by decide, by decide +kernel⟩, by decide⟩
set_option maxRecDepth 100000 in
theorem mbX9_at : am_MB mX9_at 2 := ⟨by decide, am_in2 215 rfl rfl, am_in1 3 rfl rfl, ⟨by decide, by decide, by decide +kernel⟩, by decide⟩
set_option maxRecDepth 100000 in
theorem mbX9_has : am_MB mX9_has 1 := ⟨by decide, am_in3 81 rfl rfl, am_in1 3 rfl rfl, ⟨by decide, by decide, by decide +kernel⟩, by decide⟩
set_option maxRecDepth 100000 in
theorem mbX9_isFull : am_MB mX9_isFull 0 := ⟨by decide, am_in2 198 rfl rfl, am_in1 3 rfl rfl, ⟨by decide, by decide, by decide +kernel⟩, by decide⟩
set_option maxRecDepth 100000 in
theorem mbX9_put : am_MB mX9_put 2 := ⟨by decide, am_in2 207 rfl rfl, am_in1 3 rfl rfl, ⟨by decide, by decide, by decide +kernel⟩, by decide⟩
set_option maxRecDepth 100000 in
theorem msRX0_35 : am_VS RX0 35 mX9_isFull := ⟨Or.inl (am_in3 65 rfl rfl), am_in2 196 rfl rfl, am_in2 197 rfl rfl⟩
set_option maxRecDepth 100000 in
theorem msRX0_43 : am_VS RX0 43 mX9_at := ⟨Or.inl (am_in3 143 rfl rfl), am_in2 213 rfl rfl, am_in2 214 rfl rfl⟩
set_option maxRecDepth 100000 in
theorem msRX0_47 : am_SS RX0 47 mJ9_max_7cf53 := ⟨Or.inl (am_in5 210 rfl rfl), am_in5 52 rfl rfl⟩
set_option maxRecDepth 100000 in
theorem msRX0_52 : am_SS RX0 52 mJ9_min_7cf53 := ⟨Or.inl (am_in5 211 rfl rfl), am_in3 207 rfl rfl⟩
set_option maxRecDepth 100000 in
theorem msRX1_32 : am_SS RX1 32 mJ7_fill_53178 := ⟨Or.inl (am_in2 11 rfl rfl), am_in2 0 rfl rfl⟩
set_option maxRecDepth 100000 in
theorem msRX1_38 : am_SS RX1 38 mJ7_fill_d0a16 := ⟨Or.inl (am_in2 12 rfl rfl), am_in2 13 rfl rfl⟩
set_option maxRecDepth 100000 in
theorem msRX1_41 : am_SS RX1 41 mX1_isPlace := ⟨Or.inl (am_in3 2 rfl rfl), am_in3 3 rfl rfl⟩
set_option maxRecDepth 100000 in
theorem msRX1_51 : am_VS RX1 51 mX9_at := ⟨Or.inl (am_in3 5 rfl rfl), am_in2 213 rfl rfl, am_in2 214 rfl rfl⟩
set_option maxRecDepth 100000 in
theorem msRX1_57 : am_VS RX1 57 mX1_isFlat := ⟨Or.inl (am_in3 10 rfl rfl), am_in3 11 rfl rfl, am_in3 12 rfl rfl⟩
set_option maxRecDepth 100000 in
theorem msRX1_60 : am_SS RX1 60 mJ9_min_7cf53 := ⟨Or.inl (am_in4 6 rfl rfl), am_in3 207 rfl rfl⟩
set_option maxRecDepth 100000 in
theorem msRX1_65 : am_VS RX1 65 mX1_hasPower := ⟨Or.inl (am_in3 176 rfl rfl), am_in3 177 rfl rfl, am_in3 178 rfl rfl⟩
set_option maxRecDepth 100000 in
theorem msRX1_68 : am_VS RX1 68 mX1_isReady := ⟨Or.inl (am_in3 172 rfl rfl), am_in3 173 rfl rfl, am_in3 174 rfl rfl⟩
set_option maxRecDepth 100000 in
theorem msRX1_71 : am_SS RX1 71 mX11_far := ⟨Or.inr ⟨"PloughField", am_inN4 56 rfl rfl⟩, am_in4 13 rfl rfl⟩
set_option maxRecDepth 100000 in
theorem msRX1_74 : am_SS RX1 74 mX11_bit := ⟨Or.inr ⟨"PloughField", am_inN4 57 rfl rfl⟩, am_in3 28 rfl rfl⟩
set_option maxRecDepth 100000 in
theorem msRX1_78 : am_SS RX1 78 mJ13_bitCount_95d88 := ⟨Or.inl (am_in4 113 rfl rfl), am_in4 114 rfl rfl⟩
set_option maxRecDepth 100000 in
theorem msRX1_84 : am_SS RX1 84 mX11_within := ⟨Or.inr ⟨"PloughField", am_inN4 119 rfl rfl⟩, am_in2 189 rfl rfl⟩
set_option maxRecDepth 100000 in
theorem msRX10_56 : am_VS RX10 56 mX2_begin := ⟨Or.inl (am_in1 235 rfl rfl), am_in1 236 rfl rfl, am_in1 237 rfl rfl⟩
set_option maxRecDepth 100000 in
theorem msRX10_58 : am_VS RX10 58 mX6_begin := ⟨Or.inl (am_in2 2 rfl rfl), am_in2 3 rfl rfl, am_in2 4 rfl rfl⟩
set_option maxRecDepth 100000 in
theorem msRX10_59 : am_VS RX10 59 mX1_begin := ⟨Or.inl (am_in2 7 rfl rfl), am_in2 8 rfl rfl, am_in2 9 rfl rfl⟩
set_option maxRecDepth 100000 in
theorem msRX10_60 : am_SS RX10 60 mJ7_fill_53178 := ⟨Or.inl (am_in2 15 rfl rfl), am_in2 0 rfl rfl⟩
set_option maxRecDepth 100000 in
theorem msRX10_85 : am_VS RX10 85 mX10_hearTold := ⟨Or.inl (am_in3 134 rfl rfl), am_in2 209 rfl rfl, am_in2 210 rfl rfl⟩
set_option maxRecDepth 100000 in
theorem msRX10_88 : am_VS RX10 88 mX10_passHour := ⟨Or.inl (am_in3 135 rfl rfl), am_in3 137 rfl rfl, am_in0 9 rfl rfl⟩
set_option maxRecDepth 100000 in
theorem msRX10_102 : am_VS RX10 102 mX9_at := ⟨Or.inl (am_in2 212 rfl rfl), am_in2 213 rfl rfl, am_in2 214 rfl rfl⟩
set_option maxRecDepth 100000 in
theorem msRX10_106 : am_VS RX10 106 mX10_hear := ⟨Or.inl (am_in2 216 rfl rfl), am_in2 218 rfl rfl, am_in0 2 rfl rfl⟩
set_option maxRecDepth 100000 in
theorem msRX10_110 : am_VS RX10 110 mX2_shape := ⟨Or.inl (am_in2 220 rfl rfl), am_in2 221 rfl rfl, am_in2 222 rfl rfl⟩
set_option maxRecDepth 100000 in
theorem msRX10_114 : am_VS RX10 114 mX10_adjust := ⟨Or.inl (am_in2 225 rfl rfl), am_in2 227 rfl rfl, am_in0 3 rfl rfl⟩
set_option maxRecDepth 100000 in
theorem msRX10_117 : am_VS RX10 117 mX10_bringCart := ⟨Or.inl (am_in2 230 rfl rfl), am_in2 232 rfl rfl, am_in0 4 rfl rfl⟩
set_option maxRecDepth 100000 in
theorem msRX10_120 : am_VS RX10 120 mX1_refill := ⟨Or.inl (am_in3 6 rfl rfl), am_in3 7 rfl rfl, am_in3 8 rfl rfl⟩
set_option maxRecDepth 100000 in
theorem msRX10_123 : am_VS RX10 123 mX10_openWork := ⟨Or.inl (am_in3 14 rfl rfl), am_in3 16 rfl rfl, am_in0 5 rfl rfl⟩
set_option maxRecDepth 100000 in
theorem msRX10_126 : am_VS RX10 126 mX6_sow := ⟨Or.inl (am_in3 18 rfl rfl), am_in3 19 rfl rfl, am_in3 20 rfl rfl⟩
set_option maxRecDepth 100000 in
theorem msRX10_129 : am_VS RX10 129 mX6_expose := ⟨Or.inl (am_in3 32 rfl rfl), am_in3 33 rfl rfl, am_in3 34 rfl rfl⟩
set_option maxRecDepth 100000 in
theorem msRX10_132 : am_VS RX10 132 mX6_see := ⟨Or.inl (am_in3 36 rfl rfl), am_in3 37 rfl rfl, am_in3 38 rfl rfl⟩
set_option maxRecDepth 100000 in
theorem msRX10_135 : am_VS RX10 135 mX6_sicken := ⟨Or.inl (am_in3 45 rfl rfl), am_in3 46 rfl rfl, am_in3 47 rfl rfl⟩
set_option maxRecDepth 100000 in
theorem msRX10_139 : am_SS RX10 139 mX11_within := ⟨Or.inr ⟨"PloughField", am_inN2 229 rfl rfl⟩, am_in2 189 rfl rfl⟩
set_option maxRecDepth 100000 in
theorem msRX10_143 : am_VS RX10 143 mX10_leavesOut := ⟨Or.inl (am_in2 234 rfl rfl), am_in2 235 rfl rfl, am_in2 236 rfl rfl⟩
set_option maxRecDepth 100000 in
theorem msRX10_147 : am_VS RX10 147 mX1_bring := ⟨Or.inl (am_in2 238 rfl rfl), am_in2 239 rfl rfl, am_in3 0 rfl rfl⟩
set_option maxRecDepth 100000 in
theorem msRX10_150 : am_VS RX10 150 mX0_fallingAt := ⟨Or.inl (am_in3 139 rfl rfl), am_in3 140 rfl rfl, am_in3 141 rfl rfl⟩
set_option maxRecDepth 100000 in
theorem msRX10_153 : am_VS RX10 153 mX2_rainOn := ⟨Or.inl (am_in3 144 rfl rfl), am_in3 145 rfl rfl, am_in3 146 rfl rfl⟩
set_option maxRecDepth 100000 in
theorem msRX10_156 : am_VS RX10 156 mX2_flow := ⟨Or.inl (am_in3 149 rfl rfl), am_in3 150 rfl rfl, am_in3 151 rfl rfl⟩
set_option maxRecDepth 100000 in
theorem msRX10_159 : am_VS RX10 159 mX2_dry := ⟨Or.inl (am_in3 160 rfl rfl), am_in3 161 rfl rfl, am_in3 162 rfl rfl⟩
set_option maxRecDepth 100000 in
theorem msRX10_162 : am_VS RX10 162 mX10_makeOffers := ⟨Or.inl (am_in3 164 rfl rfl), am_in3 166 rfl rfl, am_in0 11 rfl rfl⟩
set_option maxRecDepth 100000 in
theorem msRX10_165 : am_VS RX10 165 mX10_takeTurn := ⟨Or.inl (am_in3 238 rfl rfl), am_in4 0 rfl rfl, am_in0 19 rfl rfl⟩
set_option maxRecDepth 100000 in
theorem msRX10_168 : am_VS RX10 168 mX6_drown := ⟨Or.inl (am_in4 62 rfl rfl), am_in4 63 rfl rfl, am_in4 64 rfl rfl⟩
set_option maxRecDepth 100000 in
theorem msRX10_172 : am_VS RX10 172 mX6_spread := ⟨Or.inl (am_in4 67 rfl rfl), am_in4 68 rfl rfl, am_in4 69 rfl rfl⟩
set_option maxRecDepth 100000 in
theorem msRX10_175 : am_VS RX10 175 mX6_grow := ⟨Or.inl (am_in4 76 rfl rfl), am_in4 77 rfl rfl, am_in4 78 rfl rfl⟩
set_option maxRecDepth 100000 in
theorem msRX10_178 : am_VS RX10 178 mX1_readyOnes := ⟨Or.inl (am_in3 168 rfl rfl), am_in3 169 rfl rfl, am_in3 170 rfl rfl⟩
set_option maxRecDepth 100000 in
theorem msRX10_185 : am_VS RX10 185 mX10_ofKind := ⟨Or.inl (am_in3 180 rfl rfl), am_in3 182 rfl rfl, am_in0 12 rfl rfl⟩
set_option maxRecDepth 100000 in
theorem msRX10_192 : am_VS RX10 192 mX5_search := ⟨Or.inl (am_in3 184 rfl rfl), am_in3 185 rfl rfl, am_in3 186 rfl rfl⟩
set_option maxRecDepth 100000 in
theorem msRX10_198 : am_VS RX10 198 mX10_cheapest := ⟨Or.inl (am_in3 209 rfl rfl), am_in3 211 rfl rfl, am_in0 15 rfl rfl⟩
set_option maxRecDepth 100000 in
theorem msRX10_201 : am_VS RX10 201 mX10_takeOn := ⟨Or.inl (am_in3 234 rfl rfl), am_in3 236 rfl rfl, am_in0 18 rfl rfl⟩
set_option maxRecDepth 100000 in
theorem msRX10_204 : am_VS RX10 204 mX10_goalOf := ⟨Or.inl (am_in3 213 rfl rfl), am_in3 215 rfl rfl, am_in0 16 rfl rfl⟩
set_option maxRecDepth 100000 in
theorem msRX10_207 : am_VS RX10 207 mX5_hasWay := ⟨Or.inl (am_in3 229 rfl rfl), am_in3 222 rfl rfl, am_in3 223 rfl rfl⟩
set_option maxRecDepth 100000 in
theorem msRX10_210 : am_VS RX10 210 mX5_costTo := ⟨Or.inl (am_in3 230 rfl rfl), am_in3 231 rfl rfl, am_in3 232 rfl rfl⟩
set_option maxRecDepth 100000 in
theorem msRX10_213 : am_VS RX10 213 mX5_nearestBeside := ⟨Or.inl (am_in3 217 rfl rfl), am_in3 218 rfl rfl, am_in3 219 rfl rfl⟩
set_option maxRecDepth 100000 in
theorem msRX10_222 : am_VS RX10 222 mX1_plugIn := ⟨Or.inl (am_in4 2 rfl rfl), am_in4 3 rfl rfl, am_in4 4 rfl rfl⟩
set_option maxRecDepth 100000 in
theorem msRX10_225 : am_VS RX10 225 mX1_hasPower := ⟨Or.inl (am_in4 7 rfl rfl), am_in3 177 rfl rfl, am_in3 178 rfl rfl⟩
set_option maxRecDepth 100000 in
theorem msRX10_229 : am_VS RX10 229 mX10_isAtWork := ⟨Or.inl (am_in4 8 rfl rfl), am_in4 10 rfl rfl, am_in0 20 rfl rfl⟩
set_option maxRecDepth 100000 in
theorem msRX10_232 : am_VS RX10 232 mX10_doWork := ⟨Or.inl (am_in4 18 rfl rfl), am_in4 20 rfl rfl, am_in0 21 rfl rfl⟩
set_option maxRecDepth 100000 in
theorem msRX10_235 : am_VS RX10 235 mX10_move := ⟨Or.inl (am_in4 38 rfl rfl), am_in4 40 rfl rfl, am_in0 22 rfl rfl⟩
set_option maxRecDepth 100000 in
theorem msRX10_238 : am_VS RX10 238 mX1_isHome := ⟨Or.inl (am_in4 58 rfl rfl), am_in4 59 rfl rfl, am_in4 60 rfl rfl⟩
set_option maxRecDepth 100000 in
theorem msRX10_244 : am_SS RX10 244 mX11_far := ⟨Or.inr ⟨"PloughField", am_inN4 12 rfl rfl⟩, am_in4 13 rfl rfl⟩
set_option maxRecDepth 100000 in
theorem msRX10_247 : am_VS RX10 247 mX6_marksOn := ⟨Or.inl (am_in4 22 rfl rfl), am_in4 23 rfl rfl, am_in4 24 rfl rfl⟩
set_option maxRecDepth 100000 in
theorem msRX10_250 : am_VS RX10 250 mX6_remove := ⟨Or.inl (am_in4 26 rfl rfl), am_in4 27 rfl rfl, am_in4 28 rfl rfl⟩
set_option maxRecDepth 100000 in
theorem msRX10_253 : am_VS RX10 253 mX6_nourish := ⟨Or.inl (am_in4 30 rfl rfl), am_in4 31 rfl rfl, am_in4 32 rfl rfl⟩
set_option maxRecDepth 100000 in
theorem msRX10_256 : am_VS RX10 256 mX1_freeOneStuck := ⟨Or.inl (am_in4 34 rfl rfl), am_in4 35 rfl rfl, am_in4 36 rfl rfl⟩
set_option maxRecDepth 100000 in
theorem msRX10_259 : am_VS RX10 259 mX5_firstTo := ⟨Or.inl (am_in4 42 rfl rfl), am_in4 43 rfl rfl, am_in4 44 rfl rfl⟩
set_option maxRecDepth 100000 in
theorem msRX10_262 : am_SS RX10 262 mX11_isCell := ⟨Or.inr ⟨"PloughField", am_inN4 46 rfl rfl⟩, am_in2 186 rfl rfl⟩
set_option maxRecDepth 100000 in
theorem msRX10_265 : am_VS RX10 265 mX10_leaveWork := ⟨Or.inl (am_in4 47 rfl rfl), am_in4 49 rfl rfl, am_in0 23 rfl rfl⟩
set_option maxRecDepth 100000 in
theorem msRX10_274 : am_VS RX10 274 mX2_heavy := ⟨Or.inl (am_in4 51 rfl rfl), am_in3 192 rfl rfl, am_in3 193 rfl rfl⟩
set_option maxRecDepth 100000 in
theorem msRX10_280 : am_VS RX10 280 mX1_hearOf := ⟨Or.inl (am_in4 52 rfl rfl), am_in4 53 rfl rfl, am_in4 54 rfl rfl⟩
set_option maxRecDepth 100000 in
theorem msRX10_283 : am_VS RX10 283 mX6_standsOn := ⟨Or.inl (am_in4 89 rfl rfl), am_in3 24 rfl rfl, am_in3 25 rfl rfl⟩
set_option maxRecDepth 100000 in
theorem msRX10_291 : am_VS RX10 291 mX6_isIll := ⟨Or.inl (am_in4 90 rfl rfl), am_in3 123 rfl rfl, am_in3 124 rfl rfl⟩
set_option maxRecDepth 100000 in
theorem msRX10_300 : am_VS RX10 300 mX6_weedHundredths := ⟨Or.inl (am_in4 91 rfl rfl), am_in4 92 rfl rfl, am_in4 93 rfl rfl⟩
set_option maxRecDepth 100000 in
theorem msRX10_308 : am_VS RX10 308 mX0_hoursToRain := ⟨Or.inl (am_in5 206 rfl rfl), am_in5 207 rfl rfl, am_in5 208 rfl rfl⟩
set_option maxRecDepth 100000 in
theorem msRX11_67 : am_SS RX11 67 mX11_isCell := ⟨Or.inl (am_in2 185 rfl rfl), am_in2 186 rfl rfl⟩
set_option maxRecDepth 100000 in
theorem msRX11_71 : am_SS RX11 71 mX11_within := ⟨Or.inl (am_in2 188 rfl rfl), am_in2 189 rfl rfl⟩
set_option maxRecDepth 100000 in
theorem msRX11_75 : am_VS RX11 75 mX11_tell := ⟨Or.inl (am_in2 191 rfl rfl), am_in2 193 rfl rfl, am_in0 0 rfl rfl⟩
set_option maxRecDepth 100000 in
theorem msRX11_79 : am_SS RX11 79 mX11_isSetting := ⟨Or.inl (am_in3 54 rfl rfl), am_in3 55 rfl rfl⟩
set_option maxRecDepth 100000 in
theorem msRX11_90 : am_VS RX11 90 mX0_hasRoom := ⟨Or.inl (am_in3 61 rfl rfl), am_in3 62 rfl rfl, am_in3 63 rfl rfl⟩
set_option maxRecDepth 100000 in
theorem msRX11_94 : am_VS RX11 94 mX9_add := ⟨Or.inl (am_in2 199 rfl rfl), am_in2 200 rfl rfl, am_in2 201 rfl rfl⟩
set_option maxRecDepth 100000 in
theorem msRX11_100 : am_VS RX11 100 mX11_tellNewest := ⟨Or.inl (am_in3 66 rfl rfl), am_in3 68 rfl rfl, am_in0 7 rfl rfl⟩
set_option maxRecDepth 100000 in
theorem msRX11_107 : am_VS RX11 107 mX9_has := ⟨Or.inl (am_in3 78 rfl rfl), am_in3 79 rfl rfl, am_in3 80 rfl rfl⟩
set_option maxRecDepth 100000 in
theorem msRX11_114 : am_VS RX11 114 mX1_isFlat := ⟨Or.inl (am_in3 82 rfl rfl), am_in3 11 rfl rfl, am_in3 12 rfl rfl⟩
set_option maxRecDepth 100000 in
theorem msRX11_119 : am_VS RX11 119 mX11_addWork := ⟨Or.inl (am_in3 87 rfl rfl), am_in3 89 rfl rfl, am_in0 8 rfl rfl⟩
set_option maxRecDepth 100000 in
theorem msRX11_126 : am_SS RX11 126 mX11_isOdds := ⟨Or.inl (am_in3 99 rfl rfl), am_in3 100 rfl rfl⟩
set_option maxRecDepth 100000 in
theorem msRX11_136 : am_VS RX11 136 mX6_standsOn := ⟨Or.inl (am_in3 106 rfl rfl), am_in3 24 rfl rfl, am_in3 25 rfl rfl⟩
set_option maxRecDepth 100000 in
theorem msRX11_144 : am_SS RX11 144 mX11_areMarks := ⟨Or.inl (am_in3 111 rfl rfl), am_in3 112 rfl rfl⟩
set_option maxRecDepth 100000 in
theorem msRX11_147 : am_VS RX11 147 mX6_isIll := ⟨Or.inl (am_in3 122 rfl rfl), am_in3 123 rfl rfl, am_in3 124 rfl rfl⟩
set_option maxRecDepth 100000 in
theorem msRX11_150 : am_VS RX11 150 mX10_playTo := ⟨Or.inl (am_in3 130 rfl rfl), am_in3 131 rfl rfl, am_in3 132 rfl rfl⟩
set_option maxRecDepth 100000 in
theorem msRX11_154 : am_VS RX11 154 mX10_factOfCell := ⟨Or.inl (am_in4 85 rfl rfl), am_in4 86 rfl rfl, am_in4 87 rfl rfl⟩
set_option maxRecDepth 100000 in
theorem msRX11_158 : am_VS RX11 158 mX6_shareOf := ⟨Or.inl (am_in4 104 rfl rfl), am_in4 96 rfl rfl, am_in4 97 rfl rfl⟩
set_option maxRecDepth 100000 in
theorem msRX11_161 : am_VS RX11 161 mX1_factOfCart := ⟨Or.inl (am_in4 109 rfl rfl), am_in4 110 rfl rfl, am_in4 111 rfl rfl⟩
set_option maxRecDepth 100000 in
theorem msRX11_167 : am_VS RX11 167 mX9_at := ⟨Or.inl (am_in4 124 rfl rfl), am_in2 213 rfl rfl, am_in2 214 rfl rfl⟩
set_option maxRecDepth 100000 in
theorem msRX11_170 : am_VS RX11 170 mX10_stateOfWork := ⟨Or.inl (am_in4 125 rfl rfl), am_in4 126 rfl rfl, am_in4 127 rfl rfl⟩
set_option maxRecDepth 100000 in
theorem msRX11_174 : am_VS RX11 174 mX10_doerOfWork := ⟨Or.inl (am_in4 129 rfl rfl), am_in4 130 rfl rfl, am_in4 131 rfl rfl⟩
set_option maxRecDepth 100000 in
theorem msRX11_184 : am_VS RX11 184 mX5_search := ⟨Or.inl (am_in4 137 rfl rfl), am_in3 185 rfl rfl, am_in3 186 rfl rfl⟩
set_option maxRecDepth 100000 in
theorem msRX11_188 : am_VS RX11 188 mX5_hasWay := ⟨Or.inl (am_in4 138 rfl rfl), am_in3 222 rfl rfl, am_in3 223 rfl rfl⟩
set_option maxRecDepth 100000 in
theorem msRX11_191 : am_VS RX11 191 mX5_costTo := ⟨Or.inl (am_in4 139 rfl rfl), am_in3 231 rfl rfl, am_in3 232 rfl rfl⟩
set_option maxRecDepth 100000 in
theorem msRX11_194 : am_VS RX11 194 mX5_stepsTo := ⟨Or.inl (am_in4 140 rfl rfl), am_in4 141 rfl rfl, am_in4 142 rfl rfl⟩
set_option maxRecDepth 100000 in
theorem msRX11_197 : am_VS RX11 197 mX5_firstTo := ⟨Or.inl (am_in4 144 rfl rfl), am_in4 43 rfl rfl, am_in4 44 rfl rfl⟩
set_option maxRecDepth 100000 in
theorem msRX11_200 : am_VS RX11 200 mX2_allWet := ⟨Or.inl (am_in4 149 rfl rfl), am_in4 150 rfl rfl, am_in4 151 rfl rfl⟩
set_option maxRecDepth 100000 in
theorem msRX11_221 : am_SS RX11 221 mX4_spotOf := ⟨Or.inl (am_in4 158 rfl rfl), am_in4 159 rfl rfl⟩
set_option maxRecDepth 100000 in
theorem msRX11_227 : am_SS RX11 227 mX4_pullOf := ⟨Or.inl (am_in4 175 rfl rfl), am_in4 176 rfl rfl⟩
set_option maxRecDepth 100000 in
theorem msRX11_234 : am_VS RX11 234 mX9_isFull := ⟨Or.inl (am_in2 195 rfl rfl), am_in2 196 rfl rfl, am_in2 197 rfl rfl⟩
set_option maxRecDepth 100000 in
theorem msRX11_238 : am_VS RX11 238 mX8_waysAsGood := ⟨Or.inl (am_in4 201 rfl rfl), am_in4 202 rfl rfl, am_in4 203 rfl rfl⟩
set_option maxRecDepth 100000 in
theorem msRX11_242 : am_VS RX11 242 mX8_allWays := ⟨Or.inl (am_in4 223 rfl rfl), am_in4 224 rfl rfl, am_in4 225 rfl rfl⟩
set_option maxRecDepth 100000 in
theorem msRX11_245 : am_VS RX11 245 mX8_lead := ⟨Or.inl (am_in4 228 rfl rfl), am_in4 206 rfl rfl, am_in4 207 rfl rfl⟩
set_option maxRecDepth 100000 in
theorem msRX11_249 : am_VS RX11 249 mX7_hasRoomForFive := ⟨Or.inl (am_in4 234 rfl rfl), am_in4 235 rfl rfl, am_in4 236 rfl rfl⟩
set_option maxRecDepth 100000 in
theorem msRX11_252 : am_VS RX11 252 mX7_append := ⟨Or.inl (am_in4 238 rfl rfl), am_in4 239 rfl rfl, am_in5 0 rfl rfl⟩
set_option maxRecDepth 100000 in
theorem msRX11_258 : am_VS RX11 258 mX7_read := ⟨Or.inl (am_in5 6 rfl rfl), am_in5 7 rfl rfl, am_in5 8 rfl rfl⟩
set_option maxRecDepth 100000 in
theorem msRX11_270 : am_VS RX11 270 mX3_takeOver := ⟨Or.inl (am_in5 181 rfl rfl), am_in5 182 rfl rfl, am_in5 183 rfl rfl⟩
set_option maxRecDepth 100000 in
theorem msRX11_274 : am_VS RX11 274 mX11_findsAct := ⟨Or.inl (am_in5 198 rfl rfl), am_in5 200 rfl rfl, am_in0 42 rfl rfl⟩
set_option maxRecDepth 100000 in
theorem msRX11_286 : am_SS RX11 286 mJ9_min_7cf53 := ⟨Or.inl (am_in6 6 rfl rfl), am_in3 207 rfl rfl⟩
set_option maxRecDepth 100000 in
theorem msRX11_291 : am_SS RX11 291 mJ9_max_7cf53 := ⟨Or.inl (am_in6 7 rfl rfl), am_in5 52 rfl rfl⟩
set_option maxRecDepth 100000 in
theorem msRX11_294 : am_VS RX11 294 mX11_canLeaveOut := ⟨Or.inl (am_in6 12 rfl rfl), am_in6 14 rfl rfl, am_in0 46 rfl rfl⟩
set_option maxRecDepth 100000 in
theorem msRX11_297 : am_VS RX11 297 mX10_leavesOut := ⟨Or.inl (am_in6 16 rfl rfl), am_in2 235 rfl rfl, am_in2 236 rfl rfl⟩
set_option maxRecDepth 100000 in
theorem msRX11_300 : am_VS RX11 300 mX10_begin := ⟨Or.inl (am_in6 17 rfl rfl), am_in1 232 rfl rfl, am_in1 233 rfl rfl⟩
set_option maxRecDepth 100000 in
theorem msRX11_307 : am_VS RX11 307 mX10_worksThatAre := ⟨Or.inl (am_in6 22 rfl rfl), am_in6 23 rfl rfl, am_in6 24 rfl rfl⟩
set_option maxRecDepth 100000 in
theorem msRX11_310 : am_SS RX11 310 mJ13_bitCount_95d88 := ⟨Or.inl (am_in6 26 rfl rfl), am_in4 114 rfl rfl⟩
set_option maxRecDepth 100000 in
theorem msRX11_317 : am_VS RX11 317 mX1_cartsStuck := ⟨Or.inl (am_in6 27 rfl rfl), am_in6 28 rfl rfl, am_in6 29 rfl rfl⟩
set_option maxRecDepth 100000 in
theorem msRX11_320 : am_VS RX11 320 mX6_allGot := ⟨Or.inl (am_in6 31 rfl rfl), am_in6 32 rfl rfl, am_in6 33 rfl rfl⟩
set_option maxRecDepth 100000 in
theorem msRX11_323 : am_VS RX11 323 mX10_hearTold := ⟨Or.inl (am_in2 208 rfl rfl), am_in2 209 rfl rfl, am_in2 210 rfl rfl⟩
set_option maxRecDepth 100000 in
theorem msRX11_326 : am_VS RX11 326 mX10_gatherFacts := ⟨Or.inl (am_in5 202 rfl rfl), am_in5 203 rfl rfl, am_in5 204 rfl rfl⟩
set_option maxRecDepth 100000 in
theorem msRX11_330 : am_VS RX11 330 mX3_decide := ⟨Or.inl (am_in5 212 rfl rfl), am_in5 213 rfl rfl, am_in5 214 rfl rfl⟩
set_option maxRecDepth 100000 in
theorem msRX11_334 : am_SS RX11 334 mJ9_abs_0f7a4 := ⟨Or.inl (am_in4 15 rfl rfl), am_in4 16 rfl rfl⟩
set_option maxRecDepth 100000 in
theorem msRX12_152 : am_VS RX12 152 mX12_begins := ⟨Or.inl (am_in6 41 rfl rfl), am_in6 43 rfl rfl, am_in0 47 rfl rfl⟩
set_option maxRecDepth 100000 in
theorem msRX12_162 : am_SS RX12 162 mX12_isIn := ⟨Or.inl (am_in7 9 rfl rfl), am_in7 10 rfl rfl⟩
set_option maxRecDepth 100000 in
theorem msRX12_166 : am_SS RX12 166 mJ9_abs_0f7a4 := ⟨Or.inl (am_in7 114 rfl rfl), am_in4 16 rfl rfl⟩
set_option maxRecDepth 100000 in
theorem msRX12_178 : am_VS RX12 178 mX12_does := ⟨Or.inl (am_in7 16 rfl rfl), am_in7 18 rfl rfl, am_in0 49 rfl rfl⟩
set_option maxRecDepth 100000 in
theorem msRX12_182 : am_VS RX12 182 mX12_comes := ⟨Or.inl (am_in7 20 rfl rfl), am_in7 22 rfl rfl, am_in0 50 rfl rfl⟩
set_option maxRecDepth 100000 in
theorem msRX12_185 : am_VS RX12 185 mX12_charged := ⟨Or.inl (am_in7 24 rfl rfl), am_in7 26 rfl rfl, am_in0 51 rfl rfl⟩
set_option maxRecDepth 100000 in
theorem msRX12_188 : am_VS RX12 188 mX12_isBut := ⟨Or.inl (am_in7 28 rfl rfl), am_in7 30 rfl rfl, am_in0 52 rfl rfl⟩
set_option maxRecDepth 100000 in
theorem msRX12_192 : am_VS RX12 192 mX12_grows := ⟨Or.inl (am_in7 32 rfl rfl), am_in7 34 rfl rfl, am_in0 53 rfl rfl⟩
set_option maxRecDepth 100000 in
theorem msRX12_195 : am_VS RX12 195 mX12_seen := ⟨Or.inl (am_in7 37 rfl rfl), am_in7 39 rfl rfl, am_in0 54 rfl rfl⟩
set_option maxRecDepth 100000 in
theorem msRX12_199 : am_SS RX12 199 mX12_isCell := ⟨Or.inl (am_in7 6 rfl rfl), am_in7 7 rfl rfl⟩
set_option maxRecDepth 100000 in
theorem msRX12_203 : am_VS RX12 203 mX12_tells := ⟨Or.inl (am_in7 12 rfl rfl), am_in7 14 rfl rfl, am_in0 48 rfl rfl⟩
set_option maxRecDepth 100000 in
theorem msRX12_207 : am_SS RX12 207 mX12_isSet := ⟨Or.inl (am_in7 46 rfl rfl), am_in7 47 rfl rfl⟩
set_option maxRecDepth 100000 in
theorem msRX12_216 : am_VS RX12 216 mX12_isCart := ⟨Or.inl (am_in7 61 rfl rfl), am_in7 63 rfl rfl, am_in0 55 rfl rfl⟩
set_option maxRecDepth 100000 in
theorem msRX12_228 : am_VS RX12 228 mX12_has := ⟨Or.inl (am_in7 81 rfl rfl), am_in7 83 rfl rfl, am_in0 56 rfl rfl⟩
set_option maxRecDepth 100000 in
theorem msRX12_231 : am_SS RX12 231 mX12_one := ⟨Or.inl (am_in7 97 rfl rfl), am_in7 98 rfl rfl⟩
set_option maxRecDepth 100000 in
theorem msRX12_241 : am_VS RX12 241 mX12_heavy := ⟨Or.inl (am_in7 120 rfl rfl), am_in7 122 rfl rfl, am_in0 59 rfl rfl⟩
set_option maxRecDepth 100000 in
theorem msRX12_245 : am_SS RX12 245 mX12_far := ⟨Or.inl (am_in7 111 rfl rfl), am_in7 112 rfl rfl⟩
set_option maxRecDepth 100000 in
theorem msRX12_248 : am_SS RX12 248 mX12_isGoal := ⟨Or.inl (am_in7 108 rfl rfl), am_in7 109 rfl rfl⟩
set_option maxRecDepth 100000 in
theorem msRX12_254 : am_VS RX12 254 mX12_mayEnter := ⟨Or.inl (am_in7 116 rfl rfl), am_in7 118 rfl rfl, am_in0 58 rfl rfl⟩
set_option maxRecDepth 100000 in
theorem msRX12_257 : am_SS RX12 257 mX12_beside := ⟨Or.inl (am_in7 124 rfl rfl), am_in7 125 rfl rfl⟩
set_option maxRecDepth 100000 in
theorem msRX12_262 : am_SS RX12 262 mJ9_min_f86c9 := ⟨Or.inl (am_in7 128 rfl rfl), am_in5 237 rfl rfl⟩
set_option maxRecDepth 100000 in
theorem msRX12_266 : am_VS RX12 266 mX12_ways := ⟨Or.inl (am_in7 104 rfl rfl), am_in7 106 rfl rfl, am_in0 57 rfl rfl⟩
set_option maxRecDepth 100000 in
theorem msRX12_270 : am_VS RX12 270 mX12_nextOf := ⟨Or.inl (am_in7 129 rfl rfl), am_in7 131 rfl rfl, am_in0 60 rfl rfl⟩
set_option maxRecDepth 100000 in
theorem msRX12_273 : am_VS RX12 273 mX12_mayTake := ⟨Or.inl (am_in7 157 rfl rfl), am_in7 159 rfl rfl, am_in0 66 rfl rfl⟩
set_option maxRecDepth 100000 in
theorem msRX12_276 : am_SS RX12 276 mJ9_min_7cf53 := ⟨Or.inl (am_in7 169 rfl rfl), am_in3 207 rfl rfl⟩
set_option maxRecDepth 100000 in
theorem msRX12_278 : am_VS RX12 278 mX12_dies := ⟨Or.inl (am_in7 178 rfl rfl), am_in7 180 rfl rfl, am_in0 71 rfl rfl⟩
set_option maxRecDepth 100000 in
theorem msRX12_281 : am_VS RX12 281 mX12_pulls := ⟨Or.inl (am_in7 182 rfl rfl), am_in7 184 rfl rfl, am_in0 72 rfl rfl⟩
set_option maxRecDepth 100000 in
theorem msRX12_284 : am_VS RX12 284 mX12_gives := ⟨Or.inl (am_in7 165 rfl rfl), am_in7 167 rfl rfl, am_in0 68 rfl rfl⟩
set_option maxRecDepth 100000 in
theorem msRX12_287 : am_VS RX12 287 mX12_works := ⟨Or.inl (am_in7 174 rfl rfl), am_in7 176 rfl rfl, am_in0 70 rfl rfl⟩
set_option maxRecDepth 100000 in
theorem msRX12_289 : am_VS RX12 289 mX12_drops := ⟨Or.inl (am_in7 186 rfl rfl), am_in7 188 rfl rfl, am_in0 73 rfl rfl⟩
set_option maxRecDepth 100000 in
theorem msRX12_292 : am_VS RX12 292 mX12_enters := ⟨Or.inl (am_in7 190 rfl rfl), am_in7 192 rfl rfl, am_in0 74 rfl rfl⟩
set_option maxRecDepth 100000 in
theorem msRX12_295 : am_VS RX12 295 mX12_moves := ⟨Or.inl (am_in7 170 rfl rfl), am_in7 172 rfl rfl, am_in0 69 rfl rfl⟩
set_option maxRecDepth 100000 in
theorem msRX12_298 : am_VS RX12 298 mX12_lotIsLow := ⟨Or.inl (am_in7 198 rfl rfl), am_in7 200 rfl rfl, am_in0 76 rfl rfl⟩
set_option maxRecDepth 100000 in
theorem msRX12_302 : am_VS RX12 302 mX12_rains := ⟨Or.inl (am_in7 141 rfl rfl), am_in7 143 rfl rfl, am_in0 62 rfl rfl⟩
set_option maxRecDepth 100000 in
theorem msRX12_304 : am_VS RX12 304 mX12_flows := ⟨Or.inl (am_in7 145 rfl rfl), am_in7 147 rfl rfl, am_in0 63 rfl rfl⟩
set_option maxRecDepth 100000 in
theorem msRX12_307 : am_VS RX12 307 mX12_dries := ⟨Or.inl (am_in7 149 rfl rfl), am_in7 151 rfl rfl, am_in0 64 rfl rfl⟩
set_option maxRecDepth 100000 in
theorem msRX12_310 : am_VS RX12 310 mX12_offers := ⟨Or.inl (am_in7 153 rfl rfl), am_in7 155 rfl rfl, am_in0 65 rfl rfl⟩
set_option maxRecDepth 100000 in
theorem msRX12_313 : am_VS RX12 313 mX12_acts := ⟨Or.inl (am_in7 161 rfl rfl), am_in7 163 rfl rfl, am_in0 67 rfl rfl⟩
set_option maxRecDepth 100000 in
theorem msRX12_316 : am_VS RX12 316 mX12_ends := ⟨Or.inl (am_in7 194 rfl rfl), am_in7 196 rfl rfl, am_in0 75 rfl rfl⟩
set_option maxRecDepth 100000 in
theorem msRX12_319 : am_VS RX12 319 mX12_hour := ⟨Or.inl (am_in7 137 rfl rfl), am_in7 139 rfl rfl, am_in0 61 rfl rfl⟩
set_option maxRecDepth 100000 in
theorem msRX12_322 : am_VS RX12 322 mX12_weeds := ⟨Or.inl (am_in7 210 rfl rfl), am_in7 212 rfl rfl, am_in0 78 rfl rfl⟩
set_option maxRecDepth 100000 in
theorem msRX12_325 : am_VS RX12 325 mX12_cellOf := ⟨Or.inl (am_in7 206 rfl rfl), am_in7 208 rfl rfl, am_in0 77 rfl rfl⟩
set_option maxRecDepth 100000 in
theorem msRX12_330 : am_VS RX12 330 mX12_spreads := ⟨Or.inl (am_in8 4 rfl rfl), am_in8 6 rfl rfl, am_in0 81 rfl rfl⟩
set_option maxRecDepth 100000 in
theorem msRX12_334 : am_VS RX12 334 mX12_illMany := ⟨Or.inl (am_in7 236 rfl rfl), am_in7 238 rfl rfl, am_in0 79 rfl rfl⟩
set_option maxRecDepth 100000 in
theorem msRX12_338 : am_VS RX12 338 mX12_isSpot := ⟨Or.inl (am_in8 0 rfl rfl), am_in8 2 rfl rfl, am_in0 80 rfl rfl⟩
set_option maxRecDepth 100000 in
theorem msRX12_344 : am_VS RX12 344 mX12_finds := ⟨Or.inl (am_in8 12 rfl rfl), am_in8 14 rfl rfl, am_in0 82 rfl rfl⟩
set_option maxRecDepth 100000 in
theorem msRX12_347 : am_VS RX12 347 mX12_reached := ⟨Or.inl (am_in8 16 rfl rfl), am_in8 18 rfl rfl, am_in0 83 rfl rfl⟩
set_option maxRecDepth 100000 in
theorem msRX12_350 : am_SS RX12 350 mX12_bits := ⟨Or.inl (am_in8 20 rfl rfl), am_in8 21 rfl rfl⟩
set_option maxRecDepth 100000 in
theorem msRX12_356 : am_VS RX12 356 mX12_leadOf := ⟨Or.inl (am_in8 31 rfl rfl), am_in8 33 rfl rfl, am_in0 84 rfl rfl⟩
set_option maxRecDepth 100000 in
theorem msRX12_363 : am_VS RX12 363 mX12_four := ⟨Or.inl (am_in8 44 rfl rfl), am_in8 46 rfl rfl, am_in0 85 rfl rfl⟩
set_option maxRecDepth 100000 in
theorem msRX12_372 : am_VS RX12 372 mX12_blanks := ⟨Or.inl (am_in8 52 rfl rfl), am_in8 54 rfl rfl, am_in0 86 rfl rfl⟩
set_option maxRecDepth 100000 in
theorem msRX12_378 : am_VS RX12 378 mX12_word := ⟨Or.inl (am_in8 65 rfl rfl), am_in8 67 rfl rfl, am_in0 89 rfl rfl⟩
set_option maxRecDepth 100000 in
theorem msRX12_407 : am_VS RX12 407 mX12_takesNumber := ⟨Or.inl (am_in8 84 rfl rfl), am_in8 86 rfl rfl, am_in0 93 rfl rfl⟩
set_option maxRecDepth 100000 in
theorem msRX12_410 : am_VS RX12 410 mX12_puts := ⟨Or.inl (am_in8 88 rfl rfl), am_in8 90 rfl rfl, am_in0 94 rfl rfl⟩
set_option maxRecDepth 100000 in
theorem msRX12_413 : am_VS RX12 413 mX12_opens := ⟨Or.inl (am_in8 92 rfl rfl), am_in8 94 rfl rfl, am_in0 95 rfl rfl⟩
set_option maxRecDepth 100000 in
theorem msRX12_416 : am_VS RX12 416 mX12_ex := ⟨Or.inl (am_in8 72 rfl rfl), am_in8 74 rfl rfl, am_in0 90 rfl rfl⟩
set_option maxRecDepth 100000 in
theorem msRX12_419 : am_VS RX12 419 mX12_takesSign := ⟨Or.inl (am_in8 96 rfl rfl), am_in8 98 rfl rfl, am_in0 96 rfl rfl⟩
set_option maxRecDepth 100000 in
theorem msRX12_422 : am_SS RX12 422 mX12_asked := ⟨Or.inl (am_in8 100 rfl rfl), am_in8 101 rfl rfl⟩
set_option maxRecDepth 100000 in
theorem msRX12_426 : am_VS RX12 426 mX12_atom := ⟨Or.inl (am_in8 80 rfl rfl), am_in8 82 rfl rfl, am_in0 92 rfl rfl⟩
set_option maxRecDepth 100000 in
theorem msRX12_429 : am_VS RX12 429 mX12_product := ⟨Or.inl (am_in8 76 rfl rfl), am_in8 78 rfl rfl, am_in0 91 rfl rfl⟩
set_option maxRecDepth 100000 in
theorem msRX12_434 : am_VS RX12 434 mX12_single := ⟨Or.inl (am_in8 120 rfl rfl), am_in8 122 rfl rfl, am_in0 99 rfl rfl⟩
set_option maxRecDepth 100000 in
theorem msRX12_437 : am_VS RX12 437 mX12_any := ⟨Or.inl (am_in8 112 rfl rfl), am_in8 114 rfl rfl, am_in0 97 rfl rfl⟩
set_option maxRecDepth 100000 in
theorem msRX12_442 : am_VS RX12 442 mX12_takes := ⟨Or.inl (am_in8 61 rfl rfl), am_in8 63 rfl rfl, am_in0 88 rfl rfl⟩
set_option maxRecDepth 100000 in
theorem msRX12_446 : am_VS RX12 446 mX12_all := ⟨Or.inl (am_in8 116 rfl rfl), am_in8 118 rfl rfl, am_in0 98 rfl rfl⟩
set_option maxRecDepth 100000 in
theorem msRX12_464 : am_VS RX12 464 mX12_statement := ⟨Or.inl (am_in8 56 rfl rfl), am_in8 58 rfl rfl, am_in0 87 rfl rfl⟩
set_option maxRecDepth 100000 in
theorem msRX12_469 : am_SS RX12 469 mJ9_max_f86c9 := ⟨Or.inl (am_in8 155 rfl rfl), am_in6 0 rfl rfl⟩
set_option maxRecDepth 100000 in
theorem msRX12_472 : am_SS RX12 472 mX12_held := ⟨Or.inl (am_in8 151 rfl rfl), am_in8 152 rfl rfl⟩
set_option maxRecDepth 100000 in
theorem msRX12_476 : am_SS RX12 476 mX12_bit := ⟨Or.inl (am_in8 156 rfl rfl), am_in8 157 rfl rfl⟩
set_option maxRecDepth 100000 in
theorem msRX12_482 : am_SS RX12 482 mX12_both := ⟨Or.inl (am_in8 148 rfl rfl), am_in8 149 rfl rfl⟩
set_option maxRecDepth 100000 in
theorem msRX12_486 : am_SS RX12 486 mJ9_max_7cf53 := ⟨Or.inl (am_in8 143 rfl rfl), am_in5 52 rfl rfl⟩
set_option maxRecDepth 100000 in
theorem msRX12_488 : am_VS RX12 488 mX12_nextRain := ⟨Or.inl (am_in8 139 rfl rfl), am_in8 141 rfl rfl, am_in0 101 rfl rfl⟩
set_option maxRecDepth 100000 in
theorem msRX12_491 : am_VS RX12 491 mX12_runs := ⟨Or.inl (am_in8 144 rfl rfl), am_in8 146 rfl rfl, am_in0 102 rfl rfl⟩
set_option maxRecDepth 100000 in
theorem msRX12_495 : am_VS RX12 495 mX12_toDo := ⟨Or.inl (am_in8 135 rfl rfl), am_in8 137 rfl rfl, am_in0 100 rfl rfl⟩
set_option maxRecDepth 100000 in
theorem msRX12_498 : am_VS RX12 498 mX12_work := ⟨Or.inl (am_in8 164 rfl rfl), am_in7 66 rfl rfl, am_in7 67 rfl rfl⟩
set_option maxRecDepth 100000 in
theorem msRX12_504 : am_VS RX12 504 mX12_manyOf := ⟨Or.inl (am_in8 170 rfl rfl), am_in8 172 rfl rfl, am_in0 103 rfl rfl⟩
set_option maxRecDepth 100000 in
theorem msRX2_24 : am_SS RX2 24 mJ7_fill_53178 := ⟨Or.inl (am_in1 239 rfl rfl), am_in2 0 rfl rfl⟩
set_option maxRecDepth 100000 in
theorem msRX2_37 : am_SS RX2 37 mX11_isCell := ⟨Or.inr ⟨"PloughField", am_inN2 224 rfl rfl⟩, am_in2 186 rfl rfl⟩
set_option maxRecDepth 100000 in
theorem msRX2_43 : am_VS RX2 43 mX2_lowestBeside := ⟨Or.inl (am_in3 153 rfl rfl), am_in3 155 rfl rfl, am_in0 10 rfl rfl⟩
set_option maxRecDepth 100000 in
theorem msRX2_47 : am_SS RX2 47 mX11_beside := ⟨Or.inr ⟨"PloughField", am_inN3 157 rfl rfl⟩, am_in3 158 rfl rfl⟩
set_option maxRecDepth 100000 in
theorem msRX3_18 : am_SS RX3 18 mJ9_min_7cf53 := ⟨Or.inl (am_in5 185 rfl rfl), am_in3 207 rfl rfl⟩
set_option maxRecDepth 100000 in
theorem msRX3_43 : am_VS RX3 43 mX3_push := ⟨Or.inl (am_in5 216 rfl rfl), am_in5 218 rfl rfl, am_in0 43 rfl rfl⟩
set_option maxRecDepth 100000 in
theorem msRX3_47 : am_VS RX3 47 mX3_pop := ⟨Or.inl (am_in5 220 rfl rfl), am_in5 222 rfl rfl, am_in0 44 rfl rfl⟩
set_option maxRecDepth 100000 in
theorem msRX3_57 : am_VS RX3 57 mX3_apply := ⟨Or.inl (am_in5 224 rfl rfl), am_in5 226 rfl rfl, am_in0 45 rfl rfl⟩
set_option maxRecDepth 100000 in
theorem msRX3_61 : am_SS RX3 61 mX3_joined := ⟨Or.inl (am_in5 228 rfl rfl), am_in5 229 rfl rfl⟩
set_option maxRecDepth 100000 in
theorem msRX3_65 : am_SS RX3 65 mX3_held := ⟨Or.inl (am_in5 231 rfl rfl), am_in5 232 rfl rfl⟩
set_option maxRecDepth 100000 in
theorem msRX3_73 : am_SS RX3 73 mJ9_min_f86c9 := ⟨Or.inl (am_in5 236 rfl rfl), am_in5 237 rfl rfl⟩
set_option maxRecDepth 100000 in
theorem msRX3_76 : am_SS RX3 76 mJ9_max_f86c9 := ⟨Or.inl (am_in5 239 rfl rfl), am_in6 0 rfl rfl⟩
set_option maxRecDepth 100000 in
theorem msRX4_9 : am_SS RX4 9 mX11_bit := ⟨Or.inr ⟨"PloughField", am_inN4 161 rfl rfl⟩, am_in3 28 rfl rfl⟩
set_option maxRecDepth 100000 in
theorem msRX4_13 : am_SS RX4 13 mX4_reached := ⟨Or.inl (am_in4 162 rfl rfl), am_in4 163 rfl rfl⟩
set_option maxRecDepth 100000 in
theorem msRX4_21 : am_SS RX4 21 mX4_stepped := ⟨Or.inl (am_in4 165 rfl rfl), am_in4 166 rfl rfl⟩
set_option maxRecDepth 100000 in
theorem msRX4_25 : am_SS RX4 25 mJ13_bitCount_95d88 := ⟨Or.inl (am_in4 178 rfl rfl), am_in4 114 rfl rfl⟩
set_option maxRecDepth 100000 in
theorem msRX4_31 : am_SS RX4 31 mJ9_min_7cf53 := ⟨Or.inl (am_in4 179 rfl rfl), am_in3 207 rfl rfl⟩
set_option maxRecDepth 100000 in
theorem msRX4_37 : am_SS RX4 37 mX11_within := ⟨Or.inr ⟨"PloughField", am_inN4 180 rfl rfl⟩, am_in2 189 rfl rfl⟩
set_option maxRecDepth 100000 in
theorem msRX4_41 : am_SS RX4 41 mX4_cellNumbered := ⟨Or.inl (am_in4 181 rfl rfl), am_in4 182 rfl rfl⟩
set_option maxRecDepth 100000 in
theorem msRX4_45 : am_SS RX4 45 mX4_cellsReached := ⟨Or.inl (am_in4 184 rfl rfl), am_in4 185 rfl rfl⟩
set_option maxRecDepth 100000 in
theorem msRX4_49 : am_SS RX4 49 mJ6_bitCount_0f7a4 := ⟨Or.inl (am_in4 187 rfl rfl), am_in4 188 rfl rfl⟩
set_option maxRecDepth 100000 in
theorem msRX5_24 : am_SS RX5 24 mX11_within := ⟨Or.inr ⟨"PloughField", am_inN3 188 rfl rfl⟩, am_in2 189 rfl rfl⟩
set_option maxRecDepth 100000 in
theorem msRX5_30 : am_VS RX5 30 mX9_at := ⟨Or.inl (am_in3 189 rfl rfl), am_in2 213 rfl rfl, am_in2 214 rfl rfl⟩
set_option maxRecDepth 100000 in
theorem msRX5_37 : am_VS RX5 37 mX2_heavy := ⟨Or.inl (am_in3 191 rfl rfl), am_in3 192 rfl rfl, am_in3 193 rfl rfl⟩
set_option maxRecDepth 100000 in
theorem msRX5_48 : am_SS RX5 48 mX11_bit := ⟨Or.inr ⟨"PloughField", am_inN3 195 rfl rfl⟩, am_in3 28 rfl rfl⟩
set_option maxRecDepth 100000 in
theorem msRX5_58 : am_SS RX5 58 mX11_isCell := ⟨Or.inr ⟨"PloughField", am_inN3 196 rfl rfl⟩, am_in2 186 rfl rfl⟩
set_option maxRecDepth 100000 in
theorem msRX5_66 : am_VS RX5 66 mX5_takeNearest := ⟨Or.inl (am_in3 197 rfl rfl), am_in3 199 rfl rfl, am_in0 13 rfl rfl⟩
set_option maxRecDepth 100000 in
theorem msRX5_70 : am_VS RX5 70 mX5_goOnFrom := ⟨Or.inl (am_in3 201 rfl rfl), am_in3 203 rfl rfl, am_in0 14 rfl rfl⟩
set_option maxRecDepth 100000 in
theorem msRX5_74 : am_SS RX5 74 mX11_beside := ⟨Or.inr ⟨"PloughField", am_inN3 205 rfl rfl⟩, am_in3 158 rfl rfl⟩
set_option maxRecDepth 100000 in
theorem msRX5_77 : am_SS RX5 77 mJ9_min_7cf53 := ⟨Or.inl (am_in3 206 rfl rfl), am_in3 207 rfl rfl⟩
set_option maxRecDepth 100000 in
theorem msRX5_82 : am_VS RX5 82 mX5_hasWay := ⟨Or.inl (am_in3 221 rfl rfl), am_in3 222 rfl rfl, am_in3 223 rfl rfl⟩
set_option maxRecDepth 100000 in
theorem msRX5_86 : am_VS RX5 86 mX5_isNearer := ⟨Or.inl (am_in3 225 rfl rfl), am_in3 227 rfl rfl, am_in0 17 rfl rfl⟩
set_option maxRecDepth 100000 in
theorem msRX6_38 : am_SS RX6 38 mJ7_fill_53178 := ⟨Or.inl (am_in2 6 rfl rfl), am_in2 0 rfl rfl⟩
set_option maxRecDepth 100000 in
theorem msRX6_55 : am_SS RX6 55 mX11_isCell := ⟨Or.inr ⟨"PloughField", am_inN3 22 rfl rfl⟩, am_in2 186 rfl rfl⟩
set_option maxRecDepth 100000 in
theorem msRX6_59 : am_SS RX6 59 mX11_bit := ⟨Or.inr ⟨"PloughField", am_inN3 27 rfl rfl⟩, am_in3 28 rfl rfl⟩
set_option maxRecDepth 100000 in
theorem msRX6_63 : am_VS RX6 63 mX6_standsOn := ⟨Or.inl (am_in3 23 rfl rfl), am_in3 24 rfl rfl, am_in3 25 rfl rfl⟩
set_option maxRecDepth 100000 in
theorem msRX6_72 : am_VS RX6 72 mX9_at := ⟨Or.inl (am_in3 30 rfl rfl), am_in2 213 rfl rfl, am_in2 214 rfl rfl⟩
set_option maxRecDepth 100000 in
theorem msRX6_80 : am_VS RX6 80 mX6_weigh := ⟨Or.inl (am_in3 40 rfl rfl), am_in3 42 rfl rfl, am_in0 6 rfl rfl⟩
set_option maxRecDepth 100000 in
theorem msRX6_86 : am_SS RX6 86 mX11_within := ⟨Or.inr ⟨"PloughField", am_inN4 80 rfl rfl⟩, am_in2 189 rfl rfl⟩
set_option maxRecDepth 100000 in
theorem msRX6_90 : am_VS RX6 90 mX6_shareOf := ⟨Or.inl (am_in4 95 rfl rfl), am_in4 96 rfl rfl, am_in4 97 rfl rfl⟩
set_option maxRecDepth 100000 in
theorem msRX6_102 : am_VS RX6 102 mX6_remove := ⟨Or.inl (am_in4 66 rfl rfl), am_in4 27 rfl rfl, am_in4 28 rfl rfl⟩
set_option maxRecDepth 100000 in
theorem msRX6_106 : am_SS RX6 106 mX11_beside := ⟨Or.inr ⟨"PloughField", am_inN4 71 rfl rfl⟩, am_in3 158 rfl rfl⟩
set_option maxRecDepth 100000 in
theorem msRX6_109 : am_VS RX6 109 mX6_drawLot := ⟨Or.inl (am_in4 72 rfl rfl), am_in4 74 rfl rfl, am_in0 24 rfl rfl⟩
set_option maxRecDepth 100000 in
theorem msRX7_28 : am_SS RX7 28 mJ9_min_7cf53 := ⟨Or.inl (am_in5 10 rfl rfl), am_in3 207 rfl rfl⟩
set_option maxRecDepth 100000 in
theorem msRX7_34 : am_VS RX7 34 mX7_split := ⟨Or.inl (am_in5 11 rfl rfl), am_in5 13 rfl rfl, am_in0 28 rfl rfl⟩
set_option maxRecDepth 100000 in
theorem msRX7_47 : am_VS RX7 47 mX7_here := ⟨Or.inl (am_in5 141 rfl rfl), am_in5 143 rfl rfl, am_in0 33 rfl rfl⟩
set_option maxRecDepth 100000 in
theorem msRX7_51 : am_VS RX7 51 mX7_readStatement := ⟨Or.inl (am_in5 145 rfl rfl), am_in5 147 rfl rfl, am_in0 34 rfl rfl⟩
set_option maxRecDepth 100000 in
theorem msRX7_55 : am_VS RX7 55 mX7_placeHere := ⟨Or.inl (am_in5 177 rfl rfl), am_in5 179 rfl rfl, am_in0 41 rfl rfl⟩
set_option maxRecDepth 100000 in
theorem msRX7_61 : am_SS RX7 61 mX7_groupOf := ⟨Or.inl (am_in5 15 rfl rfl), am_in5 16 rfl rfl⟩
set_option maxRecDepth 100000 in
theorem msRX7_65 : am_VS RX7 65 mX7_tokenFrom := ⟨Or.inl (am_in5 18 rfl rfl), am_in5 20 rfl rfl, am_in0 29 rfl rfl⟩
set_option maxRecDepth 100000 in
theorem msRX7_69 : am_VS RX7 69 mX7_addToken := ⟨Or.inl (am_in5 137 rfl rfl), am_in5 139 rfl rfl, am_in0 32 rfl rfl⟩
set_option maxRecDepth 100000 in
theorem msRX7_95 : am_SS RX7 95 mX11_within := ⟨Or.inr ⟨"PloughField", am_inN5 149 rfl rfl⟩, am_in2 189 rfl rfl⟩
set_option maxRecDepth 100000 in
theorem msRX7_99 : am_VS RX7 99 mX7_emit := ⟨Or.inl (am_in5 150 rfl rfl), am_in5 152 rfl rfl, am_in0 35 rfl rfl⟩
set_option maxRecDepth 100000 in
theorem msRX7_102 : am_VS RX7 102 mX7_readSum := ⟨Or.inl (am_in5 154 rfl rfl), am_in5 156 rfl rfl, am_in0 36 rfl rfl⟩
set_option maxRecDepth 100000 in
theorem msRX7_106 : am_VS RX7 106 mX7_accept := ⟨Or.inl (am_in5 162 rfl rfl), am_in5 164 rfl rfl, am_in0 38 rfl rfl⟩
set_option maxRecDepth 100000 in
theorem msRX7_109 : am_VS RX7 109 mX7_readAny := ⟨Or.inl (am_in5 169 rfl rfl), am_in5 171 rfl rfl, am_in0 39 rfl rfl⟩
set_option maxRecDepth 100000 in
theorem msRX7_112 : am_VS RX7 112 mX7_readOne := ⟨Or.inl (am_in5 173 rfl rfl), am_in5 175 rfl rfl, am_in0 40 rfl rfl⟩
set_option maxRecDepth 100000 in
theorem msRX7_115 : am_VS RX7 115 mX7_readAtom := ⟨Or.inl (am_in5 158 rfl rfl), am_in5 160 rfl rfl, am_in0 37 rfl rfl⟩
set_option maxRecDepth 100000 in
theorem msRX7_118 : am_SS RX7 118 mX7_isOperator := ⟨Or.inl (am_in5 166 rfl rfl), am_in5 167 rfl rfl⟩
set_option maxRecDepth 100000 in
theorem msRX8_18 : am_VS RX8 18 mX8_armsAsDealt := ⟨Or.inl (am_in4 209 rfl rfl), am_in4 211 rfl rfl, am_in0 25 rfl rfl⟩
set_option maxRecDepth 100000 in
theorem msRX8_22 : am_VS RX8 22 mX8_leadOf := ⟨Or.inl (am_in4 214 rfl rfl), am_in4 216 rfl rfl, am_in0 26 rfl rfl⟩
set_option maxRecDepth 100000 in
theorem msRX8_27 : am_VS RX8 27 mX8_waysWithLead := ⟨Or.inl (am_in4 219 rfl rfl), am_in4 221 rfl rfl, am_in0 27 rfl rfl⟩
set_option maxRecDepth 100000 in
theorem msRX8_30 : am_VS RX8 30 mX8_lead := ⟨Or.inl (am_in4 205 rfl rfl), am_in4 206 rfl rfl, am_in4 207 rfl rfl⟩
set_option maxRecDepth 100000 in
theorem msRX8_33 : am_SS RX8 33 mJ6_bitCount_0f7a4 := ⟨Or.inl (am_in4 218 rfl rfl), am_in4 188 rfl rfl⟩
set_option maxRecDepth 100000 in
theorem msRX8_42 : am_VS RX8 42 mX9_at := ⟨Or.inl (am_in4 213 rfl rfl), am_in2 213 rfl rfl, am_in2 214 rfl rfl⟩
set_option maxRecDepth 100000 in
theorem msRX9_23 : am_VS RX9 23 mX9_isFull := ⟨Or.inl (am_in2 203 rfl rfl), am_in2 196 rfl rfl, am_in2 197 rfl rfl⟩
set_option maxRecDepth 100000 in
theorem msRX9_27 : am_VS RX9 27 mX9_put := ⟨Or.inl (am_in2 204 rfl rfl), am_in2 206 rfl rfl, am_in0 1 rfl rfl⟩
set_option maxRecDepth 100000 in
theorem cw_615 : Jvm.Cond.constantLong "PloughField$Plants" 78 (1000000000) ∈ am_tb := am_in3 31 rfl rfl
set_option maxRecDepth 100000 in
theorem cw_628 : Jvm.Cond.constantLong "PloughField$Plants" 84 (100) ∈ am_tb := am_in3 44 rfl rfl
set_option maxRecDepth 100000 in
theorem cw_633 : Jvm.Cond.constantLong "PloughField$Plants" 95 (-1) ∈ am_tb := am_in3 49 rfl rfl
set_option maxRecDepth 100000 in
theorem cw_732 : Jvm.Cond.constantLong "PloughField$Ground" 41 (64) ∈ am_tb := am_in3 148 rfl rfl
set_option maxRecDepth 100000 in
theorem cw_774 : Jvm.Cond.constant "PloughField$Paths" 36 (2000000000) ∈ am_tb := am_in3 190 rfl rfl
set_option maxRecDepth 100000 in
theorem cw_923 : Jvm.Cond.constantLong "PloughField$Plants" 93 (10000000) ∈ am_tb := am_in4 99 rfl rfl
set_option maxRecDepth 100000 in
theorem cw_940 : Jvm.Cond.constantLong "java/lang/Long" 314 (6148914691236517205) ∈ am_tb := am_in4 116 rfl rfl
set_option maxRecDepth 100000 in
theorem cw_941 : Jvm.Cond.constantLong "java/lang/Long" 316 (3689348814741910323) ∈ am_tb := am_in4 117 rfl rfl
set_option maxRecDepth 100000 in
theorem cw_942 : Jvm.Cond.constantLong "java/lang/Long" 318 (1085102592571150095) ∈ am_tb := am_in4 118 rfl rfl
set_option maxRecDepth 100000 in
theorem cw_977 : Jvm.Cond.constantLong "PloughField" 213 (-1) ∈ am_tb := am_in4 153 rfl rfl
set_option maxRecDepth 100000 in
theorem cw_992 : Jvm.Cond.constantLong "PloughField$Outbreak" 54 (9187201950435737471) ∈ am_tb := am_in4 168 rfl rfl
set_option maxRecDepth 100000 in
theorem cw_993 : Jvm.Cond.constantLong "PloughField$Outbreak" 56 (-72340172838076674) ∈ am_tb := am_in4 169 rfl rfl
set_option maxRecDepth 100000 in
theorem cw_994 : Jvm.Cond.constantLong "PloughField$Outbreak" 19 (-1) ∈ am_tb := am_in4 170 rfl rfl
set_option maxRecDepth 100000 in
theorem cw_1014 : Jvm.Cond.constant "java/lang/Integer" 265 (1431655765) ∈ am_tb := am_in4 190 rfl rfl
set_option maxRecDepth 100000 in
theorem cw_1015 : Jvm.Cond.constant "java/lang/Integer" 266 (858993459) ∈ am_tb := am_in4 191 rfl rfl
set_option maxRecDepth 100000 in
theorem cw_1016 : Jvm.Cond.constant "java/lang/Integer" 267 (252645135) ∈ am_tb := am_in4 192 rfl rfl
set_option maxRecDepth 100000 in
theorem cw_1051 : Jvm.Cond.constant "PloughField$Strips" 26 (-2000000000) ∈ am_tb := am_in4 227 rfl rfl
set_option maxRecDepth 100000 in
theorem cw_1053 : Jvm.Cond.constant "PloughField" 248 (-2000000000) ∈ am_tb := am_in4 229 rfl rfl
set_option maxRecDepth 100000 in
theorem cw_1298 : Jvm.Cond.constantLong "PloughField$Machine" 69 (-1000000000) ∈ am_tb := am_in5 234 rfl rfl
set_option maxRecDepth 100000 in
theorem cw_1299 : Jvm.Cond.constantLong "PloughField$Machine" 71 (1000000000) ∈ am_tb := am_in5 235 rfl rfl
set_option maxRecDepth 100000 in
theorem cw_1580 : Jvm.Cond.constantLong "PloughFieldModel" 235 (1000000000) ∈ am_tb := am_in7 36 rfl rfl
set_option maxRecDepth 100000 in
theorem cw_1585 : Jvm.Cond.constantLong "PloughFieldModel" 237 (100) ∈ am_tb := am_in7 41 rfl rfl
set_option maxRecDepth 100000 in
theorem cw_1659 : Jvm.Cond.constantLong "PloughFieldModel" 252 (1000000000000000) ∈ am_tb := am_in7 115 rfl rfl
set_option maxRecDepth 100000 in
theorem cw_1671 : Jvm.Cond.constantLong "PloughFieldModel" 260 (1000000) ∈ am_tb := am_in7 127 rfl rfl
set_option maxRecDepth 100000 in
theorem cw_1758 : Jvm.Cond.constantLong "PloughFieldModel" 239 (10000000) ∈ am_tb := am_in7 214 rfl rfl
set_option maxRecDepth 100000 in
theorem cw_1775 : Jvm.Cond.constantLong "PloughFieldModel" 328 (-1) ∈ am_tb := am_in7 231 rfl rfl
set_option maxRecDepth 100000 in
theorem cw_1819 : Jvm.Cond.constant "PloughFieldModel" 359 (-2000000000) ∈ am_tb := am_in8 35 rfl rfl
set_option maxRecDepth 100000 in
theorem cw_1844 : Jvm.Cond.constantLong "PloughFieldModel" 451 (1952541541) ∈ am_tb := am_in8 60 rfl rfl
set_option maxRecDepth 100000 in
theorem cw_1853 : Jvm.Cond.constantLong "PloughFieldModel" 453 (1819242347) ∈ am_tb := am_in8 69 rfl rfl
set_option maxRecDepth 100000 in
theorem cw_1854 : Jvm.Cond.constantLong "PloughFieldModel" 455 (465557354085) ∈ am_tb := am_in8 70 rfl rfl
set_option maxRecDepth 100000 in
theorem cw_1855 : Jvm.Cond.constantLong "PloughFieldModel" 457 (1734964837) ∈ am_tb := am_in8 71 rfl rfl
set_option maxRecDepth 100000 in
theorem cw_1887 : Jvm.Cond.constantLong "PloughFieldModel" 385 (2003133796) ∈ am_tb := am_in8 103 rfl rfl
set_option maxRecDepth 100000 in
theorem cw_1888 : Jvm.Cond.constantLong "PloughFieldModel" 387 (7824756) ∈ am_tb := am_in8 104 rfl rfl
set_option maxRecDepth 100000 in
theorem cw_1889 : Jvm.Cond.constantLong "PloughFieldModel" 389 (482955588467) ∈ am_tb := am_in8 105 rfl rfl
set_option maxRecDepth 100000 in
theorem cw_1890 : Jvm.Cond.constantLong "PloughFieldModel" 391 (465726040947) ∈ am_tb := am_in8 106 rfl rfl
set_option maxRecDepth 100000 in
theorem cw_1891 : Jvm.Cond.constantLong "PloughFieldModel" 393 (1936292453) ∈ am_tb := am_in8 107 rfl rfl
set_option maxRecDepth 100000 in
theorem cw_1892 : Jvm.Cond.constantLong "PloughFieldModel" 395 (6909036) ∈ am_tb := am_in8 108 rfl rfl
set_option maxRecDepth 100000 in
theorem cw_1893 : Jvm.Cond.constantLong "PloughFieldModel" 397 (1918986606) ∈ am_tb := am_in8 109 rfl rfl
set_option maxRecDepth 100000 in
theorem cw_1894 : Jvm.Cond.constantLong "PloughFieldModel" 399 (444150998382) ∈ am_tb := am_in8 110 rfl rfl
set_option maxRecDepth 100000 in
theorem cw_1895 : Jvm.Cond.constantLong "PloughFieldModel" 459 (26982) ∈ am_tb := am_in8 111 rfl rfl
set_option maxRecDepth 100000 in
theorem cw_1908 : Jvm.Cond.constantLong "PloughFieldModel" 432 (7237492) ∈ am_tb := am_in8 124 rfl rfl
set_option maxRecDepth 100000 in
theorem cw_1909 : Jvm.Cond.constantLong "PloughFieldModel" 440 (6385252) ∈ am_tb := am_in8 125 rfl rfl
set_option maxRecDepth 100000 in
theorem cw_1910 : Jvm.Cond.constantLong "PloughFieldModel" 449 (28530) ∈ am_tb := am_in8 126 rfl rfl
set_option maxRecDepth 100000 in
theorem cw_1938 : Jvm.Cond.constantLong "PloughFieldModel" 467 (-1000000000) ∈ am_tb := am_in8 154 rfl rfl
set_option maxRecDepth 100000 in
theorem cw_1943 : Jvm.Cond.constantLong "PloughFieldModel" 480 (2) ∈ am_tb := am_in8 159 rfl rfl
set_option maxRecDepth 100000 in
theorem cw_1949 : Jvm.Cond.constantLong "PloughFieldModel" 502 (999) ∈ am_tb := am_in8 165 rfl rfl
end
