section
-- ===== PART A: goes FIRST, ahead of the names: the tables' words, and 'selects' of the private methods out of them =====
/-- a private method of a class that the tables say can be made, by its rows of tables_1 -/
def lw_okq (q : MethodName × Nat) : Prop := (q.1.cls ≠ "java/lang/invoke/MethodHandle" ∧ q.1.cls ≠ "java/lang/invoke/VarHandle") ∧ Cond.instantiable q.1.cls q.2 ∈ tables_1 ∧ Cond.privateMethod q.1 ∈ tables_1 ∧ Cond.instanceMethod q.1 ∈ tables_1
theorem lw_p0 : lw_okq (⟨"GroupBids$Group", "goal", "(II)I"⟩, 2) := ⟨⟨by decide +kernel, by decide +kernel⟩, List.mem_of_getElem? (i := 36) (by decide +kernel), List.mem_of_getElem? (i := 346) (by decide +kernel), List.mem_of_getElem? (i := 347) (by decide +kernel)⟩
theorem lw_p1 : lw_okq (⟨"GroupBids$Group", "longerKey", "(II)I"⟩, 2) := ⟨⟨by decide +kernel, by decide +kernel⟩, List.mem_of_getElem? (i := 36) (by decide +kernel), List.mem_of_getElem? (i := 350) (by decide +kernel), List.mem_of_getElem? (i := 351) (by decide +kernel)⟩
theorem lw_p2 : lw_okq (⟨"GroupBids$Group", "withKey", "(I)I"⟩, 2) := ⟨⟨by decide +kernel, by decide +kernel⟩, List.mem_of_getElem? (i := 36) (by decide +kernel), List.mem_of_getElem? (i := 354) (by decide +kernel), List.mem_of_getElem? (i := 355) (by decide +kernel)⟩
theorem lw_p3 : lw_okq (⟨"GroupBids", "numberOf", "(I)I"⟩, 6) := ⟨⟨by decide +kernel, by decide +kernel⟩, List.mem_of_getElem? (i := 28) (by decide +kernel), List.mem_of_getElem? (i := 358) (by decide +kernel), List.mem_of_getElem? (i := 359) (by decide +kernel)⟩
theorem lw_p4 : lw_okq (⟨"GroupBids$History", "placeOf", "(I)I"⟩, 3) := ⟨⟨by decide +kernel, by decide +kernel⟩, List.mem_of_getElem? (i := 237) (by decide +kernel), List.mem_of_getElem? (i := 378) (by decide +kernel), List.mem_of_getElem? (i := 379) (by decide +kernel)⟩
theorem lw_p5 : lw_okq (⟨"java/lang/Throwable", "fillInStackTrace", "(I)Ljava/lang/Throwable;"⟩, 6) := ⟨⟨by decide +kernel, by decide +kernel⟩, List.mem_of_getElem? (i := 457) (by decide +kernel), List.mem_of_getElem? (i := 455) (by decide +kernel), List.mem_of_getElem? (i := 456) (by decide +kernel)⟩
theorem lw_p6 : lw_okq (⟨"GroupBids", "withPlayer", "(JI)J"⟩, 6) := ⟨⟨by decide +kernel, by decide +kernel⟩, List.mem_of_getElem? (i := 28) (by decide +kernel), List.mem_of_getElem? (i := 482) (by decide +kernel), List.mem_of_getElem? (i := 483) (by decide +kernel)⟩
theorem lw_p7 : lw_okq (⟨"GroupBids", "existing", "(I)LGroupBids$Bidder;"⟩, 6) := ⟨⟨by decide +kernel, by decide +kernel⟩, List.mem_of_getElem? (i := 28) (by decide +kernel), List.mem_of_getElem? (i := 490) (by decide +kernel), List.mem_of_getElem? (i := 491) (by decide +kernel)⟩
theorem lw_p8 : lw_okq (⟨"GroupBids$Auction", "clearLot", "()V"⟩, 15) := ⟨⟨by decide +kernel, by decide +kernel⟩, List.mem_of_getElem? (i := 78) (by decide +kernel), List.mem_of_getElem? (i := 588) (by decide +kernel), List.mem_of_getElem? (i := 589) (by decide +kernel)⟩
theorem lw_p9 : lw_okq (⟨"GroupBids$SetupReader", "advance", "()V"⟩, 14) := ⟨⟨by decide +kernel, by decide +kernel⟩, List.mem_of_getElem? (i := 56) (by decide +kernel), List.mem_of_getElem? (i := 595) (by decide +kernel), List.mem_of_getElem? (i := 596) (by decide +kernel)⟩
theorem lw_p10 : lw_okq (⟨"GroupBids$SetupReader", "takeGroup", "()Z"⟩, 14) := ⟨⟨by decide +kernel, by decide +kernel⟩, List.mem_of_getElem? (i := 56) (by decide +kernel), List.mem_of_getElem? (i := 606) (by decide +kernel), List.mem_of_getElem? (i := 607) (by decide +kernel)⟩
theorem lw_p11 : lw_okq (⟨"GroupBids$SetupReader", "isWord", "(Ljava/lang/String;)Z"⟩, 14) := ⟨⟨by decide +kernel, by decide +kernel⟩, List.mem_of_getElem? (i := 56) (by decide +kernel), List.mem_of_getElem? (i := 611) (by decide +kernel), List.mem_of_getElem? (i := 612) (by decide +kernel)⟩
theorem lw_p12 : lw_okq (⟨"GroupBids$SetupReader", "fail", "(II)Z"⟩, 14) := ⟨⟨by decide +kernel, by decide +kernel⟩, List.mem_of_getElem? (i := 56) (by decide +kernel), List.mem_of_getElem? (i := 663) (by decide +kernel), List.mem_of_getElem? (i := 664) (by decide +kernel)⟩
theorem lw_p13 : lw_okq (⟨"GroupBids$SetupReader", "takeNumber", "(II)Z"⟩, 14) := ⟨⟨by decide +kernel, by decide +kernel⟩, List.mem_of_getElem? (i := 56) (by decide +kernel), List.mem_of_getElem? (i := 667) (by decide +kernel), List.mem_of_getElem? (i := 668) (by decide +kernel)⟩
theorem lw_p14 : lw_okq (⟨"GroupBids$SetupReader", "takeSign", "(C)Z"⟩, 14) := ⟨⟨by decide +kernel, by decide +kernel⟩, List.mem_of_getElem? (i := 56) (by decide +kernel), List.mem_of_getElem? (i := 671) (by decide +kernel), List.mem_of_getElem? (i := 672) (by decide +kernel)⟩
theorem lw_p15 : lw_okq (⟨"GroupBids$SetupReader", "isSign", "(C)Z"⟩, 14) := ⟨⟨by decide +kernel, by decide +kernel⟩, List.mem_of_getElem? (i := 56) (by decide +kernel), List.mem_of_getElem? (i := 675) (by decide +kernel), List.mem_of_getElem? (i := 676) (by decide +kernel)⟩
def lw_privs_1 : List (MethodName × Nat) := [(⟨"GroupBids$Group", "goal", "(II)I"⟩, 2), (⟨"GroupBids$Group", "longerKey", "(II)I"⟩, 2), (⟨"GroupBids$Group", "withKey", "(I)I"⟩, 2), (⟨"GroupBids", "numberOf", "(I)I"⟩, 6), (⟨"GroupBids$History", "placeOf", "(I)I"⟩, 3), (⟨"java/lang/Throwable", "fillInStackTrace", "(I)Ljava/lang/Throwable;"⟩, 6), (⟨"GroupBids", "withPlayer", "(JI)J"⟩, 6), (⟨"GroupBids", "existing", "(I)LGroupBids$Bidder;"⟩, 6), (⟨"GroupBids$Auction", "clearLot", "()V"⟩, 15), (⟨"GroupBids$SetupReader", "advance", "()V"⟩, 14), (⟨"GroupBids$SetupReader", "takeGroup", "()Z"⟩, 14), (⟨"GroupBids$SetupReader", "isWord", "(Ljava/lang/String;)Z"⟩, 14), (⟨"GroupBids$SetupReader", "fail", "(II)Z"⟩, 14), (⟨"GroupBids$SetupReader", "takeNumber", "(II)Z"⟩, 14), (⟨"GroupBids$SetupReader", "takeSign", "(C)Z"⟩, 14), (⟨"GroupBids$SetupReader", "isSign", "(C)Z"⟩, 14)]
theorem lw_r1 : ∀ q ∈ lw_privs_1, lw_okq q := List.forall_mem_cons.mpr ⟨lw_p0, List.forall_mem_cons.mpr ⟨lw_p1, List.forall_mem_cons.mpr ⟨lw_p2, List.forall_mem_cons.mpr ⟨lw_p3, List.forall_mem_cons.mpr ⟨lw_p4, List.forall_mem_cons.mpr ⟨lw_p5, List.forall_mem_cons.mpr ⟨lw_p6, List.forall_mem_cons.mpr ⟨lw_p7, List.forall_mem_cons.mpr ⟨lw_p8, List.forall_mem_cons.mpr ⟨lw_p9, List.forall_mem_cons.mpr ⟨lw_p10, List.forall_mem_cons.mpr ⟨lw_p11, List.forall_mem_cons.mpr ⟨lw_p12, List.forall_mem_cons.mpr ⟨lw_p13, List.forall_mem_cons.mpr ⟨lw_p14, List.forall_mem_cons.mpr ⟨lw_p15, fun _ h => absurd h List.not_mem_nil⟩⟩⟩⟩⟩⟩⟩⟩⟩⟩⟩⟩⟩⟩⟩⟩
theorem lw_p16 : lw_okq (⟨"GroupBids$SetupReader", "takeStatement", "()Z"⟩, 14) := ⟨⟨by decide +kernel, by decide +kernel⟩, List.mem_of_getElem? (i := 56) (by decide +kernel), List.mem_of_getElem? (i := 679) (by decide +kernel), List.mem_of_getElem? (i := 680) (by decide +kernel)⟩
theorem lw_p17 : lw_okq (⟨"GroupBids$SetupReader", "takePlayer", "()Z"⟩, 14) := ⟨⟨by decide +kernel, by decide +kernel⟩, List.mem_of_getElem? (i := 56) (by decide +kernel), List.mem_of_getElem? (i := 684) (by decide +kernel), List.mem_of_getElem? (i := 685) (by decide +kernel)⟩
theorem lw_p18 : lw_okq (⟨"GroupBids$SetupReader", "takeCard", "()Z"⟩, 14) := ⟨⟨by decide +kernel, by decide +kernel⟩, List.mem_of_getElem? (i := 56) (by decide +kernel), List.mem_of_getElem? (i := 699) (by decide +kernel), List.mem_of_getElem? (i := 700) (by decide +kernel)⟩
theorem lw_p19 : lw_okq (⟨"GroupBids$SetupReader", "takeElement", "()Z"⟩, 14) := ⟨⟨by decide +kernel, by decide +kernel⟩, List.mem_of_getElem? (i := 56) (by decide +kernel), List.mem_of_getElem? (i := 708) (by decide +kernel), List.mem_of_getElem? (i := 709) (by decide +kernel)⟩
theorem lw_p20 : lw_okq (⟨"GroupBids$SetupReader", "takeLot", "()Z"⟩, 14) := ⟨⟨by decide +kernel, by decide +kernel⟩, List.mem_of_getElem? (i := 56) (by decide +kernel), List.mem_of_getElem? (i := 725) (by decide +kernel), List.mem_of_getElem? (i := 726) (by decide +kernel)⟩
theorem lw_p21 : lw_okq (⟨"GroupBids$SetupReader", "takePrice", "()Z"⟩, 14) := ⟨⟨by decide +kernel, by decide +kernel⟩, List.mem_of_getElem? (i := 56) (by decide +kernel), List.mem_of_getElem? (i := 731) (by decide +kernel), List.mem_of_getElem? (i := 732) (by decide +kernel)⟩
theorem lw_p22 : lw_okq (⟨"GroupBids$SetupReader", "takeSum", "(I)Z"⟩, 14) := ⟨⟨by decide +kernel, by decide +kernel⟩, List.mem_of_getElem? (i := 56) (by decide +kernel), List.mem_of_getElem? (i := 735) (by decide +kernel), List.mem_of_getElem? (i := 736) (by decide +kernel)⟩
theorem lw_p23 : lw_okq (⟨"GroupBids$SetupReader", "takeTerm", "(I)Z"⟩, 14) := ⟨⟨by decide +kernel, by decide +kernel⟩, List.mem_of_getElem? (i := 56) (by decide +kernel), List.mem_of_getElem? (i := 739) (by decide +kernel), List.mem_of_getElem? (i := 740) (by decide +kernel)⟩
theorem lw_p24 : lw_okq (⟨"GroupBids$SetupReader", "takeFactor", "(I)Z"⟩, 14) := ⟨⟨by decide +kernel, by decide +kernel⟩, List.mem_of_getElem? (i := 56) (by decide +kernel), List.mem_of_getElem? (i := 743) (by decide +kernel), List.mem_of_getElem? (i := 744) (by decide +kernel)⟩
theorem lw_p25 : lw_okq (⟨"GroupBids$SetupReader", "takeVariable", "()Z"⟩, 14) := ⟨⟨by decide +kernel, by decide +kernel⟩, List.mem_of_getElem? (i := 56) (by decide +kernel), List.mem_of_getElem? (i := 747) (by decide +kernel), List.mem_of_getElem? (i := 748) (by decide +kernel)⟩
theorem lw_p26 : lw_okq (⟨"GroupBids", "elementOf", "(I)I"⟩, 6) := ⟨⟨by decide +kernel, by decide +kernel⟩, List.mem_of_getElem? (i := 28) (by decide +kernel), List.mem_of_getElem? (i := 823) (by decide +kernel), List.mem_of_getElem? (i := 824) (by decide +kernel)⟩
theorem lw_p27 : lw_okq (⟨"GroupBids$Hands", "takeHand", "(LGroupBids$Bidder;I)V"⟩, 6) := ⟨⟨by decide +kernel, by decide +kernel⟩, List.mem_of_getElem? (i := 256) (by decide +kernel), List.mem_of_getElem? (i := 859) (by decide +kernel), List.mem_of_getElem? (i := 860) (by decide +kernel)⟩
theorem lw_p28 : lw_okq (⟨"GroupBids$Hands", "include", "(II)V"⟩, 6) := ⟨⟨by decide +kernel, by decide +kernel⟩, List.mem_of_getElem? (i := 256) (by decide +kernel), List.mem_of_getElem? (i := 874) (by decide +kernel), List.mem_of_getElem? (i := 875) (by decide +kernel)⟩
theorem lw_p29 : lw_okq (⟨"GroupBids$Hands", "hasRoomFor", "(II)Z"⟩, 6) := ⟨⟨by decide +kernel, by decide +kernel⟩, List.mem_of_getElem? (i := 256) (by decide +kernel), List.mem_of_getElem? (i := 878) (by decide +kernel), List.mem_of_getElem? (i := 879) (by decide +kernel)⟩
theorem lw_p30 : lw_okq (⟨"GroupBids$Hands", "extend", "(II)V"⟩, 6) := ⟨⟨by decide +kernel, by decide +kernel⟩, List.mem_of_getElem? (i := 256) (by decide +kernel), List.mem_of_getElem? (i := 882) (by decide +kernel), List.mem_of_getElem? (i := 883) (by decide +kernel)⟩
theorem lw_p31 : lw_okq (⟨"GroupBids$Hands", "timesCard", "(II)I"⟩, 6) := ⟨⟨by decide +kernel, by decide +kernel⟩, List.mem_of_getElem? (i := 256) (by decide +kernel), List.mem_of_getElem? (i := 892) (by decide +kernel), List.mem_of_getElem? (i := 893) (by decide +kernel)⟩
def lw_privs_2 : List (MethodName × Nat) := [(⟨"GroupBids$SetupReader", "takeStatement", "()Z"⟩, 14), (⟨"GroupBids$SetupReader", "takePlayer", "()Z"⟩, 14), (⟨"GroupBids$SetupReader", "takeCard", "()Z"⟩, 14), (⟨"GroupBids$SetupReader", "takeElement", "()Z"⟩, 14), (⟨"GroupBids$SetupReader", "takeLot", "()Z"⟩, 14), (⟨"GroupBids$SetupReader", "takePrice", "()Z"⟩, 14), (⟨"GroupBids$SetupReader", "takeSum", "(I)Z"⟩, 14), (⟨"GroupBids$SetupReader", "takeTerm", "(I)Z"⟩, 14), (⟨"GroupBids$SetupReader", "takeFactor", "(I)Z"⟩, 14), (⟨"GroupBids$SetupReader", "takeVariable", "()Z"⟩, 14), (⟨"GroupBids", "elementOf", "(I)I"⟩, 6), (⟨"GroupBids$Hands", "takeHand", "(LGroupBids$Bidder;I)V"⟩, 6), (⟨"GroupBids$Hands", "include", "(II)V"⟩, 6), (⟨"GroupBids$Hands", "hasRoomFor", "(II)Z"⟩, 6), (⟨"GroupBids$Hands", "extend", "(II)V"⟩, 6), (⟨"GroupBids$Hands", "timesCard", "(II)I"⟩, 6)]
theorem lw_r2 : ∀ q ∈ lw_privs_2, lw_okq q := List.forall_mem_cons.mpr ⟨lw_p16, List.forall_mem_cons.mpr ⟨lw_p17, List.forall_mem_cons.mpr ⟨lw_p18, List.forall_mem_cons.mpr ⟨lw_p19, List.forall_mem_cons.mpr ⟨lw_p20, List.forall_mem_cons.mpr ⟨lw_p21, List.forall_mem_cons.mpr ⟨lw_p22, List.forall_mem_cons.mpr ⟨lw_p23, List.forall_mem_cons.mpr ⟨lw_p24, List.forall_mem_cons.mpr ⟨lw_p25, List.forall_mem_cons.mpr ⟨lw_p26, List.forall_mem_cons.mpr ⟨lw_p27, List.forall_mem_cons.mpr ⟨lw_p28, List.forall_mem_cons.mpr ⟨lw_p29, List.forall_mem_cons.mpr ⟨lw_p30, List.forall_mem_cons.mpr ⟨lw_p31, fun _ h => absurd h List.not_mem_nil⟩⟩⟩⟩⟩⟩⟩⟩⟩⟩⟩⟩⟩⟩⟩⟩
theorem lw_p32 : lw_okq (⟨"GroupBids$Hands", "contains", "(II)Z"⟩, 6) := ⟨⟨by decide +kernel, by decide +kernel⟩, List.mem_of_getElem? (i := 256) (by decide +kernel), List.mem_of_getElem? (i := 904) (by decide +kernel), List.mem_of_getElem? (i := 905) (by decide +kernel)⟩
theorem lw_p33 : lw_okq (⟨"GroupBids$Hands", "find", "(I)V"⟩, 6) := ⟨⟨by decide +kernel, by decide +kernel⟩, List.mem_of_getElem? (i := 256) (by decide +kernel), List.mem_of_getElem? (i := 928) (by decide +kernel), List.mem_of_getElem? (i := 929) (by decide +kernel)⟩
theorem lw_p34 : lw_okq (⟨"GroupBids$Hands", "sumOf", "(ILGroupBids$Row;)I"⟩, 6) := ⟨⟨by decide +kernel, by decide +kernel⟩, List.mem_of_getElem? (i := 256) (by decide +kernel), List.mem_of_getElem? (i := 962) (by decide +kernel), List.mem_of_getElem? (i := 963) (by decide +kernel)⟩
theorem lw_p35 : lw_okq (⟨"GroupBids", "bidderInTurn", "()LGroupBids$Bidder;"⟩, 6) := ⟨⟨by decide +kernel, by decide +kernel⟩, List.mem_of_getElem? (i := 28) (by decide +kernel), List.mem_of_getElem? (i := 987) (by decide +kernel), List.mem_of_getElem? (i := 988) (by decide +kernel)⟩
theorem lw_p36 : lw_okq (⟨"GroupBids$Auction", "endMove", "(LGroupBids$Bidder;)I"⟩, 15) := ⟨⟨by decide +kernel, by decide +kernel⟩, List.mem_of_getElem? (i := 78) (by decide +kernel), List.mem_of_getElem? (i := 1022) (by decide +kernel), List.mem_of_getElem? (i := 1023) (by decide +kernel)⟩
theorem lw_p37 : lw_okq (⟨"GroupBids$Auction", "openNextLot", "()V"⟩, 15) := ⟨⟨by decide +kernel, by decide +kernel⟩, List.mem_of_getElem? (i := 78) (by decide +kernel), List.mem_of_getElem? (i := 1033) (by decide +kernel), List.mem_of_getElem? (i := 1034) (by decide +kernel)⟩
theorem lw_p38 : lw_okq (⟨"GroupBids$Auction", "turnToNext", "()V"⟩, 15) := ⟨⟨by decide +kernel, by decide +kernel⟩, List.mem_of_getElem? (i := 78) (by decide +kernel), List.mem_of_getElem? (i := 1037) (by decide +kernel), List.mem_of_getElem? (i := 1038) (by decide +kernel)⟩
theorem lw_p39 : lw_okq (⟨"GroupBidsModel", "fails", "(ZI)Z"⟩, 22) := ⟨⟨by decide +kernel, by decide +kernel⟩, List.mem_of_getElem? (i := 1081) (by decide +kernel), List.mem_of_getElem? (i := 1173) (by decide +kernel), List.mem_of_getElem? (i := 1174) (by decide +kernel)⟩
theorem lw_p40 : lw_okq (⟨"GroupBidsModel", "takeWord", "(Ljava/lang/String;)Z"⟩, 22) := ⟨⟨by decide +kernel, by decide +kernel⟩, List.mem_of_getElem? (i := 1081) (by decide +kernel), List.mem_of_getElem? (i := 1178) (by decide +kernel), List.mem_of_getElem? (i := 1179) (by decide +kernel)⟩
theorem lw_p41 : lw_okq (⟨"GroupBidsModel", "isGood", "()Z"⟩, 22) := ⟨⟨by decide +kernel, by decide +kernel⟩, List.mem_of_getElem? (i := 1081) (by decide +kernel), List.mem_of_getElem? (i := 1182) (by decide +kernel), List.mem_of_getElem? (i := 1183) (by decide +kernel)⟩
theorem lw_p42 : lw_okq (⟨"GroupBidsModel", "next", "()I"⟩, 22) := ⟨⟨by decide +kernel, by decide +kernel⟩, List.mem_of_getElem? (i := 1081) (by decide +kernel), List.mem_of_getElem? (i := 1186) (by decide +kernel), List.mem_of_getElem? (i := 1187) (by decide +kernel)⟩
theorem lw_p43 : lw_okq (⟨"GroupBidsModel", "byteAt", "(I)I"⟩, 22) := ⟨⟨by decide +kernel, by decide +kernel⟩, List.mem_of_getElem? (i := 1081) (by decide +kernel), List.mem_of_getElem? (i := 1190) (by decide +kernel), List.mem_of_getElem? (i := 1191) (by decide +kernel)⟩
theorem lw_p44 : lw_okq (⟨"GroupBidsModel", "report", "(II)V"⟩, 22) := ⟨⟨by decide +kernel, by decide +kernel⟩, List.mem_of_getElem? (i := 1081) (by decide +kernel), List.mem_of_getElem? (i := 1196) (by decide +kernel), List.mem_of_getElem? (i := 1197) (by decide +kernel)⟩
theorem lw_p45 : lw_okq (⟨"GroupBidsModel", "number", "(II)I"⟩, 22) := ⟨⟨by decide +kernel, by decide +kernel⟩, List.mem_of_getElem? (i := 1081) (by decide +kernel), List.mem_of_getElem? (i := 1200) (by decide +kernel), List.mem_of_getElem? (i := 1201) (by decide +kernel)⟩
theorem lw_p46 : lw_okq (⟨"GroupBidsModel", "expect", "(I)V"⟩, 22) := ⟨⟨by decide +kernel, by decide +kernel⟩, List.mem_of_getElem? (i := 1081) (by decide +kernel), List.mem_of_getElem? (i := 1211) (by decide +kernel), List.mem_of_getElem? (i := 1212) (by decide +kernel)⟩
theorem lw_p47 : lw_okq (⟨"GroupBidsModel", "statement", "()V"⟩, 22) := ⟨⟨by decide +kernel, by decide +kernel⟩, List.mem_of_getElem? (i := 1081) (by decide +kernel), List.mem_of_getElem? (i := 1215) (by decide +kernel), List.mem_of_getElem? (i := 1216) (by decide +kernel)⟩
def lw_privs_3 : List (MethodName × Nat) := [(⟨"GroupBids$Hands", "contains", "(II)Z"⟩, 6), (⟨"GroupBids$Hands", "find", "(I)V"⟩, 6), (⟨"GroupBids$Hands", "sumOf", "(ILGroupBids$Row;)I"⟩, 6), (⟨"GroupBids", "bidderInTurn", "()LGroupBids$Bidder;"⟩, 6), (⟨"GroupBids$Auction", "endMove", "(LGroupBids$Bidder;)I"⟩, 15), (⟨"GroupBids$Auction", "openNextLot", "()V"⟩, 15), (⟨"GroupBids$Auction", "turnToNext", "()V"⟩, 15), (⟨"GroupBidsModel", "fails", "(ZI)Z"⟩, 22), (⟨"GroupBidsModel", "takeWord", "(Ljava/lang/String;)Z"⟩, 22), (⟨"GroupBidsModel", "isGood", "()Z"⟩, 22), (⟨"GroupBidsModel", "next", "()I"⟩, 22), (⟨"GroupBidsModel", "byteAt", "(I)I"⟩, 22), (⟨"GroupBidsModel", "report", "(II)V"⟩, 22), (⟨"GroupBidsModel", "number", "(II)I"⟩, 22), (⟨"GroupBidsModel", "expect", "(I)V"⟩, 22), (⟨"GroupBidsModel", "statement", "()V"⟩, 22)]
theorem lw_r3 : ∀ q ∈ lw_privs_3, lw_okq q := List.forall_mem_cons.mpr ⟨lw_p32, List.forall_mem_cons.mpr ⟨lw_p33, List.forall_mem_cons.mpr ⟨lw_p34, List.forall_mem_cons.mpr ⟨lw_p35, List.forall_mem_cons.mpr ⟨lw_p36, List.forall_mem_cons.mpr ⟨lw_p37, List.forall_mem_cons.mpr ⟨lw_p38, List.forall_mem_cons.mpr ⟨lw_p39, List.forall_mem_cons.mpr ⟨lw_p40, List.forall_mem_cons.mpr ⟨lw_p41, List.forall_mem_cons.mpr ⟨lw_p42, List.forall_mem_cons.mpr ⟨lw_p43, List.forall_mem_cons.mpr ⟨lw_p44, List.forall_mem_cons.mpr ⟨lw_p45, List.forall_mem_cons.mpr ⟨lw_p46, List.forall_mem_cons.mpr ⟨lw_p47, fun _ h => absurd h List.not_mem_nil⟩⟩⟩⟩⟩⟩⟩⟩⟩⟩⟩⟩⟩⟩⟩⟩
theorem lw_p48 : lw_okq (⟨"GroupBidsModel", "readPlayer", "(I)V"⟩, 22) := ⟨⟨by decide +kernel, by decide +kernel⟩, List.mem_of_getElem? (i := 1081) (by decide +kernel), List.mem_of_getElem? (i := 1220) (by decide +kernel), List.mem_of_getElem? (i := 1221) (by decide +kernel)⟩
theorem lw_p49 : lw_okq (⟨"GroupBidsModel", "readCard", "()V"⟩, 22) := ⟨⟨by decide +kernel, by decide +kernel⟩, List.mem_of_getElem? (i := 1081) (by decide +kernel), List.mem_of_getElem? (i := 1226) (by decide +kernel), List.mem_of_getElem? (i := 1227) (by decide +kernel)⟩
theorem lw_p50 : lw_okq (⟨"GroupBidsModel", "readElement", "()I"⟩, 22) := ⟨⟨by decide +kernel, by decide +kernel⟩, List.mem_of_getElem? (i := 1081) (by decide +kernel), List.mem_of_getElem? (i := 1230) (by decide +kernel), List.mem_of_getElem? (i := 1231) (by decide +kernel)⟩
theorem lw_p51 : lw_okq (⟨"GroupBidsModel", "readLot", "(I)V"⟩, 22) := ⟨⟨by decide +kernel, by decide +kernel⟩, List.mem_of_getElem? (i := 1081) (by decide +kernel), List.mem_of_getElem? (i := 1242) (by decide +kernel), List.mem_of_getElem? (i := 1243) (by decide +kernel)⟩
theorem lw_p52 : lw_okq (⟨"GroupBidsModel", "once", "(II)V"⟩, 22) := ⟨⟨by decide +kernel, by decide +kernel⟩, List.mem_of_getElem? (i := 1081) (by decide +kernel), List.mem_of_getElem? (i := 1247) (by decide +kernel), List.mem_of_getElem? (i := 1248) (by decide +kernel)⟩
theorem lw_p53 : lw_okq (⟨"GroupBidsModel", "sum", "()V"⟩, 22) := ⟨⟨by decide +kernel, by decide +kernel⟩, List.mem_of_getElem? (i := 1081) (by decide +kernel), List.mem_of_getElem? (i := 1251) (by decide +kernel), List.mem_of_getElem? (i := 1252) (by decide +kernel)⟩
theorem lw_p54 : lw_okq (⟨"GroupBidsModel", "term", "()V"⟩, 22) := ⟨⟨by decide +kernel, by decide +kernel⟩, List.mem_of_getElem? (i := 1081) (by decide +kernel), List.mem_of_getElem? (i := 1255) (by decide +kernel), List.mem_of_getElem? (i := 1256) (by decide +kernel)⟩
theorem lw_p55 : lw_okq (⟨"GroupBidsModel", "factor", "()V"⟩, 22) := ⟨⟨by decide +kernel, by decide +kernel⟩, List.mem_of_getElem? (i := 1081) (by decide +kernel), List.mem_of_getElem? (i := 1259) (by decide +kernel), List.mem_of_getElem? (i := 1260) (by decide +kernel)⟩
theorem lw_p56 : lw_okq (⟨"GroupBidsModel", "emit", "(I)V"⟩, 22) := ⟨⟨by decide +kernel, by decide +kernel⟩, List.mem_of_getElem? (i := 1081) (by decide +kernel), List.mem_of_getElem? (i := 1267) (by decide +kernel), List.mem_of_getElem? (i := 1268) (by decide +kernel)⟩
theorem lw_p57 : lw_okq (⟨"GroupBidsModel", "remember", "()V"⟩, 22) := ⟨⟨by decide +kernel, by decide +kernel⟩, List.mem_of_getElem? (i := 1081) (by decide +kernel), List.mem_of_getElem? (i := 1271) (by decide +kernel), List.mem_of_getElem? (i := 1272) (by decide +kernel)⟩
theorem lw_p58 : lw_okq (⟨"GroupBidsModel", "told", "(I)I"⟩, 22) := ⟨⟨by decide +kernel, by decide +kernel⟩, List.mem_of_getElem? (i := 1081) (by decide +kernel), List.mem_of_getElem? (i := 1286) (by decide +kernel), List.mem_of_getElem? (i := 1287) (by decide +kernel)⟩
theorem lw_p59 : lw_okq (⟨"GroupBidsModel", "isOver", "()Z"⟩, 22) := ⟨⟨by decide +kernel, by decide +kernel⟩, List.mem_of_getElem? (i := 1081) (by decide +kernel), List.mem_of_getElem? (i := 1290) (by decide +kernel), List.mem_of_getElem? (i := 1291) (by decide +kernel)⟩
theorem lw_p60 : lw_okq (⟨"GroupBidsModel", "noPlayer", "(I)Z"⟩, 22) := ⟨⟨by decide +kernel, by decide +kernel⟩, List.mem_of_getElem? (i := 1081) (by decide +kernel), List.mem_of_getElem? (i := 1298) (by decide +kernel), List.mem_of_getElem? (i := 1299) (by decide +kernel)⟩
theorem lw_p61 : lw_okq (⟨"GroupBidsModel", "cardsOf", "(I)I"⟩, 22) := ⟨⟨by decide +kernel, by decide +kernel⟩, List.mem_of_getElem? (i := 1081) (by decide +kernel), List.mem_of_getElem? (i := 1309) (by decide +kernel), List.mem_of_getElem? (i := 1310) (by decide +kernel)⟩
theorem lw_p62 : lw_okq (⟨"GroupBidsModel", "toldCard", "(III)I"⟩, 22) := ⟨⟨by decide +kernel, by decide +kernel⟩, List.mem_of_getElem? (i := 1081) (by decide +kernel), List.mem_of_getElem? (i := 1313) (by decide +kernel), List.mem_of_getElem? (i := 1314) (by decide +kernel)⟩
theorem lw_p63 : lw_okq (⟨"GroupBidsModel", "elementOf", "(II)I"⟩, 22) := ⟨⟨by decide +kernel, by decide +kernel⟩, List.mem_of_getElem? (i := 1081) (by decide +kernel), List.mem_of_getElem? (i := 1317) (by decide +kernel), List.mem_of_getElem? (i := 1318) (by decide +kernel)⟩
def lw_privs_4 : List (MethodName × Nat) := [(⟨"GroupBidsModel", "readPlayer", "(I)V"⟩, 22), (⟨"GroupBidsModel", "readCard", "()V"⟩, 22), (⟨"GroupBidsModel", "readElement", "()I"⟩, 22), (⟨"GroupBidsModel", "readLot", "(I)V"⟩, 22), (⟨"GroupBidsModel", "once", "(II)V"⟩, 22), (⟨"GroupBidsModel", "sum", "()V"⟩, 22), (⟨"GroupBidsModel", "term", "()V"⟩, 22), (⟨"GroupBidsModel", "factor", "()V"⟩, 22), (⟨"GroupBidsModel", "emit", "(I)V"⟩, 22), (⟨"GroupBidsModel", "remember", "()V"⟩, 22), (⟨"GroupBidsModel", "told", "(I)I"⟩, 22), (⟨"GroupBidsModel", "isOver", "()Z"⟩, 22), (⟨"GroupBidsModel", "noPlayer", "(I)Z"⟩, 22), (⟨"GroupBidsModel", "cardsOf", "(I)I"⟩, 22), (⟨"GroupBidsModel", "toldCard", "(III)I"⟩, 22), (⟨"GroupBidsModel", "elementOf", "(II)I"⟩, 22)]
theorem lw_r4 : ∀ q ∈ lw_privs_4, lw_okq q := List.forall_mem_cons.mpr ⟨lw_p48, List.forall_mem_cons.mpr ⟨lw_p49, List.forall_mem_cons.mpr ⟨lw_p50, List.forall_mem_cons.mpr ⟨lw_p51, List.forall_mem_cons.mpr ⟨lw_p52, List.forall_mem_cons.mpr ⟨lw_p53, List.forall_mem_cons.mpr ⟨lw_p54, List.forall_mem_cons.mpr ⟨lw_p55, List.forall_mem_cons.mpr ⟨lw_p56, List.forall_mem_cons.mpr ⟨lw_p57, List.forall_mem_cons.mpr ⟨lw_p58, List.forall_mem_cons.mpr ⟨lw_p59, List.forall_mem_cons.mpr ⟨lw_p60, List.forall_mem_cons.mpr ⟨lw_p61, List.forall_mem_cons.mpr ⟨lw_p62, List.forall_mem_cons.mpr ⟨lw_p63, fun _ h => absurd h List.not_mem_nil⟩⟩⟩⟩⟩⟩⟩⟩⟩⟩⟩⟩⟩⟩⟩⟩
theorem lw_p64 : lw_okq (⟨"GroupBidsModel", "baseOf", "(II)I"⟩, 22) := ⟨⟨by decide +kernel, by decide +kernel⟩, List.mem_of_getElem? (i := 1081) (by decide +kernel), List.mem_of_getElem? (i := 1321) (by decide +kernel), List.mem_of_getElem? (i := 1322) (by decide +kernel)⟩
theorem lw_p65 : lw_okq (⟨"GroupBidsModel", "priceOf", "(II)I"⟩, 22) := ⟨⟨by decide +kernel, by decide +kernel⟩, List.mem_of_getElem? (i := 1081) (by decide +kernel), List.mem_of_getElem? (i := 1325) (by decide +kernel), List.mem_of_getElem? (i := 1326) (by decide +kernel)⟩
theorem lw_p66 : lw_okq (⟨"GroupBidsModel", "ofBid", "(II)I"⟩, 22) := ⟨⟨by decide +kernel, by decide +kernel⟩, List.mem_of_getElem? (i := 1081) (by decide +kernel), List.mem_of_getElem? (i := 1354) (by decide +kernel), List.mem_of_getElem? (i := 1355) (by decide +kernel)⟩
theorem lw_p67 : lw_okq (⟨"GroupBidsModel", "productNow", "()I"⟩, 22) := ⟨⟨by decide +kernel, by decide +kernel⟩, List.mem_of_getElem? (i := 1081) (by decide +kernel), List.mem_of_getElem? (i := 1362) (by decide +kernel), List.mem_of_getElem? (i := 1363) (by decide +kernel)⟩
theorem lw_p68 : lw_okq (⟨"GroupBidsModel", "productBetween", "(II)I"⟩, 22) := ⟨⟨by decide +kernel, by decide +kernel⟩, List.mem_of_getElem? (i := 1081) (by decide +kernel), List.mem_of_getElem? (i := 1366) (by decide +kernel), List.mem_of_getElem? (i := 1367) (by decide +kernel)⟩
theorem lw_p69 : lw_okq (⟨"GroupBidsModel", "noElement", "(II)Z"⟩, 22) := ⟨⟨by decide +kernel, by decide +kernel⟩, List.mem_of_getElem? (i := 1081) (by decide +kernel), List.mem_of_getElem? (i := 1378) (by decide +kernel), List.mem_of_getElem? (i := 1379) (by decide +kernel)⟩
theorem lw_p70 : lw_okq (⟨"GroupBidsModel", "layFrom", "(III)V"⟩, 22) := ⟨⟨by decide +kernel, by decide +kernel⟩, List.mem_of_getElem? (i := 1081) (by decide +kernel), List.mem_of_getElem? (i := 1397) (by decide +kernel), List.mem_of_getElem? (i := 1398) (by decide +kernel)⟩
theorem lw_p71 : lw_okq (⟨"GroupBidsModel", "layGroup", "()V"⟩, 22) := ⟨⟨by decide +kernel, by decide +kernel⟩, List.mem_of_getElem? (i := 1081) (by decide +kernel), List.mem_of_getElem? (i := 1401) (by decide +kernel), List.mem_of_getElem? (i := 1402) (by decide +kernel)⟩
theorem lw_p72 : lw_okq (⟨"GroupBidsModel", "isReached", "(II)Z"⟩, 22) := ⟨⟨by decide +kernel, by decide +kernel⟩, List.mem_of_getElem? (i := 1081) (by decide +kernel), List.mem_of_getElem? (i := 1405) (by decide +kernel), List.mem_of_getElem? (i := 1406) (by decide +kernel)⟩
theorem lw_p73 : lw_okq (⟨"GroupBidsModel", "fewestOf", "(I)I"⟩, 22) := ⟨⟨by decide +kernel, by decide +kernel⟩, List.mem_of_getElem? (i := 1081) (by decide +kernel), List.mem_of_getElem? (i := 1421) (by decide +kernel), List.mem_of_getElem? (i := 1422) (by decide +kernel)⟩
theorem lw_p74 : lw_okq (⟨"GroupBidsModel", "fewestLaid", "(II)I"⟩, 22) := ⟨⟨by decide +kernel, by decide +kernel⟩, List.mem_of_getElem? (i := 1081) (by decide +kernel), List.mem_of_getElem? (i := 1425) (by decide +kernel), List.mem_of_getElem? (i := 1426) (by decide +kernel)⟩
theorem lw_p75 : lw_okq (⟨"GroupBidsModel", "noCard", "(I)Z"⟩, 22) := ⟨⟨by decide +kernel, by decide +kernel⟩, List.mem_of_getElem? (i := 1081) (by decide +kernel), List.mem_of_getElem? (i := 1444) (by decide +kernel), List.mem_of_getElem? (i := 1445) (by decide +kernel)⟩
theorem lw_p76 : lw_okq (⟨"GroupBidsModel", "payPot", "(II)V"⟩, 22) := ⟨⟨by decide +kernel, by decide +kernel⟩, List.mem_of_getElem? (i := 1081) (by decide +kernel), List.mem_of_getElem? (i := 1448) (by decide +kernel), List.mem_of_getElem? (i := 1449) (by decide +kernel)⟩
theorem lw_p77 : lw_okq (⟨"GroupBidsModel", "dropCard", "(II)V"⟩, 22) := ⟨⟨by decide +kernel, by decide +kernel⟩, List.mem_of_getElem? (i := 1081) (by decide +kernel), List.mem_of_getElem? (i := 1452) (by decide +kernel), List.mem_of_getElem? (i := 1453) (by decide +kernel)⟩
theorem lw_p78 : lw_okq (⟨"GroupBidsModel", "finish", "(I)I"⟩, 22) := ⟨⟨by decide +kernel, by decide +kernel⟩, List.mem_of_getElem? (i := 1081) (by decide +kernel), List.mem_of_getElem? (i := 1456) (by decide +kernel), List.mem_of_getElem? (i := 1457) (by decide +kernel)⟩
theorem lw_p79 : lw_okq (⟨"GroupBidsModel", "payInto", "(II)V"⟩, 22) := ⟨⟨by decide +kernel, by decide +kernel⟩, List.mem_of_getElem? (i := 1081) (by decide +kernel), List.mem_of_getElem? (i := 1460) (by decide +kernel), List.mem_of_getElem? (i := 1461) (by decide +kernel)⟩
def lw_privs_5 : List (MethodName × Nat) := [(⟨"GroupBidsModel", "baseOf", "(II)I"⟩, 22), (⟨"GroupBidsModel", "priceOf", "(II)I"⟩, 22), (⟨"GroupBidsModel", "ofBid", "(II)I"⟩, 22), (⟨"GroupBidsModel", "productNow", "()I"⟩, 22), (⟨"GroupBidsModel", "productBetween", "(II)I"⟩, 22), (⟨"GroupBidsModel", "noElement", "(II)Z"⟩, 22), (⟨"GroupBidsModel", "layFrom", "(III)V"⟩, 22), (⟨"GroupBidsModel", "layGroup", "()V"⟩, 22), (⟨"GroupBidsModel", "isReached", "(II)Z"⟩, 22), (⟨"GroupBidsModel", "fewestOf", "(I)I"⟩, 22), (⟨"GroupBidsModel", "fewestLaid", "(II)I"⟩, 22), (⟨"GroupBidsModel", "noCard", "(I)Z"⟩, 22), (⟨"GroupBidsModel", "payPot", "(II)V"⟩, 22), (⟨"GroupBidsModel", "dropCard", "(II)V"⟩, 22), (⟨"GroupBidsModel", "finish", "(I)I"⟩, 22), (⟨"GroupBidsModel", "payInto", "(II)V"⟩, 22)]
theorem lw_r5 : ∀ q ∈ lw_privs_5, lw_okq q := List.forall_mem_cons.mpr ⟨lw_p64, List.forall_mem_cons.mpr ⟨lw_p65, List.forall_mem_cons.mpr ⟨lw_p66, List.forall_mem_cons.mpr ⟨lw_p67, List.forall_mem_cons.mpr ⟨lw_p68, List.forall_mem_cons.mpr ⟨lw_p69, List.forall_mem_cons.mpr ⟨lw_p70, List.forall_mem_cons.mpr ⟨lw_p71, List.forall_mem_cons.mpr ⟨lw_p72, List.forall_mem_cons.mpr ⟨lw_p73, List.forall_mem_cons.mpr ⟨lw_p74, List.forall_mem_cons.mpr ⟨lw_p75, List.forall_mem_cons.mpr ⟨lw_p76, List.forall_mem_cons.mpr ⟨lw_p77, List.forall_mem_cons.mpr ⟨lw_p78, List.forall_mem_cons.mpr ⟨lw_p79, fun _ h => absurd h List.not_mem_nil⟩⟩⟩⟩⟩⟩⟩⟩⟩⟩⟩⟩⟩⟩⟩⟩
theorem lw_p80 : lw_okq (⟨"GroupBidsModel", "nextLot", "()V"⟩, 22) := ⟨⟨by decide +kernel, by decide +kernel⟩, List.mem_of_getElem? (i := 1081) (by decide +kernel), List.mem_of_getElem? (i := 1465) (by decide +kernel), List.mem_of_getElem? (i := 1466) (by decide +kernel)⟩
theorem lw_p81 : lw_okq (⟨"GroupBidsModel", "nextTurn", "()V"⟩, 22) := ⟨⟨by decide +kernel, by decide +kernel⟩, List.mem_of_getElem? (i := 1081) (by decide +kernel), List.mem_of_getElem? (i := 1469) (by decide +kernel), List.mem_of_getElem? (i := 1470) (by decide +kernel)⟩
def lw_privs_6 : List (MethodName × Nat) := [(⟨"GroupBidsModel", "nextLot", "()V"⟩, 22), (⟨"GroupBidsModel", "nextTurn", "()V"⟩, 22)]
theorem lw_r6 : ∀ q ∈ lw_privs_6, lw_okq q := List.forall_mem_cons.mpr ⟨lw_p80, List.forall_mem_cons.mpr ⟨lw_p81, fun _ h => absurd h List.not_mem_nil⟩⟩
def lw_privs : List (MethodName × Nat) := lw_privs_1 ++ (lw_privs_2 ++ (lw_privs_3 ++ (lw_privs_4 ++ (lw_privs_5 ++ (lw_privs_6)))))
def lw_tbl : List Cond := k2_sels lw_privs ++ tables_1
theorem lw_privs_ok : ∀ q ∈ lw_privs, lw_okq q := by
  show ∀ q ∈ lw_privs_1 ++ (lw_privs_2 ++ (lw_privs_3 ++ (lw_privs_4 ++ (lw_privs_5 ++ (lw_privs_6))))), lw_okq q
  exact List.forall_mem_append.mpr ⟨lw_r1, List.forall_mem_append.mpr ⟨lw_r2, List.forall_mem_append.mpr ⟨lw_r3, List.forall_mem_append.mpr ⟨lw_r4, List.forall_mem_append.mpr ⟨lw_r5, lw_r6⟩⟩⟩⟩⟩
-- ===== end of PART A; then your names; then what follows =====
/-! ===== BEGIN words of one list among another's, by their places ===== -/
theorem goodIn_r {big : List Cond} (ws : List Cond) (ps : List Nat) (hp : ws = ps.filterMap (fun i => big[i]?)) (h : ws.all goodWord = true) : GoodIn big ws := by
  intro w hw
  have h1 := List.all_eq_true.mp h w hw
  rw [hp] at hw
  obtain ⟨i, -, hi⟩ := List.mem_filterMap.mp hw
  have hm : w ∈ big := by first | exact List.mem_of_getElem? hi | exact List.getElem?_mem hi
  exact ⟨hm, good_of_word h1⟩
theorem goodIn_app {big a b : List Cond} (ha : GoodIn big a) (hb : GoodIn big b) : GoodIn big (a ++ b) := fun w h => (List.mem_append.mp h).elim (ha w) (hb w)
theorem goodIn_ca {big a b : List Cond} {c : Cond} (ha : GoodIn big (c :: a)) (hb : GoodIn big b) : GoodIn big (c :: (a ++ b)) := fun w h => (List.mem_cons.mp h).elim (fun e => ha w (List.mem_cons.mpr (Or.inl e))) (fun h => (List.mem_append.mp h).elim (fun h => ha w (List.mem_cons.mpr (Or.inr h))) (hb w))
theorem goodIn_sub {big ws : List Cond} (hm : ∀ w ∈ ws, w ∈ big) (h : ws.all goodWord = true) : GoodIn big ws := fun w hw => ⟨hm w hw, good_of_word (List.all_eq_true.mp h w hw)⟩
/-! ===== END ===== -/


/-! ===== BEGIN exceptions that leave a method, and their catching by the caller (launches without stack traces) ===== -/
section VXA
/-! The laws vx_back, vx_callV, vx_callS, vx_callSW, vx_throw0, vx_throwS follow proofs of the library, with one case more: JvmDerived/Free/Laws.lean (Back.of_free), Shelf42/LK1.lean (callV, callS), Shelf/KitTraced.lean (throwNew0V, throwNewS). -/
/-- where a method has thrown q: the class by its name, the cell, what was written, the world -/
def vx_T (XC : String → State → State → Prop) (st : State) (q : Addr) (t : State) (mc ms : Nat) (free : Addr → Prop) : Prop :=
  ∃ (E : String) (ce : Cell) (L : List Loc), XC E st t ∧ t.heap[q]? = some ce ∧ ce.vm = .none ∧ st.vm.findClass E = some ce.cls ∧ st.WarmedH t.vm ∧ st.sameButNew ({ t with vm := st.vm } : State) L mc ms ∧ ∀ z ∈ L, free z.base
def vx_Q (Qc : Array Value → State → Outcome → State → Prop) (XC : String → State → State → Prop) (mc ms : Nat) (free : Addr → Prop) : Array Value → State → Outcome → State → Prop := fun a st o t =>
  (Qc a st o t ∧ ∃ L, FrameEnd st o t L mc ms ∧ ∀ q ∈ L, free q.base) ∨ ∃ q, o = .threw q ∧ vx_T XC st q t mc ms free
/-- a callee that returns or throws -/
def vx_Met (l : Launch) (y : MethodName) (ws : List Cond) (rm : Room) (Pc : Array Value → State → Prop) (Qc : Array Value → State → Outcome → State → Prop) (XC : String → State → State → Prop) (mc ms : Nat) (free : Addr → Prop) : Prop :=
  MetFree l y (headSpec ws rm) Pc (fun _ _ _ _ _ => True) (vx_Q Qc XC mc ms free)
def vx_Post (XC : String → State → State → Prop) (mc ms : Nat) (free : Addr → Prop) : Pt → Array Value → Addr → Pt → Prop := fun A a q B =>
  ∃ (g : JFrame) (mk : MethodId) (t : State) (L : List Loc) (E : String) (ce : Cell), B.U.heap = t.heap ∧ B.U.vm = t.vm ∧ XC E (A.U.calling g mk a) t ∧ t.heap[q]? = some ce ∧ ce.vm = .none ∧ A.U.vm.findClass E = some ce.cls ∧ B.locs = A.locs ++ L ∧ (∀ z ∈ L, free z.base) ∧ B.cells = A.cells + mc ∧ B.slots = A.slots + ms
def vx_Back (l : Launch) (R : Room) (p : Program) (e : Env) (below : List Frame) (s : State) (sargs : Array Value) (y : MethodName) (len W9 : Nat)
    (Pre : Pt → Array Value → Prop) (Post : Pt → Array Value → Option Value → Pt → Prop) (PostX : Pt → Array Value → Addr → Pt → Prop) : Prop :=
  ∀ (m : MethodId) (meth : Method) (c : Code) (A : Pt) (g : JFrame) (ig : Instr) (mk : MethodId) (a : Array Value),
    Stand p l e R s m sargs below meth c A.U A.locs A.cells A.slots → g.method = m → g.locals.size = c.maxLocals → decode c.code g.pc = .ok (ig, len) →
    2 * g.monitorRoom + (g.stack.map fun v => v.category).sum ≤ W9 → A.U.methodNamed? y = some mk → Pre A a →
    (∃ (v : Option Value) (B : Pt), Stand p l e R s m sargs below meth c B.U B.locs B.cells B.slots ∧ Post A a v B ∧
      Steps p.tables e below (doInvoke e (A.U.setTop g) [] mk a).1 (B.U.setTop { g with pc := g.pc + len, stack := v.toList ++ g.stack })) ∨
    (∃ (q : Addr) (B : Pt), Stand p l e R s m sargs below meth c B.U B.locs B.cells B.slots ∧ PostX A a q B ∧
      Steps p.tables e below (doInvoke e (A.U.setTop g) [] mk a).1 ((B.U.setTop g).pushFrame (.throwing q)))
section Payer
variable {l : Launch} {R : Room} {p : Program} {e : Env} {below : List Frame} {s : State} {sargs : Array Value} {y : MethodName} {len W9 : Nat}
theorem vx_back {ws : List Cond} {rm : Room} {Pc : Array Value → State → Prop} {Qc : Array Value → State → Outcome → State → Prop} {XC : String → State → State → Prop} {mc ms : Nat} {free : Addr → Prop} {bytes : ByteArray} {maxL : Nat} {ret : Option FieldType}
    (hM : vx_Met l y ws rm Pc Qc XC mc ms free) (hblind : FrameBlind Pc) (hrc : rm.cells = mc) (hrs : rm.slots = ms)
    (hframes : rm.frames + 1 ≤ R.frames) (hlocals : W9 + (maxL + 11) + rm.locals ≤ R.locals)
    (hws : ∀ w ∈ ws, ∀ a' U, s.WarmedH U.vm → w.before a' U = true) (hcode : Cond.code y bytes maxL ret ∈ ws) (hinit : ∀ a' U, s.WarmedH U.vm → (Cond.initialized y.cls).before a' U = true) :
    vx_Back l R p e below s sargs y len W9 (PreOf R mc ms Pc) (PostOf Qc mc ms free) (vx_Post XC mc ms free) := by
  intro m meth c A g ig mk a X hg hsize hdg hW hn hp
  have h1 : (headSpec ws rm).pre.before a A.U = true := atoms_intro fun w hw => hws w hw _ _ X.warmed
  have h2 : (Cond.code y bytes maxL ret).before a A.U = true := hws _ hcode _ _ X.warmed
  have h3 : (Cond.initialized y.cls).before a A.U = true := hinit _ _ X.warmed
  have h4 : A.cells + (headSpec ws rm).room.cells ≤ R.cells := by rw [show (headSpec ws rm).room.cells = mc from hrc]; exact hp.1
  have h5 : A.slots + (headSpec ws rm).room.slots ≤ R.slots := by rw [show (headSpec ws rm).room.slots = ms from hrs]; exact hp.2.1
  have hPc : Pc a (A.U.calling g mk a) := hblind _ _ _ _ hp.2.2
  obtain ⟨U, Ls, c0, s0⟩ := A
  dsimp only [Pt.U, Pt.locs, Pt.cells, Pt.slots] at h1 h2 h3 h4 h5 X hn hPc ⊢
  obtain ⟨methY, cY, hmY, hcY, -, hlY, -, -, -, -⟩ := Cond.code_spec hn h2
  obtain ⟨kY, hkY, -⟩ := className_of_methodNamed hn
  have hinitY : kY.init = .initialized := Cond.initialized_spec (findClass_of_methodNamed hn) hkY h3
  have h : At U g.method c below := by rw [hg]; exact X.here
  have hlocals9 : W9 + (maxL + 11) + (headSpec ws rm).room.locals ≤ R.locals := hlocals
  have happ : (headSpec ws rm).appliesLoose y e.platform (U.calling g mk a) = true :=
    Spec.appliesLoose_calling (g := g) h hdg hn hkY hinitY
      (X.room_calling (g := g) (R' := (headSpec ws rm).room) hsize hmY hcY hframes (by rw [hlY]; omega) h4 h5) h1
  obtain ⟨mid, hmid⟩ := h.above
  have hfr : (U.setTop g).frames = (.java g :: mid) ++ below := by rw [State.frames_setTop' g h.top, hmid]; rfl
  obtain ⟨o, s₂, hsteps, -, hend, hq⟩ := Steps.callFree hM p X.admits X.cas X.clock (acts := []) hfr happ hPc trivial
  have hq' : vx_Q Qc XC mc ms free a (U.calling g mk a) o s₂ := hq
  rw [State.frames_setTop' g h.top] at hend
  obtain ⟨g₀, hg0⟩ := Option.isSome_iff_exists.mp h.top
  obtain ⟨r, hr⟩ := State.topJava?_eq_some.mp hg0
  have hr' : (({ U with heap := s₂.heap, slotsUsed := s₂.slotsUsed } : State).setVm s₂.vm).frames = .java g₀ :: r := hr
  rcases hq' with ⟨hqc, L, hfe, hL⟩ | ⟨q, rfl, E, ce, L, hx, hce, hcv, hcl, hW₂, hsm, hL⟩
  · obtain ⟨⟨v, rfl⟩, hW₂, e2, q2, q3, q4, q5, q6⟩ := id hfe
    have e3 : s₂ = ({ (U.calling g mk a).setFrames s₂.frames with heap := s₂.heap, slotsUsed := s₂.slotsUsed } : State).setVm s₂.vm := by
      have : s₂ = ({ s₂ with vm := (U.calling g mk a).vm } : State).setVm s₂.vm := rfl
      rw [e2] at this
      exact this
    obtain ⟨c₂, i₂, len₂, hc₂, hd₂, hf₂⟩ := hend
    have hW' : U.WarmedH s₂.vm := hW₂
    have hcc : c₂ = c := by
      have h1 : s₂.code? g.method = U.code? g.method := by
        rw [State.code?_eq, State.code?_eq, hW'.alike.method?]
      exact Option.some.inj (hc₂.symm.trans (h1.trans h.code))
    subst hcc
    have hlen : len₂ = len := by rw [hdg] at hd₂; cases hd₂; rfl
    subst hlen
    have hs₂ : s₂ = (({ U with heap := s₂.heap, slotsUsed := s₂.slotsUsed } : State).setVm s₂.vm).setTop { g with pc := g.pc + len₂, stack := v.toList ++ g.stack } := by
      refine e3.trans ?_
      rw [hf₂, State.calling_eq h.top, State.setFrames_setFrames, State.setTop_of_frames _ hr', hr]
      rfl
    have hsame : U.sameButNew ({ U with heap := s₂.heap, slotsUsed := s₂.slotsUsed } : State) L mc ms := by
      refine ⟨?_, q2, q3, q4, q5, q6⟩
      obtain ⟨t, ht, -⟩ := State.frames_cons hr
      show ({ U with heap := s₂.heap, slotsUsed := s₂.slotsUsed } : State) = { U.setFrames U.frames with heap := s₂.heap, slotsUsed := s₂.slotsUsed }
      rw [State.setFrames_self ht]
    subst hg
    refine Or.inl ⟨v, ⟨(({ U with heap := s₂.heap, slotsUsed := s₂.slotsUsed } : State).setVm s₂.vm), Ls ++ L, c0 + mc, s0 + ms⟩,
      ⟨X.admits, X.cas, X.clock, X.frames, X.room, X.hears, X.method, X.code, (X.here.setHeapUsed s₂.heap s₂.slotsUsed).setVm hW'.alike, X.tail, State.WarmedH.trans X.warmed hW', X.limits, X.bytes, X.same.trans (hsame.setVm s.vm)⟩,
      ⟨g, mk, s₂, L, rfl, rfl, hqc, rfl, hL, rfl, rfl⟩, ?_⟩
    show Steps p.tables e below _ ((({ U with heap := s₂.heap, slotsUsed := s₂.slotsUsed } : State).setVm s₂.vm).setTop { g with pc := g.pc + len₂, stack := v.toList ++ g.stack })
    rw [← hs₂]
    exact hsteps
  · obtain ⟨e2, q2, q3, q4, q5, q6⟩ := id hsm
    have e3 : s₂ = ({ (U.calling g mk a).setFrames s₂.frames with heap := s₂.heap, slotsUsed := s₂.slotsUsed } : State).setVm s₂.vm := by
      have : s₂ = ({ s₂ with vm := (U.calling g mk a).vm } : State).setVm s₂.vm := rfl
      rw [e2] at this
      exact this
    have hf₂ : s₂.frames = .throwing q :: .java g :: U.frames.tail := hend
    have hW' : U.WarmedH s₂.vm := hW₂
    have hs₂ : s₂ = ((({ U with heap := s₂.heap, slotsUsed := s₂.slotsUsed } : State).setVm s₂.vm).setTop g).pushFrame (.throwing q) := by
      refine e3.trans ?_
      rw [hf₂, State.calling_eq h.top, State.setFrames_setFrames, State.pushFrame, State.frames_setTop _ hr', State.setTop_of_frames _ hr', State.setFrames_setFrames, hr]
      rfl
    have hsame : U.sameButNew ({ U with heap := s₂.heap, slotsUsed := s₂.slotsUsed } : State) L mc ms := by
      refine ⟨?_, q2, q3, q4, q5, q6⟩
      obtain ⟨t, ht, -⟩ := State.frames_cons hr
      show ({ U with heap := s₂.heap, slotsUsed := s₂.slotsUsed } : State) = { U.setFrames U.frames with heap := s₂.heap, slotsUsed := s₂.slotsUsed }
      rw [State.setFrames_self ht]
    subst hg
    refine Or.inr ⟨q, ⟨(({ U with heap := s₂.heap, slotsUsed := s₂.slotsUsed } : State).setVm s₂.vm), Ls ++ L, c0 + mc, s0 + ms⟩,
      ⟨X.admits, X.cas, X.clock, X.frames, X.room, X.hears, X.method, X.code, (X.here.setHeapUsed s₂.heap s₂.slotsUsed).setVm hW'.alike, X.tail, State.WarmedH.trans X.warmed hW', X.limits, X.bytes, X.same.trans (hsame.setVm s.vm)⟩,
      ⟨g, mk, s₂, L, E, ce, rfl, rfl, hx, hce, hcv, hcl, rfl, hL, rfl, rfl⟩, ?_⟩
    show Steps p.tables e below _ (((({ U with heap := s₂.heap, slotsUsed := s₂.slotsUsed } : State).setVm s₂.vm).setTop g).pushFrame (.throwing q))
    rw [← hs₂]
    exact hsteps
end Payer
section Calls
variable {p : Program} {l : Launch} {e : Env} {R : Room} {s : State} {m : MethodId} {args : Array Value} {below : List Frame} {meth : Method} {c : Code} {T : State} {locs : List Loc} {cells slots : Nat}
theorem vx_callV (X : Stand p l e R s m args below meth c T locs cells slots) (hexec : p.tables.exec = Jvm.exec) {own C : String} {index : Nat} {y : MethodName} {bytes : ByteArray} {maxL : Nat} {ret : Option FieldType}
    (hown : s.vm.findClass own = some m.cls) (hlink : (Cond.methodLink own index y).before args s = true) (hinst : (Cond.instanceMethod y).before args s = true) (hsel : (Cond.selects C y y).before args s = true)
    (hcode : (Cond.code y bytes maxL ret).before args s = true) (hy : y.cls ≠ "java/lang/invoke/MethodHandle" ∧ y.cls ≠ "java/lang/invoke/VarHandle")
    {W9 : Nat} {Pre : Pt → Array Value → Prop} {Post : Pt → Array Value → Option Value → Pt → Prop} {PostX : Pt → Array Value → Addr → Pt → Prop} (hK : vx_Back l R p e below s args y 3 W9 Pre Post PostX)
    {b : Addr} {cellB : Cell} (hcell : T.heap[b]? = some cellB) (hobj : cellB.vm.isStatics = false) (hcls : s.vm.findClass C = some cellB.cls)
    {g : JFrame} (hg : g.method = m) (hsize : g.locals.size = c.maxLocals) {argsL rest : List Value} (hlen : ∀ sig, parseMethodDescriptor y.desc = some sig → argsL.length = sig.parameters.length)
    (hstack : g.stack = argsL.reverse ++ .ref b :: rest) (hW : 2 * g.monitorRoom + (rest.map fun v => v.category).sum ≤ W9) (hdg : decode c.code g.pc = .ok (.invokevirtual index, 3))
    (hpre : ∀ vm₁, s.WarmedH vm₁ → Pre ⟨T.setVm vm₁, locs, cells, slots⟩ (Value.ref b :: argsL).toArray) :
    (∃ (v : Option Value) (vm₁ : Vm) (B : Pt), s.WarmedH vm₁ ∧ Stand p l e R s m args below meth c B.U B.locs B.cells B.slots ∧ Post ⟨T.setVm vm₁, locs, cells, slots⟩ (Value.ref b :: argsL).toArray v B ∧
      ∀ target, Steps p.tables e below (B.U.setTop { g with pc := g.pc + 3, stack := v.toList ++ rest }) target → Steps p.tables e below (T.setTop g) target) ∨
    (∃ (q : Addr) (vm₁ : Vm) (B : Pt), s.WarmedH vm₁ ∧ Stand p l e R s m args below meth c B.U B.locs B.cells B.slots ∧ PostX ⟨T.setVm vm₁, locs, cells, slots⟩ (Value.ref b :: argsL).toArray q B ∧
      Steps p.tables e below (T.setTop g) ((B.U.setTop { g with stack := rest }).pushFrame (.throwing q))) := by
  obtain ⟨mk, methM, hnamed, hmethM, hstM, habM⟩ := Cond.instanceMethod_spec hinst
  obtain ⟨methM', cM, hmethM', -, -, -, -, -, -, hsigM⟩ := Cond.code_spec hnamed hcode
  cases hmethM.symm.trans hmethM'
  obtain ⟨c2, r2, m2, q1, q2, q3, q4, kP, hkP, hkPi⟩ := Cond.selects_spec hsel
  cases hcls.symm.trans q1
  cases (State.methodFound?_of_named hnamed hy).symm.trans q2
  cases hnamed.symm.trans q3
  have hselP : selectMethod e.platform s.vm cellB.cls mk = .method mk := by rw [Launch.admits_selectMethod X.admits]; exact q4
  obtain ⟨vm₁, X₁, hstep₁⟩ := X.invokevirtual hexec hown hlink hnamed hmethM hstM hkP hkPi hy (a := b) (cell := cellB) hcell
    (fun z h => by rw [h] at hobj; cases hobj) hselP hmethM habM hkP hkPi (g := g) hg (argsL := argsL) (rest := rest) (hlen _ hsigM) hstack hdg
  rcases hK m meth c ⟨T.setVm vm₁, locs, cells, slots⟩ { g with stack := rest } (.invokevirtual index) mk (Value.ref b :: argsL).toArray X₁ hg hsize hdg hW (X₁.named hnamed) (hpre vm₁ X₁.warmed) with ⟨v, B, X', hpost, hsteps⟩ | ⟨q, B, X', hpost, hsteps⟩
  · exact Or.inl ⟨v, vm₁, B, X₁.warmed, X', hpost, fun target h => hstep₁ _ fun acts => by rw [doInvoke_state]; exact hsteps.trans h⟩
  · exact Or.inr ⟨q, vm₁, B, X₁.warmed, X', hpost, hstep₁ _ fun acts => by rw [doInvoke_state]; exact hsteps⟩
theorem vx_callS (X : Stand p l e R s m args below meth c T locs cells slots) (hexec : p.tables.exec = Jvm.exec) {own : String} {index : Nat} {y : MethodName} {bytes : ByteArray} {maxL : Nat} {ret : Option FieldType}
    (hown : s.vm.findClass own = some m.cls) (hlink : (Cond.methodLink own index y).before args s = true) (hstat : (Cond.static y).before args s = true) (hinit : (Cond.initialized y.cls).before args s = true)
    (hcode : (Cond.code y bytes maxL ret).before args s = true) (hy : y.cls ≠ "java/lang/invoke/MethodHandle" ∧ y.cls ≠ "java/lang/invoke/VarHandle")
    {W9 : Nat} {Pre : Pt → Array Value → Prop} {Post : Pt → Array Value → Option Value → Pt → Prop} {PostX : Pt → Array Value → Addr → Pt → Prop} (hK : vx_Back l R p e below s args y 3 W9 Pre Post PostX)
    {g : JFrame} (hg : g.method = m) (hsize : g.locals.size = c.maxLocals) {argsL rest : List Value} (hlen : ∀ sig, parseMethodDescriptor y.desc = some sig → argsL.length = sig.parameters.length)
    (hstack : g.stack = argsL.reverse ++ rest) (hW : 2 * g.monitorRoom + (rest.map fun v => v.category).sum ≤ W9) (hdg : decode c.code g.pc = .ok (.invokestatic index, 3))
    (hpre : ∀ vm₁, s.WarmedH vm₁ → Pre ⟨T.setVm vm₁, locs, cells, slots⟩ argsL.toArray) :
    (∃ (v : Option Value) (vm₁ : Vm) (B : Pt), s.WarmedH vm₁ ∧ Stand p l e R s m args below meth c B.U B.locs B.cells B.slots ∧ Post ⟨T.setVm vm₁, locs, cells, slots⟩ argsL.toArray v B ∧
      ∀ target, Steps p.tables e below (B.U.setTop { g with pc := g.pc + 3, stack := v.toList ++ rest }) target → Steps p.tables e below (T.setTop g) target) ∨
    (∃ (q : Addr) (vm₁ : Vm) (B : Pt), s.WarmedH vm₁ ∧ Stand p l e R s m args below meth c B.U B.locs B.cells B.slots ∧ PostX ⟨T.setVm vm₁, locs, cells, slots⟩ argsL.toArray q B ∧
      Steps p.tables e below (T.setTop g) ((B.U.setTop { g with stack := rest }).pushFrame (.throwing q))) := by
  obtain ⟨mk, hnamed⟩ := Cond.code_named hcode
  obtain ⟨methM, cM, hmethM, -, -, -, -, -, -, hsigM⟩ := Cond.code_spec hnamed hcode
  have hstatic : methM.isStatic = true := Cond.static_spec hnamed hmethM hstat
  obtain ⟨kP, hkP, -⟩ := className_of_methodNamed hnamed
  have hinitP : kP.init = .initialized := Cond.initialized_spec (findClass_of_methodNamed hnamed) hkP hinit
  obtain ⟨vm₁, X₁, hstep₁⟩ := X.invokestatic hexec hown hlink hnamed hmethM hstatic hkP hinitP hy (g := g) hg (argsL := argsL) (rest := rest) (hlen _ hsigM) hstack hdg
  rcases hK m meth c ⟨T.setVm vm₁, locs, cells, slots⟩ { g with stack := rest } (.invokestatic index) mk argsL.toArray X₁ hg hsize hdg hW (X₁.named hnamed) (hpre vm₁ X₁.warmed) with ⟨v, B, X', hpost, hsteps⟩ | ⟨q, B, X', hpost, hsteps⟩
  · exact Or.inl ⟨v, vm₁, B, X₁.warmed, X', hpost, fun target h => hstep₁ _ fun acts => by rw [doInvoke_state]; exact hsteps.trans h⟩
  · exact Or.inr ⟨q, vm₁, B, X₁.warmed, X', hpost, hstep₁ _ fun acts => by rw [doInvoke_state]; exact hsteps⟩
end Calls
theorem vx_cls {s : State} {T : State} {vm₁ : Vm} {E : String} {k : ClassId} (hW : s.WarmedH vm₁) (h : (T.setVm vm₁).vm.findClass E = some k) : s.vm.findClass E = some k := by
  have h1 : vm₁.findClass E = some k := h
  rw [hW.alike.findClass] at h1
  exact h1
/-- the method's frame g, with q thrown over it -/
def vx_W (p : Program) (l : Launch) (e : Env) (R : Room) (s : State) (m : MethodId) (args : Array Value) (below : List Frame) (meth : Method) (c : Code) (H : Heap) (locs : List Loc) (cells slots : Nat) (Q : State → Prop) (g : JFrame) (q : Addr) : Prop :=
  ∀ T : State, T.heap = H → Stand p l e R s m args below meth c T locs cells slots → ∃ t, Steps p.tables e below ((T.setTop g).pushFrame (.throwing q)) t ∧ Q t
def vx_Run (p : Program) (l : Launch) (e : Env) (R : Room) (s : State) (m : MethodId) (args : Array Value) (below : List Frame) (meth : Method) (c : Code) (H : Heap) (locs : List Loc) (cells slots mc ms : Nat) (g : JFrame) (rest : List Value) (Qa : State → Outcome → State → Prop) (XC : String → State → State → Prop) (free : Addr → Prop) : Prop :=
  ∀ T : State, T.heap = H → Stand p l e R s m args below meth c T locs cells slots →
    (∃ (v : Option Value) (st₀ t T' : State) (L : List Loc), st₀.heap = H ∧ Stand p l e R s m args below meth c T' (locs ++ L) (cells + mc) (slots + ms) ∧ (∀ q ∈ L, free q.base) ∧ T'.heap = t.heap ∧ T'.vm = t.vm ∧ Qa st₀ (.returned v) t ∧
      Goes p e below T g T' { g with pc := g.pc + 3, stack := v.toList ++ rest }) ∨
    (∃ (q : Addr) (st₀ t T' : State) (L : List Loc) (E : String) (ce : Cell), st₀.heap = H ∧ Stand p l e R s m args below meth c T' (locs ++ L) (cells + mc) (slots + ms) ∧ (∀ z ∈ L, free z.base) ∧ T'.heap = t.heap ∧ T'.vm = t.vm ∧ XC E st₀ t ∧ t.heap[q]? = some ce ∧ ce.vm = .none ∧ s.vm.findClass E = some ce.cls ∧
      Steps p.tables e below (T.setTop g) ((T'.setTop { g with stack := rest }).pushFrame (.throwing q)))
def vx_X {S : Type} (px : S → Prop) (B : String → S → State → Prop) (A : Nat → Prop) : String → State → State → Prop := fun E st t => ∃ u : S, px u ∧ B E u t ∧ va_F A st t
section Runs
variable {p : Program} {l : Launch} {e : Env} {R : Room} {s : State} {m : MethodId} {args : Array Value} {below : List Frame} {meth : Method} {c : Code} {H : Heap} {locs : List Loc} {cells slots : Nat}
variable {y : MethodName} {bytes cc : ByteArray} {maxL nL mc ms n index : Nat} {ret : Option FieldType} {ws : List Cond} {rm : Room} {Pc : Array Value → State → Prop} {Qc : Array Value → State → Outcome → State → Prop} {XC : String → State → State → Prop} {free : Addr → Prop} {Ts : List Cond} {own C : String} {b : Addr} {As rest : List Value} {g : JFrame}
theorem vx_callBack (cb : CallB R s args own index y bytes maxL ret ws rm mc ms n) (hM : vx_Met l y ws rm Pc Qc XC mc ms free) (hbl : FrameBlind Pc) : vx_Back l R p e below s args y 3 8 (PreOf R mc ms Pc) (PostOf Qc mc ms free) (vx_Post XC mc ms free) := by
  obtain ⟨hrc, hrs, hfr, hlo, hws, hcw, -, hini, -⟩ := cb
  exact vx_back (bytes := bytes) (maxL := maxL) (ret := ret) hM hbl hrc hrs hfr hlo hws hcw (fun a' U hW => word_at hW (Or.inl (by first | rfl | simp [Cond.onTables, Cond.keeps, Cond.steady])) hini)
theorem vx_runV (S : CallFix p m c cc nL s args Ts own) (hM : vx_Met l y ws rm Pc Qc XC mc ms free) (cw : CallW R s args own C index y bytes maxL ret ws rm mc ms n) (hp : PreV s H C b Pc As)
    (hg : g.method = m) (hn : As.length = n) (hsize : g.locals.size = nL) (hstack : g.stack = As.reverse ++ .ref b :: rest) (hW : 2 * g.monitorRoom + (rest.map fun v => v.category).sum ≤ 8) (hdg : decode cc g.pc = .ok (.invokevirtual index, 3)) (hf : cells + mc ≤ R.cells ∧ slots + ms ≤ R.slots) :
    vx_Run p l e R s m args below meth c H locs cells slots mc ms g rest (Qc (Value.ref b :: As).toArray) XC free := by
  have hK : vx_Back l R p e below s args y 3 8 (PreOf R mc ms Pc) (PostOf Qc mc ms free) (vx_Post XC mc ms free) := vx_callBack cw.1 hM hp.1
  obtain ⟨⟨-, -, -, -, -, -, hcode, -, hy, hlen, hl⟩, hin, hse⟩ := cw
  obtain ⟨hx, hb, hml, ho, -⟩ := S
  obtain ⟨-, ⟨cellB, hcB, hoB, hclB⟩, hPc⟩ := hp
  intro T hT X
  rcases vx_callV X hx (C := C) (bytes := bytes) (maxL := maxL) (ret := ret) ho hl hin hse hcode hy hK (by rw [hT]; exact hcB) hoB hclB hg (hsize.trans hml.symm) (argsL := As) (rest := rest) (fun sig h => hn.trans (hlen sig h)) hstack hW (by rw [hb]; exact hdg)
    (fun vm₁ hW₁ => ⟨hf.1, hf.2, hPc (T.setVm vm₁) hT hW₁⟩) with ⟨v, vm₁, ⟨U', l2, c2, s2⟩, hW₁, X', ⟨g', mk, t, L, e1, e2, hq, h1, hL, h2, h3⟩, st⟩ | ⟨q, vm₁, ⟨U', l2, c2, s2⟩, hW₁, X', ⟨g', mk, t, L, E, ce, e1, e2, hq, hce, hcv, hcl, h1, hL, h2, h3⟩, st⟩
  · dsimp only [Pt.U, Pt.locs, Pt.cells, Pt.slots] at X' e1 e2 h1 h2 h3 st
    subst h1; subst h2; subst h3
    exact Or.inl ⟨v, (T.setVm vm₁).calling g' mk (Value.ref b :: As).toArray, t, U', L, hT, X', hL, e1, e2, hq, st⟩
  · dsimp only [Pt.U, Pt.locs, Pt.cells, Pt.slots] at X' e1 e2 h1 h2 h3 st hcl
    subst h1; subst h2; subst h3
    exact Or.inr ⟨q, (T.setVm vm₁).calling g' mk (Value.ref b :: As).toArray, t, U', L, E, ce, hT, X', hL, e1, e2, hq, hce, hcv, vx_cls hW₁ hcl, st⟩
theorem vx_runS (S : CallFix p m c cc nL s args Ts own) (hM : vx_Met l y ws rm Pc Qc XC mc ms free) (cw : CallB R s args own index y bytes maxL ret ws rm mc ms n ∧ (Cond.static y).before args s = true) (hp : PreS s H Pc As)
    (hg : g.method = m) (hn : As.length = n) (hsize : g.locals.size = nL) (hstack : g.stack = As.reverse ++ rest) (hW : 2 * g.monitorRoom + (rest.map fun v => v.category).sum ≤ 8) (hdg : decode cc g.pc = .ok (.invokestatic index, 3)) (hf : cells + mc ≤ R.cells ∧ slots + ms ≤ R.slots) :
    vx_Run p l e R s m args below meth c H locs cells slots mc ms g rest (Qc As.toArray) XC free := by
  have hK : vx_Back l R p e below s args y 3 8 (PreOf R mc ms Pc) (PostOf Qc mc ms free) (vx_Post XC mc ms free) := vx_callBack cw.1 hM hp.1
  obtain ⟨⟨-, -, -, -, -, -, hcode, hini, hy, hlen, hl⟩, hstt⟩ := cw
  obtain ⟨hx, hb, hml, ho, -⟩ := S
  intro T hT X
  rcases vx_callS X hx (bytes := bytes) (maxL := maxL) (ret := ret) ho hl hstt hini hcode hy hK hg (hsize.trans hml.symm) (argsL := As) (rest := rest) (fun sig h => hn.trans (hlen sig h)) hstack hW (by rw [hb]; exact hdg)
    (fun vm₁ hW₁ => ⟨hf.1, hf.2, hp.2 (T.setVm vm₁) hT hW₁⟩) with ⟨v, vm₁, ⟨U', l2, c2, s2⟩, hW₁, X', ⟨g', mk, t, L, e1, e2, hq, h1, hL, h2, h3⟩, st⟩ | ⟨q, vm₁, ⟨U', l2, c2, s2⟩, hW₁, X', ⟨g', mk, t, L, E, ce, e1, e2, hq, hce, hcv, hcl, h1, hL, h2, h3⟩, st⟩
  · dsimp only [Pt.U, Pt.locs, Pt.cells, Pt.slots] at X' e1 e2 h1 h2 h3 st
    subst h1; subst h2; subst h3
    exact Or.inl ⟨v, (T.setVm vm₁).calling g' mk As.toArray, t, U', L, hT, X', hL, e1, e2, hq, st⟩
  · dsimp only [Pt.U, Pt.locs, Pt.cells, Pt.slots] at X' e1 e2 h1 h2 h3 st hcl
    subst h1; subst h2; subst h3
    exact Or.inr ⟨q, (T.setVm vm₁).calling g' mk As.toArray, t, U', L, E, ce, hT, X', hL, e1, e2, hq, hce, hcv, vx_cls hW₁ hcl, st⟩
end Runs
section Rows
variable {p : Program} {l : Launch} {e : Env} {R : Room} {s : State} {m : MethodId} {args : Array Value} {below : List Frame} {meth : Method} {c : Code} {H : Heap} {locs : List Loc} {cells slots : Nat} {Q : State → Prop}
variable {mc ms : Nat} {free : Addr → Prop} {A0 A1 : Nat → Prop} {H0 : Heap} {a : Array Value} {pc : Nat} {ls : Array Slot} {st0 rest : List Value}
theorem vx_keep {st₀ t T' : State} {L : List Loc} (h0 : st₀.heap = H) (e1 : T'.heap = t.heap) (hS : va_S A0 H0 H locs) (hA : ∀ q, q < H.size → A1 q → A0 q) (hf : ∀ q, free q → A0 q) (hL : ∀ q ∈ L, free q.base) (hF : va_F A1 st₀ t) :
    H.size ≤ T'.heap.size ∧ (∀ q : Nat, q < H.size → ¬ A1 q → T'.heap[q]? = H[q]?) ∧ va_S A0 H0 T'.heap (locs ++ L) := by
  obtain ⟨hz, hk⟩ := hF
  rw [h0] at hz hk
  exact ⟨by rw [e1]; exact hz, fun q h1 h2 => by rw [e1]; exact hk q h1 h2,
    ⟨Nat.le_trans hS.1 (by rw [e1]; exact hz), fun q h1 h2 => by rw [e1, hk q (Nat.lt_of_lt_of_le h1 hS.1) (fun z => h2 (hA q (Nat.lt_of_lt_of_le h1 hS.1) z))]; exact hS.2.1 q h1 h2, fun q hq => by
      rcases List.mem_append.mp hq with h | h
      · exact hS.2.2 q h
      · exact hf _ (hL q h)⟩⟩
theorem vx_calli {S SX : Type} {post : Int32 → S → Prop} {px : SX → Prop} {B : S → State → Prop} {BX : String → SX → State → Prop} {AX : Nat → Prop} (hr : vx_Run p l e R s m args below meth c H locs cells slots mc ms (F0 m pc ls st0) rest (va_Qi post B A1 a) (vx_X px BX AX) free) (hS : va_S A0 H0 H locs) (hA : ∀ q, q < H.size → A1 q → A0 q) (hf : ∀ q, free q → A0 q) (hAX : ∀ q, q < H.size → AX q → A0 q)
    (kx : ∀ (E : String) (ce : Cell) (q9 : Addr) (u : SX) (t : State) (H1 : Heap) (locs1 : List Loc), t.heap = H1 → s.vm.Alike t.vm → px u → BX E u t → H.size ≤ H1.size → (∀ q : Nat, q < H.size → ¬ AX q → H1[q]? = H[q]?) → va_S A0 H0 H1 locs1 → H1[q9]? = some ce → ce.vm = .none → s.vm.findClass E = some ce.cls → vx_W p l e R s m args below meth c H1 locs1 (cells + mc) (slots + ms) Q (F0 m pc ls rest) q9)
    (kk : ∀ (r : Int32) (u : S) (t : State) (H1 : Heap) (locs1 : List Loc), t.heap = H1 → s.vm.Alike t.vm → post r u → B u t → H.size ≤ H1.size → (∀ q : Nat, q < H.size → ¬ A1 q → H1[q]? = H[q]?) → va_S A0 H0 H1 locs1 → W p l e R s m args below meth c H1 locs1 (cells + mc) (slots + ms) Q (F0 m (pc + 3) ls (.int r :: rest))) : W p l e R s m args below meth c H locs cells slots Q (F0 m pc ls st0) := by
  intro T hT X
  rcases hr T hT X with ⟨v, st₀, t, T', L, h0, X', hL, e1, e2, ⟨⟨r, u, hv, hp, hb⟩, hF⟩, st⟩ | ⟨q, st₀, t, T', L, E, ce, h0, X', hL, e1, e2, ⟨u, hp, hb, hF⟩, hce, hcv, hcl, st⟩
  · cases hv
    obtain ⟨k1, k2, k3⟩ := vx_keep h0 e1 hS hA hf hL hF
    obtain ⟨t2, a1, b1⟩ := kk r u t T'.heap (locs ++ L) e1.symm (by rw [← e2]; exact X'.warmed.alike) hp hb k1 k2 k3 T' rfl X'
    exact ⟨t2, st t2 a1, b1⟩
  · obtain ⟨k1, k2, k3⟩ := vx_keep h0 e1 hS hAX hf hL hF
    obtain ⟨t2, a1, b1⟩ := kx E ce q u t T'.heap (locs ++ L) e1.symm (by rw [← e2]; exact X'.warmed.alike) hp hb k1 k2 k3 (by rw [e1]; exact hce) hcv hcl T' rfl X'
    exact ⟨t2, st.trans a1, b1⟩
theorem vx_calll {S SX : Type} {post : Int64 → S → Prop} {px : SX → Prop} {B : S → State → Prop} {BX : String → SX → State → Prop} {AX : Nat → Prop} (hr : vx_Run p l e R s m args below meth c H locs cells slots mc ms (F0 m pc ls st0) rest (va_Ql post B A1 a) (vx_X px BX AX) free) (hS : va_S A0 H0 H locs) (hA : ∀ q, q < H.size → A1 q → A0 q) (hf : ∀ q, free q → A0 q) (hAX : ∀ q, q < H.size → AX q → A0 q)
    (kx : ∀ (E : String) (ce : Cell) (q9 : Addr) (u : SX) (t : State) (H1 : Heap) (locs1 : List Loc), t.heap = H1 → s.vm.Alike t.vm → px u → BX E u t → H.size ≤ H1.size → (∀ q : Nat, q < H.size → ¬ AX q → H1[q]? = H[q]?) → va_S A0 H0 H1 locs1 → H1[q9]? = some ce → ce.vm = .none → s.vm.findClass E = some ce.cls → vx_W p l e R s m args below meth c H1 locs1 (cells + mc) (slots + ms) Q (F0 m pc ls rest) q9)
    (kk : ∀ (r : Int64) (u : S) (t : State) (H1 : Heap) (locs1 : List Loc), t.heap = H1 → s.vm.Alike t.vm → post r u → B u t → H.size ≤ H1.size → (∀ q : Nat, q < H.size → ¬ A1 q → H1[q]? = H[q]?) → va_S A0 H0 H1 locs1 → W p l e R s m args below meth c H1 locs1 (cells + mc) (slots + ms) Q (F0 m (pc + 3) ls (.long r :: rest))) : W p l e R s m args below meth c H locs cells slots Q (F0 m pc ls st0) := by
  intro T hT X
  rcases hr T hT X with ⟨v, st₀, t, T', L, h0, X', hL, e1, e2, ⟨⟨r, u, hv, hp, hb⟩, hF⟩, st⟩ | ⟨q, st₀, t, T', L, E, ce, h0, X', hL, e1, e2, ⟨u, hp, hb, hF⟩, hce, hcv, hcl, st⟩
  · cases hv
    obtain ⟨k1, k2, k3⟩ := vx_keep h0 e1 hS hA hf hL hF
    obtain ⟨t2, a1, b1⟩ := kk r u t T'.heap (locs ++ L) e1.symm (by rw [← e2]; exact X'.warmed.alike) hp hb k1 k2 k3 T' rfl X'
    exact ⟨t2, st t2 a1, b1⟩
  · obtain ⟨k1, k2, k3⟩ := vx_keep h0 e1 hS hAX hf hL hF
    obtain ⟨t2, a1, b1⟩ := kx E ce q u t T'.heap (locs ++ L) e1.symm (by rw [← e2]; exact X'.warmed.alike) hp hb k1 k2 k3 (by rw [e1]; exact hce) hcv hcl T' rfl X'
    exact ⟨t2, st.trans a1, b1⟩
theorem vx_callf {S SX : Type} {post : UInt32 → S → Prop} {px : SX → Prop} {B : S → State → Prop} {BX : String → SX → State → Prop} {AX : Nat → Prop} (hr : vx_Run p l e R s m args below meth c H locs cells slots mc ms (F0 m pc ls st0) rest (va_Qf post B A1 a) (vx_X px BX AX) free) (hS : va_S A0 H0 H locs) (hA : ∀ q, q < H.size → A1 q → A0 q) (hf : ∀ q, free q → A0 q) (hAX : ∀ q, q < H.size → AX q → A0 q)
    (kx : ∀ (E : String) (ce : Cell) (q9 : Addr) (u : SX) (t : State) (H1 : Heap) (locs1 : List Loc), t.heap = H1 → s.vm.Alike t.vm → px u → BX E u t → H.size ≤ H1.size → (∀ q : Nat, q < H.size → ¬ AX q → H1[q]? = H[q]?) → va_S A0 H0 H1 locs1 → H1[q9]? = some ce → ce.vm = .none → s.vm.findClass E = some ce.cls → vx_W p l e R s m args below meth c H1 locs1 (cells + mc) (slots + ms) Q (F0 m pc ls rest) q9)
    (kk : ∀ (r : UInt32) (u : S) (t : State) (H1 : Heap) (locs1 : List Loc), t.heap = H1 → s.vm.Alike t.vm → post r u → B u t → H.size ≤ H1.size → (∀ q : Nat, q < H.size → ¬ A1 q → H1[q]? = H[q]?) → va_S A0 H0 H1 locs1 → W p l e R s m args below meth c H1 locs1 (cells + mc) (slots + ms) Q (F0 m (pc + 3) ls (.float r :: rest))) : W p l e R s m args below meth c H locs cells slots Q (F0 m pc ls st0) := by
  intro T hT X
  rcases hr T hT X with ⟨v, st₀, t, T', L, h0, X', hL, e1, e2, ⟨⟨r, u, hv, hp, hb⟩, hF⟩, st⟩ | ⟨q, st₀, t, T', L, E, ce, h0, X', hL, e1, e2, ⟨u, hp, hb, hF⟩, hce, hcv, hcl, st⟩
  · cases hv
    obtain ⟨k1, k2, k3⟩ := vx_keep h0 e1 hS hA hf hL hF
    obtain ⟨t2, a1, b1⟩ := kk r u t T'.heap (locs ++ L) e1.symm (by rw [← e2]; exact X'.warmed.alike) hp hb k1 k2 k3 T' rfl X'
    exact ⟨t2, st t2 a1, b1⟩
  · obtain ⟨k1, k2, k3⟩ := vx_keep h0 e1 hS hAX hf hL hF
    obtain ⟨t2, a1, b1⟩ := kx E ce q u t T'.heap (locs ++ L) e1.symm (by rw [← e2]; exact X'.warmed.alike) hp hb k1 k2 k3 (by rw [e1]; exact hce) hcv hcl T' rfl X'
    exact ⟨t2, st.trans a1, b1⟩
theorem vx_calld {S SX : Type} {post : UInt64 → S → Prop} {px : SX → Prop} {B : S → State → Prop} {BX : String → SX → State → Prop} {AX : Nat → Prop} (hr : vx_Run p l e R s m args below meth c H locs cells slots mc ms (F0 m pc ls st0) rest (va_Qd post B A1 a) (vx_X px BX AX) free) (hS : va_S A0 H0 H locs) (hA : ∀ q, q < H.size → A1 q → A0 q) (hf : ∀ q, free q → A0 q) (hAX : ∀ q, q < H.size → AX q → A0 q)
    (kx : ∀ (E : String) (ce : Cell) (q9 : Addr) (u : SX) (t : State) (H1 : Heap) (locs1 : List Loc), t.heap = H1 → s.vm.Alike t.vm → px u → BX E u t → H.size ≤ H1.size → (∀ q : Nat, q < H.size → ¬ AX q → H1[q]? = H[q]?) → va_S A0 H0 H1 locs1 → H1[q9]? = some ce → ce.vm = .none → s.vm.findClass E = some ce.cls → vx_W p l e R s m args below meth c H1 locs1 (cells + mc) (slots + ms) Q (F0 m pc ls rest) q9)
    (kk : ∀ (r : UInt64) (u : S) (t : State) (H1 : Heap) (locs1 : List Loc), t.heap = H1 → s.vm.Alike t.vm → post r u → B u t → H.size ≤ H1.size → (∀ q : Nat, q < H.size → ¬ A1 q → H1[q]? = H[q]?) → va_S A0 H0 H1 locs1 → W p l e R s m args below meth c H1 locs1 (cells + mc) (slots + ms) Q (F0 m (pc + 3) ls (.double r :: rest))) : W p l e R s m args below meth c H locs cells slots Q (F0 m pc ls st0) := by
  intro T hT X
  rcases hr T hT X with ⟨v, st₀, t, T', L, h0, X', hL, e1, e2, ⟨⟨r, u, hv, hp, hb⟩, hF⟩, st⟩ | ⟨q, st₀, t, T', L, E, ce, h0, X', hL, e1, e2, ⟨u, hp, hb, hF⟩, hce, hcv, hcl, st⟩
  · cases hv
    obtain ⟨k1, k2, k3⟩ := vx_keep h0 e1 hS hA hf hL hF
    obtain ⟨t2, a1, b1⟩ := kk r u t T'.heap (locs ++ L) e1.symm (by rw [← e2]; exact X'.warmed.alike) hp hb k1 k2 k3 T' rfl X'
    exact ⟨t2, st t2 a1, b1⟩
  · obtain ⟨k1, k2, k3⟩ := vx_keep h0 e1 hS hAX hf hL hF
    obtain ⟨t2, a1, b1⟩ := kx E ce q u t T'.heap (locs ++ L) e1.symm (by rw [← e2]; exact X'.warmed.alike) hp hb k1 k2 k3 (by rw [e1]; exact hce) hcv hcl T' rfl X'
    exact ⟨t2, st.trans a1, b1⟩
theorem vx_callv {S SX : Type} {post : S → Prop} {px : SX → Prop} {B : S → State → Prop} {BX : String → SX → State → Prop} {AX : Nat → Prop} (hr : vx_Run p l e R s m args below meth c H locs cells slots mc ms (F0 m pc ls st0) rest (va_Qv post B A1 a) (vx_X px BX AX) free) (hS : va_S A0 H0 H locs) (hA : ∀ q, q < H.size → A1 q → A0 q) (hf : ∀ q, free q → A0 q) (hAX : ∀ q, q < H.size → AX q → A0 q)
    (kx : ∀ (E : String) (ce : Cell) (q9 : Addr) (u : SX) (t : State) (H1 : Heap) (locs1 : List Loc), t.heap = H1 → s.vm.Alike t.vm → px u → BX E u t → H.size ≤ H1.size → (∀ q : Nat, q < H.size → ¬ AX q → H1[q]? = H[q]?) → va_S A0 H0 H1 locs1 → H1[q9]? = some ce → ce.vm = .none → s.vm.findClass E = some ce.cls → vx_W p l e R s m args below meth c H1 locs1 (cells + mc) (slots + ms) Q (F0 m pc ls rest) q9)
    (kk : ∀ (u : S) (t : State) (H1 : Heap) (locs1 : List Loc), t.heap = H1 → s.vm.Alike t.vm → post u → B u t → H.size ≤ H1.size → (∀ q : Nat, q < H.size → ¬ A1 q → H1[q]? = H[q]?) → va_S A0 H0 H1 locs1 → W p l e R s m args below meth c H1 locs1 (cells + mc) (slots + ms) Q (F0 m (pc + 3) ls (rest))) : W p l e R s m args below meth c H locs cells slots Q (F0 m pc ls st0) := by
  intro T hT X
  rcases hr T hT X with ⟨v, st₀, t, T', L, h0, X', hL, e1, e2, ⟨⟨u, hv, hp, hb⟩, hF⟩, st⟩ | ⟨q, st₀, t, T', L, E, ce, h0, X', hL, e1, e2, ⟨u, hp, hb, hF⟩, hce, hcv, hcl, st⟩
  · cases hv
    obtain ⟨k1, k2, k3⟩ := vx_keep h0 e1 hS hA hf hL hF
    obtain ⟨t2, a1, b1⟩ := kk u t T'.heap (locs ++ L) e1.symm (by rw [← e2]; exact X'.warmed.alike) hp hb k1 k2 k3 T' rfl X'
    exact ⟨t2, st t2 a1, b1⟩
  · obtain ⟨k1, k2, k3⟩ := vx_keep h0 e1 hS hAX hf hL hF
    obtain ⟨t2, a1, b1⟩ := kx E ce q u t T'.heap (locs ++ L) e1.symm (by rw [← e2]; exact X'.warmed.alike) hp hb k1 k2 k3 (by rw [e1]; exact hce) hcv hcl T' rfl X'
    exact ⟨t2, st.trans a1, b1⟩
/-- caught by the row x of this method's table; the rows ahead don't take it -/
theorem vx_catch {own name : String} {E : String} {ce : Cell} {q : Addr} (hown : s.vm.findClass own = some m.cls) (pre : List ExceptionTableEntry) (x : ExceptionTableEntry) (suf : List ExceptionTableEntry) (hsplit : c.exceptionTable.toList = pre ++ x :: suf)
    (hpass : ∀ z ∈ pre, covers z pc = false ∨ (z.catchType ≠ 0 ∧ ∃ nm : String, (Cond.classLink own z.catchType nm).before args s = true ∧ va_Nc E nm s)) (hx : covers x pc = true) (h0 : x.catchType ≠ 0)
    (hlink : (Cond.classLink own x.catchType name).before args s = true) (hcast : (Cond.castable E name).before args s = true) (hcell : H[q]? = some ce) (hv : ce.vm = .none) (hcl : s.vm.findClass E = some ce.cls)
    (kk : W p l e R s m args below meth c H locs cells slots Q (F0 m x.handlerPc ls [.ref q])) : vx_W p l e R s m args below meth c H locs cells slots Q (F0 m pc ls rest) q := by
  intro T hT X
  have hpl : e.platform.magicAccessors = ({} : Platform).magicAccessors := by rw [X.admits.platform]
  obtain ⟨c3, c4, hc3, hc4, hasg⟩ := Cond.castable_spec hcast
  cases Option.some.inj (hc3.symm.trans hcl)
  obtain ⟨c5, hc5, hcl5⟩ := Cond.classLink_spec hown hlink e.platform hpl
  cases Option.some.inj (hc4.symm.trans hc5)
  obtain ⟨vm', X', st⟩ := X.thenCaughtThrough q (g := F0 m pc ls rest) rfl (Steps.refl _) (by rw [hT]; exact hcell) (by rw [hv]; rfl) (by obtain ⟨k9, h9, -⟩ := Vm.findClass_spec hcl; exact ⟨k9, h9⟩) pre x suf hsplit
    (fun z hz => by
      rcases hpass z hz with h | ⟨hz0, nm, hl1, hn1⟩
      · exact Or.inl h
      · obtain ⟨c6, hc6, hcl6⟩ := Cond.classLink_spec hown hl1 e.platform hpl
        obtain ⟨a8, b8, h1, h2, h3⟩ := hn1
        cases Option.some.inj (h1.symm.trans hcl)
        cases Option.some.inj (h2.symm.trans hc6)
        exact Or.inr ⟨hz0, _, hcl6, h3⟩) hx (Or.inr ⟨h0, c4, hcl5, hasg⟩)
  obtain ⟨t, a1, b1⟩ := kk (T.setVm vm') hT X'
  exact ⟨t, st.trans a1, b1⟩
end Rows
section Ends
variable {p : Program} {l : Launch} {e : Env} {R : Room} {s : State} {m : MethodId} {args : Array Value} {below : List Frame} {meth : Method} {c : Code} {H : Heap} {locs : List Loc} {cells slots : Nat} {Q : State → Prop}
variable {mc ms : Nat} {free : Addr → Prop} {A0 A1 : Nat → Prop} {H0 : Heap} {a : Array Value} {ls : Array Slot} {st0 rest : List Value}
variable {Qc : Array Value → State → Outcome → State → Prop} {XC : String → State → State → Prop}
/-- what a body that may throw owes at its end -/
def vx_MQ (below : List Frame) (Qc : Array Value → State → Outcome → State → Prop) (XC : String → State → State → Prop) (a : Array Value) (s : State) (mc ms : Nat) (free : Addr → Prop) : State → Prop := fun t =>
  ∃ o, t.status = .running ∧ Ended t below o ∧ vx_Q Qc XC mc ms free a s o t
theorem vx_ret {g : JFrame} {mc ms : Nat} (k : W p l e R s m args below meth c H locs cells slots (MQ below Qc args s mc ms free) g) : W p l e R s m args below meth c H locs cells slots (vx_MQ below Qc XC args s mc ms free) g := by
  intro T hT X
  obtain ⟨t, a1, o, b1, b2, b3, b4⟩ := k T hT X
  exact ⟨t, a1, o, b1, b2, Or.inl ⟨b3, b4⟩⟩
/-- not caught here: it goes on to the caller -/
theorem vx_widen {g : JFrame} {q : Addr} {k n : Nat} (h1 : cells ≤ k) (h2 : slots ≤ n) (kk : vx_W p l e R s m args below meth c H locs k n Q g q) : vx_W p l e R s m args below meth c H locs cells slots Q g q := fun T hT X => kk T hT (stand_widen X h1 h2)
theorem vx_out {pc : Nat} {E : String} {ce : Cell} {q : Addr} {mc ms : Nat} (hout : ∀ x ∈ c.exceptionTable.toList, covers x pc = false) (hlocks : meth.locks = false) (hcell : H[q]? = some ce) (hv : ce.vm = .none) (hcl : s.vm.findClass E = some ce.cls)
    (hx : ∀ t : State, t.heap = H → s.vm.Alike t.vm → XC E s t) (hf : ∀ z ∈ locs, free z.base) (hc : cells ≤ mc) (hs : slots ≤ ms) :
    vx_W p l e R s m args below meth c H locs cells slots (vx_MQ below Qc XC args s mc ms free) (F0 m pc ls rest) q := by
  intro T hT X
  obtain ⟨st1, hrun, hend, hW, hsm⟩ := X.leaveThrown q (g := F0 m pc ls rest) rfl rfl rfl hout hlocks
  have hcell9 : (T.setFrames (.throwing q :: below)).heap[q]? = some ce := by
    show T.heap[q]? = some ce
    rw [hT]; exact hcell
  exact ⟨_, st1, .threw q, hrun, hend, Or.inr ⟨q, rfl, E, ce, locs, hx _ hT hW.alike, hcell9, hv, hcl, hW, hsm.mono hc hs, hf⟩⟩
theorem vx_frame {U : State} {k n : Nat} (h : s.sameButNew ({ U with vm := s.vm } : State) locs k n) : s.heap.size ≤ U.heap.size ∧ ∀ q : Nat, q < s.heap.size → (∀ z ∈ locs, z.base ≠ q) → U.heap[q]? = s.heap[q]? := by
  obtain ⟨-, h2, -, -, -, h6⟩ := h
  refine ⟨h2, fun q hq hz => ?_⟩
  obtain ⟨c9, e1, e2, e3, e4⟩ := h6 q _ (Array.getElem?_eq_getElem hq)
  have hs : c9.slots = (s.heap[q]).slots := Array.ext_getElem? fun i => e4 i fun hm => hz _ hm rfl
  have h9 : c9 = s.heap[q] := by
    rw [hs] at e2
    exact e2
  have e5 : U.heap[q]? = some c9 := e1
  rw [e5, h9, Array.getElem?_eq_getElem hq]
/-- the words of a throw but the four that speak of the heap -/
def vx_no (w : Cond) : Bool := decide (w ≠ .isRef (.static Bundle.tN "UNASSIGNED_STACK" Bundle.steD)) && decide (w ≠ .isRef (.static Bundle.tN "SUPPRESSED_SENTINEL" Bundle.listD)) && decide (w ≠ .laysStatic Bundle.tN "UNASSIGNED_STACK" Bundle.steD) && decide (w ≠ .laysStatic Bundle.tN "SUPPRESSED_SENTINEL" Bundle.listD)
def vx_at0 (own : String) (ic : Nat) (X : String) (names : List String) : List Cond := (Bundle.ownAtoms0 own ic X names).filter vx_no
def vx_atS (own : String) (ic : Nat) (X : String) (names : List String) : List Cond := (Bundle.ownAtoms own ic X names).filter vx_no
/-- a word that the tables alone decide, or a good one -/
def vx_ot (w : Cond) : Bool := w.onTables || goodWord w
theorem vx_ot_at {args a' : Array Value} {s U : State} {w : Cond} (hW : s.WarmedH U.vm) (hvm : s.vm = U.vm) (hg : vx_ot w = true) (h : w.before args s = true) : w.before a' U = true := by
  simp only [vx_ot, Bool.or_eq_true] at hg
  rcases hg with hg | hg
  · exact va_tabs hg hvm h
  · exact word_at hW (good_of_word hg) h
/-- a list's words: the good ones out of the method's own list, the others by premises of their own -/
theorem vx_hat {args : Array Value} {s : State} {L B : List Cond} (h1 : ∀ w ∈ L.filter goodWord, w.before args s = true) (h2 : ∀ w ∈ L.filter (fun w => !goodWord w), w ∈ B) (h3 : ∀ w ∈ B, w.before args s = true) : ∀ w ∈ L, w.before args s = true := by
  intro w hw
  by_cases g : goodWord w = true
  · exact h1 w (List.mem_filter.mpr ⟨hw, g⟩)
  · refine h3 w (h2 w (List.mem_filter.mpr ⟨hw, ?_⟩))
    show (!goodWord w) = true
    cases hgw : goodWord w
    · rfl
    · exact absurd hgw g
theorem vx_c {args : Array Value} {s : State} {w : Cond} {B : List Cond} (h : w.before args s = true) (t : ∀ w ∈ B, w.before args s = true) : ∀ w' ∈ w :: B, w'.before args s = true := fun w' h' => (List.mem_cons.mp h').elim (fun e => by rw [e]; exact h) (t w')
theorem vx_n {args : Array Value} {s : State} : ∀ w ∈ ([] : List Cond), w.before args s = true := fun _ h => nomatch h
theorem vx_own {args : Array Value} {s : State} {L : List Cond} (h1 : ∀ w ∈ L.filter vx_no, w.before args s = true)
    (hU : (Cond.isRef (.static Bundle.tN "UNASSIGNED_STACK" Bundle.steD)).before args s = true) (hN : (Cond.isRef (.static Bundle.tN "SUPPRESSED_SENTINEL" Bundle.listD)).before args s = true)
    (lU : (Cond.laysStatic Bundle.tN "UNASSIGNED_STACK" Bundle.steD).before args s = true) (lN : (Cond.laysStatic Bundle.tN "SUPPRESSED_SENTINEL" Bundle.listD).before args s = true) : ∀ w ∈ L, w.before args s = true := by
  intro w hw
  by_cases e1 : w = .isRef (.static Bundle.tN "UNASSIGNED_STACK" Bundle.steD)
  · rw [e1]; exact hU
  · by_cases e2 : w = .isRef (.static Bundle.tN "SUPPRESSED_SENTINEL" Bundle.listD)
    · rw [e2]; exact hN
    · by_cases e3 : w = .laysStatic Bundle.tN "UNASSIGNED_STACK" Bundle.steD
      · rw [e3]; exact lU
      · by_cases e4 : w = .laysStatic Bundle.tN "SUPPRESSED_SENTINEL" Bundle.listD
        · rw [e4]; exact lN
        · exact h1 w (List.mem_filter.mpr ⟨hw, by unfold vx_no; rw [decide_eq_true e1, decide_eq_true e2, decide_eq_true e3, decide_eq_true e4]; rfl⟩)
/-- where a static field lies, its class's statics cell in H -/
def vx_L (C n d : String) (A : Nat → Prop) (U : State) (H : Heap) : Prop := ∃ (c : ClassId) (k : Class) (i : Nat) (f : Field) (a : Nat) (cell : Cell), U.vm.findClass C = some c ∧ U.fieldFound? C n d = some (c, k, i, f) ∧ f.isStatic = true ∧ k.statics = some a ∧ H[a]? = some cell ∧ cell.vm.isStatics = true ∧ cell.cls = c ∧ f.slot < cell.slots.size ∧ k.staticTypes[f.slot]? = some f.type ∧ ¬ A a
theorem vx_L.moved {C n d : String} {A : Nat → Prop} {u U : State} {H : Heap} (hvm : u.vm.Alike U.vm) (h : vx_L C n d A u H) : vx_L C n d A U H := by
  obtain ⟨c, k, i, f, a, cell, h1, h2, h3, h4, h5, h6, h7, h8, h9, h10⟩ := h
  obtain ⟨k', hi', he⟩ := State.fieldFound?_setVm hvm h2
  exact ⟨c, k', i, f, a, cell, by rw [hvm.findClass]; exact h1, hi', h3, by rw [he]; exact h4, h5, h6, h7, h8, by rw [he]; exact h9, h10⟩
theorem vx_L.kept {C n d : String} {A : Nat → Prop} {U : State} {H H1 : Heap} (h : vx_L C n d A U H) (hq : ∀ a : Nat, a < H.size → ¬ A a → H1[a]? = H[a]?) : vx_L C n d A U H1 := by
  obtain ⟨c, k, i, f, a, cell, h1, h2, h3, h4, h5, h6, h7, h8, h9, h10⟩ := h
  exact ⟨c, k, i, f, a, cell, h1, h2, h3, h4, by rw [hq a (Array.getElem?_eq_some_iff.mp h5).1 h10]; exact h5, h6, h7, h8, h9, h10⟩
theorem vx_L.narrow {C n d : String} {A B : Nat → Prop} {U : State} {H : Heap} (h : vx_L C n d A U H) (hAB : ∀ q, B q → A q) : vx_L C n d B U H := by
  obtain ⟨c, k, i, f, a, cell, h1, h2, h3, h4, h5, h6, h7, h8, h9, h10⟩ := h
  exact ⟨c, k, i, f, a, cell, h1, h2, h3, h4, h5, h6, h7, h8, h9, fun z => h10 (hAB _ z)⟩
theorem vx_L.word {C n d : String} {A : Nat → Prop} {s : State} {args : Array Value} (h : vx_L C n d A s s.heap) : (Cond.laysStatic C n d).before args s = true := by
  obtain ⟨c, k, i, f, a, cell, h1, h2, h3, h4, h5, h6, h7, h8, h9, -⟩ := h
  show (Cond.laysStatic C n d).holds args s none s [] = true
  exact Cond.laysStatic_of h1 h2 h3 h4 h5 h6 h7 h8 h9
/-- .. and what it holds: null or some reference -/
def vx_Zq (C n d : String) (A : Nat → Prop) (U : State) (H : Heap) : Prop := va_Zq C n d A U H ∧ vx_L C n d A U H
theorem vx_Zq.moved {C n d : String} {A : Nat → Prop} {u U : State} {H : Heap} (hvm : u.vm.Alike U.vm) (h : vx_Zq C n d A u H) : vx_Zq C n d A U H := ⟨va_Zq.moved hvm h.1, vx_L.moved hvm h.2⟩
theorem vx_Zq.kept {C n d : String} {A : Nat → Prop} {U : State} {H H1 : Heap} (h : vx_Zq C n d A U H) (hq : ∀ a : Nat, a < H.size → ¬ A a → H1[a]? = H[a]?) : vx_Zq C n d A U H1 := ⟨va_Zq.kept h.1 hq, vx_L.kept h.2 hq⟩
theorem vx_Zq.narrow {C n d : String} {A B : Nat → Prop} {U : State} {H : Heap} (h : vx_Zq C n d A U H) (hAB : ∀ q, B q → A q) : vx_Zq C n d B U H := ⟨va_Zq.narrow h.1 hAB, vx_L.narrow h.2 hAB⟩
theorem vx_Zqof {args : Array Value} {s : State} {C n d : String} {A : Nat → Prop} (hl : (Cond.laysStatic C n d).before args s = true) (hini : (Cond.initialized C).before args s = true) (h : (Cond.isRef (.static C n d)).before args s = true) (hA : ∀ a : Nat, a < s.heap.size → ¬ A a) : vx_Zq C n d A s s.heap := by
  refine ⟨va_Zqof hl hini h hA, ?_⟩
  obtain ⟨c, k, i, f, a, cell, h1, h2, h3, h4, h5, h6, h7, h8, h9⟩ := Cond.laysStatic_spec hl
  exact ⟨c, k, i, f, a, cell, h1, h2, h3, h4, h5, h6, h7, h8, h9, hA a (Array.getElem?_eq_some_iff.mp h5).1⟩
theorem vx_isRef {C n d : String} {v : Value} {A : Nat → Prop} {s : State} {args : Array Value} (h : va_Z C n d v A s s.heap) (hv : v.isRef = true) : (Cond.isRef (.static C n d)).before args s = true := by
  obtain ⟨cf, kf, fi, f, a, cell, h1, h2, h3, h4, h5, h6, h7, -⟩ := h
  have he : (Term.static C n d).eval args s none [] s = some v := by
    simp [Term.eval, State.fieldNamed?, h1, h2, h4, h5, h6, h7]
  simp only [Cond.before, Cond.holds, Cond.value, he]
  cases v <;> simp_all [Value.isRef]
theorem vx_isRefq {C n d : String} {A : Nat → Prop} {s : State} {args : Array Value} (h : va_Zq C n d A s s.heap) : (Cond.isRef (.static C n d)).before args s = true := by
  rcases h with h | ⟨t, h⟩
  · exact vx_isRef h rfl
  · exact vx_isRef h rfl
/-- the same frame, seen from here: as if the method were called anew in this heap -/
theorem vx_rebase {T : State} (X : Stand p l e R s m args below meth c T locs cells slots) {R' : Room} (hf : R'.frames ≤ R.frames) (hl : R'.locals ≤ R.locals) (hc : cells + R'.cells ≤ R.cells) (hs : slots + R'.slots ≤ R.slots) :
    Stand p l e R' ((T.setVm s.vm).setFrames (.invoking m args :: below)) m args below meth c T [] 0 0 := by
  have htop : (T.setVm s.vm).topJava?.isSome := X.here.top
  have hF : ((T.setVm s.vm).setFrames (.invoking m args :: below)).frames = .invoking m args :: below := State.frames_setFrames _ (State.cur_lt_of_top htop)
  obtain ⟨g₀, hg0⟩ := Option.isSome_iff_exists.mp htop
  obtain ⟨r, hr⟩ := State.topJava?_eq_some.mp hg0
  have hl9 : e.platform.stackLimits (T.setVm s.vm).me = e.platform.stackLimits s.me := X.limits
  have hb9 : (T.setVm s.vm).me.stackBytes = s.me.stackBytes := X.bytes
  refine ⟨X.admits, X.cas, X.clock, hF, ?_, X.hears, X.method, X.code, X.here, X.tail, X.warmed, ?_, ?_, ?_⟩
  · have h := X.room
    have hU : ((T.setVm s.vm).setFrames (.invoking m args :: below)).localsInUse = s.localsInUse := by
      rw [State.localsInUse_invoking hF (meth := meth) (c := c) X.method X.code, State.localsInUse_invoking X.frames X.method X.code]
    simp only [State.hasRoom, Bool.and_eq_true, decide_eq_true_eq] at h ⊢
    obtain ⟨⟨⟨⟨h1, h2, h3, h4, h5, h6⟩, h7⟩, h8⟩, h9⟩ := h
    rw [X.frames, List.length_cons] at h2 h3
    have q1 := X.heapSize
    have q2 := X.used
    simp only [hF, hU, List.length_cons, State.stackLimits_setFrames, State.stackBytes_setFrames, hl9, hb9]
    refine ⟨⟨⟨⟨by omega, by omega, by omega, by omega, by omega, h6⟩, ?_⟩, ?_⟩, X.book⟩
    · show T.heap.size + R'.cells ≤ e.platform.maxCells
      omega
    · show T.slotsUsed + R'.slots ≤ e.platform.maxSlots
      omega
  · rw [State.stackLimits_setFrames]; rfl
  · rw [State.stackBytes_setFrames]; rfl
  · refine ⟨?_, Nat.le_refl _, Nat.le_refl _, ?_, ?_, fun a c9 h9 => ⟨c9, h9, rfl, rfl, fun _ _ => rfl⟩⟩
    · obtain ⟨t, ht, -⟩ := State.frames_cons hr
      show T.setVm s.vm = { ((T.setVm s.vm).setFrames (.invoking m args :: below)).setFrames (T.setVm s.vm).frames with heap := T.heap, slotsUsed := T.slotsUsed }
      rw [State.setFrames_setFrames, State.setFrames_self ht]
      rfl
    · show T.slotsUsed = T.slotsUsed + ((T.heap.toList.drop T.heap.size).map (·.slots.size)).sum
      rw [List.drop_eq_nil_of_le (Nat.le_of_eq Array.length_toList)]
      rfl
    · show ((T.heap.toList.drop T.heap.size).map (·.slots.size)).sum ≤ 0
      rw [List.drop_eq_nil_of_le (Nat.le_of_eq Array.length_toList)]
      exact Nat.le_refl _
/-- 'throw new E()': new; dup; invokespecial; athrow -/
theorem vx_throw0 {cc : ByteArray} {pc : Nat} (hexec : p.tables.exec = Jvm.exec) (hb : c.code = cc) (hl : l.stackTraces = false) {own cls : String} {names : List String} {ik ic mc ms : Nat} {A : Nat → Prop}
    (hown : s.vm.findClass own = some m.cls) (hcls : Bundle.fit cls = true) (hnames : ∀ n ∈ names, Bundle.fit n = true)
    (hk : (Cond.classLink own ik cls).before args s = true) (hini : (Cond.initialized cls).before args s = true) (hat : ∀ w ∈ vx_at0 own ic cls names, w.before args s = true)
    (hgood : ∀ w ∈ Cond.classLink own ik cls :: Cond.initialized cls :: vx_at0 own ic cls names, vx_ot w = true)
    (hU : vx_Zq Bundle.tN "UNASSIGNED_STACK" Bundle.steD A s s.heap) (hN : vx_Zq Bundle.tN "SUPPRESSED_SENTINEL" Bundle.listD A s s.heap) (hS : va_S A s.heap H locs) (hsize : ls.size = c.maxLocals)
    (d0 : decode cc pc = .ok (.new ik, 3)) (d3 : decode cc (pc + 3) = .ok (.dup, 1)) (d4 : decode cc (pc + 4) = .ok (.invokespecial ic, 3)) (d7 : decode cc (pc + 7) = .ok (.athrow, 1))
    (hout : ∀ x ∈ c.exceptionTable.toList, covers x (pc + 7) = false)
    (hRframes : names.length + 3 < R.frames) (hRlocals : (rest.map fun v => v.category).sum + (13 * (names.length + 1) + 42) ≤ R.locals) (hRcells : cells + 1 ≤ R.cells) (hRslots : slots + 6 ≤ R.slots) (hlocks : meth.locks = false)
    (hx : ∀ t : State, s.vm.Alike t.vm → H.size ≤ t.heap.size → (∀ q : Nat, q < H.size → t.heap[q]? = H[q]?) → XC cls s t)
    (hf : ∀ z ∈ locs, free z.base) (hc : cells + 1 ≤ mc) (hs : slots + 6 ≤ ms) :
    W p l e R s m args below meth c H locs cells slots (vx_MQ below Qc XC args s mc ms free) (F0 m pc ls rest) := by
  intro T hT X
  have htr : e.platform.stackTraces = false := (show e.platform.stackTraces = l.stackTraces by rw [X.admits.platform]).trans hl
  have Y := vx_rebase X (R' := { frames := R.frames, locals := R.locals, cells := 1, slots := 6 }) (Nat.le_refl _) (Nat.le_refl _) hRcells hRslots
  obtain ⟨s', hA⟩ : ∃ z, z = (T.setVm s.vm).setFrames (.invoking m args :: below) := ⟨_, rfl⟩
  rw [← hA] at Y
  have hvm : s'.vm = s.vm := by rw [hA]; rfl
  have hhp : s'.heap = H := by rw [hA]; exact hT
  have hW0 : s.WarmedH s'.vm := by rw [hvm]; exact State.WarmedH.refl s
  have hat' : ∀ w ∈ vx_at0 own ic cls names, w.before args s' = true := fun w hw => vx_ot_at hW0 hvm.symm (hgood w (List.mem_cons_of_mem _ (List.mem_cons_of_mem _ hw))) (hat w hw)
  have hk' : (Cond.classLink own ik cls).before args s' = true := vx_ot_at hW0 hvm.symm (hgood _ List.mem_cons_self) hk
  have hini' : (Cond.initialized cls).before args s' = true := vx_ot_at hW0 hvm.symm (hgood _ (List.mem_cons_of_mem _ List.mem_cons_self)) hini
  have hU' : vx_Zq Bundle.tN "UNASSIGNED_STACK" Bundle.steD A s' s'.heap := by rw [hhp]; exact vx_Zq.moved hW0.alike (hU.kept hS.2.1)
  have hN' : vx_Zq Bundle.tN "SUPPRESSED_SENTINEL" Bundle.listD A s' s'.heap := by rw [hhp]; exact vx_Zq.moved hW0.alike (hN.kept hS.2.1)
  have h : ∀ w ∈ Bundle.ownAtoms0 own ic cls names, w.before args s' = true := vx_own hat' (vx_isRefq hU'.1) (vx_isRefq hN'.1) hU'.2.word hN'.2.word
  have hown' : s'.vm.findClass own = some m.cls := by rw [hvm]; exact hown
  have hins : (Cond.instantiable cls 6).before args s' = true := h _ (by simp [Bundle.ownAtoms0])
  obtain ⟨vm₁, cX, kX, hfX, hkX, -, -, X₁, st1⟩ := Y.newCold hexec (own := own) (C := cls) (index := ik) (n := 6) hown' hk' hins hini'
    (g := F0 m pc ls rest) rfl (by rw [hb]; exact d0) (Nat.le_refl _) (Nat.le_refl _)
  generalize hT1 : (T.setVm vm₁).pushCell { cls := cX, slots := kX.instanceTypes.map defaultValue, vm := .none } = T1 at X₁ st1
  have hcat : (Value.ref T.heap.size).category = 1 := rfl
  have hcellA : T1.heap[T.heap.size]? = some (freshCell cX kX) := by rw [← hT1]; exact State.heap_pushCell_size _ _
  have d3' : decode c.code (pc + 3) = .ok (.dup, 1) := by rw [hb]; exact d3
  obtain ⟨U, hsteps, hrun, hend, hW, hsame, ce, hce, hO⟩ := X₁.ctorThrow0 hexec htr (own := own) (cls := cls) (names := names) (ic := ic) hown' hcls hnames h (fun x hx => nomatch hx) hfX hkX hcellA (by rw [hhp, hT]; exact Nat.le_refl _)
    (g := { method := m, pc := pc + 4, locals := ls, stack := .ref T.heap.size :: .ref T.heap.size :: rest, locked := none }) rfl hsize rfl rfl (rest := rest) rfl
    (by rw [hb]; exact d4) (by rw [hb]; exact d7) hout hRframes (by simp only [List.map_cons, List.sum_cons, hcat]; omega) hlocks
  obtain ⟨f1, f2⟩ := vx_frame hsame
  rw [hhp] at f1 f2
  have hWs : s.WarmedH U.vm := State.WarmedH.trans hW0 hW
  have hcl : s.vm.findClass cls = some ce.cls := by
    have h9 := hO.cls
    rw [hvm] at h9
    exact h9
  have hall : s.sameButNew ({ U with vm := s.vm } : State) locs mc ms := by
    subst hA
    obtain ⟨e1, e2⟩ := hsame
    rw [State.setFrames_setFrames] at e1
    have h2 : (T.setVm s.vm).sameButNew ({ U with vm := s.vm } : State) [] (0 + 1) (0 + 6) := ⟨e1, e2⟩
    have h3 := X.same.trans h2
    rw [List.append_nil] at h3
    exact h3.mono hc hs
  refine ⟨U, ?_, .threw T.heap.size, hrun, hend, Or.inr ⟨T.heap.size, rfl, cls, ce, locs, hx U hWs.alike f1 (fun q hq => f2 q hq (fun z hz => nomatch hz)), hce, hO.vm, hcl, hWs, hall, hf⟩⟩
  refine st1 _ ?_
  show Steps p.tables e below (T1.setTop { method := m, pc := pc + 3, locals := ls, stack := .ref T.heap.size :: rest, locked := none }) _
  jvm_step X₁.here [X₁.here.top, hexec, d3', Value.category]
  exact hsteps
/-- 'throw new E("text")': new; dup; ldc; invokespecial; athrow -/
theorem vx_throwS {cc : ByteArray} {pc : Nat} (hexec : p.tables.exec = Jvm.exec) (hb : c.code = cc) (hl : l.stackTraces = false) {own cls text : String} {names : List String} {ik is ic mc ms sa : Nat} {A : Nat → Prop}
    (hown : s.vm.findClass own = some m.cls) (hcls : Bundle.fit cls = true) (hnames : ∀ n ∈ names, Bundle.fit n = true)
    (hk : (Cond.classLink own ik cls).before args s = true) (hini : (Cond.initialized cls).before args s = true) (hstr : vk_R own is text sa s) (hat : ∀ w ∈ vx_atS own ic cls names, w.before args s = true)
    (hgood : ∀ w ∈ Cond.classLink own ik cls :: Cond.initialized cls :: vx_atS own ic cls names, vx_ot w = true)
    (hU : vx_Zq Bundle.tN "UNASSIGNED_STACK" Bundle.steD A s s.heap) (hN : vx_Zq Bundle.tN "SUPPRESSED_SENTINEL" Bundle.listD A s s.heap) (hS : va_S A s.heap H locs) (hsize : ls.size = c.maxLocals)
    (d0 : decode cc pc = .ok (.new ik, 3)) (d3 : decode cc (pc + 3) = .ok (.dup, 1)) (d4 : decode cc (pc + 4) = .ok (.ldc is, 2)) (d6 : decode cc (pc + 6) = .ok (.invokespecial ic, 3)) (d9 : decode cc (pc + 9) = .ok (.athrow, 1))
    (hout : ∀ x ∈ c.exceptionTable.toList, covers x (pc + 9) = false)
    (hRframes : names.length + 3 < R.frames) (hRlocals : (rest.map fun v => v.category).sum + (13 * (names.length + 1) + 43) ≤ R.locals) (hRcells : cells + 1 ≤ R.cells) (hRslots : slots + 6 ≤ R.slots) (hlocks : meth.locks = false)
    (hx : ∀ t : State, s.vm.Alike t.vm → H.size ≤ t.heap.size → (∀ q : Nat, q < H.size → t.heap[q]? = H[q]?) → XC cls s t)
    (hf : ∀ z ∈ locs, free z.base) (hc : cells + 1 ≤ mc) (hs : slots + 6 ≤ ms) :
    W p l e R s m args below meth c H locs cells slots (vx_MQ below Qc XC args s mc ms free) (F0 m pc ls rest) := by
  intro T hT X
  have htr : e.platform.stackTraces = false := (show e.platform.stackTraces = l.stackTraces by rw [X.admits.platform]).trans hl
  have Y := vx_rebase X (R' := { frames := R.frames, locals := R.locals, cells := 1, slots := 6 }) (Nat.le_refl _) (Nat.le_refl _) hRcells hRslots
  obtain ⟨s', hA⟩ : ∃ z, z = (T.setVm s.vm).setFrames (.invoking m args :: below) := ⟨_, rfl⟩
  rw [← hA] at Y
  have hvm : s'.vm = s.vm := by rw [hA]; rfl
  have hhp : s'.heap = H := by rw [hA]; exact hT
  have hW0 : s.WarmedH s'.vm := by rw [hvm]; exact State.WarmedH.refl s
  have hat' : ∀ w ∈ vx_atS own ic cls names, w.before args s' = true := fun w hw => vx_ot_at hW0 hvm.symm (hgood w (List.mem_cons_of_mem _ (List.mem_cons_of_mem _ hw))) (hat w hw)
  have hk' : (Cond.classLink own ik cls).before args s' = true := vx_ot_at hW0 hvm.symm (hgood _ List.mem_cons_self) hk
  have hini' : (Cond.initialized cls).before args s' = true := vx_ot_at hW0 hvm.symm (hgood _ (List.mem_cons_of_mem _ List.mem_cons_self)) hini
  have hU' : vx_Zq Bundle.tN "UNASSIGNED_STACK" Bundle.steD A s' s'.heap := by rw [hhp]; exact vx_Zq.moved hW0.alike (hU.kept hS.2.1)
  have hN' : vx_Zq Bundle.tN "SUPPRESSED_SENTINEL" Bundle.listD A s' s'.heap := by rw [hhp]; exact vx_Zq.moved hW0.alike (hN.kept hS.2.1)
  have h : ∀ w ∈ Bundle.ownAtoms own ic cls names, w.before args s' = true := vx_own hat' (vx_isRefq hU'.1) (vx_isRefq hN'.1) hU'.2.word hN'.2.word
  have hown' : s'.vm.findClass own = some m.cls := by rw [hvm]; exact hown
  have hins : (Cond.instantiable cls 6).before args s' = true := h _ (by simp [Bundle.ownAtoms])
  obtain ⟨vm₁, cX, kX, hfX, hkX, -, -, X₁, st1⟩ := Y.newCold hexec (own := own) (C := cls) (index := ik) (n := 6) hown' hk' hins hini'
    (g := F0 m pc ls rest) rfl (by rw [hb]; exact d0) (Nat.le_refl _) (Nat.le_refl _)
  generalize hT1 : (T.setVm vm₁).pushCell { cls := cX, slots := kX.instanceTypes.map defaultValue, vm := .none } = T1 at X₁ st1
  have hcat : (Value.ref T.heap.size).category = 1 := rfl
  have hcellA : T1.heap[T.heap.size]? = some (freshCell cX kX) := by rw [← hT1]; exact State.heap_pushCell_size _ _
  have d3' : decode c.code (pc + 3) = .ok (.dup, 1) := by rw [hb]; exact d3
  have d4' : decode c.code (pc + 4) = .ok (.ldc is, 2) := by rw [hb]; exact d4
  have hstr' : vk_R own is text sa s' := vk_R.warm hW0 hstr
  obtain ⟨U, hsteps, hrun, hend, hW, hsame, ce, hce, hO⟩ := X₁.ctorThrowS hexec htr (own := own) (cls := cls) (names := names) (ic := ic) hown' hcls hnames h (fun x hx => nomatch hx) hfX hkX hcellA (by rw [hhp, hT]; exact Nat.le_refl _) (msg := .ref sa) rfl
    (g := { method := m, pc := pc + 6, locals := ls, stack := .ref sa :: .ref T.heap.size :: .ref T.heap.size :: rest, locked := none }) rfl hsize rfl rfl (rest := rest) rfl
    (by rw [hb]; exact d6) (by rw [hb]; exact d9) hout hRframes (by simp only [List.map_cons, List.sum_cons, hcat]; omega) hlocks
  obtain ⟨f1, f2⟩ := vx_frame hsame
  rw [hhp] at f1 f2
  have hWs : s.WarmedH U.vm := State.WarmedH.trans hW0 hW
  have hcl : s.vm.findClass cls = some ce.cls := by
    have h9 := hO.cls
    rw [hvm] at h9
    exact h9
  have hall : s.sameButNew ({ U with vm := s.vm } : State) locs mc ms := by
    subst hA
    obtain ⟨e1, e2⟩ := hsame
    rw [State.setFrames_setFrames] at e1
    have h2 : (T.setVm s.vm).sameButNew ({ U with vm := s.vm } : State) [] (0 + 1) (0 + 6) := ⟨e1, e2⟩
    have h3 := X.same.trans h2
    rw [List.append_nil] at h3
    exact h3.mono hc hs
  refine ⟨U, ?_, .threw T.heap.size, hrun, hend, Or.inr ⟨T.heap.size, rfl, cls, ce, locs, hx U hWs.alike f1 (fun q hq => f2 q hq (fun z hz => nomatch hz)), hce, hO.vm, hcl, hWs, hall, hf⟩⟩
  refine st1 _ ?_
  show Steps p.tables e below (T1.setTop { method := m, pc := pc + 3, locals := ls, stack := .ref T.heap.size :: rest, locked := none }) _
  jvm_step X₁.here [X₁.here.top, hexec, d3', Value.category]
  exact X₁.ldcString hexec (own := own) (text := text) (index := is) (a := sa) hown' hstr'.1 hstr'.2
    (g := { method := m, pc := pc + 4, locals := ls, stack := .ref T.heap.size :: .ref T.heap.size :: rest, locked := none }) rfl d4' _ hsteps
/-- 'throw new E("text")', the text by a wide index -/
theorem vx_throwSW {cc : ByteArray} {pc : Nat} (hexec : p.tables.exec = Jvm.exec) (hb : c.code = cc) (hl : l.stackTraces = false) {own cls text : String} {names : List String} {ik is ic mc ms sa : Nat} {A : Nat → Prop}
    (hown : s.vm.findClass own = some m.cls) (hcls : Bundle.fit cls = true) (hnames : ∀ n ∈ names, Bundle.fit n = true)
    (hk : (Cond.classLink own ik cls).before args s = true) (hini : (Cond.initialized cls).before args s = true) (hstr : vk_R own is text sa s) (hat : ∀ w ∈ vx_atS own ic cls names, w.before args s = true)
    (hgood : ∀ w ∈ Cond.classLink own ik cls :: Cond.initialized cls :: vx_atS own ic cls names, vx_ot w = true)
    (hU : vx_Zq Bundle.tN "UNASSIGNED_STACK" Bundle.steD A s s.heap) (hN : vx_Zq Bundle.tN "SUPPRESSED_SENTINEL" Bundle.listD A s s.heap) (hS : va_S A s.heap H locs) (hsize : ls.size = c.maxLocals)
    (d0 : decode cc pc = .ok (.new ik, 3)) (d3 : decode cc (pc + 3) = .ok (.dup, 1)) (d4 : decode cc (pc + 4) = .ok (.ldc_w is, 3)) (d7 : decode cc (pc + 7) = .ok (.invokespecial ic, 3)) (d10 : decode cc (pc + 10) = .ok (.athrow, 1))
    (hout : ∀ x ∈ c.exceptionTable.toList, covers x (pc + 10) = false)
    (hRframes : names.length + 3 < R.frames) (hRlocals : (rest.map fun v => v.category).sum + (13 * (names.length + 1) + 43) ≤ R.locals) (hRcells : cells + 1 ≤ R.cells) (hRslots : slots + 6 ≤ R.slots) (hlocks : meth.locks = false)
    (hx : ∀ t : State, s.vm.Alike t.vm → H.size ≤ t.heap.size → (∀ q : Nat, q < H.size → t.heap[q]? = H[q]?) → XC cls s t)
    (hf : ∀ z ∈ locs, free z.base) (hc : cells + 1 ≤ mc) (hs : slots + 6 ≤ ms) :
    W p l e R s m args below meth c H locs cells slots (vx_MQ below Qc XC args s mc ms free) (F0 m pc ls rest) := by
  intro T hT X
  have htr : e.platform.stackTraces = false := (show e.platform.stackTraces = l.stackTraces by rw [X.admits.platform]).trans hl
  have Y := vx_rebase X (R' := { frames := R.frames, locals := R.locals, cells := 1, slots := 6 }) (Nat.le_refl _) (Nat.le_refl _) hRcells hRslots
  obtain ⟨s', hA⟩ : ∃ z, z = (T.setVm s.vm).setFrames (.invoking m args :: below) := ⟨_, rfl⟩
  rw [← hA] at Y
  have hvm : s'.vm = s.vm := by rw [hA]; rfl
  have hhp : s'.heap = H := by rw [hA]; exact hT
  have hW0 : s.WarmedH s'.vm := by rw [hvm]; exact State.WarmedH.refl s
  have hat' : ∀ w ∈ vx_atS own ic cls names, w.before args s' = true := fun w hw => vx_ot_at hW0 hvm.symm (hgood w (List.mem_cons_of_mem _ (List.mem_cons_of_mem _ hw))) (hat w hw)
  have hk' : (Cond.classLink own ik cls).before args s' = true := vx_ot_at hW0 hvm.symm (hgood _ List.mem_cons_self) hk
  have hini' : (Cond.initialized cls).before args s' = true := vx_ot_at hW0 hvm.symm (hgood _ (List.mem_cons_of_mem _ List.mem_cons_self)) hini
  have hU' : vx_Zq Bundle.tN "UNASSIGNED_STACK" Bundle.steD A s' s'.heap := by rw [hhp]; exact vx_Zq.moved hW0.alike (hU.kept hS.2.1)
  have hN' : vx_Zq Bundle.tN "SUPPRESSED_SENTINEL" Bundle.listD A s' s'.heap := by rw [hhp]; exact vx_Zq.moved hW0.alike (hN.kept hS.2.1)
  have h : ∀ w ∈ Bundle.ownAtoms own ic cls names, w.before args s' = true := vx_own hat' (vx_isRefq hU'.1) (vx_isRefq hN'.1) hU'.2.word hN'.2.word
  have hown' : s'.vm.findClass own = some m.cls := by rw [hvm]; exact hown
  have hins : (Cond.instantiable cls 6).before args s' = true := h _ (by simp [Bundle.ownAtoms])
  obtain ⟨vm₁, cX, kX, hfX, hkX, -, -, X₁, st1⟩ := Y.newCold hexec (own := own) (C := cls) (index := ik) (n := 6) hown' hk' hins hini'
    (g := F0 m pc ls rest) rfl (by rw [hb]; exact d0) (Nat.le_refl _) (Nat.le_refl _)
  generalize hT1 : (T.setVm vm₁).pushCell { cls := cX, slots := kX.instanceTypes.map defaultValue, vm := .none } = T1 at X₁ st1
  have hcat : (Value.ref T.heap.size).category = 1 := rfl
  have hcellA : T1.heap[T.heap.size]? = some (freshCell cX kX) := by rw [← hT1]; exact State.heap_pushCell_size _ _
  have d3' : decode c.code (pc + 3) = .ok (.dup, 1) := by rw [hb]; exact d3
  have d4' : decode c.code (pc + 4) = .ok (.ldc_w is, 3) := by rw [hb]; exact d4
  have hstr' : vk_R own is text sa s' := vk_R.warm hW0 hstr
  obtain ⟨U, hsteps, hrun, hend, hW, hsame, ce, hce, hO⟩ := X₁.ctorThrowS hexec htr (own := own) (cls := cls) (names := names) (ic := ic) hown' hcls hnames h (fun x hx => nomatch hx) hfX hkX hcellA (by rw [hhp, hT]; exact Nat.le_refl _) (msg := .ref sa) rfl
    (g := { method := m, pc := pc + 7, locals := ls, stack := .ref sa :: .ref T.heap.size :: .ref T.heap.size :: rest, locked := none }) rfl hsize rfl rfl (rest := rest) rfl
    (by rw [hb]; exact d7) (by rw [hb]; exact d10) hout hRframes (by simp only [List.map_cons, List.sum_cons, hcat]; omega) hlocks
  obtain ⟨f1, f2⟩ := vx_frame hsame
  rw [hhp] at f1 f2
  have hWs : s.WarmedH U.vm := State.WarmedH.trans hW0 hW
  have hcl : s.vm.findClass cls = some ce.cls := by
    have h9 := hO.cls
    rw [hvm] at h9
    exact h9
  have hall : s.sameButNew ({ U with vm := s.vm } : State) locs mc ms := by
    subst hA
    obtain ⟨e1, e2⟩ := hsame
    rw [State.setFrames_setFrames] at e1
    have h2 : (T.setVm s.vm).sameButNew ({ U with vm := s.vm } : State) [] (0 + 1) (0 + 6) := ⟨e1, e2⟩
    have h3 := X.same.trans h2
    rw [List.append_nil] at h3
    exact h3.mono hc hs
  refine ⟨U, ?_, .threw T.heap.size, hrun, hend, Or.inr ⟨T.heap.size, rfl, cls, ce, locs, hx U hWs.alike f1 (fun q hq => f2 q hq (fun z hz => nomatch hz)), hce, hO.vm, hcl, hWs, hall, hf⟩⟩
  refine st1 _ ?_
  show Steps p.tables e below (T1.setTop { method := m, pc := pc + 3, locals := ls, stack := .ref T.heap.size :: rest, locked := none }) _
  jvm_step X₁.here [X₁.here.top, hexec, d3', Value.category]
  exact X₁.ldcStringW hexec (own := own) (text := text) (index := is) (a := sa) hown' hstr'.1 hstr'.2
    (g := { method := m, pc := pc + 4, locals := ls, stack := .ref T.heap.size :: .ref T.heap.size :: rest, locked := none }) rfl d4' _ hsteps
end Ends
section Bodies
variable {l : Launch}
theorem vx_ofW {y : MethodName} {ws ws' : List Cond} {rm : Room} {Pc : Array Value → State → Prop} {Qc : Array Value → State → Outcome → State → Prop} {XC : String → State → State → Prop} {mc ms : Nat} {free : Addr → Prop} {cc : ByteArray} {maxL : Nat} {ret : Option FieldType}
    (hy : plainName y.cls = true) (hw : ws = Cond.code y cc maxL ret :: ws')
    (body : ∀ p e s m args below meth c s₁, BodyLoose p l y (headSpec ws rm) cc maxL ret e s m args below meth c s₁ → c.maxLocals = maxL → (∀ x ∈ c.exceptionTable.toList, False) → Pc args s →
      W p l e (headSpec ws rm).room s m args below meth c s.heap [] 0 0 (vx_MQ below Qc XC args s mc ms free) (entryFrame m args maxL)) : vx_Met l y ws rm Pc Qc XC mc ms free := by
  refine MetFree.of_bodyS (code := cc) (maxLocals := maxL) (ret := ret) hy ?_ ?_
  · intro args s m h hn
    obtain ⟨meth, c, h1, h2, h3, h4, h5, h6, -, -⟩ := Cond.code_spec hn (atoms_spec (ws := ws) h _ (by rw [hw]; exact List.mem_cons_self))
    exact ⟨meth, c, h1, h2, h3, h4, h5, h6⟩
  · intro p e s m args below meth c s₁ B hml hP _
    have hh0 : s₁.heap = s.heap := by rw [B.state]; rfl
    have ht : ∀ x ∈ c.exceptionTable.toList, False := by
      obtain ⟨meth9, c9, h1, h2, -, -, -, -, h7, -⟩ := Cond.code_spec B.named (atoms_spec (ws := ws) B.pre _ (by rw [hw]; exact List.mem_cons_self))
      cases Option.some.inj (h1.symm.trans B.method)
      cases Option.some.inj (h2.symm.trans (Stand.of_body B).code)
      intro x hx
      rw [Array.isEmpty_iff.mp h7] at hx
      cases hx
    obtain ⟨t, a1, o, b1, b2, b3⟩ := body p e s m args below meth c s₁ B hml ht hP s₁ hh0 (Stand.of_body B)
    exact ⟨t, o, a1, b1, b2, b3⟩
/-- the table of a body with handlers -/
theorem vx_table {p : Program} {x y : MethodName} {S : Spec} {cc bytes : ByteArray} {maxL maxL' : Nat} {ret ret' : Option FieldType} {e : Env} {s s₁ : State} {m : MethodId} {args : Array Value} {below : List Frame} {meth : Method} {c : Code} {hh : List (Nat × Nat × Nat × Nat)}
    (B : BodyLoose p l y S cc maxL ret e s m args below meth c s₁) (h : (Cond.codeWith y bytes maxL' ret' hh).before args s = true) : c.exceptionTable.toList = tableOf hh := by
  obtain ⟨m9, meth9, c9, hn9, h1, h2, -, -, h6, -⟩ := Cond.codeWith_spec h
  cases Option.some.inj (hn9.symm.trans B.named)
  cases Option.some.inj (h1.symm.trans B.method)
  cases Option.some.inj (h2.symm.trans (Stand.of_body B).code)
  rw [← h6, table_eq]
end Bodies
end VXA
/-! ===== END ===== -/
/-! ===== BEGIN a static call of a method with an exception table ===== -/
section VXS
variable {p : Program} {l : Launch} {e : Env} {R : Room} {s : State} {m : MethodId} {args : Array Value} {below : List Frame} {meth : Method} {c : Code} {T : State} {H : Heap} {locs : List Loc} {cells slots : Nat}
abbrev vx_CSW (R : Room) (s : State) (args : Array Value) (own : String) (index : Nat) (y : MethodName) (bytes : ByteArray) (maxL : Nat) (ret : Option FieldType) (hh : List (Nat × Nat × Nat × Nat)) (ws : List Cond) (rm : Room) (mc ms n : Nat) : Prop :=
  (rm.cells = mc ∧ rm.slots = ms ∧ rm.frames + 1 ≤ R.frames ∧ 8 + (maxL + 11) + rm.locals ≤ R.locals ∧ (∀ w ∈ ws, ∀ (a' : Array Value) (U : State), s.WarmedH U.vm → w.before a' U = true) ∧ Cond.codeWith y bytes maxL ret hh ∈ ws) ∧
  (Cond.codeWith y bytes maxL ret hh).before args s = true ∧ (Cond.initialized y.cls).before args s = true ∧ (y.cls ≠ "java/lang/invoke/MethodHandle" ∧ y.cls ≠ "java/lang/invoke/VarHandle") ∧
  (∀ sig, parseMethodDescriptor y.desc = some sig → n = sig.parameters.length) ∧ (Cond.methodLink own index y).before args s = true ∧ (Cond.static y).before args s = true
theorem vx_cwSW {own : String} {index maxL mc ms : Nat} {y : MethodName} {bytes : ByteArray} {ret : Option FieldType} {hh : List (Nat × Nat × Nat × Nat)} {Ts ws ws' : List Cond} {rm : Room} (n : Nat) (ht : ∀ w ∈ Ts, w.before args s = true) (hT : GoodIn Ts (va_wsS own index y ws)) (hw : ws = Cond.codeWith y bytes maxL ret hh :: ws') (hrc : rm.cells = mc) (hrs : rm.slots = ms)
    (hd : y.cls ≠ "java/lang/invoke/MethodHandle" ∧ y.cls ≠ "java/lang/invoke/VarHandle" ∧ (parseMethodDescriptor y.desc).map (fun d => d.parameters.length) = some n) (hR : rm.frames + 1 ≤ R.frames ∧ 8 + (maxL + 11) + rm.locals ≤ R.locals) :
    vx_CSW R s args own index y bytes maxL ret hh ws rm mc ms n := by
  have ok : ∀ w ∈ va_wsS own index y ws, w.before args s = true := fun w h => ht w (hT w h).1
  have hG : GoodIn Ts ws := fun w h => hT w (by unfold va_wsS; exact List.mem_append_right _ h)
  have hc : Cond.codeWith y bytes maxL ret hh ∈ ws := by rw [hw]; exact List.mem_cons_self
  refine ⟨⟨hrc, hrs, hR.1, hR.2, pay_in ht hG, hc⟩, ht _ (hG _ hc).1, ok _ (by simp [va_wsS]), ⟨hd.1, hd.2.1⟩, fun sig h => ?_, ok _ (by simp [va_wsS]), ok _ (by simp [va_wsS])⟩
  have h2 := hd.2.2
  rw [h] at h2
  exact (Option.some.inj h2).symm
theorem vx_callSW (X : Stand p l e R s m args below meth c T locs cells slots) (hexec : p.tables.exec = Jvm.exec) {own : String} {index : Nat} {y : MethodName} {bytes : ByteArray} {maxL : Nat} {ret : Option FieldType} {hh : List (Nat × Nat × Nat × Nat)}
    (hown : s.vm.findClass own = some m.cls) (hlink : (Cond.methodLink own index y).before args s = true) (hstat : (Cond.static y).before args s = true) (hinit : (Cond.initialized y.cls).before args s = true)
    (hcode : (Cond.codeWith y bytes maxL ret hh).before args s = true) (hy : y.cls ≠ "java/lang/invoke/MethodHandle" ∧ y.cls ≠ "java/lang/invoke/VarHandle")
    {W9 : Nat} {Pre : Pt → Array Value → Prop} {Post : Pt → Array Value → Option Value → Pt → Prop} (hK : Back l R p e below s args y 3 W9 Pre Post)
    {g : JFrame} (hg : g.method = m) (hsize : g.locals.size = c.maxLocals) {argsL rest : List Value} (hlen : ∀ sig, parseMethodDescriptor y.desc = some sig → argsL.length = sig.parameters.length)
    (hstack : g.stack = argsL.reverse ++ rest) (hW : 2 * g.monitorRoom + (rest.map fun v => v.category).sum ≤ W9) (hdg : decode c.code g.pc = .ok (.invokestatic index, 3))
    (hpre : ∀ vm₁, s.WarmedH vm₁ → Pre ⟨T.setVm vm₁, locs, cells, slots⟩ argsL.toArray) :
    ∃ (v : Option Value) (vm₁ : Vm) (B : Pt), s.WarmedH vm₁ ∧ Stand p l e R s m args below meth c B.U B.locs B.cells B.slots ∧ Post ⟨T.setVm vm₁, locs, cells, slots⟩ argsL.toArray v B ∧
      ∀ target, Steps p.tables e below (B.U.setTop { g with pc := g.pc + 3, stack := v.toList ++ rest }) target → Steps p.tables e below (T.setTop g) target := by
  obtain ⟨mk, methM, cM, hnamed, hmethM, -, -, -, -, -, -, hsigM⟩ := Cond.codeWith_spec hcode
  have hstatic : methM.isStatic = true := Cond.static_spec hnamed hmethM hstat
  obtain ⟨kP, hkP, -⟩ := className_of_methodNamed hnamed
  have hinitP : kP.init = .initialized := Cond.initialized_spec (findClass_of_methodNamed hnamed) hkP hinit
  obtain ⟨vm₁, X₁, hstep₁⟩ := X.invokestatic hexec hown hlink hnamed hmethM hstatic hkP hinitP hy (g := g) hg (argsL := argsL) (rest := rest) (hlen _ hsigM) hstack hdg
  obtain ⟨v, B, X', hpost, hsteps⟩ := hK m meth c ⟨T.setVm vm₁, locs, cells, slots⟩ { g with stack := rest } (.invokestatic index) mk argsL.toArray X₁ hg hsize hdg hW (X₁.named hnamed) (hpre vm₁ X₁.warmed)
  exact ⟨v, vm₁, B, X₁.warmed, X', hpost, fun target h => hstep₁ _ fun acts => by rw [doInvoke_state]; exact hsteps.trans h⟩
theorem vx_runSW {y : MethodName} {bytes cc : ByteArray} {maxL nL mc ms n index : Nat} {ret : Option FieldType} {hh : List (Nat × Nat × Nat × Nat)} {ws : List Cond} {rm : Room} {Pc : Array Value → State → Prop} {Qc : Array Value → State → Outcome → State → Prop} {free : Addr → Prop} {Ts : List Cond} {own : String} {As rest : List Value} {g : JFrame}
    (S : CallFix p m c cc nL s args Ts own) (hM : Met l y ws rm Pc Qc mc ms free) (cw : vx_CSW R s args own index y bytes maxL ret hh ws rm mc ms n) (hp : PreS s H Pc As)
    (hg : g.method = m) (hn : As.length = n) (hsize : g.locals.size = nL) (hstack : g.stack = As.reverse ++ rest) (hW : 2 * g.monitorRoom + (rest.map fun v => v.category).sum ≤ 8) (hdg : decode cc g.pc = .ok (.invokestatic index, 3)) (hf : cells + mc ≤ R.cells ∧ slots + ms ≤ R.slots) :
    va_Run p l e R s m args below meth c H locs cells slots mc ms g rest (Qc As.toArray) (free) := by
  obtain ⟨⟨hrc, hrs, hfr, hlo, hws, hcw⟩, hcode, hini, hy, hlen, hl, hstt⟩ := cw
  have hK : Back l R p e below s args y 3 8 (PreOf R mc ms Pc) (PostOf Qc mc ms free) := va_backW (hh := hh) (bytes := bytes) (maxL := maxL) (ret := ret) hM hp.1 hrc hrs hfr hlo hws hcw (fun a' U hW => word_at hW (Or.inl (by first | rfl | simp [Cond.onTables, Cond.keeps, Cond.steady])) hini)
  obtain ⟨hx, hb, hml, ho, -⟩ := S
  intro T hT X
  obtain ⟨v, vm₁, ⟨U', l2, c2, s2⟩, hW₁, X', ⟨g', mk, t, L, e1, e2, hq, h1, hL, h2, h3⟩, st⟩ := vx_callSW X hx (hh := hh) (bytes := bytes) (maxL := maxL) (ret := ret) ho hl hstt hini hcode hy hK hg (hsize.trans hml.symm) (argsL := As) (rest := rest) (fun sig h => hn.trans (hlen sig h)) hstack hW (by rw [hb]; exact hdg)
    (fun vm₁ hW₁ => ⟨hf.1, hf.2, hp.2 (T.setVm vm₁) hT hW₁⟩)
  dsimp only [Pt.U, Pt.locs, Pt.cells, Pt.slots] at X' e1 e2 h1 h2 h3 st
  subst h1; subst h2; subst h3
  exact ⟨v, (T.setVm vm₁).calling g' mk As.toArray, t, U', L, hT, X', hL, e1, e2, hq, st⟩
/-- not caught here, past rows that name other classes: it goes on to the caller -/
theorem vx_outP {p : Program} {l : Launch} {e : Env} {R : Room} {s : State} {m : MethodId} {args : Array Value} {below : List Frame} {meth : Method} {c : Code} {H : Heap} {locs : List Loc} {cells slots : Nat} {free : Addr → Prop} {ls : Array Slot} {rest : List Value} {Qc : Array Value → State → Outcome → State → Prop} {XC : String → State → State → Prop}
    {pc : Nat} {own E : String} {ce : Cell} {q : Addr} {mc ms : Nat} (hown : s.vm.findClass own = some m.cls) (hlocks : meth.locks = false)
    (hpass : ∀ z ∈ c.exceptionTable.toList, covers z pc = false ∨ (z.catchType ≠ 0 ∧ ∃ nm : String, (Cond.classLink own z.catchType nm).before args s = true ∧ va_Nc E nm s)) (hcell : H[q]? = some ce) (hv : ce.vm = .none) (hcl : s.vm.findClass E = some ce.cls)
    (hx : ∀ t : State, t.heap = H → s.vm.Alike t.vm → XC E s t) (hf : ∀ z ∈ locs, free z.base) (hc : cells ≤ mc) (hs : slots ≤ ms) :
    vx_W p l e R s m args below meth c H locs cells slots (vx_MQ below Qc XC args s mc ms free) (F0 m pc ls rest) q := by
  intro T hT X
  have hpl : e.platform.magicAccessors = ({} : Platform).magicAccessors := by rw [X.admits.platform]
  obtain ⟨vm', hW', X', st⟩ := X.outThrough hlocks q (g := F0 m pc ls rest) rfl rfl rfl (cell := ce) (by rw [hT]; exact hcell) (by rw [hv]; rfl)
    (by obtain ⟨k9, h9, -⟩ := Vm.findClass_spec hcl; exact ⟨k9, h9⟩) (fun z hz => by
      rcases hpass z hz with h | ⟨hz0, nm, hl1, hn1⟩
      · exact Or.inl h
      · obtain ⟨c6, hc6, hcl6⟩ := Cond.classLink_spec hown hl1 e.platform hpl
        obtain ⟨a8, b8, h1, h2, h3⟩ := hn1
        cases Option.some.inj (h1.symm.trans hcl)
        cases Option.some.inj (h2.symm.trans hc6)
        exact Or.inr ⟨hz0, _, hcl6, h3⟩)
  obtain ⟨g₀, hfr⟩ := X'.frames_eq
  have hcell9 : ((T.setVm vm').setFrames (.throwing q :: below)).heap[q]? = some ce := by
    show T.heap[q]? = some ce
    rw [hT]; exact hcell
  have hend : Ended ((T.setVm vm').setFrames (.throwing q :: below)) below (.threw q) := State.frames_setFrames _ (State.cur_lt_of_frames hfr)
  refine ⟨(T.setVm vm').setFrames (.throwing q :: below), ?_, .threw q, X'.here.running, hend, Or.inr ⟨q, rfl, E, ce, locs, hx _ hT (X'.ends _).1.alike, hcell9, hv, hcl, (X'.ends _).1, (X'.ends _).2.mono hc hs, hf⟩⟩
  rw [X.pushThrowing_eq]
  exact st
/-- a thing of a world lies in the heap -/
theorem vx_lt {D : va_G} {cl : List vw_C} {ws : va_W} {H1 : Heap} (h : va_P D cl ws H1) {k : Nat} {q : Nat × va_E} (hk : ws[k]? = some q) : q.1 < H1.size := (h k q hk).lt
end VXS
/-! ===== END ===== -/
/-! ===== BEGIN methods with a table of their own: called by a name, returning or throwing ===== -/
section VXH
/-! vx_backW, vx_callVX, vx_callSX, vx_callVW, vx_runVW, vx_runVX, vx_runSX, vx_ofWH follow the same proofs as their sisters above (Free/Laws.lean, Shelf42/LK1.lean); vx_outP calls Shelf42/NT130.lean (outThrough). -/
section
variable {l : Launch} {R : Room} {p : Program} {e : Env} {below : List Frame} {s : State} {sargs : Array Value} {y : MethodName} {len W9 : Nat}
theorem vx_backW {ws : List Cond} {rm : Room} {Pc : Array Value → State → Prop} {Qc : Array Value → State → Outcome → State → Prop} {XC : String → State → State → Prop} {mc ms : Nat} {free : Addr → Prop} {bytes : ByteArray} {maxL : Nat} {ret : Option FieldType} {hh : List (Nat × Nat × Nat × Nat)}
    (hM : vx_Met l y ws rm Pc Qc XC mc ms free) (hblind : FrameBlind Pc) (hrc : rm.cells = mc) (hrs : rm.slots = ms)
    (hframes : rm.frames + 1 ≤ R.frames) (hlocals : W9 + (maxL + 11) + rm.locals ≤ R.locals)
    (hws : ∀ w ∈ ws, ∀ a' U, s.WarmedH U.vm → w.before a' U = true) (hcode : Cond.codeWith y bytes maxL ret hh ∈ ws) (hinit : ∀ a' U, s.WarmedH U.vm → (Cond.initialized y.cls).before a' U = true) :
    vx_Back l R p e below s sargs y len W9 (PreOf R mc ms Pc) (PostOf Qc mc ms free) (vx_Post XC mc ms free) := by
  intro m meth c A g ig mk a X hg hsize hdg hW hn hp
  have h1 : (headSpec ws rm).pre.before a A.U = true := atoms_intro fun w hw => hws w hw _ _ X.warmed
  have h2 : (Cond.codeWith y bytes maxL ret hh).before a A.U = true := hws _ hcode _ _ X.warmed
  have h3 : (Cond.initialized y.cls).before a A.U = true := hinit _ _ X.warmed
  have h4 : A.cells + (headSpec ws rm).room.cells ≤ R.cells := by rw [show (headSpec ws rm).room.cells = mc from hrc]; exact hp.1
  have h5 : A.slots + (headSpec ws rm).room.slots ≤ R.slots := by rw [show (headSpec ws rm).room.slots = ms from hrs]; exact hp.2.1
  have hPc : Pc a (A.U.calling g mk a) := hblind _ _ _ _ hp.2.2
  obtain ⟨U, Ls, c0, s0⟩ := A
  dsimp only [Pt.U, Pt.locs, Pt.cells, Pt.slots] at h1 h2 h3 h4 h5 X hn hPc ⊢
  obtain ⟨m9, methY, cY, hn9, hmY, hcY, -, hlY, -⟩ := Cond.codeWith_spec h2
  cases Option.some.inj (hn9.symm.trans hn)
  obtain ⟨kY, hkY, -⟩ := className_of_methodNamed hn
  have hinitY : kY.init = .initialized := Cond.initialized_spec (findClass_of_methodNamed hn) hkY h3
  have h : At U g.method c below := by rw [hg]; exact X.here
  have hlocals9 : W9 + (maxL + 11) + (headSpec ws rm).room.locals ≤ R.locals := hlocals
  have happ : (headSpec ws rm).appliesLoose y e.platform (U.calling g mk a) = true :=
    Spec.appliesLoose_calling (g := g) h hdg hn hkY hinitY
      (X.room_calling (g := g) (R' := (headSpec ws rm).room) hsize hmY hcY hframes (by rw [hlY]; omega) h4 h5) h1
  obtain ⟨mid, hmid⟩ := h.above
  have hfr : (U.setTop g).frames = (.java g :: mid) ++ below := by rw [State.frames_setTop' g h.top, hmid]; rfl
  obtain ⟨o, s₂, hsteps, -, hend, hq⟩ := Steps.callFree hM p X.admits X.cas X.clock (acts := []) hfr happ hPc trivial
  have hq' : vx_Q Qc XC mc ms free a (U.calling g mk a) o s₂ := hq
  rw [State.frames_setTop' g h.top] at hend
  obtain ⟨g₀, hg0⟩ := Option.isSome_iff_exists.mp h.top
  obtain ⟨r, hr⟩ := State.topJava?_eq_some.mp hg0
  have hr' : (({ U with heap := s₂.heap, slotsUsed := s₂.slotsUsed } : State).setVm s₂.vm).frames = .java g₀ :: r := hr
  rcases hq' with ⟨hqc, L, hfe, hL⟩ | ⟨q, rfl, E, ce, L, hx, hce, hcv, hcl, hW₂, hsm, hL⟩
  · obtain ⟨⟨v, rfl⟩, hW₂, e2, q2, q3, q4, q5, q6⟩ := id hfe
    have e3 : s₂ = ({ (U.calling g mk a).setFrames s₂.frames with heap := s₂.heap, slotsUsed := s₂.slotsUsed } : State).setVm s₂.vm := by
      have : s₂ = ({ s₂ with vm := (U.calling g mk a).vm } : State).setVm s₂.vm := rfl
      rw [e2] at this
      exact this
    obtain ⟨c₂, i₂, len₂, hc₂, hd₂, hf₂⟩ := hend
    have hW' : U.WarmedH s₂.vm := hW₂
    have hcc : c₂ = c := by
      have h1 : s₂.code? g.method = U.code? g.method := by
        rw [State.code?_eq, State.code?_eq, hW'.alike.method?]
      exact Option.some.inj (hc₂.symm.trans (h1.trans h.code))
    subst hcc
    have hlen : len₂ = len := by rw [hdg] at hd₂; cases hd₂; rfl
    subst hlen
    have hs₂ : s₂ = (({ U with heap := s₂.heap, slotsUsed := s₂.slotsUsed } : State).setVm s₂.vm).setTop { g with pc := g.pc + len₂, stack := v.toList ++ g.stack } := by
      refine e3.trans ?_
      rw [hf₂, State.calling_eq h.top, State.setFrames_setFrames, State.setTop_of_frames _ hr', hr]
      rfl
    have hsame : U.sameButNew ({ U with heap := s₂.heap, slotsUsed := s₂.slotsUsed } : State) L mc ms := by
      refine ⟨?_, q2, q3, q4, q5, q6⟩
      obtain ⟨t, ht, -⟩ := State.frames_cons hr
      show ({ U with heap := s₂.heap, slotsUsed := s₂.slotsUsed } : State) = { U.setFrames U.frames with heap := s₂.heap, slotsUsed := s₂.slotsUsed }
      rw [State.setFrames_self ht]
    subst hg
    refine Or.inl ⟨v, ⟨(({ U with heap := s₂.heap, slotsUsed := s₂.slotsUsed } : State).setVm s₂.vm), Ls ++ L, c0 + mc, s0 + ms⟩,
      ⟨X.admits, X.cas, X.clock, X.frames, X.room, X.hears, X.method, X.code, (X.here.setHeapUsed s₂.heap s₂.slotsUsed).setVm hW'.alike, X.tail, State.WarmedH.trans X.warmed hW', X.limits, X.bytes, X.same.trans (hsame.setVm s.vm)⟩,
      ⟨g, mk, s₂, L, rfl, rfl, hqc, rfl, hL, rfl, rfl⟩, ?_⟩
    show Steps p.tables e below _ ((({ U with heap := s₂.heap, slotsUsed := s₂.slotsUsed } : State).setVm s₂.vm).setTop { g with pc := g.pc + len₂, stack := v.toList ++ g.stack })
    rw [← hs₂]
    exact hsteps
  · obtain ⟨e2, q2, q3, q4, q5, q6⟩ := id hsm
    have e3 : s₂ = ({ (U.calling g mk a).setFrames s₂.frames with heap := s₂.heap, slotsUsed := s₂.slotsUsed } : State).setVm s₂.vm := by
      have : s₂ = ({ s₂ with vm := (U.calling g mk a).vm } : State).setVm s₂.vm := rfl
      rw [e2] at this
      exact this
    have hf₂ : s₂.frames = .throwing q :: .java g :: U.frames.tail := hend
    have hW' : U.WarmedH s₂.vm := hW₂
    have hs₂ : s₂ = ((({ U with heap := s₂.heap, slotsUsed := s₂.slotsUsed } : State).setVm s₂.vm).setTop g).pushFrame (.throwing q) := by
      refine e3.trans ?_
      rw [hf₂, State.calling_eq h.top, State.setFrames_setFrames, State.pushFrame, State.frames_setTop _ hr', State.setTop_of_frames _ hr', State.setFrames_setFrames, hr]
      rfl
    have hsame : U.sameButNew ({ U with heap := s₂.heap, slotsUsed := s₂.slotsUsed } : State) L mc ms := by
      refine ⟨?_, q2, q3, q4, q5, q6⟩
      obtain ⟨t, ht, -⟩ := State.frames_cons hr
      show ({ U with heap := s₂.heap, slotsUsed := s₂.slotsUsed } : State) = { U.setFrames U.frames with heap := s₂.heap, slotsUsed := s₂.slotsUsed }
      rw [State.setFrames_self ht]
    subst hg
    refine Or.inr ⟨q, ⟨(({ U with heap := s₂.heap, slotsUsed := s₂.slotsUsed } : State).setVm s₂.vm), Ls ++ L, c0 + mc, s0 + ms⟩,
      ⟨X.admits, X.cas, X.clock, X.frames, X.room, X.hears, X.method, X.code, (X.here.setHeapUsed s₂.heap s₂.slotsUsed).setVm hW'.alike, X.tail, State.WarmedH.trans X.warmed hW', X.limits, X.bytes, X.same.trans (hsame.setVm s.vm)⟩,
      ⟨g, mk, s₂, L, E, ce, rfl, rfl, hx, hce, hcv, hcl, rfl, hL, rfl, rfl⟩, ?_⟩
    show Steps p.tables e below _ (((({ U with heap := s₂.heap, slotsUsed := s₂.slotsUsed } : State).setVm s₂.vm).setTop g).pushFrame (.throwing q))
    rw [← hs₂]
    exact hsteps
end
variable {p : Program} {l : Launch} {e : Env} {R : Room} {s : State} {m : MethodId} {args : Array Value} {below : List Frame} {meth : Method} {c : Code} {T : State} {H : Heap} {locs : List Loc} {cells slots : Nat}
theorem vx_callVX (X : Stand p l e R s m args below meth c T locs cells slots) (hexec : p.tables.exec = Jvm.exec) {own C : String} {index : Nat} {y : MethodName} {bytes : ByteArray} {maxL : Nat} {ret : Option FieldType} {hh : List (Nat × Nat × Nat × Nat)}
    (hown : s.vm.findClass own = some m.cls) (hlink : (Cond.methodLink own index y).before args s = true) (hinst : (Cond.instanceMethod y).before args s = true) (hsel : (Cond.selects C y y).before args s = true)
    (hcode : (Cond.codeWith y bytes maxL ret hh).before args s = true) (hy : y.cls ≠ "java/lang/invoke/MethodHandle" ∧ y.cls ≠ "java/lang/invoke/VarHandle")
    {W9 : Nat} {Pre : Pt → Array Value → Prop} {Post : Pt → Array Value → Option Value → Pt → Prop} {PostX : Pt → Array Value → Addr → Pt → Prop} (hK : vx_Back l R p e below s args y 3 W9 Pre Post PostX)
    {b : Addr} {cellB : Cell} (hcell : T.heap[b]? = some cellB) (hobj : cellB.vm.isStatics = false) (hcls : s.vm.findClass C = some cellB.cls)
    {g : JFrame} (hg : g.method = m) (hsize : g.locals.size = c.maxLocals) {argsL rest : List Value} (hlen : ∀ sig, parseMethodDescriptor y.desc = some sig → argsL.length = sig.parameters.length)
    (hstack : g.stack = argsL.reverse ++ .ref b :: rest) (hW : 2 * g.monitorRoom + (rest.map fun v => v.category).sum ≤ W9) (hdg : decode c.code g.pc = .ok (.invokevirtual index, 3))
    (hpre : ∀ vm₁, s.WarmedH vm₁ → Pre ⟨T.setVm vm₁, locs, cells, slots⟩ (Value.ref b :: argsL).toArray) :
    (∃ (v : Option Value) (vm₁ : Vm) (B : Pt), s.WarmedH vm₁ ∧ Stand p l e R s m args below meth c B.U B.locs B.cells B.slots ∧ Post ⟨T.setVm vm₁, locs, cells, slots⟩ (Value.ref b :: argsL).toArray v B ∧
      ∀ target, Steps p.tables e below (B.U.setTop { g with pc := g.pc + 3, stack := v.toList ++ rest }) target → Steps p.tables e below (T.setTop g) target) ∨
    (∃ (q : Addr) (vm₁ : Vm) (B : Pt), s.WarmedH vm₁ ∧ Stand p l e R s m args below meth c B.U B.locs B.cells B.slots ∧ PostX ⟨T.setVm vm₁, locs, cells, slots⟩ (Value.ref b :: argsL).toArray q B ∧
      Steps p.tables e below (T.setTop g) ((B.U.setTop { g with stack := rest }).pushFrame (.throwing q))) := by
  obtain ⟨mk, methM, hnamed, hmethM, hstM, habM⟩ := Cond.instanceMethod_spec hinst
  obtain ⟨m8, methM', cM, hn8, hmethM', -, -, -, -, -, -, hsigM⟩ := Cond.codeWith_spec hcode
  cases Option.some.inj (hn8.symm.trans hnamed)
  cases hmethM.symm.trans hmethM'
  obtain ⟨c2, r2, m2, q1, q2, q3, q4, kP, hkP, hkPi⟩ := Cond.selects_spec hsel
  cases hcls.symm.trans q1
  cases (State.methodFound?_of_named hnamed hy).symm.trans q2
  cases hnamed.symm.trans q3
  have hselP : selectMethod e.platform s.vm cellB.cls mk = .method mk := by rw [Launch.admits_selectMethod X.admits]; exact q4
  obtain ⟨vm₁, X₁, hstep₁⟩ := X.invokevirtual hexec hown hlink hnamed hmethM hstM hkP hkPi hy (a := b) (cell := cellB) hcell
    (fun z h => by rw [h] at hobj; cases hobj) hselP hmethM habM hkP hkPi (g := g) hg (argsL := argsL) (rest := rest) (hlen _ hsigM) hstack hdg
  rcases hK m meth c ⟨T.setVm vm₁, locs, cells, slots⟩ { g with stack := rest } (.invokevirtual index) mk (Value.ref b :: argsL).toArray X₁ hg hsize hdg hW (X₁.named hnamed) (hpre vm₁ X₁.warmed) with ⟨v, B, X', hpost, hsteps⟩ | ⟨q, B, X', hpost, hsteps⟩
  · exact Or.inl ⟨v, vm₁, B, X₁.warmed, X', hpost, fun target h => hstep₁ _ fun acts => by rw [doInvoke_state]; exact hsteps.trans h⟩
  · exact Or.inr ⟨q, vm₁, B, X₁.warmed, X', hpost, hstep₁ _ fun acts => by rw [doInvoke_state]; exact hsteps⟩
theorem vx_callSX (X : Stand p l e R s m args below meth c T locs cells slots) (hexec : p.tables.exec = Jvm.exec) {own : String} {index : Nat} {y : MethodName} {bytes : ByteArray} {maxL : Nat} {ret : Option FieldType} {hh : List (Nat × Nat × Nat × Nat)}
    (hown : s.vm.findClass own = some m.cls) (hlink : (Cond.methodLink own index y).before args s = true) (hstat : (Cond.static y).before args s = true) (hinit : (Cond.initialized y.cls).before args s = true)
    (hcode : (Cond.codeWith y bytes maxL ret hh).before args s = true) (hy : y.cls ≠ "java/lang/invoke/MethodHandle" ∧ y.cls ≠ "java/lang/invoke/VarHandle")
    {W9 : Nat} {Pre : Pt → Array Value → Prop} {Post : Pt → Array Value → Option Value → Pt → Prop} {PostX : Pt → Array Value → Addr → Pt → Prop} (hK : vx_Back l R p e below s args y 3 W9 Pre Post PostX)
    {g : JFrame} (hg : g.method = m) (hsize : g.locals.size = c.maxLocals) {argsL rest : List Value} (hlen : ∀ sig, parseMethodDescriptor y.desc = some sig → argsL.length = sig.parameters.length)
    (hstack : g.stack = argsL.reverse ++ rest) (hW : 2 * g.monitorRoom + (rest.map fun v => v.category).sum ≤ W9) (hdg : decode c.code g.pc = .ok (.invokestatic index, 3))
    (hpre : ∀ vm₁, s.WarmedH vm₁ → Pre ⟨T.setVm vm₁, locs, cells, slots⟩ argsL.toArray) :
    (∃ (v : Option Value) (vm₁ : Vm) (B : Pt), s.WarmedH vm₁ ∧ Stand p l e R s m args below meth c B.U B.locs B.cells B.slots ∧ Post ⟨T.setVm vm₁, locs, cells, slots⟩ argsL.toArray v B ∧
      ∀ target, Steps p.tables e below (B.U.setTop { g with pc := g.pc + 3, stack := v.toList ++ rest }) target → Steps p.tables e below (T.setTop g) target) ∨
    (∃ (q : Addr) (vm₁ : Vm) (B : Pt), s.WarmedH vm₁ ∧ Stand p l e R s m args below meth c B.U B.locs B.cells B.slots ∧ PostX ⟨T.setVm vm₁, locs, cells, slots⟩ argsL.toArray q B ∧
      Steps p.tables e below (T.setTop g) ((B.U.setTop { g with stack := rest }).pushFrame (.throwing q))) := by
  obtain ⟨mk, methM, cM, hnamed, hmethM, -, -, -, -, -, -, hsigM⟩ := Cond.codeWith_spec hcode
  have hstatic : methM.isStatic = true := Cond.static_spec hnamed hmethM hstat
  obtain ⟨kP, hkP, -⟩ := className_of_methodNamed hnamed
  have hinitP : kP.init = .initialized := Cond.initialized_spec (findClass_of_methodNamed hnamed) hkP hinit
  obtain ⟨vm₁, X₁, hstep₁⟩ := X.invokestatic hexec hown hlink hnamed hmethM hstatic hkP hinitP hy (g := g) hg (argsL := argsL) (rest := rest) (hlen _ hsigM) hstack hdg
  rcases hK m meth c ⟨T.setVm vm₁, locs, cells, slots⟩ { g with stack := rest } (.invokestatic index) mk argsL.toArray X₁ hg hsize hdg hW (X₁.named hnamed) (hpre vm₁ X₁.warmed) with ⟨v, B, X', hpost, hsteps⟩ | ⟨q, B, X', hpost, hsteps⟩
  · exact Or.inl ⟨v, vm₁, B, X₁.warmed, X', hpost, fun target h => hstep₁ _ fun acts => by rw [doInvoke_state]; exact hsteps.trans h⟩
  · exact Or.inr ⟨q, vm₁, B, X₁.warmed, X', hpost, hstep₁ _ fun acts => by rw [doInvoke_state]; exact hsteps⟩
theorem vx_callVW (X : Stand p l e R s m args below meth c T locs cells slots) (hexec : p.tables.exec = Jvm.exec) {own C : String} {index : Nat} {y : MethodName} {bytes : ByteArray} {maxL : Nat} {ret : Option FieldType} {hh : List (Nat × Nat × Nat × Nat)}
    (hown : s.vm.findClass own = some m.cls) (hlink : (Cond.methodLink own index y).before args s = true) (hinst : (Cond.instanceMethod y).before args s = true) (hsel : (Cond.selects C y y).before args s = true)
    (hcode : (Cond.codeWith y bytes maxL ret hh).before args s = true) (hy : y.cls ≠ "java/lang/invoke/MethodHandle" ∧ y.cls ≠ "java/lang/invoke/VarHandle")
    {W9 : Nat} {Pre : Pt → Array Value → Prop} {Post : Pt → Array Value → Option Value → Pt → Prop} (hK : Back l R p e below s args y 3 W9 Pre Post)
    {b : Addr} {cellB : Cell} (hcell : T.heap[b]? = some cellB) (hobj : cellB.vm.isStatics = false) (hcls : s.vm.findClass C = some cellB.cls)
    {g : JFrame} (hg : g.method = m) (hsize : g.locals.size = c.maxLocals) {argsL rest : List Value} (hlen : ∀ sig, parseMethodDescriptor y.desc = some sig → argsL.length = sig.parameters.length)
    (hstack : g.stack = argsL.reverse ++ .ref b :: rest) (hW : 2 * g.monitorRoom + (rest.map fun v => v.category).sum ≤ W9) (hdg : decode c.code g.pc = .ok (.invokevirtual index, 3))
    (hpre : ∀ vm₁, s.WarmedH vm₁ → Pre ⟨T.setVm vm₁, locs, cells, slots⟩ (Value.ref b :: argsL).toArray) :
    ∃ (v : Option Value) (vm₁ : Vm) (B : Pt), s.WarmedH vm₁ ∧ Stand p l e R s m args below meth c B.U B.locs B.cells B.slots ∧ Post ⟨T.setVm vm₁, locs, cells, slots⟩ (Value.ref b :: argsL).toArray v B ∧
      ∀ target, Steps p.tables e below (B.U.setTop { g with pc := g.pc + 3, stack := v.toList ++ rest }) target → Steps p.tables e below (T.setTop g) target := by
  obtain ⟨mk, methM, hnamed, hmethM, hstM, habM⟩ := Cond.instanceMethod_spec hinst
  obtain ⟨m8, methM', cM, hn8, hmethM', -, -, -, -, -, -, hsigM⟩ := Cond.codeWith_spec hcode
  cases Option.some.inj (hn8.symm.trans hnamed)
  cases hmethM.symm.trans hmethM'
  obtain ⟨c2, r2, m2, q1, q2, q3, q4, kP, hkP, hkPi⟩ := Cond.selects_spec hsel
  cases hcls.symm.trans q1
  cases (State.methodFound?_of_named hnamed hy).symm.trans q2
  cases hnamed.symm.trans q3
  have hselP : selectMethod e.platform s.vm cellB.cls mk = .method mk := by rw [Launch.admits_selectMethod X.admits]; exact q4
  obtain ⟨vm₁, X₁, hstep₁⟩ := X.invokevirtual hexec hown hlink hnamed hmethM hstM hkP hkPi hy (a := b) (cell := cellB) hcell
    (fun z h => by rw [h] at hobj; cases hobj) hselP hmethM habM hkP hkPi (g := g) hg (argsL := argsL) (rest := rest) (hlen _ hsigM) hstack hdg
  obtain ⟨v, B, X', hpost, hsteps⟩ := hK m meth c ⟨T.setVm vm₁, locs, cells, slots⟩ { g with stack := rest } (.invokevirtual index) mk (Value.ref b :: argsL).toArray X₁ hg hsize hdg hW (X₁.named hnamed) (hpre vm₁ X₁.warmed)
  exact ⟨v, vm₁, B, X₁.warmed, X', hpost, fun target h => hstep₁ _ fun acts => by rw [doInvoke_state]; exact hsteps.trans h⟩
abbrev vx_CVW (R : Room) (s : State) (args : Array Value) (own C : String) (index : Nat) (y : MethodName) (bytes : ByteArray) (maxL : Nat) (ret : Option FieldType) (hh : List (Nat × Nat × Nat × Nat)) (ws : List Cond) (rm : Room) (mc ms n : Nat) : Prop :=
  (rm.cells = mc ∧ rm.slots = ms ∧ rm.frames + 1 ≤ R.frames ∧ 8 + (maxL + 11) + rm.locals ≤ R.locals ∧ (∀ w ∈ ws, ∀ (a' : Array Value) (U : State), s.WarmedH U.vm → w.before a' U = true) ∧ Cond.codeWith y bytes maxL ret hh ∈ ws) ∧
  (Cond.codeWith y bytes maxL ret hh).before args s = true ∧ (Cond.initialized y.cls).before args s = true ∧ (y.cls ≠ "java/lang/invoke/MethodHandle" ∧ y.cls ≠ "java/lang/invoke/VarHandle") ∧
  (∀ sig, parseMethodDescriptor y.desc = some sig → n = sig.parameters.length) ∧ (Cond.methodLink own index y).before args s = true ∧ (Cond.instanceMethod y).before args s = true ∧ (Cond.selects C y y).before args s = true
theorem vx_cwVW {own C : String} {index maxL mc ms : Nat} {y : MethodName} {bytes : ByteArray} {ret : Option FieldType} {hh : List (Nat × Nat × Nat × Nat)} {Ts ws ws' : List Cond} {rm : Room} (n : Nat) (ht : ∀ w ∈ Ts, w.before args s = true) (hT : GoodIn Ts (wsV own index C y ws)) (hw : ws = Cond.codeWith y bytes maxL ret hh :: ws') (hrc : rm.cells = mc) (hrs : rm.slots = ms)
    (hd : y.cls = C ∧ y.cls ≠ "java/lang/invoke/MethodHandle" ∧ y.cls ≠ "java/lang/invoke/VarHandle" ∧ (parseMethodDescriptor y.desc).map (fun d => d.parameters.length) = some n) (hR : rm.frames + 1 ≤ R.frames ∧ 8 + (maxL + 11) + rm.locals ≤ R.locals) :
    vx_CVW R s args own C index y bytes maxL ret hh ws rm mc ms n := by
  obtain ⟨hC, hd⟩ := hd
  subst hC
  have ok : ∀ w ∈ wsV own index y.cls y ws, w.before args s = true := fun w h => ht w (hT w h).1
  have hG : GoodIn Ts ws := fun w h => hT w (by unfold wsV; exact List.mem_append_right _ h)
  have hc : Cond.codeWith y bytes maxL ret hh ∈ ws := by rw [hw]; exact List.mem_cons_self
  refine ⟨⟨hrc, hrs, hR.1, hR.2, pay_in ht hG, hc⟩, ht _ (hG _ hc).1, ok _ (by simp [wsV]), ⟨hd.1, hd.2.1⟩, fun sig h => ?_, ok _ (by simp [wsV]), ok _ (by simp [wsV]), ok _ (by simp [wsV])⟩
  have h2 := hd.2.2
  rw [h] at h2
  exact (Option.some.inj h2).symm
theorem vx_runVW {y : MethodName} {bytes cc : ByteArray} {maxL nL mc ms n index : Nat} {ret : Option FieldType} {hh : List (Nat × Nat × Nat × Nat)} {ws : List Cond} {rm : Room} {Pc : Array Value → State → Prop} {Qc : Array Value → State → Outcome → State → Prop} {free : Addr → Prop} {Ts : List Cond} {own C : String} {b : Addr} {As rest : List Value} {g : JFrame}
    (S : CallFix p m c cc nL s args Ts own) (hM : Met l y ws rm Pc Qc mc ms free) (cw : vx_CVW R s args own C index y bytes maxL ret hh ws rm mc ms n) (hp : PreV s H C b Pc As)
    (hg : g.method = m) (hn : As.length = n) (hsize : g.locals.size = nL) (hstack : g.stack = As.reverse ++ .ref b :: rest) (hW : 2 * g.monitorRoom + (rest.map fun v => v.category).sum ≤ 8) (hdg : decode cc g.pc = .ok (.invokevirtual index, 3)) (hf : cells + mc ≤ R.cells ∧ slots + ms ≤ R.slots) :
    va_Run p l e R s m args below meth c H locs cells slots mc ms g rest (Qc (Value.ref b :: As).toArray) free := by
  obtain ⟨⟨hrc, hrs, hfr, hlo, hws, hcw⟩, hcode, hini, hy, hlen, hl, hin, hse⟩ := cw
  have hK : Back l R p e below s args y 3 8 (PreOf R mc ms Pc) (PostOf Qc mc ms free) := va_backW (hh := hh) (bytes := bytes) (maxL := maxL) (ret := ret) hM hp.1 hrc hrs hfr hlo hws hcw (fun a' U hW => word_at hW (Or.inl (by first | rfl | simp [Cond.onTables, Cond.keeps, Cond.steady])) hini)
  obtain ⟨hx, hb, hml, ho, -⟩ := S
  obtain ⟨-, ⟨cellB, hcB, hoB, hclB⟩, hPc⟩ := hp
  intro T hT X
  obtain ⟨v, vm₁, ⟨U', l2, c2, s2⟩, hW₁, X', ⟨g', mk, t, L, e1, e2, hq, h1, hL, h2, h3⟩, st⟩ := vx_callVW X hx (C := C) (hh := hh) (bytes := bytes) (maxL := maxL) (ret := ret) ho hl hin hse hcode hy hK (by rw [hT]; exact hcB) hoB hclB hg (hsize.trans hml.symm) (argsL := As) (rest := rest) (fun sig h => hn.trans (hlen sig h)) hstack hW (by rw [hb]; exact hdg)
    (fun vm₁ hW₁ => ⟨hf.1, hf.2, hPc (T.setVm vm₁) hT hW₁⟩)
  dsimp only [Pt.U, Pt.locs, Pt.cells, Pt.slots] at X' e1 e2 h1 h2 h3 st
  subst h1; subst h2; subst h3
  exact ⟨v, (T.setVm vm₁).calling g' mk (Value.ref b :: As).toArray, t, U', L, hT, X', hL, e1, e2, hq, st⟩
section
variable {y : MethodName} {bytes cc : ByteArray} {maxL nL mc ms n index : Nat} {ret : Option FieldType} {ws : List Cond} {rm : Room} {Pc : Array Value → State → Prop} {Qc : Array Value → State → Outcome → State → Prop} {XC : String → State → State → Prop} {free : Addr → Prop} {Ts : List Cond} {own C : String} {b : Addr} {As rest : List Value} {g : JFrame}
theorem vx_runVX {hh : List (Nat × Nat × Nat × Nat)} (S : CallFix p m c cc nL s args Ts own) (hM : vx_Met l y ws rm Pc Qc XC mc ms free) (cw : vx_CVW R s args own C index y bytes maxL ret hh ws rm mc ms n) (hp : PreV s H C b Pc As)
    (hg : g.method = m) (hn : As.length = n) (hsize : g.locals.size = nL) (hstack : g.stack = As.reverse ++ .ref b :: rest) (hW : 2 * g.monitorRoom + (rest.map fun v => v.category).sum ≤ 8) (hdg : decode cc g.pc = .ok (.invokevirtual index, 3)) (hf : cells + mc ≤ R.cells ∧ slots + ms ≤ R.slots) :
    vx_Run p l e R s m args below meth c H locs cells slots mc ms g rest (Qc (Value.ref b :: As).toArray) XC free := by
  obtain ⟨⟨hrc, hrs, hfr, hlo, hws, hcw⟩, hcode, hini, hy, hlen, hl, hin, hse⟩ := cw
  have hK : vx_Back l R p e below s args y 3 8 (PreOf R mc ms Pc) (PostOf Qc mc ms free) (vx_Post XC mc ms free) := vx_backW (hh := hh) (bytes := bytes) (maxL := maxL) (ret := ret) hM hp.1 hrc hrs hfr hlo hws hcw (fun a' U hW => word_at hW (Or.inl (by first | rfl | simp [Cond.onTables, Cond.keeps, Cond.steady])) hini)
  obtain ⟨hx, hb, hml, ho, -⟩ := S
  obtain ⟨-, ⟨cellB, hcB, hoB, hclB⟩, hPc⟩ := hp
  intro T hT X
  rcases vx_callVX X hx (C := C) (hh := hh) (bytes := bytes) (maxL := maxL) (ret := ret) ho hl hin hse hcode hy hK (by rw [hT]; exact hcB) hoB hclB hg (hsize.trans hml.symm) (argsL := As) (rest := rest) (fun sig h => hn.trans (hlen sig h)) hstack hW (by rw [hb]; exact hdg)
    (fun vm₁ hW₁ => ⟨hf.1, hf.2, hPc (T.setVm vm₁) hT hW₁⟩) with ⟨v, vm₁, ⟨U', l2, c2, s2⟩, hW₁, X', ⟨g', mk, t, L, e1, e2, hq, h1, hL, h2, h3⟩, st⟩ | ⟨q, vm₁, ⟨U', l2, c2, s2⟩, hW₁, X', ⟨g', mk, t, L, E, ce, e1, e2, hq, hce, hcv, hcl, h1, hL, h2, h3⟩, st⟩
  · dsimp only [Pt.U, Pt.locs, Pt.cells, Pt.slots] at X' e1 e2 h1 h2 h3 st
    subst h1; subst h2; subst h3
    exact Or.inl ⟨v, (T.setVm vm₁).calling g' mk (Value.ref b :: As).toArray, t, U', L, hT, X', hL, e1, e2, hq, st⟩
  · dsimp only [Pt.U, Pt.locs, Pt.cells, Pt.slots] at X' e1 e2 h1 h2 h3 st hcl
    subst h1; subst h2; subst h3
    exact Or.inr ⟨q, (T.setVm vm₁).calling g' mk (Value.ref b :: As).toArray, t, U', L, E, ce, hT, X', hL, e1, e2, hq, hce, hcv, vx_cls hW₁ hcl, st⟩
theorem vx_runSX {hh : List (Nat × Nat × Nat × Nat)} (S : CallFix p m c cc nL s args Ts own) (hM : vx_Met l y ws rm Pc Qc XC mc ms free) (cw : vx_CSW R s args own index y bytes maxL ret hh ws rm mc ms n) (hp : PreS s H Pc As)
    (hg : g.method = m) (hn : As.length = n) (hsize : g.locals.size = nL) (hstack : g.stack = As.reverse ++ rest) (hW : 2 * g.monitorRoom + (rest.map fun v => v.category).sum ≤ 8) (hdg : decode cc g.pc = .ok (.invokestatic index, 3)) (hf : cells + mc ≤ R.cells ∧ slots + ms ≤ R.slots) :
    vx_Run p l e R s m args below meth c H locs cells slots mc ms g rest (Qc As.toArray) XC free := by
  obtain ⟨⟨hrc, hrs, hfr, hlo, hws, hcw⟩, hcode, hini, hy, hlen, hl, hstt⟩ := cw
  have hK : vx_Back l R p e below s args y 3 8 (PreOf R mc ms Pc) (PostOf Qc mc ms free) (vx_Post XC mc ms free) := vx_backW (hh := hh) (bytes := bytes) (maxL := maxL) (ret := ret) hM hp.1 hrc hrs hfr hlo hws hcw (fun a' U hW => word_at hW (Or.inl (by first | rfl | simp [Cond.onTables, Cond.keeps, Cond.steady])) hini)
  obtain ⟨hx, hb, hml, ho, -⟩ := S
  intro T hT X
  rcases vx_callSX X hx (hh := hh) (bytes := bytes) (maxL := maxL) (ret := ret) ho hl hstt hini hcode hy hK hg (hsize.trans hml.symm) (argsL := As) (rest := rest) (fun sig h => hn.trans (hlen sig h)) hstack hW (by rw [hb]; exact hdg)
    (fun vm₁ hW₁ => ⟨hf.1, hf.2, hp.2 (T.setVm vm₁) hT hW₁⟩) with ⟨v, vm₁, ⟨U', l2, c2, s2⟩, hW₁, X', ⟨g', mk, t, L, e1, e2, hq, h1, hL, h2, h3⟩, st⟩ | ⟨q, vm₁, ⟨U', l2, c2, s2⟩, hW₁, X', ⟨g', mk, t, L, E, ce, e1, e2, hq, hce, hcv, hcl, h1, hL, h2, h3⟩, st⟩
  · dsimp only [Pt.U, Pt.locs, Pt.cells, Pt.slots] at X' e1 e2 h1 h2 h3 st
    subst h1; subst h2; subst h3
    exact Or.inl ⟨v, (T.setVm vm₁).calling g' mk As.toArray, t, U', L, hT, X', hL, e1, e2, hq, st⟩
  · dsimp only [Pt.U, Pt.locs, Pt.cells, Pt.slots] at X' e1 e2 h1 h2 h3 st hcl
    subst h1; subst h2; subst h3
    exact Or.inr ⟨q, (T.setVm vm₁).calling g' mk As.toArray, t, U', L, E, ce, hT, X', hL, e1, e2, hq, hce, hcv, vx_cls hW₁ hcl, st⟩
end
end VXH
theorem vx_ofWH {l : Launch} {y : MethodName} {ws ws' : List Cond} {rm : Room} {Pc : Array Value → State → Prop} {Qc : Array Value → State → Outcome → State → Prop} {XC : String → State → State → Prop} {mc ms : Nat} {free : Addr → Prop} {cc : ByteArray} {maxL : Nat} {ret : Option FieldType} {hh : List (Nat × Nat × Nat × Nat)}
    (hy : plainName y.cls = true) (hw : ws = Cond.codeWith y cc maxL ret hh :: ws')
    (body : ∀ p e s m args below meth c s₁, BodyLoose p l y (headSpec ws rm) cc maxL ret e s m args below meth c s₁ → c.maxLocals = maxL → Pc args s →
      W p l e (headSpec ws rm).room s m args below meth c s.heap [] 0 0 (vx_MQ below Qc XC args s mc ms free) (entryFrame m args maxL)) : vx_Met l y ws rm Pc Qc XC mc ms free := by
  refine MetFree.of_bodyS (code := cc) (maxLocals := maxL) (ret := ret) hy ?_ ?_
  · intro args s m h hn
    obtain ⟨m9, meth, c, hn9, h1, h2, h3, h4, -, h5, h6, -⟩ := Cond.codeWith_spec (atoms_spec (ws := ws) h _ (by rw [hw]; exact List.mem_cons_self))
    cases hn.symm.trans hn9
    exact ⟨meth, c, h1, h2, h3, h4, h5, h6⟩
  · intro p e s m args below meth c s₁ B hml hP _
    have hh0 : s₁.heap = s.heap := by rw [B.state]; rfl
    obtain ⟨t, a1, o, b1, b2, b3⟩ := body p e s m args below meth c s₁ B hml hP s₁ hh0 (Stand.of_body B)
    exact ⟨t, o, a1, b1, b2, b3⟩
/-! ===== END ===== -/

/-! ===== BEGIN printed: names, fields, word lists, decode rows ===== -/
def RX0 : String := "GroupBids$Auction"
def TX0 : u_T := fun k => match k with
  | 0 => ("GroupBids$Auction", "group", "LGroupBids$Group;", true)
  | 1 => ("GroupBids$Auction", "bidders", "[LGroupBids$Bidder;", true)
  | 2 => ("GroupBids$Auction", "lots", "LGroupBids$Row;", true)
  | 3 => ("GroupBids$Auction", "bidPlayers", "LGroupBids$Row;", true)
  | 4 => ("GroupBids$Auction", "bidElements", "LGroupBids$Row;", true)
  | 5 => ("GroupBids$Auction", "bidPrices", "LGroupBids$Row;", true)
  | 6 => ("GroupBids$Auction", "plainRule", "LGroupBids$PriceRule;", true)
  | 7 => ("GroupBids$Auction", "rule", "LGroupBids$PriceRule;", false)
  | 8 => ("GroupBids$Auction", "points", "I", false)
  | 9 => ("GroupBids$Auction", "players", "I", false)
  | 10 => ("GroupBids$Auction", "present", "I", false)
  | 11 => ("GroupBids$Auction", "turn", "I", false)
  | 12 => ("GroupBids$Auction", "pot", "I", false)
  | 13 => ("GroupBids$Auction", "passes", "I", false)
  | _ => ("GroupBids$Auction", "house", "I", false)
def tyX0 : Nat → FieldType := fun k => match k with
  | 0 => .object "GroupBids$Group"
  | 1 => .array (.object "GroupBids$Bidder")
  | 2 => .object "GroupBids$Row"
  | 3 => .object "GroupBids$Row"
  | 4 => .object "GroupBids$Row"
  | 5 => .object "GroupBids$Row"
  | 6 => .object "GroupBids$PriceRule"
  | 7 => .object "GroupBids$PriceRule"
  | 8 => .int
  | 9 => .int
  | 10 => .int
  | 11 => .int
  | 12 => .int
  | 13 => .int
  | _ => .int
abbrev wsX00 : List Cond := u_ws RX0 TX0 15
theorem nmX0 : ∀ a, a < 15 → ∀ b, b < 15 → a ≠ b → (TX0 a).2.1 ≠ (TX0 b).2.1 := by decide +kernel
theorem tyX0_ok : ∀ k, k < 15 → parseFieldDescriptor (TX0 k).2.2.1 = some (tyX0 k) := by decide +kernel
abbrev cX0_init : ByteArray := prog_2_method_1_code
def yX0_init : MethodName := ⟨RX0, "<init>", "(LGroupBids$Group;)V"⟩
abbrev cX0_start : ByteArray := prog_2_method_2_code
def yX0_start : MethodName := ⟨RX0, "start", "()V"⟩
abbrev cX0_copyFrom : ByteArray := prog_2_method_3_code
def yX0_copyFrom : MethodName := ⟨RX0, "copyFrom", "(LGroupBids$Auction;)V"⟩
abbrev cX0_setRule : ByteArray := prog_2_method_4_code
def yX0_setRule : MethodName := ⟨RX0, "setRule", "(LGroupBids$PriceRule;)V"⟩
abbrev cX0_bidder : ByteArray := prog_2_method_5_code
def yX0_bidder : MethodName := ⟨RX0, "bidder", "(I)LGroupBids$Bidder;"⟩
abbrev cX0_addPlayer : ByteArray := prog_2_method_6_code
def yX0_addPlayer : MethodName := ⟨RX0, "addPlayer", "(I)V"⟩
abbrev cX0_isOver : ByteArray := prog_2_method_7_code
def yX0_isOver : MethodName := ⟨RX0, "isOver", "()Z"⟩
abbrev cX0_productOfBids : ByteArray := prog_2_method_8_code
def yX0_productOfBids : MethodName := ⟨RX0, "productOfBids", "(II)I"⟩
abbrev cX0_winningElement : ByteArray := prog_2_method_9_code
def yX0_winningElement : MethodName := ⟨RX0, "winningElement", "()I"⟩
abbrev cX0_priceOf : ByteArray := prog_2_method_10_code
def yX0_priceOf : MethodName := ⟨RX0, "priceOf", "(LGroupBids$Bidder;I)I"⟩
abbrev cX0_playCard : ByteArray := prog_2_method_11_code
def yX0_playCard : MethodName := ⟨RX0, "playCard", "(I)I"⟩
abbrev cX0_cancelBid : ByteArray := prog_2_method_12_code
def yX0_cancelBid : MethodName := ⟨RX0, "cancelBid", "(II)I"⟩
abbrev cX0_passTurn : ByteArray := prog_2_method_13_code
def yX0_passTurn : MethodName := ⟨RX0, "passTurn", "()I"⟩
abbrev cX0_endMove : ByteArray := prog_2_method_14_code
def yX0_endMove : MethodName := ⟨RX0, "endMove", "(LGroupBids$Bidder;)I"⟩
abbrev cX0_openNextLot : ByteArray := prog_2_method_15_code
def yX0_openNextLot : MethodName := ⟨RX0, "openNextLot", "()V"⟩
abbrev cX0_clearLot : ByteArray := prog_2_method_16_code
def yX0_clearLot : MethodName := ⟨RX0, "clearLot", "()V"⟩
abbrev cX0_turnToNext : ByteArray := prog_2_method_17_code
def yX0_turnToNext : MethodName := ⟨RX0, "turnToNext", "()V"⟩
def RX1 : String := "GroupBids$Bidder"
def TX1 : u_T := fun k => match k with
  | 0 => ("GroupBids$Bidder", "elements", "LGroupBids$Row;", true)
  | 1 => ("GroupBids$Bidder", "bases", "LGroupBids$Row;", true)
  | 2 => ("GroupBids$Bidder", "purse", "I", false)
  | _ => ("GroupBids$Bidder", "wins", "I", false)
def tyX1 : Nat → FieldType := fun k => match k with
  | 0 => .object "GroupBids$Row"
  | 1 => .object "GroupBids$Row"
  | 2 => .int
  | _ => .int
abbrev wsX10 : List Cond := u_ws RX1 TX1 4
theorem nmX1 : ∀ a, a < 4 → ∀ b, b < 4 → a ≠ b → (TX1 a).2.1 ≠ (TX1 b).2.1 := by decide +kernel
theorem tyX1_ok : ∀ k, k < 4 → parseFieldDescriptor (TX1 k).2.2.1 = some (tyX1 k) := by decide +kernel
abbrev cX1_init : ByteArray := prog_3_method_1_code
def yX1_init : MethodName := ⟨RX1, "<init>", "()V"⟩
abbrev cX1_start : ByteArray := prog_3_method_2_code
def yX1_start : MethodName := ⟨RX1, "start", "(I)V"⟩
abbrev cX1_copyFrom : ByteArray := prog_3_method_3_code
def yX1_copyFrom : MethodName := ⟨RX1, "copyFrom", "(LGroupBids$Bidder;)V"⟩
abbrev cX1_takeCard : ByteArray := prog_3_method_4_code
def yX1_takeCard : MethodName := ⟨RX1, "takeCard", "(II)V"⟩
abbrev cX1_dropCard : ByteArray := prog_3_method_5_code
def yX1_dropCard : MethodName := ⟨RX1, "dropCard", "(I)V"⟩
abbrev cX1_receive : ByteArray := prog_3_method_6_code
def yX1_receive : MethodName := ⟨RX1, "receive", "(I)V"⟩
def RX2 : String := "GroupBids$Group"
def TX2 : u_T := fun k => match k with
  | 0 => ("GroupBids$Group", "goals", "[I", true)
  | _ => ("GroupBids$Group", "elements", "[I", true)
def tyX2 : Nat → FieldType := fun k => match k with
  | 0 => .array .int
  | _ => .array .int
abbrev wsX20 : List Cond := u_ws RX2 TX2 2
theorem nmX2 : ∀ a, a < 2 → ∀ b, b < 2 → a ≠ b → (TX2 a).2.1 ≠ (TX2 b).2.1 := by decide +kernel
theorem tyX2_ok : ∀ k, k < 2 → parseFieldDescriptor (TX2 k).2.2.1 = some (tyX2 k) := by decide +kernel
abbrev cX2_init : ByteArray := prog_4_method_1_code
def yX2_init : MethodName := ⟨RX2, "<init>", "()V"⟩
abbrev cX2_count : ByteArray := prog_4_method_2_code
def yX2_count : MethodName := ⟨RX2, "count", "(I)I"⟩
abbrev cX2_goal : ByteArray := prog_4_method_3_code
def yX2_goal : MethodName := ⟨RX2, "goal", "(II)I"⟩
abbrev cX2_longerKey : ByteArray := prog_4_method_4_code
def yX2_longerKey : MethodName := ⟨RX2, "longerKey", "(II)I"⟩
abbrev cX2_withKey : ByteArray := prog_4_method_5_code
def yX2_withKey : MethodName := ⟨RX2, "withKey", "(I)I"⟩
abbrev cX2_times : ByteArray := prog_4_method_6_code
def yX2_times : MethodName := ⟨RX2, "times", "(II)I"⟩
abbrev cX2_opposite : ByteArray := prog_4_method_7_code
def yX2_opposite : MethodName := ⟨RX2, "opposite", "(I)I"⟩
abbrev cX2_period : ByteArray := prog_4_method_8_code
def yX2_period : MethodName := ⟨RX2, "period", "(I)I"⟩
abbrev cX2_fromNumber : ByteArray := prog_4_method_9_code
def yX2_fromNumber : MethodName := ⟨RX2, "fromNumber", "(II)I"⟩
abbrev cX2_toNumber : ByteArray := prog_4_method_10_code
def yX2_toNumber : MethodName := ⟨RX2, "toNumber", "(II)I"⟩
def RX3 : String := "GroupBids$Hands"
def TX3 : u_T := fun k => match k with
  | 0 => ("GroupBids$Hands", "group", "LGroupBids$Group;", true)
  | 1 => ("GroupBids$Hands", "columns", "[I", true)
  | 2 => ("GroupBids$Hands", "sets", "[J", true)
  | 3 => ("GroupBids$Hands", "found", "LGroupBids$Row;", true)
  | 4 => ("GroupBids$Hands", "cards", "I", false)
  | _ => ("GroupBids$Hands", "masks", "I", false)
def tyX3 : Nat → FieldType := fun k => match k with
  | 0 => .object "GroupBids$Group"
  | 1 => .array .int
  | 2 => .array .long
  | 3 => .object "GroupBids$Row"
  | 4 => .int
  | _ => .int
abbrev wsX30 : List Cond := u_ws RX3 TX3 6
theorem nmX3 : ∀ a, a < 6 → ∀ b, b < 6 → a ≠ b → (TX3 a).2.1 ≠ (TX3 b).2.1 := by decide +kernel
theorem tyX3_ok : ∀ k, k < 6 → parseFieldDescriptor (TX3 k).2.2.1 = some (tyX3 k) := by decide +kernel
abbrev cX3_init : ByteArray := prog_5_method_1_code
def yX3_init : MethodName := ⟨RX3, "<init>", "(LGroupBids$Group;)V"⟩
abbrev cX3_study : ByteArray := prog_5_method_2_code
def yX3_study : MethodName := ⟨RX3, "study", "(LGroupBids$Bidder;I)V"⟩
abbrev cX3_takeHand : ByteArray := prog_5_method_3_code
def yX3_takeHand : MethodName := ⟨RX3, "takeHand", "(LGroupBids$Bidder;I)V"⟩
abbrev cX3_timesCard : ByteArray := prog_5_method_4_code
def yX3_timesCard : MethodName := ⟨RX3, "timesCard", "(II)I"⟩
abbrev cX3_hasRoomFor : ByteArray := prog_5_method_5_code
def yX3_hasRoomFor : MethodName := ⟨RX3, "hasRoomFor", "(II)Z"⟩
abbrev cX3_include : ByteArray := prog_5_method_6_code
def yX3_include : MethodName := ⟨RX3, "include", "(II)V"⟩
abbrev cX3_contains : ByteArray := prog_5_method_7_code
def yX3_contains : MethodName := ⟨RX3, "contains", "(II)Z"⟩
abbrev cX3_extend : ByteArray := prog_5_method_8_code
def yX3_extend : MethodName := ⟨RX3, "extend", "(II)V"⟩
abbrev cX3_countReached : ByteArray := prog_5_method_9_code
def yX3_countReached : MethodName := ⟨RX3, "countReached", "()I"⟩
abbrev cX3_isReached : ByteArray := prog_5_method_10_code
def yX3_isReached : MethodName := ⟨RX3, "isReached", "(I)Z"⟩
abbrev cX3_countGenerated : ByteArray := prog_5_method_11_code
def yX3_countGenerated : MethodName := ⟨RX3, "countGenerated", "(LGroupBids$Bidder;I)I"⟩
abbrev cX3_find : ByteArray := prog_5_method_12_code
def yX3_find : MethodName := ⟨RX3, "find", "(I)V"⟩
abbrev cX3_fewestCardsFor : ByteArray := prog_5_method_13_code
def yX3_fewestCardsFor : MethodName := ⟨RX3, "fewestCardsFor", "(I)I"⟩
abbrev cX3_smallestSumFor : ByteArray := prog_5_method_14_code
def yX3_smallestSumFor : MethodName := ⟨RX3, "smallestSumFor", "(ILGroupBids$Row;)I"⟩
abbrev cX3_sumOf : ByteArray := prog_5_method_15_code
def yX3_sumOf : MethodName := ⟨RX3, "sumOf", "(ILGroupBids$Row;)I"⟩
abbrev cX3_firstCardFor : ByteArray := prog_5_method_16_code
def yX3_firstCardFor : MethodName := ⟨RX3, "firstCardFor", "(ILGroupBids$Row;)I"⟩
def RX4 : String := "GroupBids$History"
def TX4 : u_T := fun k => match k with
  | 0 => ("GroupBids$History", "ring", "[LGroupBids$Auction;", true)
  | 1 => ("GroupBids$History", "oldest", "I", false)
  | _ => ("GroupBids$History", "count", "I", false)
def tyX4 : Nat → FieldType := fun k => match k with
  | 0 => .array (.object "GroupBids$Auction")
  | 1 => .int
  | _ => .int
abbrev wsX40 : List Cond := u_ws RX4 TX4 3
theorem nmX4 : ∀ a, a < 3 → ∀ b, b < 3 → a ≠ b → (TX4 a).2.1 ≠ (TX4 b).2.1 := by decide +kernel
theorem tyX4_ok : ∀ k, k < 3 → parseFieldDescriptor (TX4 k).2.2.1 = some (tyX4 k) := by decide +kernel
abbrev cX4_init : ByteArray := prog_6_method_1_code
def yX4_init : MethodName := ⟨RX4, "<init>", "(LGroupBids$Group;)V"⟩
abbrev cX4_size : ByteArray := prog_6_method_2_code
def yX4_size : MethodName := ⟨RX4, "size", "()I"⟩
abbrev cX4_placeOf : ByteArray := prog_6_method_3_code
def yX4_placeOf : MethodName := ⟨RX4, "placeOf", "(I)I"⟩
abbrev cX4_remember : ByteArray := prog_6_method_4_code
def yX4_remember : MethodName := ⟨RX4, "remember", "(LGroupBids$Auction;)V"⟩
abbrev cX4_bringBack : ByteArray := prog_6_method_5_code
def yX4_bringBack : MethodName := ⟨RX4, "bringBack", "(LGroupBids$Auction;)V"⟩
def RX5 : String := "GroupBids$PriceRule"
def TX5 : u_T := fun k => match k with
  | 0 => ("GroupBids$PriceRule", "codes", "[I", true)
  | _ => ("GroupBids$PriceRule", "stack", "[J", true)
def tyX5 : Nat → FieldType := fun k => match k with
  | 0 => .array .int
  | _ => .array .long
abbrev wsX50 : List Cond := u_ws RX5 TX5 2
theorem nmX5 : ∀ a, a < 2 → ∀ b, b < 2 → a ≠ b → (TX5 a).2.1 ≠ (TX5 b).2.1 := by decide +kernel
theorem tyX5_ok : ∀ k, k < 2 → parseFieldDescriptor (TX5 k).2.2.1 = some (tyX5 k) := by decide +kernel
abbrev cX5_init : ByteArray := prog_7_method_1_code
def yX5_init : MethodName := ⟨RX5, "<init>", "([I)V"⟩
abbrev cX5_price : ByteArray := prog_7_method_2_code
def yX5_price : MethodName := ⟨RX5, "price", "(IIII)I"⟩
abbrev cX5_operand : ByteArray := prog_7_method_3_code
def yX5_operand : MethodName := ⟨RX5, "operand", "(IIIII)I"⟩
abbrev cX5_result : ByteArray := prog_7_method_4_code
def yX5_result : MethodName := ⟨RX5, "result", "(IJJ)J"⟩
def RX6 : String := "GroupBids$Row"
def TX6 : u_T := fun k => match k with
  | 0 => ("GroupBids$Row", "cells", "[I", true)
  | _ => ("GroupBids$Row", "size", "I", false)
def tyX6 : Nat → FieldType := fun k => match k with
  | 0 => .array .int
  | _ => .int
abbrev wsX60 : List Cond := u_ws RX6 TX6 2
theorem nmX6 : ∀ a, a < 2 → ∀ b, b < 2 → a ≠ b → (TX6 a).2.1 ≠ (TX6 b).2.1 := by decide +kernel
theorem tyX6_ok : ∀ k, k < 2 → parseFieldDescriptor (TX6 k).2.2.1 = some (tyX6 k) := by decide +kernel
abbrev cX6_init : ByteArray := prog_8_method_1_code
def yX6_init : MethodName := ⟨RX6, "<init>", "(I)V"⟩
abbrev cX6_size : ByteArray := prog_8_method_2_code
def yX6_size : MethodName := ⟨RX6, "size", "()I"⟩
abbrev cX6_isFull : ByteArray := prog_8_method_3_code
def yX6_isFull : MethodName := ⟨RX6, "isFull", "()Z"⟩
abbrev cX6_holds : ByteArray := prog_8_method_4_code
def yX6_holds : MethodName := ⟨RX6, "holds", "(I)Z"⟩
abbrev cX6_at : ByteArray := prog_8_method_5_code
def yX6_at : MethodName := ⟨RX6, "at", "(I)I"⟩
abbrev cX6_push : ByteArray := prog_8_method_6_code
def yX6_push : MethodName := ⟨RX6, "push", "(I)V"⟩
abbrev cX6_remove : ByteArray := prog_8_method_7_code
def yX6_remove : MethodName := ⟨RX6, "remove", "(I)V"⟩
abbrev cX6_clear : ByteArray := prog_8_method_8_code
def yX6_clear : MethodName := ⟨RX6, "clear", "()V"⟩
abbrev cX6_copyFrom : ByteArray := prog_8_method_9_code
def yX6_copyFrom : MethodName := ⟨RX6, "copyFrom", "(LGroupBids$Row;)V"⟩
abbrev cX6_toArray : ByteArray := prog_8_method_10_code
def yX6_toArray : MethodName := ⟨RX6, "toArray", "()[I"⟩
def RX7 : String := "GroupBids$SetupReader"
def TX7 : u_T := fun k => match k with
  | 0 => ("GroupBids$SetupReader", "group", "LGroupBids$Group;", true)
  | 1 => ("GroupBids$SetupReader", "text", "[I", true)
  | 2 => ("GroupBids$SetupReader", "size", "I", false)
  | 3 => ("GroupBids$SetupReader", "length", "I", false)
  | 4 => ("GroupBids$SetupReader", "tokenKind", "I", false)
  | 5 => ("GroupBids$SetupReader", "tokenAt", "I", false)
  | 6 => ("GroupBids$SetupReader", "tokenEnd", "I", false)
  | 7 => ("GroupBids$SetupReader", "tokenValue", "I", false)
  | 8 => ("GroupBids$SetupReader", "taken", "I", false)
  | 9 => ("GroupBids$SetupReader", "target", "LGroupBids$Auction;", true)
  | 10 => ("GroupBids$SetupReader", "codes", "LGroupBids$Row;", true)
  | 11 => ("GroupBids$SetupReader", "hasPrice", "Z", false)
  | 12 => ("GroupBids$SetupReader", "error", "I", false)
  | _ => ("GroupBids$SetupReader", "errorAt", "I", false)
def tyX7 : Nat → FieldType := fun k => match k with
  | 0 => .object "GroupBids$Group"
  | 1 => .array .int
  | 2 => .int
  | 3 => .int
  | 4 => .int
  | 5 => .int
  | 6 => .int
  | 7 => .int
  | 8 => .int
  | 9 => .object "GroupBids$Auction"
  | 10 => .object "GroupBids$Row"
  | 11 => .boolean
  | 12 => .int
  | _ => .int
abbrev wsX70 : List Cond := u_ws RX7 TX7 14
theorem nmX7 : ∀ a, a < 14 → ∀ b, b < 14 → a ≠ b → (TX7 a).2.1 ≠ (TX7 b).2.1 := by decide +kernel
theorem tyX7_ok : ∀ k, k < 14 → parseFieldDescriptor (TX7 k).2.2.1 = some (tyX7 k) := by decide +kernel
abbrev cX7_init : ByteArray := prog_9_method_1_code
def yX7_init : MethodName := ⟨RX7, "<init>", "(LGroupBids$Group;)V"⟩
abbrev cX7_textLength : ByteArray := prog_9_method_2_code
def yX7_textLength : MethodName := ⟨RX7, "textLength", "()I"⟩
abbrev cX7_hasRoomForFiveWords : ByteArray := prog_9_method_3_code
def yX7_hasRoomForFiveWords : MethodName := ⟨RX7, "hasRoomForFiveWords", "()Z"⟩
abbrev cX7_addWord : ByteArray := prog_9_method_4_code
def yX7_addWord : MethodName := ⟨RX7, "addWord", "(I)V"⟩
abbrev cX7_errorPlace : ByteArray := prog_9_method_5_code
def yX7_errorPlace : MethodName := ⟨RX7, "errorPlace", "()I"⟩
abbrev cX7_result : ByteArray := prog_9_method_6_code
def yX7_result : MethodName := ⟨RX7, "result", "()LGroupBids$Auction;"⟩
abbrev cX7_read : ByteArray := prog_9_method_7_code
def yX7_read : MethodName := ⟨RX7, "read", "(I)I"⟩
abbrev cX7_fail : ByteArray := prog_9_method_8_code
def yX7_fail : MethodName := ⟨RX7, "fail", "(II)Z"⟩
abbrev cX7_advance : ByteArray := prog_9_method_9_code
def yX7_advance : MethodName := ⟨RX7, "advance", "()V"⟩
abbrev cX7_isDigit : ByteArray := prog_9_method_10_code
def yX7_isDigit : MethodName := ⟨RX7, "isDigit", "(I)Z"⟩
abbrev cX7_isLetter : ByteArray := prog_9_method_11_code
def yX7_isLetter : MethodName := ⟨RX7, "isLetter", "(I)Z"⟩
abbrev cX7_isWord : ByteArray := prog_9_method_12_code
def yX7_isWord : MethodName := ⟨RX7, "isWord", "(Ljava/lang/String;)Z"⟩
abbrev cX7_isSign : ByteArray := prog_9_method_13_code
def yX7_isSign : MethodName := ⟨RX7, "isSign", "(C)Z"⟩
abbrev cX7_takeSign : ByteArray := prog_9_method_14_code
def yX7_takeSign : MethodName := ⟨RX7, "takeSign", "(C)Z"⟩
abbrev cX7_takeNumber : ByteArray := prog_9_method_15_code
def yX7_takeNumber : MethodName := ⟨RX7, "takeNumber", "(II)Z"⟩
abbrev cX7_takeElement : ByteArray := prog_9_method_16_code
def yX7_takeElement : MethodName := ⟨RX7, "takeElement", "()Z"⟩
abbrev cX7_takeGroup : ByteArray := prog_9_method_17_code
def yX7_takeGroup : MethodName := ⟨RX7, "takeGroup", "()Z"⟩
abbrev cX7_takeStatement : ByteArray := prog_9_method_18_code
def yX7_takeStatement : MethodName := ⟨RX7, "takeStatement", "()Z"⟩
abbrev cX7_takePlayer : ByteArray := prog_9_method_19_code
def yX7_takePlayer : MethodName := ⟨RX7, "takePlayer", "()Z"⟩
abbrev cX7_takeCard : ByteArray := prog_9_method_20_code
def yX7_takeCard : MethodName := ⟨RX7, "takeCard", "()Z"⟩
abbrev cX7_takeLot : ByteArray := prog_9_method_21_code
def yX7_takeLot : MethodName := ⟨RX7, "takeLot", "()Z"⟩
abbrev cX7_takePrice : ByteArray := prog_9_method_22_code
def yX7_takePrice : MethodName := ⟨RX7, "takePrice", "()Z"⟩
abbrev cX7_takeSum : ByteArray := prog_9_method_23_code
def yX7_takeSum : MethodName := ⟨RX7, "takeSum", "(I)Z"⟩
abbrev cX7_takeTerm : ByteArray := prog_9_method_24_code
def yX7_takeTerm : MethodName := ⟨RX7, "takeTerm", "(I)Z"⟩
abbrev cX7_takeFactor : ByteArray := prog_9_method_25_code
def yX7_takeFactor : MethodName := ⟨RX7, "takeFactor", "(I)Z"⟩
abbrev cX7_takeVariable : ByteArray := prog_9_method_26_code
def yX7_takeVariable : MethodName := ⟨RX7, "takeVariable", "()Z"⟩
def RX8 : String := "GroupBids"
def TX8 : u_T := fun k => match k with
  | 0 => ("GroupBids", "group", "LGroupBids$Group;", true)
  | 1 => ("GroupBids", "reader", "LGroupBids$SetupReader;", true)
  | 2 => ("GroupBids", "now", "LGroupBids$Auction;", true)
  | 3 => ("GroupBids", "history", "LGroupBids$History;", true)
  | 4 => ("GroupBids", "hands", "LGroupBids$Hands;", true)
  | _ => ("GroupBids", "errorAt", "I", false)
def tyX8 : Nat → FieldType := fun k => match k with
  | 0 => .object "GroupBids$Group"
  | 1 => .object "GroupBids$SetupReader"
  | 2 => .object "GroupBids$Auction"
  | 3 => .object "GroupBids$History"
  | 4 => .object "GroupBids$Hands"
  | _ => .int
abbrev wsX80 : List Cond := u_ws RX8 TX8 6
theorem nmX8 : ∀ a, a < 6 → ∀ b, b < 6 → a ≠ b → (TX8 a).2.1 ≠ (TX8 b).2.1 := by decide +kernel
theorem tyX8_ok : ∀ k, k < 6 → parseFieldDescriptor (TX8 k).2.2.1 = some (tyX8 k) := by decide +kernel
abbrev cX8_init : ByteArray := prog_1_method_1_code
def yX8_init : MethodName := ⟨RX8, "<init>", "()V"⟩
abbrev cX8_append : ByteArray := prog_1_method_2_code
def yX8_append : MethodName := ⟨RX8, "append", "(IIIII)I"⟩
abbrev cX8_load : ByteArray := prog_1_method_3_code
def yX8_load : MethodName := ⟨RX8, "load", "(I)I"⟩
abbrev cX8_errorOffset : ByteArray := prog_1_method_4_code
def yX8_errorOffset : MethodName := ⟨RX8, "errorOffset", "()I"⟩
abbrev cX8_state : ByteArray := prog_1_method_5_code
def yX8_state : MethodName := ⟨RX8, "state", "(I)I"⟩
abbrev cX8_player : ByteArray := prog_1_method_6_code
def yX8_player : MethodName := ⟨RX8, "player", "(II)I"⟩
abbrev cX8_card : ByteArray := prog_1_method_7_code
def yX8_card : MethodName := ⟨RX8, "card", "(III)I"⟩
abbrev cX8_bid : ByteArray := prog_1_method_8_code
def yX8_bid : MethodName := ⟨RX8, "bid", "(II)I"⟩
abbrev cX8_product : ByteArray := prog_1_method_9_code
def yX8_product : MethodName := ⟨RX8, "product", "()I"⟩
abbrev cX8_productOf : ByteArray := prog_1_method_10_code
def yX8_productOf : MethodName := ⟨RX8, "productOf", "(II)I"⟩
abbrev cX8_multiply : ByteArray := prog_1_method_11_code
def yX8_multiply : MethodName := ⟨RX8, "multiply", "(II)I"⟩
abbrev cX8_inverse : ByteArray := prog_1_method_12_code
def yX8_inverse : MethodName := ⟨RX8, "inverse", "(I)I"⟩
abbrev cX8_order : ByteArray := prog_1_method_13_code
def yX8_order : MethodName := ⟨RX8, "order", "(I)I"⟩
abbrev cX8_reach : ByteArray := prog_1_method_14_code
def yX8_reach : MethodName := ⟨RX8, "reach", "(I)I"⟩
abbrev cX8_reaches : ByteArray := prog_1_method_15_code
def yX8_reaches : MethodName := ⟨RX8, "reaches", "(II)Z"⟩
abbrev cX8_generated : ByteArray := prog_1_method_16_code
def yX8_generated : MethodName := ⟨RX8, "generated", "(I)I"⟩
abbrev cX8_fewest : ByteArray := prog_1_method_17_code
def yX8_fewest : MethodName := ⟨RX8, "fewest", "(I)I"⟩
abbrev cX8_cheapest : ByteArray := prog_1_method_18_code
def yX8_cheapest : MethodName := ⟨RX8, "cheapest", "(I)I"⟩
abbrev cX8_opening : ByteArray := prog_1_method_19_code
def yX8_opening : MethodName := ⟨RX8, "opening", "(I)I"⟩
abbrev cX8_play : ByteArray := prog_1_method_20_code
def yX8_play : MethodName := ⟨RX8, "play", "(I)I"⟩
abbrev cX8_cancel : ByteArray := prog_1_method_21_code
def yX8_cancel : MethodName := ⟨RX8, "cancel", "(II)I"⟩
abbrev cX8_pass : ByteArray := prog_1_method_22_code
def yX8_pass : MethodName := ⟨RX8, "pass", "()I"⟩
abbrev cX8_give : ByteArray := prog_1_method_23_code
def yX8_give : MethodName := ⟨RX8, "give", "(III)I"⟩
abbrev cX8_discard : ByteArray := prog_1_method_24_code
def yX8_discard : MethodName := ⟨RX8, "discard", "(II)I"⟩
abbrev cX8_undo : ByteArray := prog_1_method_25_code
def yX8_undo : MethodName := ⟨RX8, "undo", "()I"⟩
abbrev cX8_checksum : ByteArray := prog_1_method_26_code
def yX8_checksum : MethodName := ⟨RX8, "checksum", "()J"⟩
abbrev cX8_withPlayer : ByteArray := prog_1_method_27_code
def yX8_withPlayer : MethodName := ⟨RX8, "withPlayer", "(JI)J"⟩
abbrev cX8_existing : ByteArray := prog_1_method_28_code
def yX8_existing : MethodName := ⟨RX8, "existing", "(I)LGroupBids$Bidder;"⟩
abbrev cX8_bidderInTurn : ByteArray := prog_1_method_29_code
def yX8_bidderInTurn : MethodName := ⟨RX8, "bidderInTurn", "()LGroupBids$Bidder;"⟩
abbrev cX8_elementOf : ByteArray := prog_1_method_30_code
def yX8_elementOf : MethodName := ⟨RX8, "elementOf", "(I)I"⟩
abbrev cX8_numberOf : ByteArray := prog_1_method_31_code
def yX8_numberOf : MethodName := ⟨RX8, "numberOf", "(I)I"⟩
def RX9 : String := "GroupBidsModel"
def TX9 : u_T := fun k => match k with
  | 0 => ("GroupBidsModel", "thrown", "I", false)
  | 1 => ("GroupBidsModel", "buffer", "[I", true)
  | 2 => ("GroupBidsModel", "bufferLength", "I", false)
  | 3 => ("GroupBidsModel", "textLength", "I", false)
  | 4 => ("GroupBidsModel", "position", "I", false)
  | 5 => ("GroupBidsModel", "error", "I", false)
  | 6 => ("GroupBidsModel", "errorAt", "I", false)
  | 7 => ("GroupBidsModel", "errorOffset", "I", false)
  | 8 => ("GroupBidsModel", "data", "[I", true)
  | 9 => ("GroupBidsModel", "draft", "[I", true)
  | 10 => ("GroupBidsModel", "history", "[[I", true)
  | 11 => ("GroupBidsModel", "undoDepth", "I", false)
  | 12 => ("GroupBidsModel", "numberStart", "I", false)
  | 13 => ("GroupBidsModel", "nesting", "I", false)
  | 14 => ("GroupBidsModel", "seen", "I", false)
  | 15 => ("GroupBidsModel", "stack", "[J", true)
  | 16 => ("GroupBidsModel", "elements", "[I", true)
  | 17 => ("GroupBidsModel", "numbers", "[I", true)
  | 18 => ("GroupBidsModel", "is", "[Z", true)
  | 19 => ("GroupBidsModel", "elementMany", "I", false)
  | 20 => ("GroupBidsModel", "laidFor", "I", false)
  | _ => ("GroupBidsModel", "waiting", "[I", true)
def tyX9 : Nat → FieldType := fun k => match k with
  | 0 => .int
  | 1 => .array .int
  | 2 => .int
  | 3 => .int
  | 4 => .int
  | 5 => .int
  | 6 => .int
  | 7 => .int
  | 8 => .array .int
  | 9 => .array .int
  | 10 => .array (.array .int)
  | 11 => .int
  | 12 => .int
  | 13 => .int
  | 14 => .int
  | 15 => .array .long
  | 16 => .array .int
  | 17 => .array .int
  | 18 => .array .boolean
  | 19 => .int
  | 20 => .int
  | _ => .array .int
abbrev wsX90 : List Cond := u_ws RX9 TX9 22
theorem nmX9 : ∀ a, a < 22 → ∀ b, b < 22 → a ≠ b → (TX9 a).2.1 ≠ (TX9 b).2.1 := by decide +kernel
theorem tyX9_ok : ∀ k, k < 22 → parseFieldDescriptor (TX9 k).2.2.1 = some (tyX9 k) := by decide +kernel
abbrev cX9_init : ByteArray := prog_11_method_1_code
def yX9_init : MethodName := ⟨RX9, "<init>", "()V"⟩
abbrev cX9_thrown : ByteArray := prog_11_method_2_code
def yX9_thrown : MethodName := ⟨RX9, "thrown", "()I"⟩
abbrev cX9_fails : ByteArray := prog_11_method_3_code
def yX9_fails : MethodName := ⟨RX9, "fails", "(ZI)Z"⟩
abbrev cX9_in : ByteArray := prog_11_method_4_code
def yX9_in : MethodName := ⟨RX9, "in", "(III)Z"⟩
abbrev cX9_min : ByteArray := prog_11_method_5_code
def yX9_min : MethodName := ⟨RX9, "min", "(II)I"⟩
abbrev cX9_copy : ByteArray := prog_11_method_6_code
def yX9_copy : MethodName := ⟨RX9, "copy", "([I[I)V"⟩
abbrev cX9_digit : ByteArray := prog_11_method_7_code
def yX9_digit : MethodName := ⟨RX9, "digit", "(III)I"⟩
abbrev cX9_neutral : ByteArray := prog_11_method_8_code
def yX9_neutral : MethodName := ⟨RX9, "neutral", "(I)I"⟩
abbrev cX9_isElement : ByteArray := prog_11_method_9_code
def yX9_isElement : MethodName := ⟨RX9, "isElement", "(II)Z"⟩
abbrev cX9_times : ByteArray := prog_11_method_10_code
def yX9_times : MethodName := ⟨RX9, "times", "(III)I"⟩
abbrev cX9_inverseOf : ByteArray := prog_11_method_11_code
def yX9_inverseOf : MethodName := ⟨RX9, "inverseOf", "(II)I"⟩
abbrev cX9_orderOf : ByteArray := prog_11_method_12_code
def yX9_orderOf : MethodName := ⟨RX9, "orderOf", "(II)I"⟩
abbrev cX9_append : ByteArray := prog_11_method_13_code
def yX9_append : MethodName := ⟨RX9, "append", "(IIIII)I"⟩
abbrev cX9_byteAt : ByteArray := prog_11_method_14_code
def yX9_byteAt : MethodName := ⟨RX9, "byteAt", "(I)I"⟩
abbrev cX9_next : ByteArray := prog_11_method_15_code
def yX9_next : MethodName := ⟨RX9, "next", "()I"⟩
abbrev cX9_isGood : ByteArray := prog_11_method_16_code
def yX9_isGood : MethodName := ⟨RX9, "isGood", "()Z"⟩
abbrev cX9_report : ByteArray := prog_11_method_17_code
def yX9_report : MethodName := ⟨RX9, "report", "(II)V"⟩
abbrev cX9_isDigit : ByteArray := prog_11_method_18_code
def yX9_isDigit : MethodName := ⟨RX9, "isDigit", "(I)Z"⟩
abbrev cX9_takeWord : ByteArray := prog_11_method_19_code
def yX9_takeWord : MethodName := ⟨RX9, "takeWord", "(Ljava/lang/String;)Z"⟩
abbrev cX9_expect : ByteArray := prog_11_method_20_code
def yX9_expect : MethodName := ⟨RX9, "expect", "(I)V"⟩
abbrev cX9_number : ByteArray := prog_11_method_21_code
def yX9_number : MethodName := ⟨RX9, "number", "(II)I"⟩
abbrev cX9_emit : ByteArray := prog_11_method_22_code
def yX9_emit : MethodName := ⟨RX9, "emit", "(I)V"⟩
abbrev cX9_factor : ByteArray := prog_11_method_23_code
def yX9_factor : MethodName := ⟨RX9, "factor", "()V"⟩
abbrev cX9_term : ByteArray := prog_11_method_24_code
def yX9_term : MethodName := ⟨RX9, "term", "()V"⟩
abbrev cX9_sum : ByteArray := prog_11_method_25_code
def yX9_sum : MethodName := ⟨RX9, "sum", "()V"⟩
abbrev cX9_once : ByteArray := prog_11_method_26_code
def yX9_once : MethodName := ⟨RX9, "once", "(II)V"⟩
abbrev cX9_readElement : ByteArray := prog_11_method_27_code
def yX9_readElement : MethodName := ⟨RX9, "readElement", "()I"⟩
abbrev cX9_readPlayer : ByteArray := prog_11_method_28_code
def yX9_readPlayer : MethodName := ⟨RX9, "readPlayer", "(I)V"⟩
abbrev cX9_readCard : ByteArray := prog_11_method_29_code
def yX9_readCard : MethodName := ⟨RX9, "readCard", "()V"⟩
abbrev cX9_putCard : ByteArray := prog_11_method_30_code
def yX9_putCard : MethodName := ⟨RX9, "putCard", "([IIII)V"⟩
abbrev cX9_readLot : ByteArray := prog_11_method_31_code
def yX9_readLot : MethodName := ⟨RX9, "readLot", "(I)V"⟩
abbrev cX9_statement : ByteArray := prog_11_method_32_code
def yX9_statement : MethodName := ⟨RX9, "statement", "()V"⟩
abbrev cX9_load : ByteArray := prog_11_method_33_code
def yX9_load : MethodName := ⟨RX9, "load", "(I)I"⟩
abbrev cX9_errorOffset : ByteArray := prog_11_method_34_code
def yX9_errorOffset : MethodName := ⟨RX9, "errorOffset", "()I"⟩
abbrev cX9_at : ByteArray := prog_11_method_35_code
def yX9_at : MethodName := ⟨RX9, "at", "(I)I"⟩
abbrev cX9_cardsOf : ByteArray := prog_11_method_36_code
def yX9_cardsOf : MethodName := ⟨RX9, "cardsOf", "(I)I"⟩
abbrev cX9_elementOf : ByteArray := prog_11_method_37_code
def yX9_elementOf : MethodName := ⟨RX9, "elementOf", "(II)I"⟩
abbrev cX9_baseOf : ByteArray := prog_11_method_38_code
def yX9_baseOf : MethodName := ⟨RX9, "baseOf", "(II)I"⟩
abbrev cX9_ofBid : ByteArray := prog_11_method_39_code
def yX9_ofBid : MethodName := ⟨RX9, "ofBid", "(II)I"⟩
abbrev cX9_isOver : ByteArray := prog_11_method_40_code
def yX9_isOver : MethodName := ⟨RX9, "isOver", "()Z"⟩
abbrev cX9_productBetween : ByteArray := prog_11_method_41_code
def yX9_productBetween : MethodName := ⟨RX9, "productBetween", "(II)I"⟩
abbrev cX9_productNow : ByteArray := prog_11_method_42_code
def yX9_productNow : MethodName := ⟨RX9, "productNow", "()I"⟩
abbrev cX9_limited : ByteArray := prog_11_method_43_code
def yX9_limited : MethodName := ⟨RX9, "limited", "(J)J"⟩
abbrev cX9_operate : ByteArray := prog_11_method_44_code
def yX9_operate : MethodName := ⟨RX9, "operate", "(IJJ)J"⟩
abbrev cX9_priceOf : ByteArray := prog_11_method_45_code
def yX9_priceOf : MethodName := ⟨RX9, "priceOf", "(II)I"⟩
abbrev cX9_layGroup : ByteArray := prog_11_method_46_code
def yX9_layGroup : MethodName := ⟨RX9, "layGroup", "()V"⟩
abbrev cX9_layFrom : ByteArray := prog_11_method_47_code
def yX9_layFrom : MethodName := ⟨RX9, "layFrom", "(III)V"⟩
abbrev cX9_bits : ByteArray := prog_11_method_48_code
def yX9_bits : MethodName := ⟨RX9, "bits", "(I)I"⟩
abbrev cX9_fewestLaid : ByteArray := prog_11_method_49_code
def yX9_fewestLaid : MethodName := ⟨RX9, "fewestLaid", "(II)I"⟩
abbrev cX9_isReached : ByteArray := prog_11_method_50_code
def yX9_isReached : MethodName := ⟨RX9, "isReached", "(II)Z"⟩
abbrev cX9_noPlayer : ByteArray := prog_11_method_51_code
def yX9_noPlayer : MethodName := ⟨RX9, "noPlayer", "(I)Z"⟩
abbrev cX9_noElement : ByteArray := prog_11_method_52_code
def yX9_noElement : MethodName := ⟨RX9, "noElement", "(II)Z"⟩
abbrev cX9_told : ByteArray := prog_11_method_53_code
def yX9_told : MethodName := ⟨RX9, "told", "(I)I"⟩
abbrev cX9_state : ByteArray := prog_11_method_54_code
def yX9_state : MethodName := ⟨RX9, "state", "(I)I"⟩
abbrev cX9_player : ByteArray := prog_11_method_55_code
def yX9_player : MethodName := ⟨RX9, "player", "(II)I"⟩
abbrev cX9_toldCard : ByteArray := prog_11_method_56_code
def yX9_toldCard : MethodName := ⟨RX9, "toldCard", "(III)I"⟩
abbrev cX9_card : ByteArray := prog_11_method_57_code
def yX9_card : MethodName := ⟨RX9, "card", "(III)I"⟩
abbrev cX9_bid : ByteArray := prog_11_method_58_code
def yX9_bid : MethodName := ⟨RX9, "bid", "(II)I"⟩
abbrev cX9_product : ByteArray := prog_11_method_59_code
def yX9_product : MethodName := ⟨RX9, "product", "()I"⟩
abbrev cX9_productOf : ByteArray := prog_11_method_60_code
def yX9_productOf : MethodName := ⟨RX9, "productOf", "(II)I"⟩
abbrev cX9_multiply : ByteArray := prog_11_method_61_code
def yX9_multiply : MethodName := ⟨RX9, "multiply", "(II)I"⟩
abbrev cX9_inverse : ByteArray := prog_11_method_62_code
def yX9_inverse : MethodName := ⟨RX9, "inverse", "(I)I"⟩
abbrev cX9_order : ByteArray := prog_11_method_63_code
def yX9_order : MethodName := ⟨RX9, "order", "(I)I"⟩
abbrev cX9_reach : ByteArray := prog_11_method_64_code
def yX9_reach : MethodName := ⟨RX9, "reach", "(I)I"⟩
abbrev cX9_reaches : ByteArray := prog_11_method_65_code
def yX9_reaches : MethodName := ⟨RX9, "reaches", "(II)Z"⟩
abbrev cX9_generated : ByteArray := prog_11_method_66_code
def yX9_generated : MethodName := ⟨RX9, "generated", "(I)I"⟩
abbrev cX9_fewestOf : ByteArray := prog_11_method_67_code
def yX9_fewestOf : MethodName := ⟨RX9, "fewestOf", "(I)I"⟩
abbrev cX9_fewest : ByteArray := prog_11_method_68_code
def yX9_fewest : MethodName := ⟨RX9, "fewest", "(I)I"⟩
abbrev cX9_cheapest : ByteArray := prog_11_method_69_code
def yX9_cheapest : MethodName := ⟨RX9, "cheapest", "(I)I"⟩
abbrev cX9_opening : ByteArray := prog_11_method_70_code
def yX9_opening : MethodName := ⟨RX9, "opening", "(I)I"⟩
abbrev cX9_remember : ByteArray := prog_11_method_71_code
def yX9_remember : MethodName := ⟨RX9, "remember", "()V"⟩
abbrev cX9_dropCard : ByteArray := prog_11_method_72_code
def yX9_dropCard : MethodName := ⟨RX9, "dropCard", "(II)V"⟩
abbrev cX9_payInto : ByteArray := prog_11_method_73_code
def yX9_payInto : MethodName := ⟨RX9, "payInto", "(II)V"⟩
abbrev cX9_payPot : ByteArray := prog_11_method_74_code
def yX9_payPot : MethodName := ⟨RX9, "payPot", "(II)V"⟩
abbrev cX9_nextTurn : ByteArray := prog_11_method_75_code
def yX9_nextTurn : MethodName := ⟨RX9, "nextTurn", "()V"⟩
abbrev cX9_nextLot : ByteArray := prog_11_method_76_code
def yX9_nextLot : MethodName := ⟨RX9, "nextLot", "()V"⟩
abbrev cX9_finish : ByteArray := prog_11_method_77_code
def yX9_finish : MethodName := ⟨RX9, "finish", "(I)I"⟩
abbrev cX9_noCard : ByteArray := prog_11_method_78_code
def yX9_noCard : MethodName := ⟨RX9, "noCard", "(I)Z"⟩
abbrev cX9_play : ByteArray := prog_11_method_79_code
def yX9_play : MethodName := ⟨RX9, "play", "(I)I"⟩
abbrev cX9_cancel : ByteArray := prog_11_method_80_code
def yX9_cancel : MethodName := ⟨RX9, "cancel", "(II)I"⟩
abbrev cX9_pass : ByteArray := prog_11_method_81_code
def yX9_pass : MethodName := ⟨RX9, "pass", "()I"⟩
abbrev cX9_give : ByteArray := prog_11_method_82_code
def yX9_give : MethodName := ⟨RX9, "give", "(III)I"⟩
abbrev cX9_discard : ByteArray := prog_11_method_83_code
def yX9_discard : MethodName := ⟨RX9, "discard", "(II)I"⟩
abbrev cX9_undo : ByteArray := prog_11_method_84_code
def yX9_undo : MethodName := ⟨RX9, "undo", "()I"⟩
abbrev cX9_checksum : ByteArray := prog_11_method_85_code
def yX9_checksum : MethodName := ⟨RX9, "checksum", "()J"⟩
def RJx145de : String := "java/io/Serializable"
def TJx145de : u_T := fun k => match k with
  | _ => ("", "", "", false)
def tyJx145de : Nat → FieldType := fun k => match k with
  | _ => .int
abbrev wsJx145de0 : List Cond := u_ws RJx145de TJx145de 0
theorem nmJx145de : ∀ a, a < 0 → ∀ b, b < 0 → a ≠ b → (TJx145de a).2.1 ≠ (TJx145de b).2.1 := by decide +kernel
theorem tyJx145de_ok : ∀ k, k < 0 → parseFieldDescriptor (TJx145de k).2.2.1 = some (tyJx145de k) := by decide +kernel
def RJx9f9b0 : String := "java/lang/CharSequence"
def TJx9f9b0 : u_T := fun k => match k with
  | _ => ("", "", "", false)
def tyJx9f9b0 : Nat → FieldType := fun k => match k with
  | _ => .int
abbrev wsJx9f9b00 : List Cond := u_ws RJx9f9b0 TJx9f9b0 0
theorem nmJx9f9b0 : ∀ a, a < 0 → ∀ b, b < 0 → a ≠ b → (TJx9f9b0 a).2.1 ≠ (TJx9f9b0 b).2.1 := by decide +kernel
theorem tyJx9f9b0_ok : ∀ k, k < 0 → parseFieldDescriptor (TJx9f9b0 k).2.2.1 = some (tyJx9f9b0 k) := by decide +kernel
def RJx8e188 : String := "java/lang/Cloneable"
def TJx8e188 : u_T := fun k => match k with
  | _ => ("", "", "", false)
def tyJx8e188 : Nat → FieldType := fun k => match k with
  | _ => .int
abbrev wsJx8e1880 : List Cond := u_ws RJx8e188 TJx8e188 0
theorem nmJx8e188 : ∀ a, a < 0 → ∀ b, b < 0 → a ≠ b → (TJx8e188 a).2.1 ≠ (TJx8e188 b).2.1 := by decide +kernel
theorem tyJx8e188_ok : ∀ k, k < 0 → parseFieldDescriptor (TJx8e188 k).2.2.1 = some (tyJx8e188 k) := by decide +kernel
def RJxb160c : String := "java/lang/Comparable"
def TJxb160c : u_T := fun k => match k with
  | _ => ("", "", "", false)
def tyJxb160c : Nat → FieldType := fun k => match k with
  | _ => .int
abbrev wsJxb160c0 : List Cond := u_ws RJxb160c TJxb160c 0
theorem nmJxb160c : ∀ a, a < 0 → ∀ b, b < 0 → a ≠ b → (TJxb160c a).2.1 ≠ (TJxb160c b).2.1 := by decide +kernel
theorem tyJxb160c_ok : ∀ k, k < 0 → parseFieldDescriptor (TJxb160c k).2.2.1 = some (tyJxb160c k) := by decide +kernel
def RJ6 : String := "java/lang/Integer"
def TJ6 : u_T := fun k => match k with
  | _ => ("", "", "", false)
def tyJ6 : Nat → FieldType := fun k => match k with
  | _ => .int
abbrev wsJ60 : List Cond := u_ws RJ6 TJ6 0
theorem nmJ6 : ∀ a, a < 0 → ∀ b, b < 0 → a ≠ b → (TJ6 a).2.1 ≠ (TJ6 b).2.1 := by decide +kernel
theorem tyJ6_ok : ∀ k, k < 0 → parseFieldDescriptor (TJ6 k).2.2.1 = some (tyJ6 k) := by decide +kernel
abbrev cJ6_bitCount_0f7a4 : ByteArray := prog_20_method_49_code
def yJ6_bitCount_0f7a4 : MethodName := ⟨RJ6, "bitCount", "(I)I"⟩
def RJ13 : String := "java/lang/Long"
def TJ13 : u_T := fun k => match k with
  | _ => ("", "", "", false)
def tyJ13 : Nat → FieldType := fun k => match k with
  | _ => .int
abbrev wsJ130 : List Cond := u_ws RJ13 TJ13 0
theorem nmJ13 : ∀ a, a < 0 → ∀ b, b < 0 → a ≠ b → (TJ13 a).2.1 ≠ (TJ13 b).2.1 := by decide +kernel
theorem tyJ13_ok : ∀ k, k < 0 → parseFieldDescriptor (TJ13 k).2.2.1 = some (tyJ13 k) := by decide +kernel
abbrev cJ13_bitCount_95d88 : ByteArray := prog_21_method_50_code
def yJ13_bitCount_95d88 : MethodName := ⟨RJ13, "bitCount", "(J)I"⟩
def RJ9 : String := "java/lang/Math"
def TJ9 : u_T := fun k => match k with
  | _ => ("", "", "", false)
def tyJ9 : Nat → FieldType := fun k => match k with
  | _ => .int
abbrev wsJ90 : List Cond := u_ws RJ9 TJ9 0
theorem nmJ9 : ∀ a, a < 0 → ∀ b, b < 0 → a ≠ b → (TJ9 a).2.1 ≠ (TJ9 b).2.1 := by decide +kernel
theorem tyJ9_ok : ∀ k, k < 0 → parseFieldDescriptor (TJ9 k).2.2.1 = some (tyJ9 k) := by decide +kernel
abbrev cJ9_floorMod_7cf53 : ByteArray := prog_22_method_50_code
def yJ9_floorMod_7cf53 : MethodName := ⟨RJ9, "floorMod", "(II)I"⟩
abbrev cJ9_max_7cf53 : ByteArray := prog_22_method_65_code
def yJ9_max_7cf53 : MethodName := ⟨RJ9, "max", "(II)I"⟩
abbrev cJ9_max_f86c9 : ByteArray := prog_22_method_66_code
def yJ9_max_f86c9 : MethodName := ⟨RJ9, "max", "(JJ)J"⟩
abbrev cJ9_min_7cf53 : ByteArray := prog_22_method_69_code
def yJ9_min_7cf53 : MethodName := ⟨RJ9, "min", "(II)I"⟩
abbrev cJ9_min_f86c9 : ByteArray := prog_22_method_70_code
def yJ9_min_f86c9 : MethodName := ⟨RJ9, "min", "(JJ)J"⟩
def RJ0 : String := "java/lang/String"
def TJ0 : u_T := fun k => match k with
  | _ => ("", "", "", false)
def tyJ0 : Nat → FieldType := fun k => match k with
  | _ => .int
abbrev wsJ00 : List Cond := u_ws RJ0 TJ0 0
theorem nmJ0 : ∀ a, a < 0 → ∀ b, b < 0 → a ≠ b → (TJ0 a).2.1 ≠ (TJ0 b).2.1 := by decide +kernel
theorem tyJ0_ok : ∀ k, k < 0 → parseFieldDescriptor (TJ0 k).2.2.1 = some (tyJ0 k) := by decide +kernel
abbrev cJ0_length_8abf5 : ByteArray := prog_24_method_54_code
def yJ0_length_8abf5 : MethodName := ⟨RJ0, "length", "()I"⟩
abbrev cJ0_charAt_5068e : ByteArray := prog_24_method_56_code
def yJ0_charAt_5068e : MethodName := ⟨RJ0, "charAt", "(I)C"⟩
abbrev cJ0_coder_7d493 : ByteArray := prog_24_method_152_code
def yJ0_coder_7d493 : MethodName := ⟨RJ0, "coder", "()B"⟩
abbrev cJ0_isLatin1_aae02 : ByteArray := prog_24_method_154_code
def yJ0_isLatin1_aae02 : MethodName := ⟨RJ0, "isLatin1", "()Z"⟩
abbrev cJ0_checkIndex_df160 : ByteArray := prog_24_method_155_code
def yJ0_checkIndex_df160 : MethodName := ⟨RJ0, "checkIndex", "(II)V"⟩
def RJ1 : String := "java/lang/StringLatin1"
def TJ1 : u_T := fun k => match k with
  | _ => ("", "", "", false)
def tyJ1 : Nat → FieldType := fun k => match k with
  | _ => .int
abbrev wsJ10 : List Cond := u_ws RJ1 TJ1 0
theorem nmJ1 : ∀ a, a < 0 → ∀ b, b < 0 → a ≠ b → (TJ1 a).2.1 ≠ (TJ1 b).2.1 := by decide +kernel
theorem tyJ1_ok : ∀ k, k < 0 → parseFieldDescriptor (TJ1 k).2.2.1 = some (tyJ1 k) := by decide +kernel
abbrev cJ1_charAt_3b067 : ByteArray := prog_25_method_2_code
def yJ1_charAt_3b067 : MethodName := ⟨RJ1, "charAt", "([BI)C"⟩
def RJ2 : String := "java/lang/StringUTF16"
def TJ2 : u_T := fun k => match k with
  | _ => ("", "", "", false)
def tyJ2 : Nat → FieldType := fun k => match k with
  | _ => .int
abbrev wsJ20 : List Cond := u_ws RJ2 TJ2 0
theorem nmJ2 : ∀ a, a < 0 → ∀ b, b < 0 → a ≠ b → (TJ2 a).2.1 ≠ (TJ2 b).2.1 := by decide +kernel
theorem tyJ2_ok : ∀ k, k < 0 → parseFieldDescriptor (TJ2 k).2.2.1 = some (tyJ2 k) := by decide +kernel
abbrev cJ2_getChar_3b067 : ByteArray := prog_26_method_5_code
def yJ2_getChar_3b067 : MethodName := ⟨RJ2, "getChar", "([BI)C"⟩
abbrev cJ2_length_9d52b : ByteArray := prog_26_method_6_code
def yJ2_length_9d52b : MethodName := ⟨RJ2, "length", "([B)I"⟩
abbrev cJ2_charAt_3b067 : ByteArray := prog_26_method_83_code
def yJ2_charAt_3b067 : MethodName := ⟨RJ2, "charAt", "([BI)C"⟩
abbrev cJ2_checkIndex_2214a : ByteArray := prog_26_method_91_code
def yJ2_checkIndex_2214a : MethodName := ⟨RJ2, "checkIndex", "(I[B)V"⟩
def RJ10 : String := "java/lang/System"
def TJ10 : u_T := fun k => match k with
  | _ => ("", "", "", false)
def tyJ10 : Nat → FieldType := fun k => match k with
  | _ => .int
abbrev wsJ100 : List Cond := u_ws RJ10 TJ10 0
theorem nmJ10 : ∀ a, a < 0 → ∀ b, b < 0 → a ≠ b → (TJ10 a).2.1 ≠ (TJ10 b).2.1 := by decide +kernel
theorem tyJ10_ok : ∀ k, k < 0 → parseFieldDescriptor (TJ10 k).2.2.1 = some (tyJ10 k) := by decide +kernel
def RJxfd54e : String := "java/lang/constant/Constable"
def TJxfd54e : u_T := fun k => match k with
  | _ => ("", "", "", false)
def tyJxfd54e : Nat → FieldType := fun k => match k with
  | _ => .int
abbrev wsJxfd54e0 : List Cond := u_ws RJxfd54e TJxfd54e 0
theorem nmJxfd54e : ∀ a, a < 0 → ∀ b, b < 0 → a ≠ b → (TJxfd54e a).2.1 ≠ (TJxfd54e b).2.1 := by decide +kernel
theorem tyJxfd54e_ok : ∀ k, k < 0 → parseFieldDescriptor (TJxfd54e k).2.2.1 = some (tyJxfd54e k) := by decide +kernel
def RJx3cf43 : String := "java/lang/constant/ConstantDesc"
def TJx3cf43 : u_T := fun k => match k with
  | _ => ("", "", "", false)
def tyJx3cf43 : Nat → FieldType := fun k => match k with
  | _ => .int
abbrev wsJx3cf430 : List Cond := u_ws RJx3cf43 TJx3cf43 0
theorem nmJx3cf43 : ∀ a, a < 0 → ∀ b, b < 0 → a ≠ b → (TJx3cf43 a).2.1 ≠ (TJx3cf43 b).2.1 := by decide +kernel
theorem tyJx3cf43_ok : ∀ k, k < 0 → parseFieldDescriptor (TJx3cf43 k).2.2.1 = some (tyJx3cf43 k) := by decide +kernel
def RJ7 : String := "java/util/Arrays"
def TJ7 : u_T := fun k => match k with
  | _ => ("", "", "", false)
def tyJ7 : Nat → FieldType := fun k => match k with
  | _ => .int
abbrev wsJ70 : List Cond := u_ws RJ7 TJ7 0
theorem nmJ7 : ∀ a, a < 0 → ∀ b, b < 0 → a ≠ b → (TJ7 a).2.1 ≠ (TJ7 b).2.1 := by decide +kernel
theorem tyJ7_ok : ∀ k, k < 0 → parseFieldDescriptor (TJ7 k).2.2.1 = some (tyJ7 k) := by decide +kernel
abbrev cJ7_fill_d0a16 : ByteArray := prog_31_method_101_code
def yJ7_fill_d0a16 : MethodName := ⟨RJ7, "fill", "([JJ)V"⟩
abbrev cJ7_copyOf_59c91 : ByteArray := prog_31_method_123_code
def yJ7_copyOf_59c91 : MethodName := ⟨RJ7, "copyOf", "([II)[I"⟩
def RJ3 : String := "jdk/internal/util/Preconditions"
def TJ3 : u_T := fun k => match k with
  | _ => ("", "", "", false)
def tyJ3 : Nat → FieldType := fun k => match k with
  | _ => .int
abbrev wsJ30 : List Cond := u_ws RJ3 TJ3 0
theorem nmJ3 : ∀ a, a < 0 → ∀ b, b < 0 → a ≠ b → (TJ3 a).2.1 ≠ (TJ3 b).2.1 := by decide +kernel
theorem tyJ3_ok : ∀ k, k < 0 → parseFieldDescriptor (TJ3 k).2.2.1 = some (tyJ3 k) := by decide +kernel
abbrev cJ3_checkIndex_8e157 : ByteArray := prog_33_method_11_code
def yJ3_checkIndex_8e157 : MethodName := ⟨RJ3, "checkIndex", "(IILjava/util/function/BiFunction;)I"⟩
def RL : String := "GroupBidsLaw"
abbrev cL_load : ByteArray := method_3_code
def yL_load : MethodName := ⟨RL, "load", "(LGroupBids;I[J)I"⟩
abbrev cL_state : ByteArray := method_4_code
def yL_state : MethodName := ⟨RL, "state", "(LGroupBids;I[J)I"⟩
abbrev cL_player : ByteArray := method_5_code
def yL_player : MethodName := ⟨RL, "player", "(LGroupBids;II[J)I"⟩
abbrev cL_card : ByteArray := method_6_code
def yL_card : MethodName := ⟨RL, "card", "(LGroupBids;III[J)I"⟩
abbrev cL_bid : ByteArray := method_7_code
def yL_bid : MethodName := ⟨RL, "bid", "(LGroupBids;II[J)I"⟩
abbrev cL_productOf : ByteArray := method_8_code
def yL_productOf : MethodName := ⟨RL, "productOf", "(LGroupBids;II[J)I"⟩
abbrev cL_multiply : ByteArray := method_9_code
def yL_multiply : MethodName := ⟨RL, "multiply", "(LGroupBids;II[J)I"⟩
abbrev cL_inverse : ByteArray := method_10_code
def yL_inverse : MethodName := ⟨RL, "inverse", "(LGroupBids;I[J)I"⟩
abbrev cL_order : ByteArray := method_11_code
def yL_order : MethodName := ⟨RL, "order", "(LGroupBids;I[J)I"⟩
abbrev cL_reach : ByteArray := method_12_code
def yL_reach : MethodName := ⟨RL, "reach", "(LGroupBids;I[J)I"⟩
abbrev cL_reaches : ByteArray := method_13_code
def yL_reaches : MethodName := ⟨RL, "reaches", "(LGroupBids;II[J)I"⟩
abbrev cL_generated : ByteArray := method_14_code
def yL_generated : MethodName := ⟨RL, "generated", "(LGroupBids;I[J)I"⟩
abbrev cL_fewest : ByteArray := method_15_code
def yL_fewest : MethodName := ⟨RL, "fewest", "(LGroupBids;I[J)I"⟩
abbrev cL_cheapest : ByteArray := method_16_code
def yL_cheapest : MethodName := ⟨RL, "cheapest", "(LGroupBids;I[J)I"⟩
abbrev cL_opening : ByteArray := method_17_code
def yL_opening : MethodName := ⟨RL, "opening", "(LGroupBids;I[J)I"⟩
abbrev cL_play : ByteArray := method_18_code
def yL_play : MethodName := ⟨RL, "play", "(LGroupBids;I[J)I"⟩
abbrev cL_cancel : ByteArray := method_19_code
def yL_cancel : MethodName := ⟨RL, "cancel", "(LGroupBids;II[J)I"⟩
abbrev cL_pass : ByteArray := method_20_code
def yL_pass : MethodName := ⟨RL, "pass", "(LGroupBids;[J)I"⟩
abbrev cL_give : ByteArray := method_21_code
def yL_give : MethodName := ⟨RL, "give", "(LGroupBids;III[J)I"⟩
abbrev cL_discard : ByteArray := method_22_code
def yL_discard : MethodName := ⟨RL, "discard", "(LGroupBids;II[J)I"⟩
abbrev cL_law : ByteArray := code
def yL_law : MethodName := ⟨RL, "law", "([I)Z"⟩
abbrev vwCl : List vw_C := [(RX0, TX0, 15), (RX1, TX1, 4), (RX2, TX2, 2), (RX3, TX3, 6), (RX4, TX4, 3), (RX5, TX5, 2), (RX6, TX6, 2), (RX7, TX7, 14), (RX8, TX8, 6), (RX9, TX9, 22)]
end
section
/-! ===== z: one closed world. All that the law and the class made lies from B0 on; an abstract heap says what every such cell holds. ===== -/
/-- what a cell holds: an array (its kind, its length and contents) or an object (its class, its fields) -/
abbrev zE : Type := (Nat × vp_A) ⊕ (Nat × List Value)
/-- the abstract heap: its size, the slots used, the cells -/
abbrev zH : Type := Nat × Nat × (Nat → Option zE)
/-- what stays: the tables' classes, the array classes, the first address, the constants' addresses, the script -/
abbrev zG : Type := va_G × (Nat → ClassId) × Nat × ((Nat → Nat) × (Nat → Nat)) × (Nat × Nat × (Nat → Int32))
/-- a method: its name, code, locals, result, handlers -/
abbrev zX : Type := MethodName × ByteArray × Nat × Option FieldType × List (Nat × Nat × Nat × Nat)
/-- how it ended: what it returned, or the number of what it threw -/
abbrev zR : Type := Option Value ⊕ Nat
def hS (h : zH) : Nat := h.1
def hN (h : zH) : Nat := h.2.1
def hM (h : zH) (a : Nat) : Option zE := h.2.2 a
def hPut (h : zH) (a : Nat) (e : zE) : zH := (h.1, h.2.1, fun b => if b = a then some e else h.2.2 b)
def hNew (h : zH) (e : zE) (n : Nat) : zH := (h.1 + 1, h.2.1 + n, fun b => if b = h.1 then some e else h.2.2 b)
def hJunk (h : zH) (n : Nat) : zH := (h.1 + 1, h.2.1 + n, h.2.2)
def zle (h h' : zH) : Prop := hS h ≤ hS h' ∧ hN h ≤ hN h'
theorem zle.rf {h : zH} : zle h h := ⟨Nat.le_refl _, Nat.le_refl _⟩
theorem zle.tr {a b c : zH} (h1 : zle a b) (h2 : zle b c) : zle a c := ⟨Nat.le_trans h1.1 h2.1, Nat.le_trans h1.2 h2.2⟩
def zcc (X : zX) : ByteArray := X.2.1
def zml (X : zX) : Nat := X.2.2.1
def zrt (X : zX) : Option FieldType := X.2.2.2.1
def zhh (X : zX) : List (Nat × Nat × Nat × Nat) := X.2.2.2.2
def zB0 (Γ : zG) : Nat := Γ.2.2.1
def zKa (Γ : zG) : Nat → Nat := Γ.2.2.2.1.1
def zVa (Γ : zG) : Nat → Nat := Γ.2.2.2.1.2
def zA (Γ : zG) : Nat → Prop := fun q => zB0 Γ ≤ q
def zexn : Nat → String := fun k => match k with
  | 0 => "java/lang/IllegalStateException"
  | 1 => "java/lang/IllegalArgumentException"
  | 2 => "java/lang/IndexOutOfBoundsException"
  | _ => "java/util/NoSuchElementException"
def zaty : Nat → FieldType := fun k => match k with
  | 0 => .int
  | 1 => .long
  | 2 => .boolean
  | 3 => .object RX1
  | 4 => .object RX0
  | _ => .array .int
def ztys (dA : Nat → ClassId) : List (ClassId × FieldType) := [(dA 0, zaty 0), (dA 1, zaty 1), (dA 2, zaty 2), (dA 3, zaty 3), (dA 4, zaty 4), (dA 5, zaty 5)]
theorem ztys_at (dA : Nat → ClassId) {k : Nat} (hk : k < 6) : (ztys dA)[k]? = some (dA k, zaty k) := by
  match k, hk with
  | 0, _ => rfl
  | 1, _ => rfl
  | 2, _ => rfl
  | 3, _ => rfl
  | 4, _ => rfl
  | 5, _ => rfl
def ztoE (dA : Nat → ClassId) : zE → va_E := fun e => match e with
  | .inl a => .inl (dA a.1, a.2)
  | .inr o => .inr o
/-- the abstract heap says what lies in the machine's -/
def zRp (Γ : zG) (h : zH) (H : Heap) : Prop := H.size = hS h ∧ zB0 Γ ≤ hS h ∧ ∀ (a : Nat) (e : zE), hM h a = some e → zB0 Γ ≤ a ∧ va_at Γ.1 vwCl (a, ztoE Γ.2.1 e) H
-- the texts of the constants
def ztxt : Nat → String := fun k => match k with
  | 0 => "group"
  | 1 => "player"
  | 2 => "card"
  | 3 => "lot"
  | 4 => "price"
  | 5 => "base"
  | 6 => "order"
  | 7 => "bids"
  | _ => "pot"
def zsi7 : Nat → Nat := fun k => [127, 138, 143, 148, 153, 214, 216, 218, 220].getD k 0
def zsi9 : Nat → Nat := fun k => [189, 165, 170, 175, 180, 126, 132, 134, 136].getD k 0
def zlen : List Nat := [5, 6, 4, 3, 5, 4, 5, 4, 3]
def zbyt : List (List Int32) := [[103, 114, 111, 117, 112], [112, 108, 97, 121, 101, 114], [99, 97, 114, 100], [108, 111, 116], [112, 114, 105, 99, 101], [98, 97, 115, 101], [111, 114, 100, 101, 114], [98, 105, 100, 115], [112, 111, 116]]
/-- words of the tables that a call doesn't carry by itself -/
def zxw : Cond → Bool := fun w => match w with
  | .castable _ _ => true
  | .declares _ => true
  | .arrayOver _ => true
  | _ => false
theorem zxw_warm {w : Cond} {s U : State} (hw : zxw w = true) (hW : s.WarmedH U.vm) (h : w.before #[] s = true) : w.before #[] U = true := by
  cases w with
  | castable a b => exact va_tabs rfl (rfl : (s.setVm U.vm).vm = U.vm) (by rw [Cond.castable_setVm hW.alike]; exact h)
  | declares x => exact va_Nw.warmD hW h
  | arrayOver t =>
    have e := Cond.arrayOver_setVmC (args := #[]) hW.alike t
    rw [h] at e
    exact e
  | _ => cases hw
/-- old cells that are read: constants, statics, the script -/
def zSt (Γ : zG) (U : State) : Prop :=
  vk_S 9 zlen zbyt (zKa Γ) (zVa Γ) (zA Γ) U U.heap ∧ (∀ i : Nat, i < 9 → vk_R RX7 (zsi7 i) (ztxt i) (zKa Γ i) U ∧ vk_R RX9 (zsi9 i) (ztxt i) (zKa Γ i) U) ∧
  va_Z "java/lang/String" "COMPACT_STRINGS" "Z" (.int 1) (zA Γ) U U.heap ∧ va_Zq "jdk/internal/util/Preconditions" "SIOOBE_FORMATTER" "Ljava/util/function/BiFunction;" (zA Γ) U U.heap ∧
  va_X Γ.2.2.2.2.1 Γ.2.2.2.2.2.1 Γ.2.2.2.2.2.2 U U.heap ∧ Γ.2.2.2.2.1 < zB0 Γ ∧
  (∀ w ∈ lw_tbl, zxw w = true → w.before #[] U = true) ∧ (∀ i j : Nat, i < 4 → j < 4 → i ≠ j → va_Nc (zexn i) (zexn j) U)
def zKK (Γ : zG) (U : State) : Prop := va_K Γ.1 vwCl (ztys Γ.2.1) U ∧ zB0 Γ ≤ U.heap.size ∧ vx_Zq Bundle.tN "UNASSIGNED_STACK" Bundle.steD (zA Γ) U U.heap ∧ vx_Zq Bundle.tN "SUPPRESSED_SENTINEL" Bundle.listD (zA Γ) U U.heap ∧ zSt Γ U
/-- the words that go on through calls -/
def GW : List Cond := lw_tbl.filter goodWord
theorem gw_in {w : Cond} (i : Nat) (h : lw_tbl[i]? = some w) (hg : goodWord w = true) : w ∈ GW := List.mem_filter.mpr ⟨List.mem_of_getElem? h, hg⟩
theorem gw_good {w : Cond} (h : w ∈ GW) : goodWord w = true := (List.mem_filter.mp h).2
theorem va_Z.fresh {C n d : String} {v : Value} {A : Nat → Prop} {u U : State} {H H1 : Heap} (hvm : u.vm.Alike U.vm) (h : va_Z C n d v A u H) (hq : ∀ a : Nat, a < H.size → ¬ A a → H1[a]? = H[a]?) : va_Z C n d v A U H1 := by
  have h1 := va_Z.moved hvm h
  exact va_Z.kept h1 hq
/-- the same facts, seen from a later state of the same launch -/
theorem zKK.warm {Γ : zG} {s U : State} (hW : s.WarmedH U.vm) (hsz : s.heap.size ≤ U.heap.size) (hk : ∀ q : Nat, q < s.heap.size → ¬ zA Γ q → U.heap[q]? = s.heap[q]?) (h : zKK Γ s) : zKK Γ U := by
  obtain ⟨h1, h2, h3, h4, ⟨h5, h6, h7, h8, h9, h10, h11, h12⟩⟩ := h
  have hvm := hW.alike
  have hb : Γ.2.2.2.2.1 < s.heap.size := Nat.lt_of_lt_of_le h10 h2
  exact ⟨va_K.moved hvm h1, Nat.le_trans h2 hsz, (h3.kept hk).moved hvm, (h4.kept hk).moved hvm, ⟨vk_S.moved hvm (vk_S.kept h5 hk), fun i hi => ⟨(h6 i hi).1.warm hW, (h6 i hi).2.warm hW⟩, va_Z.moved hvm (va_Z.kept h7 hk), va_Zq.moved hvm (va_Zq.kept h8 hk), va_X.moved hvm (va_X.kept h9 (hk _ hb (Nat.not_le.mpr h10))), h10, fun w hw hz => zxw_warm hz hW (h11 w hw hz), fun i j hi hj hne => va_Nc.moved hvm (h12 i j hi hj hne)⟩⟩
/-- what a method's body knows of the machine it runs on -/
def zC (Γ : zG) (X : zX) (d : Nat) (h0 hF : zH) (p : Program) (l : Launch) (R : Room) (s : State) (m : MethodId) (args : Array Value) (meth : Method) (c : Code) : Prop :=
  p.tables.exec = Jvm.exec ∧ c.code = zcc X ∧ meth.sig.returnType = zrt X ∧ c.maxLocals = zml X ∧ s.vm.findClass X.1.cls = some m.cls ∧ meth.name = X.1.name ∧ (∀ w ∈ GW, w.before args s = true) ∧ meth.locks = false ∧ zKK Γ s ∧ l.stackTraces = false ∧
  d ≤ R.frames ∧ 40 * d ≤ R.locals ∧ hS hF - hS h0 ≤ R.cells ∧ hN hF - hN h0 ≤ R.slots ∧ zRp Γ h0 s.heap ∧ c.exceptionTable.toList = tableOf (zhh X) ∧ zle h0 hF
/-- what holds where a method has returned -/
def zQ (Γ : zG) (o : zR × zH) : Array Value → State → Outcome → State → Prop := fun _ st oc t => (∃ v : Option Value, o.1 = .inl v ∧ oc = .returned v) ∧ zRp Γ o.2 t.heap ∧ va_F (zA Γ) st t
/-- .. or thrown -/
def zXC (Γ : zG) (o : zR × zH) : String → State → State → Prop := fun E st t => (∃ k : Nat, o.1 = .inr k ∧ E = zexn k) ∧ zRp Γ o.2 t.heap ∧ va_F (zA Γ) st t
/-- from here the method comes to the end o -/
def Z (Γ : zG) (X : zX) (d : Nat) (h0 : zH) (o : zR × zH) (pc : Nat) (lv : List (Nat × Value)) (st : List Value) (h : zH) : Prop :=
  zle h o.2 ∧ (zle h0 h → ∀ (p : Program) (l : Launch) (e : Env) (R : Room) (s : State) (m : MethodId) (args : Array Value) (below : List Frame) (meth : Method) (c : Code) (H : Heap) (locs : List Loc) (ls : Array Slot),
    zC Γ X d h0 o.2 p l R s m args meth c → zRp Γ h H → va_S (zA Γ) s.heap H locs → lv_has ls (zml X) lv →
    W p l e R s m args below meth c H locs (hS h - hS h0) (hN h - hN h0) (vx_MQ below (zQ Γ o) (zXC Γ o) args s (hS o.2 - hS h0) (hN o.2 - hN h0) (zA Γ)) (F0 m pc ls st))
/-- .. with what was thrown, of class number k, over the frame -/
def Zx (Γ : zG) (X : zX) (d : Nat) (h0 : zH) (o : zR × zH) (pc : Nat) (lv : List (Nat × Value)) (st : List Value) (k : Nat) (h : zH) : Prop :=
  zle h o.2 ∧ (zle h0 h → ∀ (p : Program) (l : Launch) (e : Env) (R : Room) (s : State) (m : MethodId) (args : Array Value) (below : List Frame) (meth : Method) (c : Code) (H : Heap) (locs : List Loc) (ls : Array Slot) (q : Addr) (ce : Cell),
    zC Γ X d h0 o.2 p l R s m args meth c → zRp Γ h H → va_S (zA Γ) s.heap H locs → lv_has ls (zml X) lv → H[q]? = some ce → ce.vm = .none → s.vm.findClass (zexn k) = some ce.cls →
    vx_W p l e R s m args below meth c H locs (hS h - hS h0) (hN h - hN h0) (vx_MQ below (zQ Γ o) (zXC Γ o) args s (hS o.2 - hS h0) (hN o.2 - hN h0) (zA Γ)) (F0 m pc ls st) q)
/-- a method's contract: from the heap h with these arguments to the end o -/
def Zm (Γ : zG) (X : zX) (d : Nat) (av : List Value) (h : zH) (o : zR × zH) : Prop :=
  zle h o.2 ∧ ∀ l : Launch, l.stackTraces = false → vx_Met l X.1 ((if zhh X = [] then Cond.code X.1 (zcc X) (zml X) (zrt X) else Cond.codeWith X.1 (zcc X) (zml X) (zrt X) (zhh X)) :: GW) { frames := d, cells := hS o.2 - hS h, slots := hN o.2 - hN h, locals := 40 * d }
    (va_Pc av (fun U => zRp Γ h U.heap ∧ zKK Γ U)) (zQ Γ o) (zXC Γ o) (hS o.2 - hS h) (hN o.2 - hN h) (zA Γ)
section ZROWS
variable {Γ : zG} {X : zX} {d : Nat} {h0 : zH} {o : zR × zH} {pc : Nat} {lv : List (Nat × Value)} {st : List Value} {h : zH}
theorem Z.go {pc' : Nat} {st' : List Value} (f : ∀ {p : Program} {l : Launch} {e : Env} {R : Room} {s : State} {m : MethodId} {args : Array Value} {below : List Frame} {meth : Method} {c : Code} {H : Heap} {locs : List Loc} {ls : Array Slot} {cells slots : Nat} {Q : State → Prop}, zC Γ X d h0 o.2 p l R s m args meth c → lv_has ls (zml X) lv →
      W p l e R s m args below meth c H locs cells slots Q (F0 m pc' ls st') → W p l e R s m args below meth c H locs cells slots Q (F0 m pc ls st)) (kk : Z Γ X d h0 o pc' lv st' h) : Z Γ X d h0 o pc lv st h :=
  ⟨kk.1, fun hle p l e R s m args below meth c H locs ls C hRp hS hl => f C hl (kk.2 hle p l e R s m args below meth c H locs ls C hRp hS hl)⟩
theorem Z.set {pc' : Nat} {st' : List Value} {lv' : List (Nat × Value)} (f : ∀ {p : Program} {l : Launch} {e : Env} {R : Room} {s : State} {m : MethodId} {args : Array Value} {below : List Frame} {meth : Method} {c : Code} {H : Heap} {locs : List Loc} {ls : Array Slot} {cells slots : Nat} {Q : State → Prop}, zC Γ X d h0 o.2 p l R s m args meth c → lv_has ls (zml X) lv →
      (∀ ls' : Array Slot, lv_has ls' (zml X) lv' → W p l e R s m args below meth c H locs cells slots Q (F0 m pc' ls' st')) → W p l e R s m args below meth c H locs cells slots Q (F0 m pc ls st)) (kk : Z Γ X d h0 o pc' lv' st' h) : Z Γ X d h0 o pc lv st h :=
  ⟨kk.1, fun hle p l e R s m args below meth c H locs ls C hRp hS hl => f C hl fun ls' hl' => kk.2 hle p l e R s m args below meth c H locs ls' C hRp hS hl'⟩
/-- fewer locals -/
theorem Z.sub {lv' : List (Nat × Value)} (ks : List Nat) (hk : lv_pick lv ks = lv') (kk : Z Γ X d h0 o pc lv' st h) : Z Γ X d h0 o pc lv st h :=
  ⟨kk.1, fun hle p l e R s m args below meth c H locs ls C hRp hS hl => kk.2 hle p l e R s m args below meth c H locs ls C hRp hS (lv_sub hl ks hk)⟩
theorem z_iconst {n : Int} (v : Int32) (hd : decode (zcc X) pc = .ok (.iconst n, 1)) (hv : Int32.ofInt n = v) (kk : Z Γ X d h0 o (pc + 1) lv (.int v :: st) h) : Z Γ X d h0 o pc lv st h := Z.go (fun C hl w => lv_iconst C.1 C.2.1 hd hv w) kk
theorem z_bipush {n : Int} (v : Int32) (hd : decode (zcc X) pc = .ok (.bipush n, 2)) (hv : (Int8.ofInt n).toInt32 = v) (kk : Z Γ X d h0 o (pc + 2) lv (.int v :: st) h) : Z Γ X d h0 o pc lv st h := Z.go (fun C hl w => lv_bipush C.1 C.2.1 hd hv w) kk
theorem z_sipush {n : Int} (v : Int32) (hd : decode (zcc X) pc = .ok (.sipush n, 3)) (hv : (Int16.ofInt n).toInt32 = v) (kk : Z Γ X d h0 o (pc + 3) lv (.int v :: st) h) : Z Γ X d h0 o pc lv st h := Z.go (fun C hl w => lv_sipush C.1 C.2.1 hd hv w) kk
theorem z_lconst {n : Fin 2} (v : Int64) (hd : decode (zcc X) pc = .ok (.lconst n, 1)) (hv : Int64.ofNat (n : Nat) = v) (kk : Z Γ X d h0 o (pc + 1) lv (.long v :: st) h) : Z Γ X d h0 o pc lv st h := Z.go (fun C hl w => lv_lconst C.1 C.2.1 hd hv w) kk
theorem z_ldc {index : Nat} (v : Int32) (hd : decode (zcc X) pc = .ok (.ldc index, 2)) (hw : Cond.constant X.1.cls index v ∈ GW) (kk : Z Γ X d h0 o (pc + 2) lv (.int v :: st) h) : Z Γ X d h0 o pc lv st h := Z.go (fun C hl w => lv_ldc C.1 C.2.1 C.2.2.2.2.1 (C.2.2.2.2.2.2.1 _ hw) hd w) kk
theorem z_ldcw {index : Nat} (v : Int32) (hd : decode (zcc X) pc = .ok (.ldc_w index, 3)) (hw : Cond.constant X.1.cls index v ∈ GW) (kk : Z Γ X d h0 o (pc + 3) lv (.int v :: st) h) : Z Γ X d h0 o pc lv st h := Z.go (fun C hl w => lv_ldcw C.1 C.2.1 C.2.2.2.2.1 (C.2.2.2.2.2.2.1 _ hw) hd w) kk
theorem z_ldc2 {index : Nat} (v : Int64) (hd : decode (zcc X) pc = .ok (.ldc2_w index, 3)) (hw : Cond.constantLong X.1.cls index v ∈ GW) (kk : Z Γ X d h0 o (pc + 3) lv (.long v :: st) h) : Z Γ X d h0 o pc lv st h := Z.go (fun C hl w => lv_ldc2 C.1 C.2.1 C.2.2.2.2.1 (C.2.2.2.2.2.2.1 _ hw) hd w) kk
theorem z_iload_n {k : Fin 4} {i : Nat} {x : Int32} (j : Nat) (hd : decode (zcc X) pc = .ok (.iload_n k, 1)) (hi : (k : Nat) = i) (hj : lv[j]? = some (i, .int x)) (kk : Z Γ X d h0 o (pc + 1) lv (.int x :: st) h) : Z Γ X d h0 o pc lv st h := Z.go (fun C hl w => lv_iload_n C.1 C.2.1 hd hi (lv_at hl j hj) w) kk
theorem z_iload {i : Nat} {x : Int32} (j : Nat) (hd : decode (zcc X) pc = .ok (.iload i, 2)) (hj : lv[j]? = some (i, .int x)) (kk : Z Γ X d h0 o (pc + 2) lv (.int x :: st) h) : Z Γ X d h0 o pc lv st h := Z.go (fun C hl w => lv_iload C.1 C.2.1 hd (lv_at hl j hj) w) kk
theorem z_lload_n {k : Fin 4} {i : Nat} {x : Int64} (j : Nat) (hd : decode (zcc X) pc = .ok (.lload_n k, 1)) (hi : (k : Nat) = i) (hj : lv[j]? = some (i, .long x)) (kk : Z Γ X d h0 o (pc + 1) lv (.long x :: st) h) : Z Γ X d h0 o pc lv st h := Z.go (fun C hl w => lv_lload_n C.1 C.2.1 hd hi (lv_at hl j hj) w) kk
theorem z_lload {i : Nat} {x : Int64} (j : Nat) (hd : decode (zcc X) pc = .ok (.lload i, 2)) (hj : lv[j]? = some (i, .long x)) (kk : Z Γ X d h0 o (pc + 2) lv (.long x :: st) h) : Z Γ X d h0 o pc lv st h := Z.go (fun C hl w => lv_lload C.1 C.2.1 hd (lv_at hl j hj) w) kk
theorem z_aload_n {k : Fin 4} {i : Nat} {x : Nat} (j : Nat) (hd : decode (zcc X) pc = .ok (.aload_n k, 1)) (hi : (k : Nat) = i) (hj : lv[j]? = some (i, .ref x)) (kk : Z Γ X d h0 o (pc + 1) lv (.ref x :: st) h) : Z Γ X d h0 o pc lv st h := Z.go (fun C hl w => lv_aload_n C.1 C.2.1 hd hi (lv_at hl j hj) w) kk
theorem z_aload {i : Nat} {x : Nat} (j : Nat) (hd : decode (zcc X) pc = .ok (.aload i, 2)) (hj : lv[j]? = some (i, .ref x)) (kk : Z Γ X d h0 o (pc + 2) lv (.ref x :: st) h) : Z Γ X d h0 o pc lv st h := Z.go (fun C hl w => lv_aload C.1 C.2.1 hd (lv_at hl j hj) w) kk
theorem z_istore_n {k : Fin 4} {i : Nat} {x : Int32} (lv' : List (Nat × Value)) (hd : decode (zcc X) pc = .ok (.istore_n k, 1)) (hi : (k : Nat) = i) (hn : i < zml X) (hv : (i, Value.int x) :: lv.filter (fun q => !(q.1 == i) && !(q.1 + 1 == i && q.2.category == 2)) = lv') (kk : Z Γ X d h0 o (pc + 1) lv' st h) : Z Γ X d h0 o pc lv (.int x :: st) h := Z.set (fun C hl w => lv_istore_n C.1 C.2.1 hd hi hl hn hv w) kk
theorem z_istore {i : Nat} {x : Int32} (lv' : List (Nat × Value)) (hd : decode (zcc X) pc = .ok (.istore i, 2)) (hn : i < zml X) (hv : (i, Value.int x) :: lv.filter (fun q => !(q.1 == i) && !(q.1 + 1 == i && q.2.category == 2)) = lv') (kk : Z Γ X d h0 o (pc + 2) lv' st h) : Z Γ X d h0 o pc lv (.int x :: st) h := Z.set (fun C hl w => lv_istore C.1 C.2.1 hd hl hn hv w) kk
theorem z_lstore_n {k : Fin 4} {i : Nat} {x : Int64} (lv' : List (Nat × Value)) (hd : decode (zcc X) pc = .ok (.lstore_n k, 1)) (hi : (k : Nat) = i) (hn : i + 1 < zml X) (hv : (i, Value.long x) :: lv.filter (fun q => !(q.1 == i) && (!(q.1 == i + 1) && !(q.1 + 1 == i && q.2.category == 2))) = lv') (kk : Z Γ X d h0 o (pc + 1) lv' st h) : Z Γ X d h0 o pc lv (.long x :: st) h := Z.set (fun C hl w => lv_lstore_n C.1 C.2.1 hd hi hl hn hv w) kk
theorem z_lstore {i : Nat} {x : Int64} (lv' : List (Nat × Value)) (hd : decode (zcc X) pc = .ok (.lstore i, 2)) (hn : i + 1 < zml X) (hv : (i, Value.long x) :: lv.filter (fun q => !(q.1 == i) && (!(q.1 == i + 1) && !(q.1 + 1 == i && q.2.category == 2))) = lv') (kk : Z Γ X d h0 o (pc + 2) lv' st h) : Z Γ X d h0 o pc lv (.long x :: st) h := Z.set (fun C hl w => lv_lstore C.1 C.2.1 hd hl hn hv w) kk
theorem z_astore_n {k : Fin 4} {i : Nat} {x : Nat} (lv' : List (Nat × Value)) (hd : decode (zcc X) pc = .ok (.astore_n k, 1)) (hi : (k : Nat) = i) (hn : i < zml X) (hv : (i, Value.ref x) :: lv.filter (fun q => !(q.1 == i) && !(q.1 + 1 == i && q.2.category == 2)) = lv') (kk : Z Γ X d h0 o (pc + 1) lv' st h) : Z Γ X d h0 o pc lv (.ref x :: st) h := Z.set (fun C hl w => lv_astore_n C.1 C.2.1 hd hi hl hn hv w) kk
theorem z_astore {i : Nat} {x : Nat} (lv' : List (Nat × Value)) (hd : decode (zcc X) pc = .ok (.astore i, 2)) (hn : i < zml X) (hv : (i, Value.ref x) :: lv.filter (fun q => !(q.1 == i) && !(q.1 + 1 == i && q.2.category == 2)) = lv') (kk : Z Γ X d h0 o (pc + 2) lv' st h) : Z Γ X d h0 o pc lv (.ref x :: st) h := Z.set (fun C hl w => lv_astore C.1 C.2.1 hd hl hn hv w) kk
theorem z_iinc {i : Nat} {n : Int} {x : Int32} (v : Int32) (k : Nat) (lv' : List (Nat × Value)) (hd : decode (zcc X) pc = .ok (.iinc i n, 3)) (hk : lv[k]? = some (i, .int x)) (hx : x + Int32.ofInt n = v) (hn : i < zml X) (hv : (i, Value.int v) :: lv.filter (fun q => !(q.1 == i) && !(q.1 + 1 == i && q.2.category == 2)) = lv') (kk : Z Γ X d h0 o (pc + 3) lv' st h) : Z Γ X d h0 o pc lv st h := Z.set (fun C hl w => lv_iinc C.1 C.2.1 hd hl hk hx hn hv w) kk
theorem z_iadd {x y : Int32} (hd : decode (zcc X) pc = .ok (.iadd, 1)) (kk : Z Γ X d h0 o (pc + 1) lv (.int (x + y) :: st) h) : Z Γ X d h0 o pc lv (.int y :: .int x :: st) h := Z.go (fun C hl w => lv_iadd C.1 C.2.1 hd w) kk
theorem z_isub {x y : Int32} (hd : decode (zcc X) pc = .ok (.isub, 1)) (kk : Z Γ X d h0 o (pc + 1) lv (.int (x - y) :: st) h) : Z Γ X d h0 o pc lv (.int y :: .int x :: st) h := Z.go (fun C hl w => lv_isub C.1 C.2.1 hd w) kk
theorem z_imul {x y : Int32} (hd : decode (zcc X) pc = .ok (.imul, 1)) (kk : Z Γ X d h0 o (pc + 1) lv (.int (x * y) :: st) h) : Z Γ X d h0 o pc lv (.int y :: .int x :: st) h := Z.go (fun C hl w => lv_imul C.1 C.2.1 hd w) kk
theorem z_iand {x y : Int32} (hd : decode (zcc X) pc = .ok (.iand, 1)) (kk : Z Γ X d h0 o (pc + 1) lv (.int (x &&& y) :: st) h) : Z Γ X d h0 o pc lv (.int y :: .int x :: st) h := Z.go (fun C hl w => lv_iand C.1 C.2.1 hd w) kk
theorem z_ior {x y : Int32} (hd : decode (zcc X) pc = .ok (.ior, 1)) (kk : Z Γ X d h0 o (pc + 1) lv (.int (x ||| y) :: st) h) : Z Γ X d h0 o pc lv (.int y :: .int x :: st) h := Z.go (fun C hl w => lv_ior C.1 C.2.1 hd w) kk
theorem z_ixor {x y : Int32} (hd : decode (zcc X) pc = .ok (.ixor, 1)) (kk : Z Γ X d h0 o (pc + 1) lv (.int (x ^^^ y) :: st) h) : Z Γ X d h0 o pc lv (.int y :: .int x :: st) h := Z.go (fun C hl w => lv_ixor C.1 C.2.1 hd w) kk
theorem z_ishl {x y : Int32} (hd : decode (zcc X) pc = .ok (.ishl, 1)) (kk : Z Γ X d h0 o (pc + 1) lv (.int (x <<< (y &&& 31)) :: st) h) : Z Γ X d h0 o pc lv (.int y :: .int x :: st) h := Z.go (fun C hl w => lv_ishl C.1 C.2.1 hd w) kk
theorem z_ishr {x y : Int32} (hd : decode (zcc X) pc = .ok (.ishr, 1)) (kk : Z Γ X d h0 o (pc + 1) lv (.int (x >>> (y &&& 31)) :: st) h) : Z Γ X d h0 o pc lv (.int y :: .int x :: st) h := Z.go (fun C hl w => lv_ishr C.1 C.2.1 hd w) kk
theorem z_ladd {x y : Int64} (hd : decode (zcc X) pc = .ok (.ladd, 1)) (kk : Z Γ X d h0 o (pc + 1) lv (.long (x + y) :: st) h) : Z Γ X d h0 o pc lv (.long y :: .long x :: st) h := Z.go (fun C hl w => lv_ladd C.1 C.2.1 hd w) kk
theorem z_lsub {x y : Int64} (hd : decode (zcc X) pc = .ok (.lsub, 1)) (kk : Z Γ X d h0 o (pc + 1) lv (.long (x - y) :: st) h) : Z Γ X d h0 o pc lv (.long y :: .long x :: st) h := Z.go (fun C hl w => lv_lsub C.1 C.2.1 hd w) kk
theorem z_lmul {x y : Int64} (hd : decode (zcc X) pc = .ok (.lmul, 1)) (kk : Z Γ X d h0 o (pc + 1) lv (.long (x * y) :: st) h) : Z Γ X d h0 o pc lv (.long y :: .long x :: st) h := Z.go (fun C hl w => lv_lmul C.1 C.2.1 hd w) kk
theorem z_land {x y : Int64} (hd : decode (zcc X) pc = .ok (.land, 1)) (kk : Z Γ X d h0 o (pc + 1) lv (.long (x &&& y) :: st) h) : Z Γ X d h0 o pc lv (.long y :: .long x :: st) h := Z.go (fun C hl w => lv_land C.1 C.2.1 hd w) kk
theorem z_lor {x y : Int64} (hd : decode (zcc X) pc = .ok (.lor, 1)) (kk : Z Γ X d h0 o (pc + 1) lv (.long (x ||| y) :: st) h) : Z Γ X d h0 o pc lv (.long y :: .long x :: st) h := Z.go (fun C hl w => lv_lor C.1 C.2.1 hd w) kk
theorem z_lxor {x y : Int64} (hd : decode (zcc X) pc = .ok (.lxor, 1)) (kk : Z Γ X d h0 o (pc + 1) lv (.long (x ^^^ y) :: st) h) : Z Γ X d h0 o pc lv (.long y :: .long x :: st) h := Z.go (fun C hl w => lv_lxor C.1 C.2.1 hd w) kk
theorem z_ineg {x : Int32} (hd : decode (zcc X) pc = .ok (.ineg, 1)) (kk : Z Γ X d h0 o (pc + 1) lv (.int (-x) :: st) h) : Z Γ X d h0 o pc lv (.int x :: st) h := Z.go (fun C hl w => lv_ineg C.1 C.2.1 hd w) kk
theorem z_lneg {x : Int64} (hd : decode (zcc X) pc = .ok (.lneg, 1)) (kk : Z Γ X d h0 o (pc + 1) lv (.long (-x) :: st) h) : Z Γ X d h0 o pc lv (.long x :: st) h := Z.go (fun C hl w => lv_lneg C.1 C.2.1 hd w) kk
theorem z_i2l {x : Int32} (hd : decode (zcc X) pc = .ok (.i2l, 1)) (kk : Z Γ X d h0 o (pc + 1) lv (.long x.toInt64 :: st) h) : Z Γ X d h0 o pc lv (.int x :: st) h := Z.go (fun C hl w => lv_i2l C.1 C.2.1 hd rfl w) kk
theorem z_l2i {x : Int64} (hd : decode (zcc X) pc = .ok (.l2i, 1)) (kk : Z Γ X d h0 o (pc + 1) lv (.int x.toInt32 :: st) h) : Z Γ X d h0 o pc lv (.long x :: st) h := Z.go (fun C hl w => lv_l2i C.1 C.2.1 hd rfl w) kk
theorem z_iushr {x y : Int32} (hd : decode (zcc X) pc = .ok (.iushr, 1)) (kk : Z Γ X d h0 o (pc + 1) lv (.int (x.toUInt32 >>> (y.toUInt32 &&& Int32.toUInt32 31)).toInt32 :: st) h) : Z Γ X d h0 o pc lv (.int y :: .int x :: st) h := Z.go (fun C hl w => lv_iushr C.1 C.2.1 hd rfl w) kk
theorem z_lushr {x : Int64} {y : Int32} (hd : decode (zcc X) pc = .ok (.lushr, 1)) (kk : Z Γ X d h0 o (pc + 1) lv (.long (x.toUInt64 >>> (y.toInt64.toUInt64 &&& Int64.toUInt64 63)).toInt64 :: st) h) : Z Γ X d h0 o pc lv (.int y :: .long x :: st) h := Z.go (fun C hl w => lv_lushr C.1 C.2.1 hd rfl w) kk
theorem z_lshl {x : Int64} {y : Int32} (hd : decode (zcc X) pc = .ok (.lshl, 1)) (kk : Z Γ X d h0 o (pc + 1) lv (.long (x <<< (y.toInt64 &&& 63)) :: st) h) : Z Γ X d h0 o pc lv (.int y :: .long x :: st) h := Z.go (fun C hl w => lv_lshl C.1 C.2.1 hd rfl w) kk
theorem z_lcmp {x y : Int64} (hd : decode (zcc X) pc = .ok (.lcmp, 1)) (kk : Z Γ X d h0 o (pc + 1) lv (.int (lg_cmp x y) :: st) h) : Z Γ X d h0 o pc lv (.long y :: .long x :: st) h := Z.go (fun C hl w => W.lcmp C.1 C.2.1 hd w) kk
def zdivI (x y : Int32) : Option Int32 := if y = 0 then none else some (x / y)
theorem z_idiv {β : Type} {x y : Int32} {K : Int32 → Option β} {w : β} (hd : decode (zcc X) pc = .ok (.idiv, 1)) (hf : (zdivI x y).bind K = some w) (kk : ∀ v : Int32, K v = some w → Z Γ X d h0 o (pc + 1) lv (.int v :: st) h) : Z Γ X d h0 o pc lv (.int y :: .int x :: st) h := by
  unfold zdivI at hf
  split at hf
  · cases hf
  · next hne => exact Z.go (fun C hl w => lv_idiv C.1 C.2.1 hd hne w) (kk _ hf)
def zremI (x y : Int32) : Option Int32 := if y = 0 then none else some (x - x / y * y)
theorem z_irem {β : Type} {x y : Int32} {K : Int32 → Option β} {w : β} (hd : decode (zcc X) pc = .ok (.irem, 1)) (hf : (zremI x y).bind K = some w) (kk : ∀ v : Int32, K v = some w → Z Γ X d h0 o (pc + 1) lv (.int v :: st) h) : Z Γ X d h0 o pc lv (.int y :: .int x :: st) h := by
  unfold zremI at hf
  split at hf
  · cases hf
  · next hne => exact Z.go (fun C hl w => lv_irem C.1 C.2.1 hd hne w) (kk _ hf)
def zdivL (x y : Int64) : Option Int64 := if y = 0 then none else some (x / y)
theorem z_ldiv {β : Type} {x y : Int64} {K : Int64 → Option β} {w : β} (hd : decode (zcc X) pc = .ok (.ldiv, 1)) (hf : (zdivL x y).bind K = some w) (kk : ∀ v : Int64, K v = some w → Z Γ X d h0 o (pc + 1) lv (.long v :: st) h) : Z Γ X d h0 o pc lv (.long y :: .long x :: st) h := by
  unfold zdivL at hf
  split at hf
  · cases hf
  · next hne => exact Z.go (fun C hl w => lv_ldiv C.1 C.2.1 hd hne w) (kk _ hf)
def zremL (x y : Int64) : Option Int64 := if y = 0 then none else some (x - x / y * y)
theorem z_lrem {β : Type} {x y : Int64} {K : Int64 → Option β} {w : β} (hd : decode (zcc X) pc = .ok (.lrem, 1)) (hf : (zremL x y).bind K = some w) (kk : ∀ v : Int64, K v = some w → Z Γ X d h0 o (pc + 1) lv (.long v :: st) h) : Z Γ X d h0 o pc lv (.long y :: .long x :: st) h := by
  unfold zremL at hf
  split at hf
  · cases hf
  · next hne => exact Z.go (fun C hl w => lv_lrem C.1 C.2.1 hd hne w) (kk _ hf)
theorem z_dup {va : Value} (hd : decode (zcc X) pc = .ok (.dup, 1)) (hva : va.category = 1) (kk : Z Γ X d h0 o (pc + 1) lv (va :: va :: st) h) : Z Γ X d h0 o pc lv (va :: st) h := Z.go (fun C hl w => lv_dup C.1 C.2.1 hd hva w) kk
theorem z_pop {va : Value} (hd : decode (zcc X) pc = .ok (.pop, 1)) (hva : va.category = 1) (kk : Z Γ X d h0 o (pc + 1) lv st h) : Z Γ X d h0 o pc lv (va :: st) h := Z.go (fun C hl w => lv_pop C.1 C.2.1 hd hva w) kk
theorem z_dup2 {va vb : Value} (hd : decode (zcc X) pc = .ok (.dup2, 1)) (hva : va.category = 1) (hvb : vb.category = 1) (kk : Z Γ X d h0 o (pc + 1) lv (va :: vb :: va :: vb :: st) h) : Z Γ X d h0 o pc lv (va :: vb :: st) h := Z.go (fun C hl w => lv_dup2_11 C.1 C.2.1 hd hva hvb w) kk
theorem z_goto {off : Int} (tgt : Nat) (hd : decode (zcc X) pc = .ok (.goto off, 3)) (ht : (pc : Int) + off = (tgt : Int)) (kk : Z Γ X d h0 o tgt lv st h) : Z Γ X d h0 o pc lv st h := Z.go (fun C hl w => lv_goto C.1 C.2.1 hd ht w) kk
theorem z_null (hd : decode (zcc X) pc = .ok (.aconst_null, 1)) (kk : Z Γ X d h0 o (pc + 1) lv (.null :: st) h) : Z Γ X d h0 o pc lv st h := Z.go (fun C hl w => lv_null C.1 C.2.1 hd w) kk
theorem z_icmp_eq {β : Type} {A B : Option β} {w : β} {x y : Int32} {off : Int} (tgt : Nat) (hd : decode (zcc X) pc = .ok (.if_icmp .eq off, 3)) (ht : (pc : Int) + off = (tgt : Int)) (hf : (if x = y then A else B) = some w) (kt : A = some w → Z Γ X d h0 o tgt lv st h) (kf : B = some w → Z Γ X d h0 o (pc + 3) lv st h) : Z Γ X d h0 o pc lv (.int y :: .int x :: st) h := by
  by_cases hc : x = y
  · rw [if_pos hc] at hf
    exact Z.go (fun C hl w => lv_icmp_eq C.1 C.2.1 hd ht (fun _ => w) (fun hn => absurd hc hn)) (kt hf)
  · rw [if_neg hc] at hf
    exact Z.go (fun C hl w => lv_icmp_eq C.1 C.2.1 hd ht (fun hp => absurd hp hc) (fun _ => w)) (kf hf)
theorem z_if_eq {β : Type} {A B : Option β} {w : β} {x : Int32} {off : Int} (tgt : Nat) (hd : decode (zcc X) pc = .ok (.ifCond .eq off, 3)) (ht : (pc : Int) + off = (tgt : Int)) (hf : (if x = 0 then A else B) = some w) (kt : A = some w → Z Γ X d h0 o tgt lv st h) (kf : B = some w → Z Γ X d h0 o (pc + 3) lv st h) : Z Γ X d h0 o pc lv (.int x :: st) h := by
  by_cases hc : x = 0
  · rw [if_pos hc] at hf
    exact Z.go (fun C hl w => lv_if_eq C.1 C.2.1 hd ht (fun _ => w) (fun hn => absurd hc hn)) (kt hf)
  · rw [if_neg hc] at hf
    exact Z.go (fun C hl w => lv_if_eq C.1 C.2.1 hd ht (fun hp => absurd hp hc) (fun _ => w)) (kf hf)
theorem z_icmp_lt {β : Type} {A B : Option β} {w : β} {x y : Int32} {off : Int} (tgt : Nat) (hd : decode (zcc X) pc = .ok (.if_icmp .lt off, 3)) (ht : (pc : Int) + off = (tgt : Int)) (hf : (if x < y then A else B) = some w) (kt : A = some w → Z Γ X d h0 o tgt lv st h) (kf : B = some w → Z Γ X d h0 o (pc + 3) lv st h) : Z Γ X d h0 o pc lv (.int y :: .int x :: st) h := by
  by_cases hc : x < y
  · rw [if_pos hc] at hf
    exact Z.go (fun C hl w => lv_icmp_lt C.1 C.2.1 hd ht (fun _ => w) (fun hn => absurd hc hn)) (kt hf)
  · rw [if_neg hc] at hf
    exact Z.go (fun C hl w => lv_icmp_lt C.1 C.2.1 hd ht (fun hp => absurd hp hc) (fun _ => w)) (kf hf)
theorem z_if_lt {β : Type} {A B : Option β} {w : β} {x : Int32} {off : Int} (tgt : Nat) (hd : decode (zcc X) pc = .ok (.ifCond .lt off, 3)) (ht : (pc : Int) + off = (tgt : Int)) (hf : (if x < 0 then A else B) = some w) (kt : A = some w → Z Γ X d h0 o tgt lv st h) (kf : B = some w → Z Γ X d h0 o (pc + 3) lv st h) : Z Γ X d h0 o pc lv (.int x :: st) h := by
  by_cases hc : x < 0
  · rw [if_pos hc] at hf
    exact Z.go (fun C hl w => lv_if_lt C.1 C.2.1 hd ht (fun _ => w) (fun hn => absurd hc hn)) (kt hf)
  · rw [if_neg hc] at hf
    exact Z.go (fun C hl w => lv_if_lt C.1 C.2.1 hd ht (fun hp => absurd hp hc) (fun _ => w)) (kf hf)
theorem z_icmp_ge {β : Type} {A B : Option β} {w : β} {x y : Int32} {off : Int} (tgt : Nat) (hd : decode (zcc X) pc = .ok (.if_icmp .ge off, 3)) (ht : (pc : Int) + off = (tgt : Int)) (hf : (if y ≤ x then A else B) = some w) (kt : A = some w → Z Γ X d h0 o tgt lv st h) (kf : B = some w → Z Γ X d h0 o (pc + 3) lv st h) : Z Γ X d h0 o pc lv (.int y :: .int x :: st) h := by
  by_cases hc : y ≤ x
  · rw [if_pos hc] at hf
    exact Z.go (fun C hl w => lv_icmp_ge C.1 C.2.1 hd ht (fun _ => w) (fun hn => absurd hc hn)) (kt hf)
  · rw [if_neg hc] at hf
    exact Z.go (fun C hl w => lv_icmp_ge C.1 C.2.1 hd ht (fun hp => absurd hp hc) (fun _ => w)) (kf hf)
theorem z_if_ge {β : Type} {A B : Option β} {w : β} {x : Int32} {off : Int} (tgt : Nat) (hd : decode (zcc X) pc = .ok (.ifCond .ge off, 3)) (ht : (pc : Int) + off = (tgt : Int)) (hf : (if 0 ≤ x then A else B) = some w) (kt : A = some w → Z Γ X d h0 o tgt lv st h) (kf : B = some w → Z Γ X d h0 o (pc + 3) lv st h) : Z Γ X d h0 o pc lv (.int x :: st) h := by
  by_cases hc : 0 ≤ x
  · rw [if_pos hc] at hf
    exact Z.go (fun C hl w => lv_if_ge C.1 C.2.1 hd ht (fun _ => w) (fun hn => absurd hc hn)) (kt hf)
  · rw [if_neg hc] at hf
    exact Z.go (fun C hl w => lv_if_ge C.1 C.2.1 hd ht (fun hp => absurd hp hc) (fun _ => w)) (kf hf)
theorem z_icmp_gt {β : Type} {A B : Option β} {w : β} {x y : Int32} {off : Int} (tgt : Nat) (hd : decode (zcc X) pc = .ok (.if_icmp .gt off, 3)) (ht : (pc : Int) + off = (tgt : Int)) (hf : (if y < x then A else B) = some w) (kt : A = some w → Z Γ X d h0 o tgt lv st h) (kf : B = some w → Z Γ X d h0 o (pc + 3) lv st h) : Z Γ X d h0 o pc lv (.int y :: .int x :: st) h := by
  by_cases hc : y < x
  · rw [if_pos hc] at hf
    exact Z.go (fun C hl w => lv_icmp_gt C.1 C.2.1 hd ht (fun _ => w) (fun hn => absurd hc hn)) (kt hf)
  · rw [if_neg hc] at hf
    exact Z.go (fun C hl w => lv_icmp_gt C.1 C.2.1 hd ht (fun hp => absurd hp hc) (fun _ => w)) (kf hf)
theorem z_if_gt {β : Type} {A B : Option β} {w : β} {x : Int32} {off : Int} (tgt : Nat) (hd : decode (zcc X) pc = .ok (.ifCond .gt off, 3)) (ht : (pc : Int) + off = (tgt : Int)) (hf : (if 0 < x then A else B) = some w) (kt : A = some w → Z Γ X d h0 o tgt lv st h) (kf : B = some w → Z Γ X d h0 o (pc + 3) lv st h) : Z Γ X d h0 o pc lv (.int x :: st) h := by
  by_cases hc : 0 < x
  · rw [if_pos hc] at hf
    exact Z.go (fun C hl w => lv_if_gt C.1 C.2.1 hd ht (fun _ => w) (fun hn => absurd hc hn)) (kt hf)
  · rw [if_neg hc] at hf
    exact Z.go (fun C hl w => lv_if_gt C.1 C.2.1 hd ht (fun hp => absurd hp hc) (fun _ => w)) (kf hf)
theorem z_icmp_le {β : Type} {A B : Option β} {w : β} {x y : Int32} {off : Int} (tgt : Nat) (hd : decode (zcc X) pc = .ok (.if_icmp .le off, 3)) (ht : (pc : Int) + off = (tgt : Int)) (hf : (if x ≤ y then A else B) = some w) (kt : A = some w → Z Γ X d h0 o tgt lv st h) (kf : B = some w → Z Γ X d h0 o (pc + 3) lv st h) : Z Γ X d h0 o pc lv (.int y :: .int x :: st) h := by
  by_cases hc : x ≤ y
  · rw [if_pos hc] at hf
    exact Z.go (fun C hl w => lv_icmp_le C.1 C.2.1 hd ht (fun _ => w) (fun hn => absurd hc hn)) (kt hf)
  · rw [if_neg hc] at hf
    exact Z.go (fun C hl w => lv_icmp_le C.1 C.2.1 hd ht (fun hp => absurd hp hc) (fun _ => w)) (kf hf)
theorem z_if_le {β : Type} {A B : Option β} {w : β} {x : Int32} {off : Int} (tgt : Nat) (hd : decode (zcc X) pc = .ok (.ifCond .le off, 3)) (ht : (pc : Int) + off = (tgt : Int)) (hf : (if x ≤ 0 then A else B) = some w) (kt : A = some w → Z Γ X d h0 o tgt lv st h) (kf : B = some w → Z Γ X d h0 o (pc + 3) lv st h) : Z Γ X d h0 o pc lv (.int x :: st) h := by
  by_cases hc : x ≤ 0
  · rw [if_pos hc] at hf
    exact Z.go (fun C hl w => lv_if_le C.1 C.2.1 hd ht (fun _ => w) (fun hn => absurd hc hn)) (kt hf)
  · rw [if_neg hc] at hf
    exact Z.go (fun C hl w => lv_if_le C.1 C.2.1 hd ht (fun hp => absurd hp hc) (fun _ => w)) (kf hf)
theorem z_ifnonnull {x : Nat} {off : Int} (tgt : Nat) (hd : decode (zcc X) pc = .ok (.ifnonnull off, 3)) (ht : (pc : Int) + off = (tgt : Int)) (kk : Z Γ X d h0 o tgt lv st h) : Z Γ X d h0 o pc lv (.ref x :: st) h := Z.go (fun C hl w => lv_ifnonnull C.1 C.2.1 hd ht w) kk
theorem z_ifnull {x : Nat} {off : Int} (hd : decode (zcc X) pc = .ok (.ifnull off, 3)) (kk : Z Γ X d h0 o (pc + 3) lv st h) : Z Γ X d h0 o pc lv (.ref x :: st) h := Z.go (fun C hl w => lv_ifnull C.1 C.2.1 hd w) kk
theorem z_ifnonnullN {off : Int} (hd : decode (zcc X) pc = .ok (.ifnonnull off, 3)) (kk : Z Γ X d h0 o (pc + 3) lv st h) : Z Γ X d h0 o pc lv (.null :: st) h := Z.go (fun C hl w => lv_ifnonnullN C.1 C.2.1 hd w) kk
theorem z_ifnullN {off : Int} (tgt : Nat) (hd : decode (zcc X) pc = .ok (.ifnull off, 3)) (ht : (pc : Int) + off = (tgt : Int)) (kk : Z Γ X d h0 o tgt lv st h) : Z Γ X d h0 o pc lv (.null :: st) h := Z.go (fun C hl w => lv_ifnullN C.1 C.2.1 hd ht w) kk
theorem z_tableIn {dflt lo hi : Int} {offs : Array Int} {len : Nat} {x : Int32} {off : Int} (tgt : Nat) (hd : decode (zcc X) pc = .ok (.tableswitch dflt lo hi offs, len)) (h1 : ¬ x.toInt < lo) (h2 : ¬ hi < x.toInt) (ho : offs[(x.toInt - lo).toNat]? = some off) (ht : (pc : Int) + off = (tgt : Int)) (kk : Z Γ X d h0 o tgt lv st h) : Z Γ X d h0 o pc lv (.int x :: st) h := Z.go (fun C hl w => lv_tableIn C.1 C.2.1 hd h1 h2 ho ht w) kk
theorem z_tableOut {dflt lo hi : Int} {offs : Array Int} {len : Nat} {x : Int32} (tgt : Nat) (hd : decode (zcc X) pc = .ok (.tableswitch dflt lo hi offs, len)) (hx : x.toInt < lo ∨ hi < x.toInt) (ht : (pc : Int) + dflt = (tgt : Int)) (kk : Z Γ X d h0 o tgt lv st h) : Z Γ X d h0 o pc lv (.int x :: st) h := Z.go (fun C hl w => lv_tableOut C.1 C.2.1 hd hx ht w) kk
theorem z_icmp_ne {β : Type} {A B : Option β} {w : β} {x y : Int32} {off : Int} (tgt : Nat) (hd : decode (zcc X) pc = .ok (.if_icmp .ne off, 3)) (ht : (pc : Int) + off = (tgt : Int)) (hf : (if x = y then A else B) = some w) (kt : A = some w → Z Γ X d h0 o (pc + 3) lv st h) (kf : B = some w → Z Γ X d h0 o tgt lv st h) : Z Γ X d h0 o pc lv (.int y :: .int x :: st) h := by
  by_cases hc : x = y
  · rw [if_pos hc] at hf
    exact Z.go (fun C hl w => lv_icmp_ne C.1 C.2.1 hd ht (fun hn => absurd hc hn) (fun _ => w)) (kt hf)
  · rw [if_neg hc] at hf
    exact Z.go (fun C hl w => lv_icmp_ne C.1 C.2.1 hd ht (fun _ => w) (fun hn => absurd hn hc)) (kf hf)
theorem z_if_ne {β : Type} {A B : Option β} {w : β} {x : Int32} {off : Int} (tgt : Nat) (hd : decode (zcc X) pc = .ok (.ifCond .ne off, 3)) (ht : (pc : Int) + off = (tgt : Int)) (hf : (if x = 0 then A else B) = some w) (kt : A = some w → Z Γ X d h0 o (pc + 3) lv st h) (kf : B = some w → Z Γ X d h0 o tgt lv st h) : Z Γ X d h0 o pc lv (.int x :: st) h := by
  by_cases hc : x = 0
  · rw [if_pos hc] at hf
    exact Z.go (fun C hl w => lv_if_ne C.1 C.2.1 hd ht (fun hn => absurd hc hn) (fun _ => w)) (kt hf)
  · rw [if_neg hc] at hf
    exact Z.go (fun C hl w => lv_if_ne C.1 C.2.1 hd ht (fun _ => w) (fun hn => absurd hn hc)) (kf hf)
end ZROWS
end
section
/-! ===== z: fields, arrays, what is made ===== -/
def zCls (c : Nat) (C : String) (T : u_T) (N : Nat) (ty : Nat → FieldType) : Prop := vwCl[c]? = some (C, T, N) ∧ (∀ w ∈ u_ws C T N, w ∈ GW) ∧ (∀ k, k < N → parseFieldDescriptor (T k).2.2.1 = some (ty k)) ∧ (∀ a, a < N → ∀ b, b < N → a ≠ b → (T a).2.1 ≠ (T b).2.1) ∧ (∀ k, k < N → (T k).1 = C)
def gF (h : zH) (a c k : Nat) : Option Value := match hM h a with
  | some (.inr (c', fs)) => if c' = c then fs[k]? else none
  | _ => none
def gI (h : zH) (a c k : Nat) : Option Int32 := match gF h a c k with
  | some (.int x) => some x
  | _ => none
def gA (h : zH) (a c k : Nat) : Option Nat := match gF h a c k with
  | some (.ref x) => some x
  | _ => none
def pF (h : zH) (a c k : Nat) (v : Value) : Option zH := match hM h a with
  | some (.inr (c', fs)) => if c' = c ∧ k < fs.length then some (hPut h a (.inr (c, fs.set k v))) else none
  | _ => none
/-- a truth -/
def zB (x : Int32) : Option Int32 := if x = 0 ∨ x = 1 then some x else none
def zix (i : Int32) (n : Nat) : Prop := ¬ i < 0 ∧ i.toNatClampNeg < n
theorem zix.vp {i : Int32} {n : Nat} (h : zix i n) : vp_in i n := fun q => q.elim h.1 (fun z => absurd h.2 (Nat.not_lt.mpr z))
def ldI (h : zH) (a : Nat) (i : Int32) : Option Int32 := match hM h a with
  | some (.inl (k, n, .inl f)) => if k = 0 ∧ ¬ i < 0 ∧ i.toNatClampNeg < n then some (f i.toNatClampNeg) else none
  | _ => none
def ldZ (h : zH) (a : Nat) (i : Int32) : Option Int32 := match hM h a with
  | some (.inl (k, n, .inl f)) => if k = 2 ∧ ¬ i < 0 ∧ i.toNatClampNeg < n then some (f i.toNatClampNeg) else none
  | _ => none
def ldJ (h : zH) (a : Nat) (i : Int32) : Option Int64 := match hM h a with
  | some (.inl (k, n, .inr (.inl f))) => if k = 1 ∧ ¬ i < 0 ∧ i.toNatClampNeg < n then some (f i.toNatClampNeg) else none
  | _ => none
def ldQ (h : zH) (a : Nat) (i : Int32) : Option Nat := match hM h a with
  | some (.inl (k, n, .inr (.inr (.inr (.inr f))))) => if (k = 3 ∨ k = 4 ∨ k = 5) ∧ ¬ i < 0 ∧ i.toNatClampNeg < n then f i.toNatClampNeg else none
  | _ => none
def stI (h : zH) (a : Nat) (i x : Int32) : Option zH := match hM h a with
  | some (.inl (k, n, .inl f)) => if k = 0 ∧ ¬ i < 0 ∧ i.toNatClampNeg < n then some (hPut h a (.inl (0, n, .inl (upd f i.toNatClampNeg x)))) else none
  | _ => none
def stZ (h : zH) (a : Nat) (i x : Int32) : Option zH := match hM h a with
  | some (.inl (k, n, .inl f)) => if k = 2 ∧ (¬ i < 0 ∧ i.toNatClampNeg < n) ∧ (x = 0 ∨ x = 1) then some (hPut h a (.inl (2, n, .inl (upd f i.toNatClampNeg x)))) else none
  | _ => none
def stJ (h : zH) (a : Nat) (i : Int32) (x : Int64) : Option zH := match hM h a with
  | some (.inl (k, n, .inr (.inl f))) => if k = 1 ∧ ¬ i < 0 ∧ i.toNatClampNeg < n then some (hPut h a (.inl (1, n, .inr (.inl (vp_updL f i.toNatClampNeg x))))) else none
  | _ => none
/-- the class number of the objects that an array of this kind holds -/
def zqc : Nat → Nat := fun k => if k = 3 then 1 else 0
def stQ (h : zH) (a : Nat) (i : Int32) (v : Nat) : Option zH := match hM h a, hM h v with
  | some (.inl (k, n, .inr (.inr (.inr (.inr f))))), some (.inr (cv, _)) => if (k = 3 ∨ k = 4) ∧ cv = zqc k ∧ ¬ i < 0 ∧ i.toNatClampNeg < n then some (hPut h a (.inl (k, n, .inr (.inr (.inr (.inr (va_up f i.toNatClampNeg (some v)))))))) else none
  | _, _ => none
def aLen (h : zH) (a : Nat) : Option Int32 := match hM h a with
  | some (.inl (k, n, _)) => if k < 6 then some (Int32.ofNat n) else none
  | _ => none
def nwI (h : zH) (i : Int32) : Option (Nat × zH) := if ¬ i < 0 ∧ i.toNatClampNeg ≤ 100000 then some (hS h, hNew h (.inl (0, i.toNatClampNeg, .inl (fun _ => 0))) i.toNatClampNeg) else none
def nwZ (h : zH) (i : Int32) : Option (Nat × zH) := if ¬ i < 0 ∧ i.toNatClampNeg ≤ 100000 then some (hS h, hNew h (.inl (2, i.toNatClampNeg, .inl (fun _ => 0))) i.toNatClampNeg) else none
def nwJ (h : zH) (i : Int32) : Option (Nat × zH) := if ¬ i < 0 ∧ i.toNatClampNeg ≤ 100000 then some (hS h, hNew h (.inl (1, i.toNatClampNeg, .inr (.inl (fun _ => 0)))) i.toNatClampNeg) else none
def nwQ (k : Nat) (h : zH) (i : Int32) : Option (Nat × zH) := if (k = 3 ∨ k = 4) ∧ ¬ i < 0 ∧ i.toNatClampNeg ≤ 100000 then some (hS h, hNew h (.inl (k, i.toNatClampNeg, .inr (.inr (.inr (.inr (fun _ => none)))))) i.toNatClampNeg) else none
def nwO (c : Nat) (fs : List Value) (h : zH) : Nat × zH := (hS h, hNew h (.inr (c, fs)) fs.length)
theorem zP1 {D : va_G} {cl : List vw_C} {q : Nat × va_E} {H : Heap} (h : va_at D cl q H) : va_P D cl [q] H := by
  intro k x hx
  match k, hx with
  | 0, hx => cases hx; exact h
theorem gF_of {h : zH} {a c k : Nat} {v : Value} (hv : gF h a c k = some v) : ∃ fs : List Value, hM h a = some (.inr (c, fs)) ∧ fs[k]? = some v := by
  unfold gF at hv
  split at hv
  · next c' fs he =>
    split at hv
    · next hc => subst hc; exact ⟨fs, he, hv⟩
    · cases hv
  · cases hv
theorem gI_of {h : zH} {a c k : Nat} {x : Int32} (hv : gI h a c k = some x) : gF h a c k = some (.int x) := by
  unfold gI at hv
  split at hv
  · next y he => cases hv; exact he
  · cases hv
theorem gA_of {h : zH} {a c k : Nat} {x : Nat} (hv : gA h a c k = some x) : gF h a c k = some (.ref x) := by
  unfold gA at hv
  split at hv
  · next y he => cases hv; exact he
  · cases hv
theorem pF_of {h h1 : zH} {a c k : Nat} {v : Value} (hv : pF h a c k v = some h1) : ∃ fs : List Value, hM h a = some (.inr (c, fs)) ∧ k < fs.length ∧ h1 = hPut h a (.inr (c, fs.set k v)) := by
  unfold pF at hv
  split at hv
  · next c' fs he =>
    split at hv
    · next hc => obtain ⟨rfl, hk⟩ := hc; cases hv; exact ⟨fs, he, hk, rfl⟩
    · cases hv
  · cases hv
theorem zRp.put {Γ : zG} {h : zH} {H H1 : Heap} {a : Nat} {e e' : zE} (hR : zRp Γ h H) (he : hM h a = some e) (hat : va_at Γ.1 vwCl (a, ztoE Γ.2.1 e') H1) (z : H1.size = H.size) (oq : ∀ q : Nat, q ≠ a → H1[q]? = H[q]?) : zRp Γ (hPut h a e') H1 := by
  refine ⟨z.trans hR.1, hR.2.1, fun b x hx => ?_⟩
  by_cases hb : b = a
  · subst hb
    have hx' : some e' = some x := by rw [← hx]; simp [hM, hPut]
    cases hx'
    exact ⟨(hR.2.2 b e he).1, hat⟩
  · have hx' : hM h b = some x := by rw [← hx]; simp [hM, hPut, hb]
    obtain ⟨h1, h2⟩ := hR.2.2 b x hx'
    exact ⟨h1, h2.kept (oq b hb)⟩
theorem zRp.new {Γ : zG} {h : zH} {H H1 : Heap} {e : zE} {n : Nat} (hR : zRp Γ h H) (hat : va_at Γ.1 vwCl (H.size, ztoE Γ.2.1 e) H1) (z : H1.size = H.size + 1) (oq : ∀ q : Nat, q < H.size → H1[q]? = H[q]?) : zRp Γ (hNew h e n) H1 := by
  refine ⟨by rw [z, hR.1]; rfl, Nat.le_succ_of_le hR.2.1, fun b x hx => ?_⟩
  by_cases hb : b = h.1
  · subst hb
    have hx' : some e = some x := by rw [← hx]; simp [hM, hNew]
    cases hx'
    exact ⟨hR.2.1, by have := hR.1; unfold hS at this; rw [← this]; exact hat⟩
  · have hx' : hM h b = some x := by rw [← hx]; simp [hM, hNew, hb]
    obtain ⟨h1, h2⟩ := hR.2.2 b x hx'
    exact ⟨h1, h2.kept (oq b h2.lt)⟩
theorem zRp.junk {Γ : zG} {h : zH} {H H1 : Heap} {n : Nat} (hR : zRp Γ h H) (z : H1.size = H.size + 1) (oq : ∀ q : Nat, q < H.size → H1[q]? = H[q]?) : zRp Γ (hJunk h n) H1 := by
  refine ⟨by rw [z, hR.1]; rfl, Nat.le_succ_of_le hR.2.1, fun b x hx => ?_⟩
  obtain ⟨h1, h2⟩ := hR.2.2 b x hx
  exact ⟨h1, h2.kept (oq b h2.lt)⟩
theorem zS.new {A : Nat → Prop} {H0 H H1 : Heap} {locs : List Loc} {n : Nat} (hS : va_S A H0 H locs) (z : H1.size = H.size + n) (oq : ∀ q : Nat, q < H.size → H1[q]? = H[q]?) : va_S A H0 H1 locs :=
  ⟨Nat.le_trans hS.1 (by omega), fun x h1 h2 => (oq x (Nat.lt_of_lt_of_le h1 hS.1)).trans (hS.2.1 x h1 h2), hS.2.2⟩
section ZHEAP
variable {Γ : zG} {X : zX} {d : Nat} {h0 : zH} {o : zR × zH} {pc : Nat} {lv : List (Nat × Value)} {st : List Value} {h : zH}
/-- a field's value -/
theorem z_getV {index : Nat} {a : Nat} (c k : Nat) {N : Nat} {C : String} {T : u_T} {ty : Nat → FieldType} {v : Value} (hd : decode (zcc X) pc = .ok (.getfield index, 3)) (hcl : zCls c C T N ty) (hk : k < N) (hlk : Cond.fieldLink X.1.cls index C (T k).2.1 (T k).2.2.1 ∈ GW) (hv : gF h a c k = some v) (kk : Z Γ X d h0 o (pc + 3) lv (v :: st) h) : Z Γ X d h0 o pc lv (.ref a :: st) h := by
  refine ⟨kk.1, fun hle p l e R s m args below meth c0 H locs ls C0 hRp hSv hl => ?_⟩
  obtain ⟨fs, he, hfk⟩ := gF_of hv
  obtain ⟨hc, hws, hty, hnm, hdc⟩ := hcl
  refine va_get C0.1 C0.2.1 (Ts := GW) C0.2.2.2.2.2.2.1 hws C0.2.2.2.2.1 C0.2.2.2.2.2.2.2.2.1.1 (zP1 (hRp.2.2 a _ he).2) 0 (fs := fs) rfl hc k hk (C0.2.2.2.2.2.2.1 _ hlk) (fun x hx => ?_) hfk hd (kk.2 hle p l e R s m args below meth c0 H locs ls C0 hRp hSv hl)
  rw [← hdc k hk]
  exact hx
theorem z_getI {β : Type} {K : Int32 → Option β} {w : β} {index : Nat} {a c k : Nat} {N : Nat} {C : String} {T : u_T} {ty : Nat → FieldType} (hd : decode (zcc X) pc = .ok (.getfield index, 3)) (hcl : zCls c C T N ty) (hk : k < N) (hlk : Cond.fieldLink X.1.cls index C (T k).2.1 (T k).2.2.1 ∈ GW) (hf : (gI h a c k).bind K = some w) (kk : ∀ x : Int32, K x = some w → Z Γ X d h0 o (pc + 3) lv (.int x :: st) h) : Z Γ X d h0 o pc lv (.ref a :: st) h := by
  obtain ⟨x, h1, h2⟩ := Option.bind_eq_some_iff.mp hf
  exact z_getV c k hd hcl hk hlk (gI_of h1) (kk x h2)
theorem z_getA {β : Type} {K : Nat → Option β} {w : β} {index : Nat} {a c k : Nat} {N : Nat} {C : String} {T : u_T} {ty : Nat → FieldType} (hd : decode (zcc X) pc = .ok (.getfield index, 3)) (hcl : zCls c C T N ty) (hk : k < N) (hlk : Cond.fieldLink X.1.cls index C (T k).2.1 (T k).2.2.1 ∈ GW) (hf : (gA h a c k).bind K = some w) (kk : ∀ x : Nat, K x = some w → Z Γ X d h0 o (pc + 3) lv (.ref x :: st) h) : Z Γ X d h0 o pc lv (.ref a :: st) h := by
  obtain ⟨x, h1, h2⟩ := Option.bind_eq_some_iff.mp hf
  exact z_getV c k hd hcl hk hlk (gA_of h1) (kk x h2)
/-- a field is set -/
theorem z_putV {index : Nat} {a c k : Nat} {N : Nat} {C : String} {T : u_T} {ty : Nat → FieldType} {v : Value} {h1 : zH} (hd : decode (zcc X) pc = .ok (.putfield index, 3)) (hcl : zCls c C T N ty) (hk : k < N) (hlk : Cond.fieldLink X.1.cls index C (T k).2.1 (T k).2.2.1 ∈ GW) (hfin : (T k).2.2.2 = false ∨ ((T k).2.2.2 = true ∧ X.1.name = "<init>" ∧ X.1.cls = C)) (hn : narrow (ty k) v = v) (hfit : fits (ty k) v = true) (hv : pF h a c k v = some h1) (kk : Z Γ X d h0 o (pc + 3) lv st h1) : Z Γ X d h0 o pc lv (v :: .ref a :: st) h := by
  obtain ⟨fs, he, hfk, rfl⟩ := pF_of hv
  obtain ⟨hc, hws, hty, hnm, hdc⟩ := hcl
  refine ⟨kk.1, fun hle p l e R s m args below meth c0 H locs ls C0 hRp hSv hl => ?_⟩
  obtain ⟨hx, hb, hrt, hml, hown, hname, hts, hlocks, ⟨hK, hB0, -, -, -⟩, -⟩ := id C0
  have hap := va_apart (own := X.1.cls) hts hws ty hty hnm hK hc
  obtain ⟨hA, r, g1, cell, q1, q2, q3, q4⟩ := hRp.2.2 a _ he
  have hr : r = (C, T, N) := Option.some.inj (g1.symm.trans hc)
  subst hr
  obtain ⟨hSl, hfc, kC, hkC, hkind⟩ := hK.1 c _ hc
  obtain ⟨cf, kf, fi, f, hi, hsl⟩ := hSl k hk
  have hsame : s.fieldFound? C (T k).2.1 (T k).2.2.1 = some (cf, kf, fi, f) := by rw [← hdc k hk]; exact hi
  have hst := (u_facts hfc hkC (u_lays hts hws hk) hi).1
  have kkW : ∀ (H' : Heap) (sl : Nat), H'[a]? = some (cell.setSlot (Γ.1.2 c k) v) → H'.size = H.size → (∀ q : Nat, q ≠ a → H'[q]? = H[q]?) → W p l e R s m args below meth c0 H' (locs ++ [⟨a, sl⟩]) (hS h - hS h0) (hN h - hN h0) (vx_MQ below (zQ Γ o) (zXC Γ o) args s (hS o.2 - hS h0) (hN o.2 - hN h0) (zA Γ)) (F0 m (pc + 3) ls st) := by
    intro H' sl e1 e2 e3
    refine kk.2 hle p l e R s m args below meth c0 H' _ ls C0 (hRp.put he ⟨_, hc, t_OB.to (V := updV (vp_V fs) k v) ⟨_, e1, q2, q3, t_set q4 hap hk v⟩ (fun j _ => vp_updV_set hfk v j)⟩ e2 e3) (hSv.put e2 e3 hA) hl
  have hlay := hts _ (hws _ (u_in_lay hk))
  unfold u_lay at hlay
  rcases hfin with hf | ⟨hf, hin2, hcls⟩
  · rw [if_neg (by rw [hf]; decide)] at hlay
    have h6 := u_store hfc hkC hkind hlay hi (hty k hk) hn hfit
    refine W.putK hx hb (f := f) ⟨hown, hts _ hlk, ⟨_, _, _, hsame⟩, hst⟩ (by rw [q2]; exact h6) q1 q3 (by rw [hsl]; exact k2_hasslot (q4 k hk)) rfl rfl hd fun H' e1 e2 e3 => ?_
    rw [hsl] at e1
    exact kkW H' _ e1 e2 e3
  · rw [if_pos hf] at hlay
    have hcf : m.cls = cf := by
      obtain ⟨_, _, c', _, _, _, -, -, hf', -, -, -, hown2, -⟩ := Cond.laysFinal_spec hlay
      have e1 : c' = cf := by have := hi.symm.trans hf'; simp at this; exact this.1.symm
      rw [hdc k hk, ← hcls] at hown2
      rw [← e1]; exact Option.some.inj (hown.symm.trans hown2)
    have h6 := u_fits hfc hkC hkind (Or.inr hlay) hi (hty k hk) hn hfit
    refine W.putFinK hx hb hown (hts _ hlk) hsame hst hcf (hname.trans hin2) (by rw [q2]; exact h6) q1 q3 (by rw [hsl]; exact k2_hasslot (q4 k hk)) rfl rfl hd fun H' e1 e2 e3 => ?_
    rw [hsl] at e1
    exact kkW H' _ e1 e2 e3
theorem ldI_of {h : zH} {a : Nat} {i : Int32} {x : Int32} (hv : ldI h a i = some x) : ∃ (n : Nat) (f : Nat → Int32), hM h a = some (.inl (0, n, .inl f)) ∧ zix i n ∧ x = f i.toNatClampNeg := by
  unfold ldI at hv
  split at hv
  · next k n f he =>
    split at hv
    · next hc => obtain ⟨rfl, hk⟩ := hc; cases hv; exact ⟨n, f, he, hk, rfl⟩
    · cases hv
  · cases hv
theorem z_iaload {β : Type} {K : Int32 → Option β} {w : β} {a : Nat} {i : Int32} (hd : decode (zcc X) pc = .ok (.iaload, 1)) (hf : (ldI h a i).bind K = some w) (kk : ∀ x : Int32, K x = some w → Z Γ X d h0 o (pc + 1) lv (.int x :: st) h) : Z Γ X d h0 o pc lv (.int i :: .ref a :: st) h := by
  obtain ⟨x, h1, h2⟩ := Option.bind_eq_some_iff.mp hf
  obtain ⟨n, f, he, hin, rfl⟩ := ldI_of h1
  refine ⟨(kk _ h2).1, fun hle p l e R s m args below meth c0 H locs ls C0 hRp hSv hl => ?_⟩
  exact va_iald C0.1 C0.2.1 C0.2.2.2.2.2.2.2.2.1.1 (zP1 (hRp.2.2 a _ he).2) 0 0 rfl (ztys_at Γ.2.1 (k := 0) (by decide)) hin.vp hd ((kk _ h2).2 hle p l e R s m args below meth c0 H locs ls C0 hRp hSv hl)
theorem ldZ_of {h : zH} {a : Nat} {i : Int32} {x : Int32} (hv : ldZ h a i = some x) : ∃ (n : Nat) (f : Nat → Int32), hM h a = some (.inl (2, n, .inl f)) ∧ zix i n ∧ x = f i.toNatClampNeg := by
  unfold ldZ at hv
  split at hv
  · next k n f he =>
    split at hv
    · next hc => obtain ⟨rfl, hk⟩ := hc; cases hv; exact ⟨n, f, he, hk, rfl⟩
    · cases hv
  · cases hv
theorem z_baload {β : Type} {K : Int32 → Option β} {w : β} {a : Nat} {i : Int32} (hd : decode (zcc X) pc = .ok (.baload, 1)) (hf : (ldZ h a i).bind K = some w) (kk : ∀ x : Int32, K x = some w → Z Γ X d h0 o (pc + 1) lv (.int x :: st) h) : Z Γ X d h0 o pc lv (.int i :: .ref a :: st) h := by
  obtain ⟨x, h1, h2⟩ := Option.bind_eq_some_iff.mp hf
  obtain ⟨n, f, he, hin, rfl⟩ := ldZ_of h1
  refine ⟨(kk _ h2).1, fun hle p l e R s m args below meth c0 H locs ls C0 hRp hSv hl => ?_⟩
  exact va_zald C0.1 C0.2.1 C0.2.2.2.2.2.2.2.2.1.1 (zP1 (hRp.2.2 a _ he).2) 0 2 rfl (ztys_at Γ.2.1 (k := 2) (by decide)) hin.vp hd ((kk _ h2).2 hle p l e R s m args below meth c0 H locs ls C0 hRp hSv hl)
theorem ldJ_of {h : zH} {a : Nat} {i : Int32} {x : Int64} (hv : ldJ h a i = some x) : ∃ (n : Nat) (f : Nat → Int64), hM h a = some (.inl (1, n, .inr (.inl f))) ∧ zix i n ∧ x = f i.toNatClampNeg := by
  unfold ldJ at hv
  split at hv
  · next k n f he =>
    split at hv
    · next hc => obtain ⟨rfl, hk⟩ := hc; cases hv; exact ⟨n, f, he, hk, rfl⟩
    · cases hv
  · cases hv
theorem z_laload {β : Type} {K : Int64 → Option β} {w : β} {a : Nat} {i : Int32} (hd : decode (zcc X) pc = .ok (.laload, 1)) (hf : (ldJ h a i).bind K = some w) (kk : ∀ x : Int64, K x = some w → Z Γ X d h0 o (pc + 1) lv (.long x :: st) h) : Z Γ X d h0 o pc lv (.int i :: .ref a :: st) h := by
  obtain ⟨x, h1, h2⟩ := Option.bind_eq_some_iff.mp hf
  obtain ⟨n, f, he, hin, rfl⟩ := ldJ_of h1
  refine ⟨(kk _ h2).1, fun hle p l e R s m args below meth c0 H locs ls C0 hRp hSv hl => ?_⟩
  exact va_lald C0.1 C0.2.1 C0.2.2.2.2.2.2.2.2.1.1 (zP1 (hRp.2.2 a _ he).2) 0 1 rfl (ztys_at Γ.2.1 (k := 1) (by decide)) hin.vp hd ((kk _ h2).2 hle p l e R s m args below meth c0 H locs ls C0 hRp hSv hl)
theorem ldQ_of {h : zH} {a : Nat} {i : Int32} {x : Nat} (hv : ldQ h a i = some x) : ∃ (k n : Nat) (f : Nat → Option Nat), hM h a = some (.inl (k, n, .inr (.inr (.inr (.inr f))))) ∧ (k = 3 ∨ k = 4 ∨ k = 5) ∧ zix i n ∧ f i.toNatClampNeg = some x := by
  unfold ldQ at hv
  split at hv
  · next k n f he =>
    split at hv
    · next hc => exact ⟨k, n, f, he, hc.1, hc.2, hv⟩
    · cases hv
  · cases hv
theorem z_aaload {β : Type} {K : Nat → Option β} {w : β} {a : Nat} {i : Int32} (hd : decode (zcc X) pc = .ok (.aaload, 1)) (hf : (ldQ h a i).bind K = some w) (kk : ∀ x : Nat, K x = some w → Z Γ X d h0 o (pc + 1) lv (.ref x :: st) h) : Z Γ X d h0 o pc lv (.int i :: .ref a :: st) h := by
  obtain ⟨x, h1, h2⟩ := Option.bind_eq_some_iff.mp hf
  obtain ⟨k, n, f, he, hk, hin, hx⟩ := ldQ_of h1
  refine ⟨(kk _ h2).1, fun hle p l e R s m args below meth c0 H locs ls C0 hRp hSv hl => ?_⟩
  have hk6 : k < 6 := by omega
  have hA := (C0.2.2.2.2.2.2.2.2.1.1.2 k _ (ztys_at Γ.2.1 hk6)).1 n (fun j => va_rf (f j))
  have hty : (zaty k).isReference = true := by rcases hk with rfl | rfl | rfl <;> rfl
  have hP : H[a]? = some (arrV (Γ.2.1 k) n (fun j => va_rf (f j))) := (hRp.2.2 a _ he).2
  refine W.aald (v := .ref x) C0.1 C0.2.1 hP hA hty (fun q => by cases q) ?_ ?_ rfl rfl hd ((kk _ h2).2 hle p l e R s m args below meth c0 H locs ls C0 hRp hSv hl)
  · rw [arrV_size]; exact hin.vp
  · rw [arrV_read _ _ hin.2, hx]; rfl
theorem z_alen {β : Type} {K : Int32 → Option β} {w : β} {a : Nat} (hd : decode (zcc X) pc = .ok (.arraylength, 1)) (hf : (aLen h a).bind K = some w) (kk : ∀ x : Int32, K x = some w → Z Γ X d h0 o (pc + 1) lv (.int x :: st) h) : Z Γ X d h0 o pc lv (.ref a :: st) h := by
  obtain ⟨x, h1, h2⟩ := Option.bind_eq_some_iff.mp hf
  unfold aLen at h1
  split at h1
  · next k n y he =>
    split at h1
    · next hk =>
      cases h1
      refine ⟨(kk _ h2).1, fun hle p l e R s m args below meth c0 H locs ls C0 hRp hSv hl => ?_⟩
      exact va_alen C0.1 C0.2.1 C0.2.2.2.2.2.2.2.2.1.1 (zP1 (hRp.2.2 a _ he).2) 0 k rfl (ztys_at Γ.2.1 hk) rfl hd ((kk _ h2).2 hle p l e R s m args below meth c0 H locs ls C0 hRp hSv hl)
    · cases h1
  · cases h1
theorem stI_of {h h1 : zH} {a : Nat} {i x : Int32} (hv : stI h a i x = some h1) : ∃ (n : Nat) (f : Nat → Int32), hM h a = some (.inl (0, n, .inl f)) ∧ zix i n ∧ h1 = hPut h a (.inl (0, n, .inl (upd f i.toNatClampNeg x))) := by
  unfold stI at hv
  split at hv
  · next k n f he =>
    split at hv
    · next hc => obtain ⟨rfl, hk⟩ := hc; cases hv; exact ⟨n, f, he, hk, rfl⟩
    · cases hv
  · cases hv
theorem z_iastore {β : Type} {K : zH → Option β} {w : β} {a : Nat} {i x : Int32} (hd : decode (zcc X) pc = .ok (.iastore, 1)) (hf : (stI h a i x).bind K = some w) (kk : ∀ h1 : zH, K h1 = some w → Z Γ X d h0 o (pc + 1) lv st h1) : Z Γ X d h0 o pc lv (.int x :: .int i :: .ref a :: st) h := by
  obtain ⟨h1, h2, h3⟩ := Option.bind_eq_some_iff.mp hf
  obtain ⟨n, f, he, hin, rfl⟩ := stI_of h2
  have kk := kk _ h3
  refine ⟨kk.1, fun hle p l e R s m args below meth c0 H locs ls C0 hRp hSv hl => ?_⟩
  have hA := (C0.2.2.2.2.2.2.2.2.1.1.2 0 _ (ztys_at Γ.2.1 (k := 0) (by decide))).1 n (fun j => .int (f j))
  have hat := (hRp.2.2 a _ he).2
  have hP : H[a]? = some (arrV (Γ.2.1 0) n (fun j => .int (f j))) := hat
  refine W.iast C0.1 C0.2.1 hP hA (fun q => by cases q) (by rw [arrV_size]; exact hin.vp) rfl rfl hd fun H1 e1 z1 o1 => ?_
  refine kk.2 hle p l e R s m args below meth c0 H1 _ ls C0 (hRp.put he ?_ z1 o1) (hSv.put z1 o1 (hRp.2.2 a _ he).1) hl
  show H1[a]? = some (vp_cell _ _)
  rw [e1, vp_cell_i, arrV_store]
  congr 2
  funext q
  by_cases hq : q = i.toNatClampNeg
  · subst hq
    simp [updV, upd]
  · simp [updV, upd, hq]
theorem stZ_of {h h1 : zH} {a : Nat} {i x : Int32} (hv : stZ h a i x = some h1) : ∃ (n : Nat) (f : Nat → Int32), hM h a = some (.inl (2, n, .inl f)) ∧ zix i n ∧ h1 = hPut h a (.inl (2, n, .inl (upd f i.toNatClampNeg x))) ∧ (x = 0 ∨ x = 1) := by
  unfold stZ at hv
  split at hv
  · next k n f he =>
    split at hv
    · next hc => obtain ⟨rfl, hk, hb⟩ := hc; cases hv; exact ⟨n, f, he, hk, rfl, hb⟩
    · cases hv
  · cases hv
theorem z_bastore {β : Type} {K : zH → Option β} {w : β} {a : Nat} {i x : Int32} (hd : decode (zcc X) pc = .ok (.bastore, 1)) (hf : (stZ h a i x).bind K = some w) (kk : ∀ h1 : zH, K h1 = some w → Z Γ X d h0 o (pc + 1) lv st h1) : Z Γ X d h0 o pc lv (.int x :: .int i :: .ref a :: st) h := by
  obtain ⟨h1, h2, h3⟩ := Option.bind_eq_some_iff.mp hf
  obtain ⟨n, f, he, hin, rfl, hbx⟩ := stZ_of h2
  have kk := kk _ h3
  refine ⟨kk.1, fun hle p l e R s m args below meth c0 H locs ls C0 hRp hSv hl => ?_⟩
  have hA := (C0.2.2.2.2.2.2.2.2.1.1.2 2 _ (ztys_at Γ.2.1 (k := 2) (by decide))).1 n (fun j => .int (f j))
  have hat := (hRp.2.2 a _ he).2
  have hP : H[a]? = some (arrV (Γ.2.1 2) n (fun j => .int (f j))) := hat
  refine W.zast C0.1 C0.2.1 hP hA (fun q => by cases q) (by rw [arrV_size]; exact hin.vp) rfl rfl hd fun H1 e1 z1 o1 => ?_
  refine kk.2 hle p l e R s m args below meth c0 H1 _ ls C0 (hRp.put he ?_ z1 o1) (hSv.put z1 o1 (hRp.2.2 a _ he).1) hl
  show H1[a]? = some (vp_cell _ _)
  rw [e1, vp_cell_i, arrV_store]
  congr 2
  funext q
  by_cases hq : q = i.toNatClampNeg
  · subst hq
    rcases hbx with rfl | rfl <;> simp [updV, upd] <;> rfl
  · simp [updV, upd, hq]
theorem stJ_of {h h1 : zH} {a : Nat} {i : Int32} {x : Int64} (hv : stJ h a i x = some h1) : ∃ (n : Nat) (f : Nat → Int64), hM h a = some (.inl (1, n, .inr (.inl f))) ∧ zix i n ∧ h1 = hPut h a (.inl (1, n, .inr (.inl (vp_updL f i.toNatClampNeg x)))) := by
  unfold stJ at hv
  split at hv
  · next k n f he =>
    split at hv
    · next hc => obtain ⟨rfl, hk⟩ := hc; cases hv; exact ⟨n, f, he, hk, rfl⟩
    · cases hv
  · cases hv
theorem z_lastore {β : Type} {K : zH → Option β} {w : β} {a : Nat} {i : Int32} {x : Int64} (hd : decode (zcc X) pc = .ok (.lastore, 1)) (hf : (stJ h a i x).bind K = some w) (kk : ∀ h1 : zH, K h1 = some w → Z Γ X d h0 o (pc + 1) lv st h1) : Z Γ X d h0 o pc lv (.long x :: .int i :: .ref a :: st) h := by
  obtain ⟨h1, h2, h3⟩ := Option.bind_eq_some_iff.mp hf
  obtain ⟨n, f, he, hin, rfl⟩ := stJ_of h2
  have kk := kk _ h3
  refine ⟨kk.1, fun hle p l e R s m args below meth c0 H locs ls C0 hRp hSv hl => ?_⟩
  have hA := (C0.2.2.2.2.2.2.2.2.1.1.2 1 _ (ztys_at Γ.2.1 (k := 1) (by decide))).1 n (fun j => .long (f j))
  have hat := (hRp.2.2 a _ he).2
  have hP : H[a]? = some (arrV (Γ.2.1 1) n (fun j => .long (f j))) := hat
  refine W.last C0.1 C0.2.1 hP hA (fun q => by cases q) (by rw [arrV_size]; exact hin.vp) rfl rfl hd fun H1 e1 z1 o1 => ?_
  refine kk.2 hle p l e R s m args below meth c0 H1 _ ls C0 (hRp.put he ?_ z1 o1) (hSv.put z1 o1 (hRp.2.2 a _ he).1) hl
  show H1[a]? = some (vp_cell _ _)
  rw [e1, vp_cell_l, arrV_store]
  congr 2
  funext q
  by_cases hq : q = i.toNatClampNeg
  · subst hq
    simp [updV, vp_updL]
  · simp [updV, vp_updL, hq]
theorem z_aastore {β : Type} {K : zH → Option β} {w : β} {a v : Nat} {i : Int32} (hd : decode (zcc X) pc = .ok (.aastore, 1)) (hf : (stQ h a i v).bind K = some w) (kk : ∀ h1 : zH, K h1 = some w → Z Γ X d h0 o (pc + 1) lv st h1) : Z Γ X d h0 o pc lv (.ref v :: .int i :: .ref a :: st) h := by
  obtain ⟨h1, h2, h3⟩ := Option.bind_eq_some_iff.mp hf
  have kk := kk _ h3
  unfold stQ at h2
  split at h2
  · next k n f cv vs he hev =>
    split at h2
    · next hc =>
      obtain ⟨hk, rfl, hin⟩ := hc
      cases h2
      refine ⟨kk.1, fun hle p l e R s m args below meth c0 H locs ls C0 hRp hSv hl => ?_⟩
      have hK := C0.2.2.2.2.2.2.2.2.1.1
      have hk6 : k < 6 := by omega
      obtain ⟨hA, hRA⟩ := hK.2 k _ (ztys_at Γ.2.1 hk6)
      have hP : H[a]? = some (arrV (Γ.2.1 k) n (fun j => va_rf (f j))) := (hRp.2.2 a _ he).2
      obtain ⟨hAv, r, g0, cellV, g1, g2, g3, -⟩ := hRp.2.2 v _ hev
      have hcls := (hK.1 (zqc k) r g0).2
      obtain ⟨kC, hkC, -⟩ := hcls.2
      have hZ : ∃ (kA : Class) (C : String), s.vm.classes[Γ.2.1 k]? = some kA ∧ kA.kind = .array (Γ.1.1 (zqc k)) (.object C) := by
        rcases hk with rfl | rfl
        · obtain ⟨kA, comp, k1, k2, k3, -⟩ := hRA
          have hcomp : comp = Γ.1.1 (zqc 3) := by
            have hr : r = (RX1, TX1, 4) := Option.some.inj (g0.symm.trans rfl)
            subst hr
            exact Option.some.inj (k3.symm.trans hcls.1)
          subst hcomp
          exact ⟨kA, _, k1, k2⟩
        · obtain ⟨kA, comp, k1, k2, k3, -⟩ := hRA
          have hcomp : comp = Γ.1.1 (zqc 4) := by
            have hr : r = (RX0, TX0, 15) := Option.some.inj (g0.symm.trans rfl)
            subst hr
            exact Option.some.inj (k3.symm.trans hcls.1)
          subst hcomp
          exact ⟨kA, _, k1, k2⟩
      obtain ⟨kA, C, k1, k2⟩ := hZ
      refine W.aast C0.1 C0.2.1 hP (fun q h => by cases h) (fun h => by cases h) k1 k2 rfl hkC ⟨hin.1, by show _ < (arrV _ _ _).slots.size; rw [arrV_size]; exact hin.2⟩ g1 (fun q h => by rw [g3] at h; cases h) (by rw [g2]; exact hkC) (by rw [g2]; exact va_assign hcls) rfl rfl hd fun H1 e1 z1 o1 => ?_
      refine kk.2 hle p l e R s m args below meth c0 H1 _ ls C0 (hRp.put he ?_ z1 o1) (hSv.put z1 o1 (hRp.2.2 a _ he).1) hl
      show H1[a]? = some (vp_cell _ _)
      rw [e1, vp_cell_q, arrV_store]
      congr 2
      funext q
      by_cases hq : q = i.toNatClampNeg
      · subst hq
        simp [updV, va_up, va_rf]
      · simp [updV, va_up, hq]
    · cases h2
  · cases h2
theorem z_newI {β : Type} {K : Nat × zH → Option β} {w : β} {i : Int32} (hd : decode (zcc X) pc = .ok (.newarray .int, 2)) (hw : Cond.arrayClass .int ∈ GW) (hf : (nwI h i).bind K = some w) (kk : ∀ (q : Nat) (h1 : zH), K (q, h1) = some w → Z Γ X d h0 o (pc + 2) lv (.ref q :: st) h1) : Z Γ X d h0 o pc lv (.int i :: st) h := by
  obtain ⟨⟨q, h1⟩, h2, h3⟩ := Option.bind_eq_some_iff.mp hf
  have kk := kk _ _ h3
  unfold nwI at h2
  split at h2
  · next hc =>
    obtain ⟨hn, hm⟩ := hc
    cases h2
    refine ⟨zle.tr ⟨Nat.le_succ _, Nat.le_add_right _ _⟩ kk.1, fun hle p l e R s m args below meth c0 H locs ls C0 hRp hSv hl => ?_⟩
    have hsz := hRp.1
    have h9 : zle (hNew h (.inl (0, i.toNatClampNeg, .inl (fun _ => 0))) i.toNatClampNeg) o.2 := kk.1
    obtain ⟨h9a, h9b⟩ := h9
    have e0 : hS (hNew h (.inl (0, i.toNatClampNeg, .inl (fun _ => 0))) i.toNatClampNeg) = hS h + 1 := rfl
    have e2 : hN (hNew h (.inl (0, i.toNatClampNeg, .inl (fun _ => 0))) i.toNatClampNeg) = hN h + i.toNatClampNeg := rfl
    rw [e0] at h9a
    rw [e2] at h9b
    have hR1 := C0.2.2.2.2.2.2.2.2.2.2.2.2.1
    have hR2 := C0.2.2.2.2.2.2.2.2.2.2.2.2.2.1
    obtain ⟨hla, hlb⟩ := hle
    refine va_newaK (atype := .int) C0.1 C0.2.1 (C0.2.2.2.2.2.2.1 _ hw) rfl hd rfl hn rfl (by simp only [newarray.typeOf, componentBytes]; omega) (by omega) (by omega) rfl fun H1 cA e1 z1 o1 hAr hNm => ?_
    have hcA : cA = Γ.2.1 0 := by
      have hRA := (C0.2.2.2.2.2.2.2.2.1.1.2 0 _ (ztys_at Γ.2.1 (k := 0) (by decide))).2
      exact Option.some.inj (hNm.symm.trans hRA)
    subst hcA
    have key := kk.2 ⟨by omega, by omega⟩ p l e R s m args below meth c0 H1 locs ls C0 (hRp.new (by
      show H1[H.size]? = some (vp_cell _ _)
      rw [vp_cell_i]
      exact e1) z1 o1) (zS.new hSv z1 o1) hl
    rw [hsz]
    rw [e0, e2, show hS h + 1 - hS h0 = hS h - hS h0 + 1 by omega, show hN h + i.toNatClampNeg - hN h0 = hN h - hN h0 + i.toNatClampNeg by omega] at key
    exact key
  · cases h2
theorem z_newZ {β : Type} {K : Nat × zH → Option β} {w : β} {i : Int32} (hd : decode (zcc X) pc = .ok (.newarray .boolean, 2)) (hw : Cond.arrayClass .boolean ∈ GW) (hf : (nwZ h i).bind K = some w) (kk : ∀ (q : Nat) (h1 : zH), K (q, h1) = some w → Z Γ X d h0 o (pc + 2) lv (.ref q :: st) h1) : Z Γ X d h0 o pc lv (.int i :: st) h := by
  obtain ⟨⟨q, h1⟩, h2, h3⟩ := Option.bind_eq_some_iff.mp hf
  have kk := kk _ _ h3
  unfold nwZ at h2
  split at h2
  · next hc =>
    obtain ⟨hn, hm⟩ := hc
    cases h2
    refine ⟨zle.tr ⟨Nat.le_succ _, Nat.le_add_right _ _⟩ kk.1, fun hle p l e R s m args below meth c0 H locs ls C0 hRp hSv hl => ?_⟩
    have hsz := hRp.1
    have h9 : zle (hNew h (.inl (2, i.toNatClampNeg, .inl (fun _ => 0))) i.toNatClampNeg) o.2 := kk.1
    obtain ⟨h9a, h9b⟩ := h9
    have e0 : hS (hNew h (.inl (2, i.toNatClampNeg, .inl (fun _ => 0))) i.toNatClampNeg) = hS h + 1 := rfl
    have e2 : hN (hNew h (.inl (2, i.toNatClampNeg, .inl (fun _ => 0))) i.toNatClampNeg) = hN h + i.toNatClampNeg := rfl
    rw [e0] at h9a
    rw [e2] at h9b
    have hR1 := C0.2.2.2.2.2.2.2.2.2.2.2.2.1
    have hR2 := C0.2.2.2.2.2.2.2.2.2.2.2.2.2.1
    obtain ⟨hla, hlb⟩ := hle
    refine va_newaK (atype := .boolean) C0.1 C0.2.1 (C0.2.2.2.2.2.2.1 _ hw) rfl hd rfl hn rfl (by simp only [newarray.typeOf, componentBytes]; omega) (by omega) (by omega) rfl fun H1 cA e1 z1 o1 hAr hNm => ?_
    have hcA : cA = Γ.2.1 2 := by
      have hRA := (C0.2.2.2.2.2.2.2.2.1.1.2 2 _ (ztys_at Γ.2.1 (k := 2) (by decide))).2
      exact Option.some.inj (hNm.symm.trans hRA)
    subst hcA
    have key := kk.2 ⟨by omega, by omega⟩ p l e R s m args below meth c0 H1 locs ls C0 (hRp.new (by
      show H1[H.size]? = some (vp_cell _ _)
      rw [vp_cell_i]
      exact e1) z1 o1) (zS.new hSv z1 o1) hl
    rw [hsz]
    rw [e0, e2, show hS h + 1 - hS h0 = hS h - hS h0 + 1 by omega, show hN h + i.toNatClampNeg - hN h0 = hN h - hN h0 + i.toNatClampNeg by omega] at key
    exact key
  · cases h2
theorem z_newJ {β : Type} {K : Nat × zH → Option β} {w : β} {i : Int32} (hd : decode (zcc X) pc = .ok (.newarray .long, 2)) (hw : Cond.arrayClass .long ∈ GW) (hf : (nwJ h i).bind K = some w) (kk : ∀ (q : Nat) (h1 : zH), K (q, h1) = some w → Z Γ X d h0 o (pc + 2) lv (.ref q :: st) h1) : Z Γ X d h0 o pc lv (.int i :: st) h := by
  obtain ⟨⟨q, h1⟩, h2, h3⟩ := Option.bind_eq_some_iff.mp hf
  have kk := kk _ _ h3
  unfold nwJ at h2
  split at h2
  · next hc =>
    obtain ⟨hn, hm⟩ := hc
    cases h2
    refine ⟨zle.tr ⟨Nat.le_succ _, Nat.le_add_right _ _⟩ kk.1, fun hle p l e R s m args below meth c0 H locs ls C0 hRp hSv hl => ?_⟩
    have hsz := hRp.1
    have h9 : zle (hNew h (.inl (1, i.toNatClampNeg, .inr (.inl (fun _ => 0)))) i.toNatClampNeg) o.2 := kk.1
    obtain ⟨h9a, h9b⟩ := h9
    have e0 : hS (hNew h (.inl (1, i.toNatClampNeg, .inr (.inl (fun _ => 0)))) i.toNatClampNeg) = hS h + 1 := rfl
    have e2 : hN (hNew h (.inl (1, i.toNatClampNeg, .inr (.inl (fun _ => 0)))) i.toNatClampNeg) = hN h + i.toNatClampNeg := rfl
    rw [e0] at h9a
    rw [e2] at h9b
    have hR1 := C0.2.2.2.2.2.2.2.2.2.2.2.2.1
    have hR2 := C0.2.2.2.2.2.2.2.2.2.2.2.2.2.1
    obtain ⟨hla, hlb⟩ := hle
    refine va_newaK (atype := .long) C0.1 C0.2.1 (C0.2.2.2.2.2.2.1 _ hw) rfl hd rfl hn rfl (by simp only [newarray.typeOf, componentBytes]; omega) (by omega) (by omega) rfl fun H1 cA e1 z1 o1 hAr hNm => ?_
    have hcA : cA = Γ.2.1 1 := by
      have hRA := (C0.2.2.2.2.2.2.2.2.1.1.2 1 _ (ztys_at Γ.2.1 (k := 1) (by decide))).2
      exact Option.some.inj (hNm.symm.trans hRA)
    subst hcA
    have key := kk.2 ⟨by omega, by omega⟩ p l e R s m args below meth c0 H1 locs ls C0 (hRp.new (by
      show H1[H.size]? = some (vp_cell _ _)
      rw [vp_cell_l]
      exact e1) z1 o1) (zS.new hSv z1 o1) hl
    rw [hsz]
    rw [e0, e2, show hS h + 1 - hS h0 = hS h - hS h0 + 1 by omega, show hN h + i.toNatClampNeg - hN h0 = hN h - hN h0 + i.toNatClampNeg by omega] at key
    exact key
  · cases h2
end ZHEAP
end
section
section ZTHROW
variable {p : Program} {l : Launch} {e : Env} {R : Room} {s : State} {m : MethodId} {args : Array Value} {below : List Frame} {meth : Method} {c : Code} {H : Heap} {locs : List Loc} {cells slots : Nat}
variable {free : Addr → Prop} {Qc : Array Value → State → Outcome → State → Prop} {XC : String → State → State → Prop} {ls : Array Slot} {rest : List Value}
theorem zx_throw0 {cc : ByteArray} {pc : Nat} (hexec : p.tables.exec = Jvm.exec) (hb : c.code = cc) (hl : l.stackTraces = false) {own cls : String} {names : List String} {ik ic mc ms : Nat} {A : Nat → Prop}
    (hown : s.vm.findClass own = some m.cls) (hcls : Bundle.fit cls = true) (hnames : ∀ n ∈ names, Bundle.fit n = true)
    (hk : (Cond.classLink own ik cls).before args s = true) (hini : (Cond.initialized cls).before args s = true) (hat : ∀ w ∈ vx_at0 own ic cls names, w.before args s = true)
    (hgood : ∀ w ∈ Cond.classLink own ik cls :: Cond.initialized cls :: vx_at0 own ic cls names, vx_ot w = true)
    (hU : vx_Zq Bundle.tN "UNASSIGNED_STACK" Bundle.steD A s s.heap) (hN : vx_Zq Bundle.tN "SUPPRESSED_SENTINEL" Bundle.listD A s s.heap) (hS : va_S A s.heap H locs) (hsize : ls.size = c.maxLocals)
    (d0 : decode cc pc = .ok (.new ik, 3)) (d3 : decode cc (pc + 3) = .ok (.dup, 1)) (d4 : decode cc (pc + 4) = .ok (.invokespecial ic, 3)) (d7 : decode cc (pc + 7) = .ok (.athrow, 1))
    (hout : ∀ x ∈ c.exceptionTable.toList, covers x (pc + 7) = false)
    (hRframes : names.length + 3 < R.frames) (hRlocals : (rest.map fun v => v.category).sum + (13 * (names.length + 1) + 42) ≤ R.locals) (hRcells : cells + 1 ≤ R.cells) (hRslots : slots + 6 ≤ R.slots) (hlocks : meth.locks = false)
    (hx : ∀ t : State, s.vm.Alike t.vm → t.heap.size = H.size + 1 → (∀ q : Nat, q < H.size → t.heap[q]? = H[q]?) → XC cls s t)
    (hf : ∀ z ∈ locs, free z.base) (hc : cells + 1 ≤ mc) (hs : slots + 6 ≤ ms) :
    W p l e R s m args below meth c H locs cells slots (vx_MQ below Qc XC args s mc ms free) (F0 m pc ls rest) := by
  intro T hT X
  have htr : e.platform.stackTraces = false := (show e.platform.stackTraces = l.stackTraces by rw [X.admits.platform]).trans hl
  have Y := vx_rebase X (R' := { frames := R.frames, locals := R.locals, cells := 1, slots := 6 }) (Nat.le_refl _) (Nat.le_refl _) hRcells hRslots
  obtain ⟨s', hA⟩ : ∃ z, z = (T.setVm s.vm).setFrames (.invoking m args :: below) := ⟨_, rfl⟩
  rw [← hA] at Y
  have hvm : s'.vm = s.vm := by rw [hA]; rfl
  have hhp : s'.heap = H := by rw [hA]; exact hT
  have hW0 : s.WarmedH s'.vm := by rw [hvm]; exact State.WarmedH.refl s
  have hat' : ∀ w ∈ vx_at0 own ic cls names, w.before args s' = true := fun w hw => vx_ot_at hW0 hvm.symm (hgood w (List.mem_cons_of_mem _ (List.mem_cons_of_mem _ hw))) (hat w hw)
  have hk' : (Cond.classLink own ik cls).before args s' = true := vx_ot_at hW0 hvm.symm (hgood _ List.mem_cons_self) hk
  have hini' : (Cond.initialized cls).before args s' = true := vx_ot_at hW0 hvm.symm (hgood _ (List.mem_cons_of_mem _ List.mem_cons_self)) hini
  have hU' : vx_Zq Bundle.tN "UNASSIGNED_STACK" Bundle.steD A s' s'.heap := by rw [hhp]; exact vx_Zq.moved hW0.alike (hU.kept hS.2.1)
  have hN' : vx_Zq Bundle.tN "SUPPRESSED_SENTINEL" Bundle.listD A s' s'.heap := by rw [hhp]; exact vx_Zq.moved hW0.alike (hN.kept hS.2.1)
  have h : ∀ w ∈ Bundle.ownAtoms0 own ic cls names, w.before args s' = true := vx_own hat' (vx_isRefq hU'.1) (vx_isRefq hN'.1) hU'.2.word hN'.2.word
  have hown' : s'.vm.findClass own = some m.cls := by rw [hvm]; exact hown
  have hins : (Cond.instantiable cls 6).before args s' = true := h _ (by simp [Bundle.ownAtoms0])
  obtain ⟨vm₁, cX, kX, hfX, hkX, -, -, X₁, st1⟩ := Y.newCold hexec (own := own) (C := cls) (index := ik) (n := 6) hown' hk' hins hini'
    (g := F0 m pc ls rest) rfl (by rw [hb]; exact d0) (Nat.le_refl _) (Nat.le_refl _)
  generalize hT1 : (T.setVm vm₁).pushCell { cls := cX, slots := kX.instanceTypes.map defaultValue, vm := .none } = T1 at X₁ st1
  have hcat : (Value.ref T.heap.size).category = 1 := rfl
  have hcellA : T1.heap[T.heap.size]? = some (freshCell cX kX) := by rw [← hT1]; exact State.heap_pushCell_size _ _
  have d3' : decode c.code (pc + 3) = .ok (.dup, 1) := by rw [hb]; exact d3
  obtain ⟨U, hsteps, hrun, hend, hW, hsame, ce, hce, hO⟩ := X₁.ctorThrow0 hexec htr (own := own) (cls := cls) (names := names) (ic := ic) hown' hcls hnames h (fun x hx => nomatch hx) hfX hkX hcellA (by rw [hhp, hT]; exact Nat.le_refl _)
    (g := { method := m, pc := pc + 4, locals := ls, stack := .ref T.heap.size :: .ref T.heap.size :: rest, locked := none }) rfl hsize rfl rfl (rest := rest) rfl
    (by rw [hb]; exact d4) (by rw [hb]; exact d7) hout hRframes (by simp only [List.map_cons, List.sum_cons, hcat]; omega) hlocks
  obtain ⟨f1, f2⟩ := vx_frame hsame
  rw [hhp] at f1 f2
  have hWs : s.WarmedH U.vm := State.WarmedH.trans hW0 hW
  have hcl : s.vm.findClass cls = some ce.cls := by
    have h9 := hO.cls
    rw [hvm] at h9
    exact h9
  have fsz : U.heap.size = H.size + 1 := by
    have g1 : T.heap.size < U.heap.size := (Array.getElem?_eq_some_iff.mp hce).1
    have g2 := hsame.2.2.1
    rw [hT] at g1
    simp only [hhp] at g2
    have g3 : U.heap.size ≤ H.size + 1 := g2
    omega
  have hall : s.sameButNew ({ U with vm := s.vm } : State) locs mc ms := by
    subst hA
    obtain ⟨e1, e2⟩ := hsame
    rw [State.setFrames_setFrames] at e1
    have h2 : (T.setVm s.vm).sameButNew ({ U with vm := s.vm } : State) [] (0 + 1) (0 + 6) := ⟨e1, e2⟩
    have h3 := X.same.trans h2
    rw [List.append_nil] at h3
    exact h3.mono hc hs
  refine ⟨U, ?_, .threw T.heap.size, hrun, hend, Or.inr ⟨T.heap.size, rfl, cls, ce, locs, hx U hWs.alike fsz (fun q hq => f2 q hq (fun z hz => nomatch hz)), hce, hO.vm, hcl, hWs, hall, hf⟩⟩
  refine st1 _ ?_
  show Steps p.tables e below (T1.setTop { method := m, pc := pc + 3, locals := ls, stack := .ref T.heap.size :: rest, locked := none }) _
  jvm_step X₁.here [X₁.here.top, hexec, d3', Value.category]
  exact hsteps
end ZTHROW
section ZCALL
variable {Γ : zG} {X : zX} {d : Nat} {h0 : zH} {o : zR × zH} {pc : Nat} {lv : List (Nat × Value)} {st : List Value} {h : zH}
def nwOb (c : Nat) (fs : List Value) (h : zH) : Option (Nat × zH) := some (hS h, hNew h (.inr (c, fs)) fs.length)
theorem z_new {β : Type} {K : Nat × zH → Option β} {w : β} {index c N : Nat} {C : String} {T : u_T} {ty : Nat → FieldType} {fs : List Value} (hd : decode (zcc X) pc = .ok (.new index, 3)) (hcl : zCls c C T N ty) (hlk : Cond.classLink X.1.cls index C ∈ GW) (hin : Cond.instantiable C N ∈ GW) (hini : Cond.initialized C ∈ GW) (hlen : fs.length = N) (hfs : ∀ j, j < N → defaultValue (ty j) = vp_V fs j)
    (hf : (nwOb c fs h).bind K = some w) (kk : ∀ (q : Nat) (h1 : zH), K (q, h1) = some w → Z Γ X d h0 o (pc + 3) lv (.ref q :: st) h1) : Z Γ X d h0 o pc lv st h := by
  have kk := kk _ _ hf
  obtain ⟨hc, hws, hty, hnm, hdc⟩ := hcl
  refine ⟨zle.tr ⟨Nat.le_succ _, Nat.le_add_right _ _⟩ kk.1, fun hle p l e R s m args below meth c0 H locs ls C0 hRp hSv hl => ?_⟩
  have hsz := hRp.1
  obtain ⟨h9a, h9b⟩ := kk.1
  have e0 : hS (hNew h (.inr (c, fs)) fs.length) = hS h + 1 := rfl
  have e2 : hN (hNew h (.inr (c, fs)) fs.length) = hN h + N := by rw [← hlen]; rfl
  rw [e0] at h9a
  rw [e2] at h9b
  have hR1 := C0.2.2.2.2.2.2.2.2.2.2.2.2.1
  have hR2 := C0.2.2.2.2.2.2.2.2.2.2.2.2.2.1
  obtain ⟨hla, hlb⟩ := hle
  have hts := C0.2.2.2.2.2.2.1
  have hKn := C0.2.2.2.2.2.2.2.2.1.1.1 c _ hc
  refine W.newcK C0.1 C0.2.1 C0.2.2.2.2.1 (hts _ hlk) (hts _ hin) (hts _ hini) rfl hd (by omega) (by omega) hKn.2.1 rfl fun H1 kC hkC e1 z1 o1 => ?_
  have key := kk.2 ⟨by omega, by omega⟩ p l e R s m args below meth c0 H1 locs ls C0 (hRp.new ⟨_, hc, (u_born ty hts hws hKn hkC e1 hty).to hfs⟩ z1 o1) (zS.new hSv z1 o1) hl
  rw [e0, e2, show hS h + 1 - hS h0 = hS h - hS h0 + 1 by omega, show hN h + N - hN h0 = hN h - hN h0 + N by omega] at key
  rw [hsz]
  exact key
theorem z_newQ {β : Type} {K : Nat × zH → Option β} {w : β} {index : Nat} (k : Nat) {i : Int32} {C : String} (hC : zaty k = .object C) (hd : decode (zcc X) pc = .ok (.anewarray index, 3)) (hlk : Cond.classLink X.1.cls index C ∈ GW) (hov : Cond.arrayOver (.object C) ∈ lw_tbl)
    (hf : (nwQ k h i).bind K = some w) (kk : ∀ (q : Nat) (h1 : zH), K (q, h1) = some w → Z Γ X d h0 o (pc + 3) lv (.ref q :: st) h1) : Z Γ X d h0 o pc lv (.int i :: st) h := by
  obtain ⟨⟨q, h1⟩, h2, h3⟩ := Option.bind_eq_some_iff.mp hf
  have kk := kk _ _ h3
  unfold nwQ at h2
  split at h2
  · next hc =>
    obtain ⟨hk, hn, hm⟩ := hc
    cases h2
    refine ⟨zle.tr ⟨Nat.le_succ _, Nat.le_add_right _ _⟩ kk.1, fun hle p l e R s m args below meth c0 H locs ls C0 hRp hSv hl => ?_⟩
    have hsz := hRp.1
    obtain ⟨h9a, h9b⟩ := kk.1
    have e0 : hS (hNew h (.inl (k, i.toNatClampNeg, .inr (.inr (.inr (.inr (fun _ => none)))))) i.toNatClampNeg) = hS h + 1 := rfl
    have e2 : hN (hNew h (.inl (k, i.toNatClampNeg, .inr (.inr (.inr (.inr (fun _ => none)))))) i.toNatClampNeg) = hN h + i.toNatClampNeg := rfl
    rw [e0] at h9a
    rw [e2] at h9b
    have hR1 := C0.2.2.2.2.2.2.2.2.2.2.2.2.1
    have hR2 := C0.2.2.2.2.2.2.2.2.2.2.2.2.2.1
    obtain ⟨hla, hlb⟩ := hle
    have hk6 : k < 6 := by omega
    have hov2 : va_AO C s := C0.2.2.2.2.2.2.2.2.1.2.2.2.2.2.2.2.2.2.2.1 _ hov rfl
    have hRA := (C0.2.2.2.2.2.2.2.2.1.1.2 k _ (ztys_at Γ.2.1 hk6)).2
    refine W.anew C0.1 C0.2.1 C0.2.2.2.2.1 (C0.2.2.2.2.2.2.1 _ hlk) (va_AO.use hov2) rfl hd rfl hn (by omega) (by omega) (by omega) fun cA kA comp f1 f2 f3 f4 => ?_
    generalize hH1 : H.push ({ cls := cA, slots := Array.replicate i.toNatClampNeg .null, vm := .none } : Cell) = H1
    have z1 : H1.size = H.size + 1 := by rw [← hH1, Array.size_push]
    have e1 : H1[H.size]? = some (arrV cA i.toNatClampNeg (fun _ => .null)) := by rw [← hH1, Array.getElem?_push_size, ← arrV_new]
    have o1 : ∀ q : Nat, q < H.size → H1[q]? = H[q]? := fun q hq => by rw [← hH1, Array.getElem?_push, if_neg (Nat.ne_of_lt hq)]
    have hcA : cA = Γ.2.1 k := by
      rw [hC] at hRA
      obtain ⟨kA', comp', g1, g2, g3, g4⟩ := hRA
      exact Option.some.inj (f1.symm.trans g4)
    subst hcA
    have key := kk.2 ⟨by omega, by omega⟩ p l e R s m args below meth c0 H1 locs ls C0 (hRp.new (by
      show H1[H.size]? = some (vp_cell _ _)
      rw [vp_cell_q]
      exact e1) z1 o1) (zS.new hSv z1 o1) hl
    rw [hsz]
    rw [e0, e2, show hS h + 1 - hS h0 = hS h - hS h0 + 1 by omega, show hN h + i.toNatClampNeg - hN h0 = hN h - hN h0 + i.toNatClampNeg by omega] at key
    exact key
  · cases h2
/-- Object() -/
theorem z_objInit {idx a : Nat} (hd : decode (zcc X) pc = .ok (.invokespecial idx, 3)) (hlk : Cond.methodLink X.1.cls idx Lib.objectInit ∈ GW) (hin : Cond.instanceMethod Lib.objectInit ∈ GW) (hco : Cond.code Lib.objectInit ⟨#[0xb1]⟩ 1 none ∈ GW) (hd1 : 1 ≤ d) (hst : (st.map fun v => v.category).sum ≤ 8) (kk : Z Γ X d h0 o (pc + 3) lv st h) : Z Γ X d h0 o pc lv (.ref a :: st) h :=
  ⟨kk.1, fun hle p l e R s m args below meth c H locs ls C hRp hSv hl => W.objInit C.1 C.2.1 C.2.2.2.2.1 (C.2.2.2.2.2.2.1 _ hlk) (C.2.2.2.2.2.2.1 _ hin) (C.2.2.2.2.2.2.1 _ hco) rfl (hl.1.trans C.2.2.2.1.symm) rfl hd (Nat.le_trans hd1 C.2.2.2.2.2.2.2.2.2.2.1)
    (by have h1 := C.2.2.2.2.2.2.2.2.2.2.2.1; have h2 := lv_room (m := m) (pc := pc) (ls := ls) (rest := .ref a :: st) hst; show 2 * (F0 m pc ls (.ref a :: st)).monitorRoom + _ + 12 ≤ _; omega) (kk.2 hle p l e R s m args below meth c H locs ls C hRp hSv hl)⟩
/-- ends -/
theorem z_iret {v : Int32} (hd : decode (zcc X) pc = .ok (.ireturn, 1)) (hrt : zrt X = some .int) (ho : o = (.inl (some (.int v)), h)) : Z Γ X d h0 o pc lv [.int v] h := by
  subst ho
  exact ⟨zle.rf, fun hle p l e R s m args below meth c H locs ls C hRp hSv hl => vx_ret (W.iret C.1 C.2.1 (C.2.2.1.trans hrt) (fun t ht hW => ⟨⟨_, rfl, rfl⟩, by rw [ht]; exact hRp, hSv.F ht⟩) hSv.2.2 hd C.2.2.2.2.2.2.2.1)⟩
theorem z_zret {v : Int32} (hd : decode (zcc X) pc = .ok (.ireturn, 1)) (hrt : zrt X = some .boolean) (hv : v = 0 ∨ v = 1) (ho : o = (.inl (some (.int v)), h)) : Z Γ X d h0 o pc lv [.int v] h := by
  subst ho
  exact ⟨zle.rf, fun hle p l e R s m args below meth c H locs ls C hRp hSv hl => vx_ret (W.zret C.1 C.2.1 (C.2.2.1.trans hrt) (by rcases hv with rfl | rfl <;> rfl) (fun t ht hW => ⟨⟨_, rfl, rfl⟩, by rw [ht]; exact hRp, hSv.F ht⟩) hSv.2.2 hd C.2.2.2.2.2.2.2.1)⟩
theorem z_lret {v : Int64} (hd : decode (zcc X) pc = .ok (.lreturn, 1)) (hrt : zrt X = some .long) (ho : o = (.inl (some (.long v)), h)) : Z Γ X d h0 o pc lv [.long v] h := by
  subst ho
  exact ⟨zle.rf, fun hle p l e R s m args below meth c H locs ls C hRp hSv hl => vx_ret (W.lret C.1 C.2.1 (C.2.2.1.trans hrt) (fun t ht hW => ⟨⟨_, rfl, rfl⟩, by rw [ht]; exact hRp, hSv.F ht⟩) hSv.2.2 hd C.2.2.2.2.2.2.2.1)⟩
theorem z_vret (hd : decode (zcc X) pc = .ok (.return_, 1)) (hrt : zrt X = none) (ho : o = (.inl none, h)) : Z Γ X d h0 o pc lv [] h := by
  subst ho
  exact ⟨zle.rf, fun hle p l e R s m args below meth c H locs ls C hRp hSv hl => vx_ret (W.vret C.1 C.2.1 (C.2.2.1.trans hrt) (fun t ht hW => ⟨⟨_, rfl, rfl⟩, by rw [ht]; exact hRp, hSv.F ht⟩) hSv.2.2 hd C.2.2.2.2.2.2.2.1)⟩
theorem z_aret {v : Value} {rt : FieldType} (hd : decode (zcc X) pc = .ok (.areturn, 1)) (hrt : zrt X = some rt) (hr : (∃ n, rt = .object n) ∨ ∃ t, rt = .array t) (hv : v = .null ∨ ∃ a, v = .ref a) (ho : o = (.inl (some v), h)) : Z Γ X d h0 o pc lv [v] h := by
  subst ho
  exact ⟨zle.rf, fun hle p l e R s m args below meth c H locs ls C hRp hSv hl => vx_ret (W.aret C.1 C.2.1 (C.2.2.1.trans hrt) hr hv (fun t ht hW => ⟨⟨_, rfl, rfl⟩, by rw [ht]; exact hRp, hSv.F ht⟩) hSv.2.2 hd C.2.2.2.2.2.2.2.1)⟩
theorem zexn_fit0 : Bundle.fit (zexn 0) = true := by decide +kernel
theorem zexn_fit1 : Bundle.fit (zexn 1) = true := by decide +kernel
theorem zexn_fit2 : Bundle.fit (zexn 2) = true := by decide +kernel
theorem zexn_fit3 : Bundle.fit (zexn 3) = true := by decide +kernel
theorem zexn_fit {k : Nat} (hk : k < 4) : Bundle.fit (zexn k) = true := by
  match k, hk with
  | 0, _ => exact zexn_fit0
  | 1, _ => exact zexn_fit1
  | 2, _ => exact zexn_fit2
  | 3, _ => exact zexn_fit3
theorem zexn_ch : ∀ n ∈ ["java/lang/RuntimeException", "java/lang/Exception"], Bundle.fit n = true := by decide +kernel
/-- new E(); throw -/
def zthr (k : Nat) (h : zH) : zH := hJunk h 6
theorem z_throw {ik ic : Nat} (k : Nat) (hk : k < 4) (d0 : decode (zcc X) pc = .ok (.new ik, 3)) (d3 : decode (zcc X) (pc + 3) = .ok (.dup, 1)) (d4 : decode (zcc X) (pc + 4) = .ok (.invokespecial ic, 3)) (d7 : decode (zcc X) (pc + 7) = .ok (.athrow, 1))
    (hlk : Cond.classLink X.1.cls ik (zexn k) ∈ GW) (hini : Cond.initialized (zexn k) ∈ GW) (hat : (vx_at0 X.1.cls ic (zexn k) ["java/lang/RuntimeException", "java/lang/Exception"]).all (fun w => (goodWord w || zxw w) && decide (w ∈ lw_tbl)) = true) (hot : (vx_at0 X.1.cls ic (zexn k) ["java/lang/RuntimeException", "java/lang/Exception"]).all (fun w => vx_ot w) = true)
    (hd6 : 8 ≤ d) (hhh : zhh X = []) (hst : (st.map fun v => v.category).sum ≤ 8) (ho : o = (.inr k, zthr k h)) : Z Γ X d h0 o pc lv st h := by
  subst ho
  refine ⟨⟨Nat.le_succ _, Nat.le_add_right _ _⟩, fun hle p l e R s m args below meth c H locs ls C hRp hSv hl => ?_⟩
  obtain ⟨hx, hb, hrt, hml, hown, hname, hts, hlocks, hKK, hl9, hR1, hR2, hR3, hR4, hR0, htab, hzle⟩ := id C
  have e0 : hS (zthr k h) = hS h + 1 := rfl
  have e2 : hN (zthr k h) = hN h + 6 := rfl
  obtain ⟨hla, hlb⟩ := hle
  have hno : ∀ x ∈ c.exceptionTable.toList, False := by
    intro x hx9
    rw [htab, hhh] at hx9
    cases hx9
  have hwd : ∀ w ∈ vx_at0 X.1.cls ic (zexn k) ["java/lang/RuntimeException", "java/lang/Exception"], w.before args s = true := by
    intro w hw
    have h9 := List.all_eq_true.mp hat w hw
    simp only [Bool.and_eq_true, Bool.or_eq_true, decide_eq_true_eq] at h9
    by_cases hg : goodWord w = true
    · exact hts _ (List.mem_filter.mpr ⟨h9.2, hg⟩)
    · have hz : zxw w = true := h9.1.resolve_left hg
      have h8 := hKK.2.2.2.2.2.2.2.2.2.2.1 w h9.2 hz
      have h7 := List.all_eq_true.mp hot w hw
      simp only [vx_ot, Bool.or_eq_true] at h7
      exact va_any (h7.resolve_right hg) h8
  have hR3' : hS h + 1 - hS h0 ≤ R.cells := hR3
  have hR4' : hN h + 6 - hN h0 ≤ R.slots := hR4
  refine zx_throw0 hx hb hl9 (names := ["java/lang/RuntimeException", "java/lang/Exception"]) (cls := zexn k) (A := zA Γ) hown (zexn_fit hk) zexn_ch (hts _ hlk) (hts _ hini) hwd ?_ hKK.2.2.1 hKK.2.2.2.1 hSv (hl.1.trans hml.symm) d0 d3 d4 d7 (fun x hx9 => (hno x hx9).elim) ?_ ?_ ?_ ?_ hlocks ?_ hSv.2.2 ?_ ?_
  · intro w hw
    rcases List.mem_cons.mp hw with rfl | hw
    · rfl
    · rcases List.mem_cons.mp hw with rfl | hw
      · rfl
      · exact List.all_eq_true.mp hot w hw
  · show 2 + 3 < R.frames
    omega
  · show _ + (13 * (2 + 1) + 42) ≤ R.locals
    omega
  · omega
  · omega
  · intro t hal hsz9 hk9
    exact ⟨⟨k, rfl, rfl⟩, hRp.junk hsz9 hk9, ⟨Nat.le_trans hSv.1 (by omega), fun q hq hna => (hk9 q (Nat.lt_of_lt_of_le hq hSv.1)).trans (hSv.2.1 q hq hna)⟩⟩
  · rw [e0]; omega
  · rw [e2]; omega
end ZCALL
section ZCALL2
variable {Γ : zG} {X : zX} {d : Nat} {h0 : zH} {o : zR × zH} {pc : Nat} {lv : List (Nat × Value)} {st : List Value} {h : zH}
theorem zle_cases {a : zR × zH} {o : zR × zH} {r : zR} {A : Option Value → Prop} {B : Nat → Prop} {h1 : zH} (hk : ∀ v, r = .inl v → A v) (hx : ∀ k, r = .inr k → B k) (ha : ∀ v, A v → zle h1 o.2) (hb : ∀ k, B k → zle h1 o.2) : zle h1 o.2 := by
  cases r with
  | inl v => exact ha v (hk v rfl)
  | inr k => exact hb k (hx k rfl)
/-- behind a call's run -/
theorem z_back {Γ : zG} {X : zX} {d : Nat} {h0 : zH} {o : zR × zH} {pc : Nat} {lv : List (Nat × Value)} {rest st0 : List Value} {h h1 : zH} {r : zR}
    (hle1 : zle h h1) (hle : zle h0 h) {p : Program} {l : Launch} {e : Env} {R : Room} {s : State} {m : MethodId} {args : Array Value} {below : List Frame} {meth : Method} {c : Code} {H : Heap} {locs : List Loc} {ls : Array Slot} {av : Array Value}
    (C : zC Γ X d h0 o.2 p l R s m args meth c) (hSv : va_S (zA Γ) s.heap H locs) (hl : lv_has ls (zml X) lv)
    (run : vx_Run p l e R s m args below meth c H locs (hS h - hS h0) (hN h - hN h0) (hS h1 - hS h) (hN h1 - hN h) (F0 m pc ls st0) rest (zQ Γ (r, h1) av) (zXC Γ (r, h1)) (zA Γ))
    (kk : ∀ v : Option Value, r = .inl v → Z Γ X d h0 o (pc + 3) lv (v.toList ++ rest) h1) (kx : ∀ k : Nat, r = .inr k → Zx Γ X d h0 o pc lv rest k h1) :
    W p l e R s m args below meth c H locs (hS h - hS h0) (hN h - hN h0) (vx_MQ below (zQ Γ o) (zXC Γ o) args s (hS o.2 - hS h0) (hN o.2 - hN h0) (zA Γ)) (F0 m pc ls st0) := by
  obtain ⟨g1, g2⟩ := hle1
  obtain ⟨g3, g4⟩ := hle
  have c1 : hS h - hS h0 + (hS h1 - hS h) = hS h1 - hS h0 := by omega
  have c2 : hN h - hN h0 + (hN h1 - hN h) = hN h1 - hN h0 := by omega
  intro T hT Xs
  rcases run T hT Xs with ⟨v, st₀, t, T', L, h0', X', hL, e1, e2, ⟨⟨v', hr, hv⟩, hRp1, hF⟩, stp⟩ | ⟨q, st₀, t, T', L, E, ce, h0', X', hL, e1, e2, ⟨⟨k, hr, hE⟩, hRp1, hF⟩, hce, hcv, hcl, stp⟩
  · cases hv
    rw [c1, c2] at X'
    obtain ⟨k1, k2, k3⟩ := vx_keep h0' e1 hSv (fun _ _ h => h) (fun _ h => h) hL hF
    obtain ⟨t2, a1, b1⟩ := (kk v hr).2 ⟨by omega, by omega⟩ p l e R s m args below meth c T'.heap (locs ++ L) ls C (by rw [e1]; exact hRp1) k3 hl T' rfl X'
    exact ⟨t2, stp t2 a1, b1⟩
  · subst hE
    rw [c1, c2] at X'
    obtain ⟨k1, k2, k3⟩ := vx_keep h0' e1 hSv (fun _ _ h => h) (fun _ h => h) hL hF
    obtain ⟨t2, a1, b1⟩ := (kx k hr).2 ⟨by omega, by omega⟩ p l e R s m args below meth c T'.heap (locs ++ L) ls q ce C (by rw [e1]; exact hRp1) k3 hl (by rw [e1]; exact hce) hcv hcl T' rfl X'
    exact ⟨t2, stp.trans a1, b1⟩
theorem z_blind {Γ : zG} {h : zH} {av : List Value} : FrameBlind (va_Pc av (fun U => zRp Γ h U.heap ∧ zKK Γ U)) := by
  intro a U g mk ⟨h1, h2, h3⟩
  exact ⟨h1, h2, zKK.warm (s := U) (U := U.calling g mk a) (State.WarmedH.refl U) (Nat.le_refl _) (fun _ _ _ => rfl) h3⟩
theorem z_good {X Y : zX} {index : Nat} {C : String} (hhh : zhh Y = []) (w1 : Cond.methodLink X.1.cls index Y.1 ∈ GW) (w2 : Cond.instanceMethod Y.1 ∈ GW) (w3 : Cond.selects C Y.1 Y.1 ∈ GW) (w4 : Cond.initialized C ∈ GW) (w5 : Cond.code Y.1 (zcc Y) (zml Y) (zrt Y) ∈ GW) : GoodIn GW (wsV X.1.cls index C Y.1 (Cond.code Y.1 (zcc Y) (zml Y) (zrt Y) :: GW)) := by
  intro w hw
  have hm : w ∈ GW := by
    simp only [wsV, List.mem_append, List.mem_cons, List.not_mem_nil, or_false] at hw
    rcases hw with (rfl | rfl | rfl | rfl) | rfl | hw
    · exact w1
    · exact w2
    · exact w3
    · exact w4
    · exact w5
    · exact hw
  exact ⟨hm, good_of_word (gw_good hm)⟩
theorem z_goodS {X Y : zX} {index : Nat} (w1 : Cond.methodLink X.1.cls index Y.1 ∈ GW) (w2 : Cond.static Y.1 ∈ GW) (w4 : Cond.initialized Y.1.cls ∈ GW) {wc : Cond} (w5 : wc ∈ GW) : GoodIn GW (va_wsS X.1.cls index Y.1 (wc :: GW)) := by
  intro w hw
  have hm : w ∈ GW := by
    simp only [va_wsS, List.mem_append, List.mem_cons, List.not_mem_nil, or_false] at hw
    rcases hw with (rfl | rfl | rfl) | rfl | hw
    · exact w1
    · exact w2
    · exact w4
    · exact w5
    · exact hw
  exact ⟨hm, good_of_word (gw_good hm)⟩
/-- the links of a call -/
def zLV (own : String) (index : Nat) (Y : zX) (n : Nat) : Prop := zhh Y = [] ∧ Cond.methodLink own index Y.1 ∈ GW ∧ Cond.instanceMethod Y.1 ∈ GW ∧ Cond.selects Y.1.cls Y.1 Y.1 ∈ GW ∧ Cond.initialized Y.1.cls ∈ GW ∧ Cond.code Y.1 (zcc Y) (zml Y) (zrt Y) ∈ GW ∧ (Y.1.cls ≠ "java/lang/invoke/MethodHandle" ∧ Y.1.cls ≠ "java/lang/invoke/VarHandle" ∧ (parseMethodDescriptor Y.1.desc).map (fun d => d.parameters.length) = some n) ∧ zml Y ≤ 21
def zLS (own : String) (index : Nat) (Y : zX) (n : Nat) : Prop := zhh Y = [] ∧ Cond.methodLink own index Y.1 ∈ GW ∧ Cond.static Y.1 ∈ GW ∧ Cond.initialized Y.1.cls ∈ GW ∧ Cond.code Y.1 (zcc Y) (zml Y) (zrt Y) ∈ GW ∧ (Y.1.cls ≠ "java/lang/invoke/MethodHandle" ∧ Y.1.cls ≠ "java/lang/invoke/VarHandle" ∧ (parseMethodDescriptor Y.1.desc).map (fun d => d.parameters.length) = some n) ∧ zml Y ≤ 21
def zLI (own : String) (index : Nat) (Y : zX) (n : Nat) : Prop := zhh Y = [] ∧ Cond.methodLink own index Y.1 ∈ GW ∧ Cond.instanceMethod Y.1 ∈ GW ∧ Cond.initialized Y.1.cls ∈ GW ∧ Cond.code Y.1 (zcc Y) (zml Y) none ∈ GW ∧ zrt Y = none ∧ Y.1.name = "<init>" ∧ (Y.1.cls ≠ "java/lang/invoke/MethodHandle" ∧ Y.1.cls ≠ "java/lang/invoke/VarHandle" ∧ (parseMethodDescriptor Y.1.desc).map (fun d => d.parameters.length) = some n) ∧ zml Y ≤ 21
theorem zexn_inj : ∀ i j : Nat, zexn i = zexn j → i < 4 → j < 4 → i = j := by
  intro i j h hi hj
  match i, j, hi, hj with
  | 0, 0, _, _ => rfl
  | 1, 1, _, _ => rfl
  | 2, 2, _, _ => rfl
  | 3, 3, _, _ => rfl
  | 0, 1, _, _ => exact absurd h (by decide)
  | 0, 2, _, _ => exact absurd h (by decide)
  | 0, 3, _, _ => exact absurd h (by decide)
  | 1, 0, _, _ => exact absurd h (by decide)
  | 1, 2, _, _ => exact absurd h (by decide)
  | 1, 3, _, _ => exact absurd h (by decide)
  | 2, 0, _, _ => exact absurd h (by decide)
  | 2, 1, _, _ => exact absurd h (by decide)
  | 2, 3, _, _ => exact absurd h (by decide)
  | 3, 0, _, _ => exact absurd h (by decide)
  | 3, 1, _, _ => exact absurd h (by decide)
  | 3, 2, _, _ => exact absurd h (by decide)
theorem z_callV {index n b d' ci N : Nat} {T : u_T} {fs : List Value} {Y : zX} {r : zR} {h1 : zH} {As rest : List Value} (hd : decode (zcc X) pc = .ok (.invokevirtual index, 3)) (hL : zLV X.1.cls index Y n) (hci : vwCl[ci]? = some (Y.1.cls, T, N)) (hb : hM h b = some (.inr (ci, fs))) (hMt : Zm Γ Y d' (.ref b :: As) h (r, h1)) (hdd : d' + 1 ≤ d) (hn : As.length = n) (hst0 : st = As.reverse ++ .ref b :: rest) (hst : (rest.map fun v => v.category).sum ≤ 8)
    (kk : ∀ v : Option Value, r = .inl v → Z Γ X d h0 o (pc + 3) lv (v.toList ++ rest) h1) (kx : ∀ k : Nat, r = .inr k → Zx Γ X d h0 o pc lv rest k h1) : Z Γ X d h0 o pc lv st h := by
  obtain ⟨hhh, w1, w2, w3, w4, w5, hdsc, hml21⟩ := hL
  have hle2 : zle h1 o.2 := by
    cases r with
    | inl v => exact (kk v rfl).1
    | inr k => exact (kx k rfl).1
  refine ⟨zle.tr hMt.1 hle2, fun hle p l e R s m args below meth c H locs ls C hRp hSv hl => ?_⟩
  obtain ⟨hx, hb0, hrt, hml, hown, hname, hts, hlocks, hKK, hl9, hR1, hR2, hR3, hR4, hR0, htab, hzle⟩ := id C
  have hMl := hMt.2 l hl9
  rw [if_pos hhh] at hMl
  have hle1 : zle h h1 := hMt.1
  obtain ⟨hA, rr, g0, cellB, g1, g2, g3, g4⟩ := hRp.2.2 b _ hb
  have hrr : rr = (Y.1.cls, T, N) := Option.some.inj (g0.symm.trans hci)
  subst hrr
  have hcls := (hKK.1.1 ci _ hci).2.1
  subst hst0
  obtain ⟨g5, g6⟩ := hle1
  obtain ⟨g7, g8⟩ := hle
  obtain ⟨g9, g10⟩ := hle2
  refine z_back (av := (Value.ref b :: As).toArray) ⟨g5, g6⟩ ⟨g7, g8⟩ C hSv hl (vx_runV (As := As) (rest := rest) ⟨hx, hb0, hml, hown, hts⟩ hMl (cwV n hts (z_good hhh w1 w2 w3 w4 w5) rfl rfl rfl ⟨rfl, hdsc⟩ ⟨by show d' + 1 ≤ R.frames; omega, by show 8 + (zml Y + 11) + 40 * d' ≤ R.locals; omega⟩) ⟨z_blind, ⟨cellB, g1, by rw [g3]; rfl, by rw [g2]; exact hcls⟩, fun U hU hW => ⟨rfl, by rw [hU]; exact hRp, ?_⟩⟩ rfl hn hl.1 rfl (lv_room hst) hd ⟨by show hS h - hS h0 + (hS h1 - hS h) ≤ R.cells; omega, by show hN h - hN h0 + (hN h1 - hN h) ≤ R.slots; omega⟩) kk kx
  exact zKK.warm hW (by rw [hU]; exact hSv.1) (fun q h1 h2 => by rw [hU]; exact hSv.2.1 q h1 h2) hKK
theorem z_callS {index n d' : Nat} {Y : zX} {r : zR} {h1 : zH} {As rest : List Value} (hd : decode (zcc X) pc = .ok (.invokestatic index, 3)) (hL : zLS X.1.cls index Y n) (hMt : Zm Γ Y d' As h (r, h1)) (hdd : d' + 1 ≤ d) (hn : As.length = n) (hst0 : st = As.reverse ++ rest) (hst : (rest.map fun v => v.category).sum ≤ 8)
    (kk : ∀ v : Option Value, r = .inl v → Z Γ X d h0 o (pc + 3) lv (v.toList ++ rest) h1) (kx : ∀ k : Nat, r = .inr k → Zx Γ X d h0 o pc lv rest k h1) : Z Γ X d h0 o pc lv st h := by
  obtain ⟨hhh, w1, w2, w4, w5, hdsc, hml21⟩ := hL
  have hle2 : zle h1 o.2 := by
    cases r with
    | inl v => exact (kk v rfl).1
    | inr k => exact (kx k rfl).1
  refine ⟨zle.tr hMt.1 hle2, fun hle p l e R s m args below meth c H locs ls C hRp hSv hl => ?_⟩
  obtain ⟨hx, hb0, hrt, hml, hown, hname, hts, hlocks, hKK, hl9, hR1, hR2, hR3, hR4, hR0, htab, hzle⟩ := id C
  have hMl := hMt.2 l hl9
  rw [if_pos hhh] at hMl
  have hle1 : zle h h1 := hMt.1
  subst hst0
  obtain ⟨g5, g6⟩ := hle1
  obtain ⟨g7, g8⟩ := hle
  obtain ⟨g9, g10⟩ := hle2
  refine z_back (av := As.toArray) ⟨g5, g6⟩ ⟨g7, g8⟩ C hSv hl (vx_runS (As := As) (rest := rest) ⟨hx, hb0, hml, hown, hts⟩ hMl (va_cwS n hts (z_goodS w1 w2 w4 w5) rfl rfl rfl hdsc ⟨by show d' + 1 ≤ R.frames; omega, by show 8 + (zml Y + 11) + 40 * d' ≤ R.locals; omega⟩) ⟨z_blind, fun U hU hW => ⟨rfl, by rw [hU]; exact hRp, ?_⟩⟩ rfl hn hl.1 rfl (lv_room hst) hd ⟨by show hS h - hS h0 + (hS h1 - hS h) ≤ R.cells; omega, by show hN h - hN h0 + (hN h1 - hN h) ≤ R.slots; omega⟩) kk kx
  exact zKK.warm hW (by rw [hU]; exact hSv.1) (fun q h1 h2 => by rw [hU]; exact hSv.2.1 q h1 h2) hKK
/-- a constructor -/
theorem z_callI {index n b d' : Nat} {Y : zX} {v : Option Value} {h1 : zH} {As rest : List Value} (hd : decode (zcc X) pc = .ok (.invokespecial index, 3)) (hL : zLI X.1.cls index Y n) (hMt : Zm Γ Y d' (.ref b :: As) h (.inl v, h1)) (hdd : d' + 1 ≤ d) (hn : As.length = n) (hst0 : st = As.reverse ++ .ref b :: rest) (hst : (rest.map fun v => v.category).sum ≤ 8)
    (kk : Z Γ X d h0 o (pc + 3) lv (v.toList ++ rest) h1) : Z Γ X d h0 o pc lv st h := by
  obtain ⟨hhh, w1, w2, w4, w5, hrtn, hnm, hdsc, hml21⟩ := hL
  have hle2 : zle h1 o.2 := kk.1
  refine ⟨zle.tr hMt.1 hle2, fun hle p l e R s m args below meth c H locs ls C hRp hSv hl => ?_⟩
  obtain ⟨hx, hb0, hrt, hml, hown, hname, hts, hlocks, hKK, hl9, hR1, hR2, hR3, hR4, hR0, htab, hzle⟩ := id C
  have hMl := hMt.2 l hl9
  rw [if_pos hhh, hrtn] at hMl
  have hle1 : zle h h1 := hMt.1
  subst hst0
  obtain ⟨g5, g6⟩ := hle1
  obtain ⟨g7, g8⟩ := hle
  obtain ⟨g9, g10⟩ := hle2
  have hMM : Met l Y.1 (Cond.code Y.1 (zcc Y) (zml Y) none :: GW) { frames := d', cells := hS h1 - hS h, slots := hN h1 - hN h, locals := 40 * d' } (va_Pc (.ref b :: As) (fun U => zRp Γ h U.heap ∧ zKK Γ U)) (zQ Γ (.inl v, h1)) (hS h1 - hS h) (hN h1 - hN h) (zA Γ) := by
    refine MetFree.mono hMl (fun _ _ h => h) (fun _ _ _ _ _ h => h) (fun a st1 oc t hp hq => ?_)
    rcases hq with hq | ⟨q, -, E, ce, L, ⟨⟨k, hk, -⟩, -⟩, -⟩
    · exact hq
    · cases hk
  have run := va_runI (As := As) (rest := rest) ⟨hx, hb0, hml, hown, hts⟩ hMM (cwI n hts (fun w hw => ⟨(List.mem_cons.mp hw).elim (fun e => by rw [e]; exact w5) id, good_of_word (gw_good ((List.mem_cons.mp hw).elim (fun e => by rw [e]; exact w5) id))⟩) rfl rfl rfl (hts _ w4) (hts _ w1) (hts _ w2) hnm hdsc ⟨by show d' + 1 ≤ R.frames; omega, by show 8 + (zml Y + 11) + 40 * d' ≤ R.locals; omega⟩) ⟨z_blind, fun U hU hW => ⟨rfl, by rw [hU]; exact hRp, zKK.warm hW (by rw [hU]; exact hSv.1) (fun q h1 h2 => by rw [hU]; exact hSv.2.1 q h1 h2) hKK⟩⟩ (g := F0 m pc ls (As.reverse ++ .ref b :: rest)) rfl hn hl.1 rfl (lv_room hst) hd (p := p) (e := e) (below := below) (meth := meth) (R := R) (locs := locs) (H := H) (cells := hS h - hS h0) (slots := hN h - hN h0) ⟨by show hS h - hS h0 + (hS h1 - hS h) ≤ R.cells; omega, by show hN h - hN h0 + (hN h1 - hN h) ≤ R.slots; omega⟩
  refine z_back (r := .inl v) (av := (Value.ref b :: As).toArray) ⟨g5, g6⟩ ⟨g7, g8⟩ C hSv hl (fun T hT Xs => Or.inl (run T hT Xs)) (fun v' hv' => by cases hv'; exact kk) (fun k hk => by cases hk)
/-- thrown out of the method -/
theorem zx_out {k : Nat} (hhh : zhh X = []) (ho : o = (.inr k, h)) : Zx Γ X d h0 o pc lv st k h := by
  subst ho
  refine ⟨zle.rf, fun hle p l e R s m args below meth c H locs ls q ce C hRp hSv hl hce hcv hcl => ?_⟩
  have hno : ∀ x ∈ c.exceptionTable.toList, covers x pc = false := by
    intro x hx9
    rw [C.2.2.2.2.2.2.2.2.2.2.2.2.2.2.2.1, hhh] at hx9
    cases hx9
  exact vx_out hno C.2.2.2.2.2.2.2.1 hce hcv hcl (fun t ht hal => ⟨⟨k, rfl, rfl⟩, by rw [ht]; exact hRp, hSv.F ht⟩) hSv.2.2 (Nat.le_refl _) (Nat.le_refl _)
/-- from the body to the contract -/
theorem z_meth {av : List Value} (hhh : zhh X = []) (hpl : plainName X.1.cls = true) (hlen : (lg_sl av).length ≤ zml X) (kk : Z Γ X d h o 0 (lv_args 0 av) [] h) : Zm Γ X d av h o := by
  refine ⟨kk.1, fun l hl9 => ?_⟩
  rw [if_pos hhh]
  refine vx_ofW (cc := zcc X) (maxL := zml X) (ret := zrt X) hpl rfl ?_
  intro p e s m args below meth c s₁ B hml hno hv
  obtain ⟨rfl, hRp, hKK⟩ := hv
  have hts0 : ∀ w ∈ (Cond.code X.1 (zcc X) (zml X) (zrt X) :: GW), w.before av.toArray s = true := atoms_spec (ws := Cond.code X.1 (zcc X) (zml X) (zrt X) :: GW) B.pre
  have hl := lv_entry av (n := zml X) hlen
  rw [lg_entry_eq]
  have hcz : zC Γ X d h o.2 p l (headSpec (Cond.code X.1 (zcc X) (zml X) (zrt X) :: GW) { frames := d, cells := hS o.2 - hS h, slots := hN o.2 - hN h, locals := 40 * d }).room s m av.toArray meth c := by
    refine ⟨B.exec, B.bytes, B.returns, hml, findClass_of_methodNamed B.named, (name_of_methodNamed B.named B.method).1, fun w hw => hts0 w (List.mem_cons_of_mem _ hw), B.notSynchronized, hKK, hl9, Nat.le_refl _, Nat.le_refl _, Nat.le_refl _, Nat.le_refl _, hRp, ?_, kk.1⟩
    rw [hhh]
    exact List.eq_nil_iff_forall_not_mem.mpr hno
  have key := kk.2 zle.rf p l e _ s m av.toArray below meth c s.heap [] _ hcz hRp va_S.rf hl
  rw [Nat.sub_self, Nat.sub_self] at key
  exact key
end ZCALL2
end
section
section ZSPEC
variable {Γ : zG} {X : zX} {d : Nat} {h0 : zH} {o : zR × zH} {pc : Nat} {lv : List (Nat × Value)} {st : List Value} {h : zH}
/-! ===== z: handlers ===== -/
/-- caught: the entry x of the table takes it, the ones ahead don't -/
theorem zx_catch {k : Nat} (hk : k < 4) (pre : List (Nat × Nat × Nat × Nat)) (x : Nat × Nat × Nat × Nat) (suf : List (Nat × Nat × Nat × Nat)) (hsplit : zhh X = pre ++ x :: suf)
    (hpass : ∀ z ∈ pre, z.2.2.2 ≠ 0 ∧ ∃ j : Nat, j < 4 ∧ k ≠ j ∧ Cond.classLink X.1.cls z.2.2.2 (zexn j) ∈ GW) (hx : x.1 ≤ pc ∧ pc < x.2.1) (hx0 : x.2.2.2 ≠ 0) (hlink : Cond.classLink X.1.cls x.2.2.2 (zexn k) ∈ GW) (hcast : Cond.castable (zexn k) (zexn k) ∈ lw_tbl)
    (kk : ∀ q : Nat, Z Γ X d h0 o x.2.2.1 lv [.ref q] h) : Zx Γ X d h0 o pc lv st k h := by
  refine ⟨(kk 0).1, fun hle p l e R s m args below meth c H locs ls q ce C hRp hSv hl hce hcv hcl => ?_⟩
  have hts := C.2.2.2.2.2.2.1
  have hKK := C.2.2.2.2.2.2.2.2.1
  have htab := C.2.2.2.2.2.2.2.2.2.2.2.2.2.2.2.1
  have hsp : c.exceptionTable.toList = pre.map (fun q => ⟨q.1, q.2.1, q.2.2.1, q.2.2.2⟩) ++ (⟨x.1, x.2.1, x.2.2.1, x.2.2.2⟩ : ExceptionTableEntry) :: suf.map (fun q => ⟨q.1, q.2.1, q.2.2.1, q.2.2.2⟩) := by
    rw [htab, hsplit]
    simp [tableOf]
  refine vx_catch (name := zexn k) (E := zexn k) C.2.2.2.2.1 _ _ _ hsp (fun z hz => Or.inr ?_) (by simp [covers, hx.1, hx.2]) hx0 (hts _ hlink) (va_any rfl (hKK.2.2.2.2.2.2.2.2.2.2.1 _ hcast rfl)) hce hcv hcl ((kk q).2 hle p l e R s m args below meth c H locs ls C hRp hSv hl)
  obtain ⟨y, hy, rfl⟩ := List.mem_map.mp hz
  obtain ⟨g1, j, g2, g3, g4⟩ := hpass y hy
  exact ⟨g1, zexn j, hts _ g4, hKK.2.2.2.2.2.2.2.2.2.2.2 k j hk g2 g3⟩
/-- a body with handlers -/
theorem z_methH {av : List Value} (hhh : zhh X ≠ []) (hpl : plainName X.1.cls = true) (hlen : (lg_sl av).length ≤ zml X) (kk : Z Γ X d h o 0 (lv_args 0 av) [] h) : Zm Γ X d av h o := by
  refine ⟨kk.1, fun l hl9 => ?_⟩
  rw [if_neg hhh]
  refine vx_ofWH (cc := zcc X) (maxL := zml X) (ret := zrt X) (hh := zhh X) hpl rfl ?_
  intro p e s m args below meth c s₁ B hml hv
  obtain ⟨rfl, hRp, hKK⟩ := hv
  have hts0 : ∀ w ∈ (Cond.codeWith X.1 (zcc X) (zml X) (zrt X) (zhh X) :: GW), w.before av.toArray s = true := atoms_spec (ws := Cond.codeWith X.1 (zcc X) (zml X) (zrt X) (zhh X) :: GW) B.pre
  have hl := lv_entry av (n := zml X) hlen
  rw [lg_entry_eq]
  have hcz : zC Γ X d h o.2 p l (headSpec (Cond.codeWith X.1 (zcc X) (zml X) (zrt X) (zhh X) :: GW) { frames := d, cells := hS o.2 - hS h, slots := hN o.2 - hN h, locals := 40 * d }).room s m av.toArray meth c := by
    refine ⟨B.exec, B.bytes, B.returns, hml, findClass_of_methodNamed B.named, (name_of_methodNamed B.named B.method).1, fun w hw => hts0 w (List.mem_cons_of_mem _ hw), B.notSynchronized, hKK, hl9, Nat.le_refl _, Nat.le_refl _, Nat.le_refl _, Nat.le_refl _, hRp, ?_, kk.1⟩
    exact vx_table (x := X.1) (y := X.1) B (hts0 _ List.mem_cons_self)
  have key := kk.2 zle.rf p l e _ s m av.toArray below meth c s.heap [] _ hcz hRp va_S.rf hl
  rw [Nat.sub_self, Nat.sub_self] at key
  exact key
def zLSW (own : String) (index : Nat) (Y : zX) (n : Nat) : Prop := zhh Y ≠ [] ∧ Cond.methodLink own index Y.1 ∈ GW ∧ Cond.static Y.1 ∈ GW ∧ Cond.initialized Y.1.cls ∈ GW ∧ Cond.codeWith Y.1 (zcc Y) (zml Y) (zrt Y) (zhh Y) ∈ GW ∧ (Y.1.cls ≠ "java/lang/invoke/MethodHandle" ∧ Y.1.cls ≠ "java/lang/invoke/VarHandle" ∧ (parseMethodDescriptor Y.1.desc).map (fun d => d.parameters.length) = some n) ∧ zml Y ≤ 21
theorem z_callSW {index n d' : Nat} {Y : zX} {r : zR} {h1 : zH} {As rest : List Value} (hd : decode (zcc X) pc = .ok (.invokestatic index, 3)) (hL : zLSW X.1.cls index Y n) (hMt : Zm Γ Y d' As h (r, h1)) (hdd : d' + 1 ≤ d) (hn : As.length = n) (hst0 : st = As.reverse ++ rest) (hst : (rest.map fun v => v.category).sum ≤ 8)
    (kk : ∀ v : Option Value, r = .inl v → Z Γ X d h0 o (pc + 3) lv (v.toList ++ rest) h1) (kx : ∀ k : Nat, r = .inr k → Zx Γ X d h0 o pc lv rest k h1) : Z Γ X d h0 o pc lv st h := by
  obtain ⟨hhh, w1, w2, w4, w5, hdsc, hml21⟩ := hL
  have hle2 : zle h1 o.2 := by
    cases r with
    | inl v => exact (kk v rfl).1
    | inr k => exact (kx k rfl).1
  refine ⟨zle.tr hMt.1 hle2, fun hle p l e R s m args below meth c H locs ls C hRp hSv hl => ?_⟩
  obtain ⟨hx, hb0, hrt, hml, hown, hname, hts, hlocks, hKK, hl9, hR1, hR2, hR3, hR4, hR0, htab, hzle⟩ := id C
  have hMl := hMt.2 l hl9
  rw [if_neg hhh] at hMl
  have hle1 : zle h h1 := hMt.1
  subst hst0
  obtain ⟨g5, g6⟩ := hle1
  obtain ⟨g7, g8⟩ := hle
  obtain ⟨g9, g10⟩ := hle2
  refine z_back (av := As.toArray) ⟨g5, g6⟩ ⟨g7, g8⟩ C hSv hl (vx_runSX (As := As) (rest := rest) ⟨hx, hb0, hml, hown, hts⟩ hMl (vx_cwSW n hts (z_goodS w1 w2 w4 w5) rfl rfl rfl hdsc ⟨by show d' + 1 ≤ R.frames; omega, by show 8 + (zml Y + 11) + 40 * d' ≤ R.locals; omega⟩) ⟨z_blind, fun U hU hW => ⟨rfl, by rw [hU]; exact hRp, ?_⟩⟩ rfl hn hl.1 rfl (lv_room hst) hd ⟨by show hS h - hS h0 + (hS h1 - hS h) ≤ R.cells; omega, by show hN h - hN h0 + (hN h1 - hN h) ≤ R.slots; omega⟩) kk kx
  exact zKK.warm hW (by rw [hU]; exact hSv.1) (fun q h1 h2 => by rw [hU]; exact hSv.2.1 q h1 h2) hKK
/-! ===== z: constants, statics, the script ===== -/
theorem z_ldcS7 {index i : Nat} (hi : i < 9) (hX : X.1.cls = RX7) (hidx : zsi7 i = index) (hd : decode (zcc X) pc = .ok (.ldc index, 2)) (kk : Z Γ X d h0 o (pc + 2) lv (.ref (zKa Γ i) :: st) h) : Z Γ X d h0 o pc lv st h :=
  ⟨kk.1, fun hle p l e R s m args below meth c H locs ls C hRp hSv hl => va_ldcS C.1 C.2.1 C.2.2.2.2.1 (by rw [hX, ← hidx]; exact (C.2.2.2.2.2.2.2.2.1.2.2.2.2.2.1 i hi).1) hd (kk.2 hle p l e R s m args below meth c H locs ls C hRp hSv hl)⟩
theorem z_ldcS9 {index i : Nat} (hi : i < 9) (hX : X.1.cls = RX9) (hidx : zsi9 i = index) (hd : decode (zcc X) pc = .ok (.ldc index, 2)) (kk : Z Γ X d h0 o (pc + 2) lv (.ref (zKa Γ i) :: st) h) : Z Γ X d h0 o pc lv st h :=
  ⟨kk.1, fun hle p l e R s m args below meth c H locs ls C hRp hSv hl => va_ldcS C.1 C.2.1 C.2.2.2.2.1 (by rw [hX, ← hidx]; exact (C.2.2.2.2.2.2.2.2.1.2.2.2.2.2.1 i hi).2) hd (kk.2 hle p l e R s m args below meth c H locs ls C hRp hSv hl)⟩
theorem z_cs {index : Nat} (hd : decode (zcc X) pc = .ok (.getstatic index, 3)) (hlk : Cond.fieldLink X.1.cls index "java/lang/String" "COMPACT_STRINGS" "Z" ∈ GW) (kk : Z Γ X d h0 o (pc + 3) lv (.int 1 :: st) h) : Z Γ X d h0 o pc lv st h :=
  ⟨kk.1, fun hle p l e R s m args below meth c H locs ls C hRp hSv hl => va_gets C.1 C.2.1 C.2.2.2.2.2.2.2.2.1.2.2.2.2.2.2.1 hSv C.2.2.2.2.1 (C.2.2.2.2.2.2.1 _ hlk) (fun _ h => h) hd (kk.2 hle p l e R s m args below meth c H locs ls C hRp hSv hl)⟩
theorem z_sf {index : Nat} (hd : decode (zcc X) pc = .ok (.getstatic index, 3)) (hlk : Cond.fieldLink X.1.cls index "jdk/internal/util/Preconditions" "SIOOBE_FORMATTER" "Ljava/util/function/BiFunction;" ∈ GW) (kk : ∀ v : Value, v = .null ∨ (∃ t : Nat, v = .ref t) → Z Γ X d h0 o (pc + 3) lv (v :: st) h) : Z Γ X d h0 o pc lv st h :=
  ⟨(kk .null (Or.inl rfl)).1, fun hle p l e R s m args below meth c H locs ls C hRp hSv hl => by
    rcases C.2.2.2.2.2.2.2.2.1.2.2.2.2.2.2.2.1 with hz | ⟨t, hz⟩
    · exact va_gets C.1 C.2.1 hz hSv C.2.2.2.2.1 (C.2.2.2.2.2.2.1 _ hlk) (fun _ h => h) hd ((kk .null (Or.inl rfl)).2 hle p l e R s m args below meth c H locs ls C hRp hSv hl)
    · exact va_gets C.1 C.2.1 hz hSv C.2.2.2.2.1 (C.2.2.2.2.2.2.1 _ hlk) (fun _ h => h) hd ((kk (.ref t) (Or.inr ⟨t, rfl⟩)).2 hle p l e R s m args below meth c H locs ls C hRp hSv hl)⟩
theorem z_strC {index i : Nat} (hi : i < 9) (hd : decode (zcc X) pc = .ok (.getfield index, 3)) (hlk : Cond.fieldLink X.1.cls index "java/lang/String" "coder" "B" ∈ GW) (kk : Z Γ X d h0 o (pc + 3) lv (.int 0 :: st) h) : Z Γ X d h0 o pc lv (.ref (zKa Γ i) :: st) h :=
  ⟨kk.1, fun hle p l e R s m args below meth c H locs ls C hRp hSv hl => vk_getf C.1 C.2.1 ((C.2.2.2.2.2.2.2.2.1.2.2.2.2.1).1 i hi).2.1 hSv C.2.2.2.2.1 (C.2.2.2.2.2.2.1 _ hlk) (fun _ h => h) hd (kk.2 hle p l e R s m args below meth c H locs ls C hRp hSv hl)⟩
theorem z_strV {index i : Nat} (hi : i < 9) (hd : decode (zcc X) pc = .ok (.getfield index, 3)) (hlk : Cond.fieldLink X.1.cls index "java/lang/String" "value" "[B" ∈ GW) (kk : Z Γ X d h0 o (pc + 3) lv (.ref (zVa Γ i) :: st) h) : Z Γ X d h0 o pc lv (.ref (zKa Γ i) :: st) h :=
  ⟨kk.1, fun hle p l e R s m args below meth c H locs ls C hRp hSv hl => vk_getf C.1 C.2.1 ((C.2.2.2.2.2.2.2.2.1.2.2.2.2.1).1 i hi).2.2.1 hSv C.2.2.2.2.1 (C.2.2.2.2.2.2.1 _ hlk) (fun _ h => h) hd (kk.2 hle p l e R s m args below meth c H locs ls C hRp hSv hl)⟩
theorem z_strL {i : Nat} (hi : i < 9) (hd : decode (zcc X) pc = .ok (.arraylength, 1)) (kk : Z Γ X d h0 o (pc + 1) lv (.int (Int32.ofNat (zlen.getD i 0)) :: st) h) : Z Γ X d h0 o pc lv (.ref (zVa Γ i) :: st) h :=
  ⟨kk.1, fun hle p l e R s m args below meth c H locs ls C hRp hSv hl => va_tlen C.1 C.2.1 ((C.2.2.2.2.2.2.2.2.1.2.2.2.2.1).1 i hi).2.2.2 hSv rfl hd (kk.2 hle p l e R s m args below meth c H locs ls C hRp hSv hl)⟩
theorem z_strB {i : Nat} {j : Int32} (hi : i < 9) (hj : zix j (zlen.getD i 0)) (hd : decode (zcc X) pc = .ok (.baload, 1)) (kk : Z Γ X d h0 o (pc + 1) lv (.int ((zbyt.getD i []).getD j.toNatClampNeg 0) :: st) h) : Z Γ X d h0 o pc lv (.int j :: .ref (zVa Γ i) :: st) h :=
  ⟨kk.1, fun hle p l e R s m args below meth c H locs ls C hRp hSv hl => va_tb C.1 C.2.1 ((C.2.2.2.2.2.2.2.2.1.2.2.2.2.1).1 i hi).2.2.2 hSv hj.vp rfl hd (kk.2 hle p l e R s m args below meth c H locs ls C hRp hSv hl)⟩
theorem z_sld {i : Int32} {sb L : Nat} {xs : Nat → Int32} (hG : Γ.2.2.2.2 = (sb, L, xs)) (hi : zix i L) (hd : decode (zcc X) pc = .ok (.iaload, 1)) (kk : Z Γ X d h0 o (pc + 1) lv (.int (xs i.toNatClampNeg) :: st) h) : Z Γ X d h0 o pc lv (.int i :: .ref sb :: st) h := by
  refine ⟨kk.1, fun hle p l e R s m args below meth c H locs ls C hRp hSv hl => ?_⟩
  have hX := C.2.2.2.2.2.2.2.2.1.2.2.2.2.2.2.2.2.1
  have hb := C.2.2.2.2.2.2.2.2.1.2.2.2.2.2.2.2.2.2.1
  have hB := C.2.2.2.2.2.2.2.2.1.2.1
  rw [hG] at hX hb
  exact va_sld C.1 C.2.1 hX (Nat.lt_of_lt_of_le hb hB) (Nat.not_le.mpr hb) hSv hi.vp hd (kk.2 hle p l e R s m args below meth c H locs ls C hRp hSv hl)
theorem z_slen {sb L : Nat} {xs : Nat → Int32} (hG : Γ.2.2.2.2 = (sb, L, xs)) (hd : decode (zcc X) pc = .ok (.arraylength, 1)) (kk : Z Γ X d h0 o (pc + 1) lv (.int (Int32.ofNat L) :: st) h) : Z Γ X d h0 o pc lv (.ref sb :: st) h := by
  refine ⟨kk.1, fun hle p l e R s m args below meth c H locs ls C hRp hSv hl => ?_⟩
  have hX := C.2.2.2.2.2.2.2.2.1.2.2.2.2.2.2.2.2.1
  have hb := C.2.2.2.2.2.2.2.2.1.2.2.2.2.2.2.2.2.2.1
  have hB := C.2.2.2.2.2.2.2.2.1.2.1
  rw [hG] at hX hb
  exact va_slen C.1 C.2.1 hX (Nat.lt_of_lt_of_le hb hB) (Nat.not_le.mpr hb) hSv hd (kk.2 hle p l e R s m args below meth c H locs ls C hRp hSv hl)
/-! ===== z: System.arraycopy over ints ===== -/
def cpI (h : zH) (a0 : Nat) (sp : Int32) (a : Nat) (dp n : Int32) : Option zH := match hM h a0, hM h a with
  | some (.inl (k0, n0, .inl f)), some (.inl (k1, n1, .inl g)) => if k0 = 0 ∧ k1 = 0 ∧ ¬ sp < 0 ∧ ¬ dp < 0 ∧ ¬ n < 0 ∧ sp.toNatClampNeg + n.toNatClampNeg ≤ n0 ∧ dp.toNatClampNeg + n.toNatClampNeg ≤ n1 then some (hPut h a (.inl (0, n1, .inl (va_cpy f g sp.toNatClampNeg dp.toNatClampNeg n.toNatClampNeg)))) else none
  | _, _ => none
theorem z_copyI {β : Type} {K : zH → Option β} {w : β} {index a0 a : Nat} {sp dp n : Int32} (hd : decode (zcc X) pc = .ok (.invokestatic index, 3)) (hlk : Cond.methodLink X.1.cls index arraycopyName ∈ GW) (hnat : Cond.native arraycopyName ∈ GW) (hsta : Cond.static arraycopyName ∈ GW) (hini : Cond.initialized "java/lang/System" ∈ GW) (hdd : 8 ≤ d) (hst : (st.map fun v => v.category).sum ≤ 8)
    (hf : (cpI h a0 sp a dp n).bind K = some w) (kk : ∀ h1 : zH, K h1 = some w → Z Γ X d h0 o (pc + 3) lv st h1) : Z Γ X d h0 o pc lv (.int n :: .int dp :: .ref a :: .int sp :: .ref a0 :: st) h := by
  obtain ⟨h1, hf1, hf2⟩ := Option.bind_eq_some_iff.mp hf
  have kk := kk _ hf2
  unfold cpI at hf1
  split at hf1
  · next k0 n0 f k1 n1 g he0 he1 =>
    split at hf1
    · next hc =>
      obtain ⟨rfl, rfl, h1, h2, h3, h4, h5⟩ := hc
      cases hf1
      refine ⟨kk.1, fun hle p l e R s m args below meth c H locs ls C hRp hSv hl => ?_⟩
      have hts := C.2.2.2.2.2.2.1
      have hR1 := C.2.2.2.2.2.2.2.2.2.2.1
      have hR2 := C.2.2.2.2.2.2.2.2.2.2.2.1
      have nn : ∀ z : Int32, ¬ z < 0 → z.toInt = (z.toNatClampNeg : Int) := by
        intro z hz
        have hz0 : (0 : Int) ≤ z.toInt := by
          have := Int32.not_lt.mp hz
          simpa using Int32.le_iff_toInt_le.mp this
        show z.toInt = ((z.toInt.toNat : Nat) : Int)
        omega
      intro T hT Xs
      have hc0 : H[a0]? = some (vp_cell (Γ.2.1 0) (n0, .inl f)) := (hRp.2.2 a0 _ he0).2
      have hc1 : H[a]? = some (vp_cell (Γ.2.1 0) (n1, .inl g)) := (hRp.2.2 a _ he1).2
      obtain ⟨-, kA, hkA, cmA, hkkA⟩ := (C.2.2.2.2.2.2.2.2.1.1.2 0 _ (ztys_at Γ.2.1 (k := 0) (by decide))).1 n0 (fun j => .int (f j))
      obtain ⟨vm', X', step⟩ := Xs.arraycopy C.1 C.2.2.2.2.1 (hts _ hlk) (hts _ hnat) (hts _ hsta) (hts _ hini) (src := a0) (dst := a) (cs := vp_cell (Γ.2.1 0) (n0, .inl f)) (cd := vp_cell (Γ.2.1 0) (n1, .inl g)) (srcPos := sp) (destPos := dp) (n := n) (by rw [hT]; exact hc0) (by rw [hT]; exact hc1)
        (fun _ h => by cases h) (fun _ h => by cases h) (fun h => by cases h) (fun h => by cases h) hkA hkA hkkA hkkA (by simp [zaty, refKind]) h1 h2 h3
        (by rw [nn sp h1, nn n h3]; show ¬ _ > ((arrV (Γ.2.1 0) n0 (fun j => .int (f j))).slots.size : Int); rw [arrV_size]; omega)
        (by rw [nn dp h2, nn n h3]; show ¬ _ > ((arrV (Γ.2.1 0) n1 (fun j => .int (g j))).slots.size : Int); rw [arrV_size]; omega)
        (fun vm₁ _ i hi => by
          have e : (vp_cell (Γ.2.1 0) (n0, .inl f)).slots.getD (sp.toNatClampNeg + i) .null = .int (f (sp.toNatClampNeg + i)) := by
            show (arrV (Γ.2.1 0) n0 (fun j => .int (f j))).slots.getD _ _ = _
            rw [Array.getD_eq_getD_getElem?, arrV_read _ _ (by omega)]
            rfl
          refine ⟨?_, ?_⟩
          · rw [e]
            rfl
          · rw [e]
            exact trivial)
        (g := F0 m pc ls (.int n :: .int dp :: .ref a :: .int sp :: .ref a0 :: st)) rfl (hl.1.trans C.2.2.2.1.symm) (rest := st) rfl (by rw [C.2.1]; exact hd) (by omega) (by
          have e9 : nativeFrameWords "java/lang/System" "arraycopy" 5 ≤ 100 := by decide +kernel
          show 2 * 0 + _ + _ ≤ _
          omega)
      have e1 : copied (vp_cell (Γ.2.1 0) (n0, .inl f)) (vp_cell (Γ.2.1 0) (n1, .inl g)) sp dp n = vp_cell (Γ.2.1 0) (n1, .inl (va_cpy f g sp.toNatClampNeg dp.toNatClampNeg n.toNatClampNeg)) := va_copied (fun z => .int z) (Γ.2.1 0) (Γ.2.1 0) f g h4
      rw [e1] at X' step
      have hlt : a < H.size := (Array.getElem?_eq_some_iff.mp hc1).1
      have oq : ∀ q : Nat, q ≠ a → (H.setIfInBounds a (vp_cell (Γ.2.1 0) (n1, .inl (va_cpy f g sp.toNatClampNeg dp.toNatClampNeg n.toNatClampNeg))))[q]? = H[q]? := fun q hq => by simp [Array.getElem?_setIfInBounds, Ne.symm hq]
      have hA := (hRp.2.2 a _ he1).1
      have hat : va_at Γ.1 vwCl (a, ztoE Γ.2.1 (.inl (0, n1, .inl (va_cpy f g sp.toNatClampNeg dp.toNatClampNeg n.toNatClampNeg)))) (H.setIfInBounds a (vp_cell (Γ.2.1 0) (n1, .inl (va_cpy f g sp.toNatClampNeg dp.toNatClampNeg n.toNatClampNeg)))) := by
        show (H.setIfInBounds a _)[a]? = some _
        simp [Array.getElem?_setIfInBounds, hlt]
      obtain ⟨t, a1, b1⟩ := kk.2 hle p l e R s m args below meth c _ _ ls C (hRp.put he1 hat (by simp) oq) ⟨by simp; exact hSv.1, fun q g1 g2 => by
          rw [oq q (fun e => g2 (by rw [e]; exact hA))]
          exact hSv.2.1 q g1 g2, fun q hq => by
          rcases List.mem_append.mp hq with h | h
          · exact hSv.2.2 q h
          · obtain ⟨z, -, hz⟩ := List.mem_map.mp h
            rw [← hz]
            exact hA⟩ hl ((T.setVm vm').setCell a (vp_cell (Γ.2.1 0) (n1, .inl (va_cpy f g sp.toNatClampNeg dp.toNatClampNeg n.toNatClampNeg)))) (by rw [← hT]; rfl) X'
      exact ⟨t, step t a1, b1⟩
    · cases hf1
  · cases hf1
end ZSPEC
theorem vr_outer (c : ClassId) (N h0 : Nat) : ∀ i : Nat, Jvm.Free.Multi.outerC c N h0 i = arrV c N (fun j => va_rf (if j < i then some (h0 + 1 + j) else none))
  | 0 => by
    show ({ cls := c, slots := Array.replicate N .null, vm := .none } : Cell) = _
    rw [arrV_new]
    refine congrArg (arrV c N) (funext fun j => ?_)
    simp [va_rf]
  | i + 1 => by
    show (Jvm.Free.Multi.outerC c N h0 i).setSlot i (.ref (h0 + 1 + i)) = _
    rw [vr_outer c N h0 i, arrV_store]
    refine congrArg (arrV c N) (funext fun j => ?_)
    by_cases e : j = i
    · subst e
      simp [updV, va_rf]
    · by_cases h : j < i
      · simp [updV, e, h, Nat.lt_succ_of_lt h]
      · simp [updV, e, h, show ¬ j < i + 1 by omega]
section ZGRID
variable {Γ : zG} {X : zX} {d : Nat} {h0 : zH} {o : zR × zH} {pc : Nat} {lv : List (Nat × Value)} {st : List Value} {h : zH}
/-- new int[n][k]: the outer array, then the rows -/
def hG (h : zH) (n k : Nat) : zH := (h.1 + 1 + n, h.2.1 + (n + n * k), fun b => if b = h.1 then some (.inl (5, n, .inr (.inr (.inr (.inr (fun i => if i < n then some (h.1 + 1 + i) else none)))))) else if h.1 < b ∧ b ≤ h.1 + n then some (.inl (0, k, .inl (fun _ => 0))) else h.2.2 b)
def nwG (h : zH) (n k : Int32) : Option (Nat × zH) := if (¬ n < 0 ∧ ¬ k < 0) ∧ n.toNatClampNeg ≤ 1000 ∧ k.toNatClampNeg ≤ 100000 then some (hS h, hG h n.toNatClampNeg k.toNatClampNeg) else none
theorem z_newG {β : Type} {K : Nat × zH → Option β} {w : β} {index : Nat} {n k : Int32} (hd : decode (zcc X) pc = .ok (.multianewarray index 2, 4)) (hlk : Cond.classLink X.1.cls index ("[" ++ (FieldType.array .int).toString) ∈ GW) (hov : Cond.arrayOver (.array .int) ∈ lw_tbl) (har : Cond.arrayClass .int ∈ GW)
    (hf : (nwG h n k).bind K = some w) (kk : ∀ (q : Nat) (h1 : zH), K (q, h1) = some w → Z Γ X d h0 o (pc + 4) lv (.ref q :: st) h1) : Z Γ X d h0 o pc lv (.int k :: .int n :: st) h := by
  obtain ⟨⟨q, h1⟩, h2, h3⟩ := Option.bind_eq_some_iff.mp hf
  have kk := kk _ _ h3
  unfold nwG at h2
  split at h2
  · next hc =>
    obtain ⟨⟨hn, hk⟩, hn1, hk1⟩ := hc
    cases h2
    generalize hN' : n.toNatClampNeg = N at kk hn1 ⊢
    generalize hK' : k.toNatClampNeg = K9 at kk hk1 ⊢
    have e0 : hS (hG h N K9) = hS h + 1 + N := rfl
    have e2 : hN (hG h N K9) = hN h + (N + N * K9) := rfl
    refine ⟨zle.tr ⟨by rw [e0]; omega, by rw [e2]; omega⟩ kk.1, fun hle p l e R s m args below meth c0 H locs ls C0 hRp hSv hl => ?_⟩
    have hsz := hRp.1
    obtain ⟨h9a, h9b⟩ := kk.1
    rw [e0] at h9a
    rw [e2] at h9b
    have hR1 := C0.2.2.2.2.2.2.2.2.2.2.2.2.1
    have hR2 := C0.2.2.2.2.2.2.2.2.2.2.2.2.2.1
    obtain ⟨hla, hlb⟩ := hle
    have hts := C0.2.2.2.2.2.2.1
    have hKK := C0.2.2.2.2.2.2.2.2.1
    have hover : (Cond.arrayOver (.array .int)).before #[] s = true := hKK.2.2.2.2.2.2.2.2.2.2.1 _ hov rfl
    have hover2 : (Cond.arrayOver (.array .int)).before args s = true := hover
    have hRA5 : s.vm.findClass ("[" ++ (FieldType.array .int).toString) = some (Γ.2.1 5) := (hKK.1.2 5 _ (ztys_at Γ.2.1 (k := 5) (by decide))).2
    have hRA0 : s.vm.findClass ("[" ++ FieldType.int.toString) = some (Γ.2.1 0) := (hKK.1.2 0 _ (ztys_at Γ.2.1 (k := 0) (by decide))).2
    intro T hT Xs
    obtain ⟨vm₁, cA, comp, -, fA, fC, hO, -, X', step⟩ := Xs.multianewarray2F (ty := .int) C0.1 C0.2.2.2.2.1 (hts _ hlk) hover2 (hts _ har) (g := F0 m pc ls (.int k :: .int n :: st)) rfl (by rw [C0.2.1]; exact hd) rfl hn hk (by rw [hN']; omega) (by rw [hK']; simp only [componentBytes]; omega) (by rw [hK']; omega) (by decide) (by decide) (by rw [hN']; omega) (by rw [hN', hK']; omega)
    have eA : some cA = some (Γ.2.1 5) := fA.symm.trans hRA5
    cases eA
    have eC : some comp = some (Γ.2.1 0) := fC.symm.trans hRA0
    cases eC
    rw [hN', hK'] at X' step
    generalize hF : Jvm.Free.Multi.fill (T.setVm vm₁) (Γ.2.1 5) (Γ.2.1 0) N K9 (defaultValue .int) N = F at X' step
    have hTh : (T.setVm vm₁).heap = H := hT
    obtain ⟨f1, f2, -, -⟩ := Jvm.Free.Multi.fill_facts (T.setVm vm₁) (Γ.2.1 5) (Γ.2.1 0) N K9 (defaultValue .int) N
    rw [hF, hTh] at f1 f2
    have hold : ∀ x : Nat, x < H.size → F.heap[x]? = H[x]? := fun x hx => by
      have := Jvm.Free.Multi.fill_old (T.setVm vm₁) (Γ.2.1 5) (Γ.2.1 0) N K9 (defaultValue .int) (a := x) (by rw [hTh]; exact hx) N
      rw [hF, hTh] at this
      exact this
    have hz : Jvm.Free.Multi.innerC (Γ.2.1 0) K9 (defaultValue .int) = vp_cell (Γ.2.1 0) (K9, .inl (fun _ => 0)) := by
      show ({ cls := Γ.2.1 0, slots := Array.replicate K9 (.int 0), vm := .none } : Cell) = _
      rw [arrV_new, vp_cell_i]
    have hrow : ∀ j : Nat, j < N → F.heap[H.size + 1 + j]? = some (vp_cell (Γ.2.1 0) (K9, .inl (fun _ => 0))) := fun j hj => by
      have := Jvm.Free.Multi.fill_inner (T.setVm vm₁) (Γ.2.1 5) (Γ.2.1 0) N K9 (defaultValue .int) N j hj
      rw [hF, hTh, hz] at this
      exact this
    have hout : Jvm.Free.Multi.outerC (Γ.2.1 5) N H.size N = vp_cell (Γ.2.1 5) (N, .inr (.inr (.inr (.inr (fun i => if i < N then some (H.size + 1 + i) else none))))) := by
      rw [vp_cell_q]
      exact vr_outer (Γ.2.1 5) N H.size N
    rw [hout] at f2
    have hRn : zRp Γ (hG h N K9) F.heap := by
      refine ⟨by rw [f1, e0, ← hsz], by rw [e0]; have := hRp.2.1; omega, fun b x hx => ?_⟩
      have hhS : h.1 = H.size := hsz.symm
      have hB0 := hRp.2.1
      by_cases hb : b = h.1
      · have hx' : some (Sum.inl (5, N, .inr (.inr (.inr (.inr (fun i => if i < N then some (h.1 + 1 + i) else none)))))) = some x := by rw [← hx]; simp [hM, hG, hb]
        cases hx'
        refine ⟨by rw [hb]; exact hB0, ?_⟩
        show F.heap[b]? = some (vp_cell (Γ.2.1 5) _)
        rw [hb, hhS]
        exact f2
      · by_cases hb2 : h.1 < b ∧ b ≤ h.1 + N
        · have hx' : some (Sum.inl (0, K9, .inl (fun _ => 0))) = some x := by rw [← hx]; simp only [hM, hG, if_neg hb, if_pos hb2]
          cases hx'
          refine ⟨by have : hS h = h.1 := rfl; omega, ?_⟩
          show F.heap[b]? = some (vp_cell (Γ.2.1 0) _)
          have := hrow (b - (H.size + 1)) (by omega)
          rw [show H.size + 1 + (b - (H.size + 1)) = b by omega] at this
          exact this
        · have hx' : hM h b = some x := by rw [← hx]; simp only [hM, hG, if_neg hb, if_neg hb2]
          obtain ⟨g1, g2⟩ := hRp.2.2 b x hx'
          exact ⟨g1, g2.kept (hold b g2.lt)⟩
    have c1 : hS h - hS h0 + (1 + N) = hS (hG h N K9) - hS h0 := by rw [e0]; omega
    have c2 : hN h - hN h0 + (N + N * K9) = hN (hG h N K9) - hN h0 := by rw [e2]; omega
    have hX9 : hS h - hS h0 + 1 + N = hS h - hS h0 + (1 + N) := by omega
    have hX8 : hN h - hN h0 + N + N * K9 = hN h - hN h0 + (N + N * K9) := by omega
    try rw [hX9, hX8] at X'
    rw [c1, c2] at X'
    obtain ⟨t, a1, b1⟩ := kk.2 ⟨by rw [e0]; omega, by rw [e2]; omega⟩ p l e R s m args below meth c0 F.heap locs ls C0 hRn (zS.new (n := 1 + N) hSv (by rw [f1]; omega) hold) hl F rfl X'
    refine ⟨t, step t ?_, b1⟩
    have e9 : T.heap.size = hS h := by rw [hT]; exact hsz
    rw [e9]
    exact a1
  · cases h2
theorem z_sw_out {x : Int32} {lo : Int} {n : Nat} (hlo : -2147483648 ≤ lo) (hhi : lo + n ≤ 2147483647) (h : ∀ k : Nat, k < n → x ≠ Int32.ofInt (lo + k)) : x.toInt < lo ∨ lo + n - 1 < x.toInt := by
  rcases Int.lt_or_le x.toInt lo with h1 | h1
  · exact Or.inl h1
  · rcases Int.lt_or_le (lo + n - 1) x.toInt with h2 | h2
    · exact Or.inr h2
    · refine absurd ?_ (h (x.toInt - lo).toNat (by omega))
      rw [show lo + ((x.toInt - lo).toNat : Int) = x.toInt by omega]
      exact (Int32.ofInt_toInt x).symm
end ZGRID
end
