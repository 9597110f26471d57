-- ===== PART A: goes FIRST, ahead of the names: the tables' words, and 'selects' of the private methods out of them =====
/-- a private method of a class that the tables say can be made, by its rows of tables_1 -/
def lw_okq (q : MethodName × Nat) : Prop := (q.1.cls ≠ "java/lang/invoke/MethodHandle" ∧ q.1.cls ≠ "java/lang/invoke/VarHandle") ∧ Cond.instantiable q.1.cls q.2 ∈ tables_1 ∧ Cond.privateMethod q.1 ∈ tables_1 ∧ Cond.instanceMethod q.1 ∈ tables_1
theorem lw_p0 : lw_okq (⟨"OxenHome", "isFarm", "(I)Z"⟩, 11) := ⟨⟨by decide +kernel, by decide +kernel⟩, List.mem_of_getElem? (i := 21) (by decide +kernel), List.mem_of_getElem? (i := 425) (by decide +kernel), List.mem_of_getElem? (i := 426) (by decide +kernel)⟩
theorem lw_p1 : lw_okq (⟨"OxenHome", "isFarmOrNone", "(I)Z"⟩, 11) := ⟨⟨by decide +kernel, by decide +kernel⟩, List.mem_of_getElem? (i := 21) (by decide +kernel), List.mem_of_getElem? (i := 429) (by decide +kernel), List.mem_of_getElem? (i := 430) (by decide +kernel)⟩
theorem lw_p2 : lw_okq (⟨"OxenHome", "feedFour", "(I)V"⟩, 11) := ⟨⟨by decide +kernel, by decide +kernel⟩, List.mem_of_getElem? (i := 21) (by decide +kernel), List.mem_of_getElem? (i := 446) (by decide +kernel), List.mem_of_getElem? (i := 447) (by decide +kernel)⟩
theorem lw_p3 : lw_okq (⟨"OxenHome$Reader", "step", "()V"⟩, 12) := ⟨⟨by decide +kernel, by decide +kernel⟩, List.mem_of_getElem? (i := 219) (by decide +kernel), List.mem_of_getElem? (i := 471) (by decide +kernel), List.mem_of_getElem? (i := 472) (by decide +kernel)⟩
theorem lw_p4 : lw_okq (⟨"OxenHome$Reader", "passLetters", "()V"⟩, 12) := ⟨⟨by decide +kernel, by decide +kernel⟩, List.mem_of_getElem? (i := 219) (by decide +kernel), List.mem_of_getElem? (i := 482) (by decide +kernel), List.mem_of_getElem? (i := 483) (by decide +kernel)⟩
theorem lw_p5 : lw_okq (⟨"OxenHome$Reader", "wordAt", "(II)I"⟩, 12) := ⟨⟨by decide +kernel, by decide +kernel⟩, List.mem_of_getElem? (i := 219) (by decide +kernel), List.mem_of_getElem? (i := 486) (by decide +kernel), List.mem_of_getElem? (i := 487) (by decide +kernel)⟩
theorem lw_p6 : lw_okq (⟨"OxenHome$Reader", "takeNumber", "()V"⟩, 12) := ⟨⟨by decide +kernel, by decide +kernel⟩, List.mem_of_getElem? (i := 219) (by decide +kernel), List.mem_of_getElem? (i := 542) (by decide +kernel), List.mem_of_getElem? (i := 543) (by decide +kernel)⟩
theorem lw_p7 : lw_okq (⟨"OxenHome$Reader", "takeSign", "(I)V"⟩, 12) := ⟨⟨by decide +kernel, by decide +kernel⟩, List.mem_of_getElem? (i := 219) (by decide +kernel), List.mem_of_getElem? (i := 549) (by decide +kernel), List.mem_of_getElem? (i := 550) (by decide +kernel)⟩
theorem lw_p8 : lw_okq (⟨"OxenHome$Reader", "readClause", "()V"⟩, 12) := ⟨⟨by decide +kernel, by decide +kernel⟩, List.mem_of_getElem? (i := 219) (by decide +kernel), List.mem_of_getElem? (i := 554) (by decide +kernel), List.mem_of_getElem? (i := 555) (by decide +kernel)⟩
theorem lw_p9 : lw_okq (⟨"OxenHome$Reader", "fail", "(I)V"⟩, 12) := ⟨⟨by decide +kernel, by decide +kernel⟩, List.mem_of_getElem? (i := 219) (by decide +kernel), List.mem_of_getElem? (i := 558) (by decide +kernel), List.mem_of_getElem? (i := 559) (by decide +kernel)⟩
theorem lw_p10 : lw_okq (⟨"OxenHome$Reader", "readRank", "(II)V"⟩, 12) := ⟨⟨by decide +kernel, by decide +kernel⟩, List.mem_of_getElem? (i := 219) (by decide +kernel), List.mem_of_getElem? (i := 567) (by decide +kernel), List.mem_of_getElem? (i := 568) (by decide +kernel)⟩
theorem lw_p11 : lw_okq (⟨"OxenHome$Reader", "readAsk", "(I)V"⟩, 12) := ⟨⟨by decide +kernel, by decide +kernel⟩, List.mem_of_getElem? (i := 219) (by decide +kernel), List.mem_of_getElem? (i := 571) (by decide +kernel), List.mem_of_getElem? (i := 572) (by decide +kernel)⟩
theorem lw_p12 : lw_okq (⟨"OxenHome$Reader", "readOpened", "(II)V"⟩, 12) := ⟨⟨by decide +kernel, by decide +kernel⟩, List.mem_of_getElem? (i := 219) (by decide +kernel), List.mem_of_getElem? (i := 575) (by decide +kernel), List.mem_of_getElem? (i := 576) (by decide +kernel)⟩
theorem lw_p13 : lw_okq (⟨"OxenHome$Reader", "emit", "(I)V"⟩, 12) := ⟨⟨by decide +kernel, by decide +kernel⟩, List.mem_of_getElem? (i := 219) (by decide +kernel), List.mem_of_getElem? (i := 579) (by decide +kernel), List.mem_of_getElem? (i := 580) (by decide +kernel)⟩
theorem lw_p14 : lw_okq (⟨"OxenHome$Reader", "readOne", "(I)V"⟩, 12) := ⟨⟨by decide +kernel, by decide +kernel⟩, List.mem_of_getElem? (i := 219) (by decide +kernel), List.mem_of_getElem? (i := 587) (by decide +kernel), List.mem_of_getElem? (i := 588) (by decide +kernel)⟩
theorem lw_p15 : lw_okq (⟨"OxenHome$Reader", "readNumber", "()V"⟩, 12) := ⟨⟨by decide +kernel, by decide +kernel⟩, List.mem_of_getElem? (i := 219) (by decide +kernel), List.mem_of_getElem? (i := 591) (by decide +kernel), List.mem_of_getElem? (i := 592) (by decide +kernel)⟩
def lw_privs_1 : List (MethodName × Nat) := [(⟨"OxenHome", "isFarm", "(I)Z"⟩, 11), (⟨"OxenHome", "isFarmOrNone", "(I)Z"⟩, 11), (⟨"OxenHome", "feedFour", "(I)V"⟩, 11), (⟨"OxenHome$Reader", "step", "()V"⟩, 12), (⟨"OxenHome$Reader", "passLetters", "()V"⟩, 12), (⟨"OxenHome$Reader", "wordAt", "(II)I"⟩, 12), (⟨"OxenHome$Reader", "takeNumber", "()V"⟩, 12), (⟨"OxenHome$Reader", "takeSign", "(I)V"⟩, 12), (⟨"OxenHome$Reader", "readClause", "()V"⟩, 12), (⟨"OxenHome$Reader", "fail", "(I)V"⟩, 12), (⟨"OxenHome$Reader", "readRank", "(II)V"⟩, 12), (⟨"OxenHome$Reader", "readAsk", "(I)V"⟩, 12), (⟨"OxenHome$Reader", "readOpened", "(II)V"⟩, 12), (⟨"OxenHome$Reader", "emit", "(I)V"⟩, 12), (⟨"OxenHome$Reader", "readOne", "(I)V"⟩, 12), (⟨"OxenHome$Reader", "readNumber", "()V"⟩, 12)]
theorem lw_r1 : ∀ q ∈ lw_privs_1, lw_okq q := List.forall_mem_cons.mpr ⟨lw_p0, List.forall_mem_cons.mpr ⟨lw_p1, List.forall_mem_cons.mpr ⟨lw_p2, List.forall_mem_cons.mpr ⟨lw_p3, List.forall_mem_cons.mpr ⟨lw_p4, List.forall_mem_cons.mpr ⟨lw_p5, List.forall_mem_cons.mpr ⟨lw_p6, List.forall_mem_cons.mpr ⟨lw_p7, List.forall_mem_cons.mpr ⟨lw_p8, List.forall_mem_cons.mpr ⟨lw_p9, List.forall_mem_cons.mpr ⟨lw_p10, List.forall_mem_cons.mpr ⟨lw_p11, List.forall_mem_cons.mpr ⟨lw_p12, List.forall_mem_cons.mpr ⟨lw_p13, List.forall_mem_cons.mpr ⟨lw_p14, List.forall_mem_cons.mpr ⟨lw_p15, fun _ h => absurd h List.not_mem_nil⟩⟩⟩⟩⟩⟩⟩⟩⟩⟩⟩⟩⟩⟩⟩⟩
theorem lw_p16 : lw_okq (⟨"OxenHome$Reader", "readName", "()V"⟩, 12) := ⟨⟨by decide +kernel, by decide +kernel⟩, List.mem_of_getElem? (i := 219) (by decide +kernel), List.mem_of_getElem? (i := 595) (by decide +kernel), List.mem_of_getElem? (i := 596) (by decide +kernel)⟩
theorem lw_p17 : lw_okq (⟨"OxenHome$Reader", "close", "()V"⟩, 12) := ⟨⟨by decide +kernel, by decide +kernel⟩, List.mem_of_getElem? (i := 219) (by decide +kernel), List.mem_of_getElem? (i := 602) (by decide +kernel), List.mem_of_getElem? (i := 603) (by decide +kernel)⟩
theorem lw_p18 : lw_okq (⟨"OxenHome$Reader", "readJoined", "(II)V"⟩, 12) := ⟨⟨by decide +kernel, by decide +kernel⟩, List.mem_of_getElem? (i := 219) (by decide +kernel), List.mem_of_getElem? (i := 606) (by decide +kernel), List.mem_of_getElem? (i := 607) (by decide +kernel)⟩
theorem lw_p19 : lw_okq (⟨"OxenHome", "isPair", "(II)Z"⟩, 11) := ⟨⟨by decide +kernel, by decide +kernel⟩, List.mem_of_getElem? (i := 21) (by decide +kernel), List.mem_of_getElem? (i := 627) (by decide +kernel), List.mem_of_getElem? (i := 628) (by decide +kernel)⟩
theorem lw_p20 : lw_okq (⟨"OxenHome", "isOx", "(I)Z"⟩, 11) := ⟨⟨by decide +kernel, by decide +kernel⟩, List.mem_of_getElem? (i := 21) (by decide +kernel), List.mem_of_getElem? (i := 631) (by decide +kernel), List.mem_of_getElem? (i := 632) (by decide +kernel)⟩
theorem lw_p21 : lw_okq (⟨"OxenHome", "isField", "(I)Z"⟩, 11) := ⟨⟨by decide +kernel, by decide +kernel⟩, List.mem_of_getElem? (i := 21) (by decide +kernel), List.mem_of_getElem? (i := 635) (by decide +kernel), List.mem_of_getElem? (i := 636) (by decide +kernel)⟩
theorem lw_p22 : lw_okq (⟨"OxenHome", "canBeYoked", "(II)Z"⟩, 11) := ⟨⟨by decide +kernel, by decide +kernel⟩, List.mem_of_getElem? (i := 21) (by decide +kernel), List.mem_of_getElem? (i := 639) (by decide +kernel), List.mem_of_getElem? (i := 640) (by decide +kernel)⟩
theorem lw_p23 : lw_okq (⟨"OxenHome", "blow", "(LOxenHome$Herd;II)I"⟩, 11) := ⟨⟨by decide +kernel, by decide +kernel⟩, List.mem_of_getElem? (i := 21) (by decide +kernel), List.mem_of_getElem? (i := 689) (by decide +kernel), List.mem_of_getElem? (i := 690) (by decide +kernel)⟩
theorem lw_p24 : lw_okq (⟨"OxenHome$Laws", "askCall", "(III)V"⟩, 5) := ⟨⟨by decide +kernel, by decide +kernel⟩, List.mem_of_getElem? (i := 175) (by decide +kernel), List.mem_of_getElem? (i := 702) (by decide +kernel), List.mem_of_getElem? (i := 703) (by decide +kernel)⟩
theorem lw_p25 : lw_okq (⟨"OxenHome$Laws", "value", "(II)I"⟩, 5) := ⟨⟨by decide +kernel, by decide +kernel⟩, List.mem_of_getElem? (i := 175) (by decide +kernel), List.mem_of_getElem? (i := 720) (by decide +kernel), List.mem_of_getElem? (i := 721) (by decide +kernel)⟩
theorem lw_p26 : lw_okq (⟨"OxenHome$Stays", "heedsCallAt", "(III)Z"⟩, 3) := ⟨⟨by decide +kernel, by decide +kernel⟩, List.mem_of_getElem? (i := 199) (by decide +kernel), List.mem_of_getElem? (i := 807) (by decide +kernel), List.mem_of_getElem? (i := 808) (by decide +kernel)⟩
theorem lw_p27 : lw_okq (⟨"OxenHome$Planner", "measurePairs", "(I)V"⟩, 7) := ⟨⟨by decide +kernel, by decide +kernel⟩, List.mem_of_getElem? (i := 264) (by decide +kernel), List.mem_of_getElem? (i := 837) (by decide +kernel), List.mem_of_getElem? (i := 838) (by decide +kernel)⟩
theorem lw_p28 : lw_okq (⟨"OxenHome$Planner", "yieldFrom", "(II)I"⟩, 7) := ⟨⟨by decide +kernel, by decide +kernel⟩, List.mem_of_getElem? (i := 264) (by decide +kernel), List.mem_of_getElem? (i := 848) (by decide +kernel), List.mem_of_getElem? (i := 849) (by decide +kernel)⟩
theorem lw_p29 : lw_okq (⟨"OxenHome$Planner", "tryPair", "(IIII)V"⟩, 7) := ⟨⟨by decide +kernel, by decide +kernel⟩, List.mem_of_getElem? (i := 264) (by decide +kernel), List.mem_of_getElem? (i := 853) (by decide +kernel), List.mem_of_getElem? (i := 854) (by decide +kernel)⟩
theorem lw_p30 : lw_okq (⟨"OxenHome$Planner", "follow", "()V"⟩, 7) := ⟨⟨by decide +kernel, by decide +kernel⟩, List.mem_of_getElem? (i := 264) (by decide +kernel), List.mem_of_getElem? (i := 857) (by decide +kernel), List.mem_of_getElem? (i := 858) (by decide +kernel)⟩
theorem lw_p31 : lw_okq (⟨"OxenHome$Odds", "times", "(Z)I"⟩, 4) := ⟨⟨by decide +kernel, by decide +kernel⟩, List.mem_of_getElem? (i := 296) (by decide +kernel), List.mem_of_getElem? (i := 887) (by decide +kernel), List.mem_of_getElem? (i := 888) (by decide +kernel)⟩
def lw_privs_2 : List (MethodName × Nat) := [(⟨"OxenHome$Reader", "readName", "()V"⟩, 12), (⟨"OxenHome$Reader", "close", "()V"⟩, 12), (⟨"OxenHome$Reader", "readJoined", "(II)V"⟩, 12), (⟨"OxenHome", "isPair", "(II)Z"⟩, 11), (⟨"OxenHome", "isOx", "(I)Z"⟩, 11), (⟨"OxenHome", "isField", "(I)Z"⟩, 11), (⟨"OxenHome", "canBeYoked", "(II)Z"⟩, 11), (⟨"OxenHome", "blow", "(LOxenHome$Herd;II)I"⟩, 11), (⟨"OxenHome$Laws", "askCall", "(III)V"⟩, 5), (⟨"OxenHome$Laws", "value", "(II)I"⟩, 5), (⟨"OxenHome$Stays", "heedsCallAt", "(III)Z"⟩, 3), (⟨"OxenHome$Planner", "measurePairs", "(I)V"⟩, 7), (⟨"OxenHome$Planner", "yieldFrom", "(II)I"⟩, 7), (⟨"OxenHome$Planner", "tryPair", "(IIII)V"⟩, 7), (⟨"OxenHome$Planner", "follow", "()V"⟩, 7), (⟨"OxenHome$Odds", "times", "(Z)I"⟩, 4)]
theorem lw_r2 : ∀ q ∈ lw_privs_2, lw_okq q := List.forall_mem_cons.mpr ⟨lw_p16, List.forall_mem_cons.mpr ⟨lw_p17, List.forall_mem_cons.mpr ⟨lw_p18, List.forall_mem_cons.mpr ⟨lw_p19, List.forall_mem_cons.mpr ⟨lw_p20, List.forall_mem_cons.mpr ⟨lw_p21, List.forall_mem_cons.mpr ⟨lw_p22, List.forall_mem_cons.mpr ⟨lw_p23, List.forall_mem_cons.mpr ⟨lw_p24, List.forall_mem_cons.mpr ⟨lw_p25, List.forall_mem_cons.mpr ⟨lw_p26, List.forall_mem_cons.mpr ⟨lw_p27, List.forall_mem_cons.mpr ⟨lw_p28, List.forall_mem_cons.mpr ⟨lw_p29, List.forall_mem_cons.mpr ⟨lw_p30, List.forall_mem_cons.mpr ⟨lw_p31, fun _ h => absurd h List.not_mem_nil⟩⟩⟩⟩⟩⟩⟩⟩⟩⟩⟩⟩⟩⟩⟩⟩
theorem lw_p32 : lw_okq (⟨"OxenHome$Odds", "divisor", "()J"⟩, 4) := ⟨⟨by decide +kernel, by decide +kernel⟩, List.mem_of_getElem? (i := 296) (by decide +kernel), List.mem_of_getElem? (i := 900) (by decide +kernel), List.mem_of_getElem? (i := 901) (by decide +kernel)⟩
theorem lw_p33 : lw_okq (⟨"OxenHome$Pitches", "fitsAll", "(III)Z"⟩, 7) := ⟨⟨by decide +kernel, by decide +kernel⟩, List.mem_of_getElem? (i := 316) (by decide +kernel), List.mem_of_getElem? (i := 916) (by decide +kernel), List.mem_of_getElem? (i := 917) (by decide +kernel)⟩
theorem lw_p34 : lw_okq (⟨"OxenHome$Pitches", "choose", "(II)V"⟩, 7) := ⟨⟨by decide +kernel, by decide +kernel⟩, List.mem_of_getElem? (i := 316) (by decide +kernel), List.mem_of_getElem? (i := 926) (by decide +kernel), List.mem_of_getElem? (i := 927) (by decide +kernel)⟩
theorem lw_p35 : lw_okq (⟨"OxenHome$Pitches", "isFree", "(II)Z"⟩, 7) := ⟨⟨by decide +kernel, by decide +kernel⟩, List.mem_of_getElem? (i := 316) (by decide +kernel), List.mem_of_getElem? (i := 935) (by decide +kernel), List.mem_of_getElem? (i := 936) (by decide +kernel)⟩
theorem lw_p36 : lw_okq (⟨"OxenHome$Pitches", "pick", "(III)V"⟩, 7) := ⟨⟨by decide +kernel, by decide +kernel⟩, List.mem_of_getElem? (i := 316) (by decide +kernel), List.mem_of_getElem? (i := 940) (by decide +kernel), List.mem_of_getElem? (i := 941) (by decide +kernel)⟩
theorem lw_p37 : lw_okq (⟨"OxenHomeModel", "isFarm", "(I)Z"⟩, 33) := ⟨⟨by decide +kernel, by decide +kernel⟩, List.mem_of_getElem? (i := 986) (by decide +kernel), List.mem_of_getElem? (i := 1110) (by decide +kernel), List.mem_of_getElem? (i := 1111) (by decide +kernel)⟩
theorem lw_p38 : lw_okq (⟨"OxenHomeModel", "make", "(III)V"⟩, 33) := ⟨⟨by decide +kernel, by decide +kernel⟩, List.mem_of_getElem? (i := 986) (by decide +kernel), List.mem_of_getElem? (i := 1114) (by decide +kernel), List.mem_of_getElem? (i := 1115) (by decide +kernel)⟩
theorem lw_p39 : lw_okq (⟨"OxenHomeModel", "four", "(I)V"⟩, 33) := ⟨⟨by decide +kernel, by decide +kernel⟩, List.mem_of_getElem? (i := 986) (by decide +kernel), List.mem_of_getElem? (i := 1122) (by decide +kernel), List.mem_of_getElem? (i := 1123) (by decide +kernel)⟩
theorem lw_p40 : lw_okq (⟨"OxenHomeModel", "readText", "()I"⟩, 33) := ⟨⟨by decide +kernel, by decide +kernel⟩, List.mem_of_getElem? (i := 986) (by decide +kernel), List.mem_of_getElem? (i := 1134) (by decide +kernel), List.mem_of_getElem? (i := 1135) (by decide +kernel)⟩
theorem lw_p41 : lw_okq (⟨"OxenHomeModel", "nextToken", "()V"⟩, 33) := ⟨⟨by decide +kernel, by decide +kernel⟩, List.mem_of_getElem? (i := 986) (by decide +kernel), List.mem_of_getElem? (i := 1138) (by decide +kernel), List.mem_of_getElem? (i := 1139) (by decide +kernel)⟩
theorem lw_p42 : lw_okq (⟨"OxenHomeModel", "byteAt", "(I)I"⟩, 33) := ⟨⟨by decide +kernel, by decide +kernel⟩, List.mem_of_getElem? (i := 986) (by decide +kernel), List.mem_of_getElem? (i := 1142) (by decide +kernel), List.mem_of_getElem? (i := 1143) (by decide +kernel)⟩
theorem lw_p43 : lw_okq (⟨"OxenHomeModel", "clause", "()I"⟩, 33) := ⟨⟨by decide +kernel, by decide +kernel⟩, List.mem_of_getElem? (i := 986) (by decide +kernel), List.mem_of_getElem? (i := 1153) (by decide +kernel), List.mem_of_getElem? (i := 1154) (by decide +kernel)⟩
theorem lw_p44 : lw_okq (⟨"OxenHomeModel", "sortOf", "()I"⟩, 33) := ⟨⟨by decide +kernel, by decide +kernel⟩, List.mem_of_getElem? (i := 986) (by decide +kernel), List.mem_of_getElem? (i := 1157) (by decide +kernel), List.mem_of_getElem? (i := 1158) (by decide +kernel)⟩
theorem lw_p45 : lw_okq (⟨"OxenHomeModel", "isWord", "(J)Z"⟩, 33) := ⟨⟨by decide +kernel, by decide +kernel⟩, List.mem_of_getElem? (i := 986) (by decide +kernel), List.mem_of_getElem? (i := 1167) (by decide +kernel), List.mem_of_getElem? (i := 1168) (by decide +kernel)⟩
theorem lw_p46 : lw_okq (⟨"OxenHomeModel", "either", "()I"⟩, 33) := ⟨⟨by decide +kernel, by decide +kernel⟩, List.mem_of_getElem? (i := 986) (by decide +kernel), List.mem_of_getElem? (i := 1177) (by decide +kernel), List.mem_of_getElem? (i := 1178) (by decide +kernel)⟩
theorem lw_p47 : lw_okq (⟨"OxenHomeModel", "asks", "()I"⟩, 33) := ⟨⟨by decide +kernel, by decide +kernel⟩, List.mem_of_getElem? (i := 986) (by decide +kernel), List.mem_of_getElem? (i := 1181) (by decide +kernel), List.mem_of_getElem? (i := 1182) (by decide +kernel)⟩
def lw_privs_3 : List (MethodName × Nat) := [(⟨"OxenHome$Odds", "divisor", "()J"⟩, 4), (⟨"OxenHome$Pitches", "fitsAll", "(III)Z"⟩, 7), (⟨"OxenHome$Pitches", "choose", "(II)V"⟩, 7), (⟨"OxenHome$Pitches", "isFree", "(II)Z"⟩, 7), (⟨"OxenHome$Pitches", "pick", "(III)V"⟩, 7), (⟨"OxenHomeModel", "isFarm", "(I)Z"⟩, 33), (⟨"OxenHomeModel", "make", "(III)V"⟩, 33), (⟨"OxenHomeModel", "four", "(I)V"⟩, 33), (⟨"OxenHomeModel", "readText", "()I"⟩, 33), (⟨"OxenHomeModel", "nextToken", "()V"⟩, 33), (⟨"OxenHomeModel", "byteAt", "(I)I"⟩, 33), (⟨"OxenHomeModel", "clause", "()I"⟩, 33), (⟨"OxenHomeModel", "sortOf", "()I"⟩, 33), (⟨"OxenHomeModel", "isWord", "(J)Z"⟩, 33), (⟨"OxenHomeModel", "either", "()I"⟩, 33), (⟨"OxenHomeModel", "asks", "()I"⟩, 33)]
theorem lw_r3 : ∀ q ∈ lw_privs_3, lw_okq q := List.forall_mem_cons.mpr ⟨lw_p32, List.forall_mem_cons.mpr ⟨lw_p33, List.forall_mem_cons.mpr ⟨lw_p34, List.forall_mem_cons.mpr ⟨lw_p35, List.forall_mem_cons.mpr ⟨lw_p36, List.forall_mem_cons.mpr ⟨lw_p37, List.forall_mem_cons.mpr ⟨lw_p38, List.forall_mem_cons.mpr ⟨lw_p39, List.forall_mem_cons.mpr ⟨lw_p40, List.forall_mem_cons.mpr ⟨lw_p41, List.forall_mem_cons.mpr ⟨lw_p42, List.forall_mem_cons.mpr ⟨lw_p43, List.forall_mem_cons.mpr ⟨lw_p44, List.forall_mem_cons.mpr ⟨lw_p45, List.forall_mem_cons.mpr ⟨lw_p46, List.forall_mem_cons.mpr ⟨lw_p47, fun _ h => absurd h List.not_mem_nil⟩⟩⟩⟩⟩⟩⟩⟩⟩⟩⟩⟩⟩⟩⟩⟩
theorem lw_p48 : lw_okq (⟨"OxenHomeModel", "summed", "()I"⟩, 33) := ⟨⟨by decide +kernel, by decide +kernel⟩, List.mem_of_getElem? (i := 986) (by decide +kernel), List.mem_of_getElem? (i := 1185) (by decide +kernel), List.mem_of_getElem? (i := 1186) (by decide +kernel)⟩
theorem lw_p49 : lw_okq (⟨"OxenHomeModel", "goesOn", "()Z"⟩, 33) := ⟨⟨by decide +kernel, by decide +kernel⟩, List.mem_of_getElem? (i := 986) (by decide +kernel), List.mem_of_getElem? (i := 1189) (by decide +kernel), List.mem_of_getElem? (i := 1190) (by decide +kernel)⟩
theorem lw_p50 : lw_okq (⟨"OxenHomeModel", "hasParen", "()Z"⟩, 33) := ⟨⟨by decide +kernel, by decide +kernel⟩, List.mem_of_getElem? (i := 986) (by decide +kernel), List.mem_of_getElem? (i := 1193) (by decide +kernel), List.mem_of_getElem? (i := 1194) (by decide +kernel)⟩
theorem lw_p51 : lw_okq (⟨"OxenHomeModel", "behindOne", "()I"⟩, 33) := ⟨⟨by decide +kernel, by decide +kernel⟩, List.mem_of_getElem? (i := 986) (by decide +kernel), List.mem_of_getElem? (i := 1197) (by decide +kernel), List.mem_of_getElem? (i := 1198) (by decide +kernel)⟩
theorem lw_p52 : lw_okq (⟨"OxenHomeModel", "settle", "(I)V"⟩, 33) := ⟨⟨by decide +kernel, by decide +kernel⟩, List.mem_of_getElem? (i := 986) (by decide +kernel), List.mem_of_getElem? (i := 1201) (by decide +kernel), List.mem_of_getElem? (i := 1202) (by decide +kernel)⟩
theorem lw_p53 : lw_okq (⟨"OxenHomeModel", "emit", "(II)V"⟩, 33) := ⟨⟨by decide +kernel, by decide +kernel⟩, List.mem_of_getElem? (i := 986) (by decide +kernel), List.mem_of_getElem? (i := 1205) (by decide +kernel), List.mem_of_getElem? (i := 1206) (by decide +kernel)⟩
theorem lw_p54 : lw_okq (⟨"OxenHomeModel", "push", "(I)V"⟩, 33) := ⟨⟨by decide +kernel, by decide +kernel⟩, List.mem_of_getElem? (i := 986) (by decide +kernel), List.mem_of_getElem? (i := 1209) (by decide +kernel), List.mem_of_getElem? (i := 1210) (by decide +kernel)⟩
theorem lw_p55 : lw_okq (⟨"OxenHomeModel", "whole", "()V"⟩, 33) := ⟨⟨by decide +kernel, by decide +kernel⟩, List.mem_of_getElem? (i := 986) (by decide +kernel), List.mem_of_getElem? (i := 1213) (by decide +kernel), List.mem_of_getElem? (i := 1214) (by decide +kernel)⟩
theorem lw_p56 : lw_okq (⟨"OxenHomeModel", "beginOne", "()I"⟩, 33) := ⟨⟨by decide +kernel, by decide +kernel⟩, List.mem_of_getElem? (i := 986) (by decide +kernel), List.mem_of_getElem? (i := 1217) (by decide +kernel), List.mem_of_getElem? (i := 1218) (by decide +kernel)⟩
theorem lw_p57 : lw_okq (⟨"OxenHomeModel", "nameOf", "()I"⟩, 33) := ⟨⟨by decide +kernel, by decide +kernel⟩, List.mem_of_getElem? (i := 986) (by decide +kernel), List.mem_of_getElem? (i := 1221) (by decide +kernel), List.mem_of_getElem? (i := 1222) (by decide +kernel)⟩
theorem lw_p58 : lw_okq (⟨"OxenHomeModel", "isStrength", "()Z"⟩, 33) := ⟨⟨by decide +kernel, by decide +kernel⟩, List.mem_of_getElem? (i := 986) (by decide +kernel), List.mem_of_getElem? (i := 1226) (by decide +kernel), List.mem_of_getElem? (i := 1227) (by decide +kernel)⟩
theorem lw_p59 : lw_okq (⟨"OxenHomeModel", "isBarred", "(I)Z"⟩, 33) := ⟨⟨by decide +kernel, by decide +kernel⟩, List.mem_of_getElem? (i := 986) (by decide +kernel), List.mem_of_getElem? (i := 1230) (by decide +kernel), List.mem_of_getElem? (i := 1231) (by decide +kernel)⟩
theorem lw_p60 : lw_okq (⟨"OxenHomeModel", "compareOf", "()I"⟩, 33) := ⟨⟨by decide +kernel, by decide +kernel⟩, List.mem_of_getElem? (i := 986) (by decide +kernel), List.mem_of_getElem? (i := 1234) (by decide +kernel), List.mem_of_getElem? (i := 1235) (by decide +kernel)⟩
theorem lw_p61 : lw_okq (⟨"OxenHomeModel", "isOx", "(I)Z"⟩, 33) := ⟨⟨by decide +kernel, by decide +kernel⟩, List.mem_of_getElem? (i := 986) (by decide +kernel), List.mem_of_getElem? (i := 1251) (by decide +kernel), List.mem_of_getElem? (i := 1252) (by decide +kernel)⟩
theorem lw_p62 : lw_okq (⟨"OxenHomeModel", "isField", "(I)Z"⟩, 33) := ⟨⟨by decide +kernel, by decide +kernel⟩, List.mem_of_getElem? (i := 986) (by decide +kernel), List.mem_of_getElem? (i := 1255) (by decide +kernel), List.mem_of_getElem? (i := 1256) (by decide +kernel)⟩
theorem lw_p63 : lw_okq (⟨"OxenHomeModel", "name", "(IIIIII)V"⟩, 33) := ⟨⟨by decide +kernel, by decide +kernel⟩, List.mem_of_getElem? (i := 986) (by decide +kernel), List.mem_of_getElem? (i := 1259) (by decide +kernel), List.mem_of_getElem? (i := 1260) (by decide +kernel)⟩
def lw_privs_4 : List (MethodName × Nat) := [(⟨"OxenHomeModel", "summed", "()I"⟩, 33), (⟨"OxenHomeModel", "goesOn", "()Z"⟩, 33), (⟨"OxenHomeModel", "hasParen", "()Z"⟩, 33), (⟨"OxenHomeModel", "behindOne", "()I"⟩, 33), (⟨"OxenHomeModel", "settle", "(I)V"⟩, 33), (⟨"OxenHomeModel", "emit", "(II)V"⟩, 33), (⟨"OxenHomeModel", "push", "(I)V"⟩, 33), (⟨"OxenHomeModel", "whole", "()V"⟩, 33), (⟨"OxenHomeModel", "beginOne", "()I"⟩, 33), (⟨"OxenHomeModel", "nameOf", "()I"⟩, 33), (⟨"OxenHomeModel", "isStrength", "()Z"⟩, 33), (⟨"OxenHomeModel", "isBarred", "(I)Z"⟩, 33), (⟨"OxenHomeModel", "compareOf", "()I"⟩, 33), (⟨"OxenHomeModel", "isOx", "(I)Z"⟩, 33), (⟨"OxenHomeModel", "isField", "(I)Z"⟩, 33), (⟨"OxenHomeModel", "name", "(IIIIII)V"⟩, 33)]
theorem lw_r4 : ∀ q ∈ lw_privs_4, lw_okq q := List.forall_mem_cons.mpr ⟨lw_p48, List.forall_mem_cons.mpr ⟨lw_p49, List.forall_mem_cons.mpr ⟨lw_p50, List.forall_mem_cons.mpr ⟨lw_p51, List.forall_mem_cons.mpr ⟨lw_p52, List.forall_mem_cons.mpr ⟨lw_p53, List.forall_mem_cons.mpr ⟨lw_p54, List.forall_mem_cons.mpr ⟨lw_p55, List.forall_mem_cons.mpr ⟨lw_p56, List.forall_mem_cons.mpr ⟨lw_p57, List.forall_mem_cons.mpr ⟨lw_p58, List.forall_mem_cons.mpr ⟨lw_p59, List.forall_mem_cons.mpr ⟨lw_p60, List.forall_mem_cons.mpr ⟨lw_p61, List.forall_mem_cons.mpr ⟨lw_p62, List.forall_mem_cons.mpr ⟨lw_p63, fun _ h => absurd h List.not_mem_nil⟩⟩⟩⟩⟩⟩⟩⟩⟩⟩⟩⟩⟩⟩⟩⟩
theorem lw_p64 : lw_okq (⟨"OxenHomeModel", "told", "(II)I"⟩, 33) := ⟨⟨by decide +kernel, by decide +kernel⟩, List.mem_of_getElem? (i := 986) (by decide +kernel), List.mem_of_getElem? (i := 1263) (by decide +kernel), List.mem_of_getElem? (i := 1264) (by decide +kernel)⟩
theorem lw_p65 : lw_okq (⟨"OxenHomeModel", "far", "(II)I"⟩, 33) := ⟨⟨by decide +kernel, by decide +kernel⟩, List.mem_of_getElem? (i := 986) (by decide +kernel), List.mem_of_getElem? (i := 1267) (by decide +kernel), List.mem_of_getElem? (i := 1268) (by decide +kernel)⟩
theorem lw_p66 : lw_okq (⟨"OxenHomeModel", "isHeeded", "()Z"⟩, 33) := ⟨⟨by decide +kernel, by decide +kernel⟩, List.mem_of_getElem? (i := 986) (by decide +kernel), List.mem_of_getElem? (i := 1274) (by decide +kernel), List.mem_of_getElem? (i := 1275) (by decide +kernel)⟩
theorem lw_p67 : lw_okq (⟨"OxenHomeModel", "clauseOf", "(I)I"⟩, 33) := ⟨⟨by decide +kernel, by decide +kernel⟩, List.mem_of_getElem? (i := 986) (by decide +kernel), List.mem_of_getElem? (i := 1278) (by decide +kernel), List.mem_of_getElem? (i := 1279) (by decide +kernel)⟩
theorem lw_p68 : lw_okq (⟨"OxenHomeModel", "work", "(I)V"⟩, 33) := ⟨⟨by decide +kernel, by decide +kernel⟩, List.mem_of_getElem? (i := 986) (by decide +kernel), List.mem_of_getElem? (i := 1282) (by decide +kernel), List.mem_of_getElem? (i := 1283) (by decide +kernel)⟩
theorem lw_p69 : lw_okq (⟨"OxenHomeModel", "canCome", "(II)Z"⟩, 33) := ⟨⟨by decide +kernel, by decide +kernel⟩, List.mem_of_getElem? (i := 986) (by decide +kernel), List.mem_of_getElem? (i := 1305) (by decide +kernel), List.mem_of_getElem? (i := 1306) (by decide +kernel)⟩
theorem lw_p70 : lw_okq (⟨"OxenHomeModel", "keep", "()V"⟩, 33) := ⟨⟨by decide +kernel, by decide +kernel⟩, List.mem_of_getElem? (i := 986) (by decide +kernel), List.mem_of_getElem? (i := 1309) (by decide +kernel), List.mem_of_getElem? (i := 1310) (by decide +kernel)⟩
theorem lw_p71 : lw_okq (⟨"OxenHomeModel", "part", "(I)V"⟩, 33) := ⟨⟨by decide +kernel, by decide +kernel⟩, List.mem_of_getElem? (i := 986) (by decide +kernel), List.mem_of_getElem? (i := 1317) (by decide +kernel), List.mem_of_getElem? (i := 1318) (by decide +kernel)⟩
theorem lw_p72 : lw_okq (⟨"OxenHomeModel", "pitchOf", "(I)I"⟩, 33) := ⟨⟨by decide +kernel, by decide +kernel⟩, List.mem_of_getElem? (i := 986) (by decide +kernel), List.mem_of_getElem? (i := 1333) (by decide +kernel), List.mem_of_getElem? (i := 1334) (by decide +kernel)⟩
theorem lw_p73 : lw_okq (⟨"OxenHomeModel", "goal", "()I"⟩, 33) := ⟨⟨by decide +kernel, by decide +kernel⟩, List.mem_of_getElem? (i := 986) (by decide +kernel), List.mem_of_getElem? (i := 1337) (by decide +kernel), List.mem_of_getElem? (i := 1338) (by decide +kernel)⟩
theorem lw_p74 : lw_okq (⟨"OxenHomeModel", "workOf", "(IIII)I"⟩, 33) := ⟨⟨by decide +kernel, by decide +kernel⟩, List.mem_of_getElem? (i := 986) (by decide +kernel), List.mem_of_getElem? (i := 1345) (by decide +kernel), List.mem_of_getElem? (i := 1346) (by decide +kernel)⟩
theorem lw_p75 : lw_okq (⟨"OxenHomeModel", "doneOf", "(IIII)I"⟩, 33) := ⟨⟨by decide +kernel, by decide +kernel⟩, List.mem_of_getElem? (i := 986) (by decide +kernel), List.mem_of_getElem? (i := 1372) (by decide +kernel), List.mem_of_getElem? (i := 1373) (by decide +kernel)⟩
theorem lw_p76 : lw_okq (⟨"OxenHomeModel", "stayOf", "(IIII)I"⟩, 33) := ⟨⟨by decide +kernel, by decide +kernel⟩, List.mem_of_getElem? (i := 986) (by decide +kernel), List.mem_of_getElem? (i := 1376) (by decide +kernel), List.mem_of_getElem? (i := 1377) (by decide +kernel)⟩
theorem lw_p77 : lw_okq (⟨"OxenHomeModel", "isCalled", "(III)Z"⟩, 33) := ⟨⟨by decide +kernel, by decide +kernel⟩, List.mem_of_getElem? (i := 986) (by decide +kernel), List.mem_of_getElem? (i := 1380) (by decide +kernel), List.mem_of_getElem? (i := 1381) (by decide +kernel)⟩
theorem lw_p78 : lw_okq (⟨"OxenHomeModel", "isPair", "(II)Z"⟩, 33) := ⟨⟨by decide +kernel, by decide +kernel⟩, List.mem_of_getElem? (i := 986) (by decide +kernel), List.mem_of_getElem? (i := 1388) (by decide +kernel), List.mem_of_getElem? (i := 1389) (by decide +kernel)⟩
theorem lw_p79 : lw_okq (⟨"OxenHomeModel", "by", "(III)I"⟩, 33) := ⟨⟨by decide +kernel, by decide +kernel⟩, List.mem_of_getElem? (i := 986) (by decide +kernel), List.mem_of_getElem? (i := 1395) (by decide +kernel), List.mem_of_getElem? (i := 1396) (by decide +kernel)⟩
def lw_privs_5 : List (MethodName × Nat) := [(⟨"OxenHomeModel", "told", "(II)I"⟩, 33), (⟨"OxenHomeModel", "far", "(II)I"⟩, 33), (⟨"OxenHomeModel", "isHeeded", "()Z"⟩, 33), (⟨"OxenHomeModel", "clauseOf", "(I)I"⟩, 33), (⟨"OxenHomeModel", "work", "(I)V"⟩, 33), (⟨"OxenHomeModel", "canCome", "(II)Z"⟩, 33), (⟨"OxenHomeModel", "keep", "()V"⟩, 33), (⟨"OxenHomeModel", "part", "(I)V"⟩, 33), (⟨"OxenHomeModel", "pitchOf", "(I)I"⟩, 33), (⟨"OxenHomeModel", "goal", "()I"⟩, 33), (⟨"OxenHomeModel", "workOf", "(IIII)I"⟩, 33), (⟨"OxenHomeModel", "doneOf", "(IIII)I"⟩, 33), (⟨"OxenHomeModel", "stayOf", "(IIII)I"⟩, 33), (⟨"OxenHomeModel", "isCalled", "(III)Z"⟩, 33), (⟨"OxenHomeModel", "isPair", "(II)Z"⟩, 33), (⟨"OxenHomeModel", "by", "(III)I"⟩, 33)]
theorem lw_r5 : ∀ q ∈ lw_privs_5, lw_okq q := List.forall_mem_cons.mpr ⟨lw_p64, List.forall_mem_cons.mpr ⟨lw_p65, List.forall_mem_cons.mpr ⟨lw_p66, List.forall_mem_cons.mpr ⟨lw_p67, List.forall_mem_cons.mpr ⟨lw_p68, List.forall_mem_cons.mpr ⟨lw_p69, List.forall_mem_cons.mpr ⟨lw_p70, List.forall_mem_cons.mpr ⟨lw_p71, List.forall_mem_cons.mpr ⟨lw_p72, List.forall_mem_cons.mpr ⟨lw_p73, List.forall_mem_cons.mpr ⟨lw_p74, List.forall_mem_cons.mpr ⟨lw_p75, List.forall_mem_cons.mpr ⟨lw_p76, List.forall_mem_cons.mpr ⟨lw_p77, List.forall_mem_cons.mpr ⟨lw_p78, List.forall_mem_cons.mpr ⟨lw_p79, fun _ h => absurd h List.not_mem_nil⟩⟩⟩⟩⟩⟩⟩⟩⟩⟩⟩⟩⟩⟩⟩⟩
theorem lw_p80 : lw_okq (⟨"OxenHomeModel", "weightOf", "(IIIIII)J"⟩, 33) := ⟨⟨by decide +kernel, by decide +kernel⟩, List.mem_of_getElem? (i := 986) (by decide +kernel), List.mem_of_getElem? (i := 1408) (by decide +kernel), List.mem_of_getElem? (i := 1409) (by decide +kernel)⟩
theorem lw_p81 : lw_okq (⟨"OxenHomeModel", "callsOf", "(III)I"⟩, 33) := ⟨⟨by decide +kernel, by decide +kernel⟩, List.mem_of_getElem? (i := 986) (by decide +kernel), List.mem_of_getElem? (i := 1412) (by decide +kernel), List.mem_of_getElem? (i := 1413) (by decide +kernel)⟩
theorem lw_p82 : lw_okq (⟨"OxenHomeModel", "slip", "()I"⟩, 33) := ⟨⟨by decide +kernel, by decide +kernel⟩, List.mem_of_getElem? (i := 986) (by decide +kernel), List.mem_of_getElem? (i := 1416) (by decide +kernel), List.mem_of_getElem? (i := 1417) (by decide +kernel)⟩
theorem lw_p83 : lw_okq (⟨"OxenHomeModel", "set", "(II)I"⟩, 33) := ⟨⟨by decide +kernel, by decide +kernel⟩, List.mem_of_getElem? (i := 986) (by decide +kernel), List.mem_of_getElem? (i := 1427) (by decide +kernel), List.mem_of_getElem? (i := 1428) (by decide +kernel)⟩
theorem lw_p84 : lw_okq (⟨"OxenHomeModel", "mayBe", "(III)Z"⟩, 33) := ⟨⟨by decide +kernel, by decide +kernel⟩, List.mem_of_getElem? (i := 986) (by decide +kernel), List.mem_of_getElem? (i := 1431) (by decide +kernel), List.mem_of_getElem? (i := 1432) (by decide +kernel)⟩
theorem lw_p85 : lw_okq (⟨"OxenHomeModel", "changed", "(I)I"⟩, 33) := ⟨⟨by decide +kernel, by decide +kernel⟩, List.mem_of_getElem? (i := 986) (by decide +kernel), List.mem_of_getElem? (i := 1435) (by decide +kernel), List.mem_of_getElem? (i := 1436) (by decide +kernel)⟩
theorem lw_p86 : lw_okq (⟨"OxenHomeModel", "isApart", "(II)Z"⟩, 33) := ⟨⟨by decide +kernel, by decide +kernel⟩, List.mem_of_getElem? (i := 986) (by decide +kernel), List.mem_of_getElem? (i := 1439) (by decide +kernel), List.mem_of_getElem? (i := 1440) (by decide +kernel)⟩
theorem lw_p87 : lw_okq (⟨"OxenHomeModel", "strike", "(I)I"⟩, 33) := ⟨⟨by decide +kernel, by decide +kernel⟩, List.mem_of_getElem? (i := 986) (by decide +kernel), List.mem_of_getElem? (i := 1447) (by decide +kernel), List.mem_of_getElem? (i := 1448) (by decide +kernel)⟩
def lw_privs_6 : List (MethodName × Nat) := [(⟨"OxenHomeModel", "weightOf", "(IIIIII)J"⟩, 33), (⟨"OxenHomeModel", "callsOf", "(III)I"⟩, 33), (⟨"OxenHomeModel", "slip", "()I"⟩, 33), (⟨"OxenHomeModel", "set", "(II)I"⟩, 33), (⟨"OxenHomeModel", "mayBe", "(III)Z"⟩, 33), (⟨"OxenHomeModel", "changed", "(I)I"⟩, 33), (⟨"OxenHomeModel", "isApart", "(II)Z"⟩, 33), (⟨"OxenHomeModel", "strike", "(I)I"⟩, 33)]
theorem lw_r6 : ∀ q ∈ lw_privs_6, lw_okq q := List.forall_mem_cons.mpr ⟨lw_p80, List.forall_mem_cons.mpr ⟨lw_p81, List.forall_mem_cons.mpr ⟨lw_p82, List.forall_mem_cons.mpr ⟨lw_p83, List.forall_mem_cons.mpr ⟨lw_p84, List.forall_mem_cons.mpr ⟨lw_p85, List.forall_mem_cons.mpr ⟨lw_p86, List.forall_mem_cons.mpr ⟨lw_p87, fun _ h => absurd h List.not_mem_nil⟩⟩⟩⟩⟩⟩⟩⟩
def lw_privs : List (MethodName × Nat) := lw_privs_1 ++ (lw_privs_2 ++ (lw_privs_3 ++ (lw_privs_4 ++ (lw_privs_5 ++ (lw_privs_6)))))
def lw_tbl : List Cond := k2_sels lw_privs ++ tables_1
theorem lw_privs_ok : ∀ q ∈ lw_privs, lw_okq q := by
  show ∀ q ∈ lw_privs_1 ++ (lw_privs_2 ++ (lw_privs_3 ++ (lw_privs_4 ++ (lw_privs_5 ++ (lw_privs_6))))), lw_okq q
  exact List.forall_mem_append.mpr ⟨lw_r1, List.forall_mem_append.mpr ⟨lw_r2, List.forall_mem_append.mpr ⟨lw_r3, List.forall_mem_append.mpr ⟨lw_r4, List.forall_mem_append.mpr ⟨lw_r5, lw_r6⟩⟩⟩⟩⟩
-- names: made by program out of the claim's own names (as the guide bids)
def RX0 : String := "OxenHome$Herd"
def TX0 : u_T := fun k => match k with
  | _ => ("OxenHome$Herd", "cells", "LOxenHome$Row;", true)
def tyX0 : Nat → FieldType := fun k => match k with
  | _ => .object "OxenHome$Row"
abbrev wsX00 : List Cond := u_ws RX0 TX0 1
theorem nmX0 : ∀ a, a < 1 → ∀ b, b < 1 → a ≠ b → (TX0 a).2.1 ≠ (TX0 b).2.1 := by decide +kernel
theorem tyX0_ok : ∀ k, k < 1 → parseFieldDescriptor (TX0 k).2.2.1 = some (tyX0 k) := by decide +kernel
abbrev cX0_init : ByteArray := prog_2_method_1_code
def yX0_init : MethodName := ⟨RX0, "<init>", "()V"⟩
abbrev cX0_hour : ByteArray := prog_2_method_2_code
def yX0_hour : MethodName := ⟨RX0, "hour", "()I"⟩
abbrev cX0_setHour : ByteArray := prog_2_method_3_code
def yX0_setHour : MethodName := ⟨RX0, "setHour", "(I)V"⟩
abbrev cX0_fields : ByteArray := prog_2_method_4_code
def yX0_fields : MethodName := ⟨RX0, "fields", "()I"⟩
abbrev cX0_oxen : ByteArray := prog_2_method_5_code
def yX0_oxen : MethodName := ⟨RX0, "oxen", "()I"⟩
abbrev cX0_furrows : ByteArray := prog_2_method_6_code
def yX0_furrows : MethodName := ⟨RX0, "furrows", "(I)I"⟩
abbrev cX0_setFurrows : ByteArray := prog_2_method_7_code
def yX0_setFurrows : MethodName := ⟨RX0, "setFurrows", "(II)V"⟩
abbrev cX0_get : ByteArray := prog_2_method_8_code
def yX0_get : MethodName := ⟨RX0, "get", "(II)I"⟩
abbrev cX0_put : ByteArray := prog_2_method_9_code
def yX0_put : MethodName := ⟨RX0, "put", "(III)V"⟩
abbrev cX0_addField : ByteArray := prog_2_method_10_code
def yX0_addField : MethodName := ⟨RX0, "addField", "(I)V"⟩
abbrev cX0_addOx : ByteArray := prog_2_method_11_code
def yX0_addOx : MethodName := ⟨RX0, "addOx", "(IIII)V"⟩
abbrev cX0_unyoke : ByteArray := prog_2_method_12_code
def yX0_unyoke : MethodName := ⟨RX0, "unyoke", "(I)V"⟩
abbrev cX0_sleepAtOwner : ByteArray := prog_2_method_13_code
def yX0_sleepAtOwner : MethodName := ⟨RX0, "sleepAtOwner", "(I)Z"⟩
abbrev cX0_copyFrom : ByteArray := prog_2_method_14_code
def yX0_copyFrom : MethodName := ⟨RX0, "copyFrom", "(LOxenHome$Herd;)V"⟩
abbrev cX0_writeTo : ByteArray := prog_2_method_15_code
def yX0_writeTo : MethodName := ⟨RX0, "writeTo", "(LOxenHome$Row;I)V"⟩
abbrev cX0_readBack : ByteArray := prog_2_method_16_code
def yX0_readBack : MethodName := ⟨RX0, "readBack", "(LOxenHome$Row;I)V"⟩
def RX1 : String := "OxenHome$Laws"
def TX1 : u_T := fun k => match k with
  | 0 => ("OxenHome$Laws", "yard", "LOxenHome$Yard;", true)
  | 1 => ("OxenHome$Laws", "texts", "LOxenHome$Texts;", true)
  | 2 => ("OxenHome$Laws", "names", "LOxenHome$Row;", true)
  | 3 => ("OxenHome$Laws", "stack", "LOxenHome$Row;", true)
  | _ => ("OxenHome$Laws", "asked", "I", false)
def tyX1 : Nat → FieldType := fun k => match k with
  | 0 => .object "OxenHome$Yard"
  | 1 => .object "OxenHome$Texts"
  | 2 => .object "OxenHome$Row"
  | 3 => .object "OxenHome$Row"
  | _ => .int
abbrev wsX10 : List Cond := u_ws RX1 TX1 5
theorem nmX1 : ∀ a, a < 5 → ∀ b, b < 5 → a ≠ b → (TX1 a).2.1 ≠ (TX1 b).2.1 := by decide +kernel
theorem tyX1_ok : ∀ k, k < 5 → parseFieldDescriptor (TX1 k).2.2.1 = some (tyX1 k) := by decide +kernel
abbrev cX1_init : ByteArray := prog_3_method_1_code
def yX1_init : MethodName := ⟨RX1, "<init>", "(LOxenHome$Yard;LOxenHome$Texts;)V"⟩
abbrev cX1_ask : ByteArray := prog_3_method_2_code
def yX1_ask : MethodName := ⟨RX1, "ask", "(IIIIZI)V"⟩
abbrev cX1_askCall : ByteArray := prog_3_method_3_code
def yX1_askCall : MethodName := ⟨RX1, "askCall", "(III)V"⟩
abbrev cX1_heeded : ByteArray := prog_3_method_4_code
def yX1_heeded : MethodName := ⟨RX1, "heeded", "()Z"⟩
abbrev cX1_toSecond : ByteArray := prog_3_method_5_code
def yX1_toSecond : MethodName := ⟨RX1, "toSecond", "()Z"⟩
abbrev cX1_slip : ByteArray := prog_3_method_6_code
def yX1_slip : MethodName := ⟨RX1, "slip", "()I"⟩
abbrev cX1_weight : ByteArray := prog_3_method_7_code
def yX1_weight : MethodName := ⟨RX1, "weight", "(III)I"⟩
abbrev cX1_work : ByteArray := prog_3_method_8_code
def yX1_work : MethodName := ⟨RX1, "work", "(IIII)I"⟩
abbrev cX1_value : ByteArray := prog_3_method_9_code
def yX1_value : MethodName := ⟨RX1, "value", "(II)I"⟩
abbrev cX1_joined : ByteArray := prog_3_method_10_code
def yX1_joined : MethodName := ⟨RX1, "joined", "(IJJ)J"⟩
abbrev cX1_between : ByteArray := prog_3_method_11_code
def yX1_between : MethodName := ⟨RX1, "between", "(JII)I"⟩
def RX2 : String := "OxenHome$Odds"
def TX2 : u_T := fun k => match k with
  | 0 => ("OxenHome$Odds", "yard", "LOxenHome$Yard;", true)
  | 1 => ("OxenHome$Odds", "laws", "LOxenHome$Laws;", true)
  | 2 => ("OxenHome$Odds", "own", "J", false)
  | _ => ("OxenHome$Odds", "all", "J", false)
def tyX2 : Nat → FieldType := fun k => match k with
  | 0 => .object "OxenHome$Yard"
  | 1 => .object "OxenHome$Laws"
  | 2 => .long
  | _ => .long
abbrev wsX20 : List Cond := u_ws RX2 TX2 4
theorem nmX2 : ∀ a, a < 4 → ∀ b, b < 4 → a ≠ b → (TX2 a).2.1 ≠ (TX2 b).2.1 := by decide +kernel
theorem tyX2_ok : ∀ k, k < 4 → parseFieldDescriptor (TX2 k).2.2.1 = some (tyX2 k) := by decide +kernel
abbrev cX2_init : ByteArray := prog_4_method_1_code
def yX2_init : MethodName := ⟨RX2, "<init>", "(LOxenHome$Yard;LOxenHome$Laws;)V"⟩
abbrev cX2_weighAll : ByteArray := prog_4_method_2_code
def yX2_weighAll : MethodName := ⟨RX2, "weighAll", "(IIIII)V"⟩
abbrev cX2_times : ByteArray := prog_4_method_3_code
def yX2_times : MethodName := ⟨RX2, "times", "(Z)I"⟩
abbrev cX2_lowestUpper : ByteArray := prog_4_method_4_code
def yX2_lowestUpper : MethodName := ⟨RX2, "lowestUpper", "()J"⟩
abbrev cX2_lowestLower : ByteArray := prog_4_method_5_code
def yX2_lowestLower : MethodName := ⟨RX2, "lowestLower", "()J"⟩
abbrev cX2_divisor : ByteArray := prog_4_method_6_code
def yX2_divisor : MethodName := ⟨RX2, "divisor", "()J"⟩
def RX3 : String := "OxenHome$Pitches"
def TX3 : u_T := fun k => match k with
  | 0 => ("OxenHome$Pitches", "yard", "LOxenHome$Yard;", true)
  | 1 => ("OxenHome$Pitches", "laws", "LOxenHome$Laws;", true)
  | 2 => ("OxenHome$Pitches", "fits", "LOxenHome$Row;", true)
  | 3 => ("OxenHome$Pitches", "picked", "LOxenHome$Row;", true)
  | 4 => ("OxenHome$Pitches", "best", "LOxenHome$Row;", true)
  | 5 => ("OxenHome$Pitches", "distance", "I", false)
  | _ => ("OxenHome$Pitches", "least", "I", false)
def tyX3 : Nat → FieldType := fun k => match k with
  | 0 => .object "OxenHome$Yard"
  | 1 => .object "OxenHome$Laws"
  | 2 => .object "OxenHome$Row"
  | 3 => .object "OxenHome$Row"
  | 4 => .object "OxenHome$Row"
  | 5 => .int
  | _ => .int
abbrev wsX30 : List Cond := u_ws RX3 TX3 7
theorem nmX3 : ∀ a, a < 7 → ∀ b, b < 7 → a ≠ b → (TX3 a).2.1 ≠ (TX3 b).2.1 := by decide +kernel
theorem tyX3_ok : ∀ k, k < 7 → parseFieldDescriptor (TX3 k).2.2.1 = some (tyX3 k) := by decide +kernel
abbrev cX3_init : ByteArray := prog_5_method_1_code
def yX3_init : MethodName := ⟨RX3, "<init>", "(LOxenHome$Yard;LOxenHome$Laws;)V"⟩
abbrev cX3_search : ByteArray := prog_5_method_2_code
def yX3_search : MethodName := ⟨RX3, "search", "(II)V"⟩
abbrev cX3_fitsAll : ByteArray := prog_5_method_3_code
def yX3_fitsAll : MethodName := ⟨RX3, "fitsAll", "(III)Z"⟩
abbrev cX3_choose : ByteArray := prog_5_method_4_code
def yX3_choose : MethodName := ⟨RX3, "choose", "(II)V"⟩
abbrev cX3_pick : ByteArray := prog_5_method_5_code
def yX3_pick : MethodName := ⟨RX3, "pick", "(III)V"⟩
abbrev cX3_isFree : ByteArray := prog_5_method_6_code
def yX3_isFree : MethodName := ⟨RX3, "isFree", "(II)Z"⟩
def RX4 : String := "OxenHome$Planner"
def TX4 : u_T := fun k => match k with
  | 0 => ("OxenHome$Planner", "yard", "LOxenHome$Yard;", true)
  | 1 => ("OxenHome$Planner", "stays", "LOxenHome$Stays;", true)
  | 2 => ("OxenHome$Planner", "done", "LOxenHome$Row;", true)
  | 3 => ("OxenHome$Planner", "yields", "LOxenHome$Row;", true)
  | 4 => ("OxenHome$Planner", "picked", "LOxenHome$Row;", true)
  | 5 => ("OxenHome$Planner", "best", "LOxenHome$Row;", true)
  | _ => ("OxenHome$Planner", "most", "I", false)
def tyX4 : Nat → FieldType := fun k => match k with
  | 0 => .object "OxenHome$Yard"
  | 1 => .object "OxenHome$Stays"
  | 2 => .object "OxenHome$Row"
  | 3 => .object "OxenHome$Row"
  | 4 => .object "OxenHome$Row"
  | 5 => .object "OxenHome$Row"
  | _ => .int
abbrev wsX40 : List Cond := u_ws RX4 TX4 7
theorem nmX4 : ∀ a, a < 7 → ∀ b, b < 7 → a ≠ b → (TX4 a).2.1 ≠ (TX4 b).2.1 := by decide +kernel
theorem tyX4_ok : ∀ k, k < 7 → parseFieldDescriptor (TX4 k).2.2.1 = some (tyX4 k) := by decide +kernel
abbrev cX4_init : ByteArray := prog_6_method_1_code
def yX4_init : MethodName := ⟨RX4, "<init>", "(LOxenHome$Yard;LOxenHome$Stays;)V"⟩
abbrev cX4_search : ByteArray := prog_6_method_2_code
def yX4_search : MethodName := ⟨RX4, "search", "(I)V"⟩
abbrev cX4_measurePairs : ByteArray := prog_6_method_3_code
def yX4_measurePairs : MethodName := ⟨RX4, "measurePairs", "(I)V"⟩
abbrev cX4_yieldFrom : ByteArray := prog_6_method_4_code
def yX4_yieldFrom : MethodName := ⟨RX4, "yieldFrom", "(II)I"⟩
abbrev cX4_tryPair : ByteArray := prog_6_method_5_code
def yX4_tryPair : MethodName := ⟨RX4, "tryPair", "(IIII)V"⟩
abbrev cX4_follow : ByteArray := prog_6_method_6_code
def yX4_follow : MethodName := ⟨RX4, "follow", "()V"⟩
def RX5 : String := "OxenHome$Reader"
def TX5 : u_T := fun k => match k with
  | 0 => ("OxenHome$Reader", "tape", "LOxenHome$Row;", true)
  | 1 => ("OxenHome$Reader", "texts", "LOxenHome$Texts;", true)
  | 2 => ("OxenHome$Reader", "fault", "I", false)
  | 3 => ("OxenHome$Reader", "faultPlace", "I", false)
  | 4 => ("OxenHome$Reader", "length", "I", false)
  | 5 => ("OxenHome$Reader", "slot", "I", false)
  | 6 => ("OxenHome$Reader", "clause", "I", false)
  | 7 => ("OxenHome$Reader", "codeCount", "I", false)
  | 8 => ("OxenHome$Reader", "place", "I", false)
  | 9 => ("OxenHome$Reader", "ahead", "I", false)
  | 10 => ("OxenHome$Reader", "token", "I", false)
  | _ => ("OxenHome$Reader", "number", "I", false)
def tyX5 : Nat → FieldType := fun k => match k with
  | 0 => .object "OxenHome$Row"
  | 1 => .object "OxenHome$Texts"
  | 2 => .int
  | 3 => .int
  | 4 => .int
  | 5 => .int
  | 6 => .int
  | 7 => .int
  | 8 => .int
  | 9 => .int
  | 10 => .int
  | _ => .int
abbrev wsX50 : List Cond := u_ws RX5 TX5 12
theorem nmX5 : ∀ a, a < 12 → ∀ b, b < 12 → a ≠ b → (TX5 a).2.1 ≠ (TX5 b).2.1 := by decide +kernel
theorem tyX5_ok : ∀ k, k < 12 → parseFieldDescriptor (TX5 k).2.2.1 = some (tyX5 k) := by decide +kernel
abbrev cX5_init : ByteArray := prog_7_method_1_code
def yX5_init : MethodName := ⟨RX5, "<init>", "(LOxenHome$Row;LOxenHome$Texts;)V"⟩
abbrev cX5_read : ByteArray := prog_7_method_2_code
def yX5_read : MethodName := ⟨RX5, "read", "(II)Z"⟩
abbrev cX5_fail : ByteArray := prog_7_method_3_code
def yX5_fail : MethodName := ⟨RX5, "fail", "(I)V"⟩
abbrev cX5_emit : ByteArray := prog_7_method_4_code
def yX5_emit : MethodName := ⟨RX5, "emit", "(I)V"⟩
abbrev cX5_readClause : ByteArray := prog_7_method_5_code
def yX5_readClause : MethodName := ⟨RX5, "readClause", "()V"⟩
abbrev cX5_readRank : ByteArray := prog_7_method_6_code
def yX5_readRank : MethodName := ⟨RX5, "readRank", "(II)V"⟩
abbrev cX5_readJoined : ByteArray := prog_7_method_7_code
def yX5_readJoined : MethodName := ⟨RX5, "readJoined", "(II)V"⟩
abbrev cX5_readAsk : ByteArray := prog_7_method_8_code
def yX5_readAsk : MethodName := ⟨RX5, "readAsk", "(I)V"⟩
abbrev cX5_readOne : ByteArray := prog_7_method_9_code
def yX5_readOne : MethodName := ⟨RX5, "readOne", "(I)V"⟩
abbrev cX5_readOpened : ByteArray := prog_7_method_10_code
def yX5_readOpened : MethodName := ⟨RX5, "readOpened", "(II)V"⟩
abbrev cX5_close : ByteArray := prog_7_method_11_code
def yX5_close : MethodName := ⟨RX5, "close", "()V"⟩
abbrev cX5_readNumber : ByteArray := prog_7_method_12_code
def yX5_readNumber : MethodName := ⟨RX5, "readNumber", "()V"⟩
abbrev cX5_readName : ByteArray := prog_7_method_13_code
def yX5_readName : MethodName := ⟨RX5, "readName", "()V"⟩
abbrev cX5_joins : ByteArray := prog_7_method_14_code
def yX5_joins : MethodName := ⟨RX5, "joins", "(II)Z"⟩
abbrev cX5_isComparison : ByteArray := prog_7_method_15_code
def yX5_isComparison : MethodName := ⟨RX5, "isComparison", "(I)Z"⟩
abbrev cX5_isNameOf : ByteArray := prog_7_method_16_code
def yX5_isNameOf : MethodName := ⟨RX5, "isNameOf", "(II)Z"⟩
abbrev cX5_step : ByteArray := prog_7_method_17_code
def yX5_step : MethodName := ⟨RX5, "step", "()V"⟩
abbrev cX5_passLetters : ByteArray := prog_7_method_18_code
def yX5_passLetters : MethodName := ⟨RX5, "passLetters", "()V"⟩
abbrev cX5_wordAt : ByteArray := prog_7_method_19_code
def yX5_wordAt : MethodName := ⟨RX5, "wordAt", "(II)I"⟩
abbrev cX5_takeNumber : ByteArray := prog_7_method_20_code
def yX5_takeNumber : MethodName := ⟨RX5, "takeNumber", "()V"⟩
abbrev cX5_takeSign : ByteArray := prog_7_method_21_code
def yX5_takeSign : MethodName := ⟨RX5, "takeSign", "(I)V"⟩
abbrev cX5_isBlank : ByteArray := prog_7_method_22_code
def yX5_isBlank : MethodName := ⟨RX5, "isBlank", "(I)Z"⟩
abbrev cX5_isLetter : ByteArray := prog_7_method_23_code
def yX5_isLetter : MethodName := ⟨RX5, "isLetter", "(I)Z"⟩
abbrev cX5_isFigure : ByteArray := prog_7_method_24_code
def yX5_isFigure : MethodName := ⟨RX5, "isFigure", "(I)Z"⟩
def RX6 : String := "OxenHome$Row"
def TX6 : u_T := fun k => match k with
  | _ => ("OxenHome$Row", "cells", "[I", true)
def tyX6 : Nat → FieldType := fun k => match k with
  | _ => .array .int
abbrev wsX60 : List Cond := u_ws RX6 TX6 1
theorem nmX6 : ∀ a, a < 1 → ∀ b, b < 1 → a ≠ b → (TX6 a).2.1 ≠ (TX6 b).2.1 := by decide +kernel
theorem tyX6_ok : ∀ k, k < 1 → parseFieldDescriptor (TX6 k).2.2.1 = some (tyX6 k) := by decide +kernel
abbrev cX6_init : ByteArray := prog_8_method_1_code
def yX6_init : MethodName := ⟨RX6, "<init>", "(I)V"⟩
abbrev cX6_get : ByteArray := prog_8_method_2_code
def yX6_get : MethodName := ⟨RX6, "get", "(I)I"⟩
abbrev cX6_put : ByteArray := prog_8_method_3_code
def yX6_put : MethodName := ⟨RX6, "put", "(II)V"⟩
abbrev cX6_copyFrom : ByteArray := prog_8_method_4_code
def yX6_copyFrom : MethodName := ⟨RX6, "copyFrom", "(LOxenHome$Row;)V"⟩
abbrev cX6_copyPart : ByteArray := prog_8_method_5_code
def yX6_copyPart : MethodName := ⟨RX6, "copyPart", "(ILOxenHome$Row;II)V"⟩
def RX7 : String := "OxenHome$Stays"
def TX7 : u_T := fun k => match k with
  | 0 => ("OxenHome$Stays", "yard", "LOxenHome$Yard;", true)
  | 1 => ("OxenHome$Stays", "laws", "LOxenHome$Laws;", true)
  | _ => ("OxenHome$Stays", "till", "LOxenHome$Row;", true)
def tyX7 : Nat → FieldType := fun k => match k with
  | 0 => .object "OxenHome$Yard"
  | 1 => .object "OxenHome$Laws"
  | _ => .object "OxenHome$Row"
abbrev wsX70 : List Cond := u_ws RX7 TX7 3
theorem nmX7 : ∀ a, a < 3 → ∀ b, b < 3 → a ≠ b → (TX7 a).2.1 ≠ (TX7 b).2.1 := by decide +kernel
theorem tyX7_ok : ∀ k, k < 3 → parseFieldDescriptor (TX7 k).2.2.1 = some (tyX7 k) := by decide +kernel
abbrev cX7_init : ByteArray := prog_9_method_1_code
def yX7_init : MethodName := ⟨RX7, "<init>", "(LOxenHome$Yard;LOxenHome$Laws;)V"⟩
abbrev cX7_hoursTill : ByteArray := prog_9_method_2_code
def yX7_hoursTill : MethodName := ⟨RX7, "hoursTill", "(III)I"⟩
abbrev cX7_heedsCallAt : ByteArray := prog_9_method_3_code
def yX7_heedsCallAt : MethodName := ⟨RX7, "heedsCallAt", "(III)Z"⟩
abbrev cX7_doneIn : ByteArray := prog_9_method_4_code
def yX7_doneIn : MethodName := ⟨RX7, "doneIn", "(IIII)I"⟩
abbrev cX7_measure : ByteArray := prog_9_method_5_code
def yX7_measure : MethodName := ⟨RX7, "measure", "(II)V"⟩
abbrev cX7_measured : ByteArray := prog_9_method_6_code
def yX7_measured : MethodName := ⟨RX7, "measured", "(II)I"⟩
abbrev cX7_longestPair : ByteArray := prog_9_method_7_code
def yX7_longestPair : MethodName := ⟨RX7, "longestPair", "(II)I"⟩
def RX8 : String := "OxenHome$Steps"
def TX8 : u_T := fun k => match k with
  | 0 => ("OxenHome$Steps", "past", "LOxenHome$Row;", true)
  | 1 => ("OxenHome$Steps", "next", "I", false)
  | _ => ("OxenHome$Steps", "count", "I", false)
def tyX8 : Nat → FieldType := fun k => match k with
  | 0 => .object "OxenHome$Row"
  | 1 => .int
  | _ => .int
abbrev wsX80 : List Cond := u_ws RX8 TX8 3
theorem nmX8 : ∀ a, a < 3 → ∀ b, b < 3 → a ≠ b → (TX8 a).2.1 ≠ (TX8 b).2.1 := by decide +kernel
theorem tyX8_ok : ∀ k, k < 3 → parseFieldDescriptor (TX8 k).2.2.1 = some (tyX8 k) := by decide +kernel
abbrev cX8_init : ByteArray := prog_10_method_1_code
def yX8_init : MethodName := ⟨RX8, "<init>", "()V"⟩
abbrev cX8_count : ByteArray := prog_10_method_2_code
def yX8_count : MethodName := ⟨RX8, "count", "()I"⟩
abbrev cX8_keep : ByteArray := prog_10_method_3_code
def yX8_keep : MethodName := ⟨RX8, "keep", "(LOxenHome$Herd;)V"⟩
abbrev cX8_takeBack : ByteArray := prog_10_method_4_code
def yX8_takeBack : MethodName := ⟨RX8, "takeBack", "(LOxenHome$Herd;)I"⟩
abbrev cX8_copyFrom : ByteArray := prog_10_method_5_code
def yX8_copyFrom : MethodName := ⟨RX8, "copyFrom", "(LOxenHome$Steps;)V"⟩
def RX9 : String := "OxenHome$Texts"
def TX9 : u_T := fun k => match k with
  | 0 => ("OxenHome$Texts", "codes", "LOxenHome$Row;", true)
  | 1 => ("OxenHome$Texts", "first", "LOxenHome$Row;", true)
  | _ => ("OxenHome$Texts", "last", "LOxenHome$Row;", true)
def tyX9 : Nat → FieldType := fun k => match k with
  | 0 => .object "OxenHome$Row"
  | 1 => .object "OxenHome$Row"
  | _ => .object "OxenHome$Row"
abbrev wsX90 : List Cond := u_ws RX9 TX9 3
theorem nmX9 : ∀ a, a < 3 → ∀ b, b < 3 → a ≠ b → (TX9 a).2.1 ≠ (TX9 b).2.1 := by decide +kernel
theorem tyX9_ok : ∀ k, k < 3 → parseFieldDescriptor (TX9 k).2.2.1 = some (tyX9 k) := by decide +kernel
abbrev cX9_init : ByteArray := prog_11_method_1_code
def yX9_init : MethodName := ⟨RX9, "<init>", "()V"⟩
abbrev cX9_clear : ByteArray := prog_11_method_2_code
def yX9_clear : MethodName := ⟨RX9, "clear", "(I)V"⟩
abbrev cX9_setClause : ByteArray := prog_11_method_3_code
def yX9_setClause : MethodName := ⟨RX9, "setClause", "(IIII)V"⟩
abbrev cX9_has : ByteArray := prog_11_method_4_code
def yX9_has : MethodName := ⟨RX9, "has", "(II)Z"⟩
def RX10 : String := "OxenHome$Yard"
def TX10 : u_T := fun k => match k with
  | 0 => ("OxenHome$Yard", "farms", "I", false)
  | 1 => ("OxenHome$Yard", "farmX", "LOxenHome$Row;", true)
  | 2 => ("OxenHome$Yard", "farmY", "LOxenHome$Row;", true)
  | 3 => ("OxenHome$Yard", "pitch", "LOxenHome$Row;", true)
  | 4 => ("OxenHome$Yard", "fieldX", "LOxenHome$Row;", true)
  | 5 => ("OxenHome$Yard", "fieldY", "LOxenHome$Row;", true)
  | 6 => ("OxenHome$Yard", "soil", "LOxenHome$Row;", true)
  | 7 => ("OxenHome$Yard", "herd", "LOxenHome$Herd;", true)
  | 8 => ("OxenHome$Yard", "steps", "LOxenHome$Steps;", true)
  | 9 => ("OxenHome$Yard", "calls", "I", false)
  | 10 => ("OxenHome$Yard", "callHour", "LOxenHome$Row;", true)
  | 11 => ("OxenHome$Yard", "callFarm", "LOxenHome$Row;", true)
  | 12 => ("OxenHome$Yard", "texts", "I", false)
  | _ => ("OxenHome$Yard", "ruling", "I", false)
def tyX10 : Nat → FieldType := fun k => match k with
  | 0 => .int
  | 1 => .object "OxenHome$Row"
  | 2 => .object "OxenHome$Row"
  | 3 => .object "OxenHome$Row"
  | 4 => .object "OxenHome$Row"
  | 5 => .object "OxenHome$Row"
  | 6 => .object "OxenHome$Row"
  | 7 => .object "OxenHome$Herd"
  | 8 => .object "OxenHome$Steps"
  | 9 => .int
  | 10 => .object "OxenHome$Row"
  | 11 => .object "OxenHome$Row"
  | 12 => .int
  | _ => .int
abbrev wsX100 : List Cond := u_ws RX10 TX10 14
theorem nmX10 : ∀ a, a < 14 → ∀ b, b < 14 → a ≠ b → (TX10 a).2.1 ≠ (TX10 b).2.1 := by decide +kernel
theorem tyX10_ok : ∀ k, k < 14 → parseFieldDescriptor (TX10 k).2.2.1 = some (tyX10 k) := by decide +kernel
abbrev cX10_init : ByteArray := prog_12_method_1_code
def yX10_init : MethodName := ⟨RX10, "<init>", "()V"⟩
abbrev cX10_keepStep : ByteArray := prog_12_method_2_code
def yX10_keepStep : MethodName := ⟨RX10, "keepStep", "()V"⟩
abbrev cX10_copyFrom : ByteArray := prog_12_method_3_code
def yX10_copyFrom : MethodName := ⟨RX10, "copyFrom", "(LOxenHome$Yard;)V"⟩
abbrev cX10_far : ByteArray := prog_12_method_4_code
def yX10_far : MethodName := ⟨RX10, "far", "(II)I"⟩
def RX11 : String := "OxenHome"
def TX11 : u_T := fun k => match k with
  | 0 => ("OxenHome", "tape", "LOxenHome$Row;", true)
  | 1 => ("OxenHome", "bytes", "I", false)
  | 2 => ("OxenHome", "now", "LOxenHome$Yard;", true)
  | 3 => ("OxenHome", "kept", "LOxenHome$Yard;", true)
  | 4 => ("OxenHome", "tried", "LOxenHome$Herd;", true)
  | 5 => ("OxenHome", "reader", "LOxenHome$Reader;", true)
  | 6 => ("OxenHome", "laws", "LOxenHome$Laws;", true)
  | 7 => ("OxenHome", "stays", "LOxenHome$Stays;", true)
  | 8 => ("OxenHome", "planner", "LOxenHome$Planner;", true)
  | 9 => ("OxenHome", "odds", "LOxenHome$Odds;", true)
  | _ => ("OxenHome", "pitches", "LOxenHome$Pitches;", true)
def tyX11 : Nat → FieldType := fun k => match k with
  | 0 => .object "OxenHome$Row"
  | 1 => .int
  | 2 => .object "OxenHome$Yard"
  | 3 => .object "OxenHome$Yard"
  | 4 => .object "OxenHome$Herd"
  | 5 => .object "OxenHome$Reader"
  | 6 => .object "OxenHome$Laws"
  | 7 => .object "OxenHome$Stays"
  | 8 => .object "OxenHome$Planner"
  | 9 => .object "OxenHome$Odds"
  | _ => .object "OxenHome$Pitches"
abbrev wsX110 : List Cond := u_ws RX11 TX11 11
theorem nmX11 : ∀ a, a < 11 → ∀ b, b < 11 → a ≠ b → (TX11 a).2.1 ≠ (TX11 b).2.1 := by decide +kernel
theorem tyX11_ok : ∀ k, k < 11 → parseFieldDescriptor (TX11 k).2.2.1 = some (tyX11 k) := by decide +kernel
abbrev cX11_init : ByteArray := prog_1_method_1_code
def yX11_init : MethodName := ⟨RX11, "<init>", "()V"⟩
abbrev cX11_farm : ByteArray := prog_1_method_2_code
def yX11_farm : MethodName := ⟨RX11, "farm", "(III)I"⟩
abbrev cX11_field : ByteArray := prog_1_method_3_code
def yX11_field : MethodName := ⟨RX11, "field", "(IIII)I"⟩
abbrev cX11_ox : ByteArray := prog_1_method_4_code
def yX11_ox : MethodName := ⟨RX11, "ox", "(IIII)I"⟩
abbrev cX11_feed : ByteArray := prog_1_method_5_code
def yX11_feed : MethodName := ⟨RX11, "feed", "(IIIII)I"⟩
abbrev cX11_feedFour : ByteArray := prog_1_method_6_code
def yX11_feedFour : MethodName := ⟨RX11, "feedFour", "(I)V"⟩
abbrev cX11_end : ByteArray := prog_1_method_7_code
def yX11_end : MethodName := ⟨RX11, "end", "(I)I"⟩
abbrev cX11_text : ByteArray := prog_1_method_8_code
def yX11_text : MethodName := ⟨RX11, "text", "()I"⟩
abbrev cX11_fault : ByteArray := prog_1_method_9_code
def yX11_fault : MethodName := ⟨RX11, "fault", "(I)I"⟩
abbrev cX11_by : ByteArray := prog_1_method_10_code
def yX11_by : MethodName := ⟨RX11, "by", "(I)Z"⟩
abbrev cX11_yoke : ByteArray := prog_1_method_11_code
def yX11_yoke : MethodName := ⟨RX11, "yoke", "(III)Z"⟩
abbrev cX11_canBeYoked : ByteArray := prog_1_method_12_code
def yX11_canBeYoked : MethodName := ⟨RX11, "canBeYoked", "(II)Z"⟩
abbrev cX11_loose : ByteArray := prog_1_method_13_code
def yX11_loose : MethodName := ⟨RX11, "loose", "(I)Z"⟩
abbrev cX11_drive : ByteArray := prog_1_method_14_code
def yX11_drive : MethodName := ⟨RX11, "drive", "(II)Z"⟩
abbrev cX11_sell : ByteArray := prog_1_method_15_code
def yX11_sell : MethodName := ⟨RX11, "sell", "(II)Z"⟩
abbrev cX11_whistle : ByteArray := prog_1_method_16_code
def yX11_whistle : MethodName := ⟨RX11, "whistle", "(I)I"⟩
abbrev cX11_blow : ByteArray := prog_1_method_17_code
def yX11_blow : MethodName := ⟨RX11, "blow", "(LOxenHome$Herd;II)I"⟩
abbrev cX11_plough : ByteArray := prog_1_method_18_code
def yX11_plough : MethodName := ⟨RX11, "plough", "()I"⟩
abbrev cX11_night : ByteArray := prog_1_method_19_code
def yX11_night : MethodName := ⟨RX11, "night", "()I"⟩
abbrev cX11_undo : ByteArray := prog_1_method_20_code
def yX11_undo : MethodName := ⟨RX11, "undo", "()I"⟩
abbrev cX11_of : ByteArray := prog_1_method_21_code
def yX11_of : MethodName := ⟨RX11, "of", "(II)I"⟩
abbrev cX11_heeds : ByteArray := prog_1_method_22_code
def yX11_heeds : MethodName := ⟨RX11, "heeds", "(IIIIZ)Z"⟩
abbrev cX11_call : ByteArray := prog_1_method_23_code
def yX11_call : MethodName := ⟨RX11, "call", "(II)I"⟩
abbrev cX11_hush : ByteArray := prog_1_method_24_code
def yX11_hush : MethodName := ⟨RX11, "hush", "()I"⟩
abbrev cX11_stay : ByteArray := prog_1_method_25_code
def yX11_stay : MethodName := ⟨RX11, "stay", "(IIIIZ)I"⟩
abbrev cX11_plan : ByteArray := prog_1_method_26_code
def yX11_plan : MethodName := ⟨RX11, "plan", "(II)I"⟩
abbrev cX11_longest : ByteArray := prog_1_method_27_code
def yX11_longest : MethodName := ⟨RX11, "longest", "(II)I"⟩
abbrev cX11_dark : ByteArray := prog_1_method_28_code
def yX11_dark : MethodName := ⟨RX11, "dark", "(IIIIII)J"⟩
abbrev cX11_apart : ByteArray := prog_1_method_29_code
def yX11_apart : MethodName := ⟨RX11, "apart", "(III)I"⟩
abbrev cX11_thunder : ByteArray := prog_1_method_30_code
def yX11_thunder : MethodName := ⟨RX11, "thunder", "(II)I"⟩
abbrev cX11_image : ByteArray := prog_1_method_31_code
def yX11_image : MethodName := ⟨RX11, "image", "()I"⟩
abbrev cX11_back : ByteArray := prog_1_method_32_code
def yX11_back : MethodName := ⟨RX11, "back", "()I"⟩
abbrev cX11_about : ByteArray := prog_1_method_33_code
def yX11_about : MethodName := ⟨RX11, "about", "(I)I"⟩
abbrev cX11_within : ByteArray := prog_1_method_34_code
def yX11_within : MethodName := ⟨RX11, "within", "(III)Z"⟩
abbrev cX11_isIn : ByteArray := prog_1_method_35_code
def yX11_isIn : MethodName := ⟨RX11, "isIn", "(II)Z"⟩
abbrev cX11_isPlace : ByteArray := prog_1_method_36_code
def yX11_isPlace : MethodName := ⟨RX11, "isPlace", "(II)Z"⟩
abbrev cX11_isDigit : ByteArray := prog_1_method_37_code
def yX11_isDigit : MethodName := ⟨RX11, "isDigit", "(I)Z"⟩
abbrev cX11_isHour : ByteArray := prog_1_method_38_code
def yX11_isHour : MethodName := ⟨RX11, "isHour", "(I)Z"⟩
abbrev cX11_isFarm : ByteArray := prog_1_method_39_code
def yX11_isFarm : MethodName := ⟨RX11, "isFarm", "(I)Z"⟩
abbrev cX11_isFarmOrNone : ByteArray := prog_1_method_40_code
def yX11_isFarmOrNone : MethodName := ⟨RX11, "isFarmOrNone", "(I)Z"⟩
abbrev cX11_isField : ByteArray := prog_1_method_41_code
def yX11_isField : MethodName := ⟨RX11, "isField", "(I)Z"⟩
abbrev cX11_isOx : ByteArray := prog_1_method_42_code
def yX11_isOx : MethodName := ⟨RX11, "isOx", "(I)Z"⟩
abbrev cX11_isPair : ByteArray := prog_1_method_43_code
def yX11_isPair : MethodName := ⟨RX11, "isPair", "(II)Z"⟩
def RX12 : String := "OxenHomeModel"
def TX12 : u_T := fun k => match k with
  | 0 => ("OxenHomeModel", "a", "[I", true)
  | 1 => ("OxenHomeModel", "image", "[I", true)
  | 2 => ("OxenHomeModel", "texts", "[I", true)
  | 3 => ("OxenHomeModel", "tape", "[I", true)
  | 4 => ("OxenHomeModel", "taped", "I", false)
  | 5 => ("OxenHomeModel", "fault", "I", false)
  | 6 => ("OxenHomeModel", "faultPlace", "I", false)
  | 7 => ("OxenHomeModel", "at", "I", false)
  | 8 => ("OxenHomeModel", "place", "I", false)
  | 9 => ("OxenHomeModel", "token", "I", false)
  | 10 => ("OxenHomeModel", "number", "I", false)
  | 11 => ("OxenHomeModel", "word", "J", false)
  | 12 => ("OxenHomeModel", "text0", "I", false)
  | 13 => ("OxenHomeModel", "clauses", "I", false)
  | 14 => ("OxenHomeModel", "written", "I", false)
  | 15 => ("OxenHomeModel", "came", "I", false)
  | 16 => ("OxenHomeModel", "pile", "[I", true)
  | 17 => ("OxenHomeModel", "piled", "I", false)
  | 18 => ("OxenHomeModel", "opens", "I", false)
  | 19 => ("OxenHomeModel", "isWhole", "Z", false)
  | 20 => ("OxenHomeModel", "sort0", "I", false)
  | 21 => ("OxenHomeModel", "once", "I", false)
  | 22 => ("OxenHomeModel", "named", "[I", true)
  | 23 => ("OxenHomeModel", "values", "[J", true)
  | 24 => ("OxenHomeModel", "truth", "[Z", true)
  | 25 => ("OxenHomeModel", "goals", "[I", true)
  | 26 => ("OxenHomeModel", "dones", "[I", true)
  | 27 => ("OxenHomeModel", "most", "[I", true)
  | 28 => ("OxenHomeModel", "may", "[Z", true)
  | 29 => ("OxenHomeModel", "tried", "[I", true)
  | 30 => ("OxenHomeModel", "best", "[I", true)
  | 31 => ("OxenHomeModel", "places", "[I", true)
  | _ => ("OxenHomeModel", "mates", "[I", true)
def tyX12 : Nat → FieldType := fun k => match k with
  | 0 => .array .int
  | 1 => .array .int
  | 2 => .array .int
  | 3 => .array .int
  | 4 => .int
  | 5 => .int
  | 6 => .int
  | 7 => .int
  | 8 => .int
  | 9 => .int
  | 10 => .int
  | 11 => .long
  | 12 => .int
  | 13 => .int
  | 14 => .int
  | 15 => .int
  | 16 => .array .int
  | 17 => .int
  | 18 => .int
  | 19 => .boolean
  | 20 => .int
  | 21 => .int
  | 22 => .array .int
  | 23 => .array .long
  | 24 => .array .boolean
  | 25 => .array .int
  | 26 => .array .int
  | 27 => .array .int
  | 28 => .array .boolean
  | 29 => .array .int
  | 30 => .array .int
  | 31 => .array .int
  | _ => .array .int
abbrev wsX120 : List Cond := u_ws RX12 TX12 33
theorem nmX12 : ∀ a, a < 33 → ∀ b, b < 33 → a ≠ b → (TX12 a).2.1 ≠ (TX12 b).2.1 := by decide +kernel
theorem tyX12_ok : ∀ k, k < 33 → parseFieldDescriptor (TX12 k).2.2.1 = some (tyX12 k) := by decide +kernel
abbrev cX12_init : ByteArray := prog_14_method_1_code
def yX12_init : MethodName := ⟨RX12, "<init>", "()V"⟩
abbrev cX12_copy : ByteArray := prog_14_method_2_code
def yX12_copy : MethodName := ⟨RX12, "copy", "([I[I)V"⟩
abbrev cX12_isIn : ByteArray := prog_14_method_3_code
def yX12_isIn : MethodName := ⟨RX12, "isIn", "(III)Z"⟩
abbrev cX12_held : ByteArray := prog_14_method_4_code
def yX12_held : MethodName := ⟨RX12, "held", "(JII)I"⟩
abbrev cX12_has : ByteArray := prog_14_method_5_code
def yX12_has : MethodName := ⟨RX12, "has", "(II)Z"⟩
abbrev cX12_isFarm : ByteArray := prog_14_method_6_code
def yX12_isFarm : MethodName := ⟨RX12, "isFarm", "(I)Z"⟩
abbrev cX12_isField : ByteArray := prog_14_method_7_code
def yX12_isField : MethodName := ⟨RX12, "isField", "(I)Z"⟩
abbrev cX12_isOx : ByteArray := prog_14_method_8_code
def yX12_isOx : MethodName := ⟨RX12, "isOx", "(I)Z"⟩
abbrev cX12_told : ByteArray := prog_14_method_9_code
def yX12_told : MethodName := ⟨RX12, "told", "(II)I"⟩
abbrev cX12_make : ByteArray := prog_14_method_10_code
def yX12_make : MethodName := ⟨RX12, "make", "(III)V"⟩
abbrev cX12_gap : ByteArray := prog_14_method_11_code
def yX12_gap : MethodName := ⟨RX12, "gap", "(II)I"⟩
abbrev cX12_pitchOf : ByteArray := prog_14_method_12_code
def yX12_pitchOf : MethodName := ⟨RX12, "pitchOf", "(I)I"⟩
abbrev cX12_far : ByteArray := prog_14_method_13_code
def yX12_far : MethodName := ⟨RX12, "far", "(II)I"⟩
abbrev cX12_farm : ByteArray := prog_14_method_14_code
def yX12_farm : MethodName := ⟨RX12, "farm", "(III)I"⟩
abbrev cX12_field : ByteArray := prog_14_method_15_code
def yX12_field : MethodName := ⟨RX12, "field", "(IIII)I"⟩
abbrev cX12_ox : ByteArray := prog_14_method_16_code
def yX12_ox : MethodName := ⟨RX12, "ox", "(IIII)I"⟩
abbrev cX12_four : ByteArray := prog_14_method_17_code
def yX12_four : MethodName := ⟨RX12, "four", "(I)V"⟩
abbrev cX12_feed : ByteArray := prog_14_method_18_code
def yX12_feed : MethodName := ⟨RX12, "feed", "(IIIII)I"⟩
abbrev cX12_end : ByteArray := prog_14_method_19_code
def yX12_end : MethodName := ⟨RX12, "end", "(I)I"⟩
abbrev cX12_byteAt : ByteArray := prog_14_method_20_code
def yX12_byteAt : MethodName := ⟨RX12, "byteAt", "(I)I"⟩
abbrev cX12_isLetter : ByteArray := prog_14_method_21_code
def yX12_isLetter : MethodName := ⟨RX12, "isLetter", "(I)Z"⟩
abbrev cX12_isDigit : ByteArray := prog_14_method_22_code
def yX12_isDigit : MethodName := ⟨RX12, "isDigit", "(I)Z"⟩
abbrev cX12_nextToken : ByteArray := prog_14_method_23_code
def yX12_nextToken : MethodName := ⟨RX12, "nextToken", "()V"⟩
abbrev cX12_w3 : ByteArray := prog_14_method_24_code
def yX12_w3 : MethodName := ⟨RX12, "w3", "(III)J"⟩
abbrev cX12_w5 : ByteArray := prog_14_method_25_code
def yX12_w5 : MethodName := ⟨RX12, "w5", "(IIIII)J"⟩
abbrev cX12_w4 : ByteArray := prog_14_method_26_code
def yX12_w4 : MethodName := ⟨RX12, "w4", "(IIII)J"⟩
abbrev cX12_w6 : ByteArray := prog_14_method_27_code
def yX12_w6 : MethodName := ⟨RX12, "w6", "(IIIIII)J"⟩
abbrev cX12_isWord : ByteArray := prog_14_method_28_code
def yX12_isWord : MethodName := ⟨RX12, "isWord", "(J)Z"⟩
abbrev cX12_emit : ByteArray := prog_14_method_29_code
def yX12_emit : MethodName := ⟨RX12, "emit", "(II)V"⟩
abbrev cX12_push : ByteArray := prog_14_method_30_code
def yX12_push : MethodName := ⟨RX12, "push", "(I)V"⟩
abbrev cX12_whole : ByteArray := prog_14_method_31_code
def yX12_whole : MethodName := ⟨RX12, "whole", "()V"⟩
abbrev cX12_settle : ByteArray := prog_14_method_32_code
def yX12_settle : MethodName := ⟨RX12, "settle", "(I)V"⟩
abbrev cX12_isStrength : ByteArray := prog_14_method_33_code
def yX12_isStrength : MethodName := ⟨RX12, "isStrength", "()Z"⟩
abbrev cX12_nameOf : ByteArray := prog_14_method_34_code
def yX12_nameOf : MethodName := ⟨RX12, "nameOf", "()I"⟩
abbrev cX12_isBarred : ByteArray := prog_14_method_35_code
def yX12_isBarred : MethodName := ⟨RX12, "isBarred", "(I)Z"⟩
abbrev cX12_beginOne : ByteArray := prog_14_method_36_code
def yX12_beginOne : MethodName := ⟨RX12, "beginOne", "()I"⟩
abbrev cX12_hasParen : ByteArray := prog_14_method_37_code
def yX12_hasParen : MethodName := ⟨RX12, "hasParen", "()Z"⟩
abbrev cX12_goesOn : ByteArray := prog_14_method_38_code
def yX12_goesOn : MethodName := ⟨RX12, "goesOn", "()Z"⟩
abbrev cX12_behindOne : ByteArray := prog_14_method_39_code
def yX12_behindOne : MethodName := ⟨RX12, "behindOne", "()I"⟩
abbrev cX12_summed : ByteArray := prog_14_method_40_code
def yX12_summed : MethodName := ⟨RX12, "summed", "()I"⟩
abbrev cX12_compareOf : ByteArray := prog_14_method_41_code
def yX12_compareOf : MethodName := ⟨RX12, "compareOf", "()I"⟩
abbrev cX12_asks : ByteArray := prog_14_method_42_code
def yX12_asks : MethodName := ⟨RX12, "asks", "()I"⟩
abbrev cX12_either : ByteArray := prog_14_method_43_code
def yX12_either : MethodName := ⟨RX12, "either", "()I"⟩
abbrev cX12_sortOf : ByteArray := prog_14_method_44_code
def yX12_sortOf : MethodName := ⟨RX12, "sortOf", "()I"⟩
abbrev cX12_clause : ByteArray := prog_14_method_45_code
def yX12_clause : MethodName := ⟨RX12, "clause", "()I"⟩
abbrev cX12_readText : ByteArray := prog_14_method_46_code
def yX12_readText : MethodName := ⟨RX12, "readText", "()I"⟩
abbrev cX12_text : ByteArray := prog_14_method_47_code
def yX12_text : MethodName := ⟨RX12, "text", "()I"⟩
abbrev cX12_fault : ByteArray := prog_14_method_48_code
def yX12_fault : MethodName := ⟨RX12, "fault", "(I)I"⟩
abbrev cX12_by : ByteArray := prog_14_method_49_code
def yX12_by : MethodName := ⟨RX12, "by", "(I)Z"⟩
abbrev cX12_clip : ByteArray := prog_14_method_50_code
def yX12_clip : MethodName := ⟨RX12, "clip", "(J)J"⟩
abbrev cX12_two : ByteArray := prog_14_method_51_code
def yX12_two : MethodName := ⟨RX12, "two", "(IJJ)J"⟩
abbrev cX12_isAsked : ByteArray := prog_14_method_52_code
def yX12_isAsked : MethodName := ⟨RX12, "isAsked", "(IJJ)Z"⟩
abbrev cX12_work : ByteArray := prog_14_method_53_code
def yX12_work : MethodName := ⟨RX12, "work", "(I)V"⟩
abbrev cX12_clauseOf : ByteArray := prog_14_method_54_code
def yX12_clauseOf : MethodName := ⟨RX12, "clauseOf", "(I)I"⟩
abbrev cX12_name : ByteArray := prog_14_method_55_code
def yX12_name : MethodName := ⟨RX12, "name", "(IIIIII)V"⟩
abbrev cX12_isHeeded : ByteArray := prog_14_method_56_code
def yX12_isHeeded : MethodName := ⟨RX12, "isHeeded", "()Z"⟩
abbrev cX12_goal : ByteArray := prog_14_method_57_code
def yX12_goal : MethodName := ⟨RX12, "goal", "()I"⟩
abbrev cX12_heeds : ByteArray := prog_14_method_58_code
def yX12_heeds : MethodName := ⟨RX12, "heeds", "(IIIIZ)Z"⟩
abbrev cX12_workOf : ByteArray := prog_14_method_59_code
def yX12_workOf : MethodName := ⟨RX12, "workOf", "(IIII)I"⟩
abbrev cX12_keep : ByteArray := prog_14_method_60_code
def yX12_keep : MethodName := ⟨RX12, "keep", "()V"⟩
abbrev cX12_undo : ByteArray := prog_14_method_61_code
def yX12_undo : MethodName := ⟨RX12, "undo", "()I"⟩
abbrev cX12_canCome : ByteArray := prog_14_method_62_code
def yX12_canCome : MethodName := ⟨RX12, "canCome", "(II)Z"⟩
abbrev cX12_yoke : ByteArray := prog_14_method_63_code
def yX12_yoke : MethodName := ⟨RX12, "yoke", "(III)Z"⟩
abbrev cX12_part : ByteArray := prog_14_method_64_code
def yX12_part : MethodName := ⟨RX12, "part", "(I)V"⟩
abbrev cX12_loose : ByteArray := prog_14_method_65_code
def yX12_loose : MethodName := ⟨RX12, "loose", "(I)Z"⟩
abbrev cX12_drive : ByteArray := prog_14_method_66_code
def yX12_drive : MethodName := ⟨RX12, "drive", "(II)Z"⟩
abbrev cX12_sell : ByteArray := prog_14_method_67_code
def yX12_sell : MethodName := ⟨RX12, "sell", "(II)Z"⟩
abbrev cX12_whistle : ByteArray := prog_14_method_68_code
def yX12_whistle : MethodName := ⟨RX12, "whistle", "(I)I"⟩
abbrev cX12_plough : ByteArray := prog_14_method_69_code
def yX12_plough : MethodName := ⟨RX12, "plough", "()I"⟩
abbrev cX12_night : ByteArray := prog_14_method_70_code
def yX12_night : MethodName := ⟨RX12, "night", "()I"⟩
abbrev cX12_of : ByteArray := prog_14_method_71_code
def yX12_of : MethodName := ⟨RX12, "of", "(II)I"⟩
abbrev cX12_call : ByteArray := prog_14_method_72_code
def yX12_call : MethodName := ⟨RX12, "call", "(II)I"⟩
abbrev cX12_hush : ByteArray := prog_14_method_73_code
def yX12_hush : MethodName := ⟨RX12, "hush", "()I"⟩
abbrev cX12_isCalled : ByteArray := prog_14_method_74_code
def yX12_isCalled : MethodName := ⟨RX12, "isCalled", "(III)Z"⟩
abbrev cX12_stayOf : ByteArray := prog_14_method_75_code
def yX12_stayOf : MethodName := ⟨RX12, "stayOf", "(IIII)I"⟩
abbrev cX12_doneOf : ByteArray := prog_14_method_76_code
def yX12_doneOf : MethodName := ⟨RX12, "doneOf", "(IIII)I"⟩
abbrev cX12_stay : ByteArray := prog_14_method_77_code
def yX12_stay : MethodName := ⟨RX12, "stay", "(IIIIZ)I"⟩
abbrev cX12_by_ : ByteArray := prog_14_method_78_code
def yX12_by_ : MethodName := ⟨RX12, "by", "(III)I"⟩
abbrev cX12_isPair : ByteArray := prog_14_method_79_code
def yX12_isPair : MethodName := ⟨RX12, "isPair", "(II)Z"⟩
abbrev cX12_plan : ByteArray := prog_14_method_80_code
def yX12_plan : MethodName := ⟨RX12, "plan", "(II)I"⟩
abbrev cX12_longest : ByteArray := prog_14_method_81_code
def yX12_longest : MethodName := ⟨RX12, "longest", "(II)I"⟩
abbrev cX12_callsOf : ByteArray := prog_14_method_82_code
def yX12_callsOf : MethodName := ⟨RX12, "callsOf", "(III)I"⟩
abbrev cX12_slip : ByteArray := prog_14_method_83_code
def yX12_slip : MethodName := ⟨RX12, "slip", "()I"⟩
abbrev cX12_weightOf : ByteArray := prog_14_method_84_code
def yX12_weightOf : MethodName := ⟨RX12, "weightOf", "(IIIIII)J"⟩
abbrev cX12_common : ByteArray := prog_14_method_85_code
def yX12_common : MethodName := ⟨RX12, "common", "(JJ)J"⟩
abbrev cX12_dark : ByteArray := prog_14_method_86_code
def yX12_dark : MethodName := ⟨RX12, "dark", "(IIIIII)J"⟩
abbrev cX12_mayBe : ByteArray := prog_14_method_87_code
def yX12_mayBe : MethodName := ⟨RX12, "mayBe", "(III)Z"⟩
abbrev cX12_isApart : ByteArray := prog_14_method_88_code
def yX12_isApart : MethodName := ⟨RX12, "isApart", "(II)Z"⟩
abbrev cX12_changed : ByteArray := prog_14_method_89_code
def yX12_changed : MethodName := ⟨RX12, "changed", "(I)I"⟩
abbrev cX12_set : ByteArray := prog_14_method_90_code
def yX12_set : MethodName := ⟨RX12, "set", "(II)I"⟩
abbrev cX12_apart : ByteArray := prog_14_method_91_code
def yX12_apart : MethodName := ⟨RX12, "apart", "(III)I"⟩
abbrev cX12_thunder : ByteArray := prog_14_method_92_code
def yX12_thunder : MethodName := ⟨RX12, "thunder", "(II)I"⟩
abbrev cX12_strike : ByteArray := prog_14_method_93_code
def yX12_strike : MethodName := ⟨RX12, "strike", "(I)I"⟩
abbrev cX12_image : ByteArray := prog_14_method_94_code
def yX12_image : MethodName := ⟨RX12, "image", "()I"⟩
abbrev cX12_back : ByteArray := prog_14_method_95_code
def yX12_back : MethodName := ⟨RX12, "back", "()I"⟩
abbrev cX12_about : ByteArray := prog_14_method_96_code
def yX12_about : MethodName := ⟨RX12, "about", "(I)I"⟩
def RJ6 : String := "java/lang/Integer"
def TJ6 : u_T := fun k => match k with
  | _ => ("", "", "", false)
def tyJ6 : Nat → FieldType := fun k => match k with
  | _ => .int
abbrev wsJ60 : List Cond := u_ws RJ6 TJ6 0
theorem nmJ6 : ∀ a, a < 0 → ∀ b, b < 0 → a ≠ b → (TJ6 a).2.1 ≠ (TJ6 b).2.1 := by decide +kernel
theorem tyJ6_ok : ∀ k, k < 0 → parseFieldDescriptor (TJ6 k).2.2.1 = some (tyJ6 k) := by decide +kernel
abbrev cJ6_bitCount_0f7a4 : ByteArray := prog_15_method_49_code
def yJ6_bitCount_0f7a4 : MethodName := ⟨RJ6, "bitCount", "(I)I"⟩
def RJ9 : String := "java/lang/Math"
def TJ9 : u_T := fun k => match k with
  | _ => ("", "", "", false)
def tyJ9 : Nat → FieldType := fun k => match k with
  | _ => .int
abbrev wsJ90 : List Cond := u_ws RJ9 TJ9 0
theorem nmJ9 : ∀ a, a < 0 → ∀ b, b < 0 → a ≠ b → (TJ9 a).2.1 ≠ (TJ9 b).2.1 := by decide +kernel
theorem tyJ9_ok : ∀ k, k < 0 → parseFieldDescriptor (TJ9 k).2.2.1 = some (tyJ9 k) := by decide +kernel
abbrev cJ9_abs_0f7a4 : ByteArray := prog_16_method_59_code
def yJ9_abs_0f7a4 : MethodName := ⟨RJ9, "abs", "(I)I"⟩
abbrev cJ9_min_7cf53 : ByteArray := prog_16_method_69_code
def yJ9_min_7cf53 : MethodName := ⟨RJ9, "min", "(II)I"⟩
def RJ0 : String := "java/lang/String"
def TJ0 : u_T := fun k => match k with
  | _ => ("", "", "", false)
def tyJ0 : Nat → FieldType := fun k => match k with
  | _ => .int
abbrev wsJ00 : List Cond := u_ws RJ0 TJ0 0
theorem nmJ0 : ∀ a, a < 0 → ∀ b, b < 0 → a ≠ b → (TJ0 a).2.1 ≠ (TJ0 b).2.1 := by decide +kernel
theorem tyJ0_ok : ∀ k, k < 0 → parseFieldDescriptor (TJ0 k).2.2.1 = some (tyJ0 k) := by decide +kernel
abbrev cJ0_length_8abf5 : ByteArray := prog_17_method_54_code
def yJ0_length_8abf5 : MethodName := ⟨RJ0, "length", "()I"⟩
abbrev cJ0_charAt_5068e : ByteArray := prog_17_method_56_code
def yJ0_charAt_5068e : MethodName := ⟨RJ0, "charAt", "(I)C"⟩
abbrev cJ0_coder_7d493 : ByteArray := prog_17_method_152_code
def yJ0_coder_7d493 : MethodName := ⟨RJ0, "coder", "()B"⟩
abbrev cJ0_isLatin1_aae02 : ByteArray := prog_17_method_154_code
def yJ0_isLatin1_aae02 : MethodName := ⟨RJ0, "isLatin1", "()Z"⟩
abbrev cJ0_checkIndex_df160 : ByteArray := prog_17_method_155_code
def yJ0_checkIndex_df160 : MethodName := ⟨RJ0, "checkIndex", "(II)V"⟩
def RJ1 : String := "java/lang/StringLatin1"
def TJ1 : u_T := fun k => match k with
  | _ => ("", "", "", false)
def tyJ1 : Nat → FieldType := fun k => match k with
  | _ => .int
abbrev wsJ10 : List Cond := u_ws RJ1 TJ1 0
theorem nmJ1 : ∀ a, a < 0 → ∀ b, b < 0 → a ≠ b → (TJ1 a).2.1 ≠ (TJ1 b).2.1 := by decide +kernel
theorem tyJ1_ok : ∀ k, k < 0 → parseFieldDescriptor (TJ1 k).2.2.1 = some (tyJ1 k) := by decide +kernel
abbrev cJ1_charAt_3b067 : ByteArray := prog_18_method_2_code
def yJ1_charAt_3b067 : MethodName := ⟨RJ1, "charAt", "([BI)C"⟩
def RJ2 : String := "java/lang/StringUTF16"
def TJ2 : u_T := fun k => match k with
  | _ => ("", "", "", false)
def tyJ2 : Nat → FieldType := fun k => match k with
  | _ => .int
abbrev wsJ20 : List Cond := u_ws RJ2 TJ2 0
theorem nmJ2 : ∀ a, a < 0 → ∀ b, b < 0 → a ≠ b → (TJ2 a).2.1 ≠ (TJ2 b).2.1 := by decide +kernel
theorem tyJ2_ok : ∀ k, k < 0 → parseFieldDescriptor (TJ2 k).2.2.1 = some (tyJ2 k) := by decide +kernel
abbrev cJ2_getChar_3b067 : ByteArray := prog_19_method_5_code
def yJ2_getChar_3b067 : MethodName := ⟨RJ2, "getChar", "([BI)C"⟩
abbrev cJ2_length_9d52b : ByteArray := prog_19_method_6_code
def yJ2_length_9d52b : MethodName := ⟨RJ2, "length", "([B)I"⟩
abbrev cJ2_charAt_3b067 : ByteArray := prog_19_method_83_code
def yJ2_charAt_3b067 : MethodName := ⟨RJ2, "charAt", "([BI)C"⟩
abbrev cJ2_checkIndex_2214a : ByteArray := prog_19_method_91_code
def yJ2_checkIndex_2214a : MethodName := ⟨RJ2, "checkIndex", "(I[B)V"⟩
def RJ3 : String := "jdk/internal/util/Preconditions"
def TJ3 : u_T := fun k => match k with
  | _ => ("", "", "", false)
def tyJ3 : Nat → FieldType := fun k => match k with
  | _ => .int
abbrev wsJ30 : List Cond := u_ws RJ3 TJ3 0
theorem nmJ3 : ∀ a, a < 0 → ∀ b, b < 0 → a ≠ b → (TJ3 a).2.1 ≠ (TJ3 b).2.1 := by decide +kernel
theorem tyJ3_ok : ∀ k, k < 0 → parseFieldDescriptor (TJ3 k).2.2.1 = some (tyJ3 k) := by decide +kernel
abbrev cJ3_checkIndex_8e157 : ByteArray := prog_20_method_11_code
def yJ3_checkIndex_8e157 : MethodName := ⟨RJ3, "checkIndex", "(IILjava/util/function/BiFunction;)I"⟩
def RL : String := "OxenHomeLaw"
abbrev cL_law : ByteArray := code
def yL_law : MethodName := ⟨RL, "law", "([I)Z"⟩
abbrev vwCl : List vw_C := [(RX0, TX0, 1), (RX1, TX1, 5), (RX2, TX2, 4), (RX3, TX3, 7), (RX4, TX4, 7), (RX5, TX5, 12), (RX6, TX6, 1), (RX7, TX7, 3), (RX8, TX8, 3), (RX9, TX9, 3), (RX10, TX10, 14), (RX11, TX11, 11), (RX12, TX12, 33)]
theorem inX0 : ∀ w ∈ wsX00, w ∈ lw_tbl := by decide +kernel
theorem inX1 : ∀ w ∈ wsX10, w ∈ lw_tbl := by decide +kernel
theorem inX2 : ∀ w ∈ wsX20, w ∈ lw_tbl := by decide +kernel
theorem inX3 : ∀ w ∈ wsX30, w ∈ lw_tbl := by decide +kernel
theorem inX4 : ∀ w ∈ wsX40, w ∈ lw_tbl := by decide +kernel
theorem inX5 : ∀ w ∈ wsX50, w ∈ lw_tbl := by decide +kernel
theorem inX6 : ∀ w ∈ wsX60, w ∈ lw_tbl := by decide +kernel
theorem inX7 : ∀ w ∈ wsX70, w ∈ lw_tbl := by decide +kernel
theorem inX8 : ∀ w ∈ wsX80, w ∈ lw_tbl := by decide +kernel
theorem inX9 : ∀ w ∈ wsX90, w ∈ lw_tbl := by decide +kernel
theorem inX10 : ∀ w ∈ wsX100, w ∈ lw_tbl := by decide +kernel
theorem inX11 : ∀ w ∈ wsX110, w ∈ lw_tbl := by decide +kernel
theorem inX12 : ∀ w ∈ wsX120, w ∈ lw_tbl := by decide +kernel
