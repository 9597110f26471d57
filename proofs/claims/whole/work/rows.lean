section
-- ===== PART A: goes FIRST, ahead of the names: the tables' words, and 'selects' of the private methods out of them =====
/-- a private method of a class that the tables say can be made, by its rows of tables_1 -/
def lw_okq (q : MethodName × Nat) : Prop := (q.1.cls ≠ "java/lang/invoke/MethodHandle" ∧ q.1.cls ≠ "java/lang/invoke/VarHandle") ∧ Cond.instantiable q.1.cls q.2 ∈ tables_1 ∧ Cond.privateMethod q.1 ∈ tables_1 ∧ Cond.instanceMethod q.1 ∈ tables_1
theorem lw_p0 : lw_okq (⟨"OxenHome", "isFarm", "(I)Z"⟩, 11) := ⟨⟨by decide +kernel, by decide +kernel⟩, List.mem_of_getElem? (i := 21) (by decide +kernel), List.mem_of_getElem? (i := 425) (by decide +kernel), List.mem_of_getElem? (i := 426) (by decide +kernel)⟩
theorem lw_p1 : lw_okq (⟨"OxenHome", "isFarmOrNone", "(I)Z"⟩, 11) := ⟨⟨by decide +kernel, by decide +kernel⟩, List.mem_of_getElem? (i := 21) (by decide +kernel), List.mem_of_getElem? (i := 429) (by decide +kernel), List.mem_of_getElem? (i := 430) (by decide +kernel)⟩
theorem lw_p2 : lw_okq (⟨"OxenHome", "feedFour", "(I)V"⟩, 11) := ⟨⟨by decide +kernel, by decide +kernel⟩, List.mem_of_getElem? (i := 21) (by decide +kernel), List.mem_of_getElem? (i := 446) (by decide +kernel), List.mem_of_getElem? (i := 447) (by decide +kernel)⟩
theorem lw_p3 : lw_okq (⟨"OxenHome$Reader", "step", "()V"⟩, 12) := ⟨⟨by decide +kernel, by decide +kernel⟩, List.mem_of_getElem? (i := 219) (by decide +kernel), List.mem_of_getElem? (i := 471) (by decide +kernel), List.mem_of_getElem? (i := 472) (by decide +kernel)⟩
theorem lw_p4 : lw_okq (⟨"OxenHome$Reader", "passLetters", "()V"⟩, 12) := ⟨⟨by decide +kernel, by decide +kernel⟩, List.mem_of_getElem? (i := 219) (by decide +kernel), List.mem_of_getElem? (i := 482) (by decide +kernel), List.mem_of_getElem? (i := 483) (by decide +kernel)⟩
theorem lw_p5 : lw_okq (⟨"OxenHome$Reader", "wordAt", "(II)I"⟩, 12) := ⟨⟨by decide +kernel, by decide +kernel⟩, List.mem_of_getElem? (i := 219) (by decide +kernel), List.mem_of_getElem? (i := 486) (by decide +kernel), List.mem_of_getElem? (i := 487) (by decide +kernel)⟩
theorem lw_p6 : lw_okq (⟨"OxenHome$Reader", "takeNumber", "()V"⟩, 12) := ⟨⟨by decide +kernel, by decide +kernel⟩, List.mem_of_getElem? (i := 219) (by decide +kernel), List.mem_of_getElem? (i := 542) (by decide +kernel), List.mem_of_getElem? (i := 543) (by decide +kernel)⟩
theorem lw_p7 : lw_okq (⟨"OxenHome$Reader", "takeSign", "(I)V"⟩, 12) := ⟨⟨by decide +kernel, by decide +kernel⟩, List.mem_of_getElem? (i := 219) (by decide +kernel), List.mem_of_getElem? (i := 549) (by decide +kernel), List.mem_of_getElem? (i := 550) (by decide +kernel)⟩
theorem lw_p8 : lw_okq (⟨"OxenHome$Reader", "readClause", "()V"⟩, 12) := ⟨⟨by decide +kernel, by decide +kernel⟩, List.mem_of_getElem? (i := 219) (by decide +kernel), List.mem_of_getElem? (i := 554) (by decide +kernel), List.mem_of_getElem? (i := 555) (by decide +kernel)⟩
theorem lw_p9 : lw_okq (⟨"OxenHome$Reader", "fail", "(I)V"⟩, 12) := ⟨⟨by decide +kernel, by decide +kernel⟩, List.mem_of_getElem? (i := 219) (by decide +kernel), List.mem_of_getElem? (i := 558) (by decide +kernel), List.mem_of_getElem? (i := 559) (by decide +kernel)⟩
theorem lw_p10 : lw_okq (⟨"OxenHome$Reader", "readRank", "(II)V"⟩, 12) := ⟨⟨by decide +kernel, by decide +kernel⟩, List.mem_of_getElem? (i := 219) (by decide +kernel), List.mem_of_getElem? (i := 567) (by decide +kernel), List.mem_of_getElem? (i := 568) (by decide +kernel)⟩
theorem lw_p11 : lw_okq (⟨"OxenHome$Reader", "readAsk", "(I)V"⟩, 12) := ⟨⟨by decide +kernel, by decide +kernel⟩, List.mem_of_getElem? (i := 219) (by decide +kernel), List.mem_of_getElem? (i := 571) (by decide +kernel), List.mem_of_getElem? (i := 572) (by decide +kernel)⟩
theorem lw_p12 : lw_okq (⟨"OxenHome$Reader", "readOpened", "(II)V"⟩, 12) := ⟨⟨by decide +kernel, by decide +kernel⟩, List.mem_of_getElem? (i := 219) (by decide +kernel), List.mem_of_getElem? (i := 575) (by decide +kernel), List.mem_of_getElem? (i := 576) (by decide +kernel)⟩
theorem lw_p13 : lw_okq (⟨"OxenHome$Reader", "emit", "(I)V"⟩, 12) := ⟨⟨by decide +kernel, by decide +kernel⟩, List.mem_of_getElem? (i := 219) (by decide +kernel), List.mem_of_getElem? (i := 579) (by decide +kernel), List.mem_of_getElem? (i := 580) (by decide +kernel)⟩
theorem lw_p14 : lw_okq (⟨"OxenHome$Reader", "readOne", "(I)V"⟩, 12) := ⟨⟨by decide +kernel, by decide +kernel⟩, List.mem_of_getElem? (i := 219) (by decide +kernel), List.mem_of_getElem? (i := 587) (by decide +kernel), List.mem_of_getElem? (i := 588) (by decide +kernel)⟩
theorem lw_p15 : lw_okq (⟨"OxenHome$Reader", "readNumber", "()V"⟩, 12) := ⟨⟨by decide +kernel, by decide +kernel⟩, List.mem_of_getElem? (i := 219) (by decide +kernel), List.mem_of_getElem? (i := 591) (by decide +kernel), List.mem_of_getElem? (i := 592) (by decide +kernel)⟩
def lw_privs_1 : List (MethodName × Nat) := [(⟨"OxenHome", "isFarm", "(I)Z"⟩, 11), (⟨"OxenHome", "isFarmOrNone", "(I)Z"⟩, 11), (⟨"OxenHome", "feedFour", "(I)V"⟩, 11), (⟨"OxenHome$Reader", "step", "()V"⟩, 12), (⟨"OxenHome$Reader", "passLetters", "()V"⟩, 12), (⟨"OxenHome$Reader", "wordAt", "(II)I"⟩, 12), (⟨"OxenHome$Reader", "takeNumber", "()V"⟩, 12), (⟨"OxenHome$Reader", "takeSign", "(I)V"⟩, 12), (⟨"OxenHome$Reader", "readClause", "()V"⟩, 12), (⟨"OxenHome$Reader", "fail", "(I)V"⟩, 12), (⟨"OxenHome$Reader", "readRank", "(II)V"⟩, 12), (⟨"OxenHome$Reader", "readAsk", "(I)V"⟩, 12), (⟨"OxenHome$Reader", "readOpened", "(II)V"⟩, 12), (⟨"OxenHome$Reader", "emit", "(I)V"⟩, 12), (⟨"OxenHome$Reader", "readOne", "(I)V"⟩, 12), (⟨"OxenHome$Reader", "readNumber", "()V"⟩, 12)]
theorem lw_r1 : ∀ q ∈ lw_privs_1, lw_okq q := List.forall_mem_cons.mpr ⟨lw_p0, List.forall_mem_cons.mpr ⟨lw_p1, List.forall_mem_cons.mpr ⟨lw_p2, List.forall_mem_cons.mpr ⟨lw_p3, List.forall_mem_cons.mpr ⟨lw_p4, List.forall_mem_cons.mpr ⟨lw_p5, List.forall_mem_cons.mpr ⟨lw_p6, List.forall_mem_cons.mpr ⟨lw_p7, List.forall_mem_cons.mpr ⟨lw_p8, List.forall_mem_cons.mpr ⟨lw_p9, List.forall_mem_cons.mpr ⟨lw_p10, List.forall_mem_cons.mpr ⟨lw_p11, List.forall_mem_cons.mpr ⟨lw_p12, List.forall_mem_cons.mpr ⟨lw_p13, List.forall_mem_cons.mpr ⟨lw_p14, List.forall_mem_cons.mpr ⟨lw_p15, fun _ h => absurd h List.not_mem_nil⟩⟩⟩⟩⟩⟩⟩⟩⟩⟩⟩⟩⟩⟩⟩⟩
theorem lw_p16 : lw_okq (⟨"OxenHome$Reader", "readName", "()V"⟩, 12) := ⟨⟨by decide +kernel, by decide +kernel⟩, List.mem_of_getElem? (i := 219) (by decide +kernel), List.mem_of_getElem? (i := 595) (by decide +kernel), List.mem_of_getElem? (i := 596) (by decide +kernel)⟩
theorem lw_p17 : lw_okq (⟨"OxenHome$Reader", "close", "()V"⟩, 12) := ⟨⟨by decide +kernel, by decide +kernel⟩, List.mem_of_getElem? (i := 219) (by decide +kernel), List.mem_of_getElem? (i := 602) (by decide +kernel), List.mem_of_getElem? (i := 603) (by decide +kernel)⟩
theorem lw_p18 : lw_okq (⟨"OxenHome$Reader", "readJoined", "(II)V"⟩, 12) := ⟨⟨by decide +kernel, by decide +kernel⟩, List.mem_of_getElem? (i := 219) (by decide +kernel), List.mem_of_getElem? (i := 606) (by decide +kernel), List.mem_of_getElem? (i := 607) (by decide +kernel)⟩
theorem lw_p19 : lw_okq (⟨"OxenHome", "isPair", "(II)Z"⟩, 11) := ⟨⟨by decide +kernel, by decide +kernel⟩, List.mem_of_getElem? (i := 21) (by decide +kernel), List.mem_of_getElem? (i := 627) (by decide +kernel), List.mem_of_getElem? (i := 628) (by decide +kernel)⟩
theorem lw_p20 : lw_okq (⟨"OxenHome", "isOx", "(I)Z"⟩, 11) := ⟨⟨by decide +kernel, by decide +kernel⟩, List.mem_of_getElem? (i := 21) (by decide +kernel), List.mem_of_getElem? (i := 631) (by decide +kernel), List.mem_of_getElem? (i := 632) (by decide +kernel)⟩
theorem lw_p21 : lw_okq (⟨"OxenHome", "isField", "(I)Z"⟩, 11) := ⟨⟨by decide +kernel, by decide +kernel⟩, List.mem_of_getElem? (i := 21) (by decide +kernel), List.mem_of_getElem? (i := 635) (by decide +kernel), List.mem_of_getElem? (i := 636) (by decide +kernel)⟩
theorem lw_p22 : lw_okq (⟨"OxenHome", "canBeYoked", "(II)Z"⟩, 11) := ⟨⟨by decide +kernel, by decide +kernel⟩, List.mem_of_getElem? (i := 21) (by decide +kernel), List.mem_of_getElem? (i := 639) (by decide +kernel), List.mem_of_getElem? (i := 640) (by decide +kernel)⟩
theorem lw_p23 : lw_okq (⟨"OxenHome", "blow", "(LOxenHome$Herd;II)I"⟩, 11) := ⟨⟨by decide +kernel, by decide +kernel⟩, List.mem_of_getElem? (i := 21) (by decide +kernel), List.mem_of_getElem? (i := 689) (by decide +kernel), List.mem_of_getElem? (i := 690) (by decide +kernel)⟩
theorem lw_p24 : lw_okq (⟨"OxenHome$Laws", "askCall", "(III)V"⟩, 5) := ⟨⟨by decide +kernel, by decide +kernel⟩, List.mem_of_getElem? (i := 175) (by decide +kernel), List.mem_of_getElem? (i := 702) (by decide +kernel), List.mem_of_getElem? (i := 703) (by decide +kernel)⟩
theorem lw_p25 : lw_okq (⟨"OxenHome$Laws", "value", "(II)I"⟩, 5) := ⟨⟨by decide +kernel, by decide +kernel⟩, List.mem_of_getElem? (i := 175) (by decide +kernel), List.mem_of_getElem? (i := 720) (by decide +kernel), List.mem_of_getElem? (i := 721) (by decide +kernel)⟩
theorem lw_p26 : lw_okq (⟨"OxenHome$Stays", "heedsCallAt", "(III)Z"⟩, 3) := ⟨⟨by decide +kernel, by decide +kernel⟩, List.mem_of_getElem? (i := 199) (by decide +kernel), List.mem_of_getElem? (i := 807) (by decide +kernel), List.mem_of_getElem? (i := 808) (by decide +kernel)⟩
theorem lw_p27 : lw_okq (⟨"OxenHome$Planner", "measurePairs", "(I)V"⟩, 7) := ⟨⟨by decide +kernel, by decide +kernel⟩, List.mem_of_getElem? (i := 264) (by decide +kernel), List.mem_of_getElem? (i := 837) (by decide +kernel), List.mem_of_getElem? (i := 838) (by decide +kernel)⟩
theorem lw_p28 : lw_okq (⟨"OxenHome$Planner", "yieldFrom", "(II)I"⟩, 7) := ⟨⟨by decide +kernel, by decide +kernel⟩, List.mem_of_getElem? (i := 264) (by decide +kernel), List.mem_of_getElem? (i := 848) (by decide +kernel), List.mem_of_getElem? (i := 849) (by decide +kernel)⟩
theorem lw_p29 : lw_okq (⟨"OxenHome$Planner", "tryPair", "(IIII)V"⟩, 7) := ⟨⟨by decide +kernel, by decide +kernel⟩, List.mem_of_getElem? (i := 264) (by decide +kernel), List.mem_of_getElem? (i := 853) (by decide +kernel), List.mem_of_getElem? (i := 854) (by decide +kernel)⟩
theorem lw_p30 : lw_okq (⟨"OxenHome$Planner", "follow", "()V"⟩, 7) := ⟨⟨by decide +kernel, by decide +kernel⟩, List.mem_of_getElem? (i := 264) (by decide +kernel), List.mem_of_getElem? (i := 857) (by decide +kernel), List.mem_of_getElem? (i := 858) (by decide +kernel)⟩
theorem lw_p31 : lw_okq (⟨"OxenHome$Odds", "times", "(Z)I"⟩, 4) := ⟨⟨by decide +kernel, by decide +kernel⟩, List.mem_of_getElem? (i := 296) (by decide +kernel), List.mem_of_getElem? (i := 887) (by decide +kernel), List.mem_of_getElem? (i := 888) (by decide +kernel)⟩
def lw_privs_2 : List (MethodName × Nat) := [(⟨"OxenHome$Reader", "readName", "()V"⟩, 12), (⟨"OxenHome$Reader", "close", "()V"⟩, 12), (⟨"OxenHome$Reader", "readJoined", "(II)V"⟩, 12), (⟨"OxenHome", "isPair", "(II)Z"⟩, 11), (⟨"OxenHome", "isOx", "(I)Z"⟩, 11), (⟨"OxenHome", "isField", "(I)Z"⟩, 11), (⟨"OxenHome", "canBeYoked", "(II)Z"⟩, 11), (⟨"OxenHome", "blow", "(LOxenHome$Herd;II)I"⟩, 11), (⟨"OxenHome$Laws", "askCall", "(III)V"⟩, 5), (⟨"OxenHome$Laws", "value", "(II)I"⟩, 5), (⟨"OxenHome$Stays", "heedsCallAt", "(III)Z"⟩, 3), (⟨"OxenHome$Planner", "measurePairs", "(I)V"⟩, 7), (⟨"OxenHome$Planner", "yieldFrom", "(II)I"⟩, 7), (⟨"OxenHome$Planner", "tryPair", "(IIII)V"⟩, 7), (⟨"OxenHome$Planner", "follow", "()V"⟩, 7), (⟨"OxenHome$Odds", "times", "(Z)I"⟩, 4)]
theorem lw_r2 : ∀ q ∈ lw_privs_2, lw_okq q := List.forall_mem_cons.mpr ⟨lw_p16, List.forall_mem_cons.mpr ⟨lw_p17, List.forall_mem_cons.mpr ⟨lw_p18, List.forall_mem_cons.mpr ⟨lw_p19, List.forall_mem_cons.mpr ⟨lw_p20, List.forall_mem_cons.mpr ⟨lw_p21, List.forall_mem_cons.mpr ⟨lw_p22, List.forall_mem_cons.mpr ⟨lw_p23, List.forall_mem_cons.mpr ⟨lw_p24, List.forall_mem_cons.mpr ⟨lw_p25, List.forall_mem_cons.mpr ⟨lw_p26, List.forall_mem_cons.mpr ⟨lw_p27, List.forall_mem_cons.mpr ⟨lw_p28, List.forall_mem_cons.mpr ⟨lw_p29, List.forall_mem_cons.mpr ⟨lw_p30, List.forall_mem_cons.mpr ⟨lw_p31, fun _ h => absurd h List.not_mem_nil⟩⟩⟩⟩⟩⟩⟩⟩⟩⟩⟩⟩⟩⟩⟩⟩
theorem lw_p32 : lw_okq (⟨"OxenHome$Odds", "divisor", "()J"⟩, 4) := ⟨⟨by decide +kernel, by decide +kernel⟩, List.mem_of_getElem? (i := 296) (by decide +kernel), List.mem_of_getElem? (i := 900) (by decide +kernel), List.mem_of_getElem? (i := 901) (by decide +kernel)⟩
theorem lw_p33 : lw_okq (⟨"OxenHome$Pitches", "fitsAll", "(III)Z"⟩, 7) := ⟨⟨by decide +kernel, by decide +kernel⟩, List.mem_of_getElem? (i := 316) (by decide +kernel), List.mem_of_getElem? (i := 916) (by decide +kernel), List.mem_of_getElem? (i := 917) (by decide +kernel)⟩
theorem lw_p34 : lw_okq (⟨"OxenHome$Pitches", "choose", "(II)V"⟩, 7) := ⟨⟨by decide +kernel, by decide +kernel⟩, List.mem_of_getElem? (i := 316) (by decide +kernel), List.mem_of_getElem? (i := 926) (by decide +kernel), List.mem_of_getElem? (i := 927) (by decide +kernel)⟩
theorem lw_p35 : lw_okq (⟨"OxenHome$Pitches", "isFree", "(II)Z"⟩, 7) := ⟨⟨by decide +kernel, by decide +kernel⟩, List.mem_of_getElem? (i := 316) (by decide +kernel), List.mem_of_getElem? (i := 935) (by decide +kernel), List.mem_of_getElem? (i := 936) (by decide +kernel)⟩
theorem lw_p36 : lw_okq (⟨"OxenHome$Pitches", "pick", "(III)V"⟩, 7) := ⟨⟨by decide +kernel, by decide +kernel⟩, List.mem_of_getElem? (i := 316) (by decide +kernel), List.mem_of_getElem? (i := 940) (by decide +kernel), List.mem_of_getElem? (i := 941) (by decide +kernel)⟩
theorem lw_p37 : lw_okq (⟨"OxenHomeModel", "isFarm", "(I)Z"⟩, 33) := ⟨⟨by decide +kernel, by decide +kernel⟩, List.mem_of_getElem? (i := 986) (by decide +kernel), List.mem_of_getElem? (i := 1110) (by decide +kernel), List.mem_of_getElem? (i := 1111) (by decide +kernel)⟩
theorem lw_p38 : lw_okq (⟨"OxenHomeModel", "make", "(III)V"⟩, 33) := ⟨⟨by decide +kernel, by decide +kernel⟩, List.mem_of_getElem? (i := 986) (by decide +kernel), List.mem_of_getElem? (i := 1114) (by decide +kernel), List.mem_of_getElem? (i := 1115) (by decide +kernel)⟩
theorem lw_p39 : lw_okq (⟨"OxenHomeModel", "four", "(I)V"⟩, 33) := ⟨⟨by decide +kernel, by decide +kernel⟩, List.mem_of_getElem? (i := 986) (by decide +kernel), List.mem_of_getElem? (i := 1122) (by decide +kernel), List.mem_of_getElem? (i := 1123) (by decide +kernel)⟩
theorem lw_p40 : lw_okq (⟨"OxenHomeModel", "readText", "()I"⟩, 33) := ⟨⟨by decide +kernel, by decide +kernel⟩, List.mem_of_getElem? (i := 986) (by decide +kernel), List.mem_of_getElem? (i := 1134) (by decide +kernel), List.mem_of_getElem? (i := 1135) (by decide +kernel)⟩
theorem lw_p41 : lw_okq (⟨"OxenHomeModel", "nextToken", "()V"⟩, 33) := ⟨⟨by decide +kernel, by decide +kernel⟩, List.mem_of_getElem? (i := 986) (by decide +kernel), List.mem_of_getElem? (i := 1138) (by decide +kernel), List.mem_of_getElem? (i := 1139) (by decide +kernel)⟩
theorem lw_p42 : lw_okq (⟨"OxenHomeModel", "byteAt", "(I)I"⟩, 33) := ⟨⟨by decide +kernel, by decide +kernel⟩, List.mem_of_getElem? (i := 986) (by decide +kernel), List.mem_of_getElem? (i := 1142) (by decide +kernel), List.mem_of_getElem? (i := 1143) (by decide +kernel)⟩
theorem lw_p43 : lw_okq (⟨"OxenHomeModel", "clause", "()I"⟩, 33) := ⟨⟨by decide +kernel, by decide +kernel⟩, List.mem_of_getElem? (i := 986) (by decide +kernel), List.mem_of_getElem? (i := 1153) (by decide +kernel), List.mem_of_getElem? (i := 1154) (by decide +kernel)⟩
theorem lw_p44 : lw_okq (⟨"OxenHomeModel", "sortOf", "()I"⟩, 33) := ⟨⟨by decide +kernel, by decide +kernel⟩, List.mem_of_getElem? (i := 986) (by decide +kernel), List.mem_of_getElem? (i := 1157) (by decide +kernel), List.mem_of_getElem? (i := 1158) (by decide +kernel)⟩
theorem lw_p45 : lw_okq (⟨"OxenHomeModel", "isWord", "(J)Z"⟩, 33) := ⟨⟨by decide +kernel, by decide +kernel⟩, List.mem_of_getElem? (i := 986) (by decide +kernel), List.mem_of_getElem? (i := 1167) (by decide +kernel), List.mem_of_getElem? (i := 1168) (by decide +kernel)⟩
theorem lw_p46 : lw_okq (⟨"OxenHomeModel", "either", "()I"⟩, 33) := ⟨⟨by decide +kernel, by decide +kernel⟩, List.mem_of_getElem? (i := 986) (by decide +kernel), List.mem_of_getElem? (i := 1177) (by decide +kernel), List.mem_of_getElem? (i := 1178) (by decide +kernel)⟩
theorem lw_p47 : lw_okq (⟨"OxenHomeModel", "asks", "()I"⟩, 33) := ⟨⟨by decide +kernel, by decide +kernel⟩, List.mem_of_getElem? (i := 986) (by decide +kernel), List.mem_of_getElem? (i := 1181) (by decide +kernel), List.mem_of_getElem? (i := 1182) (by decide +kernel)⟩
def lw_privs_3 : List (MethodName × Nat) := [(⟨"OxenHome$Odds", "divisor", "()J"⟩, 4), (⟨"OxenHome$Pitches", "fitsAll", "(III)Z"⟩, 7), (⟨"OxenHome$Pitches", "choose", "(II)V"⟩, 7), (⟨"OxenHome$Pitches", "isFree", "(II)Z"⟩, 7), (⟨"OxenHome$Pitches", "pick", "(III)V"⟩, 7), (⟨"OxenHomeModel", "isFarm", "(I)Z"⟩, 33), (⟨"OxenHomeModel", "make", "(III)V"⟩, 33), (⟨"OxenHomeModel", "four", "(I)V"⟩, 33), (⟨"OxenHomeModel", "readText", "()I"⟩, 33), (⟨"OxenHomeModel", "nextToken", "()V"⟩, 33), (⟨"OxenHomeModel", "byteAt", "(I)I"⟩, 33), (⟨"OxenHomeModel", "clause", "()I"⟩, 33), (⟨"OxenHomeModel", "sortOf", "()I"⟩, 33), (⟨"OxenHomeModel", "isWord", "(J)Z"⟩, 33), (⟨"OxenHomeModel", "either", "()I"⟩, 33), (⟨"OxenHomeModel", "asks", "()I"⟩, 33)]
theorem lw_r3 : ∀ q ∈ lw_privs_3, lw_okq q := List.forall_mem_cons.mpr ⟨lw_p32, List.forall_mem_cons.mpr ⟨lw_p33, List.forall_mem_cons.mpr ⟨lw_p34, List.forall_mem_cons.mpr ⟨lw_p35, List.forall_mem_cons.mpr ⟨lw_p36, List.forall_mem_cons.mpr ⟨lw_p37, List.forall_mem_cons.mpr ⟨lw_p38, List.forall_mem_cons.mpr ⟨lw_p39, List.forall_mem_cons.mpr ⟨lw_p40, List.forall_mem_cons.mpr ⟨lw_p41, List.forall_mem_cons.mpr ⟨lw_p42, List.forall_mem_cons.mpr ⟨lw_p43, List.forall_mem_cons.mpr ⟨lw_p44, List.forall_mem_cons.mpr ⟨lw_p45, List.forall_mem_cons.mpr ⟨lw_p46, List.forall_mem_cons.mpr ⟨lw_p47, fun _ h => absurd h List.not_mem_nil⟩⟩⟩⟩⟩⟩⟩⟩⟩⟩⟩⟩⟩⟩⟩⟩
theorem lw_p48 : lw_okq (⟨"OxenHomeModel", "summed", "()I"⟩, 33) := ⟨⟨by decide +kernel, by decide +kernel⟩, List.mem_of_getElem? (i := 986) (by decide +kernel), List.mem_of_getElem? (i := 1185) (by decide +kernel), List.mem_of_getElem? (i := 1186) (by decide +kernel)⟩
theorem lw_p49 : lw_okq (⟨"OxenHomeModel", "goesOn", "()Z"⟩, 33) := ⟨⟨by decide +kernel, by decide +kernel⟩, List.mem_of_getElem? (i := 986) (by decide +kernel), List.mem_of_getElem? (i := 1189) (by decide +kernel), List.mem_of_getElem? (i := 1190) (by decide +kernel)⟩
theorem lw_p50 : lw_okq (⟨"OxenHomeModel", "hasParen", "()Z"⟩, 33) := ⟨⟨by decide +kernel, by decide +kernel⟩, List.mem_of_getElem? (i := 986) (by decide +kernel), List.mem_of_getElem? (i := 1193) (by decide +kernel), List.mem_of_getElem? (i := 1194) (by decide +kernel)⟩
theorem lw_p51 : lw_okq (⟨"OxenHomeModel", "behindOne", "()I"⟩, 33) := ⟨⟨by decide +kernel, by decide +kernel⟩, List.mem_of_getElem? (i := 986) (by decide +kernel), List.mem_of_getElem? (i := 1197) (by decide +kernel), List.mem_of_getElem? (i := 1198) (by decide +kernel)⟩
theorem lw_p52 : lw_okq (⟨"OxenHomeModel", "settle", "(I)V"⟩, 33) := ⟨⟨by decide +kernel, by decide +kernel⟩, List.mem_of_getElem? (i := 986) (by decide +kernel), List.mem_of_getElem? (i := 1201) (by decide +kernel), List.mem_of_getElem? (i := 1202) (by decide +kernel)⟩
theorem lw_p53 : lw_okq (⟨"OxenHomeModel", "emit", "(II)V"⟩, 33) := ⟨⟨by decide +kernel, by decide +kernel⟩, List.mem_of_getElem? (i := 986) (by decide +kernel), List.mem_of_getElem? (i := 1205) (by decide +kernel), List.mem_of_getElem? (i := 1206) (by decide +kernel)⟩
theorem lw_p54 : lw_okq (⟨"OxenHomeModel", "push", "(I)V"⟩, 33) := ⟨⟨by decide +kernel, by decide +kernel⟩, List.mem_of_getElem? (i := 986) (by decide +kernel), List.mem_of_getElem? (i := 1209) (by decide +kernel), List.mem_of_getElem? (i := 1210) (by decide +kernel)⟩
theorem lw_p55 : lw_okq (⟨"OxenHomeModel", "whole", "()V"⟩, 33) := ⟨⟨by decide +kernel, by decide +kernel⟩, List.mem_of_getElem? (i := 986) (by decide +kernel), List.mem_of_getElem? (i := 1213) (by decide +kernel), List.mem_of_getElem? (i := 1214) (by decide +kernel)⟩
theorem lw_p56 : lw_okq (⟨"OxenHomeModel", "beginOne", "()I"⟩, 33) := ⟨⟨by decide +kernel, by decide +kernel⟩, List.mem_of_getElem? (i := 986) (by decide +kernel), List.mem_of_getElem? (i := 1217) (by decide +kernel), List.mem_of_getElem? (i := 1218) (by decide +kernel)⟩
theorem lw_p57 : lw_okq (⟨"OxenHomeModel", "nameOf", "()I"⟩, 33) := ⟨⟨by decide +kernel, by decide +kernel⟩, List.mem_of_getElem? (i := 986) (by decide +kernel), List.mem_of_getElem? (i := 1221) (by decide +kernel), List.mem_of_getElem? (i := 1222) (by decide +kernel)⟩
theorem lw_p58 : lw_okq (⟨"OxenHomeModel", "isStrength", "()Z"⟩, 33) := ⟨⟨by decide +kernel, by decide +kernel⟩, List.mem_of_getElem? (i := 986) (by decide +kernel), List.mem_of_getElem? (i := 1226) (by decide +kernel), List.mem_of_getElem? (i := 1227) (by decide +kernel)⟩
theorem lw_p59 : lw_okq (⟨"OxenHomeModel", "isBarred", "(I)Z"⟩, 33) := ⟨⟨by decide +kernel, by decide +kernel⟩, List.mem_of_getElem? (i := 986) (by decide +kernel), List.mem_of_getElem? (i := 1230) (by decide +kernel), List.mem_of_getElem? (i := 1231) (by decide +kernel)⟩
theorem lw_p60 : lw_okq (⟨"OxenHomeModel", "compareOf", "()I"⟩, 33) := ⟨⟨by decide +kernel, by decide +kernel⟩, List.mem_of_getElem? (i := 986) (by decide +kernel), List.mem_of_getElem? (i := 1234) (by decide +kernel), List.mem_of_getElem? (i := 1235) (by decide +kernel)⟩
theorem lw_p61 : lw_okq (⟨"OxenHomeModel", "isOx", "(I)Z"⟩, 33) := ⟨⟨by decide +kernel, by decide +kernel⟩, List.mem_of_getElem? (i := 986) (by decide +kernel), List.mem_of_getElem? (i := 1251) (by decide +kernel), List.mem_of_getElem? (i := 1252) (by decide +kernel)⟩
theorem lw_p62 : lw_okq (⟨"OxenHomeModel", "isField", "(I)Z"⟩, 33) := ⟨⟨by decide +kernel, by decide +kernel⟩, List.mem_of_getElem? (i := 986) (by decide +kernel), List.mem_of_getElem? (i := 1255) (by decide +kernel), List.mem_of_getElem? (i := 1256) (by decide +kernel)⟩
theorem lw_p63 : lw_okq (⟨"OxenHomeModel", "name", "(IIIIII)V"⟩, 33) := ⟨⟨by decide +kernel, by decide +kernel⟩, List.mem_of_getElem? (i := 986) (by decide +kernel), List.mem_of_getElem? (i := 1259) (by decide +kernel), List.mem_of_getElem? (i := 1260) (by decide +kernel)⟩
def lw_privs_4 : List (MethodName × Nat) := [(⟨"OxenHomeModel", "summed", "()I"⟩, 33), (⟨"OxenHomeModel", "goesOn", "()Z"⟩, 33), (⟨"OxenHomeModel", "hasParen", "()Z"⟩, 33), (⟨"OxenHomeModel", "behindOne", "()I"⟩, 33), (⟨"OxenHomeModel", "settle", "(I)V"⟩, 33), (⟨"OxenHomeModel", "emit", "(II)V"⟩, 33), (⟨"OxenHomeModel", "push", "(I)V"⟩, 33), (⟨"OxenHomeModel", "whole", "()V"⟩, 33), (⟨"OxenHomeModel", "beginOne", "()I"⟩, 33), (⟨"OxenHomeModel", "nameOf", "()I"⟩, 33), (⟨"OxenHomeModel", "isStrength", "()Z"⟩, 33), (⟨"OxenHomeModel", "isBarred", "(I)Z"⟩, 33), (⟨"OxenHomeModel", "compareOf", "()I"⟩, 33), (⟨"OxenHomeModel", "isOx", "(I)Z"⟩, 33), (⟨"OxenHomeModel", "isField", "(I)Z"⟩, 33), (⟨"OxenHomeModel", "name", "(IIIIII)V"⟩, 33)]
theorem lw_r4 : ∀ q ∈ lw_privs_4, lw_okq q := List.forall_mem_cons.mpr ⟨lw_p48, List.forall_mem_cons.mpr ⟨lw_p49, List.forall_mem_cons.mpr ⟨lw_p50, List.forall_mem_cons.mpr ⟨lw_p51, List.forall_mem_cons.mpr ⟨lw_p52, List.forall_mem_cons.mpr ⟨lw_p53, List.forall_mem_cons.mpr ⟨lw_p54, List.forall_mem_cons.mpr ⟨lw_p55, List.forall_mem_cons.mpr ⟨lw_p56, List.forall_mem_cons.mpr ⟨lw_p57, List.forall_mem_cons.mpr ⟨lw_p58, List.forall_mem_cons.mpr ⟨lw_p59, List.forall_mem_cons.mpr ⟨lw_p60, List.forall_mem_cons.mpr ⟨lw_p61, List.forall_mem_cons.mpr ⟨lw_p62, List.forall_mem_cons.mpr ⟨lw_p63, fun _ h => absurd h List.not_mem_nil⟩⟩⟩⟩⟩⟩⟩⟩⟩⟩⟩⟩⟩⟩⟩⟩
theorem lw_p64 : lw_okq (⟨"OxenHomeModel", "told", "(II)I"⟩, 33) := ⟨⟨by decide +kernel, by decide +kernel⟩, List.mem_of_getElem? (i := 986) (by decide +kernel), List.mem_of_getElem? (i := 1263) (by decide +kernel), List.mem_of_getElem? (i := 1264) (by decide +kernel)⟩
theorem lw_p65 : lw_okq (⟨"OxenHomeModel", "far", "(II)I"⟩, 33) := ⟨⟨by decide +kernel, by decide +kernel⟩, List.mem_of_getElem? (i := 986) (by decide +kernel), List.mem_of_getElem? (i := 1267) (by decide +kernel), List.mem_of_getElem? (i := 1268) (by decide +kernel)⟩
theorem lw_p66 : lw_okq (⟨"OxenHomeModel", "isHeeded", "()Z"⟩, 33) := ⟨⟨by decide +kernel, by decide +kernel⟩, List.mem_of_getElem? (i := 986) (by decide +kernel), List.mem_of_getElem? (i := 1274) (by decide +kernel), List.mem_of_getElem? (i := 1275) (by decide +kernel)⟩
theorem lw_p67 : lw_okq (⟨"OxenHomeModel", "clauseOf", "(I)I"⟩, 33) := ⟨⟨by decide +kernel, by decide +kernel⟩, List.mem_of_getElem? (i := 986) (by decide +kernel), List.mem_of_getElem? (i := 1278) (by decide +kernel), List.mem_of_getElem? (i := 1279) (by decide +kernel)⟩
theorem lw_p68 : lw_okq (⟨"OxenHomeModel", "work", "(I)V"⟩, 33) := ⟨⟨by decide +kernel, by decide +kernel⟩, List.mem_of_getElem? (i := 986) (by decide +kernel), List.mem_of_getElem? (i := 1282) (by decide +kernel), List.mem_of_getElem? (i := 1283) (by decide +kernel)⟩
theorem lw_p69 : lw_okq (⟨"OxenHomeModel", "canCome", "(II)Z"⟩, 33) := ⟨⟨by decide +kernel, by decide +kernel⟩, List.mem_of_getElem? (i := 986) (by decide +kernel), List.mem_of_getElem? (i := 1305) (by decide +kernel), List.mem_of_getElem? (i := 1306) (by decide +kernel)⟩
theorem lw_p70 : lw_okq (⟨"OxenHomeModel", "keep", "()V"⟩, 33) := ⟨⟨by decide +kernel, by decide +kernel⟩, List.mem_of_getElem? (i := 986) (by decide +kernel), List.mem_of_getElem? (i := 1309) (by decide +kernel), List.mem_of_getElem? (i := 1310) (by decide +kernel)⟩
theorem lw_p71 : lw_okq (⟨"OxenHomeModel", "part", "(I)V"⟩, 33) := ⟨⟨by decide +kernel, by decide +kernel⟩, List.mem_of_getElem? (i := 986) (by decide +kernel), List.mem_of_getElem? (i := 1317) (by decide +kernel), List.mem_of_getElem? (i := 1318) (by decide +kernel)⟩
theorem lw_p72 : lw_okq (⟨"OxenHomeModel", "pitchOf", "(I)I"⟩, 33) := ⟨⟨by decide +kernel, by decide +kernel⟩, List.mem_of_getElem? (i := 986) (by decide +kernel), List.mem_of_getElem? (i := 1333) (by decide +kernel), List.mem_of_getElem? (i := 1334) (by decide +kernel)⟩
theorem lw_p73 : lw_okq (⟨"OxenHomeModel", "goal", "()I"⟩, 33) := ⟨⟨by decide +kernel, by decide +kernel⟩, List.mem_of_getElem? (i := 986) (by decide +kernel), List.mem_of_getElem? (i := 1337) (by decide +kernel), List.mem_of_getElem? (i := 1338) (by decide +kernel)⟩
theorem lw_p74 : lw_okq (⟨"OxenHomeModel", "workOf", "(IIII)I"⟩, 33) := ⟨⟨by decide +kernel, by decide +kernel⟩, List.mem_of_getElem? (i := 986) (by decide +kernel), List.mem_of_getElem? (i := 1345) (by decide +kernel), List.mem_of_getElem? (i := 1346) (by decide +kernel)⟩
theorem lw_p75 : lw_okq (⟨"OxenHomeModel", "doneOf", "(IIII)I"⟩, 33) := ⟨⟨by decide +kernel, by decide +kernel⟩, List.mem_of_getElem? (i := 986) (by decide +kernel), List.mem_of_getElem? (i := 1372) (by decide +kernel), List.mem_of_getElem? (i := 1373) (by decide +kernel)⟩
theorem lw_p76 : lw_okq (⟨"OxenHomeModel", "stayOf", "(IIII)I"⟩, 33) := ⟨⟨by decide +kernel, by decide +kernel⟩, List.mem_of_getElem? (i := 986) (by decide +kernel), List.mem_of_getElem? (i := 1376) (by decide +kernel), List.mem_of_getElem? (i := 1377) (by decide +kernel)⟩
theorem lw_p77 : lw_okq (⟨"OxenHomeModel", "isCalled", "(III)Z"⟩, 33) := ⟨⟨by decide +kernel, by decide +kernel⟩, List.mem_of_getElem? (i := 986) (by decide +kernel), List.mem_of_getElem? (i := 1380) (by decide +kernel), List.mem_of_getElem? (i := 1381) (by decide +kernel)⟩
theorem lw_p78 : lw_okq (⟨"OxenHomeModel", "isPair", "(II)Z"⟩, 33) := ⟨⟨by decide +kernel, by decide +kernel⟩, List.mem_of_getElem? (i := 986) (by decide +kernel), List.mem_of_getElem? (i := 1388) (by decide +kernel), List.mem_of_getElem? (i := 1389) (by decide +kernel)⟩
theorem lw_p79 : lw_okq (⟨"OxenHomeModel", "by", "(III)I"⟩, 33) := ⟨⟨by decide +kernel, by decide +kernel⟩, List.mem_of_getElem? (i := 986) (by decide +kernel), List.mem_of_getElem? (i := 1395) (by decide +kernel), List.mem_of_getElem? (i := 1396) (by decide +kernel)⟩
def lw_privs_5 : List (MethodName × Nat) := [(⟨"OxenHomeModel", "told", "(II)I"⟩, 33), (⟨"OxenHomeModel", "far", "(II)I"⟩, 33), (⟨"OxenHomeModel", "isHeeded", "()Z"⟩, 33), (⟨"OxenHomeModel", "clauseOf", "(I)I"⟩, 33), (⟨"OxenHomeModel", "work", "(I)V"⟩, 33), (⟨"OxenHomeModel", "canCome", "(II)Z"⟩, 33), (⟨"OxenHomeModel", "keep", "()V"⟩, 33), (⟨"OxenHomeModel", "part", "(I)V"⟩, 33), (⟨"OxenHomeModel", "pitchOf", "(I)I"⟩, 33), (⟨"OxenHomeModel", "goal", "()I"⟩, 33), (⟨"OxenHomeModel", "workOf", "(IIII)I"⟩, 33), (⟨"OxenHomeModel", "doneOf", "(IIII)I"⟩, 33), (⟨"OxenHomeModel", "stayOf", "(IIII)I"⟩, 33), (⟨"OxenHomeModel", "isCalled", "(III)Z"⟩, 33), (⟨"OxenHomeModel", "isPair", "(II)Z"⟩, 33), (⟨"OxenHomeModel", "by", "(III)I"⟩, 33)]
theorem lw_r5 : ∀ q ∈ lw_privs_5, lw_okq q := List.forall_mem_cons.mpr ⟨lw_p64, List.forall_mem_cons.mpr ⟨lw_p65, List.forall_mem_cons.mpr ⟨lw_p66, List.forall_mem_cons.mpr ⟨lw_p67, List.forall_mem_cons.mpr ⟨lw_p68, List.forall_mem_cons.mpr ⟨lw_p69, List.forall_mem_cons.mpr ⟨lw_p70, List.forall_mem_cons.mpr ⟨lw_p71, List.forall_mem_cons.mpr ⟨lw_p72, List.forall_mem_cons.mpr ⟨lw_p73, List.forall_mem_cons.mpr ⟨lw_p74, List.forall_mem_cons.mpr ⟨lw_p75, List.forall_mem_cons.mpr ⟨lw_p76, List.forall_mem_cons.mpr ⟨lw_p77, List.forall_mem_cons.mpr ⟨lw_p78, List.forall_mem_cons.mpr ⟨lw_p79, fun _ h => absurd h List.not_mem_nil⟩⟩⟩⟩⟩⟩⟩⟩⟩⟩⟩⟩⟩⟩⟩⟩
theorem lw_p80 : lw_okq (⟨"OxenHomeModel", "weightOf", "(IIIIII)J"⟩, 33) := ⟨⟨by decide +kernel, by decide +kernel⟩, List.mem_of_getElem? (i := 986) (by decide +kernel), List.mem_of_getElem? (i := 1408) (by decide +kernel), List.mem_of_getElem? (i := 1409) (by decide +kernel)⟩
theorem lw_p81 : lw_okq (⟨"OxenHomeModel", "callsOf", "(III)I"⟩, 33) := ⟨⟨by decide +kernel, by decide +kernel⟩, List.mem_of_getElem? (i := 986) (by decide +kernel), List.mem_of_getElem? (i := 1412) (by decide +kernel), List.mem_of_getElem? (i := 1413) (by decide +kernel)⟩
theorem lw_p82 : lw_okq (⟨"OxenHomeModel", "slip", "()I"⟩, 33) := ⟨⟨by decide +kernel, by decide +kernel⟩, List.mem_of_getElem? (i := 986) (by decide +kernel), List.mem_of_getElem? (i := 1416) (by decide +kernel), List.mem_of_getElem? (i := 1417) (by decide +kernel)⟩
theorem lw_p83 : lw_okq (⟨"OxenHomeModel", "set", "(II)I"⟩, 33) := ⟨⟨by decide +kernel, by decide +kernel⟩, List.mem_of_getElem? (i := 986) (by decide +kernel), List.mem_of_getElem? (i := 1427) (by decide +kernel), List.mem_of_getElem? (i := 1428) (by decide +kernel)⟩
theorem lw_p84 : lw_okq (⟨"OxenHomeModel", "mayBe", "(III)Z"⟩, 33) := ⟨⟨by decide +kernel, by decide +kernel⟩, List.mem_of_getElem? (i := 986) (by decide +kernel), List.mem_of_getElem? (i := 1431) (by decide +kernel), List.mem_of_getElem? (i := 1432) (by decide +kernel)⟩
theorem lw_p85 : lw_okq (⟨"OxenHomeModel", "changed", "(I)I"⟩, 33) := ⟨⟨by decide +kernel, by decide +kernel⟩, List.mem_of_getElem? (i := 986) (by decide +kernel), List.mem_of_getElem? (i := 1435) (by decide +kernel), List.mem_of_getElem? (i := 1436) (by decide +kernel)⟩
theorem lw_p86 : lw_okq (⟨"OxenHomeModel", "isApart", "(II)Z"⟩, 33) := ⟨⟨by decide +kernel, by decide +kernel⟩, List.mem_of_getElem? (i := 986) (by decide +kernel), List.mem_of_getElem? (i := 1439) (by decide +kernel), List.mem_of_getElem? (i := 1440) (by decide +kernel)⟩
theorem lw_p87 : lw_okq (⟨"OxenHomeModel", "strike", "(I)I"⟩, 33) := ⟨⟨by decide +kernel, by decide +kernel⟩, List.mem_of_getElem? (i := 986) (by decide +kernel), List.mem_of_getElem? (i := 1447) (by decide +kernel), List.mem_of_getElem? (i := 1448) (by decide +kernel)⟩
def lw_privs_6 : List (MethodName × Nat) := [(⟨"OxenHomeModel", "weightOf", "(IIIIII)J"⟩, 33), (⟨"OxenHomeModel", "callsOf", "(III)I"⟩, 33), (⟨"OxenHomeModel", "slip", "()I"⟩, 33), (⟨"OxenHomeModel", "set", "(II)I"⟩, 33), (⟨"OxenHomeModel", "mayBe", "(III)Z"⟩, 33), (⟨"OxenHomeModel", "changed", "(I)I"⟩, 33), (⟨"OxenHomeModel", "isApart", "(II)Z"⟩, 33), (⟨"OxenHomeModel", "strike", "(I)I"⟩, 33)]
theorem lw_r6 : ∀ q ∈ lw_privs_6, lw_okq q := List.forall_mem_cons.mpr ⟨lw_p80, List.forall_mem_cons.mpr ⟨lw_p81, List.forall_mem_cons.mpr ⟨lw_p82, List.forall_mem_cons.mpr ⟨lw_p83, List.forall_mem_cons.mpr ⟨lw_p84, List.forall_mem_cons.mpr ⟨lw_p85, List.forall_mem_cons.mpr ⟨lw_p86, List.forall_mem_cons.mpr ⟨lw_p87, fun _ h => absurd h List.not_mem_nil⟩⟩⟩⟩⟩⟩⟩⟩
def lw_privs : List (MethodName × Nat) := lw_privs_1 ++ (lw_privs_2 ++ (lw_privs_3 ++ (lw_privs_4 ++ (lw_privs_5 ++ (lw_privs_6)))))
def lw_tbl : List Cond := k2_sels lw_privs ++ tables_1
theorem lw_privs_ok : ∀ q ∈ lw_privs, lw_okq q := by
  show ∀ q ∈ lw_privs_1 ++ (lw_privs_2 ++ (lw_privs_3 ++ (lw_privs_4 ++ (lw_privs_5 ++ (lw_privs_6))))), lw_okq q
  exact List.forall_mem_append.mpr ⟨lw_r1, List.forall_mem_append.mpr ⟨lw_r2, List.forall_mem_append.mpr ⟨lw_r3, List.forall_mem_append.mpr ⟨lw_r4, List.forall_mem_append.mpr ⟨lw_r5, lw_r6⟩⟩⟩⟩⟩
-- names: made by program out of the claim's own names (as the guide bids)
def RX0 : String := "OxenHome$Herd"
def TX0 : u_T := fun k => match k with
  | _ => ("OxenHome$Herd", "cells", "LOxenHome$Row;", true)
def tyX0 : Nat → FieldType := fun k => match k with
  | _ => .object "OxenHome$Row"
abbrev wsX00 : List Cond := u_ws RX0 TX0 1
theorem nmX0 : ∀ a, a < 1 → ∀ b, b < 1 → a ≠ b → (TX0 a).2.1 ≠ (TX0 b).2.1 := by decide +kernel
theorem tyX0_ok : ∀ k, k < 1 → parseFieldDescriptor (TX0 k).2.2.1 = some (tyX0 k) := by decide +kernel
abbrev cX0_init : ByteArray := prog_2_method_1_code
def yX0_init : MethodName := ⟨RX0, "<init>", "()V"⟩
abbrev cX0_hour : ByteArray := prog_2_method_2_code
def yX0_hour : MethodName := ⟨RX0, "hour", "()I"⟩
abbrev cX0_setHour : ByteArray := prog_2_method_3_code
def yX0_setHour : MethodName := ⟨RX0, "setHour", "(I)V"⟩
abbrev cX0_fields : ByteArray := prog_2_method_4_code
def yX0_fields : MethodName := ⟨RX0, "fields", "()I"⟩
abbrev cX0_oxen : ByteArray := prog_2_method_5_code
def yX0_oxen : MethodName := ⟨RX0, "oxen", "()I"⟩
abbrev cX0_furrows : ByteArray := prog_2_method_6_code
def yX0_furrows : MethodName := ⟨RX0, "furrows", "(I)I"⟩
abbrev cX0_setFurrows : ByteArray := prog_2_method_7_code
def yX0_setFurrows : MethodName := ⟨RX0, "setFurrows", "(II)V"⟩
abbrev cX0_get : ByteArray := prog_2_method_8_code
def yX0_get : MethodName := ⟨RX0, "get", "(II)I"⟩
abbrev cX0_put : ByteArray := prog_2_method_9_code
def yX0_put : MethodName := ⟨RX0, "put", "(III)V"⟩
abbrev cX0_addField : ByteArray := prog_2_method_10_code
def yX0_addField : MethodName := ⟨RX0, "addField", "(I)V"⟩
abbrev cX0_addOx : ByteArray := prog_2_method_11_code
def yX0_addOx : MethodName := ⟨RX0, "addOx", "(IIII)V"⟩
abbrev cX0_unyoke : ByteArray := prog_2_method_12_code
def yX0_unyoke : MethodName := ⟨RX0, "unyoke", "(I)V"⟩
abbrev cX0_sleepAtOwner : ByteArray := prog_2_method_13_code
def yX0_sleepAtOwner : MethodName := ⟨RX0, "sleepAtOwner", "(I)Z"⟩
abbrev cX0_copyFrom : ByteArray := prog_2_method_14_code
def yX0_copyFrom : MethodName := ⟨RX0, "copyFrom", "(LOxenHome$Herd;)V"⟩
abbrev cX0_writeTo : ByteArray := prog_2_method_15_code
def yX0_writeTo : MethodName := ⟨RX0, "writeTo", "(LOxenHome$Row;I)V"⟩
abbrev cX0_readBack : ByteArray := prog_2_method_16_code
def yX0_readBack : MethodName := ⟨RX0, "readBack", "(LOxenHome$Row;I)V"⟩
def RX1 : String := "OxenHome$Laws"
def TX1 : u_T := fun k => match k with
  | 0 => ("OxenHome$Laws", "yard", "LOxenHome$Yard;", true)
  | 1 => ("OxenHome$Laws", "texts", "LOxenHome$Texts;", true)
  | 2 => ("OxenHome$Laws", "names", "LOxenHome$Row;", true)
  | 3 => ("OxenHome$Laws", "stack", "LOxenHome$Row;", true)
  | _ => ("OxenHome$Laws", "asked", "I", false)
def tyX1 : Nat → FieldType := fun k => match k with
  | 0 => .object "OxenHome$Yard"
  | 1 => .object "OxenHome$Texts"
  | 2 => .object "OxenHome$Row"
  | 3 => .object "OxenHome$Row"
  | _ => .int
abbrev wsX10 : List Cond := u_ws RX1 TX1 5
theorem nmX1 : ∀ a, a < 5 → ∀ b, b < 5 → a ≠ b → (TX1 a).2.1 ≠ (TX1 b).2.1 := by decide +kernel
theorem tyX1_ok : ∀ k, k < 5 → parseFieldDescriptor (TX1 k).2.2.1 = some (tyX1 k) := by decide +kernel
abbrev cX1_init : ByteArray := prog_3_method_1_code
def yX1_init : MethodName := ⟨RX1, "<init>", "(LOxenHome$Yard;LOxenHome$Texts;)V"⟩
abbrev cX1_ask : ByteArray := prog_3_method_2_code
def yX1_ask : MethodName := ⟨RX1, "ask", "(IIIIZI)V"⟩
abbrev cX1_askCall : ByteArray := prog_3_method_3_code
def yX1_askCall : MethodName := ⟨RX1, "askCall", "(III)V"⟩
abbrev cX1_heeded : ByteArray := prog_3_method_4_code
def yX1_heeded : MethodName := ⟨RX1, "heeded", "()Z"⟩
abbrev cX1_toSecond : ByteArray := prog_3_method_5_code
def yX1_toSecond : MethodName := ⟨RX1, "toSecond", "()Z"⟩
abbrev cX1_slip : ByteArray := prog_3_method_6_code
def yX1_slip : MethodName := ⟨RX1, "slip", "()I"⟩
abbrev cX1_weight : ByteArray := prog_3_method_7_code
def yX1_weight : MethodName := ⟨RX1, "weight", "(III)I"⟩
abbrev cX1_work : ByteArray := prog_3_method_8_code
def yX1_work : MethodName := ⟨RX1, "work", "(IIII)I"⟩
abbrev cX1_value : ByteArray := prog_3_method_9_code
def yX1_value : MethodName := ⟨RX1, "value", "(II)I"⟩
abbrev cX1_joined : ByteArray := prog_3_method_10_code
def yX1_joined : MethodName := ⟨RX1, "joined", "(IJJ)J"⟩
abbrev cX1_between : ByteArray := prog_3_method_11_code
def yX1_between : MethodName := ⟨RX1, "between", "(JII)I"⟩
def RX2 : String := "OxenHome$Odds"
def TX2 : u_T := fun k => match k with
  | 0 => ("OxenHome$Odds", "yard", "LOxenHome$Yard;", true)
  | 1 => ("OxenHome$Odds", "laws", "LOxenHome$Laws;", true)
  | 2 => ("OxenHome$Odds", "own", "J", false)
  | _ => ("OxenHome$Odds", "all", "J", false)
def tyX2 : Nat → FieldType := fun k => match k with
  | 0 => .object "OxenHome$Yard"
  | 1 => .object "OxenHome$Laws"
  | 2 => .long
  | _ => .long
abbrev wsX20 : List Cond := u_ws RX2 TX2 4
theorem nmX2 : ∀ a, a < 4 → ∀ b, b < 4 → a ≠ b → (TX2 a).2.1 ≠ (TX2 b).2.1 := by decide +kernel
theorem tyX2_ok : ∀ k, k < 4 → parseFieldDescriptor (TX2 k).2.2.1 = some (tyX2 k) := by decide +kernel
abbrev cX2_init : ByteArray := prog_4_method_1_code
def yX2_init : MethodName := ⟨RX2, "<init>", "(LOxenHome$Yard;LOxenHome$Laws;)V"⟩
abbrev cX2_weighAll : ByteArray := prog_4_method_2_code
def yX2_weighAll : MethodName := ⟨RX2, "weighAll", "(IIIII)V"⟩
abbrev cX2_times : ByteArray := prog_4_method_3_code
def yX2_times : MethodName := ⟨RX2, "times", "(Z)I"⟩
abbrev cX2_lowestUpper : ByteArray := prog_4_method_4_code
def yX2_lowestUpper : MethodName := ⟨RX2, "lowestUpper", "()J"⟩
abbrev cX2_lowestLower : ByteArray := prog_4_method_5_code
def yX2_lowestLower : MethodName := ⟨RX2, "lowestLower", "()J"⟩
abbrev cX2_divisor : ByteArray := prog_4_method_6_code
def yX2_divisor : MethodName := ⟨RX2, "divisor", "()J"⟩
def RX3 : String := "OxenHome$Pitches"
def TX3 : u_T := fun k => match k with
  | 0 => ("OxenHome$Pitches", "yard", "LOxenHome$Yard;", true)
  | 1 => ("OxenHome$Pitches", "laws", "LOxenHome$Laws;", true)
  | 2 => ("OxenHome$Pitches", "fits", "LOxenHome$Row;", true)
  | 3 => ("OxenHome$Pitches", "picked", "LOxenHome$Row;", true)
  | 4 => ("OxenHome$Pitches", "best", "LOxenHome$Row;", true)
  | 5 => ("OxenHome$Pitches", "distance", "I", false)
  | _ => ("OxenHome$Pitches", "least", "I", false)
def tyX3 : Nat → FieldType := fun k => match k with
  | 0 => .object "OxenHome$Yard"
  | 1 => .object "OxenHome$Laws"
  | 2 => .object "OxenHome$Row"
  | 3 => .object "OxenHome$Row"
  | 4 => .object "OxenHome$Row"
  | 5 => .int
  | _ => .int
abbrev wsX30 : List Cond := u_ws RX3 TX3 7
theorem nmX3 : ∀ a, a < 7 → ∀ b, b < 7 → a ≠ b → (TX3 a).2.1 ≠ (TX3 b).2.1 := by decide +kernel
theorem tyX3_ok : ∀ k, k < 7 → parseFieldDescriptor (TX3 k).2.2.1 = some (tyX3 k) := by decide +kernel
abbrev cX3_init : ByteArray := prog_5_method_1_code
def yX3_init : MethodName := ⟨RX3, "<init>", "(LOxenHome$Yard;LOxenHome$Laws;)V"⟩
abbrev cX3_search : ByteArray := prog_5_method_2_code
def yX3_search : MethodName := ⟨RX3, "search", "(II)V"⟩
abbrev cX3_fitsAll : ByteArray := prog_5_method_3_code
def yX3_fitsAll : MethodName := ⟨RX3, "fitsAll", "(III)Z"⟩
abbrev cX3_choose : ByteArray := prog_5_method_4_code
def yX3_choose : MethodName := ⟨RX3, "choose", "(II)V"⟩
abbrev cX3_pick : ByteArray := prog_5_method_5_code
def yX3_pick : MethodName := ⟨RX3, "pick", "(III)V"⟩
abbrev cX3_isFree : ByteArray := prog_5_method_6_code
def yX3_isFree : MethodName := ⟨RX3, "isFree", "(II)Z"⟩
def RX4 : String := "OxenHome$Planner"
def TX4 : u_T := fun k => match k with
  | 0 => ("OxenHome$Planner", "yard", "LOxenHome$Yard;", true)
  | 1 => ("OxenHome$Planner", "stays", "LOxenHome$Stays;", true)
  | 2 => ("OxenHome$Planner", "done", "LOxenHome$Row;", true)
  | 3 => ("OxenHome$Planner", "yields", "LOxenHome$Row;", true)
  | 4 => ("OxenHome$Planner", "picked", "LOxenHome$Row;", true)
  | 5 => ("OxenHome$Planner", "best", "LOxenHome$Row;", true)
  | _ => ("OxenHome$Planner", "most", "I", false)
def tyX4 : Nat → FieldType := fun k => match k with
  | 0 => .object "OxenHome$Yard"
  | 1 => .object "OxenHome$Stays"
  | 2 => .object "OxenHome$Row"
  | 3 => .object "OxenHome$Row"
  | 4 => .object "OxenHome$Row"
  | 5 => .object "OxenHome$Row"
  | _ => .int
abbrev wsX40 : List Cond := u_ws RX4 TX4 7
theorem nmX4 : ∀ a, a < 7 → ∀ b, b < 7 → a ≠ b → (TX4 a).2.1 ≠ (TX4 b).2.1 := by decide +kernel
theorem tyX4_ok : ∀ k, k < 7 → parseFieldDescriptor (TX4 k).2.2.1 = some (tyX4 k) := by decide +kernel
abbrev cX4_init : ByteArray := prog_6_method_1_code
def yX4_init : MethodName := ⟨RX4, "<init>", "(LOxenHome$Yard;LOxenHome$Stays;)V"⟩
abbrev cX4_search : ByteArray := prog_6_method_2_code
def yX4_search : MethodName := ⟨RX4, "search", "(I)V"⟩
abbrev cX4_measurePairs : ByteArray := prog_6_method_3_code
def yX4_measurePairs : MethodName := ⟨RX4, "measurePairs", "(I)V"⟩
abbrev cX4_yieldFrom : ByteArray := prog_6_method_4_code
def yX4_yieldFrom : MethodName := ⟨RX4, "yieldFrom", "(II)I"⟩
abbrev cX4_tryPair : ByteArray := prog_6_method_5_code
def yX4_tryPair : MethodName := ⟨RX4, "tryPair", "(IIII)V"⟩
abbrev cX4_follow : ByteArray := prog_6_method_6_code
def yX4_follow : MethodName := ⟨RX4, "follow", "()V"⟩
def RX5 : String := "OxenHome$Reader"
def TX5 : u_T := fun k => match k with
  | 0 => ("OxenHome$Reader", "tape", "LOxenHome$Row;", true)
  | 1 => ("OxenHome$Reader", "texts", "LOxenHome$Texts;", true)
  | 2 => ("OxenHome$Reader", "fault", "I", false)
  | 3 => ("OxenHome$Reader", "faultPlace", "I", false)
  | 4 => ("OxenHome$Reader", "length", "I", false)
  | 5 => ("OxenHome$Reader", "slot", "I", false)
  | 6 => ("OxenHome$Reader", "clause", "I", false)
  | 7 => ("OxenHome$Reader", "codeCount", "I", false)
  | 8 => ("OxenHome$Reader", "place", "I", false)
  | 9 => ("OxenHome$Reader", "ahead", "I", false)
  | 10 => ("OxenHome$Reader", "token", "I", false)
  | _ => ("OxenHome$Reader", "number", "I", false)
def tyX5 : Nat → FieldType := fun k => match k with
  | 0 => .object "OxenHome$Row"
  | 1 => .object "OxenHome$Texts"
  | 2 => .int
  | 3 => .int
  | 4 => .int
  | 5 => .int
  | 6 => .int
  | 7 => .int
  | 8 => .int
  | 9 => .int
  | 10 => .int
  | _ => .int
abbrev wsX50 : List Cond := u_ws RX5 TX5 12
theorem nmX5 : ∀ a, a < 12 → ∀ b, b < 12 → a ≠ b → (TX5 a).2.1 ≠ (TX5 b).2.1 := by decide +kernel
theorem tyX5_ok : ∀ k, k < 12 → parseFieldDescriptor (TX5 k).2.2.1 = some (tyX5 k) := by decide +kernel
abbrev cX5_init : ByteArray := prog_7_method_1_code
def yX5_init : MethodName := ⟨RX5, "<init>", "(LOxenHome$Row;LOxenHome$Texts;)V"⟩
abbrev cX5_read : ByteArray := prog_7_method_2_code
def yX5_read : MethodName := ⟨RX5, "read", "(II)Z"⟩
abbrev cX5_fail : ByteArray := prog_7_method_3_code
def yX5_fail : MethodName := ⟨RX5, "fail", "(I)V"⟩
abbrev cX5_emit : ByteArray := prog_7_method_4_code
def yX5_emit : MethodName := ⟨RX5, "emit", "(I)V"⟩
abbrev cX5_readClause : ByteArray := prog_7_method_5_code
def yX5_readClause : MethodName := ⟨RX5, "readClause", "()V"⟩
abbrev cX5_readRank : ByteArray := prog_7_method_6_code
def yX5_readRank : MethodName := ⟨RX5, "readRank", "(II)V"⟩
abbrev cX5_readJoined : ByteArray := prog_7_method_7_code
def yX5_readJoined : MethodName := ⟨RX5, "readJoined", "(II)V"⟩
abbrev cX5_readAsk : ByteArray := prog_7_method_8_code
def yX5_readAsk : MethodName := ⟨RX5, "readAsk", "(I)V"⟩
abbrev cX5_readOne : ByteArray := prog_7_method_9_code
def yX5_readOne : MethodName := ⟨RX5, "readOne", "(I)V"⟩
abbrev cX5_readOpened : ByteArray := prog_7_method_10_code
def yX5_readOpened : MethodName := ⟨RX5, "readOpened", "(II)V"⟩
abbrev cX5_close : ByteArray := prog_7_method_11_code
def yX5_close : MethodName := ⟨RX5, "close", "()V"⟩
abbrev cX5_readNumber : ByteArray := prog_7_method_12_code
def yX5_readNumber : MethodName := ⟨RX5, "readNumber", "()V"⟩
abbrev cX5_readName : ByteArray := prog_7_method_13_code
def yX5_readName : MethodName := ⟨RX5, "readName", "()V"⟩
abbrev cX5_joins : ByteArray := prog_7_method_14_code
def yX5_joins : MethodName := ⟨RX5, "joins", "(II)Z"⟩
abbrev cX5_isComparison : ByteArray := prog_7_method_15_code
def yX5_isComparison : MethodName := ⟨RX5, "isComparison", "(I)Z"⟩
abbrev cX5_isNameOf : ByteArray := prog_7_method_16_code
def yX5_isNameOf : MethodName := ⟨RX5, "isNameOf", "(II)Z"⟩
abbrev cX5_step : ByteArray := prog_7_method_17_code
def yX5_step : MethodName := ⟨RX5, "step", "()V"⟩
abbrev cX5_passLetters : ByteArray := prog_7_method_18_code
def yX5_passLetters : MethodName := ⟨RX5, "passLetters", "()V"⟩
abbrev cX5_wordAt : ByteArray := prog_7_method_19_code
def yX5_wordAt : MethodName := ⟨RX5, "wordAt", "(II)I"⟩
abbrev cX5_takeNumber : ByteArray := prog_7_method_20_code
def yX5_takeNumber : MethodName := ⟨RX5, "takeNumber", "()V"⟩
abbrev cX5_takeSign : ByteArray := prog_7_method_21_code
def yX5_takeSign : MethodName := ⟨RX5, "takeSign", "(I)V"⟩
abbrev cX5_isBlank : ByteArray := prog_7_method_22_code
def yX5_isBlank : MethodName := ⟨RX5, "isBlank", "(I)Z"⟩
abbrev cX5_isLetter : ByteArray := prog_7_method_23_code
def yX5_isLetter : MethodName := ⟨RX5, "isLetter", "(I)Z"⟩
abbrev cX5_isFigure : ByteArray := prog_7_method_24_code
def yX5_isFigure : MethodName := ⟨RX5, "isFigure", "(I)Z"⟩
def RX6 : String := "OxenHome$Row"
def TX6 : u_T := fun k => match k with
  | _ => ("OxenHome$Row", "cells", "[I", true)
def tyX6 : Nat → FieldType := fun k => match k with
  | _ => .array .int
abbrev wsX60 : List Cond := u_ws RX6 TX6 1
theorem nmX6 : ∀ a, a < 1 → ∀ b, b < 1 → a ≠ b → (TX6 a).2.1 ≠ (TX6 b).2.1 := by decide +kernel
theorem tyX6_ok : ∀ k, k < 1 → parseFieldDescriptor (TX6 k).2.2.1 = some (tyX6 k) := by decide +kernel
abbrev cX6_init : ByteArray := prog_8_method_1_code
def yX6_init : MethodName := ⟨RX6, "<init>", "(I)V"⟩
abbrev cX6_get : ByteArray := prog_8_method_2_code
def yX6_get : MethodName := ⟨RX6, "get", "(I)I"⟩
abbrev cX6_put : ByteArray := prog_8_method_3_code
def yX6_put : MethodName := ⟨RX6, "put", "(II)V"⟩
abbrev cX6_copyFrom : ByteArray := prog_8_method_4_code
def yX6_copyFrom : MethodName := ⟨RX6, "copyFrom", "(LOxenHome$Row;)V"⟩
abbrev cX6_copyPart : ByteArray := prog_8_method_5_code
def yX6_copyPart : MethodName := ⟨RX6, "copyPart", "(ILOxenHome$Row;II)V"⟩
def RX7 : String := "OxenHome$Stays"
def TX7 : u_T := fun k => match k with
  | 0 => ("OxenHome$Stays", "yard", "LOxenHome$Yard;", true)
  | 1 => ("OxenHome$Stays", "laws", "LOxenHome$Laws;", true)
  | _ => ("OxenHome$Stays", "till", "LOxenHome$Row;", true)
def tyX7 : Nat → FieldType := fun k => match k with
  | 0 => .object "OxenHome$Yard"
  | 1 => .object "OxenHome$Laws"
  | _ => .object "OxenHome$Row"
abbrev wsX70 : List Cond := u_ws RX7 TX7 3
theorem nmX7 : ∀ a, a < 3 → ∀ b, b < 3 → a ≠ b → (TX7 a).2.1 ≠ (TX7 b).2.1 := by decide +kernel
theorem tyX7_ok : ∀ k, k < 3 → parseFieldDescriptor (TX7 k).2.2.1 = some (tyX7 k) := by decide +kernel
abbrev cX7_init : ByteArray := prog_9_method_1_code
def yX7_init : MethodName := ⟨RX7, "<init>", "(LOxenHome$Yard;LOxenHome$Laws;)V"⟩
abbrev cX7_hoursTill : ByteArray := prog_9_method_2_code
def yX7_hoursTill : MethodName := ⟨RX7, "hoursTill", "(III)I"⟩
abbrev cX7_heedsCallAt : ByteArray := prog_9_method_3_code
def yX7_heedsCallAt : MethodName := ⟨RX7, "heedsCallAt", "(III)Z"⟩
abbrev cX7_doneIn : ByteArray := prog_9_method_4_code
def yX7_doneIn : MethodName := ⟨RX7, "doneIn", "(IIII)I"⟩
abbrev cX7_measure : ByteArray := prog_9_method_5_code
def yX7_measure : MethodName := ⟨RX7, "measure", "(II)V"⟩
abbrev cX7_measured : ByteArray := prog_9_method_6_code
def yX7_measured : MethodName := ⟨RX7, "measured", "(II)I"⟩
abbrev cX7_longestPair : ByteArray := prog_9_method_7_code
def yX7_longestPair : MethodName := ⟨RX7, "longestPair", "(II)I"⟩
def RX8 : String := "OxenHome$Steps"
def TX8 : u_T := fun k => match k with
  | 0 => ("OxenHome$Steps", "past", "LOxenHome$Row;", true)
  | 1 => ("OxenHome$Steps", "next", "I", false)
  | _ => ("OxenHome$Steps", "count", "I", false)
def tyX8 : Nat → FieldType := fun k => match k with
  | 0 => .object "OxenHome$Row"
  | 1 => .int
  | _ => .int
abbrev wsX80 : List Cond := u_ws RX8 TX8 3
theorem nmX8 : ∀ a, a < 3 → ∀ b, b < 3 → a ≠ b → (TX8 a).2.1 ≠ (TX8 b).2.1 := by decide +kernel
theorem tyX8_ok : ∀ k, k < 3 → parseFieldDescriptor (TX8 k).2.2.1 = some (tyX8 k) := by decide +kernel
abbrev cX8_init : ByteArray := prog_10_method_1_code
def yX8_init : MethodName := ⟨RX8, "<init>", "()V"⟩
abbrev cX8_count : ByteArray := prog_10_method_2_code
def yX8_count : MethodName := ⟨RX8, "count", "()I"⟩
abbrev cX8_keep : ByteArray := prog_10_method_3_code
def yX8_keep : MethodName := ⟨RX8, "keep", "(LOxenHome$Herd;)V"⟩
abbrev cX8_takeBack : ByteArray := prog_10_method_4_code
def yX8_takeBack : MethodName := ⟨RX8, "takeBack", "(LOxenHome$Herd;)I"⟩
abbrev cX8_copyFrom : ByteArray := prog_10_method_5_code
def yX8_copyFrom : MethodName := ⟨RX8, "copyFrom", "(LOxenHome$Steps;)V"⟩
def RX9 : String := "OxenHome$Texts"
def TX9 : u_T := fun k => match k with
  | 0 => ("OxenHome$Texts", "codes", "LOxenHome$Row;", true)
  | 1 => ("OxenHome$Texts", "first", "LOxenHome$Row;", true)
  | _ => ("OxenHome$Texts", "last", "LOxenHome$Row;", true)
def tyX9 : Nat → FieldType := fun k => match k with
  | 0 => .object "OxenHome$Row"
  | 1 => .object "OxenHome$Row"
  | _ => .object "OxenHome$Row"
abbrev wsX90 : List Cond := u_ws RX9 TX9 3
theorem nmX9 : ∀ a, a < 3 → ∀ b, b < 3 → a ≠ b → (TX9 a).2.1 ≠ (TX9 b).2.1 := by decide +kernel
theorem tyX9_ok : ∀ k, k < 3 → parseFieldDescriptor (TX9 k).2.2.1 = some (tyX9 k) := by decide +kernel
abbrev cX9_init : ByteArray := prog_11_method_1_code
def yX9_init : MethodName := ⟨RX9, "<init>", "()V"⟩
abbrev cX9_clear : ByteArray := prog_11_method_2_code
def yX9_clear : MethodName := ⟨RX9, "clear", "(I)V"⟩
abbrev cX9_setClause : ByteArray := prog_11_method_3_code
def yX9_setClause : MethodName := ⟨RX9, "setClause", "(IIII)V"⟩
abbrev cX9_has : ByteArray := prog_11_method_4_code
def yX9_has : MethodName := ⟨RX9, "has", "(II)Z"⟩
def RX10 : String := "OxenHome$Yard"
def TX10 : u_T := fun k => match k with
  | 0 => ("OxenHome$Yard", "farms", "I", false)
  | 1 => ("OxenHome$Yard", "farmX", "LOxenHome$Row;", true)
  | 2 => ("OxenHome$Yard", "farmY", "LOxenHome$Row;", true)
  | 3 => ("OxenHome$Yard", "pitch", "LOxenHome$Row;", true)
  | 4 => ("OxenHome$Yard", "fieldX", "LOxenHome$Row;", true)
  | 5 => ("OxenHome$Yard", "fieldY", "LOxenHome$Row;", true)
  | 6 => ("OxenHome$Yard", "soil", "LOxenHome$Row;", true)
  | 7 => ("OxenHome$Yard", "herd", "LOxenHome$Herd;", true)
  | 8 => ("OxenHome$Yard", "steps", "LOxenHome$Steps;", true)
  | 9 => ("OxenHome$Yard", "calls", "I", false)
  | 10 => ("OxenHome$Yard", "callHour", "LOxenHome$Row;", true)
  | 11 => ("OxenHome$Yard", "callFarm", "LOxenHome$Row;", true)
  | 12 => ("OxenHome$Yard", "texts", "I", false)
  | _ => ("OxenHome$Yard", "ruling", "I", false)
def tyX10 : Nat → FieldType := fun k => match k with
  | 0 => .int
  | 1 => .object "OxenHome$Row"
  | 2 => .object "OxenHome$Row"
  | 3 => .object "OxenHome$Row"
  | 4 => .object "OxenHome$Row"
  | 5 => .object "OxenHome$Row"
  | 6 => .object "OxenHome$Row"
  | 7 => .object "OxenHome$Herd"
  | 8 => .object "OxenHome$Steps"
  | 9 => .int
  | 10 => .object "OxenHome$Row"
  | 11 => .object "OxenHome$Row"
  | 12 => .int
  | _ => .int
abbrev wsX100 : List Cond := u_ws RX10 TX10 14
theorem nmX10 : ∀ a, a < 14 → ∀ b, b < 14 → a ≠ b → (TX10 a).2.1 ≠ (TX10 b).2.1 := by decide +kernel
theorem tyX10_ok : ∀ k, k < 14 → parseFieldDescriptor (TX10 k).2.2.1 = some (tyX10 k) := by decide +kernel
abbrev cX10_init : ByteArray := prog_12_method_1_code
def yX10_init : MethodName := ⟨RX10, "<init>", "()V"⟩
abbrev cX10_keepStep : ByteArray := prog_12_method_2_code
def yX10_keepStep : MethodName := ⟨RX10, "keepStep", "()V"⟩
abbrev cX10_copyFrom : ByteArray := prog_12_method_3_code
def yX10_copyFrom : MethodName := ⟨RX10, "copyFrom", "(LOxenHome$Yard;)V"⟩
abbrev cX10_far : ByteArray := prog_12_method_4_code
def yX10_far : MethodName := ⟨RX10, "far", "(II)I"⟩
def RX11 : String := "OxenHome"
def TX11 : u_T := fun k => match k with
  | 0 => ("OxenHome", "tape", "LOxenHome$Row;", true)
  | 1 => ("OxenHome", "bytes", "I", false)
  | 2 => ("OxenHome", "now", "LOxenHome$Yard;", true)
  | 3 => ("OxenHome", "kept", "LOxenHome$Yard;", true)
  | 4 => ("OxenHome", "tried", "LOxenHome$Herd;", true)
  | 5 => ("OxenHome", "reader", "LOxenHome$Reader;", true)
  | 6 => ("OxenHome", "laws", "LOxenHome$Laws;", true)
  | 7 => ("OxenHome", "stays", "LOxenHome$Stays;", true)
  | 8 => ("OxenHome", "planner", "LOxenHome$Planner;", true)
  | 9 => ("OxenHome", "odds", "LOxenHome$Odds;", true)
  | _ => ("OxenHome", "pitches", "LOxenHome$Pitches;", true)
def tyX11 : Nat → FieldType := fun k => match k with
  | 0 => .object "OxenHome$Row"
  | 1 => .int
  | 2 => .object "OxenHome$Yard"
  | 3 => .object "OxenHome$Yard"
  | 4 => .object "OxenHome$Herd"
  | 5 => .object "OxenHome$Reader"
  | 6 => .object "OxenHome$Laws"
  | 7 => .object "OxenHome$Stays"
  | 8 => .object "OxenHome$Planner"
  | 9 => .object "OxenHome$Odds"
  | _ => .object "OxenHome$Pitches"
abbrev wsX110 : List Cond := u_ws RX11 TX11 11
theorem nmX11 : ∀ a, a < 11 → ∀ b, b < 11 → a ≠ b → (TX11 a).2.1 ≠ (TX11 b).2.1 := by decide +kernel
theorem tyX11_ok : ∀ k, k < 11 → parseFieldDescriptor (TX11 k).2.2.1 = some (tyX11 k) := by decide +kernel
abbrev cX11_init : ByteArray := prog_1_method_1_code
def yX11_init : MethodName := ⟨RX11, "<init>", "()V"⟩
abbrev cX11_farm : ByteArray := prog_1_method_2_code
def yX11_farm : MethodName := ⟨RX11, "farm", "(III)I"⟩
abbrev cX11_field : ByteArray := prog_1_method_3_code
def yX11_field : MethodName := ⟨RX11, "field", "(IIII)I"⟩
abbrev cX11_ox : ByteArray := prog_1_method_4_code
def yX11_ox : MethodName := ⟨RX11, "ox", "(IIII)I"⟩
abbrev cX11_feed : ByteArray := prog_1_method_5_code
def yX11_feed : MethodName := ⟨RX11, "feed", "(IIIII)I"⟩
abbrev cX11_feedFour : ByteArray := prog_1_method_6_code
def yX11_feedFour : MethodName := ⟨RX11, "feedFour", "(I)V"⟩
abbrev cX11_end : ByteArray := prog_1_method_7_code
def yX11_end : MethodName := ⟨RX11, "end", "(I)I"⟩
abbrev cX11_text : ByteArray := prog_1_method_8_code
def yX11_text : MethodName := ⟨RX11, "text", "()I"⟩
abbrev cX11_fault : ByteArray := prog_1_method_9_code
def yX11_fault : MethodName := ⟨RX11, "fault", "(I)I"⟩
abbrev cX11_by : ByteArray := prog_1_method_10_code
def yX11_by : MethodName := ⟨RX11, "by", "(I)Z"⟩
abbrev cX11_yoke : ByteArray := prog_1_method_11_code
def yX11_yoke : MethodName := ⟨RX11, "yoke", "(III)Z"⟩
abbrev cX11_canBeYoked : ByteArray := prog_1_method_12_code
def yX11_canBeYoked : MethodName := ⟨RX11, "canBeYoked", "(II)Z"⟩
abbrev cX11_loose : ByteArray := prog_1_method_13_code
def yX11_loose : MethodName := ⟨RX11, "loose", "(I)Z"⟩
abbrev cX11_drive : ByteArray := prog_1_method_14_code
def yX11_drive : MethodName := ⟨RX11, "drive", "(II)Z"⟩
abbrev cX11_sell : ByteArray := prog_1_method_15_code
def yX11_sell : MethodName := ⟨RX11, "sell", "(II)Z"⟩
abbrev cX11_whistle : ByteArray := prog_1_method_16_code
def yX11_whistle : MethodName := ⟨RX11, "whistle", "(I)I"⟩
abbrev cX11_blow : ByteArray := prog_1_method_17_code
def yX11_blow : MethodName := ⟨RX11, "blow", "(LOxenHome$Herd;II)I"⟩
abbrev cX11_plough : ByteArray := prog_1_method_18_code
def yX11_plough : MethodName := ⟨RX11, "plough", "()I"⟩
abbrev cX11_night : ByteArray := prog_1_method_19_code
def yX11_night : MethodName := ⟨RX11, "night", "()I"⟩
abbrev cX11_undo : ByteArray := prog_1_method_20_code
def yX11_undo : MethodName := ⟨RX11, "undo", "()I"⟩
abbrev cX11_of : ByteArray := prog_1_method_21_code
def yX11_of : MethodName := ⟨RX11, "of", "(II)I"⟩
abbrev cX11_heeds : ByteArray := prog_1_method_22_code
def yX11_heeds : MethodName := ⟨RX11, "heeds", "(IIIIZ)Z"⟩
abbrev cX11_call : ByteArray := prog_1_method_23_code
def yX11_call : MethodName := ⟨RX11, "call", "(II)I"⟩
abbrev cX11_hush : ByteArray := prog_1_method_24_code
def yX11_hush : MethodName := ⟨RX11, "hush", "()I"⟩
abbrev cX11_stay : ByteArray := prog_1_method_25_code
def yX11_stay : MethodName := ⟨RX11, "stay", "(IIIIZ)I"⟩
abbrev cX11_plan : ByteArray := prog_1_method_26_code
def yX11_plan : MethodName := ⟨RX11, "plan", "(II)I"⟩
abbrev cX11_longest : ByteArray := prog_1_method_27_code
def yX11_longest : MethodName := ⟨RX11, "longest", "(II)I"⟩
abbrev cX11_dark : ByteArray := prog_1_method_28_code
def yX11_dark : MethodName := ⟨RX11, "dark", "(IIIIII)J"⟩
abbrev cX11_apart : ByteArray := prog_1_method_29_code
def yX11_apart : MethodName := ⟨RX11, "apart", "(III)I"⟩
abbrev cX11_thunder : ByteArray := prog_1_method_30_code
def yX11_thunder : MethodName := ⟨RX11, "thunder", "(II)I"⟩
abbrev cX11_image : ByteArray := prog_1_method_31_code
def yX11_image : MethodName := ⟨RX11, "image", "()I"⟩
abbrev cX11_back : ByteArray := prog_1_method_32_code
def yX11_back : MethodName := ⟨RX11, "back", "()I"⟩
abbrev cX11_about : ByteArray := prog_1_method_33_code
def yX11_about : MethodName := ⟨RX11, "about", "(I)I"⟩
abbrev cX11_within : ByteArray := prog_1_method_34_code
def yX11_within : MethodName := ⟨RX11, "within", "(III)Z"⟩
abbrev cX11_isIn : ByteArray := prog_1_method_35_code
def yX11_isIn : MethodName := ⟨RX11, "isIn", "(II)Z"⟩
abbrev cX11_isPlace : ByteArray := prog_1_method_36_code
def yX11_isPlace : MethodName := ⟨RX11, "isPlace", "(II)Z"⟩
abbrev cX11_isDigit : ByteArray := prog_1_method_37_code
def yX11_isDigit : MethodName := ⟨RX11, "isDigit", "(I)Z"⟩
abbrev cX11_isHour : ByteArray := prog_1_method_38_code
def yX11_isHour : MethodName := ⟨RX11, "isHour", "(I)Z"⟩
abbrev cX11_isFarm : ByteArray := prog_1_method_39_code
def yX11_isFarm : MethodName := ⟨RX11, "isFarm", "(I)Z"⟩
abbrev cX11_isFarmOrNone : ByteArray := prog_1_method_40_code
def yX11_isFarmOrNone : MethodName := ⟨RX11, "isFarmOrNone", "(I)Z"⟩
abbrev cX11_isField : ByteArray := prog_1_method_41_code
def yX11_isField : MethodName := ⟨RX11, "isField", "(I)Z"⟩
abbrev cX11_isOx : ByteArray := prog_1_method_42_code
def yX11_isOx : MethodName := ⟨RX11, "isOx", "(I)Z"⟩
abbrev cX11_isPair : ByteArray := prog_1_method_43_code
def yX11_isPair : MethodName := ⟨RX11, "isPair", "(II)Z"⟩
def RX12 : String := "OxenHomeModel"
def TX12 : u_T := fun k => match k with
  | 0 => ("OxenHomeModel", "a", "[I", true)
  | 1 => ("OxenHomeModel", "image", "[I", true)
  | 2 => ("OxenHomeModel", "texts", "[I", true)
  | 3 => ("OxenHomeModel", "tape", "[I", true)
  | 4 => ("OxenHomeModel", "taped", "I", false)
  | 5 => ("OxenHomeModel", "fault", "I", false)
  | 6 => ("OxenHomeModel", "faultPlace", "I", false)
  | 7 => ("OxenHomeModel", "at", "I", false)
  | 8 => ("OxenHomeModel", "place", "I", false)
  | 9 => ("OxenHomeModel", "token", "I", false)
  | 10 => ("OxenHomeModel", "number", "I", false)
  | 11 => ("OxenHomeModel", "word", "J", false)
  | 12 => ("OxenHomeModel", "text0", "I", false)
  | 13 => ("OxenHomeModel", "clauses", "I", false)
  | 14 => ("OxenHomeModel", "written", "I", false)
  | 15 => ("OxenHomeModel", "came", "I", false)
  | 16 => ("OxenHomeModel", "pile", "[I", true)
  | 17 => ("OxenHomeModel", "piled", "I", false)
  | 18 => ("OxenHomeModel", "opens", "I", false)
  | 19 => ("OxenHomeModel", "isWhole", "Z", false)
  | 20 => ("OxenHomeModel", "sort0", "I", false)
  | 21 => ("OxenHomeModel", "once", "I", false)
  | 22 => ("OxenHomeModel", "named", "[I", true)
  | 23 => ("OxenHomeModel", "values", "[J", true)
  | 24 => ("OxenHomeModel", "truth", "[Z", true)
  | 25 => ("OxenHomeModel", "goals", "[I", true)
  | 26 => ("OxenHomeModel", "dones", "[I", true)
  | 27 => ("OxenHomeModel", "most", "[I", true)
  | 28 => ("OxenHomeModel", "may", "[Z", true)
  | 29 => ("OxenHomeModel", "tried", "[I", true)
  | 30 => ("OxenHomeModel", "best", "[I", true)
  | 31 => ("OxenHomeModel", "places", "[I", true)
  | _ => ("OxenHomeModel", "mates", "[I", true)
def tyX12 : Nat → FieldType := fun k => match k with
  | 0 => .array .int
  | 1 => .array .int
  | 2 => .array .int
  | 3 => .array .int
  | 4 => .int
  | 5 => .int
  | 6 => .int
  | 7 => .int
  | 8 => .int
  | 9 => .int
  | 10 => .int
  | 11 => .long
  | 12 => .int
  | 13 => .int
  | 14 => .int
  | 15 => .int
  | 16 => .array .int
  | 17 => .int
  | 18 => .int
  | 19 => .boolean
  | 20 => .int
  | 21 => .int
  | 22 => .array .int
  | 23 => .array .long
  | 24 => .array .boolean
  | 25 => .array .int
  | 26 => .array .int
  | 27 => .array .int
  | 28 => .array .boolean
  | 29 => .array .int
  | 30 => .array .int
  | 31 => .array .int
  | _ => .array .int
abbrev wsX120 : List Cond := u_ws RX12 TX12 33
theorem nmX12 : ∀ a, a < 33 → ∀ b, b < 33 → a ≠ b → (TX12 a).2.1 ≠ (TX12 b).2.1 := by decide +kernel
theorem tyX12_ok : ∀ k, k < 33 → parseFieldDescriptor (TX12 k).2.2.1 = some (tyX12 k) := by decide +kernel
abbrev cX12_init : ByteArray := prog_14_method_1_code
def yX12_init : MethodName := ⟨RX12, "<init>", "()V"⟩
abbrev cX12_copy : ByteArray := prog_14_method_2_code
def yX12_copy : MethodName := ⟨RX12, "copy", "([I[I)V"⟩
abbrev cX12_isIn : ByteArray := prog_14_method_3_code
def yX12_isIn : MethodName := ⟨RX12, "isIn", "(III)Z"⟩
abbrev cX12_held : ByteArray := prog_14_method_4_code
def yX12_held : MethodName := ⟨RX12, "held", "(JII)I"⟩
abbrev cX12_has : ByteArray := prog_14_method_5_code
def yX12_has : MethodName := ⟨RX12, "has", "(II)Z"⟩
abbrev cX12_isFarm : ByteArray := prog_14_method_6_code
def yX12_isFarm : MethodName := ⟨RX12, "isFarm", "(I)Z"⟩
abbrev cX12_isField : ByteArray := prog_14_method_7_code
def yX12_isField : MethodName := ⟨RX12, "isField", "(I)Z"⟩
abbrev cX12_isOx : ByteArray := prog_14_method_8_code
def yX12_isOx : MethodName := ⟨RX12, "isOx", "(I)Z"⟩
abbrev cX12_told : ByteArray := prog_14_method_9_code
def yX12_told : MethodName := ⟨RX12, "told", "(II)I"⟩
abbrev cX12_make : ByteArray := prog_14_method_10_code
def yX12_make : MethodName := ⟨RX12, "make", "(III)V"⟩
abbrev cX12_gap : ByteArray := prog_14_method_11_code
def yX12_gap : MethodName := ⟨RX12, "gap", "(II)I"⟩
abbrev cX12_pitchOf : ByteArray := prog_14_method_12_code
def yX12_pitchOf : MethodName := ⟨RX12, "pitchOf", "(I)I"⟩
abbrev cX12_far : ByteArray := prog_14_method_13_code
def yX12_far : MethodName := ⟨RX12, "far", "(II)I"⟩
abbrev cX12_farm : ByteArray := prog_14_method_14_code
def yX12_farm : MethodName := ⟨RX12, "farm", "(III)I"⟩
abbrev cX12_field : ByteArray := prog_14_method_15_code
def yX12_field : MethodName := ⟨RX12, "field", "(IIII)I"⟩
abbrev cX12_ox : ByteArray := prog_14_method_16_code
def yX12_ox : MethodName := ⟨RX12, "ox", "(IIII)I"⟩
abbrev cX12_four : ByteArray := prog_14_method_17_code
def yX12_four : MethodName := ⟨RX12, "four", "(I)V"⟩
abbrev cX12_feed : ByteArray := prog_14_method_18_code
def yX12_feed : MethodName := ⟨RX12, "feed", "(IIIII)I"⟩
abbrev cX12_end : ByteArray := prog_14_method_19_code
def yX12_end : MethodName := ⟨RX12, "end", "(I)I"⟩
abbrev cX12_byteAt : ByteArray := prog_14_method_20_code
def yX12_byteAt : MethodName := ⟨RX12, "byteAt", "(I)I"⟩
abbrev cX12_isLetter : ByteArray := prog_14_method_21_code
def yX12_isLetter : MethodName := ⟨RX12, "isLetter", "(I)Z"⟩
abbrev cX12_isDigit : ByteArray := prog_14_method_22_code
def yX12_isDigit : MethodName := ⟨RX12, "isDigit", "(I)Z"⟩
abbrev cX12_nextToken : ByteArray := prog_14_method_23_code
def yX12_nextToken : MethodName := ⟨RX12, "nextToken", "()V"⟩
abbrev cX12_w3 : ByteArray := prog_14_method_24_code
def yX12_w3 : MethodName := ⟨RX12, "w3", "(III)J"⟩
abbrev cX12_w5 : ByteArray := prog_14_method_25_code
def yX12_w5 : MethodName := ⟨RX12, "w5", "(IIIII)J"⟩
abbrev cX12_w4 : ByteArray := prog_14_method_26_code
def yX12_w4 : MethodName := ⟨RX12, "w4", "(IIII)J"⟩
abbrev cX12_w6 : ByteArray := prog_14_method_27_code
def yX12_w6 : MethodName := ⟨RX12, "w6", "(IIIIII)J"⟩
abbrev cX12_isWord : ByteArray := prog_14_method_28_code
def yX12_isWord : MethodName := ⟨RX12, "isWord", "(J)Z"⟩
abbrev cX12_emit : ByteArray := prog_14_method_29_code
def yX12_emit : MethodName := ⟨RX12, "emit", "(II)V"⟩
abbrev cX12_push : ByteArray := prog_14_method_30_code
def yX12_push : MethodName := ⟨RX12, "push", "(I)V"⟩
abbrev cX12_whole : ByteArray := prog_14_method_31_code
def yX12_whole : MethodName := ⟨RX12, "whole", "()V"⟩
abbrev cX12_settle : ByteArray := prog_14_method_32_code
def yX12_settle : MethodName := ⟨RX12, "settle", "(I)V"⟩
abbrev cX12_isStrength : ByteArray := prog_14_method_33_code
def yX12_isStrength : MethodName := ⟨RX12, "isStrength", "()Z"⟩
abbrev cX12_nameOf : ByteArray := prog_14_method_34_code
def yX12_nameOf : MethodName := ⟨RX12, "nameOf", "()I"⟩
abbrev cX12_isBarred : ByteArray := prog_14_method_35_code
def yX12_isBarred : MethodName := ⟨RX12, "isBarred", "(I)Z"⟩
abbrev cX12_beginOne : ByteArray := prog_14_method_36_code
def yX12_beginOne : MethodName := ⟨RX12, "beginOne", "()I"⟩
abbrev cX12_hasParen : ByteArray := prog_14_method_37_code
def yX12_hasParen : MethodName := ⟨RX12, "hasParen", "()Z"⟩
abbrev cX12_goesOn : ByteArray := prog_14_method_38_code
def yX12_goesOn : MethodName := ⟨RX12, "goesOn", "()Z"⟩
abbrev cX12_behindOne : ByteArray := prog_14_method_39_code
def yX12_behindOne : MethodName := ⟨RX12, "behindOne", "()I"⟩
abbrev cX12_summed : ByteArray := prog_14_method_40_code
def yX12_summed : MethodName := ⟨RX12, "summed", "()I"⟩
abbrev cX12_compareOf : ByteArray := prog_14_method_41_code
def yX12_compareOf : MethodName := ⟨RX12, "compareOf", "()I"⟩
abbrev cX12_asks : ByteArray := prog_14_method_42_code
def yX12_asks : MethodName := ⟨RX12, "asks", "()I"⟩
abbrev cX12_either : ByteArray := prog_14_method_43_code
def yX12_either : MethodName := ⟨RX12, "either", "()I"⟩
abbrev cX12_sortOf : ByteArray := prog_14_method_44_code
def yX12_sortOf : MethodName := ⟨RX12, "sortOf", "()I"⟩
abbrev cX12_clause : ByteArray := prog_14_method_45_code
def yX12_clause : MethodName := ⟨RX12, "clause", "()I"⟩
abbrev cX12_readText : ByteArray := prog_14_method_46_code
def yX12_readText : MethodName := ⟨RX12, "readText", "()I"⟩
abbrev cX12_text : ByteArray := prog_14_method_47_code
def yX12_text : MethodName := ⟨RX12, "text", "()I"⟩
abbrev cX12_fault : ByteArray := prog_14_method_48_code
def yX12_fault : MethodName := ⟨RX12, "fault", "(I)I"⟩
abbrev cX12_by : ByteArray := prog_14_method_49_code
def yX12_by : MethodName := ⟨RX12, "by", "(I)Z"⟩
abbrev cX12_clip : ByteArray := prog_14_method_50_code
def yX12_clip : MethodName := ⟨RX12, "clip", "(J)J"⟩
abbrev cX12_two : ByteArray := prog_14_method_51_code
def yX12_two : MethodName := ⟨RX12, "two", "(IJJ)J"⟩
abbrev cX12_isAsked : ByteArray := prog_14_method_52_code
def yX12_isAsked : MethodName := ⟨RX12, "isAsked", "(IJJ)Z"⟩
abbrev cX12_work : ByteArray := prog_14_method_53_code
def yX12_work : MethodName := ⟨RX12, "work", "(I)V"⟩
abbrev cX12_clauseOf : ByteArray := prog_14_method_54_code
def yX12_clauseOf : MethodName := ⟨RX12, "clauseOf", "(I)I"⟩
abbrev cX12_name : ByteArray := prog_14_method_55_code
def yX12_name : MethodName := ⟨RX12, "name", "(IIIIII)V"⟩
abbrev cX12_isHeeded : ByteArray := prog_14_method_56_code
def yX12_isHeeded : MethodName := ⟨RX12, "isHeeded", "()Z"⟩
abbrev cX12_goal : ByteArray := prog_14_method_57_code
def yX12_goal : MethodName := ⟨RX12, "goal", "()I"⟩
abbrev cX12_heeds : ByteArray := prog_14_method_58_code
def yX12_heeds : MethodName := ⟨RX12, "heeds", "(IIIIZ)Z"⟩
abbrev cX12_workOf : ByteArray := prog_14_method_59_code
def yX12_workOf : MethodName := ⟨RX12, "workOf", "(IIII)I"⟩
abbrev cX12_keep : ByteArray := prog_14_method_60_code
def yX12_keep : MethodName := ⟨RX12, "keep", "()V"⟩
abbrev cX12_undo : ByteArray := prog_14_method_61_code
def yX12_undo : MethodName := ⟨RX12, "undo", "()I"⟩
abbrev cX12_canCome : ByteArray := prog_14_method_62_code
def yX12_canCome : MethodName := ⟨RX12, "canCome", "(II)Z"⟩
abbrev cX12_yoke : ByteArray := prog_14_method_63_code
def yX12_yoke : MethodName := ⟨RX12, "yoke", "(III)Z"⟩
abbrev cX12_part : ByteArray := prog_14_method_64_code
def yX12_part : MethodName := ⟨RX12, "part", "(I)V"⟩
abbrev cX12_loose : ByteArray := prog_14_method_65_code
def yX12_loose : MethodName := ⟨RX12, "loose", "(I)Z"⟩
abbrev cX12_drive : ByteArray := prog_14_method_66_code
def yX12_drive : MethodName := ⟨RX12, "drive", "(II)Z"⟩
abbrev cX12_sell : ByteArray := prog_14_method_67_code
def yX12_sell : MethodName := ⟨RX12, "sell", "(II)Z"⟩
abbrev cX12_whistle : ByteArray := prog_14_method_68_code
def yX12_whistle : MethodName := ⟨RX12, "whistle", "(I)I"⟩
abbrev cX12_plough : ByteArray := prog_14_method_69_code
def yX12_plough : MethodName := ⟨RX12, "plough", "()I"⟩
abbrev cX12_night : ByteArray := prog_14_method_70_code
def yX12_night : MethodName := ⟨RX12, "night", "()I"⟩
abbrev cX12_of : ByteArray := prog_14_method_71_code
def yX12_of : MethodName := ⟨RX12, "of", "(II)I"⟩
abbrev cX12_call : ByteArray := prog_14_method_72_code
def yX12_call : MethodName := ⟨RX12, "call", "(II)I"⟩
abbrev cX12_hush : ByteArray := prog_14_method_73_code
def yX12_hush : MethodName := ⟨RX12, "hush", "()I"⟩
abbrev cX12_isCalled : ByteArray := prog_14_method_74_code
def yX12_isCalled : MethodName := ⟨RX12, "isCalled", "(III)Z"⟩
abbrev cX12_stayOf : ByteArray := prog_14_method_75_code
def yX12_stayOf : MethodName := ⟨RX12, "stayOf", "(IIII)I"⟩
abbrev cX12_doneOf : ByteArray := prog_14_method_76_code
def yX12_doneOf : MethodName := ⟨RX12, "doneOf", "(IIII)I"⟩
abbrev cX12_stay : ByteArray := prog_14_method_77_code
def yX12_stay : MethodName := ⟨RX12, "stay", "(IIIIZ)I"⟩
abbrev cX12_by_ : ByteArray := prog_14_method_78_code
def yX12_by_ : MethodName := ⟨RX12, "by", "(III)I"⟩
abbrev cX12_isPair : ByteArray := prog_14_method_79_code
def yX12_isPair : MethodName := ⟨RX12, "isPair", "(II)Z"⟩
abbrev cX12_plan : ByteArray := prog_14_method_80_code
def yX12_plan : MethodName := ⟨RX12, "plan", "(II)I"⟩
abbrev cX12_longest : ByteArray := prog_14_method_81_code
def yX12_longest : MethodName := ⟨RX12, "longest", "(II)I"⟩
abbrev cX12_callsOf : ByteArray := prog_14_method_82_code
def yX12_callsOf : MethodName := ⟨RX12, "callsOf", "(III)I"⟩
abbrev cX12_slip : ByteArray := prog_14_method_83_code
def yX12_slip : MethodName := ⟨RX12, "slip", "()I"⟩
abbrev cX12_weightOf : ByteArray := prog_14_method_84_code
def yX12_weightOf : MethodName := ⟨RX12, "weightOf", "(IIIIII)J"⟩
abbrev cX12_common : ByteArray := prog_14_method_85_code
def yX12_common : MethodName := ⟨RX12, "common", "(JJ)J"⟩
abbrev cX12_dark : ByteArray := prog_14_method_86_code
def yX12_dark : MethodName := ⟨RX12, "dark", "(IIIIII)J"⟩
abbrev cX12_mayBe : ByteArray := prog_14_method_87_code
def yX12_mayBe : MethodName := ⟨RX12, "mayBe", "(III)Z"⟩
abbrev cX12_isApart : ByteArray := prog_14_method_88_code
def yX12_isApart : MethodName := ⟨RX12, "isApart", "(II)Z"⟩
abbrev cX12_changed : ByteArray := prog_14_method_89_code
def yX12_changed : MethodName := ⟨RX12, "changed", "(I)I"⟩
abbrev cX12_set : ByteArray := prog_14_method_90_code
def yX12_set : MethodName := ⟨RX12, "set", "(II)I"⟩
abbrev cX12_apart : ByteArray := prog_14_method_91_code
def yX12_apart : MethodName := ⟨RX12, "apart", "(III)I"⟩
abbrev cX12_thunder : ByteArray := prog_14_method_92_code
def yX12_thunder : MethodName := ⟨RX12, "thunder", "(II)I"⟩
abbrev cX12_strike : ByteArray := prog_14_method_93_code
def yX12_strike : MethodName := ⟨RX12, "strike", "(I)I"⟩
abbrev cX12_image : ByteArray := prog_14_method_94_code
def yX12_image : MethodName := ⟨RX12, "image", "()I"⟩
abbrev cX12_back : ByteArray := prog_14_method_95_code
def yX12_back : MethodName := ⟨RX12, "back", "()I"⟩
abbrev cX12_about : ByteArray := prog_14_method_96_code
def yX12_about : MethodName := ⟨RX12, "about", "(I)I"⟩
def RJ6 : String := "java/lang/Integer"
def TJ6 : u_T := fun k => match k with
  | _ => ("", "", "", false)
def tyJ6 : Nat → FieldType := fun k => match k with
  | _ => .int
abbrev wsJ60 : List Cond := u_ws RJ6 TJ6 0
theorem nmJ6 : ∀ a, a < 0 → ∀ b, b < 0 → a ≠ b → (TJ6 a).2.1 ≠ (TJ6 b).2.1 := by decide +kernel
theorem tyJ6_ok : ∀ k, k < 0 → parseFieldDescriptor (TJ6 k).2.2.1 = some (tyJ6 k) := by decide +kernel
abbrev cJ6_bitCount_0f7a4 : ByteArray := prog_15_method_49_code
def yJ6_bitCount_0f7a4 : MethodName := ⟨RJ6, "bitCount", "(I)I"⟩
def RJ9 : String := "java/lang/Math"
def TJ9 : u_T := fun k => match k with
  | _ => ("", "", "", false)
def tyJ9 : Nat → FieldType := fun k => match k with
  | _ => .int
abbrev wsJ90 : List Cond := u_ws RJ9 TJ9 0
theorem nmJ9 : ∀ a, a < 0 → ∀ b, b < 0 → a ≠ b → (TJ9 a).2.1 ≠ (TJ9 b).2.1 := by decide +kernel
theorem tyJ9_ok : ∀ k, k < 0 → parseFieldDescriptor (TJ9 k).2.2.1 = some (tyJ9 k) := by decide +kernel
abbrev cJ9_abs_0f7a4 : ByteArray := prog_16_method_59_code
def yJ9_abs_0f7a4 : MethodName := ⟨RJ9, "abs", "(I)I"⟩
abbrev cJ9_min_7cf53 : ByteArray := prog_16_method_69_code
def yJ9_min_7cf53 : MethodName := ⟨RJ9, "min", "(II)I"⟩
def RJ0 : String := "java/lang/String"
def TJ0 : u_T := fun k => match k with
  | _ => ("", "", "", false)
def tyJ0 : Nat → FieldType := fun k => match k with
  | _ => .int
abbrev wsJ00 : List Cond := u_ws RJ0 TJ0 0
theorem nmJ0 : ∀ a, a < 0 → ∀ b, b < 0 → a ≠ b → (TJ0 a).2.1 ≠ (TJ0 b).2.1 := by decide +kernel
theorem tyJ0_ok : ∀ k, k < 0 → parseFieldDescriptor (TJ0 k).2.2.1 = some (tyJ0 k) := by decide +kernel
abbrev cJ0_length_8abf5 : ByteArray := prog_17_method_54_code
def yJ0_length_8abf5 : MethodName := ⟨RJ0, "length", "()I"⟩
abbrev cJ0_charAt_5068e : ByteArray := prog_17_method_56_code
def yJ0_charAt_5068e : MethodName := ⟨RJ0, "charAt", "(I)C"⟩
abbrev cJ0_coder_7d493 : ByteArray := prog_17_method_152_code
def yJ0_coder_7d493 : MethodName := ⟨RJ0, "coder", "()B"⟩
abbrev cJ0_isLatin1_aae02 : ByteArray := prog_17_method_154_code
def yJ0_isLatin1_aae02 : MethodName := ⟨RJ0, "isLatin1", "()Z"⟩
abbrev cJ0_checkIndex_df160 : ByteArray := prog_17_method_155_code
def yJ0_checkIndex_df160 : MethodName := ⟨RJ0, "checkIndex", "(II)V"⟩
def RJ1 : String := "java/lang/StringLatin1"
def TJ1 : u_T := fun k => match k with
  | _ => ("", "", "", false)
def tyJ1 : Nat → FieldType := fun k => match k with
  | _ => .int
abbrev wsJ10 : List Cond := u_ws RJ1 TJ1 0
theorem nmJ1 : ∀ a, a < 0 → ∀ b, b < 0 → a ≠ b → (TJ1 a).2.1 ≠ (TJ1 b).2.1 := by decide +kernel
theorem tyJ1_ok : ∀ k, k < 0 → parseFieldDescriptor (TJ1 k).2.2.1 = some (tyJ1 k) := by decide +kernel
abbrev cJ1_charAt_3b067 : ByteArray := prog_18_method_2_code
def yJ1_charAt_3b067 : MethodName := ⟨RJ1, "charAt", "([BI)C"⟩
def RJ2 : String := "java/lang/StringUTF16"
def TJ2 : u_T := fun k => match k with
  | _ => ("", "", "", false)
def tyJ2 : Nat → FieldType := fun k => match k with
  | _ => .int
abbrev wsJ20 : List Cond := u_ws RJ2 TJ2 0
theorem nmJ2 : ∀ a, a < 0 → ∀ b, b < 0 → a ≠ b → (TJ2 a).2.1 ≠ (TJ2 b).2.1 := by decide +kernel
theorem tyJ2_ok : ∀ k, k < 0 → parseFieldDescriptor (TJ2 k).2.2.1 = some (tyJ2 k) := by decide +kernel
abbrev cJ2_getChar_3b067 : ByteArray := prog_19_method_5_code
def yJ2_getChar_3b067 : MethodName := ⟨RJ2, "getChar", "([BI)C"⟩
abbrev cJ2_length_9d52b : ByteArray := prog_19_method_6_code
def yJ2_length_9d52b : MethodName := ⟨RJ2, "length", "([B)I"⟩
abbrev cJ2_charAt_3b067 : ByteArray := prog_19_method_83_code
def yJ2_charAt_3b067 : MethodName := ⟨RJ2, "charAt", "([BI)C"⟩
abbrev cJ2_checkIndex_2214a : ByteArray := prog_19_method_91_code
def yJ2_checkIndex_2214a : MethodName := ⟨RJ2, "checkIndex", "(I[B)V"⟩
def RJ3 : String := "jdk/internal/util/Preconditions"
def TJ3 : u_T := fun k => match k with
  | _ => ("", "", "", false)
def tyJ3 : Nat → FieldType := fun k => match k with
  | _ => .int
abbrev wsJ30 : List Cond := u_ws RJ3 TJ3 0
theorem nmJ3 : ∀ a, a < 0 → ∀ b, b < 0 → a ≠ b → (TJ3 a).2.1 ≠ (TJ3 b).2.1 := by decide +kernel
theorem tyJ3_ok : ∀ k, k < 0 → parseFieldDescriptor (TJ3 k).2.2.1 = some (tyJ3 k) := by decide +kernel
abbrev cJ3_checkIndex_8e157 : ByteArray := prog_20_method_11_code
def yJ3_checkIndex_8e157 : MethodName := ⟨RJ3, "checkIndex", "(IILjava/util/function/BiFunction;)I"⟩
def RL : String := "OxenHomeLaw"
abbrev cL_law : ByteArray := code
def yL_law : MethodName := ⟨RL, "law", "([I)Z"⟩
abbrev vwCl : List vw_C := [(RX0, TX0, 1), (RX1, TX1, 5), (RX2, TX2, 4), (RX3, TX3, 7), (RX4, TX4, 7), (RX5, TX5, 12), (RX6, TX6, 1), (RX7, TX7, 3), (RX8, TX8, 3), (RX9, TX9, 3), (RX10, TX10, 14), (RX11, TX11, 11), (RX12, TX12, 33)]
theorem inX0 : ∀ w ∈ wsX00, w ∈ lw_tbl := by decide +kernel
theorem inX1 : ∀ w ∈ wsX10, w ∈ lw_tbl := by decide +kernel
theorem inX2 : ∀ w ∈ wsX20, w ∈ lw_tbl := by decide +kernel
theorem inX3 : ∀ w ∈ wsX30, w ∈ lw_tbl := by decide +kernel
theorem inX4 : ∀ w ∈ wsX40, w ∈ lw_tbl := by decide +kernel
theorem inX5 : ∀ w ∈ wsX50, w ∈ lw_tbl := by decide +kernel
theorem inX6 : ∀ w ∈ wsX60, w ∈ lw_tbl := by decide +kernel
theorem inX7 : ∀ w ∈ wsX70, w ∈ lw_tbl := by decide +kernel
theorem inX8 : ∀ w ∈ wsX80, w ∈ lw_tbl := by decide +kernel
theorem inX9 : ∀ w ∈ wsX90, w ∈ lw_tbl := by decide +kernel
theorem inX10 : ∀ w ∈ wsX100, w ∈ lw_tbl := by decide +kernel
theorem inX11 : ∀ w ∈ wsX110, w ∈ lw_tbl := by decide +kernel
theorem inX12 : ∀ w ∈ wsX120, w ∈ lw_tbl := by decide +kernel
end
section
/-! the cells of the two objects; the classes, methods and pools as tables; the methods as tables of resolved instructions. By program (wip/whole/tables.py) out of the claim's listing. -/
abbrev zI : Type := Nat × Int × List Nat
abbrev zMeth : Type := Nat × List (Nat × zI)
abbrev zHdr : Type := Nat × MethodName × ByteArray × Nat × Option FieldType × Bool × Nat
abbrev zDsc : Type := (Nat × List Nat) ⊕ (Nat × Nat)
def zO : List zDsc := [.inl (11, [27, 0, 4, 44, 67, 70, 36, 41, 71, 80, 81]), .inl (10, [0, 5, 7, 9, 11, 13, 15, 17, 20, 0, 23, 25, 0, 0]), .inl (6, [6]), .inr (0, 5), .inl (6, [8]), .inr (0, 5), .inl (6, [10]), .inr (0, 5), .inl (6, [12]), .inr (0, 4), .inl (6, [14]), .inr (0, 4), .inl (6, [16]), .inr (0, 4), .inl (0, [18]), .inl (6, [19]), .inr (0, 71), .inl (8, [21, 0, 0]), .inl (6, [22]), .inr (0, 1420), .inl (6, [24]), .inr (0, 8), .inl (6, [26]), .inr (0, 8), .inl (6, [28]), .inr (0, 300), .inl (9, [30, 32, 34]), .inl (6, [31]), .inr (0, 1200), .inl (6, [33]), .inr (0, 20), .inl (6, [35]), .inr (0, 20), .inl (1, [4, 29, 37, 39, 0]), .inl (6, [38]), .inr (0, 11), .inl (6, [40]), .inr (0, 64), .inl (7, [4, 36, 42]), .inl (6, [43]), .inr (0, 8), .inl (10, [0, 45, 47, 49, 51, 53, 55, 57, 60, 0, 63, 65, 0, 0]), .inl (6, [46]), .inr (0, 5), .inl (6, [48]), .inr (0, 5), .inl (6, [50]), .inr (0, 5), .inl (6, [52]), .inr (0, 4), .inl (6, [54]), .inr (0, 4), .inl (6, [56]), .inr (0, 4), .inl (0, [58]), .inl (6, [59]), .inr (0, 71), .inl (8, [61, 0, 0]), .inl (6, [62]), .inr (0, 1420), .inl (6, [64]), .inr (0, 8), .inl (6, [66]), .inr (0, 8), .inl (0, [68]), .inl (6, [69]), .inr (0, 71), .inl (5, [27, 29, 0, 0, 0, 0, 0, 0, 0, 0, 0, 0]), .inl (4, [4, 41, 72, 74, 76, 78, 0]), .inl (6, [73]), .inr (0, 400), .inl (6, [75]), .inr (0, 1024), .inl (6, [77]), .inr (0, 1024), .inl (6, [79]), .inr (0, 4), .inl (2, [4, 36, 1, 1]), .inl (3, [4, 36, 82, 84, 86, 0, 0]), .inl (6, [83]), .inr (0, 50), .inl (6, [85]), .inr (0, 5), .inl (6, [87]), .inr (0, 5), .inl (12, [89, 90, 91, 92, 0, 0, 0, 0, 0, 0, 0, 1, 0, 0, 0, 0, 93, 0, 0, 2, 0, 0, 94, 95, 96, 97, 98, 99, 100, 101, 102, 103, 104]), .inr (0, 1061), .inr (0, 1061), .inr (0, 2500), .inr (0, 300), .inr (0, 160), .inr (0, 11), .inr (1, 330), .inr (2, 330), .inr (0, 8), .inr (0, 320), .inr (0, 1280), .inr (2, 50), .inr (0, 5), .inr (0, 5), .inr (0, 8), .inr (0, 8)]
def zcns : List String := [RX0, RX1, RX2, RX3, RX4, RX5, RX6, RX7, RX8, RX9, RX10, RX11, RX12, RL, RJ0, RJ1, RJ2, RJ3, RJ6, RJ9, "java/lang/Object"]
def zHd : List zHdr := [(0, yX0_init, cX0_init, 1, none, false, 0),
  (0, yX0_hour, cX0_hour, 1, (some .int), false, 0),
  (0, yX0_setHour, cX0_setHour, 2, none, false, 1),
  (0, yX0_fields, cX0_fields, 1, (some .int), false, 0),
  (0, yX0_oxen, cX0_oxen, 1, (some .int), false, 0),
  (0, yX0_furrows, cX0_furrows, 2, (some .int), false, 1),
  (0, yX0_setFurrows, cX0_setFurrows, 3, none, false, 2),
  (0, yX0_get, cX0_get, 3, (some .int), false, 2),
  (0, yX0_put, cX0_put, 4, none, false, 3),
  (0, yX0_addField, cX0_addField, 2, none, false, 1),
  (0, yX0_addOx, cX0_addOx, 6, none, false, 4),
  (0, yX0_unyoke, cX0_unyoke, 3, none, false, 1),
  (0, yX0_sleepAtOwner, cX0_sleepAtOwner, 5, (some .boolean), false, 1),
  (0, yX0_copyFrom, cX0_copyFrom, 2, none, false, 1),
  (0, yX0_writeTo, cX0_writeTo, 3, none, false, 2),
  (0, yX0_readBack, cX0_readBack, 4, none, false, 2),
  (1, yX1_init, cX1_init, 3, none, false, 2),
  (1, yX1_ask, cX1_ask, 9, none, false, 6),
  (1, yX1_askCall, cX1_askCall, 4, none, false, 3),
  (1, yX1_heeded, cX1_heeded, 1, (some .boolean), false, 0),
  (1, yX1_toSecond, cX1_toSecond, 1, (some .boolean), false, 0),
  (1, yX1_slip, cX1_slip, 1, (some .int), false, 0),
  (1, yX1_weight, cX1_weight, 4, (some .int), false, 3),
  (1, yX1_work, cX1_work, 7, (some .int), false, 4),
  (1, yX1_value, cX1_value, 10, (some .int), false, 2),
  (1, yX1_joined, cX1_joined, 5, (some .long), true, 3),
  (1, yX1_between, cX1_between, 4, (some .int), true, 3),
  (2, yX2_init, cX2_init, 3, none, false, 2),
  (2, yX2_weighAll, cX2_weighAll, 11, none, false, 5),
  (2, yX2_times, cX2_times, 3, (some .int), false, 1),
  (2, yX2_lowestUpper, cX2_lowestUpper, 3, (some .long), false, 0),
  (2, yX2_lowestLower, cX2_lowestLower, 3, (some .long), false, 0),
  (2, yX2_divisor, cX2_divisor, 8, (some .long), false, 0),
  (3, yX3_init, cX3_init, 3, none, false, 2),
  (3, yX3_search, cX3_search, 5, none, false, 2),
  (3, yX3_fitsAll, cX3_fitsAll, 9, (some .boolean), false, 3),
  (3, yX3_choose, cX3_choose, 4, none, false, 2),
  (3, yX3_pick, cX3_pick, 4, none, false, 3),
  (3, yX3_isFree, cX3_isFree, 4, (some .boolean), false, 2),
  (4, yX4_init, cX4_init, 3, none, false, 2),
  (4, yX4_search, cX4_search, 4, none, false, 1),
  (4, yX4_measurePairs, cX4_measurePairs, 6, none, false, 1),
  (4, yX4_yieldFrom, cX4_yieldFrom, 6, (some .int), false, 2),
  (4, yX4_tryPair, cX4_tryPair, 8, none, false, 4),
  (4, yX4_follow, cX4_follow, 4, none, false, 0),
  (5, yX5_init, cX5_init, 3, none, false, 2),
  (5, yX5_read, cX5_read, 4, (some .boolean), false, 2),
  (5, yX5_fail, cX5_fail, 2, none, false, 1),
  (5, yX5_emit, cX5_emit, 2, none, false, 1),
  (5, yX5_readClause, cX5_readClause, 3, none, false, 0),
  (5, yX5_readRank, cX5_readRank, 3, none, false, 2),
  (5, yX5_readJoined, cX5_readJoined, 5, none, false, 2),
  (5, yX5_readAsk, cX5_readAsk, 3, none, false, 1),
  (5, yX5_readOne, cX5_readOne, 2, none, false, 1),
  (5, yX5_readOpened, cX5_readOpened, 3, none, false, 2),
  (5, yX5_close, cX5_close, 1, none, false, 0),
  (5, yX5_readNumber, cX5_readNumber, 1, none, false, 0),
  (5, yX5_readName, cX5_readName, 1, none, false, 0),
  (5, yX5_joins, cX5_joins, 2, (some .boolean), true, 2),
  (5, yX5_isComparison, cX5_isComparison, 1, (some .boolean), true, 1),
  (5, yX5_isNameOf, cX5_isNameOf, 2, (some .boolean), true, 2),
  (5, yX5_step, cX5_step, 2, none, false, 0),
  (5, yX5_passLetters, cX5_passLetters, 2, none, false, 0),
  (5, yX5_wordAt, cX5_wordAt, 8, (some .int), false, 2),
  (5, yX5_takeNumber, cX5_takeNumber, 2, none, false, 0),
  (5, yX5_takeSign, cX5_takeSign, 3, none, false, 1),
  (5, yX5_isBlank, cX5_isBlank, 1, (some .boolean), true, 1),
  (5, yX5_isLetter, cX5_isLetter, 1, (some .boolean), true, 1),
  (5, yX5_isFigure, cX5_isFigure, 1, (some .boolean), true, 1),
  (6, yX6_init, cX6_init, 2, none, false, 1),
  (6, yX6_get, cX6_get, 2, (some .int), false, 1),
  (6, yX6_put, cX6_put, 3, none, false, 2),
  (6, yX6_copyFrom, cX6_copyFrom, 3, none, false, 1),
  (6, yX6_copyPart, cX6_copyPart, 6, none, false, 4),
  (7, yX7_init, cX7_init, 3, none, false, 2),
  (7, yX7_hoursTill, cX7_hoursTill, 5, (some .int), false, 3),
  (7, yX7_heedsCallAt, cX7_heedsCallAt, 6, (some .boolean), false, 3),
  (7, yX7_doneIn, cX7_doneIn, 8, (some .int), false, 4),
  (7, yX7_measure, cX7_measure, 4, none, false, 2),
  (7, yX7_measured, cX7_measured, 3, (some .int), false, 2),
  (7, yX7_longestPair, cX7_longestPair, 7, (some .int), false, 2),
  (8, yX8_init, cX8_init, 1, none, false, 0),
  (8, yX8_count, cX8_count, 1, (some .int), false, 0),
  (8, yX8_keep, cX8_keep, 2, none, false, 1),
  (8, yX8_takeBack, cX8_takeBack, 2, (some .int), false, 1),
  (8, yX8_copyFrom, cX8_copyFrom, 2, none, false, 1),
  (9, yX9_init, cX9_init, 1, none, false, 0),
  (9, yX9_clear, cX9_clear, 3, none, false, 1),
  (9, yX9_setClause, cX9_setClause, 5, none, false, 4),
  (9, yX9_has, cX9_has, 3, (some .boolean), false, 2),
  (10, yX10_init, cX10_init, 1, none, false, 0),
  (10, yX10_keepStep, cX10_keepStep, 1, none, false, 0),
  (10, yX10_copyFrom, cX10_copyFrom, 2, none, false, 1),
  (10, yX10_far, cX10_far, 5, (some .int), false, 2),
  (11, yX11_init, cX11_init, 6, none, false, 0),
  (11, yX11_farm, cX11_farm, 5, (some .int), false, 3),
  (11, yX11_field, cX11_field, 6, (some .int), false, 4),
  (11, yX11_ox, cX11_ox, 6, (some .int), false, 4),
  (11, yX11_feed, cX11_feed, 6, (some .int), false, 5),
  (11, yX11_feedFour, cX11_feedFour, 3, none, false, 1),
  (11, yX11_end, cX11_end, 2, (some .int), false, 1),
  (11, yX11_text, cX11_text, 3, (some .int), false, 0),
  (11, yX11_fault, cX11_fault, 2, (some .int), false, 1),
  (11, yX11_by, cX11_by, 2, (some .boolean), false, 1),
  (11, yX11_yoke, cX11_yoke, 4, (some .boolean), false, 3),
  (11, yX11_canBeYoked, cX11_canBeYoked, 4, (some .boolean), false, 2),
  (11, yX11_loose, cX11_loose, 2, (some .boolean), false, 1),
  (11, yX11_drive, cX11_drive, 3, (some .boolean), false, 2),
  (11, yX11_sell, cX11_sell, 3, (some .boolean), false, 2),
  (11, yX11_whistle, cX11_whistle, 2, (some .int), false, 1),
  (11, yX11_blow, cX11_blow, 8, (some .int), false, 3),
  (11, yX11_plough, cX11_plough, 8, (some .int), false, 0),
  (11, yX11_night, cX11_night, 3, (some .int), false, 0),
  (11, yX11_undo, cX11_undo, 1, (some .int), false, 0),
  (11, yX11_of, cX11_of, 3, (some .int), false, 2),
  (11, yX11_heeds, cX11_heeds, 6, (some .boolean), false, 5),
  (11, yX11_call, cX11_call, 3, (some .int), false, 2),
  (11, yX11_hush, cX11_hush, 2, (some .int), false, 0),
  (11, yX11_stay, cX11_stay, 7, (some .int), false, 5),
  (11, yX11_plan, cX11_plan, 3, (some .int), false, 2),
  (11, yX11_longest, cX11_longest, 3, (some .int), false, 2),
  (11, yX11_dark, cX11_dark, 7, (some .long), false, 6),
  (11, yX11_apart, cX11_apart, 4, (some .int), false, 3),
  (11, yX11_thunder, cX11_thunder, 6, (some .int), false, 2),
  (11, yX11_image, cX11_image, 1, (some .int), false, 0),
  (11, yX11_back, cX11_back, 1, (some .int), false, 0),
  (11, yX11_about, cX11_about, 2, (some .int), false, 1),
  (11, yX11_within, cX11_within, 3, (some .boolean), true, 3),
  (11, yX11_isIn, cX11_isIn, 2, (some .boolean), true, 2),
  (11, yX11_isPlace, cX11_isPlace, 2, (some .boolean), true, 2),
  (11, yX11_isDigit, cX11_isDigit, 1, (some .boolean), true, 1),
  (11, yX11_isHour, cX11_isHour, 1, (some .boolean), true, 1),
  (11, yX11_isFarm, cX11_isFarm, 2, (some .boolean), false, 1),
  (11, yX11_isFarmOrNone, cX11_isFarmOrNone, 2, (some .boolean), false, 1),
  (11, yX11_isField, cX11_isField, 2, (some .boolean), false, 1),
  (11, yX11_isOx, cX11_isOx, 2, (some .boolean), false, 1),
  (11, yX11_isPair, cX11_isPair, 3, (some .boolean), false, 2),
  (12, yX12_init, cX12_init, 1, none, false, 0),
  (12, yX12_copy, cX12_copy, 3, none, true, 2),
  (12, yX12_isIn, cX12_isIn, 3, (some .boolean), true, 3),
  (12, yX12_held, cX12_held, 4, (some .int), true, 3),
  (12, yX12_has, cX12_has, 2, (some .boolean), true, 2),
  (12, yX12_isFarm, cX12_isFarm, 2, (some .boolean), false, 1),
  (12, yX12_isField, cX12_isField, 2, (some .boolean), false, 1),
  (12, yX12_isOx, cX12_isOx, 2, (some .boolean), false, 1),
  (12, yX12_told, cX12_told, 3, (some .int), false, 2),
  (12, yX12_make, cX12_make, 4, none, false, 3),
  (12, yX12_gap, cX12_gap, 2, (some .int), true, 2),
  (12, yX12_pitchOf, cX12_pitchOf, 2, (some .int), false, 1),
  (12, yX12_far, cX12_far, 3, (some .int), false, 2),
  (12, yX12_farm, cX12_farm, 5, (some .int), false, 3),
  (12, yX12_field, cX12_field, 6, (some .int), false, 4),
  (12, yX12_ox, cX12_ox, 6, (some .int), false, 4),
  (12, yX12_four, cX12_four, 3, none, false, 1),
  (12, yX12_feed, cX12_feed, 6, (some .int), false, 5),
  (12, yX12_end, cX12_end, 2, (some .int), false, 1),
  (12, yX12_byteAt, cX12_byteAt, 2, (some .int), false, 1),
  (12, yX12_isLetter, cX12_isLetter, 1, (some .boolean), true, 1),
  (12, yX12_isDigit, cX12_isDigit, 1, (some .boolean), true, 1),
  (12, yX12_nextToken, cX12_nextToken, 3, none, false, 0),
  (12, yX12_w3, cX12_w3, 3, (some .long), true, 3),
  (12, yX12_w5, cX12_w5, 5, (some .long), true, 5),
  (12, yX12_w4, cX12_w4, 4, (some .long), true, 4),
  (12, yX12_w6, cX12_w6, 6, (some .long), true, 6),
  (12, yX12_isWord, cX12_isWord, 3, (some .boolean), false, 1),
  (12, yX12_emit, cX12_emit, 3, none, false, 2),
  (12, yX12_push, cX12_push, 2, none, false, 1),
  (12, yX12_whole, cX12_whole, 1, none, false, 0),
  (12, yX12_settle, cX12_settle, 2, none, false, 1),
  (12, yX12_isStrength, cX12_isStrength, 1, (some .boolean), false, 0),
  (12, yX12_nameOf, cX12_nameOf, 1, (some .int), false, 0),
  (12, yX12_isBarred, cX12_isBarred, 2, (some .boolean), false, 1),
  (12, yX12_beginOne, cX12_beginOne, 2, (some .int), false, 0),
  (12, yX12_hasParen, cX12_hasParen, 2, (some .boolean), false, 0),
  (12, yX12_goesOn, cX12_goesOn, 1, (some .boolean), false, 0),
  (12, yX12_behindOne, cX12_behindOne, 2, (some .int), false, 0),
  (12, yX12_summed, cX12_summed, 2, (some .int), false, 0),
  (12, yX12_compareOf, cX12_compareOf, 1, (some .int), false, 0),
  (12, yX12_asks, cX12_asks, 5, (some .int), false, 0),
  (12, yX12_either, cX12_either, 6, (some .int), false, 0),
  (12, yX12_sortOf, cX12_sortOf, 1, (some .int), false, 0),
  (12, yX12_clause, cX12_clause, 4, (some .int), false, 0),
  (12, yX12_readText, cX12_readText, 2, (some .int), false, 0),
  (12, yX12_text, cX12_text, 1, (some .int), false, 0),
  (12, yX12_fault, cX12_fault, 2, (some .int), false, 1),
  (12, yX12_by, cX12_by, 2, (some .boolean), false, 1),
  (12, yX12_clip, cX12_clip, 2, (some .long), true, 1),
  (12, yX12_two, cX12_two, 5, (some .long), true, 3),
  (12, yX12_isAsked, cX12_isAsked, 5, (some .boolean), true, 3),
  (12, yX12_work, cX12_work, 9, none, false, 1),
  (12, yX12_clauseOf, cX12_clauseOf, 3, (some .int), false, 1),
  (12, yX12_name, cX12_name, 7, none, false, 6),
  (12, yX12_isHeeded, cX12_isHeeded, 2, (some .boolean), false, 0),
  (12, yX12_goal, cX12_goal, 3, (some .int), false, 0),
  (12, yX12_heeds, cX12_heeds, 6, (some .boolean), false, 5),
  (12, yX12_workOf, cX12_workOf, 7, (some .int), false, 4),
  (12, yX12_keep, cX12_keep, 4, none, false, 0),
  (12, yX12_undo, cX12_undo, 4, (some .int), false, 0),
  (12, yX12_canCome, cX12_canCome, 3, (some .boolean), false, 2),
  (12, yX12_yoke, cX12_yoke, 4, (some .boolean), false, 3),
  (12, yX12_part, cX12_part, 2, none, false, 1),
  (12, yX12_loose, cX12_loose, 2, (some .boolean), false, 1),
  (12, yX12_drive, cX12_drive, 3, (some .boolean), false, 2),
  (12, yX12_sell, cX12_sell, 3, (some .boolean), false, 2),
  (12, yX12_whistle, cX12_whistle, 4, (some .int), false, 1),
  (12, yX12_plough, cX12_plough, 6, (some .int), false, 0),
  (12, yX12_night, cX12_night, 3, (some .int), false, 0),
  (12, yX12_of, cX12_of, 3, (some .int), false, 2),
  (12, yX12_call, cX12_call, 3, (some .int), false, 2),
  (12, yX12_hush, cX12_hush, 2, (some .int), false, 0),
  (12, yX12_isCalled, cX12_isCalled, 6, (some .boolean), false, 3),
  (12, yX12_stayOf, cX12_stayOf, 7, (some .int), false, 4),
  (12, yX12_doneOf, cX12_doneOf, 8, (some .int), false, 4),
  (12, yX12_stay, cX12_stay, 6, (some .int), false, 5),
  (12, yX12_by_, cX12_by_, 4, (some .int), false, 3),
  (12, yX12_isPair, cX12_isPair, 3, (some .boolean), false, 2),
  (12, yX12_plan, cX12_plan, 7, (some .int), false, 2),
  (12, yX12_longest, cX12_longest, 7, (some .int), false, 2),
  (12, yX12_callsOf, cX12_callsOf, 5, (some .int), false, 3),
  (12, yX12_slip, cX12_slip, 2, (some .int), false, 0),
  (12, yX12_weightOf, cX12_weightOf, 12, (some .long), false, 6),
  (12, yX12_common, cX12_common, 10, (some .long), true, 2),
  (12, yX12_dark, cX12_dark, 15, (some .long), false, 6),
  (12, yX12_mayBe, cX12_mayBe, 6, (some .boolean), false, 3),
  (12, yX12_isApart, cX12_isApart, 4, (some .boolean), false, 2),
  (12, yX12_changed, cX12_changed, 4, (some .int), false, 1),
  (12, yX12_set, cX12_set, 8, (some .int), false, 2),
  (12, yX12_apart, cX12_apart, 5, (some .int), false, 3),
  (12, yX12_thunder, cX12_thunder, 6, (some .int), false, 2),
  (12, yX12_strike, cX12_strike, 5, (some .int), false, 1),
  (12, yX12_image, cX12_image, 1, (some .int), false, 0),
  (12, yX12_back, cX12_back, 1, (some .int), false, 0),
  (12, yX12_about, cX12_about, 2, (some .int), false, 1),
  (18, yJ6_bitCount_0f7a4, cJ6_bitCount_0f7a4, 1, (some .int), true, 1),
  (19, yJ9_abs_0f7a4, cJ9_abs_0f7a4, 1, (some .int), true, 1),
  (19, yJ9_min_7cf53, cJ9_min_7cf53, 2, (some .int), true, 2),
  (14, yJ0_length_8abf5, cJ0_length_8abf5, 1, (some .int), false, 0),
  (14, yJ0_charAt_5068e, cJ0_charAt_5068e, 2, (some .char), false, 1),
  (14, yJ0_coder_7d493, cJ0_coder_7d493, 1, (some .byte), false, 0),
  (14, yJ0_isLatin1_aae02, cJ0_isLatin1_aae02, 1, (some .boolean), false, 0),
  (14, yJ0_checkIndex_df160, cJ0_checkIndex_df160, 2, none, true, 2),
  (15, yJ1_charAt_3b067, cJ1_charAt_3b067, 2, (some .char), true, 2),
  (16, yJ2_getChar_3b067, cJ2_getChar_3b067, 2, (some .char), true, 2),
  (16, yJ2_length_9d52b, cJ2_length_9d52b, 1, (some .int), true, 1),
  (16, yJ2_charAt_3b067, cJ2_charAt_3b067, 2, (some .char), true, 2),
  (16, yJ2_checkIndex_2214a, cJ2_checkIndex_2214a, 2, none, true, 2),
  (17, yJ3_checkIndex_8e157, cJ3_checkIndex_8e157, 3, (some .int), true, 3),
  (13, yL_law, cL_law, 4, (some .boolean), true, 1),
  (20, Lib.objectInit, ⟨#[0xb1]⟩, 1, none, false, 0)]
def zFp : List (Nat × Nat × Nat × Nat × Bool) := [(0, 16, 0, 0, false), (1, 9, 1, 0, false), (1, 15, 1, 1, false), (1, 26, 1, 2, false), (1, 30, 1, 3, false), (1, 33, 1, 4, false), (1, 37, 10, 7, true), (1, 77, 10, 6, true), (1, 80, 10, 13, true), (1, 83, 9, 1, true), (1, 86, 9, 2, true), (1, 89, 9, 0, true), (2, 9, 2, 0, false), (2, 15, 2, 1, false), (2, 19, 2, 2, false), (2, 23, 2, 3, false), (2, 26, 10, 0, true), (2, 38, 10, 7, true), (3, 9, 3, 0, false), (3, 15, 3, 1, false), (3, 24, 3, 2, false), (3, 28, 3, 3, false), (3, 31, 3, 4, false), (3, 34, 3, 5, false), (3, 38, 3, 6, false), (3, 41, 10, 0, true), (3, 57, 10, 7, true), (3, 95, 10, 3, true), (4, 9, 4, 0, false), (4, 15, 4, 1, false), (4, 24, 4, 2, false), (4, 28, 4, 3, false), (4, 31, 4, 4, false), (4, 34, 4, 5, false), (4, 37, 10, 7, true), (4, 65, 4, 6, false), (5, 9, 5, 0, false), (5, 15, 5, 1, false), (5, 19, 5, 2, false), (5, 23, 5, 3, false), (5, 26, 5, 4, false), (5, 29, 5, 5, false), (5, 32, 5, 7, false), (5, 35, 5, 9, false), (5, 47, 5, 10, false), (5, 53, 5, 8, false), (5, 56, 9, 0, true), (5, 65, 5, 6, false), (5, 113, 5, 11, false), (6, 7, 6, 0, false), (7, 9, 7, 0, false), (7, 15, 7, 1, false), (7, 24, 7, 2, false), (7, 28, 10, 7, true), (7, 44, 10, 9, true), (7, 48, 10, 10, true), (7, 55, 10, 11, true), (7, 58, 10, 3, true), (8, 16, 8, 0, false), (8, 22, 8, 2, false), (8, 26, 8, 1, false), (9, 14, 9, 0, false), (9, 20, 9, 1, false), (9, 23, 9, 2, false), (10, 14, 10, 1, false), (10, 20, 10, 2, false), (10, 23, 10, 3, false), (10, 26, 10, 4, false), (10, 29, 10, 5, false), (10, 32, 10, 6, false), (10, 38, 10, 7, false), (10, 45, 10, 8, false), (10, 49, 10, 10, false), (10, 52, 10, 11, false), (10, 55, 10, 13, false), (10, 63, 10, 0, false), (10, 75, 10, 9, false), (10, 78, 10, 12, false), (11, 30, 11, 0, false), (11, 34, 11, 2, false), (11, 38, 11, 3, false), (11, 44, 11, 4, false), (11, 53, 11, 5, false), (11, 57, 11, 6, false), (11, 61, 11, 7, false), (11, 70, 11, 8, false), (11, 77, 11, 9, false), (11, 84, 11, 10, false), (11, 88, 10, 0, true), (11, 100, 10, 1, true), (11, 107, 10, 2, true), (11, 110, 10, 3, true), (11, 113, 10, 7, true), (11, 124, 10, 4, true), (11, 127, 10, 5, true), (11, 130, 10, 6, true), (11, 149, 11, 1, false), (11, 155, 10, 12, true), (11, 161, 5, 2, true), (11, 164, 5, 3, true), (11, 167, 10, 13, true), (11, 240, 10, 8, true), (11, 250, 10, 9, true), (11, 256, 10, 10, true), (11, 259, 10, 11, true), (11, 272, 4, 6, true), (11, 275, 4, 5, true), (11, 287, 2, 3, true), (11, 300, 3, 6, true), (11, 303, 3, 4, true), (12, 7, 12, 0, false), (12, 13, 12, 1, false), (12, 16, 12, 2, false), (12, 19, 12, 3, false), (12, 22, 12, 5, false), (12, 26, 12, 6, false), (12, 29, 12, 16, false), (12, 32, 12, 22, false), (12, 35, 12, 23, false), (12, 39, 12, 24, false), (12, 43, 12, 25, false), (12, 46, 12, 26, false), (12, 49, 12, 27, false), (12, 52, 12, 28, false), (12, 55, 12, 29, false), (12, 58, 12, 30, false), (12, 61, 12, 31, false), (12, 64, 12, 32, false), (12, 87, 12, 4, false), (12, 94, 12, 7, false), (12, 101, 12, 8, false), (12, 104, 12, 9, false), (12, 110, 12, 10, false), (12, 117, 12, 11, false), (12, 129, 12, 12, false), (12, 132, 12, 14, false), (12, 135, 12, 17, false), (12, 138, 12, 19, false), (12, 142, 12, 18, false), (12, 163, 12, 20, false), (12, 215, 12, 21, false)]
def zMp1 : List (Nat × Nat × Nat × Bool) := [(13, 9, 94, false), (11, 1, 248, false), (11, 9, 90, false), (10, 3, 248, false), (10, 11, 69, false), (6, 1, 248, false), (10, 37, 0, false), (0, 5, 248, false), (0, 13, 69, false), (0, 20, 71, false), (10, 44, 81, false), (8, 3, 248, false), (8, 13, 69, false), (11, 14, 69, false), (11, 19, 86, false), (9, 3, 248, false), (9, 11, 69, false), (11, 22, 16, false), (1, 3, 248, false), (1, 23, 69, false), (11, 27, 74, false), (7, 3, 248, false), (7, 21, 69, false), (11, 43, 0, false), (11, 50, 45, false), (5, 3, 248, false), (11, 67, 39, false), (4, 3, 248, false), (4, 21, 69, false), (11, 76, 27, false), (2, 3, 248, false), (11, 83, 33, false), (3, 3, 248, false), (3, 21, 69, false), (13, 13, 95, false), (11, 92, 129, false), (11, 120, 127, false), (11, 96, 130, false), (11, 103, 71, false), (13, 18, 96, false), (11, 116, 3, false), (0, 24, 70, false), (11, 133, 9, false), (0, 28, 3, false), (0, 32, 6, false), (13, 23, 97, false), (11, 136, 4, false), (11, 139, 132, false), (11, 142, 133, false), (11, 145, 10, false), (0, 35, 4, false), (0, 38, 8, false), (13, 27, 98, false), (11, 152, 99, false), (13, 32, 100, false), (13, 37, 101, false), (11, 158, 46, false), (5, 38, 87, false), (9, 26, 88, false), (9, 30, 71, false), (5, 44, 61, false), (5, 119, 70, false), (5, 123, 66, false), (5, 126, 67, false), (5, 129, 62, false), (5, 132, 63, false), (5, 147, 236, false), (14, 335, 238, false), (5, 152, 237, false), (14, 492, 239, false), (14, 495, 241, false), (15, 9, 240, false), (14, 1059, 246, false), (14, 498, 244, false), (16, 67, 245, false), (16, 48, 243, false), (16, 414, 240, false), (16, 71, 242, false), (5, 136, 68, false), (5, 139, 64, false), (5, 156, 235, false), (5, 142, 65, false), (5, 50, 49, false), (5, 68, 47, false), (5, 71, 89, false), (9, 34, 70, false), (5, 75, 50, false), (5, 82, 52, false), (5, 97, 54, false), (5, 94, 48, false), (5, 59, 71, false), (5, 100, 59, false), (5, 85, 53, false), (5, 104, 56, false), (5, 107, 57, false), (5, 116, 60, false), (5, 110, 55, false), (5, 88, 51, false), (5, 91, 58, false), (5, 78, 88, false), (13, 42, 102, false), (13, 46, 103, false), (13, 51, 104, false), (11, 170, 136, false), (11, 189, 135, false), (11, 173, 134, false), (11, 176, 105, false), (11, 185, 7, false), (11, 179, 91, false), (10, 59, 83, false), (8, 29, 14, false), (0, 48, 73, false), (6, 13, 70, false), (6, 17, 71, false), (8, 33, 235, false), (11, 182, 8, false), (13, 56, 106, false), (11, 192, 11, false), (0, 41, 7, false), (13, 60, 107, false), (13, 65, 108, false), (13, 69, 109, false), (11, 195, 70, false), (11, 198, 110, false), (11, 202, 1, false), (11, 205, 17, false), (1, 43, 7, false), (1, 49, 18, false), (1, 53, 71, false), (1, 57, 93, false), (10, 81, 70, false), (10, 85, 234, false), (11, 209, 19, false), (1, 62, 70, false), (1, 65, 24, false), (1, 92, 25, false), (1, 68, 26, false), (11, 213, 20, false), (11, 216, 128, false), (13, 73, 111, false), (11, 219, 5, false), (11, 222, 23, false), (1, 72, 235, false), (11, 226, 235, false), (11, 231, 6, false), (11, 234, 2, false), (13, 77, 112, false), (11, 237, 12, false), (13, 81, 113, false), (11, 244, 84, false), (8, 39, 15, false), (0, 52, 2, false), (13, 85, 114, false), (13, 90, 115, false), (13, 95, 116, false), (11, 253, 131, false), (13, 99, 117, false), (13, 103, 118, false), (11, 262, 75, false), (7, 34, 1, false), (7, 40, 76, false), (7, 51, 70, false), (7, 61, 17, false), (7, 67, 19, false), (11, 266, 77, false), (7, 71, 5, false), (7, 74, 23, false), (7, 78, 235, false), (13, 108, 119, false), (11, 269, 40, false), (4, 43, 3, false), (4, 49, 78, false), (7, 84, 4, false), (7, 87, 75, false), (7, 91, 71, false), (4, 55, 41, false), (4, 72, 4, false), (4, 75, 79, false), (4, 78, 77, false), (4, 58, 71, false), (4, 61, 42, false), (4, 82, 70, false), (4, 86, 43, false), (4, 69, 44, false), (13, 112, 120, false), (11, 278, 80, false), (7, 95, 78, false), (7, 98, 79, false), (13, 116, 121, false), (11, 283, 28, false), (2, 32, 22, false), (2, 42, 4, false), (2, 52, 17, false), (2, 56, 29, false), (2, 60, 21, false), (2, 63, 19, false), (11, 291, 30, false), (2, 67, 32, false), (11, 295, 31, false), (13, 121, 122, false), (11, 298, 34, false), (3, 46, 35, false), (3, 61, 4, false), (3, 67, 1, false), (3, 70, 17, false), (3, 76, 19, false), (3, 80, 7, false), (3, 50, 71, false), (3, 54, 36, false), (3, 84, 72, false), (3, 88, 70, false), (3, 91, 38, false), (3, 98, 234, false), (3, 103, 37, false), (13, 125, 123, false), (11, 304, 13, false), (0, 44, 72, false), (11, 308, 233, false), (13, 129, 124, false), (11, 313, 92, false), (10, 66, 72, false), (10, 70, 13, false), (10, 72, 85, false), (8, 42, 72, false), (13, 133, 125, false), (13, 137, 126, false), (11, 316, 82, false), (13, 12, 137, false), (12, 1, 248, false), (12, 67, 138, false), (13, 17, 150, false), (12, 71, 139, false), (13, 22, 151, false), (13, 26, 152, false), (12, 79, 142, false), (12, 83, 146, false), (13, 31, 154, false), (12, 90, 153, false), (13, 36, 155, false), (13, 41, 183, false), (12, 224, 182, false), (12, 166, 159, false), (12, 97, 156, false), (12, 107, 158, false), (12, 114, 157, false), (12, 221, 181, false), (12, 212, 180, false), (12, 125, 161, false), (12, 121, 160, false), (12, 197, 164, false), (12, 159, 163, false), (12, 149, 162, false), (12, 218, 179, false), (12, 207, 178, false), (12, 201, 176, false), (12, 188, 174, false), (12, 182, 173, false), (12, 191, 175, false), (12, 185, 168, false), (12, 145, 165, false), (12, 179, 166, false), (12, 169, 167, false), (12, 194, 172, false), (12, 172, 170, false), (12, 155, 169, false), (12, 176, 171, false), (12, 204, 177, false), (13, 45, 184, false), (13, 50, 185, false), (13, 94, 194, false), (12, 255, 144, false), (12, 258, 143, false), (12, 261, 191, false), (12, 243, 145, false), (12, 246, 149, false), (12, 75, 147, false), (12, 265, 192, false), (12, 249, 190, false), (12, 252, 189, false), (12, 235, 187, false), (12, 231, 186, false), (12, 239, 188, false), (13, 84, 197, false), (13, 55, 199, false), (12, 272, 198, false), (12, 276, 196, false), (13, 59, 201, false), (12, 279, 200, false), (13, 64, 202, false), (13, 68, 203, false), (13, 72, 204, false), (12, 282, 148, false), (12, 285, 193, false), (13, 76, 205, false), (12, 288, 195, false), (12, 268, 140, false), (13, 80, 206, false), (13, 89, 207, false), (13, 98, 208, false), (13, 102, 209, false), (13, 107, 213, false), (12, 298, 212, false), (12, 295, 211, false), (12, 292, 210, false), (13, 111, 216, false), (12, 304, 215, false), (12, 301, 141, false), (12, 307, 214, false), (13, 115, 217, false), (13, 120, 222, false), (12, 319, 220, false), (12, 311, 218, false), (12, 314, 219, false), (12, 322, 221, false), (13, 124, 227, false), (12, 335, 226, false), (12, 326, 223, false), (12, 329, 225, false), (12, 332, 224, false), (13, 128, 228, false), (12, 338, 229, false), (13, 132, 230, false), (13, 136, 231, false), (13, 140, 232, false)]
def zMp2 : List (Nat × Nat × Nat × Bool) := [(2, 48, 128, true)]
def zMp : List (Nat × Nat × Nat × Bool) := zMp1 ++ zMp2
def zCq : List Nat := [94, 248, 90, 69, 0, 71, 81, 86, 16, 74, 45, 39, 27, 33, 95, 129, 127, 130, 96, 3, 70, 9, 6, 97, 4, 132, 133, 10, 8, 98, 99, 100, 101, 46, 87, 88, 61, 66, 67, 62, 63, 236, 238, 237, 239, 241, 240, 246, 244, 245, 243, 242, 68, 64, 235, 65, 49, 47, 89, 50, 52, 54, 48, 59, 53, 56, 57, 60, 55, 51, 58, 102, 103, 104, 136, 135, 134, 105, 7, 91, 83, 14, 73, 106, 11, 107, 108, 109, 110, 1, 17, 18, 93, 234, 19, 24, 25, 26, 20, 128, 111, 5, 23, 2, 112, 12, 113, 84, 15, 114, 115, 116, 131, 117, 118, 75, 76, 77, 119, 40, 78, 41, 79, 42, 43, 44, 120, 80, 121, 28, 22, 29, 21, 30, 32, 31, 122, 34, 35, 36, 72, 38, 37, 123, 13, 233, 124, 92, 85, 125, 126, 82, 137, 138, 150, 139, 151, 152, 142, 146, 154, 153, 155, 183, 182, 159, 156, 158, 157, 181, 180, 161, 160, 164, 163, 162, 179, 178, 176, 174, 173, 175, 168, 165, 166, 167, 172, 170, 169, 171, 177, 184, 185, 194, 144, 143, 191, 145, 149, 147, 192, 190, 189, 187, 186, 188, 197, 199, 198, 196, 201, 200, 202, 203, 204, 148, 193, 205, 195, 140, 206, 207, 208, 209, 213, 212, 211, 210, 216, 215, 141, 214, 217, 222, 220, 218, 219, 221, 227, 226, 223, 225, 224, 228, 229, 230, 231, 232]
def zSq : List Nat := [129, 127, 130, 66, 67, 241, 240, 246, 244, 245, 243, 242, 68, 235, 59, 60, 58, 234, 25, 26, 128, 131, 233, 138, 139, 158, 157, 161, 160, 163, 162, 147, 187, 186, 188, 140, 141, 221]
def zIq : List Nat := [94, 248, 90, 69, 0, 71, 81, 86, 16, 74, 45, 39, 27, 33, 95, 96, 3, 70, 9, 6, 97, 4, 132, 133, 10, 8, 98, 99, 100, 101, 46, 87, 88, 61, 62, 63, 236, 238, 237, 239, 64, 65, 49, 47, 89, 50, 52, 54, 48, 53, 56, 57, 55, 51, 102, 103, 104, 136, 135, 134, 105, 7, 91, 83, 14, 73, 106, 11, 107, 108, 109, 110, 1, 17, 18, 93, 19, 24, 20, 111, 5, 23, 2, 112, 12, 113, 84, 15, 114, 115, 116, 117, 118, 75, 76, 77, 119, 40, 78, 41, 79, 42, 43, 44, 120, 80, 121, 28, 22, 29, 21, 30, 32, 31, 122, 34, 35, 36, 72, 38, 37, 123, 13, 124, 92, 85, 125, 126, 82, 137, 150, 151, 152, 142, 146, 154, 153, 155, 183, 182, 159, 156, 181, 180, 164, 179, 178, 176, 174, 173, 175, 168, 165, 166, 167, 172, 170, 169, 171, 177, 184, 185, 194, 144, 143, 191, 145, 149, 192, 190, 189, 197, 199, 198, 196, 201, 200, 202, 203, 204, 148, 193, 205, 195, 206, 207, 208, 209, 213, 212, 211, 210, 216, 215, 214, 217, 222, 220, 218, 219, 227, 226, 223, 225, 224, 228, 229, 230, 231, 232]
def zEq : List Nat := [132, 133, 99, 61, 62, 63, 64, 65, 49, 47, 50, 52, 54, 48, 53, 56, 57, 55, 51, 136, 135, 134, 105, 110, 18, 24, 76, 41, 42, 43, 44, 29, 32, 35, 36, 38, 37, 142, 146, 153, 182, 159, 156, 181, 180, 164, 179, 178, 176, 174, 173, 175, 168, 165, 166, 167, 172, 170, 169, 171, 177, 144, 143, 191, 145, 149, 192, 190, 189, 198, 196, 200, 148, 193, 195, 212, 211, 210, 215, 214, 220, 218, 219, 226, 223, 225, 224, 229, 71, 95, 96, 3, 70, 9, 6, 97, 4, 10, 8, 98, 100, 101, 46, 87, 88, 236, 238, 237, 239, 89, 102, 103, 104, 7, 91, 83, 14, 73, 106, 11, 107, 108, 109, 1, 17, 93, 19, 20, 111, 5, 23, 2, 112, 12, 113, 84, 15, 114, 115, 116, 117, 118, 75, 77, 119, 40, 78, 79, 120, 80, 121, 28, 22, 21, 30, 31, 122, 34, 72, 123, 13, 124, 92, 85, 125, 126, 82, 150, 151, 152, 154, 155, 183, 184, 185, 194, 197, 199, 201, 202, 203, 204, 205, 206, 207, 208, 209, 213, 216, 217, 222, 227, 228, 230, 231, 232]
def zNq : List Nat := [13, 11, 10, 6, 0, 8, 9, 1, 7, 5, 4, 2, 3, 12, 14, 15, 17, 16, 19, 18]
/-- OxenHome$Herd.hour()I -/
def zm_Herd_hour : zMeth := (1, [(0, (3, 0, [0])), (1, (40, 0, [16, 0, 0])), (4, (0, 0, [])), (5, (49, 0, [24, 70])), (8, (51, 0, []))])
/-- OxenHome$Herd.setHour(I)V -/
def zm_Herd_setHour : zMeth := (2, [(0, (3, 0, [0])), (1, (40, 0, [16, 0, 0])), (4, (0, 0, [])), (5, (1, 0, [1])), (6, (49, 0, [20, 71])), (9, (53, 0, []))])
/-- OxenHome$Herd.fields()I -/
def zm_Herd_fields : zMeth := (3, [(0, (3, 0, [0])), (1, (40, 0, [16, 0, 0])), (4, (0, 1, [])), (5, (49, 0, [24, 70])), (8, (51, 0, []))])
/-- OxenHome$Herd.oxen()I -/
def zm_Herd_oxen : zMeth := (4, [(0, (3, 0, [0])), (1, (40, 0, [16, 0, 0])), (4, (0, 2, [])), (5, (49, 0, [24, 70])), (8, (51, 0, []))])
/-- OxenHome$Herd.furrows(I)I -/
def zm_Herd_furrows : zMeth := (5, [(0, (3, 0, [0])), (1, (40, 0, [16, 0, 0])), (4, (0, 3, [])), (5, (1, 0, [1])), (6, (8, 0, [])), (7, (49, 0, [24, 70])), (10, (51, 0, []))])
/-- OxenHome$Herd.setFurrows(II)V -/
def zm_Herd_setFurrows : zMeth := (6, [(0, (3, 0, [0])), (1, (40, 0, [16, 0, 0])), (4, (0, 3, [])), (5, (1, 0, [1])), (6, (8, 0, [])), (7, (1, 0, [2])), (8, (49, 0, [20, 71])), (11, (53, 0, []))])
/-- OxenHome$Herd.get(II)I -/
def zm_Herd_get : zMeth := (7, [(0, (3, 0, [0])), (1, (40, 0, [16, 0, 0])), (4, (0, 7, [])), (6, (1, 0, [1])), (7, (0, 8, [])), (9, (10, 0, [])), (10, (8, 0, [])), (11, (1, 0, [2])), (12, (8, 0, [])), (13, (49, 0, [24, 70])), (16, (51, 0, []))])
/-- OxenHome$Herd.put(III)V -/
def zm_Herd_put : zMeth := (8, [(0, (3, 0, [0])), (1, (40, 0, [16, 0, 0])), (4, (0, 7, [])), (6, (1, 0, [1])), (7, (0, 8, [])), (9, (10, 0, [])), (10, (8, 0, [])), (11, (1, 0, [2])), (12, (8, 0, [])), (13, (1, 0, [3])), (14, (49, 0, [20, 71])), (17, (53, 0, []))])
/-- OxenHome$Herd.addField(I)V -/
def zm_Herd_addField : zMeth := (9, [(0, (3, 0, [0])), (1, (3, 0, [0])), (2, (49, 0, [28, 3])), (5, (1, 0, [1])), (6, (49, 0, [32, 6])), (9, (3, 0, [0])), (10, (40, 0, [16, 0, 0])), (13, (0, 1, [])), (14, (3, 0, [0])), (15, (49, 0, [28, 3])), (18, (0, 1, [])), (19, (8, 0, [])), (20, (49, 0, [20, 71])), (23, (53, 0, []))])
/-- OxenHome$Herd.addOx(IIII)V -/
def zm_Herd_addOx : zMeth := (10, [(0, (3, 0, [0])), (1, (49, 0, [35, 4])), (4, (2, 0, [5])), (6, (3, 0, [0])), (7, (1, 0, [5])), (9, (0, 0, [])), (10, (1, 0, [1])), (11, (49, 0, [38, 8])), (14, (3, 0, [0])), (15, (1, 0, [5])), (17, (0, 1, [])), (18, (1, 0, [2])), (19, (49, 0, [38, 8])), (22, (3, 0, [0])), (23, (1, 0, [5])), (25, (0, 2, [])), (26, (1, 0, [3])), (27, (49, 0, [38, 8])), (30, (3, 0, [0])), (31, (1, 0, [5])), (33, (0, 3, [])), (34, (1, 0, [4])), (36, (49, 0, [38, 8])), (39, (3, 0, [0])), (40, (1, 0, [5])), (42, (0, 4, [])), (43, (1, 0, [1])), (44, (49, 0, [38, 8])), (47, (3, 0, [0])), (48, (1, 0, [5])), (50, (0, 5, [])), (51, (0, 0, [])), (52, (49, 0, [38, 8])), (55, (3, 0, [0])), (56, (1, 0, [5])), (58, (0, 6, [])), (60, (1, 0, [1])), (61, (49, 0, [38, 8])), (64, (3, 0, [0])), (65, (1, 0, [5])), (67, (0, 7, [])), (69, (0, (-1), [])), (70, (49, 0, [38, 8])), (73, (3, 0, [0])), (74, (40, 0, [16, 0, 0])), (77, (0, 2, [])), (78, (1, 0, [5])), (80, (0, 1, [])), (81, (8, 0, [])), (82, (49, 0, [20, 71])), (85, (53, 0, []))])
/-- OxenHome$Herd.unyoke(I)V -/
def zm_Herd_unyoke : zMeth := (11, [(0, (3, 0, [0])), (1, (1, 0, [1])), (2, (0, 7, [])), (4, (49, 0, [41, 7])), (7, (2, 0, [2])), (8, (1, 0, [2])), (9, (0, (-1), [])), (10, (35, 0, [0, 18])), (13, (3, 0, [0])), (14, (1, 0, [2])), (15, (0, 7, [])), (17, (0, (-1), [])), (18, (49, 0, [38, 8])), (21, (3, 0, [0])), (22, (1, 0, [1])), (23, (0, 7, [])), (25, (0, (-1), [])), (26, (49, 0, [38, 8])), (29, (53, 0, []))])
/-- OxenHome$Herd.sleepAtOwner(I)Z -/
def zm_Herd_sleepAtOwner : zMeth := (12, [(0, (3, 0, [0])), (1, (1, 0, [1])), (2, (0, 4, [])), (3, (49, 0, [41, 7])), (6, (2, 0, [2])), (7, (3, 0, [0])), (8, (1, 0, [1])), (9, (0, 6, [])), (11, (49, 0, [41, 7])), (14, (1, 0, [2])), (15, (35, 0, [1, 17])), (18, (3, 0, [0])), (19, (1, 0, [1])), (20, (0, 0, [])), (21, (49, 0, [41, 7])), (24, (1, 0, [2])), (25, (35, 0, [1, 19])), (28, (0, 0, [])), (29, (51, 0, [])), (30, (3, 0, [0])), (31, (1, 0, [1])), (32, (0, 5, [])), (33, (49, 0, [41, 7])), (36, (0, 1, [])), (37, (8, 0, [])), (38, (2, 0, [3])), (39, (1, 0, [3])), (40, (0, 3, [])), (41, (35, 0, [2, 31])), (44, (0, 1, [])), (45, (37, 0, [32])), (48, (0, 0, [])), (49, (2, 0, [4])), (51, (3, 0, [0])), (52, (1, 0, [1])), (53, (0, 5, [])), (54, (1, 0, [4])), (56, (36, 0, [0, 40])), (59, (0, 0, [])), (60, (37, 0, [41])), (63, (1, 0, [3])), (64, (49, 0, [38, 8])), (67, (1, 0, [4])), (69, (36, 0, [0, 49])), (72, (3, 0, [0])), (73, (1, 0, [1])), (74, (0, 0, [])), (75, (1, 0, [2])), (76, (49, 0, [38, 8])), (79, (1, 0, [4])), (81, (51, 0, []))])
/-- OxenHome$Herd.copyFrom(LOxenHome$Herd;)V -/
def zm_Herd_copyFrom : zMeth := (13, [(0, (3, 0, [0])), (1, (40, 0, [16, 0, 0])), (4, (3, 0, [1])), (5, (40, 0, [16, 0, 0])), (8, (49, 0, [44, 72])), (11, (53, 0, []))])
/-- OxenHome$Herd.writeTo(LOxenHome$Row;I)V -/
def zm_Herd_writeTo : zMeth := (14, [(0, (3, 0, [1])), (1, (1, 0, [2])), (2, (3, 0, [0])), (3, (40, 0, [16, 0, 0])), (6, (0, 0, [])), (7, (0, 71, [])), (9, (49, 0, [48, 73])), (12, (53, 0, []))])
/-- OxenHome$Herd.readBack(LOxenHome$Row;I)V -/
def zm_Herd_readBack : zMeth := (15, [(0, (3, 0, [0])), (1, (3, 0, [1])), (2, (1, 0, [2])), (3, (0, 0, [])), (4, (8, 0, [])), (5, (49, 0, [24, 70])), (8, (49, 0, [52, 2])), (11, (3, 0, [0])), (12, (40, 0, [16, 0, 0])), (15, (0, 3, [])), (16, (3, 0, [1])), (17, (1, 0, [2])), (18, (0, 3, [])), (19, (8, 0, [])), (20, (3, 0, [1])), (21, (1, 0, [2])), (22, (0, 1, [])), (23, (8, 0, [])), (24, (49, 0, [24, 70])), (27, (49, 0, [48, 73])), (30, (3, 0, [1])), (31, (1, 0, [2])), (32, (0, 2, [])), (33, (8, 0, [])), (34, (49, 0, [24, 70])), (37, (0, 8, [])), (39, (10, 0, [])), (40, (2, 0, [3])), (41, (3, 0, [0])), (42, (40, 0, [16, 0, 0])), (45, (0, 7, [])), (47, (3, 0, [1])), (48, (1, 0, [2])), (49, (0, 7, [])), (51, (8, 0, [])), (52, (1, 0, [3])), (53, (49, 0, [48, 73])), (56, (53, 0, []))])
/-- OxenHome$Laws.ask(IIIIZI)V -/
def zm_Laws_ask : zMeth := (17, [(0, (3, 0, [0])), (1, (1, 0, [1])), (2, (41, 0, [33, 1, 4])), (5, (3, 0, [0])), (6, (40, 0, [9, 1, 0])), (9, (40, 0, [37, 10, 7])), (12, (4, 0, [7])), (14, (3, 0, [7])), (16, (1, 0, [1])), (17, (0, 0, [])), (18, (49, 0, [43, 7])), (21, (1, 0, [2])), (22, (35, 0, [0, 19])), (25, (3, 0, [7])), (27, (1, 0, [1])), (28, (0, 1, [])), (29, (49, 0, [43, 7])), (32, (1, 0, [2])), (33, (35, 0, [1, 21])), (36, (0, 1, [])), (37, (37, 0, [22])), (40, (0, 0, [])), (41, (2, 0, [8])), (43, (3, 0, [0])), (44, (1, 0, [2])), (45, (1, 0, [3])), (46, (1, 0, [6])), (48, (49, 0, [49, 18])), (51, (3, 0, [0])), (52, (40, 0, [26, 1, 2])), (55, (0, 3, [])), (56, (3, 0, [7])), (58, (1, 0, [1])), (59, (0, 3, [])), (60, (49, 0, [43, 7])), (63, (49, 0, [53, 71])), (66, (3, 0, [0])), (67, (40, 0, [26, 1, 2])), (70, (0, 4, [])), (71, (1, 0, [8])), (73, (36, 0, [0, 46])), (76, (1, 0, [2])), (77, (0, (-1), [])), (78, (35, 0, [0, 46])), (81, (0, 1, [])), (82, (37, 0, [47])), (85, (0, 0, [])), (86, (49, 0, [53, 71])), (89, (3, 0, [0])), (90, (40, 0, [26, 1, 2])), (93, (0, 5, [])), (94, (1, 0, [2])), (95, (0, (-1), [])), (96, (35, 0, [1, 56])), (99, (0, 0, [])), (100, (37, 0, [61])), (103, (3, 0, [0])), (104, (40, 0, [9, 1, 0])), (107, (1, 0, [2])), (108, (1, 0, [4])), (110, (49, 0, [57, 93])), (113, (49, 0, [53, 71])), (116, (3, 0, [0])), (117, (40, 0, [26, 1, 2])), (120, (0, 6, [])), (122, (1, 0, [5])), (124, (36, 0, [0, 69])), (127, (0, 1, [])), (128, (37, 0, [70])), (131, (0, 0, [])), (132, (49, 0, [53, 71])), (135, (3, 0, [0])), (136, (40, 0, [26, 1, 2])), (139, (0, 7, [])), (141, (1, 0, [1])), (142, (49, 0, [53, 71])), (145, (3, 0, [0])), (146, (40, 0, [26, 1, 2])), (149, (0, 8, [])), (151, (3, 0, [7])), (153, (1, 0, [1])), (154, (0, 2, [])), (155, (49, 0, [43, 7])), (158, (49, 0, [53, 71])), (161, (53, 0, []))])
/-- OxenHome$Laws.askCall(III)V -/
def zm_Laws_askCall : zMeth := (18, [(0, (3, 0, [0])), (1, (40, 0, [26, 1, 2])), (4, (0, 0, [])), (5, (1, 0, [3])), (6, (49, 0, [53, 71])), (9, (3, 0, [0])), (10, (40, 0, [26, 1, 2])), (13, (0, 1, [])), (14, (1, 0, [2])), (15, (49, 0, [53, 71])), (18, (3, 0, [0])), (19, (40, 0, [26, 1, 2])), (22, (0, 2, [])), (23, (1, 0, [1])), (24, (49, 0, [53, 71])), (27, (53, 0, []))])
/-- OxenHome$Laws.heeded()Z -/
def zm_Laws_heeded : zMeth := (19, [(0, (3, 0, [0])), (1, (0, 0, [])), (2, (3, 0, [0])), (3, (40, 0, [26, 1, 2])), (6, (0, 4, [])), (7, (49, 0, [62, 70])), (10, (49, 0, [65, 24])), (13, (36, 0, [0, 10])), (16, (0, 1, [])), (17, (37, 0, [11])), (20, (0, 0, [])), (21, (51, 0, []))])
/-- OxenHome$Laws.toSecond()Z -/
def zm_Laws_toSecond : zMeth := (20, [(0, (3, 0, [0])), (1, (40, 0, [9, 1, 0])), (4, (40, 0, [37, 10, 7])), (7, (3, 0, [0])), (8, (40, 0, [33, 1, 4])), (11, (0, 1, [])), (12, (49, 0, [43, 7])), (15, (0, (-1), [])), (16, (35, 0, [0, 16])), (19, (3, 0, [0])), (20, (0, 1, [])), (21, (0, 0, [])), (22, (49, 0, [65, 24])), (25, (36, 0, [0, 16])), (28, (0, 1, [])), (29, (37, 0, [17])), (32, (0, 0, [])), (33, (51, 0, []))])
/-- OxenHome$Laws.slip()I -/
def zm_Laws_slip : zMeth := (21, [(0, (3, 0, [0])), (1, (0, 2, [])), (2, (0, 0, [])), (3, (49, 0, [65, 24])), (6, (29, 0, [])), (7, (0, 0, [])), (8, (0, 9, [])), (10, (50, 0, [68, 26])), (13, (51, 0, []))])
/-- OxenHome$Laws.weight(III)I -/
def zm_Laws_weight : zMeth := (22, [(0, (3, 0, [0])), (1, (1, 0, [1])), (2, (1, 0, [2])), (3, (1, 0, [3])), (4, (49, 0, [49, 18])), (7, (3, 0, [0])), (8, (0, 3, [])), (9, (0, 1, [])), (10, (49, 0, [65, 24])), (13, (29, 0, [])), (14, (0, 0, [])), (15, (0, 9, [])), (17, (50, 0, [68, 26])), (20, (51, 0, []))])
/-- OxenHome$Laws.work(IIII)I -/
def zm_Laws_work : zMeth := (23, [(0, (3, 0, [0])), (1, (40, 0, [9, 1, 0])), (4, (40, 0, [37, 10, 7])), (7, (1, 0, [1])), (8, (0, 2, [])), (9, (49, 0, [43, 7])), (12, (2, 0, [5])), (14, (3, 0, [0])), (15, (40, 0, [9, 1, 0])), (18, (40, 0, [37, 10, 7])), (21, (1, 0, [2])), (22, (0, 2, [])), (23, (49, 0, [43, 7])), (26, (2, 0, [6])), (28, (3, 0, [0])), (29, (40, 0, [26, 1, 2])), (32, (0, 0, [])), (33, (1, 0, [4])), (35, (49, 0, [53, 71])), (38, (3, 0, [0])), (39, (40, 0, [26, 1, 2])), (42, (0, 8, [])), (44, (1, 0, [5])), (46, (1, 0, [6])), (48, (8, 0, [])), (49, (49, 0, [53, 71])), (52, (3, 0, [0])), (53, (40, 0, [26, 1, 2])), (56, (0, 9, [])), (58, (1, 0, [5])), (60, (1, 0, [6])), (62, (50, 0, [72, 235])), (65, (49, 0, [53, 71])), (68, (3, 0, [0])), (69, (40, 0, [26, 1, 2])), (72, (0, 10, [])), (74, (3, 0, [0])), (75, (40, 0, [9, 1, 0])), (78, (40, 0, [77, 10, 6])), (81, (1, 0, [3])), (82, (49, 0, [62, 70])), (85, (49, 0, [53, 71])), (88, (3, 0, [0])), (89, (0, 4, [])), (90, (1, 0, [5])), (92, (1, 0, [6])), (94, (8, 0, [])), (95, (49, 0, [65, 24])), (98, (29, 0, [])), (99, (0, 0, [])), (100, (0, 99, [])), (102, (50, 0, [68, 26])), (105, (51, 0, []))])
/-- OxenHome$Laws.value(II)I -/
def zm_Laws_value : zMeth := (24, [(0, (3, 0, [0])), (1, (40, 0, [9, 1, 0])), (4, (40, 0, [80, 10, 13])), (7, (0, (-1), [])), (8, (35, 0, [1, 7])), (11, (1, 0, [2])), (12, (51, 0, [])), (13, (3, 0, [0])), (14, (40, 0, [15, 1, 1])), (17, (40, 0, [83, 9, 1])), (20, (3, 0, [0])), (21, (40, 0, [9, 1, 0])), (24, (40, 0, [80, 10, 13])), (27, (0, 5, [])), (28, (10, 0, [])), (29, (1, 0, [1])), (30, (8, 0, [])), (31, (49, 0, [62, 70])), (34, (2, 0, [3])), (35, (3, 0, [0])), (36, (40, 0, [15, 1, 1])), (39, (40, 0, [86, 9, 2])), (42, (3, 0, [0])), (43, (40, 0, [9, 1, 0])), (46, (40, 0, [80, 10, 13])), (49, (0, 5, [])), (50, (10, 0, [])), (51, (1, 0, [1])), (52, (8, 0, [])), (53, (49, 0, [62, 70])), (56, (2, 0, [4])), (58, (1, 0, [3])), (59, (1, 0, [4])), (61, (35, 0, [2, 36])), (64, (1, 0, [2])), (65, (51, 0, [])), (66, (0, (-1), [])), (67, (2, 0, [5])), (69, (1, 0, [3])), (70, (2, 0, [6])), (72, (1, 0, [6])), (74, (1, 0, [4])), (76, (35, 0, [3, 129])), (79, (3, 0, [0])), (80, (40, 0, [15, 1, 1])), (83, (40, 0, [89, 9, 0])), (86, (1, 0, [6])), (88, (49, 0, [62, 70])), (91, (2, 0, [7])), (93, (1, 0, [7])), (95, (0, 10000, [])), (98, (35, 0, [3, 59])), (101, (7, 1, [5])), (104, (3, 0, [0])), (105, (40, 0, [30, 1, 3])), (108, (1, 0, [5])), (110, (1, 0, [7])), (112, (49, 0, [53, 71])), (115, (37, 0, [127])), (118, (1, 0, [7])), (120, (0, 20000, [])), (123, (35, 0, [3, 74])), (126, (7, 1, [5])), (129, (3, 0, [0])), (130, (40, 0, [30, 1, 3])), (133, (1, 0, [5])), (135, (3, 0, [0])), (136, (40, 0, [26, 1, 2])), (139, (1, 0, [7])), (141, (0, 10000, [])), (144, (9, 0, [])), (145, (49, 0, [62, 70])), (148, (49, 0, [53, 71])), (151, (37, 0, [127])), (154, (1, 0, [7])), (156, (0, 20018, [])), (159, (35, 0, [1, 88])), (162, (3, 0, [0])), (163, (40, 0, [30, 1, 3])), (166, (1, 0, [5])), (168, (0, 1, [])), (169, (3, 0, [0])), (170, (40, 0, [30, 1, 3])), (173, (1, 0, [5])), (175, (49, 0, [62, 70])), (178, (9, 0, [])), (179, (49, 0, [53, 71])), (182, (37, 0, [127])), (185, (1, 0, [7])), (187, (0, 20033, [])), (190, (35, 0, [1, 101])), (193, (3, 0, [0])), (194, (40, 0, [30, 1, 3])), (197, (1, 0, [5])), (199, (3, 0, [0])), (200, (40, 0, [30, 1, 3])), (203, (1, 0, [5])), (205, (49, 0, [62, 70])), (208, (13, 0, [])), (209, (49, 0, [53, 71])), (212, (37, 0, [127])), (215, (7, (-1), [5])), (218, (1, 0, [7])), (220, (0, 20000, [])), (223, (9, 0, [])), (224, (3, 0, [0])), (225, (40, 0, [30, 1, 3])), (228, (1, 0, [5])), (230, (49, 0, [62, 70])), (233, (29, 0, [])), (234, (3, 0, [0])), (235, (40, 0, [30, 1, 3])), (238, (1, 0, [5])), (240, (0, 1, [])), (241, (8, 0, [])), (242, (49, 0, [62, 70])), (245, (29, 0, [])), (246, (50, 0, [92, 25])), (249, (6, 0, [8])), (251, (3, 0, [0])), (252, (40, 0, [30, 1, 3])), (255, (1, 0, [5])), (257, (5, 0, [8])), (259, (0, (-1000000), [96])), (261, (0, 1000000, [97])), (263, (50, 0, [68, 26])), (266, (49, 0, [53, 71])), (269, (7, 1, [6])), (272, (37, 0, [40])), (275, (3, 0, [0])), (276, (40, 0, [30, 1, 3])), (279, (1, 0, [5])), (281, (49, 0, [62, 70])), (284, (51, 0, []))])
/-- OxenHome$Laws.joined(IJJ)J -/
def zm_Laws_joined : zMeth := (25, [(0, (1, 0, [0])), (1, (39, 16, [70, 2, 6, 70, 70, 10, 26, 42, 50, 58, 62, 66, 70, 70, 70, 70, 18, 34])), (84, (5, 0, [1])), (85, (5, 0, [3])), (86, (27, 0, [])), (87, (52, 0, [])), (88, (5, 0, [1])), (89, (5, 0, [3])), (90, (26, 0, [])), (91, (52, 0, [])), (92, (5, 0, [1])), (93, (5, 0, [3])), (94, (38, 0, [])), (95, (36, 0, [3, 16])), (98, (31, 1, [])), (99, (37, 0, [17])), (102, (31, 0, [])), (103, (52, 0, [])), (104, (5, 0, [1])), (105, (5, 0, [3])), (106, (38, 0, [])), (107, (36, 0, [4, 24])), (110, (31, 1, [])), (111, (37, 0, [25])), (114, (31, 0, [])), (115, (52, 0, [])), (116, (5, 0, [1])), (117, (5, 0, [3])), (118, (38, 0, [])), (119, (36, 0, [5, 32])), (122, (31, 1, [])), (123, (37, 0, [33])), (126, (31, 0, [])), (127, (52, 0, [])), (128, (5, 0, [1])), (129, (5, 0, [3])), (130, (38, 0, [])), (131, (36, 0, [2, 40])), (134, (31, 1, [])), (135, (37, 0, [41])), (138, (31, 0, [])), (139, (52, 0, [])), (140, (5, 0, [1])), (141, (5, 0, [3])), (142, (38, 0, [])), (143, (36, 0, [1, 48])), (146, (31, 1, [])), (147, (37, 0, [49])), (150, (31, 0, [])), (151, (52, 0, [])), (152, (5, 0, [1])), (153, (5, 0, [3])), (154, (38, 0, [])), (155, (36, 0, [0, 56])), (158, (31, 1, [])), (159, (37, 0, [57])), (162, (31, 0, [])), (163, (52, 0, [])), (164, (5, 0, [1])), (165, (5, 0, [3])), (166, (20, 0, [])), (167, (52, 0, [])), (168, (5, 0, [1])), (169, (5, 0, [3])), (170, (21, 0, [])), (171, (52, 0, [])), (172, (5, 0, [1])), (173, (5, 0, [3])), (174, (22, 0, [])), (175, (52, 0, [])), (176, (5, 0, [3])), (177, (31, 0, [])), (178, (38, 0, [])), (179, (36, 0, [1, 76])), (182, (31, 0, [])), (183, (37, 0, [79])), (186, (5, 0, [1])), (187, (5, 0, [3])), (188, (23, 0, [])), (189, (52, 0, []))])
/-- OxenHome$Laws.between(JII)I -/
def zm_Laws_between : zMeth := (26, [(0, (5, 0, [0])), (1, (1, 0, [2])), (2, (29, 0, [])), (3, (38, 0, [])), (4, (36, 0, [3, 7])), (7, (1, 0, [2])), (8, (37, 0, [16])), (11, (5, 0, [0])), (12, (1, 0, [3])), (13, (29, 0, [])), (14, (38, 0, [])), (15, (36, 0, [5, 14])), (18, (1, 0, [3])), (19, (37, 0, [16])), (22, (5, 0, [0])), (23, (30, 0, [])), (24, (51, 0, []))])
/-- OxenHome$Odds.weighAll(IIIII)V -/
def zm_Odds_weighAll : zMeth := (28, [(0, (3, 0, [0])), (1, (31, 0, [])), (2, (41, 0, [19, 2, 2])), (5, (3, 0, [0])), (6, (31, 0, [])), (7, (41, 0, [23, 2, 3])), (10, (0, 0, [])), (11, (2, 0, [6])), (13, (1, 0, [6])), (15, (3, 0, [0])), (16, (40, 0, [9, 2, 0])), (19, (40, 0, [26, 10, 0])), (22, (35, 0, [3, 83])), (25, (0, 0, [])), (26, (2, 0, [7])), (28, (1, 0, [7])), (30, (0, 10, [])), (32, (35, 0, [3, 81])), (35, (3, 0, [0])), (36, (40, 0, [15, 2, 1])), (39, (1, 0, [6])), (41, (1, 0, [7])), (43, (1, 0, [2])), (44, (49, 0, [32, 22])), (47, (29, 0, [])), (48, (6, 0, [8])), (50, (0, 0, [])), (51, (2, 0, [10])), (53, (1, 0, [10])), (55, (3, 0, [0])), (56, (40, 0, [9, 2, 0])), (59, (40, 0, [38, 10, 7])), (62, (49, 0, [42, 4])), (65, (35, 0, [3, 62])), (68, (5, 0, [8])), (70, (31, 0, [])), (71, (38, 0, [])), (72, (36, 0, [0, 62])), (75, (1, 0, [3])), (76, (1, 0, [10])), (78, (50, 0, [48, 128])), (81, (36, 0, [0, 60])), (84, (3, 0, [0])), (85, (40, 0, [15, 2, 1])), (88, (1, 0, [10])), (90, (1, 0, [6])), (92, (1, 0, [7])), (94, (1, 0, [1])), (95, (0, 0, [])), (96, (1, 0, [2])), (97, (49, 0, [52, 17])), (100, (5, 0, [8])), (102, (3, 0, [0])), (103, (1, 0, [4])), (105, (1, 0, [10])), (107, (50, 0, [48, 128])), (110, (49, 0, [56, 29])), (113, (29, 0, [])), (114, (22, 0, [])), (115, (6, 0, [8])), (117, (7, 1, [10])), (120, (37, 0, [28])), (123, (3, 0, [0])), (124, (32, 0, [])), (125, (40, 0, [23, 2, 3])), (128, (5, 0, [8])), (130, (20, 0, [])), (131, (41, 0, [23, 2, 3])), (134, (3, 0, [0])), (135, (32, 0, [])), (136, (40, 0, [19, 2, 2])), (139, (1, 0, [6])), (141, (1, 0, [5])), (143, (35, 0, [1, 76])), (146, (5, 0, [8])), (148, (37, 0, [77])), (151, (31, 0, [])), (152, (20, 0, [])), (153, (41, 0, [19, 2, 2])), (156, (7, 1, [7])), (159, (37, 0, [15])), (162, (7, 1, [6])), (165, (37, 0, [8])), (168, (53, 0, []))])
/-- OxenHome$Odds.times(Z)I -/
def zm_Odds_times : zMeth := (29, [(0, (3, 0, [0])), (1, (40, 0, [15, 2, 1])), (4, (49, 0, [60, 21])), (7, (2, 0, [2])), (8, (3, 0, [0])), (9, (40, 0, [15, 2, 1])), (12, (49, 0, [63, 19])), (15, (1, 0, [1])), (16, (35, 0, [1, 13])), (19, (0, 10, [])), (21, (1, 0, [2])), (22, (9, 0, [])), (23, (37, 0, [14])), (26, (1, 0, [2])), (27, (51, 0, []))])
/-- OxenHome$Odds.lowestUpper()J -/
def zm_Odds_lowestUpper : zMeth := (30, [(0, (3, 0, [0])), (1, (49, 0, [67, 32])), (4, (6, 0, [1])), (5, (5, 0, [1])), (6, (31, 0, [])), (7, (38, 0, [])), (8, (36, 0, [1, 10])), (11, (3, 0, [0])), (12, (40, 0, [19, 2, 2])), (15, (37, 0, [14])), (18, (3, 0, [0])), (19, (40, 0, [19, 2, 2])), (22, (5, 0, [1])), (23, (23, 0, [])), (24, (52, 0, []))])
/-- OxenHome$Odds.lowestLower()J -/
def zm_Odds_lowestLower : zMeth := (31, [(0, (3, 0, [0])), (1, (49, 0, [67, 32])), (4, (6, 0, [1])), (5, (5, 0, [1])), (6, (31, 0, [])), (7, (38, 0, [])), (8, (36, 0, [1, 10])), (11, (3, 0, [0])), (12, (40, 0, [23, 2, 3])), (15, (37, 0, [14])), (18, (3, 0, [0])), (19, (40, 0, [23, 2, 3])), (22, (5, 0, [1])), (23, (23, 0, [])), (24, (52, 0, []))])
/-- OxenHome$Odds.divisor()J -/
def zm_Odds_divisor : zMeth := (32, [(0, (3, 0, [0])), (1, (40, 0, [23, 2, 3])), (4, (6, 0, [1])), (5, (3, 0, [0])), (6, (40, 0, [19, 2, 2])), (9, (6, 0, [3])), (10, (0, 0, [])), (11, (2, 0, [5])), (13, (1, 0, [5])), (15, (0, 128, [])), (18, (35, 0, [3, 25])), (21, (5, 0, [3])), (22, (31, 0, [])), (23, (38, 0, [])), (24, (36, 0, [0, 25])), (27, (5, 0, [1])), (28, (5, 0, [3])), (29, (24, 0, [])), (30, (6, 0, [6])), (32, (5, 0, [3])), (33, (6, 0, [1])), (34, (5, 0, [6])), (36, (6, 0, [3])), (37, (7, 1, [5])), (40, (37, 0, [8])), (43, (5, 0, [1])), (44, (52, 0, []))])
/-- OxenHome$Pitches.search(II)V -/
def zm_Pitches_search : zMeth := (34, [(0, (3, 0, [0])), (1, (1, 0, [1])), (2, (41, 0, [34, 3, 5])), (5, (3, 0, [0])), (6, (0, (-1), [])), (7, (41, 0, [38, 3, 6])), (10, (0, 0, [])), (11, (2, 0, [3])), (12, (1, 0, [3])), (13, (3, 0, [0])), (14, (40, 0, [9, 3, 0])), (17, (40, 0, [41, 10, 0])), (20, (35, 0, [3, 39])), (23, (0, 0, [])), (24, (2, 0, [4])), (26, (1, 0, [4])), (28, (0, 10, [])), (30, (35, 0, [3, 37])), (33, (3, 0, [0])), (34, (40, 0, [24, 3, 2])), (37, (1, 0, [3])), (38, (0, 10, [])), (40, (10, 0, [])), (41, (1, 0, [4])), (43, (8, 0, [])), (44, (3, 0, [0])), (45, (1, 0, [3])), (46, (1, 0, [4])), (48, (1, 0, [2])), (49, (49, 0, [46, 35])), (52, (36, 0, [0, 33])), (55, (0, 1, [])), (56, (37, 0, [34])), (59, (0, 0, [])), (60, (49, 0, [50, 71])), (63, (7, 1, [4])), (66, (37, 0, [15])), (69, (7, 1, [3])), (72, (37, 0, [8])), (75, (3, 0, [0])), (76, (0, 0, [])), (77, (0, 0, [])), (78, (49, 0, [54, 36])), (81, (53, 0, []))])
/-- OxenHome$Pitches.fitsAll(III)Z -/
def zm_Pitches_fitsAll : zMeth := (35, [(0, (3, 0, [0])), (1, (40, 0, [9, 3, 0])), (4, (40, 0, [57, 10, 7])), (7, (4, 0, [4])), (9, (0, 0, [])), (10, (2, 0, [5])), (12, (1, 0, [5])), (14, (3, 0, [4])), (16, (49, 0, [61, 4])), (19, (35, 0, [3, 58])), (22, (3, 0, [0])), (23, (40, 0, [15, 3, 1])), (26, (1, 0, [5])), (28, (1, 0, [1])), (29, (1, 0, [2])), (30, (1, 0, [3])), (31, (0, 0, [])), (32, (3, 0, [4])), (34, (49, 0, [67, 1])), (37, (49, 0, [70, 17])), (40, (3, 0, [0])), (41, (40, 0, [15, 3, 1])), (44, (49, 0, [76, 19])), (47, (2, 0, [6])), (49, (3, 0, [4])), (51, (1, 0, [5])), (53, (0, 0, [])), (54, (49, 0, [80, 7])), (57, (1, 0, [1])), (58, (35, 0, [1, 32])), (61, (0, 1, [])), (62, (37, 0, [33])), (65, (0, 0, [])), (66, (2, 0, [7])), (68, (1, 0, [7])), (70, (36, 0, [1, 44])), (73, (3, 0, [4])), (75, (1, 0, [5])), (77, (0, 1, [])), (78, (49, 0, [80, 7])), (81, (1, 0, [1])), (82, (35, 0, [0, 44])), (85, (0, 1, [])), (86, (37, 0, [45])), (89, (0, 0, [])), (90, (2, 0, [8])), (92, (1, 0, [7])), (94, (36, 0, [0, 50])), (97, (1, 0, [6])), (99, (36, 0, [0, 54])), (102, (1, 0, [8])), (104, (36, 0, [0, 56])), (107, (1, 0, [6])), (109, (36, 0, [0, 56])), (112, (0, 0, [])), (113, (51, 0, [])), (114, (7, 1, [5])), (117, (37, 0, [6])), (120, (0, 1, [])), (121, (51, 0, []))])
/-- OxenHome$Pitches.choose(II)V -/
def zm_Pitches_choose : zMeth := (36, [(0, (1, 0, [1])), (1, (3, 0, [0])), (2, (40, 0, [9, 3, 0])), (5, (40, 0, [41, 10, 0])), (8, (35, 0, [3, 8])), (11, (1, 0, [1])), (12, (0, 5, [])), (13, (35, 0, [2, 17])), (16, (3, 0, [0])), (17, (1, 0, [2])), (18, (41, 0, [38, 3, 6])), (21, (3, 0, [0])), (22, (40, 0, [31, 3, 4])), (25, (3, 0, [0])), (26, (40, 0, [28, 3, 3])), (29, (49, 0, [84, 72])), (32, (53, 0, [])), (33, (0, 0, [])), (34, (2, 0, [3])), (35, (1, 0, [3])), (36, (0, 10, [])), (38, (35, 0, [3, 52])), (41, (3, 0, [0])), (42, (40, 0, [24, 3, 2])), (45, (1, 0, [1])), (46, (0, 10, [])), (48, (10, 0, [])), (49, (1, 0, [3])), (50, (8, 0, [])), (51, (49, 0, [88, 70])), (54, (36, 0, [0, 50])), (57, (3, 0, [0])), (58, (1, 0, [1])), (59, (1, 0, [3])), (60, (49, 0, [91, 38])), (63, (36, 0, [0, 50])), (66, (3, 0, [0])), (67, (1, 0, [1])), (68, (1, 0, [3])), (69, (1, 0, [2])), (70, (1, 0, [3])), (71, (3, 0, [0])), (72, (40, 0, [9, 3, 0])), (75, (40, 0, [95, 10, 3])), (78, (1, 0, [1])), (79, (49, 0, [88, 70])), (82, (9, 0, [])), (83, (50, 0, [98, 234])), (86, (8, 0, [])), (87, (49, 0, [103, 37])), (90, (7, 1, [3])), (93, (37, 0, [19])), (96, (53, 0, []))])
/-- OxenHome$Pitches.pick(III)V -/
def zm_Pitches_pick : zMeth := (37, [(0, (3, 0, [0])), (1, (40, 0, [38, 3, 6])), (4, (0, (-1), [])), (5, (35, 0, [0, 8])), (8, (1, 0, [3])), (9, (3, 0, [0])), (10, (40, 0, [38, 3, 6])), (13, (35, 0, [3, 19])), (16, (3, 0, [0])), (17, (40, 0, [28, 3, 3])), (20, (1, 0, [1])), (21, (1, 0, [2])), (22, (49, 0, [50, 71])), (25, (3, 0, [0])), (26, (1, 0, [1])), (27, (0, 1, [])), (28, (8, 0, [])), (29, (1, 0, [3])), (30, (49, 0, [54, 36])), (33, (53, 0, []))])
/-- OxenHome$Pitches.isFree(II)Z -/
def zm_Pitches_isFree : zMeth := (38, [(0, (0, 0, [])), (1, (2, 0, [3])), (2, (1, 0, [3])), (3, (1, 0, [1])), (4, (35, 0, [3, 19])), (7, (1, 0, [2])), (8, (3, 0, [0])), (9, (40, 0, [28, 3, 3])), (12, (1, 0, [3])), (13, (49, 0, [88, 70])), (16, (9, 0, [])), (17, (50, 0, [98, 234])), (20, (3, 0, [0])), (21, (40, 0, [34, 3, 5])), (24, (35, 0, [3, 17])), (27, (0, 0, [])), (28, (51, 0, [])), (29, (7, 1, [3])), (32, (37, 0, [2])), (35, (0, 1, [])), (36, (51, 0, []))])
/-- OxenHome$Planner.search(I)V -/
def zm_Planner_search : zMeth := (40, [(0, (0, 0, [])), (1, (2, 0, [2])), (2, (1, 0, [2])), (3, (3, 0, [0])), (4, (40, 0, [9, 4, 0])), (7, (40, 0, [37, 10, 7])), (10, (49, 0, [43, 3])), (13, (35, 0, [3, 34])), (16, (3, 0, [0])), (17, (40, 0, [15, 4, 1])), (20, (1, 0, [2])), (21, (1, 0, [1])), (22, (49, 0, [49, 78])), (25, (3, 0, [0])), (26, (1, 0, [2])), (27, (49, 0, [55, 41])), (30, (0, 0, [])), (31, (2, 0, [3])), (32, (1, 0, [3])), (33, (0, 256, [])), (36, (35, 0, [3, 32])), (39, (3, 0, [0])), (40, (40, 0, [28, 4, 3])), (43, (1, 0, [2])), (44, (0, 256, [])), (47, (10, 0, [])), (48, (1, 0, [3])), (49, (8, 0, [])), (50, (0, (-1), [])), (51, (49, 0, [58, 71])), (54, (7, 1, [3])), (57, (37, 0, [18])), (60, (7, 1, [2])), (63, (37, 0, [2])), (66, (3, 0, [0])), (67, (3, 0, [0])), (68, (0, 0, [])), (69, (0, 0, [])), (70, (49, 0, [61, 42])), (73, (41, 0, [65, 4, 6])), (76, (3, 0, [0])), (77, (49, 0, [69, 44])), (80, (53, 0, []))])
/-- OxenHome$Planner.measurePairs(I)V -/
def zm_Planner_measurePairs : zMeth := (41, [(0, (0, 0, [])), (1, (2, 0, [2])), (2, (1, 0, [2])), (3, (3, 0, [0])), (4, (40, 0, [9, 4, 0])), (7, (40, 0, [37, 10, 7])), (10, (49, 0, [72, 4])), (13, (35, 0, [3, 49])), (16, (1, 0, [2])), (17, (0, 1, [])), (18, (8, 0, [])), (19, (2, 0, [3])), (20, (1, 0, [3])), (21, (3, 0, [0])), (22, (40, 0, [9, 4, 0])), (25, (40, 0, [37, 10, 7])), (28, (49, 0, [72, 4])), (31, (35, 0, [3, 47])), (34, (3, 0, [0])), (35, (40, 0, [15, 4, 1])), (38, (1, 0, [2])), (39, (1, 0, [3])), (40, (49, 0, [75, 79])), (43, (2, 0, [4])), (45, (3, 0, [0])), (46, (40, 0, [15, 4, 1])), (49, (1, 0, [2])), (50, (1, 0, [3])), (51, (1, 0, [1])), (52, (1, 0, [4])), (54, (49, 0, [78, 77])), (57, (2, 0, [5])), (59, (3, 0, [0])), (60, (40, 0, [24, 4, 2])), (63, (1, 0, [1])), (64, (0, 100, [])), (66, (10, 0, [])), (67, (1, 0, [2])), (68, (0, 10, [])), (70, (10, 0, [])), (71, (8, 0, [])), (72, (1, 0, [3])), (73, (8, 0, [])), (74, (1, 0, [5])), (76, (49, 0, [58, 71])), (79, (7, 1, [3])), (82, (37, 0, [12])), (85, (7, 1, [2])), (88, (37, 0, [2])), (91, (53, 0, []))])
/-- OxenHome$Planner.yieldFrom(II)I -/
def zm_Planner_yieldFrom : zMeth := (42, [(0, (1, 0, [1])), (1, (3, 0, [0])), (2, (40, 0, [9, 4, 0])), (5, (40, 0, [37, 10, 7])), (8, (49, 0, [43, 3])), (11, (35, 0, [3, 9])), (14, (1, 0, [1])), (15, (0, 4, [])), (16, (35, 0, [2, 11])), (19, (0, 0, [])), (20, (51, 0, [])), (21, (1, 0, [1])), (22, (0, 256, [])), (25, (10, 0, [])), (26, (1, 0, [2])), (27, (8, 0, [])), (28, (2, 0, [3])), (29, (3, 0, [0])), (30, (40, 0, [28, 4, 3])), (33, (1, 0, [3])), (34, (49, 0, [82, 70])), (37, (0, (-1), [])), (38, (35, 0, [1, 66])), (41, (3, 0, [0])), (42, (40, 0, [28, 4, 3])), (45, (1, 0, [3])), (46, (3, 0, [0])), (47, (1, 0, [1])), (48, (0, 1, [])), (49, (8, 0, [])), (50, (1, 0, [2])), (51, (49, 0, [61, 42])), (54, (49, 0, [58, 71])), (57, (3, 0, [0])), (58, (40, 0, [31, 4, 4])), (61, (1, 0, [3])), (62, (0, (-1), [])), (63, (49, 0, [58, 71])), (66, (0, 0, [])), (67, (2, 0, [4])), (69, (1, 0, [4])), (71, (3, 0, [0])), (72, (40, 0, [9, 4, 0])), (75, (40, 0, [37, 10, 7])), (78, (49, 0, [72, 4])), (81, (35, 0, [3, 66])), (84, (1, 0, [4])), (86, (0, 1, [])), (87, (8, 0, [])), (88, (2, 0, [5])), (90, (1, 0, [5])), (92, (3, 0, [0])), (93, (40, 0, [9, 4, 0])), (96, (40, 0, [37, 10, 7])), (99, (49, 0, [72, 4])), (102, (35, 0, [3, 64])), (105, (3, 0, [0])), (106, (1, 0, [1])), (107, (1, 0, [2])), (108, (1, 0, [4])), (110, (1, 0, [5])), (112, (49, 0, [86, 43])), (115, (7, 1, [5])), (118, (37, 0, [50])), (121, (7, 1, [4])), (124, (37, 0, [40])), (127, (3, 0, [0])), (128, (40, 0, [28, 4, 3])), (131, (1, 0, [3])), (132, (49, 0, [82, 70])), (135, (51, 0, []))])
/-- OxenHome$Planner.tryPair(IIII)V -/
def zm_Planner_tryPair : zMeth := (43, [(0, (0, 1, [])), (1, (1, 0, [3])), (2, (17, 0, [])), (3, (0, 1, [])), (4, (1, 0, [4])), (6, (17, 0, [])), (7, (15, 0, [])), (8, (2, 0, [5])), (10, (1, 0, [2])), (11, (1, 0, [5])), (13, (14, 0, [])), (14, (36, 0, [0, 13])), (17, (53, 0, [])), (18, (1, 0, [3])), (19, (0, 10, [])), (21, (10, 0, [])), (22, (1, 0, [4])), (24, (8, 0, [])), (25, (2, 0, [6])), (27, (3, 0, [0])), (28, (40, 0, [24, 4, 2])), (31, (1, 0, [1])), (32, (0, 100, [])), (34, (10, 0, [])), (35, (1, 0, [6])), (37, (8, 0, [])), (38, (49, 0, [82, 70])), (41, (3, 0, [0])), (42, (1, 0, [1])), (43, (0, 1, [])), (44, (8, 0, [])), (45, (1, 0, [2])), (46, (1, 0, [5])), (48, (15, 0, [])), (49, (49, 0, [61, 42])), (52, (8, 0, [])), (53, (2, 0, [7])), (55, (1, 0, [7])), (57, (3, 0, [0])), (58, (40, 0, [28, 4, 3])), (61, (1, 0, [1])), (62, (0, 256, [])), (65, (10, 0, [])), (66, (1, 0, [2])), (67, (8, 0, [])), (68, (49, 0, [82, 70])), (71, (35, 0, [5, 65])), (74, (3, 0, [0])), (75, (40, 0, [28, 4, 3])), (78, (1, 0, [1])), (79, (0, 256, [])), (82, (10, 0, [])), (83, (1, 0, [2])), (84, (8, 0, [])), (85, (1, 0, [7])), (87, (49, 0, [58, 71])), (90, (3, 0, [0])), (91, (40, 0, [31, 4, 4])), (94, (1, 0, [1])), (95, (0, 256, [])), (98, (10, 0, [])), (99, (1, 0, [2])), (100, (8, 0, [])), (101, (1, 0, [6])), (103, (49, 0, [58, 71])), (106, (53, 0, []))])
/-- OxenHome$Planner.follow()V -/
def zm_Planner_follow : zMeth := (44, [(0, (0, 0, [])), (1, (2, 0, [1])), (2, (0, 0, [])), (3, (2, 0, [2])), (4, (1, 0, [2])), (5, (3, 0, [0])), (6, (40, 0, [9, 4, 0])), (9, (40, 0, [37, 10, 7])), (12, (49, 0, [43, 3])), (15, (35, 0, [3, 45])), (18, (3, 0, [0])), (19, (40, 0, [31, 4, 4])), (22, (1, 0, [2])), (23, (0, 256, [])), (26, (10, 0, [])), (27, (1, 0, [1])), (28, (8, 0, [])), (29, (49, 0, [82, 70])), (32, (2, 0, [3])), (33, (3, 0, [0])), (34, (40, 0, [34, 4, 5])), (37, (1, 0, [2])), (38, (1, 0, [3])), (39, (49, 0, [58, 71])), (42, (1, 0, [1])), (43, (1, 0, [3])), (44, (0, (-1), [])), (45, (35, 0, [1, 30])), (48, (0, 0, [])), (49, (37, 0, [41])), (52, (0, 1, [])), (53, (1, 0, [3])), (54, (0, 10, [])), (56, (11, 0, [])), (57, (17, 0, [])), (58, (0, 1, [])), (59, (1, 0, [3])), (60, (0, 10, [])), (62, (12, 0, [])), (63, (17, 0, [])), (64, (15, 0, [])), (65, (15, 0, [])), (66, (2, 0, [1])), (67, (7, 1, [2])), (70, (37, 0, [4])), (73, (53, 0, []))])
/-- OxenHome$Reader.read(II)Z -/
def zm_Reader_read : zMeth := (46, [(0, (3, 0, [0])), (1, (1, 0, [1])), (2, (41, 0, [26, 5, 4])), (5, (3, 0, [0])), (6, (1, 0, [2])), (7, (41, 0, [29, 5, 5])), (10, (3, 0, [0])), (11, (0, 0, [])), (12, (41, 0, [19, 5, 2])), (15, (3, 0, [0])), (16, (0, (-1), [])), (17, (41, 0, [23, 5, 3])), (20, (3, 0, [0])), (21, (0, 0, [])), (22, (41, 0, [32, 5, 7])), (25, (3, 0, [0])), (26, (0, 0, [])), (27, (41, 0, [35, 5, 9])), (30, (3, 0, [0])), (31, (40, 0, [15, 5, 1])), (34, (1, 0, [2])), (35, (49, 0, [38, 87])), (38, (3, 0, [0])), (39, (49, 0, [44, 61])), (42, (0, 0, [])), (43, (2, 0, [3])), (44, (1, 0, [3])), (45, (0, 5, [])), (46, (35, 0, [4, 40])), (49, (3, 0, [0])), (50, (40, 0, [19, 5, 2])), (53, (36, 0, [1, 40])), (56, (3, 0, [0])), (57, (40, 0, [47, 5, 10])), (60, (0, 35, [])), (62, (35, 0, [0, 40])), (65, (3, 0, [0])), (66, (49, 0, [50, 49])), (69, (7, 1, [3])), (72, (37, 0, [26])), (75, (3, 0, [0])), (76, (40, 0, [19, 5, 2])), (79, (36, 0, [1, 45])), (82, (0, 1, [])), (83, (37, 0, [46])), (86, (0, 0, [])), (87, (51, 0, []))])
/-- OxenHome$Reader.fail(I)V -/
def zm_Reader_fail : zMeth := (47, [(0, (3, 0, [0])), (1, (40, 0, [19, 5, 2])), (4, (36, 0, [1, 10])), (7, (3, 0, [0])), (8, (1, 0, [1])), (9, (41, 0, [19, 5, 2])), (12, (3, 0, [0])), (13, (3, 0, [0])), (14, (40, 0, [53, 5, 8])), (17, (41, 0, [23, 5, 3])), (20, (53, 0, []))])
/-- OxenHome$Reader.emit(I)V -/
def zm_Reader_emit : zMeth := (48, [(0, (3, 0, [0])), (1, (40, 0, [15, 5, 1])), (4, (40, 0, [56, 9, 0])), (7, (3, 0, [0])), (8, (40, 0, [29, 5, 5])), (11, (0, 300, [])), (14, (10, 0, [])), (15, (3, 0, [0])), (16, (40, 0, [32, 5, 7])), (19, (8, 0, [])), (20, (1, 0, [1])), (21, (49, 0, [59, 71])), (24, (3, 0, [0])), (25, (32, 0, [])), (26, (40, 0, [32, 5, 7])), (29, (0, 1, [])), (30, (8, 0, [])), (31, (41, 0, [32, 5, 7])), (34, (53, 0, []))])
/-- OxenHome$Reader.readClause()V -/
def zm_Reader_readClause : zMeth := (49, [(0, (3, 0, [0])), (1, (3, 0, [0])), (2, (40, 0, [47, 5, 10])), (5, (0, 11, [])), (7, (9, 0, [])), (8, (41, 0, [65, 5, 6])), (11, (3, 0, [0])), (12, (40, 0, [65, 5, 6])), (15, (36, 0, [2, 13])), (18, (3, 0, [0])), (19, (40, 0, [65, 5, 6])), (22, (0, 5, [])), (23, (35, 0, [2, 17])), (26, (3, 0, [0])), (27, (0, 1, [])), (28, (49, 0, [68, 47])), (31, (53, 0, [])), (32, (3, 0, [0])), (33, (40, 0, [15, 5, 1])), (36, (3, 0, [0])), (37, (40, 0, [29, 5, 5])), (40, (3, 0, [0])), (41, (40, 0, [65, 5, 6])), (44, (49, 0, [71, 89])), (47, (36, 0, [0, 29])), (50, (3, 0, [0])), (51, (0, 4, [])), (52, (49, 0, [68, 47])), (55, (53, 0, [])), (56, (3, 0, [0])), (57, (40, 0, [32, 5, 7])), (60, (2, 0, [1])), (61, (3, 0, [0])), (62, (49, 0, [44, 61])), (65, (3, 0, [0])), (66, (40, 0, [65, 5, 6])), (69, (36, 0, [0, 41])), (72, (3, 0, [0])), (73, (40, 0, [65, 5, 6])), (76, (0, 1, [])), (77, (35, 0, [1, 43])), (80, (0, 1, [])), (81, (37, 0, [44])), (84, (0, 0, [])), (85, (2, 0, [2])), (86, (3, 0, [0])), (87, (1, 0, [2])), (88, (36, 0, [0, 50])), (91, (0, 0, [])), (92, (37, 0, [51])), (95, (0, 3, [])), (96, (0, 0, [])), (97, (49, 0, [75, 50])), (100, (3, 0, [0])), (101, (40, 0, [19, 5, 2])), (104, (36, 0, [1, 63])), (107, (3, 0, [0])), (108, (40, 0, [47, 5, 10])), (111, (0, 30, [])), (113, (35, 0, [0, 63])), (116, (3, 0, [0])), (117, (0, 1, [])), (118, (49, 0, [68, 47])), (121, (3, 0, [0])), (122, (40, 0, [19, 5, 2])), (125, (36, 0, [1, 78])), (128, (3, 0, [0])), (129, (40, 0, [15, 5, 1])), (132, (3, 0, [0])), (133, (40, 0, [29, 5, 5])), (136, (3, 0, [0])), (137, (40, 0, [65, 5, 6])), (140, (1, 0, [1])), (141, (3, 0, [0])), (142, (40, 0, [32, 5, 7])), (145, (49, 0, [78, 88])), (148, (3, 0, [0])), (149, (49, 0, [44, 61])), (152, (53, 0, []))])
/-- OxenHome$Reader.readRank(II)V -/
def zm_Reader_readRank : zMeth := (50, [(0, (1, 0, [1])), (1, (0, 2, [])), (2, (35, 0, [1, 7])), (5, (3, 0, [0])), (6, (1, 0, [2])), (7, (49, 0, [82, 52])), (10, (37, 0, [18])), (13, (1, 0, [1])), (14, (0, 5, [])), (15, (35, 0, [2, 14])), (18, (3, 0, [0])), (19, (1, 0, [2])), (20, (49, 0, [85, 53])), (23, (37, 0, [18])), (26, (3, 0, [0])), (27, (1, 0, [1])), (28, (1, 0, [2])), (29, (49, 0, [88, 51])), (32, (53, 0, []))])
/-- OxenHome$Reader.readJoined(II)V -/
def zm_Reader_readJoined : zMeth := (51, [(0, (3, 0, [0])), (1, (1, 0, [1])), (2, (0, 1, [])), (3, (8, 0, [])), (4, (1, 0, [2])), (5, (49, 0, [75, 50])), (8, (0, 0, [])), (9, (2, 0, [3])), (10, (1, 0, [3])), (11, (3, 0, [0])), (12, (40, 0, [26, 5, 4])), (15, (35, 0, [3, 38])), (18, (3, 0, [0])), (19, (40, 0, [19, 5, 2])), (22, (36, 0, [1, 38])), (25, (1, 0, [1])), (26, (3, 0, [0])), (27, (40, 0, [47, 5, 10])), (30, (50, 0, [91, 58])), (33, (36, 0, [0, 38])), (36, (3, 0, [0])), (37, (40, 0, [47, 5, 10])), (40, (2, 0, [4])), (42, (3, 0, [0])), (43, (49, 0, [44, 61])), (46, (3, 0, [0])), (47, (1, 0, [1])), (48, (0, 1, [])), (49, (8, 0, [])), (50, (1, 0, [2])), (51, (49, 0, [75, 50])), (54, (3, 0, [0])), (55, (0, 20000, [])), (58, (1, 0, [4])), (60, (8, 0, [])), (61, (49, 0, [94, 48])), (64, (7, 1, [3])), (67, (37, 0, [8])), (70, (53, 0, []))])
/-- OxenHome$Reader.readAsk(I)V -/
def zm_Reader_readAsk : zMeth := (52, [(0, (3, 0, [0])), (1, (40, 0, [47, 5, 10])), (4, (0, 18, [])), (6, (35, 0, [1, 12])), (9, (3, 0, [0])), (10, (0, 2, [])), (11, (1, 0, [1])), (12, (49, 0, [97, 54])), (15, (3, 0, [0])), (16, (0, 20018, [])), (19, (49, 0, [94, 48])), (22, (53, 0, [])), (23, (3, 0, [0])), (24, (0, 3, [])), (25, (1, 0, [1])), (26, (49, 0, [75, 50])), (29, (3, 0, [0])), (30, (40, 0, [47, 5, 10])), (33, (2, 0, [2])), (34, (3, 0, [0])), (35, (40, 0, [19, 5, 2])), (38, (36, 0, [1, 25])), (41, (1, 0, [2])), (42, (50, 0, [100, 59])), (45, (36, 0, [1, 29])), (48, (3, 0, [0])), (49, (0, 1, [])), (50, (49, 0, [68, 47])), (53, (53, 0, [])), (54, (3, 0, [0])), (55, (49, 0, [44, 61])), (58, (3, 0, [0])), (59, (0, 3, [])), (60, (1, 0, [1])), (61, (49, 0, [75, 50])), (64, (3, 0, [0])), (65, (0, 20000, [])), (68, (1, 0, [2])), (69, (8, 0, [])), (70, (49, 0, [94, 48])), (73, (53, 0, []))])
/-- OxenHome$Reader.readOne(I)V -/
def zm_Reader_readOne : zMeth := (53, [(0, (3, 0, [0])), (1, (40, 0, [47, 5, 10])), (4, (0, 34, [])), (6, (35, 0, [1, 7])), (9, (3, 0, [0])), (10, (49, 0, [104, 56])), (13, (37, 0, [43])), (16, (3, 0, [0])), (17, (40, 0, [47, 5, 10])), (20, (36, 0, [2, 17])), (23, (3, 0, [0])), (24, (40, 0, [47, 5, 10])), (27, (0, 11, [])), (29, (35, 0, [3, 17])), (32, (3, 0, [0])), (33, (49, 0, [107, 57])), (36, (37, 0, [43])), (39, (3, 0, [0])), (40, (40, 0, [47, 5, 10])), (43, (0, 25, [])), (45, (35, 0, [1, 29])), (48, (3, 0, [0])), (49, (0, 5, [])), (50, (1, 0, [1])), (51, (49, 0, [97, 54])), (54, (3, 0, [0])), (55, (0, 20033, [])), (58, (49, 0, [94, 48])), (61, (37, 0, [43])), (64, (3, 0, [0])), (65, (40, 0, [47, 5, 10])), (68, (0, 28, [])), (70, (35, 0, [1, 40])), (73, (3, 0, [0])), (74, (0, 3, [])), (75, (1, 0, [1])), (76, (49, 0, [97, 54])), (79, (3, 0, [0])), (80, (49, 0, [110, 55])), (83, (37, 0, [43])), (86, (3, 0, [0])), (87, (0, 1, [])), (88, (49, 0, [68, 47])), (91, (53, 0, []))])
/-- OxenHome$Reader.readOpened(II)V -/
def zm_Reader_readOpened : zMeth := (54, [(0, (1, 0, [2])), (1, (0, 8, [])), (3, (35, 0, [2, 7])), (6, (3, 0, [0])), (7, (0, 3, [])), (8, (49, 0, [68, 47])), (11, (53, 0, [])), (12, (3, 0, [0])), (13, (49, 0, [44, 61])), (16, (3, 0, [0])), (17, (1, 0, [1])), (18, (1, 0, [2])), (19, (0, 1, [])), (20, (8, 0, [])), (21, (49, 0, [75, 50])), (24, (53, 0, []))])
/-- OxenHome$Reader.close()V -/
def zm_Reader_close : zMeth := (55, [(0, (3, 0, [0])), (1, (40, 0, [47, 5, 10])), (4, (0, 29, [])), (6, (35, 0, [1, 7])), (9, (3, 0, [0])), (10, (49, 0, [44, 61])), (13, (37, 0, [10])), (16, (3, 0, [0])), (17, (0, 1, [])), (18, (49, 0, [68, 47])), (21, (53, 0, []))])
/-- OxenHome$Reader.readNumber()V -/
def zm_Reader_readNumber : zMeth := (56, [(0, (3, 0, [0])), (1, (40, 0, [113, 5, 11])), (4, (0, 9999, [])), (7, (35, 0, [5, 8])), (10, (3, 0, [0])), (11, (0, 2, [])), (12, (49, 0, [68, 47])), (15, (53, 0, [])), (16, (3, 0, [0])), (17, (3, 0, [0])), (18, (40, 0, [113, 5, 11])), (21, (49, 0, [94, 48])), (24, (3, 0, [0])), (25, (49, 0, [44, 61])), (28, (53, 0, []))])
/-- OxenHome$Reader.readName()V -/
def zm_Reader_readName : zMeth := (57, [(0, (3, 0, [0])), (1, (40, 0, [65, 5, 6])), (4, (3, 0, [0])), (5, (40, 0, [47, 5, 10])), (8, (50, 0, [116, 60])), (11, (36, 0, [1, 10])), (14, (3, 0, [0])), (15, (0, 5, [])), (16, (49, 0, [68, 47])), (19, (53, 0, [])), (20, (3, 0, [0])), (21, (0, 10000, [])), (24, (3, 0, [0])), (25, (40, 0, [47, 5, 10])), (28, (8, 0, [])), (29, (49, 0, [94, 48])), (32, (3, 0, [0])), (33, (49, 0, [44, 61])), (36, (53, 0, []))])
/-- OxenHome$Reader.joins(II)Z -/
def zm_Reader_joins : zMeth := (58, [(0, (1, 0, [0])), (1, (39, 0, [26, 2, 9, 26, 16])), (32, (1, 0, [1])), (33, (0, 16, [])), (35, (35, 0, [1, 7])), (38, (0, 1, [])), (39, (37, 0, [8])), (42, (0, 0, [])), (43, (51, 0, [])), (44, (1, 0, [1])), (45, (0, 17, [])), (47, (35, 0, [1, 14])), (50, (0, 1, [])), (51, (37, 0, [15])), (54, (0, 0, [])), (55, (51, 0, [])), (56, (1, 0, [1])), (57, (0, 24, [])), (59, (35, 0, [0, 22])), (62, (1, 0, [1])), (63, (0, 25, [])), (65, (35, 0, [1, 24])), (68, (0, 1, [])), (69, (37, 0, [25])), (72, (0, 0, [])), (73, (51, 0, [])), (74, (1, 0, [1])), (75, (0, 26, [])), (77, (35, 0, [0, 32])), (80, (1, 0, [1])), (81, (0, 27, [])), (83, (35, 0, [1, 34])), (86, (0, 1, [])), (87, (37, 0, [35])), (90, (0, 0, [])), (91, (51, 0, []))])
/-- OxenHome$Reader.isComparison(I)Z -/
def zm_Reader_isComparison : zMeth := (59, [(0, (1, 0, [0])), (1, (0, 20, [])), (3, (35, 0, [2, 6])), (6, (1, 0, [0])), (7, (0, 23, [])), (9, (35, 0, [5, 12])), (12, (1, 0, [0])), (13, (0, 31, [])), (15, (35, 0, [0, 12])), (18, (1, 0, [0])), (19, (0, 32, [])), (21, (35, 0, [1, 14])), (24, (0, 1, [])), (25, (37, 0, [15])), (28, (0, 0, [])), (29, (51, 0, []))])
/-- OxenHome$Reader.isNameOf(II)Z -/
def zm_Reader_isNameOf : zMeth := (60, [(0, (1, 0, [0])), (1, (0, 4, [])), (2, (35, 0, [1, 12])), (5, (1, 0, [1])), (6, (36, 0, [0, 8])), (9, (1, 0, [1])), (10, (0, 8, [])), (12, (35, 0, [2, 10])), (15, (0, 1, [])), (16, (37, 0, [11])), (19, (0, 0, [])), (20, (51, 0, [])), (21, (1, 0, [0])), (22, (0, 3, [])), (23, (35, 0, [1, 22])), (26, (1, 0, [1])), (27, (0, 2, [])), (28, (35, 0, [4, 20])), (31, (0, 1, [])), (32, (37, 0, [21])), (35, (0, 0, [])), (36, (51, 0, [])), (37, (1, 0, [1])), (38, (0, 8, [])), (40, (35, 0, [4, 27])), (43, (0, 1, [])), (44, (37, 0, [28])), (47, (0, 0, [])), (48, (51, 0, []))])
/-- OxenHome$Reader.step()V -/
def zm_Reader_step : zMeth := (61, [(0, (0, 0, [])), (1, (2, 0, [1])), (2, (1, 0, [1])), (3, (3, 0, [0])), (4, (40, 0, [26, 5, 4])), (7, (35, 0, [3, 26])), (10, (3, 0, [0])), (11, (40, 0, [35, 5, 9])), (14, (3, 0, [0])), (15, (40, 0, [26, 5, 4])), (18, (35, 0, [3, 26])), (21, (3, 0, [0])), (22, (40, 0, [9, 5, 0])), (25, (3, 0, [0])), (26, (40, 0, [35, 5, 9])), (29, (49, 0, [119, 70])), (32, (50, 0, [123, 66])), (35, (36, 0, [0, 26])), (38, (3, 0, [0])), (39, (32, 0, [])), (40, (40, 0, [35, 5, 9])), (43, (0, 1, [])), (44, (8, 0, [])), (45, (41, 0, [35, 5, 9])), (48, (7, 1, [1])), (51, (37, 0, [2])), (54, (3, 0, [0])), (55, (3, 0, [0])), (56, (40, 0, [35, 5, 9])), (59, (41, 0, [53, 5, 8])), (62, (3, 0, [0])), (63, (40, 0, [35, 5, 9])), (66, (3, 0, [0])), (67, (40, 0, [26, 5, 4])), (70, (35, 0, [2, 39])), (73, (3, 0, [0])), (74, (0, 35, [])), (76, (41, 0, [47, 5, 10])), (79, (53, 0, [])), (80, (3, 0, [0])), (81, (40, 0, [9, 5, 0])), (84, (3, 0, [0])), (85, (40, 0, [35, 5, 9])), (88, (49, 0, [119, 70])), (91, (2, 0, [1])), (92, (1, 0, [1])), (93, (50, 0, [126, 67])), (96, (36, 0, [0, 59])), (99, (3, 0, [0])), (100, (49, 0, [129, 62])), (103, (3, 0, [0])), (104, (3, 0, [0])), (105, (3, 0, [0])), (106, (40, 0, [53, 5, 8])), (109, (3, 0, [0])), (110, (40, 0, [35, 5, 9])), (113, (49, 0, [132, 63])), (116, (41, 0, [47, 5, 10])), (119, (37, 0, [68])), (122, (1, 0, [1])), (123, (50, 0, [136, 68])), (126, (36, 0, [0, 65])), (129, (3, 0, [0])), (130, (49, 0, [139, 64])), (133, (37, 0, [68])), (136, (3, 0, [0])), (137, (1, 0, [1])), (138, (49, 0, [142, 65])), (141, (53, 0, []))])
/-- OxenHome$Reader.passLetters()V -/
def zm_Reader_passLetters : zMeth := (62, [(0, (0, 0, [])), (1, (2, 0, [1])), (2, (1, 0, [1])), (3, (3, 0, [0])), (4, (40, 0, [26, 5, 4])), (7, (35, 0, [3, 26])), (10, (3, 0, [0])), (11, (40, 0, [35, 5, 9])), (14, (3, 0, [0])), (15, (40, 0, [26, 5, 4])), (18, (35, 0, [3, 26])), (21, (3, 0, [0])), (22, (40, 0, [9, 5, 0])), (25, (3, 0, [0])), (26, (40, 0, [35, 5, 9])), (29, (49, 0, [119, 70])), (32, (50, 0, [126, 67])), (35, (36, 0, [0, 26])), (38, (3, 0, [0])), (39, (32, 0, [])), (40, (40, 0, [35, 5, 9])), (43, (0, 1, [])), (44, (8, 0, [])), (45, (41, 0, [35, 5, 9])), (48, (7, 1, [1])), (51, (37, 0, [2])), (54, (53, 0, []))])
/-- OxenHome$Reader.wordAt(II)I -/
def zm_Reader_wordAt : zMeth := (63, [(0, (0, 0, [])), (1, (2, 0, [3])), (2, (1, 0, [1])), (3, (2, 0, [4])), (5, (0, 1, [])), (6, (2, 0, [5])), (8, (0, 0, [])), (9, (2, 0, [6])), (11, (1, 0, [6])), (13, (54, 0, [145, 0])), (15, (49, 0, [147, 236])), (18, (35, 0, [3, 50])), (21, (54, 0, [145, 0])), (23, (1, 0, [6])), (25, (49, 0, [152, 237])), (28, (2, 0, [7])), (30, (1, 0, [7])), (32, (0, 32, [])), (34, (35, 0, [0, 36])), (37, (1, 0, [5])), (39, (36, 0, [0, 32])), (42, (1, 0, [4])), (44, (1, 0, [2])), (45, (35, 0, [3, 32])), (48, (3, 0, [0])), (49, (40, 0, [9, 5, 0])), (52, (1, 0, [4])), (54, (49, 0, [119, 70])), (57, (1, 0, [7])), (59, (35, 0, [1, 32])), (62, (0, 1, [])), (63, (37, 0, [33])), (66, (0, 0, [])), (67, (2, 0, [5])), (69, (7, 1, [4])), (72, (37, 0, [48])), (75, (1, 0, [5])), (77, (36, 0, [0, 43])), (80, (1, 0, [4])), (82, (1, 0, [2])), (83, (35, 0, [1, 43])), (86, (1, 0, [3])), (87, (51, 0, [])), (88, (7, 1, [3])), (91, (1, 0, [1])), (92, (2, 0, [4])), (94, (0, 1, [])), (95, (2, 0, [5])), (97, (7, 1, [6])), (100, (37, 0, [8])), (103, (0, 36, [])), (105, (51, 0, []))])
/-- OxenHome$Reader.takeNumber()V -/
def zm_Reader_takeNumber : zMeth := (64, [(0, (3, 0, [0])), (1, (0, 34, [])), (3, (41, 0, [47, 5, 10])), (6, (3, 0, [0])), (7, (0, 0, [])), (8, (41, 0, [113, 5, 11])), (11, (0, 0, [])), (12, (2, 0, [1])), (13, (1, 0, [1])), (14, (3, 0, [0])), (15, (40, 0, [26, 5, 4])), (18, (35, 0, [3, 48])), (21, (3, 0, [0])), (22, (40, 0, [35, 5, 9])), (25, (3, 0, [0])), (26, (40, 0, [26, 5, 4])), (29, (35, 0, [3, 48])), (32, (3, 0, [0])), (33, (40, 0, [9, 5, 0])), (36, (3, 0, [0])), (37, (40, 0, [35, 5, 9])), (40, (49, 0, [119, 70])), (43, (50, 0, [136, 68])), (46, (36, 0, [0, 48])), (49, (3, 0, [0])), (50, (3, 0, [0])), (51, (40, 0, [113, 5, 11])), (54, (0, 10, [])), (56, (10, 0, [])), (57, (3, 0, [0])), (58, (40, 0, [9, 5, 0])), (61, (3, 0, [0])), (62, (40, 0, [35, 5, 9])), (65, (49, 0, [119, 70])), (68, (8, 0, [])), (69, (0, 48, [])), (71, (9, 0, [])), (72, (0, 10000, [])), (75, (50, 0, [156, 235])), (78, (41, 0, [113, 5, 11])), (81, (3, 0, [0])), (82, (32, 0, [])), (83, (40, 0, [35, 5, 9])), (86, (0, 1, [])), (87, (8, 0, [])), (88, (41, 0, [35, 5, 9])), (91, (7, 1, [1])), (94, (37, 0, [8])), (97, (53, 0, []))])
/-- OxenHome$Reader.takeSign(I)V -/
def zm_Reader_takeSign : zMeth := (65, [(0, (3, 0, [0])), (1, (32, 0, [])), (2, (40, 0, [35, 5, 9])), (5, (0, 1, [])), (6, (8, 0, [])), (7, (41, 0, [35, 5, 9])), (10, (3, 0, [0])), (11, (0, 36, [])), (13, (41, 0, [47, 5, 10])), (16, (0, 0, [])), (17, (2, 0, [2])), (18, (1, 0, [2])), (19, (54, 0, [161, 1])), (21, (49, 0, [147, 236])), (24, (35, 0, [3, 27])), (27, (54, 0, [161, 1])), (29, (1, 0, [2])), (30, (49, 0, [152, 237])), (33, (1, 0, [1])), (34, (35, 0, [1, 25])), (37, (3, 0, [0])), (38, (0, 20, [])), (40, (1, 0, [2])), (41, (8, 0, [])), (42, (41, 0, [47, 5, 10])), (45, (7, 1, [2])), (48, (37, 0, [11])), (51, (3, 0, [0])), (52, (40, 0, [35, 5, 9])), (55, (3, 0, [0])), (56, (40, 0, [26, 5, 4])), (59, (35, 0, [3, 62])), (62, (3, 0, [0])), (63, (40, 0, [9, 5, 0])), (66, (3, 0, [0])), (67, (40, 0, [35, 5, 9])), (70, (49, 0, [119, 70])), (73, (0, 61, [])), (75, (35, 0, [1, 62])), (78, (3, 0, [0])), (79, (40, 0, [47, 5, 10])), (82, (0, 20, [])), (84, (35, 0, [0, 47])), (87, (3, 0, [0])), (88, (40, 0, [47, 5, 10])), (91, (0, 21, [])), (93, (35, 0, [1, 62])), (96, (3, 0, [0])), (97, (32, 0, [])), (98, (40, 0, [35, 5, 9])), (101, (0, 1, [])), (102, (8, 0, [])), (103, (41, 0, [35, 5, 9])), (106, (3, 0, [0])), (107, (3, 0, [0])), (108, (40, 0, [47, 5, 10])), (111, (0, 20, [])), (113, (35, 0, [1, 60])), (116, (0, 31, [])), (118, (37, 0, [61])), (121, (0, 32, [])), (123, (41, 0, [47, 5, 10])), (126, (53, 0, []))])
/-- OxenHome$Reader.isBlank(I)Z -/
def zm_Reader_isBlank : zMeth := (66, [(0, (1, 0, [0])), (1, (0, 32, [])), (3, (35, 0, [0, 6])), (6, (1, 0, [0])), (7, (0, 10, [])), (9, (35, 0, [1, 8])), (12, (0, 1, [])), (13, (37, 0, [9])), (16, (0, 0, [])), (17, (51, 0, []))])
/-- OxenHome$Reader.isLetter(I)Z -/
def zm_Reader_isLetter : zMeth := (67, [(0, (1, 0, [0])), (1, (0, 97, [])), (3, (35, 0, [2, 6])), (6, (1, 0, [0])), (7, (0, 122, [])), (9, (35, 0, [5, 12])), (12, (1, 0, [0])), (13, (0, 65, [])), (15, (35, 0, [2, 14])), (18, (1, 0, [0])), (19, (0, 90, [])), (21, (35, 0, [4, 14])), (24, (0, 1, [])), (25, (37, 0, [15])), (28, (0, 0, [])), (29, (51, 0, []))])
/-- OxenHome$Reader.isFigure(I)Z -/
def zm_Reader_isFigure : zMeth := (68, [(0, (1, 0, [0])), (1, (0, 48, [])), (3, (35, 0, [2, 8])), (6, (1, 0, [0])), (7, (0, 57, [])), (9, (35, 0, [4, 8])), (12, (0, 1, [])), (13, (37, 0, [9])), (16, (0, 0, [])), (17, (51, 0, []))])
/-- OxenHome$Row.get(I)I -/
def zm_Row_get : zMeth := (70, [(0, (1, 0, [1])), (1, (36, 0, [2, 12])), (4, (1, 0, [1])), (5, (3, 0, [0])), (6, (40, 0, [7, 6, 0])), (9, (48, 0, [])), (10, (35, 0, [3, 12])), (13, (3, 0, [0])), (14, (40, 0, [7, 6, 0])), (17, (1, 0, [1])), (18, (42, 0, [])), (19, (37, 0, [13])), (22, (0, 0, [])), (23, (51, 0, []))])
/-- OxenHome$Row.put(II)V -/
def zm_Row_put : zMeth := (71, [(0, (1, 0, [1])), (1, (36, 0, [2, 12])), (4, (1, 0, [1])), (5, (3, 0, [0])), (6, (40, 0, [7, 6, 0])), (9, (48, 0, [])), (10, (35, 0, [3, 12])), (13, (3, 0, [0])), (14, (40, 0, [7, 6, 0])), (17, (1, 0, [1])), (18, (1, 0, [2])), (19, (43, 0, [])), (20, (53, 0, []))])
/-- OxenHome$Row.copyFrom(LOxenHome$Row;)V -/
def zm_Row_copyFrom : zMeth := (72, [(0, (0, 0, [])), (1, (2, 0, [2])), (2, (1, 0, [2])), (3, (3, 0, [0])), (4, (40, 0, [7, 6, 0])), (7, (48, 0, [])), (8, (35, 0, [3, 22])), (11, (1, 0, [2])), (12, (3, 0, [1])), (13, (40, 0, [7, 6, 0])), (16, (48, 0, [])), (17, (35, 0, [3, 22])), (20, (3, 0, [0])), (21, (40, 0, [7, 6, 0])), (24, (1, 0, [2])), (25, (3, 0, [1])), (26, (40, 0, [7, 6, 0])), (29, (1, 0, [2])), (30, (42, 0, [])), (31, (43, 0, [])), (32, (7, 1, [2])), (35, (37, 0, [2])), (38, (53, 0, []))])
/-- OxenHome$Row.copyPart(ILOxenHome$Row;II)V -/
def zm_Row_copyPart : zMeth := (73, [(0, (0, 0, [])), (1, (2, 0, [5])), (3, (1, 0, [5])), (5, (1, 0, [4])), (7, (35, 0, [3, 17])), (10, (3, 0, [0])), (11, (1, 0, [1])), (12, (1, 0, [5])), (14, (8, 0, [])), (15, (3, 0, [2])), (16, (1, 0, [3])), (17, (1, 0, [5])), (19, (8, 0, [])), (20, (49, 0, [13, 70])), (23, (49, 0, [17, 71])), (26, (7, 1, [5])), (29, (37, 0, [2])), (32, (53, 0, []))])
/-- OxenHome$Stays.hoursTill(III)I -/
def zm_Stays_hoursTill : zMeth := (75, [(0, (0, 0, [])), (1, (2, 0, [4])), (3, (1, 0, [4])), (5, (1, 0, [3])), (6, (35, 0, [3, 22])), (9, (3, 0, [0])), (10, (1, 0, [1])), (11, (1, 0, [2])), (12, (3, 0, [0])), (13, (40, 0, [9, 7, 0])), (16, (40, 0, [28, 10, 7])), (19, (49, 0, [34, 1])), (22, (1, 0, [4])), (24, (8, 0, [])), (25, (0, 24, [])), (27, (12, 0, [])), (28, (49, 0, [40, 76])), (31, (36, 0, [0, 20])), (34, (1, 0, [4])), (36, (51, 0, [])), (37, (7, 1, [4])), (40, (37, 0, [2])), (43, (1, 0, [3])), (44, (51, 0, []))])
/-- OxenHome$Stays.heedsCallAt(III)Z -/
def zm_Stays_heedsCallAt : zMeth := (76, [(0, (0, 0, [])), (1, (2, 0, [4])), (3, (1, 0, [4])), (5, (3, 0, [0])), (6, (40, 0, [9, 7, 0])), (9, (40, 0, [44, 10, 9])), (12, (35, 0, [3, 41])), (15, (3, 0, [0])), (16, (40, 0, [9, 7, 0])), (19, (40, 0, [48, 10, 10])), (22, (1, 0, [4])), (24, (49, 0, [51, 70])), (27, (1, 0, [3])), (28, (35, 0, [1, 39])), (31, (3, 0, [0])), (32, (40, 0, [9, 7, 0])), (35, (40, 0, [55, 10, 11])), (38, (1, 0, [4])), (40, (49, 0, [51, 70])), (43, (2, 0, [5])), (45, (3, 0, [0])), (46, (40, 0, [15, 7, 1])), (49, (1, 0, [1])), (50, (1, 0, [5])), (52, (3, 0, [0])), (53, (40, 0, [9, 7, 0])), (56, (40, 0, [58, 10, 3])), (59, (1, 0, [5])), (61, (49, 0, [51, 70])), (64, (1, 0, [2])), (65, (0, 1, [])), (66, (1, 0, [3])), (67, (49, 0, [61, 17])), (70, (3, 0, [0])), (71, (40, 0, [15, 7, 1])), (74, (49, 0, [67, 19])), (77, (36, 0, [0, 39])), (80, (0, 1, [])), (81, (51, 0, [])), (82, (7, 1, [4])), (85, (37, 0, [2])), (88, (0, 0, [])), (89, (51, 0, []))])
/-- OxenHome$Stays.doneIn(IIII)I -/
def zm_Stays_doneIn : zMeth := (77, [(0, (3, 0, [0])), (1, (40, 0, [9, 7, 0])), (4, (40, 0, [28, 10, 7])), (7, (1, 0, [3])), (8, (49, 0, [71, 5])), (11, (2, 0, [5])), (13, (0, 0, [])), (14, (2, 0, [6])), (16, (0, 0, [])), (17, (2, 0, [7])), (19, (1, 0, [7])), (21, (1, 0, [4])), (23, (35, 0, [3, 35])), (26, (1, 0, [6])), (28, (1, 0, [5])), (30, (35, 0, [3, 35])), (33, (1, 0, [6])), (35, (3, 0, [0])), (36, (40, 0, [15, 7, 1])), (39, (1, 0, [1])), (40, (1, 0, [2])), (41, (1, 0, [3])), (42, (3, 0, [0])), (43, (40, 0, [9, 7, 0])), (46, (40, 0, [28, 10, 7])), (49, (49, 0, [34, 1])), (52, (1, 0, [7])), (54, (8, 0, [])), (55, (0, 24, [])), (57, (12, 0, [])), (58, (49, 0, [74, 23])), (61, (8, 0, [])), (62, (2, 0, [6])), (64, (7, 1, [7])), (67, (37, 0, [10])), (70, (1, 0, [6])), (72, (1, 0, [5])), (74, (50, 0, [78, 235])), (77, (51, 0, []))])
/-- OxenHome$Stays.measure(II)V -/
def zm_Stays_measure : zMeth := (78, [(0, (0, 0, [])), (1, (2, 0, [3])), (2, (1, 0, [3])), (3, (3, 0, [0])), (4, (40, 0, [9, 7, 0])), (7, (40, 0, [28, 10, 7])), (10, (49, 0, [84, 4])), (13, (35, 0, [3, 19])), (16, (3, 0, [0])), (17, (40, 0, [24, 7, 2])), (20, (1, 0, [3])), (21, (3, 0, [0])), (22, (1, 0, [3])), (23, (1, 0, [1])), (24, (1, 0, [2])), (25, (49, 0, [87, 75])), (28, (49, 0, [91, 71])), (31, (7, 1, [3])), (34, (37, 0, [2])), (37, (53, 0, []))])
/-- OxenHome$Stays.measured(II)I -/
def zm_Stays_measured : zMeth := (79, [(0, (3, 0, [0])), (1, (40, 0, [24, 7, 2])), (4, (1, 0, [1])), (5, (49, 0, [51, 70])), (8, (3, 0, [0])), (9, (40, 0, [24, 7, 2])), (12, (1, 0, [2])), (13, (49, 0, [51, 70])), (16, (50, 0, [78, 235])), (19, (51, 0, []))])
/-- OxenHome$Stays.longestPair(II)I -/
def zm_Stays_longestPair : zMeth := (80, [(0, (3, 0, [0])), (1, (1, 0, [1])), (2, (1, 0, [2])), (3, (49, 0, [95, 78])), (6, (0, (-1), [])), (7, (2, 0, [3])), (8, (0, (-1), [])), (9, (2, 0, [4])), (11, (0, 0, [])), (12, (2, 0, [5])), (14, (1, 0, [5])), (16, (3, 0, [0])), (17, (40, 0, [9, 7, 0])), (20, (40, 0, [28, 10, 7])), (23, (49, 0, [84, 4])), (26, (35, 0, [3, 47])), (29, (1, 0, [5])), (31, (0, 1, [])), (32, (8, 0, [])), (33, (2, 0, [6])), (35, (1, 0, [6])), (37, (3, 0, [0])), (38, (40, 0, [9, 7, 0])), (41, (40, 0, [28, 10, 7])), (44, (49, 0, [84, 4])), (47, (35, 0, [3, 45])), (50, (3, 0, [0])), (51, (1, 0, [5])), (53, (1, 0, [6])), (55, (49, 0, [98, 79])), (58, (1, 0, [4])), (60, (35, 0, [5, 43])), (63, (3, 0, [0])), (64, (1, 0, [5])), (66, (1, 0, [6])), (68, (49, 0, [98, 79])), (71, (2, 0, [4])), (73, (1, 0, [5])), (75, (0, 10, [])), (77, (10, 0, [])), (78, (1, 0, [6])), (80, (8, 0, [])), (81, (2, 0, [3])), (82, (7, 1, [6])), (85, (37, 0, [20])), (88, (7, 1, [5])), (91, (37, 0, [10])), (94, (1, 0, [3])), (95, (51, 0, []))])
/-- OxenHome$Steps.count()I -/
def zm_Steps_count : zMeth := (82, [(0, (3, 0, [0])), (1, (40, 0, [22, 8, 2])), (4, (51, 0, []))])
/-- OxenHome$Steps.keep(LOxenHome$Herd;)V -/
def zm_Steps_keep : zMeth := (83, [(0, (3, 0, [1])), (1, (3, 0, [0])), (2, (40, 0, [16, 8, 0])), (5, (3, 0, [0])), (6, (40, 0, [26, 8, 1])), (9, (0, 71, [])), (11, (10, 0, [])), (12, (49, 0, [29, 14])), (15, (3, 0, [0])), (16, (3, 0, [0])), (17, (40, 0, [26, 8, 1])), (20, (0, 1, [])), (21, (8, 0, [])), (22, (0, 20, [])), (24, (12, 0, [])), (25, (41, 0, [26, 8, 1])), (28, (3, 0, [0])), (29, (3, 0, [0])), (30, (40, 0, [22, 8, 2])), (33, (0, 1, [])), (34, (8, 0, [])), (35, (0, 20, [])), (37, (50, 0, [33, 235])), (40, (41, 0, [22, 8, 2])), (43, (53, 0, []))])
/-- OxenHome$Steps.takeBack(LOxenHome$Herd;)I -/
def zm_Steps_takeBack : zMeth := (84, [(0, (3, 0, [0])), (1, (40, 0, [22, 8, 2])), (4, (36, 0, [1, 5])), (7, (0, (-1), [])), (8, (51, 0, [])), (9, (3, 0, [0])), (10, (3, 0, [0])), (11, (40, 0, [26, 8, 1])), (14, (0, 20, [])), (16, (8, 0, [])), (17, (0, 1, [])), (18, (9, 0, [])), (19, (0, 20, [])), (21, (12, 0, [])), (22, (41, 0, [26, 8, 1])), (25, (3, 0, [0])), (26, (32, 0, [])), (27, (40, 0, [22, 8, 2])), (30, (0, 1, [])), (31, (9, 0, [])), (32, (41, 0, [22, 8, 2])), (35, (3, 0, [1])), (36, (3, 0, [0])), (37, (40, 0, [16, 8, 0])), (40, (3, 0, [0])), (41, (40, 0, [26, 8, 1])), (44, (0, 71, [])), (46, (10, 0, [])), (47, (49, 0, [39, 15])), (50, (3, 0, [0])), (51, (40, 0, [22, 8, 2])), (54, (51, 0, []))])
/-- OxenHome$Steps.copyFrom(LOxenHome$Steps;)V -/
def zm_Steps_copyFrom : zMeth := (85, [(0, (3, 0, [0])), (1, (40, 0, [16, 8, 0])), (4, (3, 0, [1])), (5, (40, 0, [16, 8, 0])), (8, (49, 0, [42, 72])), (11, (3, 0, [0])), (12, (3, 0, [1])), (13, (40, 0, [26, 8, 1])), (16, (41, 0, [26, 8, 1])), (19, (3, 0, [0])), (20, (3, 0, [1])), (21, (40, 0, [22, 8, 2])), (24, (41, 0, [22, 8, 2])), (27, (53, 0, []))])
/-- OxenHome$Texts.clear(I)V -/
def zm_Texts_clear : zMeth := (87, [(0, (0, 0, [])), (1, (2, 0, [2])), (2, (1, 0, [2])), (3, (0, 5, [])), (4, (35, 0, [3, 13])), (7, (3, 0, [0])), (8, (1, 0, [1])), (9, (1, 0, [2])), (10, (0, 0, [])), (11, (0, 0, [])), (12, (49, 0, [26, 88])), (15, (7, 1, [2])), (18, (37, 0, [2])), (21, (53, 0, []))])
/-- OxenHome$Texts.setClause(IIII)V -/
def zm_Texts_setClause : zMeth := (88, [(0, (3, 0, [0])), (1, (40, 0, [20, 9, 1])), (4, (1, 0, [1])), (5, (0, 5, [])), (6, (10, 0, [])), (7, (1, 0, [2])), (8, (8, 0, [])), (9, (1, 0, [1])), (10, (0, 300, [])), (13, (10, 0, [])), (14, (1, 0, [3])), (15, (8, 0, [])), (16, (49, 0, [30, 71])), (19, (3, 0, [0])), (20, (40, 0, [23, 9, 2])), (23, (1, 0, [1])), (24, (0, 5, [])), (25, (10, 0, [])), (26, (1, 0, [2])), (27, (8, 0, [])), (28, (1, 0, [1])), (29, (0, 300, [])), (32, (10, 0, [])), (33, (1, 0, [4])), (35, (8, 0, [])), (36, (49, 0, [30, 71])), (39, (53, 0, []))])
/-- OxenHome$Texts.has(II)Z -/
def zm_Texts_has : zMeth := (89, [(0, (3, 0, [0])), (1, (40, 0, [20, 9, 1])), (4, (1, 0, [1])), (5, (0, 5, [])), (6, (10, 0, [])), (7, (1, 0, [2])), (8, (8, 0, [])), (9, (49, 0, [34, 70])), (12, (3, 0, [0])), (13, (40, 0, [23, 9, 2])), (16, (1, 0, [1])), (17, (0, 5, [])), (18, (10, 0, [])), (19, (1, 0, [2])), (20, (8, 0, [])), (21, (49, 0, [34, 70])), (24, (35, 0, [3, 19])), (27, (0, 1, [])), (28, (37, 0, [20])), (31, (0, 0, [])), (32, (51, 0, []))])
/-- OxenHome$Yard.keepStep()V -/
def zm_Yard_keepStep : zMeth := (91, [(0, (3, 0, [0])), (1, (40, 0, [45, 10, 8])), (4, (3, 0, [0])), (5, (40, 0, [38, 10, 7])), (8, (49, 0, [59, 83])), (11, (53, 0, []))])
/-- OxenHome$Yard.copyFrom(LOxenHome$Yard;)V -/
def zm_Yard_copyFrom : zMeth := (92, [(0, (3, 0, [0])), (1, (3, 0, [1])), (2, (40, 0, [63, 10, 0])), (5, (41, 0, [63, 10, 0])), (8, (3, 0, [0])), (9, (40, 0, [14, 10, 1])), (12, (3, 0, [1])), (13, (40, 0, [14, 10, 1])), (16, (49, 0, [66, 72])), (19, (3, 0, [0])), (20, (40, 0, [20, 10, 2])), (23, (3, 0, [1])), (24, (40, 0, [20, 10, 2])), (27, (49, 0, [66, 72])), (30, (3, 0, [0])), (31, (40, 0, [23, 10, 3])), (34, (3, 0, [1])), (35, (40, 0, [23, 10, 3])), (38, (49, 0, [66, 72])), (41, (3, 0, [0])), (42, (40, 0, [26, 10, 4])), (45, (3, 0, [1])), (46, (40, 0, [26, 10, 4])), (49, (49, 0, [66, 72])), (52, (3, 0, [0])), (53, (40, 0, [29, 10, 5])), (56, (3, 0, [1])), (57, (40, 0, [29, 10, 5])), (60, (49, 0, [66, 72])), (63, (3, 0, [0])), (64, (40, 0, [32, 10, 6])), (67, (3, 0, [1])), (68, (40, 0, [32, 10, 6])), (71, (49, 0, [66, 72])), (74, (3, 0, [0])), (75, (40, 0, [38, 10, 7])), (78, (3, 0, [1])), (79, (40, 0, [38, 10, 7])), (82, (49, 0, [70, 13])), (85, (3, 0, [0])), (86, (40, 0, [45, 10, 8])), (89, (3, 0, [1])), (90, (40, 0, [45, 10, 8])), (93, (49, 0, [72, 85])), (96, (3, 0, [0])), (97, (3, 0, [1])), (98, (40, 0, [75, 10, 9])), (101, (41, 0, [75, 10, 9])), (104, (3, 0, [0])), (105, (40, 0, [49, 10, 10])), (108, (3, 0, [1])), (109, (40, 0, [49, 10, 10])), (112, (49, 0, [66, 72])), (115, (3, 0, [0])), (116, (40, 0, [52, 10, 11])), (119, (3, 0, [1])), (120, (40, 0, [52, 10, 11])), (123, (49, 0, [66, 72])), (126, (3, 0, [0])), (127, (3, 0, [1])), (128, (40, 0, [78, 10, 12])), (131, (41, 0, [78, 10, 12])), (134, (3, 0, [0])), (135, (3, 0, [1])), (136, (40, 0, [55, 10, 13])), (139, (41, 0, [55, 10, 13])), (142, (53, 0, []))])
/-- OxenHome$Yard.far(II)I -/
def zm_Yard_far : zMeth := (93, [(0, (3, 0, [0])), (1, (40, 0, [14, 10, 1])), (4, (1, 0, [1])), (5, (49, 0, [81, 70])), (8, (3, 0, [0])), (9, (40, 0, [26, 10, 4])), (12, (1, 0, [2])), (13, (49, 0, [81, 70])), (16, (9, 0, [])), (17, (2, 0, [3])), (18, (3, 0, [0])), (19, (40, 0, [20, 10, 2])), (22, (1, 0, [1])), (23, (49, 0, [81, 70])), (26, (3, 0, [0])), (27, (40, 0, [29, 10, 5])), (30, (1, 0, [2])), (31, (49, 0, [81, 70])), (34, (9, 0, [])), (35, (2, 0, [4])), (37, (1, 0, [3])), (38, (50, 0, [85, 234])), (41, (1, 0, [4])), (43, (50, 0, [85, 234])), (46, (8, 0, [])), (47, (51, 0, []))])
/-- OxenHome.farm(III)I -/
def zm_Ox_farm : zMeth := (95, [(0, (3, 0, [0])), (1, (40, 0, [34, 11, 2])), (4, (40, 0, [88, 10, 0])), (7, (2, 0, [4])), (9, (1, 0, [4])), (11, (0, 5, [])), (12, (35, 0, [3, 14])), (15, (1, 0, [1])), (16, (1, 0, [2])), (17, (50, 0, [92, 129])), (20, (36, 0, [0, 14])), (23, (1, 0, [3])), (24, (50, 0, [96, 130])), (27, (36, 0, [1, 16])), (30, (0, (-1), [])), (31, (51, 0, [])), (32, (3, 0, [0])), (33, (40, 0, [34, 11, 2])), (36, (40, 0, [100, 10, 1])), (39, (1, 0, [4])), (41, (1, 0, [1])), (42, (49, 0, [103, 71])), (45, (3, 0, [0])), (46, (40, 0, [34, 11, 2])), (49, (40, 0, [107, 10, 2])), (52, (1, 0, [4])), (54, (1, 0, [2])), (55, (49, 0, [103, 71])), (58, (3, 0, [0])), (59, (40, 0, [34, 11, 2])), (62, (40, 0, [110, 10, 3])), (65, (1, 0, [4])), (67, (1, 0, [3])), (68, (49, 0, [103, 71])), (71, (3, 0, [0])), (72, (40, 0, [34, 11, 2])), (75, (1, 0, [4])), (77, (0, 1, [])), (78, (8, 0, [])), (79, (41, 0, [88, 10, 0])), (82, (1, 0, [4])), (84, (51, 0, []))])
/-- OxenHome.field(IIII)I -/
def zm_Ox_field : zMeth := (96, [(0, (3, 0, [0])), (1, (40, 0, [34, 11, 2])), (4, (40, 0, [113, 10, 7])), (7, (49, 0, [116, 3])), (10, (2, 0, [5])), (12, (1, 0, [5])), (14, (0, 4, [])), (15, (35, 0, [3, 20])), (18, (1, 0, [1])), (19, (1, 0, [2])), (20, (50, 0, [92, 129])), (23, (36, 0, [0, 20])), (26, (1, 0, [3])), (27, (50, 0, [96, 130])), (30, (36, 0, [0, 20])), (33, (1, 0, [4])), (35, (0, 0, [])), (36, (0, 99, [])), (38, (50, 0, [120, 127])), (41, (36, 0, [1, 22])), (44, (0, (-1), [])), (45, (51, 0, [])), (46, (3, 0, [0])), (47, (40, 0, [34, 11, 2])), (50, (40, 0, [124, 10, 4])), (53, (1, 0, [5])), (55, (1, 0, [1])), (56, (49, 0, [103, 71])), (59, (3, 0, [0])), (60, (40, 0, [34, 11, 2])), (63, (40, 0, [127, 10, 5])), (66, (1, 0, [5])), (68, (1, 0, [2])), (69, (49, 0, [103, 71])), (72, (3, 0, [0])), (73, (40, 0, [34, 11, 2])), (76, (40, 0, [130, 10, 6])), (79, (1, 0, [5])), (81, (1, 0, [3])), (82, (49, 0, [103, 71])), (85, (3, 0, [0])), (86, (40, 0, [34, 11, 2])), (89, (40, 0, [113, 10, 7])), (92, (1, 0, [4])), (94, (49, 0, [133, 9])), (97, (1, 0, [5])), (99, (51, 0, []))])
/-- OxenHome.ox(IIII)I -/
def zm_Ox_ox : zMeth := (97, [(0, (3, 0, [0])), (1, (40, 0, [34, 11, 2])), (4, (40, 0, [113, 10, 7])), (7, (49, 0, [136, 4])), (10, (2, 0, [5])), (12, (1, 0, [5])), (14, (0, 8, [])), (16, (35, 0, [3, 16])), (19, (3, 0, [0])), (20, (1, 0, [1])), (21, (49, 0, [139, 132])), (24, (36, 0, [0, 16])), (27, (3, 0, [0])), (28, (1, 0, [2])), (29, (49, 0, [142, 133])), (32, (36, 0, [1, 18])), (35, (0, (-1), [])), (36, (51, 0, [])), (37, (1, 0, [3])), (38, (0, 1, [])), (39, (0, 9, [])), (41, (50, 0, [120, 127])), (44, (36, 0, [0, 26])), (47, (1, 0, [4])), (49, (50, 0, [96, 130])), (52, (36, 0, [1, 28])), (55, (0, (-1), [])), (56, (51, 0, [])), (57, (3, 0, [0])), (58, (40, 0, [34, 11, 2])), (61, (40, 0, [113, 10, 7])), (64, (1, 0, [1])), (65, (1, 0, [2])), (66, (1, 0, [3])), (67, (1, 0, [4])), (69, (49, 0, [145, 10])), (72, (1, 0, [5])), (74, (51, 0, []))])
/-- OxenHome.feed(IIIII)I -/
def zm_Ox_feed : zMeth := (98, [(0, (3, 0, [0])), (1, (40, 0, [149, 11, 1])), (4, (0, 280, [])), (7, (35, 0, [5, 6])), (10, (0, (-1), [])), (11, (51, 0, [])), (12, (3, 0, [0])), (13, (1, 0, [1])), (14, (49, 0, [152, 99])), (17, (3, 0, [0])), (18, (1, 0, [2])), (19, (49, 0, [152, 99])), (22, (3, 0, [0])), (23, (1, 0, [3])), (24, (49, 0, [152, 99])), (27, (3, 0, [0])), (28, (1, 0, [4])), (30, (49, 0, [152, 99])), (33, (3, 0, [0])), (34, (1, 0, [5])), (36, (49, 0, [152, 99])), (39, (3, 0, [0])), (40, (40, 0, [149, 11, 1])), (43, (51, 0, []))])
/-- OxenHome.feedFour(I)V -/
def zm_Ox_feedFour : zMeth := (99, [(0, (0, 24, [])), (2, (2, 0, [2])), (3, (1, 0, [2])), (4, (36, 0, [2, 22])), (7, (3, 0, [0])), (8, (40, 0, [30, 11, 0])), (11, (3, 0, [0])), (12, (40, 0, [149, 11, 1])), (15, (1, 0, [1])), (16, (1, 0, [2])), (17, (19, 0, [])), (18, (0, 255, [])), (21, (14, 0, [])), (22, (49, 0, [103, 71])), (25, (3, 0, [0])), (26, (32, 0, [])), (27, (40, 0, [149, 11, 1])), (30, (0, 1, [])), (31, (8, 0, [])), (32, (41, 0, [149, 11, 1])), (35, (7, (-8), [2])), (38, (37, 0, [2])), (41, (53, 0, []))])
/-- OxenHome.end(I)I -/
def zm_Ox_end : zMeth := (100, [(0, (1, 0, [1])), (1, (0, 0, [])), (2, (3, 0, [0])), (3, (40, 0, [149, 11, 1])), (6, (50, 0, [120, 127])), (9, (36, 0, [1, 8])), (12, (0, (-1), [])), (13, (51, 0, [])), (14, (3, 0, [0])), (15, (1, 0, [1])), (16, (41, 0, [149, 11, 1])), (19, (1, 0, [1])), (20, (51, 0, []))])
/-- OxenHome.text()I -/
def zm_Ox_text : zMeth := (101, [(0, (3, 0, [0])), (1, (40, 0, [34, 11, 2])), (4, (40, 0, [155, 10, 12])), (7, (2, 0, [1])), (8, (1, 0, [1])), (9, (0, 4, [])), (10, (35, 0, [2, 9])), (13, (0, (-1), [])), (14, (51, 0, [])), (15, (3, 0, [0])), (16, (40, 0, [149, 11, 1])), (19, (2, 0, [2])), (20, (3, 0, [0])), (21, (0, 0, [])), (22, (41, 0, [149, 11, 1])), (25, (3, 0, [0])), (26, (40, 0, [53, 11, 5])), (29, (1, 0, [2])), (30, (1, 0, [1])), (31, (49, 0, [158, 46])), (34, (36, 0, [1, 23])), (37, (0, (-1), [])), (38, (51, 0, [])), (39, (3, 0, [0])), (40, (40, 0, [34, 11, 2])), (43, (1, 0, [1])), (44, (0, 1, [])), (45, (8, 0, [])), (46, (41, 0, [155, 10, 12])), (49, (1, 0, [1])), (50, (51, 0, []))])
/-- OxenHome.fault(I)I -/
def zm_Ox_fault : zMeth := (102, [(0, (1, 0, [1])), (1, (36, 0, [1, 6])), (4, (3, 0, [0])), (5, (40, 0, [53, 11, 5])), (8, (40, 0, [161, 5, 2])), (11, (51, 0, [])), (12, (1, 0, [1])), (13, (0, 1, [])), (14, (35, 0, [1, 13])), (17, (3, 0, [0])), (18, (40, 0, [53, 11, 5])), (21, (40, 0, [164, 5, 3])), (24, (37, 0, [14])), (27, (0, (-1), [])), (28, (51, 0, []))])
/-- OxenHome.by(I)Z -/
def zm_Ox_by : zMeth := (103, [(0, (1, 0, [1])), (1, (0, (-1), [])), (2, (3, 0, [0])), (3, (40, 0, [34, 11, 2])), (6, (40, 0, [155, 10, 12])), (9, (0, 1, [])), (10, (9, 0, [])), (11, (50, 0, [120, 127])), (14, (36, 0, [1, 11])), (17, (0, 0, [])), (18, (51, 0, [])), (19, (3, 0, [0])), (20, (40, 0, [34, 11, 2])), (23, (1, 0, [1])), (24, (41, 0, [167, 10, 13])), (27, (0, 1, [])), (28, (51, 0, []))])
/-- OxenHome.yoke(III)Z -/
def zm_Ox_yoke : zMeth := (104, [(0, (3, 0, [0])), (1, (1, 0, [1])), (2, (1, 0, [2])), (3, (49, 0, [170, 136])), (6, (36, 0, [0, 9])), (9, (3, 0, [0])), (10, (1, 0, [3])), (11, (49, 0, [173, 134])), (14, (36, 0, [1, 11])), (17, (0, 0, [])), (18, (51, 0, [])), (19, (3, 0, [0])), (20, (1, 0, [1])), (21, (1, 0, [3])), (22, (49, 0, [176, 105])), (25, (36, 0, [0, 21])), (28, (3, 0, [0])), (29, (1, 0, [2])), (30, (1, 0, [3])), (31, (49, 0, [176, 105])), (34, (36, 0, [1, 23])), (37, (0, 0, [])), (38, (51, 0, [])), (39, (3, 0, [0])), (40, (40, 0, [34, 11, 2])), (43, (49, 0, [179, 91])), (46, (3, 0, [0])), (47, (40, 0, [34, 11, 2])), (50, (40, 0, [113, 10, 7])), (53, (1, 0, [1])), (54, (0, 6, [])), (56, (0, 10, [])), (58, (1, 0, [3])), (59, (8, 0, [])), (60, (49, 0, [182, 8])), (63, (3, 0, [0])), (64, (40, 0, [34, 11, 2])), (67, (40, 0, [113, 10, 7])), (70, (1, 0, [2])), (71, (0, 6, [])), (73, (0, 10, [])), (75, (1, 0, [3])), (76, (8, 0, [])), (77, (49, 0, [182, 8])), (80, (3, 0, [0])), (81, (40, 0, [34, 11, 2])), (84, (40, 0, [113, 10, 7])), (87, (1, 0, [1])), (88, (0, 7, [])), (90, (1, 0, [2])), (91, (49, 0, [182, 8])), (94, (3, 0, [0])), (95, (40, 0, [34, 11, 2])), (98, (40, 0, [113, 10, 7])), (101, (1, 0, [2])), (102, (0, 7, [])), (104, (1, 0, [1])), (105, (49, 0, [182, 8])), (108, (0, 1, [])), (109, (51, 0, []))])
/-- OxenHome.canBeYoked(II)Z -/
def zm_Ox_canBeYoked : zMeth := (105, [(0, (3, 0, [0])), (1, (40, 0, [34, 11, 2])), (4, (40, 0, [113, 10, 7])), (7, (1, 0, [1])), (8, (0, 6, [])), (10, (49, 0, [185, 7])), (13, (2, 0, [3])), (14, (1, 0, [3])), (15, (0, 10, [])), (17, (35, 0, [2, 23])), (20, (1, 0, [3])), (21, (0, 10, [])), (23, (1, 0, [2])), (24, (8, 0, [])), (25, (35, 0, [1, 25])), (28, (3, 0, [0])), (29, (40, 0, [34, 11, 2])), (32, (40, 0, [113, 10, 7])), (35, (1, 0, [1])), (36, (0, 7, [])), (38, (49, 0, [185, 7])), (41, (0, (-1), [])), (42, (35, 0, [1, 25])), (45, (0, 1, [])), (46, (37, 0, [26])), (49, (0, 0, [])), (50, (51, 0, []))])
/-- OxenHome.loose(I)Z -/
def zm_Ox_loose : zMeth := (106, [(0, (3, 0, [0])), (1, (1, 0, [1])), (2, (49, 0, [189, 135])), (5, (36, 0, [0, 12])), (8, (3, 0, [0])), (9, (40, 0, [34, 11, 2])), (12, (40, 0, [113, 10, 7])), (15, (1, 0, [1])), (16, (0, 7, [])), (18, (49, 0, [185, 7])), (21, (0, (-1), [])), (22, (35, 0, [1, 14])), (25, (0, 0, [])), (26, (51, 0, [])), (27, (3, 0, [0])), (28, (40, 0, [34, 11, 2])), (31, (49, 0, [179, 91])), (34, (3, 0, [0])), (35, (40, 0, [34, 11, 2])), (38, (40, 0, [113, 10, 7])), (41, (1, 0, [1])), (42, (49, 0, [192, 11])), (45, (0, 1, [])), (46, (51, 0, []))])
/-- OxenHome.drive(II)Z -/
def zm_Ox_drive : zMeth := (107, [(0, (3, 0, [0])), (1, (1, 0, [1])), (2, (49, 0, [189, 135])), (5, (36, 0, [0, 16])), (8, (3, 0, [0])), (9, (1, 0, [2])), (10, (49, 0, [139, 132])), (13, (36, 0, [0, 16])), (16, (3, 0, [0])), (17, (40, 0, [34, 11, 2])), (20, (40, 0, [113, 10, 7])), (23, (1, 0, [1])), (24, (0, 7, [])), (26, (49, 0, [185, 7])), (29, (0, (-1), [])), (30, (35, 0, [0, 18])), (33, (0, 0, [])), (34, (51, 0, [])), (35, (3, 0, [0])), (36, (40, 0, [34, 11, 2])), (39, (49, 0, [179, 91])), (42, (3, 0, [0])), (43, (40, 0, [34, 11, 2])), (46, (40, 0, [113, 10, 7])), (49, (1, 0, [1])), (50, (0, 6, [])), (52, (1, 0, [2])), (53, (49, 0, [182, 8])), (56, (0, 1, [])), (57, (51, 0, []))])
/-- OxenHome.sell(II)Z -/
def zm_Ox_sell : zMeth := (108, [(0, (3, 0, [0])), (1, (1, 0, [1])), (2, (49, 0, [189, 135])), (5, (36, 0, [0, 16])), (8, (3, 0, [0])), (9, (1, 0, [2])), (10, (49, 0, [139, 132])), (13, (36, 0, [0, 16])), (16, (3, 0, [0])), (17, (40, 0, [34, 11, 2])), (20, (40, 0, [113, 10, 7])), (23, (1, 0, [1])), (24, (0, 4, [])), (25, (49, 0, [185, 7])), (28, (1, 0, [2])), (29, (35, 0, [1, 18])), (32, (0, 0, [])), (33, (51, 0, [])), (34, (3, 0, [0])), (35, (40, 0, [34, 11, 2])), (38, (49, 0, [179, 91])), (41, (3, 0, [0])), (42, (40, 0, [34, 11, 2])), (45, (40, 0, [113, 10, 7])), (48, (1, 0, [1])), (49, (0, 4, [])), (50, (1, 0, [2])), (51, (49, 0, [182, 8])), (54, (3, 0, [0])), (55, (40, 0, [34, 11, 2])), (58, (40, 0, [113, 10, 7])), (61, (1, 0, [1])), (62, (0, 5, [])), (63, (0, 0, [])), (64, (49, 0, [182, 8])), (67, (0, 1, [])), (68, (51, 0, []))])
/-- OxenHome.whistle(I)I -/
def zm_Ox_whistle : zMeth := (109, [(0, (3, 0, [0])), (1, (1, 0, [1])), (2, (49, 0, [139, 132])), (5, (36, 0, [1, 6])), (8, (0, (-1), [])), (9, (51, 0, [])), (10, (3, 0, [0])), (11, (40, 0, [34, 11, 2])), (14, (49, 0, [179, 91])), (17, (3, 0, [0])), (18, (3, 0, [0])), (19, (40, 0, [34, 11, 2])), (22, (40, 0, [113, 10, 7])), (25, (1, 0, [1])), (26, (3, 0, [0])), (27, (40, 0, [34, 11, 2])), (30, (40, 0, [110, 10, 3])), (33, (1, 0, [1])), (34, (49, 0, [195, 70])), (37, (49, 0, [198, 110])), (40, (51, 0, []))])
/-- OxenHome.blow(LOxenHome$Herd;II)I -/
def zm_Ox_blow : zMeth := (110, [(0, (0, 0, [])), (1, (2, 0, [4])), (3, (0, 0, [])), (4, (2, 0, [5])), (6, (0, 0, [])), (7, (2, 0, [6])), (9, (1, 0, [6])), (11, (3, 0, [1])), (12, (49, 0, [136, 4])), (15, (35, 0, [3, 61])), (18, (3, 0, [1])), (19, (1, 0, [6])), (21, (0, 6, [])), (23, (49, 0, [185, 7])), (26, (0, 10, [])), (28, (9, 0, [])), (29, (2, 0, [7])), (31, (1, 0, [7])), (33, (36, 0, [2, 59])), (36, (3, 0, [0])), (37, (40, 0, [57, 11, 6])), (40, (1, 0, [6])), (42, (1, 0, [2])), (43, (1, 0, [3])), (44, (1, 0, [7])), (46, (3, 0, [1])), (47, (1, 0, [6])), (49, (0, 7, [])), (51, (49, 0, [185, 7])), (54, (0, (-1), [])), (55, (35, 0, [0, 33])), (58, (0, 1, [])), (59, (37, 0, [34])), (62, (0, 0, [])), (63, (3, 0, [1])), (64, (49, 0, [202, 1])), (67, (49, 0, [205, 17])), (70, (3, 0, [0])), (71, (40, 0, [57, 11, 6])), (74, (49, 0, [209, 19])), (77, (36, 0, [0, 59])), (80, (1, 0, [4])), (82, (0, 1, [])), (83, (1, 0, [6])), (85, (17, 0, [])), (86, (15, 0, [])), (87, (2, 0, [4])), (89, (1, 0, [5])), (91, (3, 0, [0])), (92, (40, 0, [57, 11, 6])), (95, (49, 0, [213, 20])), (98, (36, 0, [0, 56])), (101, (0, 1, [])), (102, (1, 0, [6])), (104, (17, 0, [])), (105, (37, 0, [57])), (108, (0, 0, [])), (109, (15, 0, [])), (110, (2, 0, [5])), (112, (7, 1, [6])), (115, (37, 0, [6])), (118, (0, 0, [])), (119, (2, 0, [6])), (121, (1, 0, [6])), (123, (3, 0, [1])), (124, (49, 0, [136, 4])), (127, (35, 0, [3, 90])), (130, (1, 0, [4])), (132, (1, 0, [6])), (134, (50, 0, [216, 128])), (137, (36, 0, [0, 88])), (140, (3, 0, [1])), (141, (1, 0, [6])), (143, (49, 0, [192, 11])), (146, (3, 0, [1])), (147, (1, 0, [6])), (149, (0, 6, [])), (151, (3, 0, [1])), (152, (1, 0, [6])), (154, (1, 0, [5])), (156, (1, 0, [6])), (158, (50, 0, [216, 128])), (161, (36, 0, [0, 85])), (164, (0, 1, [])), (165, (37, 0, [86])), (168, (0, 0, [])), (169, (49, 0, [185, 7])), (172, (49, 0, [182, 8])), (175, (7, 1, [6])), (178, (37, 0, [63])), (181, (1, 0, [4])), (183, (51, 0, []))])
/-- OxenHome.plough()I -/
def zm_Ox_plough : zMeth := (111, [(0, (3, 0, [0])), (1, (40, 0, [34, 11, 2])), (4, (49, 0, [179, 91])), (7, (3, 0, [0])), (8, (40, 0, [34, 11, 2])), (11, (40, 0, [113, 10, 7])), (14, (4, 0, [1])), (15, (0, 0, [])), (16, (2, 0, [2])), (17, (0, 0, [])), (18, (2, 0, [3])), (19, (1, 0, [3])), (20, (3, 0, [1])), (21, (49, 0, [136, 4])), (24, (35, 0, [3, 57])), (27, (3, 0, [1])), (28, (1, 0, [3])), (29, (0, 7, [])), (31, (49, 0, [185, 7])), (34, (2, 0, [4])), (36, (1, 0, [4])), (38, (1, 0, [3])), (39, (35, 0, [5, 55])), (42, (3, 0, [1])), (43, (1, 0, [3])), (44, (0, 6, [])), (46, (49, 0, [185, 7])), (49, (0, 10, [])), (51, (9, 0, [])), (52, (2, 0, [5])), (54, (3, 0, [1])), (55, (1, 0, [5])), (57, (49, 0, [219, 5])), (60, (2, 0, [6])), (62, (1, 0, [6])), (64, (3, 0, [0])), (65, (40, 0, [57, 11, 6])), (68, (1, 0, [3])), (69, (1, 0, [4])), (71, (1, 0, [5])), (73, (3, 0, [1])), (74, (49, 0, [202, 1])), (77, (49, 0, [222, 23])), (80, (50, 0, [226, 235])), (83, (2, 0, [7])), (85, (3, 0, [1])), (86, (1, 0, [5])), (88, (1, 0, [6])), (90, (1, 0, [7])), (92, (9, 0, [])), (93, (49, 0, [231, 6])), (96, (1, 0, [2])), (97, (1, 0, [7])), (99, (8, 0, [])), (100, (2, 0, [2])), (101, (7, 1, [3])), (104, (37, 0, [11])), (107, (3, 0, [1])), (108, (3, 0, [1])), (109, (49, 0, [202, 1])), (112, (0, 1, [])), (113, (8, 0, [])), (114, (0, 24, [])), (116, (12, 0, [])), (117, (49, 0, [234, 2])), (120, (1, 0, [2])), (121, (51, 0, []))])
/-- OxenHome.night()I -/
def zm_Ox_night : zMeth := (112, [(0, (3, 0, [0])), (1, (40, 0, [34, 11, 2])), (4, (49, 0, [179, 91])), (7, (0, 0, [])), (8, (2, 0, [1])), (9, (0, 0, [])), (10, (2, 0, [2])), (11, (1, 0, [2])), (12, (3, 0, [0])), (13, (40, 0, [34, 11, 2])), (16, (40, 0, [113, 10, 7])), (19, (49, 0, [136, 4])), (22, (35, 0, [3, 27])), (25, (3, 0, [0])), (26, (40, 0, [34, 11, 2])), (29, (40, 0, [113, 10, 7])), (32, (1, 0, [2])), (33, (49, 0, [237, 12])), (36, (36, 0, [0, 25])), (39, (1, 0, [1])), (40, (0, 1, [])), (41, (1, 0, [2])), (42, (17, 0, [])), (43, (15, 0, [])), (44, (2, 0, [1])), (45, (7, 1, [2])), (48, (37, 0, [7])), (51, (1, 0, [1])), (52, (51, 0, []))])
/-- OxenHome.undo()I -/
def zm_Ox_undo : zMeth := (113, [(0, (3, 0, [0])), (1, (40, 0, [34, 11, 2])), (4, (40, 0, [240, 10, 8])), (7, (3, 0, [0])), (8, (40, 0, [34, 11, 2])), (11, (40, 0, [113, 10, 7])), (14, (49, 0, [244, 84])), (17, (51, 0, []))])
/-- OxenHome.of(II)I -/
def zm_Ox_of : zMeth := (114, [(0, (3, 0, [0])), (1, (1, 0, [1])), (2, (49, 0, [189, 135])), (5, (36, 0, [0, 16])), (8, (1, 0, [2])), (9, (0, 0, [])), (10, (0, 7, [])), (12, (50, 0, [120, 127])), (15, (36, 0, [0, 16])), (18, (3, 0, [0])), (19, (40, 0, [34, 11, 2])), (22, (40, 0, [113, 10, 7])), (25, (1, 0, [1])), (26, (1, 0, [2])), (27, (49, 0, [185, 7])), (30, (37, 0, [17])), (33, (0, (-2), [])), (35, (51, 0, []))])
/-- OxenHome.heeds(IIIIZ)Z -/
def zm_Ox_heeds : zMeth := (115, [(0, (3, 0, [0])), (1, (1, 0, [1])), (2, (49, 0, [189, 135])), (5, (36, 0, [0, 15])), (8, (3, 0, [0])), (9, (1, 0, [2])), (10, (49, 0, [139, 132])), (13, (36, 0, [0, 15])), (16, (1, 0, [3])), (17, (50, 0, [96, 130])), (20, (36, 0, [0, 15])), (23, (3, 0, [0])), (24, (1, 0, [4])), (26, (49, 0, [173, 134])), (29, (36, 0, [1, 17])), (32, (0, 0, [])), (33, (51, 0, [])), (34, (3, 0, [0])), (35, (40, 0, [57, 11, 6])), (38, (1, 0, [1])), (39, (1, 0, [2])), (40, (1, 0, [3])), (41, (1, 0, [4])), (43, (1, 0, [5])), (45, (3, 0, [0])), (46, (40, 0, [34, 11, 2])), (49, (40, 0, [113, 10, 7])), (52, (49, 0, [202, 1])), (55, (49, 0, [205, 17])), (58, (3, 0, [0])), (59, (40, 0, [57, 11, 6])), (62, (49, 0, [209, 19])), (65, (51, 0, []))])
/-- OxenHome.call(II)I -/
def zm_Ox_call : zMeth := (116, [(0, (3, 0, [0])), (1, (40, 0, [34, 11, 2])), (4, (40, 0, [250, 10, 9])), (7, (0, 8, [])), (9, (35, 0, [3, 12])), (12, (1, 0, [1])), (13, (50, 0, [253, 131])), (16, (36, 0, [0, 12])), (19, (3, 0, [0])), (20, (1, 0, [2])), (21, (49, 0, [139, 132])), (24, (36, 0, [1, 14])), (27, (0, (-1), [])), (28, (51, 0, [])), (29, (3, 0, [0])), (30, (40, 0, [34, 11, 2])), (33, (40, 0, [256, 10, 10])), (36, (3, 0, [0])), (37, (40, 0, [34, 11, 2])), (40, (40, 0, [250, 10, 9])), (43, (1, 0, [1])), (44, (49, 0, [103, 71])), (47, (3, 0, [0])), (48, (40, 0, [34, 11, 2])), (51, (40, 0, [259, 10, 11])), (54, (3, 0, [0])), (55, (40, 0, [34, 11, 2])), (58, (40, 0, [250, 10, 9])), (61, (1, 0, [2])), (62, (49, 0, [103, 71])), (65, (3, 0, [0])), (66, (40, 0, [34, 11, 2])), (69, (32, 0, [])), (70, (40, 0, [250, 10, 9])), (73, (0, 1, [])), (74, (8, 0, [])), (75, (41, 0, [250, 10, 9])), (78, (3, 0, [0])), (79, (40, 0, [34, 11, 2])), (82, (40, 0, [250, 10, 9])), (85, (51, 0, []))])
/-- OxenHome.hush()I -/
def zm_Ox_hush : zMeth := (117, [(0, (3, 0, [0])), (1, (40, 0, [34, 11, 2])), (4, (40, 0, [250, 10, 9])), (7, (2, 0, [1])), (8, (3, 0, [0])), (9, (40, 0, [34, 11, 2])), (12, (0, 0, [])), (13, (41, 0, [250, 10, 9])), (16, (1, 0, [1])), (17, (51, 0, []))])
/-- OxenHome.stay(IIIIZ)I -/
def zm_Ox_stay : zMeth := (118, [(0, (3, 0, [0])), (1, (1, 0, [1])), (2, (1, 0, [2])), (3, (49, 0, [170, 136])), (6, (36, 0, [0, 14])), (9, (3, 0, [0])), (10, (1, 0, [3])), (11, (49, 0, [173, 134])), (14, (36, 0, [0, 14])), (17, (1, 0, [4])), (19, (0, 1, [])), (20, (0, 24, [])), (22, (50, 0, [120, 127])), (25, (36, 0, [1, 16])), (28, (0, (-1), [])), (29, (51, 0, [])), (30, (3, 0, [0])), (31, (40, 0, [61, 11, 7])), (34, (1, 0, [1])), (35, (1, 0, [3])), (36, (1, 0, [4])), (38, (49, 0, [262, 75])), (41, (3, 0, [0])), (42, (40, 0, [61, 11, 7])), (45, (1, 0, [2])), (46, (1, 0, [3])), (47, (1, 0, [4])), (49, (49, 0, [262, 75])), (52, (50, 0, [226, 235])), (55, (2, 0, [6])), (57, (1, 0, [5])), (59, (36, 0, [0, 40])), (62, (3, 0, [0])), (63, (40, 0, [61, 11, 7])), (66, (1, 0, [1])), (67, (1, 0, [2])), (68, (1, 0, [3])), (69, (1, 0, [6])), (71, (49, 0, [266, 77])), (74, (37, 0, [41])), (77, (1, 0, [6])), (79, (51, 0, []))])
/-- OxenHome.plan(II)I -/
def zm_Ox_plan : zMeth := (119, [(0, (1, 0, [1])), (1, (0, 1, [])), (2, (0, 24, [])), (4, (50, 0, [120, 127])), (7, (36, 0, [0, 12])), (10, (1, 0, [2])), (11, (0, (-1), [])), (12, (35, 0, [0, 14])), (15, (3, 0, [0])), (16, (1, 0, [2])), (17, (49, 0, [173, 134])), (20, (36, 0, [1, 14])), (23, (0, (-2), [])), (25, (51, 0, [])), (26, (3, 0, [0])), (27, (40, 0, [70, 11, 8])), (30, (1, 0, [1])), (31, (49, 0, [269, 40])), (34, (1, 0, [2])), (35, (0, (-1), [])), (36, (35, 0, [1, 25])), (39, (3, 0, [0])), (40, (40, 0, [70, 11, 8])), (43, (40, 0, [272, 4, 6])), (46, (37, 0, [30])), (49, (3, 0, [0])), (50, (40, 0, [70, 11, 8])), (53, (40, 0, [275, 4, 5])), (56, (1, 0, [2])), (57, (49, 0, [195, 70])), (60, (51, 0, []))])
/-- OxenHome.longest(II)I -/
def zm_Ox_longest : zMeth := (120, [(0, (3, 0, [0])), (1, (1, 0, [1])), (2, (49, 0, [173, 134])), (5, (36, 0, [0, 15])), (8, (1, 0, [2])), (9, (0, 1, [])), (10, (0, 24, [])), (12, (50, 0, [120, 127])), (15, (36, 0, [0, 15])), (18, (3, 0, [0])), (19, (40, 0, [61, 11, 7])), (22, (1, 0, [1])), (23, (1, 0, [2])), (24, (49, 0, [278, 80])), (27, (37, 0, [16])), (30, (0, (-1), [])), (31, (51, 0, []))])
/-- OxenHome.dark(IIIIII)J -/
def zm_Ox_dark : zMeth := (121, [(0, (3, 0, [0])), (1, (1, 0, [1])), (2, (49, 0, [173, 134])), (5, (36, 0, [0, 16])), (8, (1, 0, [2])), (9, (50, 0, [253, 131])), (12, (36, 0, [0, 16])), (15, (3, 0, [0])), (16, (1, 0, [5])), (18, (49, 0, [139, 132])), (21, (36, 0, [0, 16])), (24, (1, 0, [6])), (26, (0, 0, [])), (27, (0, 1, [])), (28, (50, 0, [120, 127])), (31, (36, 0, [1, 18])), (34, (31, (-1), [281])), (37, (52, 0, [])), (38, (1, 0, [3])), (39, (0, 0, [])), (40, (0, 1, [])), (41, (3, 0, [0])), (42, (40, 0, [34, 11, 2])), (45, (40, 0, [113, 10, 7])), (48, (49, 0, [136, 4])), (51, (17, 0, [])), (52, (0, 1, [])), (53, (9, 0, [])), (54, (50, 0, [120, 127])), (57, (36, 0, [0, 36])), (60, (1, 0, [4])), (62, (1, 0, [3])), (63, (0, (-1), [])), (64, (16, 0, [])), (65, (14, 0, [])), (66, (36, 0, [0, 38])), (69, (31, (-1), [281])), (72, (52, 0, [])), (73, (3, 0, [0])), (74, (40, 0, [77, 11, 9])), (77, (1, 0, [1])), (78, (1, 0, [2])), (79, (1, 0, [3])), (80, (1, 0, [4])), (82, (1, 0, [5])), (84, (49, 0, [283, 28])), (87, (3, 0, [0])), (88, (40, 0, [77, 11, 9])), (91, (40, 0, [287, 2, 3])), (94, (31, 0, [])), (95, (38, 0, [])), (96, (36, 0, [1, 54])), (99, (31, (-1), [281])), (102, (52, 0, [])), (103, (1, 0, [6])), (105, (36, 0, [1, 60])), (108, (3, 0, [0])), (109, (40, 0, [77, 11, 9])), (112, (49, 0, [291, 30])), (115, (37, 0, [63])), (118, (3, 0, [0])), (119, (40, 0, [77, 11, 9])), (122, (49, 0, [295, 31])), (125, (52, 0, []))])
/-- OxenHome.apart(III)I -/
def zm_Ox_apart : zMeth := (122, [(0, (1, 0, [1])), (1, (50, 0, [96, 130])), (4, (36, 0, [0, 11])), (7, (3, 0, [0])), (8, (1, 0, [2])), (9, (49, 0, [173, 134])), (12, (36, 0, [0, 11])), (15, (3, 0, [0])), (16, (1, 0, [3])), (17, (49, 0, [142, 133])), (20, (36, 0, [1, 13])), (23, (0, (-1), [])), (24, (51, 0, [])), (25, (3, 0, [0])), (26, (40, 0, [84, 11, 10])), (29, (1, 0, [1])), (30, (1, 0, [2])), (31, (49, 0, [298, 34])), (34, (3, 0, [0])), (35, (40, 0, [84, 11, 10])), (38, (40, 0, [300, 3, 6])), (41, (0, (-1), [])), (42, (35, 0, [0, 26])), (45, (1, 0, [3])), (46, (0, (-1), [])), (47, (35, 0, [1, 30])), (50, (3, 0, [0])), (51, (40, 0, [84, 11, 10])), (54, (40, 0, [300, 3, 6])), (57, (51, 0, [])), (58, (3, 0, [0])), (59, (40, 0, [84, 11, 10])), (62, (40, 0, [303, 3, 4])), (65, (1, 0, [3])), (66, (49, 0, [195, 70])), (69, (51, 0, []))])
/-- OxenHome.thunder(II)I -/
def zm_Ox_thunder : zMeth := (123, [(0, (1, 0, [1])), (1, (0, 0, [])), (2, (0, 9999, [])), (5, (50, 0, [120, 127])), (8, (36, 0, [0, 10])), (11, (1, 0, [2])), (12, (0, 1, [])), (13, (0, 99, [])), (15, (50, 0, [120, 127])), (18, (36, 0, [1, 12])), (21, (0, (-1), [])), (22, (51, 0, [])), (23, (3, 0, [0])), (24, (40, 0, [44, 11, 4])), (27, (3, 0, [0])), (28, (40, 0, [34, 11, 2])), (31, (40, 0, [113, 10, 7])), (34, (49, 0, [304, 13])), (37, (0, 0, [])), (38, (2, 0, [3])), (39, (1, 0, [1])), (40, (0, 13, [])), (42, (10, 0, [])), (43, (0, 2, [])), (44, (8, 0, [])), (45, (2, 0, [4])), (47, (0, 0, [])), (48, (2, 0, [5])), (50, (1, 0, [5])), (52, (1, 0, [2])), (53, (35, 0, [3, 53])), (56, (1, 0, [3])), (57, (3, 0, [0])), (58, (3, 0, [0])), (59, (40, 0, [44, 11, 4])), (62, (0, (-1), [])), (63, (1, 0, [4])), (65, (0, 10, [])), (67, (12, 0, [])), (68, (49, 0, [198, 110])), (71, (50, 0, [308, 233])), (74, (8, 0, [])), (75, (2, 0, [3])), (76, (1, 0, [4])), (78, (0, 163, [])), (81, (10, 0, [])), (82, (0, 47, [])), (84, (8, 0, [])), (85, (0, 30059, [])), (88, (12, 0, [])), (89, (2, 0, [4])), (91, (7, 1, [5])), (94, (37, 0, [28])), (97, (1, 0, [3])), (98, (51, 0, []))])
/-- OxenHome.image()I -/
def zm_Ox_image : zMeth := (124, [(0, (3, 0, [0])), (1, (40, 0, [38, 11, 3])), (4, (3, 0, [0])), (5, (40, 0, [34, 11, 2])), (8, (49, 0, [313, 92])), (11, (3, 0, [0])), (12, (40, 0, [34, 11, 2])), (15, (40, 0, [113, 10, 7])), (18, (49, 0, [202, 1])), (21, (51, 0, []))])
/-- OxenHome.back()I -/
def zm_Ox_back : zMeth := (125, [(0, (3, 0, [0])), (1, (40, 0, [34, 11, 2])), (4, (3, 0, [0])), (5, (40, 0, [38, 11, 3])), (8, (49, 0, [313, 92])), (11, (3, 0, [0])), (12, (40, 0, [34, 11, 2])), (15, (40, 0, [113, 10, 7])), (18, (49, 0, [202, 1])), (21, (51, 0, []))])
/-- OxenHome.about(I)I -/
def zm_Ox_about : zMeth := (126, [(0, (3, 0, [0])), (1, (1, 0, [1])), (2, (0, 10, [])), (4, (9, 0, [])), (5, (49, 0, [139, 132])), (8, (36, 0, [0, 14])), (11, (3, 0, [0])), (12, (40, 0, [34, 11, 2])), (15, (40, 0, [110, 10, 3])), (18, (1, 0, [1])), (19, (0, 10, [])), (21, (9, 0, [])), (22, (49, 0, [195, 70])), (25, (51, 0, [])), (26, (3, 0, [0])), (27, (1, 0, [1])), (28, (0, 20, [])), (30, (9, 0, [])), (31, (49, 0, [173, 134])), (34, (36, 0, [0, 28])), (37, (3, 0, [0])), (38, (40, 0, [34, 11, 2])), (41, (40, 0, [113, 10, 7])), (44, (1, 0, [1])), (45, (0, 20, [])), (47, (9, 0, [])), (48, (49, 0, [219, 5])), (51, (51, 0, [])), (52, (1, 0, [1])), (53, (39, 0, [69, 30, 34, 39, 44, 49, 53, 57, 61, 66])), (104, (3, 0, [0])), (105, (40, 0, [34, 11, 2])), (108, (40, 0, [88, 10, 0])), (111, (51, 0, [])), (112, (3, 0, [0])), (113, (40, 0, [34, 11, 2])), (116, (40, 0, [113, 10, 7])), (119, (49, 0, [116, 3])), (122, (51, 0, [])), (123, (3, 0, [0])), (124, (40, 0, [34, 11, 2])), (127, (40, 0, [113, 10, 7])), (130, (49, 0, [136, 4])), (133, (51, 0, [])), (134, (3, 0, [0])), (135, (40, 0, [34, 11, 2])), (138, (40, 0, [113, 10, 7])), (141, (49, 0, [202, 1])), (144, (51, 0, [])), (145, (3, 0, [0])), (146, (40, 0, [34, 11, 2])), (149, (40, 0, [155, 10, 12])), (152, (51, 0, [])), (153, (3, 0, [0])), (154, (40, 0, [34, 11, 2])), (157, (40, 0, [167, 10, 13])), (160, (51, 0, [])), (161, (3, 0, [0])), (162, (40, 0, [34, 11, 2])), (165, (40, 0, [250, 10, 9])), (168, (51, 0, [])), (169, (3, 0, [0])), (170, (40, 0, [34, 11, 2])), (173, (40, 0, [240, 10, 8])), (176, (49, 0, [316, 82])), (179, (51, 0, [])), (180, (3, 0, [0])), (181, (40, 0, [149, 11, 1])), (184, (51, 0, [])), (185, (0, (-2), [])), (187, (51, 0, []))])
/-- OxenHome.within(III)Z -/
def zm_Ox_within : zMeth := (127, [(0, (1, 0, [0])), (1, (1, 0, [1])), (2, (35, 0, [2, 8])), (5, (1, 0, [0])), (6, (1, 0, [2])), (7, (35, 0, [4, 8])), (10, (0, 1, [])), (11, (37, 0, [9])), (14, (0, 0, [])), (15, (51, 0, []))])
/-- OxenHome.isIn(II)Z -/
def zm_Ox_isIn : zMeth := (128, [(0, (1, 0, [0])), (1, (1, 0, [1])), (2, (18, 0, [])), (3, (0, 1, [])), (4, (14, 0, [])), (5, (36, 0, [0, 8])), (8, (0, 1, [])), (9, (37, 0, [9])), (12, (0, 0, [])), (13, (51, 0, []))])
/-- OxenHome.isPlace(II)Z -/
def zm_Ox_isPlace : zMeth := (129, [(0, (1, 0, [0])), (1, (0, 0, [])), (2, (0, 19, [])), (4, (50, 0, [120, 127])), (7, (36, 0, [0, 12])), (10, (1, 0, [1])), (11, (0, 0, [])), (12, (0, 19, [])), (14, (50, 0, [120, 127])), (17, (36, 0, [0, 12])), (20, (0, 1, [])), (21, (37, 0, [13])), (24, (0, 0, [])), (25, (51, 0, []))])
/-- OxenHome.isDigit(I)Z -/
def zm_Ox_isDigit : zMeth := (130, [(0, (1, 0, [0])), (1, (0, 0, [])), (2, (0, 9, [])), (4, (50, 0, [120, 127])), (7, (51, 0, []))])
/-- OxenHome.isHour(I)Z -/
def zm_Ox_isHour : zMeth := (131, [(0, (1, 0, [0])), (1, (0, 0, [])), (2, (0, 23, [])), (4, (50, 0, [120, 127])), (7, (51, 0, []))])
/-- OxenHome.isFarm(I)Z -/
def zm_Ox_isFarm : zMeth := (132, [(0, (1, 0, [1])), (1, (0, 0, [])), (2, (3, 0, [0])), (3, (40, 0, [34, 11, 2])), (6, (40, 0, [88, 10, 0])), (9, (0, 1, [])), (10, (9, 0, [])), (11, (50, 0, [120, 127])), (14, (51, 0, []))])
/-- OxenHome.isFarmOrNone(I)Z -/
def zm_Ox_isFarmOrNone : zMeth := (133, [(0, (1, 0, [1])), (1, (0, (-1), [])), (2, (35, 0, [0, 7])), (5, (3, 0, [0])), (6, (1, 0, [1])), (7, (49, 0, [139, 132])), (10, (36, 0, [0, 9])), (13, (0, 1, [])), (14, (37, 0, [10])), (17, (0, 0, [])), (18, (51, 0, []))])
/-- OxenHome.isField(I)Z -/
def zm_Ox_isField : zMeth := (134, [(0, (1, 0, [1])), (1, (0, 0, [])), (2, (3, 0, [0])), (3, (40, 0, [34, 11, 2])), (6, (40, 0, [113, 10, 7])), (9, (49, 0, [116, 3])), (12, (0, 1, [])), (13, (9, 0, [])), (14, (50, 0, [120, 127])), (17, (51, 0, []))])
/-- OxenHome.isOx(I)Z -/
def zm_Ox_isOx : zMeth := (135, [(0, (1, 0, [1])), (1, (0, 0, [])), (2, (3, 0, [0])), (3, (40, 0, [34, 11, 2])), (6, (40, 0, [113, 10, 7])), (9, (49, 0, [136, 4])), (12, (0, 1, [])), (13, (9, 0, [])), (14, (50, 0, [120, 127])), (17, (51, 0, []))])
/-- OxenHome.isPair(II)Z -/
def zm_Ox_isPair : zMeth := (136, [(0, (1, 0, [1])), (1, (1, 0, [2])), (2, (35, 0, [0, 13])), (5, (3, 0, [0])), (6, (1, 0, [1])), (7, (49, 0, [189, 135])), (10, (36, 0, [0, 13])), (13, (3, 0, [0])), (14, (1, 0, [2])), (15, (49, 0, [189, 135])), (18, (36, 0, [0, 13])), (21, (0, 1, [])), (22, (37, 0, [14])), (25, (0, 0, [])), (26, (51, 0, []))])
/-- OxenHomeModel.copy([I[I)V -/
def zm_Mo_copy : zMeth := (138, [(0, (0, 0, [])), (1, (2, 0, [2])), (2, (1, 0, [2])), (3, (0, 1061, [])), (6, (35, 0, [3, 13])), (9, (3, 0, [1])), (10, (1, 0, [2])), (11, (3, 0, [0])), (12, (1, 0, [2])), (13, (42, 0, [])), (14, (43, 0, [])), (15, (7, 1, [2])), (18, (37, 0, [2])), (21, (53, 0, []))])
/-- OxenHomeModel.isIn(III)Z -/
def zm_Mo_isIn : zMeth := (139, [(0, (1, 0, [0])), (1, (1, 0, [1])), (2, (35, 0, [2, 8])), (5, (1, 0, [0])), (6, (1, 0, [2])), (7, (35, 0, [4, 8])), (10, (0, 1, [])), (11, (37, 0, [9])), (14, (0, 0, [])), (15, (51, 0, []))])
/-- OxenHomeModel.held(JII)I -/
def zm_Mo_held : zMeth := (140, [(0, (5, 0, [0])), (1, (1, 0, [2])), (2, (29, 0, [])), (3, (38, 0, [])), (4, (36, 0, [3, 7])), (7, (1, 0, [2])), (8, (37, 0, [16])), (11, (5, 0, [0])), (12, (1, 0, [3])), (13, (29, 0, [])), (14, (38, 0, [])), (15, (36, 0, [5, 14])), (18, (1, 0, [3])), (19, (37, 0, [16])), (22, (5, 0, [0])), (23, (30, 0, [])), (24, (51, 0, []))])
/-- OxenHomeModel.has(II)Z -/
def zm_Mo_has : zMeth := (141, [(0, (1, 0, [0])), (1, (1, 0, [1])), (2, (18, 0, [])), (3, (0, 1, [])), (4, (14, 0, [])), (5, (0, 1, [])), (6, (35, 0, [1, 9])), (9, (0, 1, [])), (10, (37, 0, [10])), (13, (0, 0, [])), (14, (51, 0, []))])
/-- OxenHomeModel.isFarm(I)Z -/
def zm_Mo_isFarm : zMeth := (142, [(0, (1, 0, [1])), (1, (0, 0, [])), (2, (3, 0, [0])), (3, (40, 0, [7, 12, 0])), (6, (0, 0, [])), (7, (42, 0, [])), (8, (0, 1, [])), (9, (9, 0, [])), (10, (50, 0, [71, 139])), (13, (51, 0, []))])
/-- OxenHomeModel.isField(I)Z -/
def zm_Mo_isField : zMeth := (143, [(0, (1, 0, [1])), (1, (0, 0, [])), (2, (3, 0, [0])), (3, (40, 0, [7, 12, 0])), (6, (0, 1, [])), (7, (42, 0, [])), (8, (0, 1, [])), (9, (9, 0, [])), (10, (50, 0, [71, 139])), (13, (51, 0, []))])
/-- OxenHomeModel.isOx(I)Z -/
def zm_Mo_isOx : zMeth := (144, [(0, (1, 0, [1])), (1, (0, 0, [])), (2, (3, 0, [0])), (3, (40, 0, [7, 12, 0])), (6, (0, 2, [])), (7, (42, 0, [])), (8, (0, 1, [])), (9, (9, 0, [])), (10, (50, 0, [71, 139])), (13, (51, 0, []))])
/-- OxenHomeModel.told(II)I -/
def zm_Mo_told : zMeth := (145, [(0, (3, 0, [0])), (1, (40, 0, [7, 12, 0])), (4, (0, 41, [])), (6, (0, 8, [])), (8, (1, 0, [1])), (9, (10, 0, [])), (10, (8, 0, [])), (11, (1, 0, [2])), (12, (8, 0, [])), (13, (42, 0, [])), (14, (51, 0, []))])
/-- OxenHomeModel.make(III)V -/
def zm_Mo_make : zMeth := (146, [(0, (3, 0, [0])), (1, (40, 0, [7, 12, 0])), (4, (0, 41, [])), (6, (0, 8, [])), (8, (1, 0, [1])), (9, (10, 0, [])), (10, (8, 0, [])), (11, (1, 0, [2])), (12, (8, 0, [])), (13, (1, 0, [3])), (14, (43, 0, [])), (15, (53, 0, []))])
/-- OxenHomeModel.gap(II)I -/
def zm_Mo_gap : zMeth := (147, [(0, (1, 0, [0])), (1, (1, 0, [1])), (2, (35, 0, [3, 7])), (5, (1, 0, [1])), (6, (1, 0, [0])), (7, (9, 0, [])), (8, (37, 0, [10])), (11, (1, 0, [0])), (12, (1, 0, [1])), (13, (9, 0, [])), (14, (51, 0, []))])
/-- OxenHomeModel.pitchOf(I)I -/
def zm_Mo_pitchOf : zMeth := (148, [(0, (3, 0, [0])), (1, (40, 0, [7, 12, 0])), (4, (0, 10, [])), (6, (0, 3, [])), (7, (1, 0, [1])), (8, (10, 0, [])), (9, (8, 0, [])), (10, (0, 2, [])), (11, (8, 0, [])), (12, (42, 0, [])), (13, (51, 0, []))])
/-- OxenHomeModel.far(II)I -/
def zm_Mo_far : zMeth := (149, [(0, (3, 0, [0])), (1, (40, 0, [7, 12, 0])), (4, (0, 10, [])), (6, (0, 3, [])), (7, (1, 0, [1])), (8, (10, 0, [])), (9, (8, 0, [])), (10, (42, 0, [])), (11, (3, 0, [0])), (12, (40, 0, [7, 12, 0])), (15, (0, 25, [])), (17, (0, 4, [])), (18, (1, 0, [2])), (19, (10, 0, [])), (20, (8, 0, [])), (21, (42, 0, [])), (22, (50, 0, [75, 147])), (25, (3, 0, [0])), (26, (40, 0, [7, 12, 0])), (29, (0, 10, [])), (31, (0, 3, [])), (32, (1, 0, [1])), (33, (10, 0, [])), (34, (8, 0, [])), (35, (0, 1, [])), (36, (8, 0, [])), (37, (42, 0, [])), (38, (3, 0, [0])), (39, (40, 0, [7, 12, 0])), (42, (0, 25, [])), (44, (0, 4, [])), (45, (1, 0, [2])), (46, (10, 0, [])), (47, (8, 0, [])), (48, (0, 1, [])), (49, (8, 0, [])), (50, (42, 0, [])), (51, (50, 0, [75, 147])), (54, (8, 0, [])), (55, (51, 0, []))])
/-- OxenHomeModel.farm(III)I -/
def zm_Mo_farm : zMeth := (150, [(0, (1, 0, [1])), (1, (0, 0, [])), (2, (0, 19, [])), (4, (50, 0, [71, 139])), (7, (36, 0, [0, 21])), (10, (1, 0, [2])), (11, (0, 0, [])), (12, (0, 19, [])), (14, (50, 0, [71, 139])), (17, (36, 0, [0, 21])), (20, (1, 0, [3])), (21, (0, 0, [])), (22, (0, 9, [])), (24, (50, 0, [71, 139])), (27, (36, 0, [0, 21])), (30, (3, 0, [0])), (31, (40, 0, [7, 12, 0])), (34, (0, 0, [])), (35, (42, 0, [])), (36, (0, 5, [])), (37, (35, 0, [1, 23])), (40, (0, (-1), [])), (41, (51, 0, [])), (42, (0, 10, [])), (44, (0, 3, [])), (45, (3, 0, [0])), (46, (40, 0, [7, 12, 0])), (49, (0, 0, [])), (50, (42, 0, [])), (51, (10, 0, [])), (52, (8, 0, [])), (53, (2, 0, [4])), (55, (3, 0, [0])), (56, (40, 0, [7, 12, 0])), (59, (1, 0, [4])), (61, (1, 0, [1])), (62, (43, 0, [])), (63, (3, 0, [0])), (64, (40, 0, [7, 12, 0])), (67, (1, 0, [4])), (69, (0, 1, [])), (70, (8, 0, [])), (71, (1, 0, [2])), (72, (43, 0, [])), (73, (3, 0, [0])), (74, (40, 0, [7, 12, 0])), (77, (1, 0, [4])), (79, (0, 2, [])), (80, (8, 0, [])), (81, (1, 0, [3])), (82, (43, 0, [])), (83, (3, 0, [0])), (84, (40, 0, [7, 12, 0])), (87, (0, 0, [])), (88, (33, 0, [])), (89, (42, 0, [])), (90, (0, 1, [])), (91, (8, 0, [])), (92, (43, 0, [])), (93, (3, 0, [0])), (94, (40, 0, [7, 12, 0])), (97, (0, 0, [])), (98, (42, 0, [])), (99, (0, 1, [])), (100, (9, 0, [])), (101, (51, 0, []))])
/-- OxenHomeModel.field(IIII)I -/
def zm_Mo_field : zMeth := (151, [(0, (1, 0, [1])), (1, (0, 0, [])), (2, (0, 19, [])), (4, (50, 0, [71, 139])), (7, (36, 0, [0, 26])), (10, (1, 0, [2])), (11, (0, 0, [])), (12, (0, 19, [])), (14, (50, 0, [71, 139])), (17, (36, 0, [0, 26])), (20, (1, 0, [3])), (21, (0, 0, [])), (22, (0, 9, [])), (24, (50, 0, [71, 139])), (27, (36, 0, [0, 26])), (30, (1, 0, [4])), (32, (0, 0, [])), (33, (0, 99, [])), (35, (50, 0, [71, 139])), (38, (36, 0, [0, 26])), (41, (3, 0, [0])), (42, (40, 0, [7, 12, 0])), (45, (0, 1, [])), (46, (42, 0, [])), (47, (0, 4, [])), (48, (35, 0, [1, 28])), (51, (0, (-1), [])), (52, (51, 0, [])), (53, (0, 25, [])), (55, (0, 4, [])), (56, (3, 0, [0])), (57, (40, 0, [7, 12, 0])), (60, (0, 1, [])), (61, (42, 0, [])), (62, (10, 0, [])), (63, (8, 0, [])), (64, (2, 0, [5])), (66, (3, 0, [0])), (67, (40, 0, [7, 12, 0])), (70, (1, 0, [5])), (72, (1, 0, [1])), (73, (43, 0, [])), (74, (3, 0, [0])), (75, (40, 0, [7, 12, 0])), (78, (1, 0, [5])), (80, (0, 1, [])), (81, (8, 0, [])), (82, (1, 0, [2])), (83, (43, 0, [])), (84, (3, 0, [0])), (85, (40, 0, [7, 12, 0])), (88, (1, 0, [5])), (90, (0, 2, [])), (91, (8, 0, [])), (92, (1, 0, [3])), (93, (43, 0, [])), (94, (3, 0, [0])), (95, (40, 0, [7, 12, 0])), (98, (1, 0, [5])), (100, (0, 3, [])), (101, (8, 0, [])), (102, (1, 0, [4])), (104, (43, 0, [])), (105, (3, 0, [0])), (106, (40, 0, [7, 12, 0])), (109, (0, 1, [])), (110, (33, 0, [])), (111, (42, 0, [])), (112, (0, 1, [])), (113, (8, 0, [])), (114, (43, 0, [])), (115, (3, 0, [0])), (116, (40, 0, [7, 12, 0])), (119, (0, 1, [])), (120, (42, 0, [])), (121, (0, 1, [])), (122, (9, 0, [])), (123, (51, 0, []))])
/-- OxenHomeModel.ox(IIII)I -/
def zm_Mo_ox : zMeth := (152, [(0, (3, 0, [0])), (1, (1, 0, [1])), (2, (49, 0, [79, 142])), (5, (36, 0, [0, 27])), (8, (1, 0, [2])), (9, (0, (-1), [])), (10, (35, 0, [0, 11])), (13, (3, 0, [0])), (14, (1, 0, [2])), (15, (49, 0, [79, 142])), (18, (36, 0, [0, 27])), (21, (1, 0, [3])), (22, (0, 1, [])), (23, (0, 9, [])), (25, (50, 0, [71, 139])), (28, (36, 0, [0, 27])), (31, (1, 0, [4])), (33, (0, 0, [])), (34, (0, 9, [])), (36, (50, 0, [71, 139])), (39, (36, 0, [0, 27])), (42, (3, 0, [0])), (43, (40, 0, [7, 12, 0])), (46, (0, 2, [])), (47, (42, 0, [])), (48, (0, 8, [])), (50, (35, 0, [1, 29])), (53, (0, (-1), [])), (54, (51, 0, [])), (55, (3, 0, [0])), (56, (40, 0, [7, 12, 0])), (59, (0, 2, [])), (60, (42, 0, [])), (61, (2, 0, [5])), (63, (3, 0, [0])), (64, (1, 0, [5])), (66, (0, 0, [])), (67, (1, 0, [1])), (68, (49, 0, [83, 146])), (71, (3, 0, [0])), (72, (1, 0, [5])), (74, (0, 1, [])), (75, (1, 0, [2])), (76, (49, 0, [83, 146])), (79, (3, 0, [0])), (80, (1, 0, [5])), (82, (0, 2, [])), (83, (1, 0, [3])), (84, (49, 0, [83, 146])), (87, (3, 0, [0])), (88, (1, 0, [5])), (90, (0, 3, [])), (91, (1, 0, [4])), (93, (49, 0, [83, 146])), (96, (3, 0, [0])), (97, (1, 0, [5])), (99, (0, 4, [])), (100, (1, 0, [1])), (101, (49, 0, [83, 146])), (104, (3, 0, [0])), (105, (1, 0, [5])), (107, (0, 5, [])), (108, (0, 0, [])), (109, (49, 0, [83, 146])), (112, (3, 0, [0])), (113, (1, 0, [5])), (115, (0, 6, [])), (117, (1, 0, [1])), (118, (49, 0, [83, 146])), (121, (3, 0, [0])), (122, (1, 0, [5])), (124, (0, 7, [])), (126, (0, (-1), [])), (127, (49, 0, [83, 146])), (130, (3, 0, [0])), (131, (40, 0, [7, 12, 0])), (134, (0, 2, [])), (135, (33, 0, [])), (136, (42, 0, [])), (137, (0, 1, [])), (138, (8, 0, [])), (139, (43, 0, [])), (140, (1, 0, [5])), (142, (51, 0, []))])
/-- OxenHomeModel.four(I)V -/
def zm_Mo_four : zMeth := (153, [(0, (0, 24, [])), (2, (2, 0, [2])), (3, (1, 0, [2])), (4, (36, 0, [2, 22])), (7, (3, 0, [0])), (8, (40, 0, [19, 12, 3])), (11, (3, 0, [0])), (12, (40, 0, [87, 12, 4])), (15, (1, 0, [1])), (16, (1, 0, [2])), (17, (18, 0, [])), (18, (0, 255, [])), (21, (14, 0, [])), (22, (43, 0, [])), (23, (3, 0, [0])), (24, (32, 0, [])), (25, (40, 0, [87, 12, 4])), (28, (0, 1, [])), (29, (8, 0, [])), (30, (41, 0, [87, 12, 4])), (33, (7, (-8), [2])), (36, (37, 0, [2])), (39, (53, 0, []))])
/-- OxenHomeModel.feed(IIIII)I -/
def zm_Mo_feed : zMeth := (154, [(0, (3, 0, [0])), (1, (40, 0, [87, 12, 4])), (4, (0, 20, [])), (6, (8, 0, [])), (7, (0, 300, [])), (10, (35, 0, [5, 8])), (13, (0, (-1), [])), (14, (51, 0, [])), (15, (3, 0, [0])), (16, (1, 0, [1])), (17, (49, 0, [90, 153])), (20, (3, 0, [0])), (21, (1, 0, [2])), (22, (49, 0, [90, 153])), (25, (3, 0, [0])), (26, (1, 0, [3])), (27, (49, 0, [90, 153])), (30, (3, 0, [0])), (31, (1, 0, [4])), (33, (49, 0, [90, 153])), (36, (3, 0, [0])), (37, (1, 0, [5])), (39, (49, 0, [90, 153])), (42, (3, 0, [0])), (43, (40, 0, [87, 12, 4])), (46, (51, 0, []))])
/-- OxenHomeModel.end(I)I -/
def zm_Mo_end : zMeth := (155, [(0, (1, 0, [1])), (1, (0, 0, [])), (2, (3, 0, [0])), (3, (40, 0, [87, 12, 4])), (6, (50, 0, [71, 139])), (9, (36, 0, [1, 8])), (12, (0, (-1), [])), (13, (51, 0, [])), (14, (3, 0, [0])), (15, (1, 0, [1])), (16, (41, 0, [87, 12, 4])), (19, (1, 0, [1])), (20, (51, 0, []))])
/-- OxenHomeModel.byteAt(I)I -/
def zm_Mo_byteAt : zMeth := (156, [(0, (1, 0, [1])), (1, (3, 0, [0])), (2, (40, 0, [87, 12, 4])), (5, (35, 0, [3, 9])), (8, (3, 0, [0])), (9, (40, 0, [19, 12, 3])), (12, (1, 0, [1])), (13, (42, 0, [])), (14, (37, 0, [10])), (17, (0, (-1), [])), (18, (51, 0, []))])
/-- OxenHomeModel.isLetter(I)Z -/
def zm_Mo_isLetter : zMeth := (157, [(0, (1, 0, [0])), (1, (0, 97, [])), (3, (0, 122, [])), (5, (50, 0, [71, 139])), (8, (36, 0, [1, 10])), (11, (1, 0, [0])), (12, (0, 65, [])), (14, (0, 90, [])), (16, (50, 0, [71, 139])), (19, (36, 0, [0, 12])), (22, (0, 1, [])), (23, (37, 0, [13])), (26, (0, 0, [])), (27, (51, 0, []))])
/-- OxenHomeModel.isDigit(I)Z -/
def zm_Mo_isDigit : zMeth := (158, [(0, (1, 0, [0])), (1, (0, 48, [])), (3, (0, 57, [])), (5, (50, 0, [71, 139])), (8, (51, 0, []))])
/-- OxenHomeModel.nextToken()V -/
def zm_Mo_nextToken : zMeth := (159, [(0, (3, 0, [0])), (1, (3, 0, [0])), (2, (40, 0, [94, 12, 7])), (5, (49, 0, [97, 156])), (8, (0, 32, [])), (10, (35, 0, [0, 12])), (13, (3, 0, [0])), (14, (3, 0, [0])), (15, (40, 0, [94, 12, 7])), (18, (49, 0, [97, 156])), (21, (0, 10, [])), (23, (35, 0, [1, 19])), (26, (3, 0, [0])), (27, (32, 0, [])), (28, (40, 0, [94, 12, 7])), (31, (0, 1, [])), (32, (8, 0, [])), (33, (41, 0, [94, 12, 7])), (36, (37, 0, [0])), (39, (3, 0, [0])), (40, (3, 0, [0])), (41, (40, 0, [94, 12, 7])), (44, (41, 0, [101, 12, 8])), (47, (3, 0, [0])), (48, (3, 0, [0])), (49, (40, 0, [94, 12, 7])), (52, (49, 0, [97, 156])), (55, (2, 0, [1])), (56, (1, 0, [1])), (57, (36, 0, [3, 34])), (60, (3, 0, [0])), (61, (0, 0, [])), (62, (41, 0, [104, 12, 9])), (65, (37, 0, [201])), (68, (1, 0, [1])), (69, (50, 0, [107, 158])), (72, (36, 0, [0, 73])), (75, (3, 0, [0])), (76, (0, 1, [])), (77, (41, 0, [104, 12, 9])), (80, (3, 0, [0])), (81, (0, 0, [])), (82, (41, 0, [110, 12, 10])), (85, (3, 0, [0])), (86, (3, 0, [0])), (87, (40, 0, [94, 12, 7])), (90, (49, 0, [97, 156])), (93, (50, 0, [107, 158])), (96, (36, 0, [0, 201])), (99, (3, 0, [0])), (100, (40, 0, [110, 12, 10])), (103, (0, 100000, [113])), (105, (35, 0, [3, 66])), (108, (3, 0, [0])), (109, (0, 10, [])), (111, (3, 0, [0])), (112, (40, 0, [110, 12, 10])), (115, (10, 0, [])), (116, (3, 0, [0])), (117, (3, 0, [0])), (118, (40, 0, [94, 12, 7])), (121, (49, 0, [97, 156])), (124, (8, 0, [])), (125, (0, 48, [])), (127, (9, 0, [])), (128, (41, 0, [110, 12, 10])), (131, (3, 0, [0])), (132, (32, 0, [])), (133, (40, 0, [94, 12, 7])), (136, (0, 1, [])), (137, (8, 0, [])), (138, (41, 0, [94, 12, 7])), (141, (37, 0, [43])), (144, (1, 0, [1])), (145, (50, 0, [114, 157])), (148, (36, 0, [0, 125])), (151, (3, 0, [0])), (152, (0, 2, [])), (153, (41, 0, [104, 12, 9])), (156, (3, 0, [0])), (157, (31, 0, [])), (158, (41, 0, [117, 12, 11])), (161, (3, 0, [0])), (162, (3, 0, [0])), (163, (40, 0, [94, 12, 7])), (166, (49, 0, [97, 156])), (169, (50, 0, [114, 157])), (172, (36, 0, [0, 114])), (175, (3, 0, [0])), (176, (40, 0, [94, 12, 7])), (179, (3, 0, [0])), (180, (40, 0, [101, 12, 8])), (183, (9, 0, [])), (184, (0, 7, [])), (186, (35, 0, [3, 107])), (189, (3, 0, [0])), (190, (3, 0, [0])), (191, (40, 0, [117, 12, 11])), (194, (0, 8, [])), (196, (28, 0, [])), (197, (3, 0, [0])), (198, (3, 0, [0])), (199, (40, 0, [94, 12, 7])), (202, (49, 0, [97, 156])), (205, (29, 0, [])), (206, (27, 0, [])), (207, (41, 0, [117, 12, 11])), (210, (3, 0, [0])), (211, (32, 0, [])), (212, (40, 0, [94, 12, 7])), (215, (0, 1, [])), (216, (8, 0, [])), (217, (41, 0, [94, 12, 7])), (220, (37, 0, [82])), (223, (3, 0, [0])), (224, (40, 0, [94, 12, 7])), (227, (3, 0, [0])), (228, (40, 0, [101, 12, 8])), (231, (9, 0, [])), (232, (0, 7, [])), (234, (35, 0, [5, 201])), (237, (3, 0, [0])), (238, (31, 0, [])), (239, (41, 0, [117, 12, 11])), (242, (37, 0, [201])), (245, (3, 0, [0])), (246, (32, 0, [])), (247, (40, 0, [94, 12, 7])), (250, (0, 1, [])), (251, (8, 0, [])), (252, (41, 0, [94, 12, 7])), (255, (1, 0, [1])), (256, (0, 60, [])), (258, (35, 0, [0, 164])), (261, (1, 0, [1])), (262, (0, 62, [])), (264, (35, 0, [0, 164])), (267, (1, 0, [1])), (268, (0, 61, [])), (270, (35, 0, [0, 164])), (273, (1, 0, [1])), (274, (0, 35, [])), (276, (35, 0, [0, 164])), (279, (1, 0, [1])), (280, (0, 43, [])), (282, (35, 0, [0, 164])), (285, (1, 0, [1])), (286, (0, 45, [])), (288, (35, 0, [0, 164])), (291, (1, 0, [1])), (292, (0, 42, [])), (294, (35, 0, [0, 164])), (297, (1, 0, [1])), (298, (0, 47, [])), (300, (35, 0, [0, 164])), (303, (1, 0, [1])), (304, (0, 40, [])), (306, (35, 0, [0, 164])), (309, (1, 0, [1])), (310, (0, 41, [])), (312, (35, 0, [0, 164])), (315, (1, 0, [1])), (316, (0, 59, [])), (318, (35, 0, [1, 166])), (321, (0, 1, [])), (322, (37, 0, [167])), (325, (0, 0, [])), (326, (2, 0, [2])), (327, (3, 0, [0])), (328, (1, 0, [2])), (329, (36, 0, [0, 173])), (332, (1, 0, [1])), (333, (37, 0, [174])), (336, (0, 3, [])), (337, (41, 0, [104, 12, 9])), (340, (1, 0, [1])), (341, (0, 60, [])), (343, (35, 0, [0, 181])), (346, (1, 0, [1])), (347, (0, 62, [])), (349, (35, 0, [1, 201])), (352, (3, 0, [0])), (353, (3, 0, [0])), (354, (40, 0, [94, 12, 7])), (357, (49, 0, [97, 156])), (360, (0, 61, [])), (362, (35, 0, [1, 201])), (365, (3, 0, [0])), (366, (32, 0, [])), (367, (40, 0, [94, 12, 7])), (370, (0, 1, [])), (371, (8, 0, [])), (372, (41, 0, [94, 12, 7])), (375, (3, 0, [0])), (376, (1, 0, [1])), (377, (0, 60, [])), (379, (35, 0, [1, 199])), (382, (0, 4, [])), (383, (37, 0, [200])), (386, (0, 5, [])), (387, (41, 0, [104, 12, 9])), (390, (53, 0, []))])
/-- OxenHomeModel.w3(III)J -/
def zm_Mo_w3 : zMeth := (160, [(0, (1, 0, [0])), (1, (29, 0, [])), (2, (0, 8, [])), (4, (28, 0, [])), (5, (1, 0, [1])), (6, (29, 0, [])), (7, (27, 0, [])), (8, (0, 8, [])), (10, (28, 0, [])), (11, (1, 0, [2])), (12, (29, 0, [])), (13, (27, 0, [])), (14, (52, 0, []))])
/-- OxenHomeModel.w5(IIIII)J -/
def zm_Mo_w5 : zMeth := (161, [(0, (1, 0, [0])), (1, (1, 0, [1])), (2, (1, 0, [2])), (3, (50, 0, [121, 160])), (6, (0, 8, [])), (8, (28, 0, [])), (9, (1, 0, [3])), (10, (29, 0, [])), (11, (27, 0, [])), (12, (0, 8, [])), (14, (28, 0, [])), (15, (1, 0, [4])), (17, (29, 0, [])), (18, (27, 0, [])), (19, (52, 0, []))])
/-- OxenHomeModel.w4(IIII)J -/
def zm_Mo_w4 : zMeth := (162, [(0, (1, 0, [0])), (1, (1, 0, [1])), (2, (1, 0, [2])), (3, (50, 0, [121, 160])), (6, (0, 8, [])), (8, (28, 0, [])), (9, (1, 0, [3])), (10, (29, 0, [])), (11, (27, 0, [])), (12, (52, 0, []))])
/-- OxenHomeModel.w6(IIIIII)J -/
def zm_Mo_w6 : zMeth := (163, [(0, (1, 0, [0])), (1, (1, 0, [1])), (2, (1, 0, [2])), (3, (1, 0, [3])), (4, (1, 0, [4])), (6, (50, 0, [125, 161])), (9, (0, 8, [])), (11, (28, 0, [])), (12, (1, 0, [5])), (14, (29, 0, [])), (15, (27, 0, [])), (16, (52, 0, []))])
/-- OxenHomeModel.isWord(J)Z -/
def zm_Mo_isWord : zMeth := (164, [(0, (3, 0, [0])), (1, (40, 0, [104, 12, 9])), (4, (0, 2, [])), (5, (35, 0, [1, 11])), (8, (3, 0, [0])), (9, (40, 0, [117, 12, 11])), (12, (5, 0, [1])), (13, (38, 0, [])), (14, (36, 0, [1, 11])), (17, (0, 1, [])), (18, (37, 0, [12])), (21, (0, 0, [])), (22, (51, 0, []))])
/-- OxenHomeModel.emit(II)V -/
def zm_Mo_emit : zMeth := (165, [(0, (3, 0, [0])), (1, (40, 0, [16, 12, 2])), (4, (3, 0, [0])), (5, (40, 0, [129, 12, 12])), (8, (0, 20, [])), (10, (8, 0, [])), (11, (0, 2, [])), (12, (3, 0, [0])), (13, (40, 0, [132, 12, 14])), (16, (10, 0, [])), (17, (8, 0, [])), (18, (1, 0, [1])), (19, (43, 0, [])), (20, (3, 0, [0])), (21, (40, 0, [16, 12, 2])), (24, (3, 0, [0])), (25, (40, 0, [129, 12, 12])), (28, (0, 20, [])), (30, (8, 0, [])), (31, (0, 2, [])), (32, (3, 0, [0])), (33, (40, 0, [132, 12, 14])), (36, (10, 0, [])), (37, (8, 0, [])), (38, (0, 1, [])), (39, (8, 0, [])), (40, (1, 0, [2])), (41, (43, 0, [])), (42, (3, 0, [0])), (43, (32, 0, [])), (44, (40, 0, [132, 12, 14])), (47, (0, 1, [])), (48, (8, 0, [])), (49, (41, 0, [132, 12, 14])), (52, (53, 0, []))])
/-- OxenHomeModel.push(I)V -/
def zm_Mo_push : zMeth := (166, [(0, (3, 0, [0])), (1, (40, 0, [29, 12, 16])), (4, (3, 0, [0])), (5, (40, 0, [135, 12, 17])), (8, (1, 0, [1])), (9, (43, 0, [])), (10, (3, 0, [0])), (11, (32, 0, [])), (12, (40, 0, [135, 12, 17])), (15, (0, 1, [])), (16, (8, 0, [])), (17, (41, 0, [135, 12, 17])), (20, (53, 0, []))])
/-- OxenHomeModel.whole()V -/
def zm_Mo_whole : zMeth := (167, [(0, (3, 0, [0])), (1, (0, 1, [])), (2, (41, 0, [138, 12, 19])), (5, (3, 0, [0])), (6, (40, 0, [135, 12, 17])), (9, (36, 0, [5, 32])), (12, (3, 0, [0])), (13, (40, 0, [29, 12, 16])), (16, (3, 0, [0])), (17, (40, 0, [135, 12, 17])), (20, (0, 1, [])), (21, (9, 0, [])), (22, (42, 0, [])), (23, (0, 2, [])), (24, (35, 0, [1, 32])), (27, (3, 0, [0])), (28, (32, 0, [])), (29, (40, 0, [135, 12, 17])), (32, (0, 1, [])), (33, (9, 0, [])), (34, (41, 0, [135, 12, 17])), (37, (3, 0, [0])), (38, (32, 0, [])), (39, (40, 0, [142, 12, 18])), (42, (0, 1, [])), (43, (9, 0, [])), (44, (41, 0, [142, 12, 18])), (47, (3, 0, [0])), (48, (0, 2, [])), (49, (0, 0, [])), (50, (49, 0, [145, 165])), (53, (37, 0, [3])), (56, (53, 0, []))])
/-- OxenHomeModel.settle(I)V -/
def zm_Mo_settle : zMeth := (168, [(0, (3, 0, [0])), (1, (40, 0, [135, 12, 17])), (4, (36, 0, [5, 36])), (7, (3, 0, [0])), (8, (40, 0, [29, 12, 16])), (11, (3, 0, [0])), (12, (40, 0, [135, 12, 17])), (15, (0, 1, [])), (16, (9, 0, [])), (17, (42, 0, [])), (18, (0, 40, [])), (20, (35, 0, [3, 36])), (23, (3, 0, [0])), (24, (40, 0, [29, 12, 16])), (27, (3, 0, [0])), (28, (40, 0, [135, 12, 17])), (31, (0, 1, [])), (32, (9, 0, [])), (33, (42, 0, [])), (34, (1, 0, [1])), (35, (35, 0, [2, 36])), (38, (3, 0, [0])), (39, (32, 0, [])), (40, (40, 0, [135, 12, 17])), (43, (0, 1, [])), (44, (9, 0, [])), (45, (41, 0, [135, 12, 17])), (48, (3, 0, [0])), (49, (3, 0, [0])), (50, (40, 0, [29, 12, 16])), (53, (3, 0, [0])), (54, (40, 0, [135, 12, 17])), (57, (42, 0, [])), (58, (0, 0, [])), (59, (49, 0, [145, 165])), (62, (37, 0, [0])), (65, (53, 0, []))])
/-- OxenHomeModel.isStrength()Z -/
def zm_Mo_isStrength : zMeth := (169, [(0, (3, 0, [0])), (1, (40, 0, [94, 12, 7])), (4, (3, 0, [0])), (5, (40, 0, [101, 12, 8])), (8, (9, 0, [])), (9, (0, 8, [])), (11, (35, 0, [1, 37])), (14, (3, 0, [0])), (15, (3, 0, [0])), (16, (40, 0, [101, 12, 8])), (19, (49, 0, [97, 156])), (22, (0, 115, [])), (24, (35, 0, [1, 37])), (27, (3, 0, [0])), (28, (3, 0, [0])), (29, (40, 0, [101, 12, 8])), (32, (0, 1, [])), (33, (8, 0, [])), (34, (49, 0, [97, 156])), (37, (0, 116, [])), (39, (35, 0, [1, 37])), (42, (3, 0, [0])), (43, (3, 0, [0])), (44, (40, 0, [101, 12, 8])), (47, (0, 2, [])), (48, (8, 0, [])), (49, (49, 0, [97, 156])), (52, (0, 114, [])), (54, (35, 0, [1, 37])), (57, (3, 0, [0])), (58, (3, 0, [0])), (59, (40, 0, [101, 12, 8])), (62, (0, 3, [])), (63, (8, 0, [])), (64, (49, 0, [97, 156])), (67, (0, 101, [])), (69, (35, 0, [0, 39])), (72, (0, 0, [])), (73, (51, 0, [])), (74, (3, 0, [0])), (75, (3, 0, [0])), (76, (40, 0, [101, 12, 8])), (79, (0, 4, [])), (80, (8, 0, [])), (81, (49, 0, [97, 156])), (84, (0, 110, [])), (86, (35, 0, [1, 73])), (89, (3, 0, [0])), (90, (3, 0, [0])), (91, (40, 0, [101, 12, 8])), (94, (0, 5, [])), (95, (8, 0, [])), (96, (49, 0, [97, 156])), (99, (0, 103, [])), (101, (35, 0, [1, 73])), (104, (3, 0, [0])), (105, (3, 0, [0])), (106, (40, 0, [101, 12, 8])), (109, (0, 6, [])), (111, (8, 0, [])), (112, (49, 0, [97, 156])), (115, (0, 116, [])), (117, (35, 0, [1, 73])), (120, (3, 0, [0])), (121, (3, 0, [0])), (122, (40, 0, [101, 12, 8])), (125, (0, 7, [])), (127, (8, 0, [])), (128, (49, 0, [97, 156])), (131, (0, 104, [])), (133, (35, 0, [1, 73])), (136, (0, 1, [])), (137, (37, 0, [74])), (140, (0, 0, [])), (141, (51, 0, []))])
/-- OxenHomeModel.nameOf()I -/
def zm_Mo_nameOf : zMeth := (170, [(0, (3, 0, [0])), (1, (40, 0, [104, 12, 9])), (4, (0, 2, [])), (5, (35, 0, [0, 6])), (8, (0, (-1), [])), (9, (51, 0, [])), (10, (3, 0, [0])), (11, (40, 0, [117, 12, 11])), (14, (0, 104, [])), (16, (0, 111, [])), (18, (0, 117, [])), (20, (0, 114, [])), (22, (50, 0, [149, 162])), (25, (38, 0, [])), (26, (36, 0, [1, 17])), (29, (0, 0, [])), (30, (51, 0, [])), (31, (3, 0, [0])), (32, (40, 0, [117, 12, 11])), (35, (0, 112, [])), (37, (0, 105, [])), (39, (0, 116, [])), (41, (0, 99, [])), (43, (0, 104, [])), (45, (50, 0, [125, 161])), (48, (38, 0, [])), (49, (36, 0, [1, 29])), (52, (0, 1, [])), (53, (51, 0, [])), (54, (3, 0, [0])), (55, (40, 0, [117, 12, 11])), (58, (0, 102, [])), (60, (0, 97, [])), (62, (0, 114, [])), (64, (0, 109, [])), (66, (50, 0, [149, 162])), (69, (38, 0, [])), (70, (36, 0, [1, 40])), (73, (0, 2, [])), (74, (51, 0, [])), (75, (3, 0, [0])), (76, (40, 0, [117, 12, 11])), (79, (0, 101, [])), (81, (0, 97, [])), (83, (0, 114, [])), (85, (50, 0, [121, 160])), (88, (38, 0, [])), (89, (36, 0, [1, 50])), (92, (0, 3, [])), (93, (51, 0, [])), (94, (3, 0, [0])), (95, (40, 0, [117, 12, 11])), (98, (0, 111, [])), (100, (0, 119, [])), (102, (0, 110, [])), (104, (50, 0, [121, 160])), (107, (38, 0, [])), (108, (36, 0, [1, 60])), (111, (0, 4, [])), (112, (51, 0, [])), (113, (3, 0, [0])), (114, (40, 0, [117, 12, 11])), (117, (0, 102, [])), (119, (0, 97, [])), (121, (0, 114, [])), (123, (50, 0, [121, 160])), (126, (38, 0, [])), (127, (36, 0, [1, 70])), (130, (0, 5, [])), (131, (51, 0, [])), (132, (3, 0, [0])), (133, (40, 0, [117, 12, 11])), (136, (0, 121, [])), (138, (0, 111, [])), (140, (0, 107, [])), (142, (0, 101, [])), (144, (0, 100, [])), (146, (50, 0, [125, 161])), (149, (38, 0, [])), (150, (36, 0, [1, 82])), (153, (0, 6, [])), (155, (51, 0, [])), (156, (3, 0, [0])), (157, (40, 0, [117, 12, 11])), (160, (31, 28536, [153])), (163, (38, 0, [])), (164, (36, 0, [1, 89])), (167, (0, 7, [])), (169, (51, 0, [])), (170, (3, 0, [0])), (171, (49, 0, [155, 169])), (174, (36, 0, [0, 94])), (177, (0, 8, [])), (179, (51, 0, [])), (180, (3, 0, [0])), (181, (40, 0, [117, 12, 11])), (184, (0, 119, [])), (186, (0, 101, [])), (188, (0, 97, [])), (190, (0, 107, [])), (192, (0, 101, [])), (194, (0, 114, [])), (196, (50, 0, [159, 163])), (199, (38, 0, [])), (200, (36, 0, [1, 107])), (203, (0, 9, [])), (205, (37, 0, [119])), (208, (3, 0, [0])), (209, (40, 0, [117, 12, 11])), (212, (0, 115, [])), (214, (0, 111, [])), (216, (0, 105, [])), (218, (0, 108, [])), (220, (50, 0, [149, 162])), (223, (38, 0, [])), (224, (36, 0, [1, 118])), (227, (0, 10, [])), (229, (37, 0, [119])), (232, (0, (-1), [])), (233, (51, 0, []))])
/-- OxenHomeModel.isBarred(I)Z -/
def zm_Mo_isBarred : zMeth := (171, [(0, (3, 0, [0])), (1, (40, 0, [163, 12, 20])), (4, (0, 3, [])), (5, (35, 0, [1, 11])), (8, (1, 0, [1])), (9, (0, 2, [])), (10, (35, 0, [5, 9])), (13, (0, 1, [])), (14, (37, 0, [26])), (17, (0, 0, [])), (18, (37, 0, [26])), (21, (3, 0, [0])), (22, (40, 0, [163, 12, 20])), (25, (0, 4, [])), (26, (35, 0, [1, 20])), (29, (1, 0, [1])), (30, (0, 1, [])), (31, (0, 7, [])), (33, (50, 0, [71, 139])), (36, (37, 0, [26])), (39, (1, 0, [1])), (40, (0, 8, [])), (42, (35, 0, [5, 25])), (45, (0, 1, [])), (46, (37, 0, [26])), (49, (0, 0, [])), (50, (51, 0, []))])
/-- OxenHomeModel.beginOne()I -/
def zm_Mo_beginOne : zMeth := (172, [(0, (3, 0, [0])), (1, (40, 0, [104, 12, 9])), (4, (0, 1, [])), (5, (35, 0, [1, 21])), (8, (3, 0, [0])), (9, (40, 0, [110, 12, 10])), (12, (0, 9999, [])), (15, (35, 0, [5, 10])), (18, (0, 2, [])), (19, (51, 0, [])), (20, (3, 0, [0])), (21, (0, 0, [])), (22, (3, 0, [0])), (23, (40, 0, [110, 12, 10])), (26, (49, 0, [145, 165])), (29, (3, 0, [0])), (30, (49, 0, [166, 159])), (33, (3, 0, [0])), (34, (49, 0, [169, 167])), (37, (0, 0, [])), (38, (51, 0, [])), (39, (3, 0, [0])), (40, (49, 0, [172, 170])), (43, (36, 0, [2, 42])), (46, (3, 0, [0])), (47, (3, 0, [0])), (48, (49, 0, [172, 170])), (51, (49, 0, [176, 171])), (54, (36, 0, [0, 31])), (57, (0, 5, [])), (58, (51, 0, [])), (59, (3, 0, [0])), (60, (0, 1, [])), (61, (3, 0, [0])), (62, (49, 0, [172, 170])), (65, (49, 0, [145, 165])), (68, (3, 0, [0])), (69, (49, 0, [166, 159])), (72, (3, 0, [0])), (73, (49, 0, [169, 167])), (76, (0, 0, [])), (77, (51, 0, [])), (78, (3, 0, [0])), (79, (40, 0, [104, 12, 9])), (82, (0, 40, [])), (84, (35, 0, [1, 48])), (87, (0, 40, [])), (89, (37, 0, [55])), (92, (3, 0, [0])), (93, (40, 0, [104, 12, 9])), (96, (0, 45, [])), (98, (35, 0, [1, 54])), (101, (0, 2, [])), (102, (37, 0, [55])), (105, (0, 0, [])), (106, (2, 0, [1])), (107, (1, 0, [1])), (108, (36, 0, [1, 60])), (111, (0, 1, [])), (112, (51, 0, [])), (113, (3, 0, [0])), (114, (40, 0, [142, 12, 18])), (117, (0, 8, [])), (119, (35, 0, [1, 66])), (122, (0, 3, [])), (123, (51, 0, [])), (124, (3, 0, [0])), (125, (32, 0, [])), (126, (40, 0, [142, 12, 18])), (129, (0, 1, [])), (130, (8, 0, [])), (131, (41, 0, [142, 12, 18])), (134, (3, 0, [0])), (135, (1, 0, [1])), (136, (49, 0, [179, 166])), (139, (3, 0, [0])), (140, (49, 0, [166, 159])), (143, (0, 0, [])), (144, (51, 0, []))])
/-- OxenHomeModel.hasParen()Z -/
def zm_Mo_hasParen : zMeth := (173, [(0, (0, 0, [])), (1, (2, 0, [1])), (2, (1, 0, [1])), (3, (3, 0, [0])), (4, (40, 0, [135, 12, 17])), (7, (35, 0, [3, 16])), (10, (3, 0, [0])), (11, (40, 0, [29, 12, 16])), (14, (1, 0, [1])), (15, (42, 0, [])), (16, (0, 40, [])), (18, (35, 0, [1, 14])), (21, (0, 1, [])), (22, (51, 0, [])), (23, (7, 1, [1])), (26, (37, 0, [2])), (29, (0, 0, [])), (30, (51, 0, []))])
/-- OxenHomeModel.goesOn()Z -/
def zm_Mo_goesOn : zMeth := (174, [(0, (3, 0, [0])), (1, (40, 0, [104, 12, 9])), (4, (0, 43, [])), (6, (35, 0, [0, 23])), (9, (3, 0, [0])), (10, (40, 0, [104, 12, 9])), (13, (0, 45, [])), (15, (35, 0, [0, 23])), (18, (3, 0, [0])), (19, (40, 0, [104, 12, 9])), (22, (0, 42, [])), (24, (35, 0, [0, 23])), (27, (3, 0, [0])), (28, (40, 0, [104, 12, 9])), (31, (0, 47, [])), (33, (35, 0, [0, 23])), (36, (3, 0, [0])), (37, (40, 0, [104, 12, 9])), (40, (0, 41, [])), (42, (35, 0, [1, 25])), (45, (3, 0, [0])), (46, (49, 0, [182, 173])), (49, (36, 0, [0, 25])), (52, (0, 1, [])), (53, (37, 0, [26])), (56, (0, 0, [])), (57, (51, 0, []))])
/-- OxenHomeModel.behindOne()I -/
def zm_Mo_behindOne : zMeth := (175, [(0, (3, 0, [0])), (1, (40, 0, [104, 12, 9])), (4, (2, 0, [1])), (5, (1, 0, [1])), (6, (0, 43, [])), (8, (35, 0, [0, 9])), (11, (1, 0, [1])), (12, (0, 45, [])), (14, (35, 0, [1, 24])), (17, (3, 0, [0])), (18, (0, 3, [])), (19, (49, 0, [185, 168])), (22, (3, 0, [0])), (23, (1, 0, [1])), (24, (0, 43, [])), (26, (35, 0, [1, 18])), (29, (0, 3, [])), (30, (37, 0, [19])), (33, (0, 4, [])), (34, (49, 0, [179, 166])), (37, (3, 0, [0])), (38, (0, 0, [])), (39, (41, 0, [138, 12, 19])), (42, (37, 0, [62])), (45, (1, 0, [1])), (46, (0, 42, [])), (48, (35, 0, [0, 30])), (51, (1, 0, [1])), (52, (0, 47, [])), (54, (35, 0, [1, 45])), (57, (3, 0, [0])), (58, (0, 5, [])), (59, (49, 0, [185, 168])), (62, (3, 0, [0])), (63, (1, 0, [1])), (64, (0, 42, [])), (66, (35, 0, [1, 39])), (69, (0, 5, [])), (70, (37, 0, [40])), (73, (0, 6, [])), (75, (49, 0, [179, 166])), (78, (3, 0, [0])), (79, (0, 0, [])), (80, (41, 0, [138, 12, 19])), (83, (37, 0, [62])), (86, (3, 0, [0])), (87, (0, 3, [])), (88, (49, 0, [185, 168])), (91, (3, 0, [0])), (92, (32, 0, [])), (93, (40, 0, [135, 12, 17])), (96, (0, 1, [])), (97, (9, 0, [])), (98, (41, 0, [135, 12, 17])), (101, (3, 0, [0])), (102, (32, 0, [])), (103, (40, 0, [142, 12, 18])), (106, (0, 1, [])), (107, (9, 0, [])), (108, (41, 0, [142, 12, 18])), (111, (3, 0, [0])), (112, (49, 0, [169, 167])), (115, (3, 0, [0])), (116, (49, 0, [166, 159])), (119, (0, 0, [])), (120, (51, 0, []))])
/-- OxenHomeModel.summed()I -/
def zm_Mo_summed : zMeth := (176, [(0, (3, 0, [0])), (1, (0, 0, [])), (2, (41, 0, [135, 12, 17])), (5, (3, 0, [0])), (6, (0, 0, [])), (7, (41, 0, [138, 12, 19])), (10, (3, 0, [0])), (11, (40, 0, [138, 12, 19])), (14, (36, 0, [0, 12])), (17, (3, 0, [0])), (18, (49, 0, [188, 174])), (21, (36, 0, [0, 26])), (24, (3, 0, [0])), (25, (40, 0, [138, 12, 19])), (28, (36, 0, [0, 18])), (31, (3, 0, [0])), (32, (49, 0, [191, 175])), (35, (37, 0, [20])), (38, (3, 0, [0])), (39, (49, 0, [194, 172])), (42, (2, 0, [1])), (43, (1, 0, [1])), (44, (36, 0, [0, 25])), (47, (1, 0, [1])), (48, (51, 0, [])), (49, (37, 0, [6])), (52, (3, 0, [0])), (53, (0, 3, [])), (54, (49, 0, [185, 168])), (57, (3, 0, [0])), (58, (40, 0, [135, 12, 17])), (61, (36, 0, [5, 34])), (64, (0, 1, [])), (65, (37, 0, [35])), (68, (0, 0, [])), (69, (51, 0, []))])
/-- OxenHomeModel.compareOf()I -/
def zm_Mo_compareOf : zMeth := (177, [(0, (3, 0, [0])), (1, (40, 0, [104, 12, 9])), (4, (0, 60, [])), (6, (35, 0, [1, 6])), (9, (0, 10, [])), (11, (37, 0, [37])), (14, (3, 0, [0])), (15, (40, 0, [104, 12, 9])), (18, (0, 4, [])), (19, (35, 0, [1, 12])), (22, (0, 11, [])), (24, (37, 0, [37])), (27, (3, 0, [0])), (28, (40, 0, [104, 12, 9])), (31, (0, 62, [])), (33, (35, 0, [1, 18])), (36, (0, 12, [])), (38, (37, 0, [37])), (41, (3, 0, [0])), (42, (40, 0, [104, 12, 9])), (45, (0, 5, [])), (46, (35, 0, [1, 24])), (49, (0, 13, [])), (51, (37, 0, [37])), (54, (3, 0, [0])), (55, (40, 0, [104, 12, 9])), (58, (0, 61, [])), (60, (35, 0, [1, 30])), (63, (0, 14, [])), (65, (37, 0, [37])), (68, (3, 0, [0])), (69, (40, 0, [104, 12, 9])), (72, (0, 35, [])), (74, (35, 0, [1, 36])), (77, (0, 15, [])), (79, (37, 0, [37])), (82, (0, (-1), [])), (83, (51, 0, []))])
/-- OxenHomeModel.asks()I -/
def zm_Mo_asks : zMeth := (178, [(0, (0, 0, [])), (1, (2, 0, [1])), (2, (3, 0, [0])), (3, (0, 110, [])), (5, (0, 111, [])), (7, (0, 116, [])), (9, (50, 0, [121, 160])), (12, (49, 0, [197, 164])), (15, (36, 0, [0, 25])), (18, (3, 0, [0])), (19, (40, 0, [142, 12, 18])), (22, (0, 8, [])), (24, (35, 0, [1, 15])), (27, (0, 3, [])), (28, (51, 0, [])), (29, (3, 0, [0])), (30, (32, 0, [])), (31, (40, 0, [142, 12, 18])), (34, (0, 1, [])), (35, (8, 0, [])), (36, (41, 0, [142, 12, 18])), (39, (7, 1, [1])), (42, (3, 0, [0])), (43, (49, 0, [166, 159])), (46, (37, 0, [2])), (49, (3, 0, [0])), (50, (49, 0, [201, 176])), (53, (2, 0, [2])), (54, (1, 0, [2])), (55, (36, 0, [0, 32])), (58, (1, 0, [2])), (59, (51, 0, [])), (60, (3, 0, [0])), (61, (49, 0, [204, 177])), (64, (2, 0, [3])), (65, (1, 0, [3])), (66, (36, 0, [3, 39])), (69, (0, 1, [])), (70, (51, 0, [])), (71, (3, 0, [0])), (72, (49, 0, [166, 159])), (75, (3, 0, [0])), (76, (49, 0, [201, 176])), (79, (2, 0, [2])), (80, (1, 0, [2])), (81, (36, 0, [0, 48])), (84, (1, 0, [2])), (85, (51, 0, [])), (86, (3, 0, [0])), (87, (1, 0, [3])), (88, (0, 0, [])), (89, (49, 0, [145, 165])), (92, (3, 0, [0])), (93, (32, 0, [])), (94, (40, 0, [142, 12, 18])), (97, (1, 0, [1])), (98, (9, 0, [])), (99, (41, 0, [142, 12, 18])), (102, (0, 0, [])), (103, (2, 0, [4])), (105, (1, 0, [4])), (107, (1, 0, [1])), (108, (35, 0, [3, 69])), (111, (3, 0, [0])), (112, (0, 20, [])), (114, (0, 0, [])), (115, (49, 0, [145, 165])), (118, (7, 1, [4])), (121, (37, 0, [60])), (124, (0, 0, [])), (125, (51, 0, []))])
/-- OxenHomeModel.either()I -/
def zm_Mo_either : zMeth := (179, [(0, (0, 0, [])), (1, (2, 0, [1])), (2, (0, 0, [])), (3, (2, 0, [2])), (4, (0, 1, [])), (5, (2, 0, [3])), (6, (1, 0, [3])), (7, (36, 0, [0, 64])), (10, (3, 0, [0])), (11, (49, 0, [207, 178])), (14, (2, 0, [4])), (16, (1, 0, [4])), (18, (36, 0, [0, 15])), (21, (1, 0, [4])), (23, (51, 0, [])), (24, (1, 0, [1])), (25, (36, 0, [0, 21])), (28, (3, 0, [0])), (29, (0, 21, [])), (31, (0, 0, [])), (32, (49, 0, [145, 165])), (35, (3, 0, [0])), (36, (0, 97, [])), (38, (0, 110, [])), (40, (0, 100, [])), (42, (50, 0, [121, 160])), (45, (49, 0, [197, 164])), (48, (2, 0, [1])), (49, (3, 0, [0])), (50, (40, 0, [104, 12, 9])), (53, (0, 2, [])), (54, (35, 0, [1, 39])), (57, (3, 0, [0])), (58, (40, 0, [117, 12, 11])), (61, (31, 28530, [210])), (64, (38, 0, [])), (65, (36, 0, [1, 39])), (68, (0, 1, [])), (69, (37, 0, [40])), (72, (0, 0, [])), (73, (2, 0, [5])), (75, (1, 0, [1])), (76, (36, 0, [1, 51])), (79, (1, 0, [2])), (80, (36, 0, [0, 49])), (83, (3, 0, [0])), (84, (0, 22, [])), (86, (0, 0, [])), (87, (49, 0, [145, 165])), (90, (1, 0, [5])), (92, (2, 0, [2])), (93, (1, 0, [1])), (94, (36, 0, [1, 55])), (97, (1, 0, [5])), (99, (36, 0, [0, 57])), (102, (0, 1, [])), (103, (37, 0, [58])), (106, (0, 0, [])), (107, (2, 0, [3])), (108, (1, 0, [3])), (109, (36, 0, [0, 63])), (112, (3, 0, [0])), (113, (49, 0, [166, 159])), (116, (37, 0, [6])), (119, (0, 0, [])), (120, (51, 0, []))])
/-- OxenHomeModel.sortOf()I -/
def zm_Mo_sortOf : zMeth := (180, [(0, (3, 0, [0])), (1, (0, 104, [])), (3, (0, 101, [])), (5, (0, 101, [])), (7, (0, 100, [])), (9, (0, 115, [])), (11, (50, 0, [125, 161])), (14, (49, 0, [197, 164])), (17, (36, 0, [0, 11])), (20, (0, 0, [])), (21, (51, 0, [])), (22, (3, 0, [0])), (23, (0, 115, [])), (25, (0, 101, [])), (27, (0, 99, [])), (29, (0, 111, [])), (31, (0, 110, [])), (33, (0, 100, [])), (35, (50, 0, [159, 163])), (38, (49, 0, [197, 164])), (41, (36, 0, [0, 23])), (44, (0, 1, [])), (45, (51, 0, [])), (46, (3, 0, [0])), (47, (0, 115, [])), (49, (0, 108, [])), (51, (0, 105, [])), (53, (0, 112, [])), (55, (50, 0, [149, 162])), (58, (49, 0, [197, 164])), (61, (36, 0, [0, 33])), (64, (0, 2, [])), (65, (51, 0, [])), (66, (3, 0, [0])), (67, (0, 99, [])), (69, (0, 97, [])), (71, (0, 108, [])), (73, (0, 108, [])), (75, (0, 115, [])), (77, (50, 0, [125, 161])), (80, (49, 0, [197, 164])), (83, (36, 0, [0, 44])), (86, (0, 3, [])), (87, (37, 0, [55])), (90, (3, 0, [0])), (91, (0, 119, [])), (93, (0, 111, [])), (95, (0, 114, [])), (97, (0, 107, [])), (99, (50, 0, [149, 162])), (102, (49, 0, [197, 164])), (105, (36, 0, [0, 54])), (108, (0, 4, [])), (109, (37, 0, [55])), (112, (0, (-1), [])), (113, (51, 0, []))])
/-- OxenHomeModel.clause()I -/
def zm_Mo_clause : zMeth := (181, [(0, (3, 0, [0])), (1, (49, 0, [212, 180])), (4, (2, 0, [1])), (5, (1, 0, [1])), (6, (36, 0, [3, 7])), (9, (0, 1, [])), (10, (51, 0, [])), (11, (3, 0, [0])), (12, (40, 0, [215, 12, 21])), (15, (1, 0, [1])), (16, (18, 0, [])), (17, (0, 1, [])), (18, (14, 0, [])), (19, (0, 1, [])), (20, (35, 0, [1, 17])), (23, (0, 4, [])), (24, (51, 0, [])), (25, (3, 0, [0])), (26, (32, 0, [])), (27, (40, 0, [215, 12, 21])), (30, (0, 1, [])), (31, (1, 0, [1])), (32, (17, 0, [])), (33, (15, 0, [])), (34, (41, 0, [215, 12, 21])), (37, (3, 0, [0])), (38, (1, 0, [1])), (39, (41, 0, [163, 12, 20])), (42, (3, 0, [0])), (43, (49, 0, [166, 159])), (46, (3, 0, [0])), (47, (40, 0, [129, 12, 12])), (50, (0, 1, [])), (51, (8, 0, [])), (52, (0, 3, [])), (53, (3, 0, [0])), (54, (40, 0, [16, 12, 2])), (57, (3, 0, [0])), (58, (40, 0, [129, 12, 12])), (61, (42, 0, [])), (62, (10, 0, [])), (63, (8, 0, [])), (64, (2, 0, [2])), (65, (3, 0, [0])), (66, (40, 0, [16, 12, 2])), (69, (1, 0, [2])), (70, (1, 0, [1])), (71, (43, 0, [])), (72, (3, 0, [0])), (73, (40, 0, [16, 12, 2])), (76, (1, 0, [2])), (77, (0, 1, [])), (78, (8, 0, [])), (79, (3, 0, [0])), (80, (40, 0, [132, 12, 14])), (83, (43, 0, [])), (84, (1, 0, [1])), (85, (0, 2, [])), (86, (35, 0, [3, 62])), (89, (3, 0, [0])), (90, (49, 0, [218, 179])), (93, (37, 0, [64])), (96, (3, 0, [0])), (97, (49, 0, [201, 176])), (100, (2, 0, [3])), (101, (1, 0, [3])), (102, (36, 0, [0, 69])), (105, (1, 0, [3])), (106, (51, 0, [])), (107, (3, 0, [0])), (108, (40, 0, [16, 12, 2])), (111, (1, 0, [2])), (112, (0, 2, [])), (113, (8, 0, [])), (114, (3, 0, [0])), (115, (40, 0, [132, 12, 14])), (118, (43, 0, [])), (119, (3, 0, [0])), (120, (40, 0, [16, 12, 2])), (123, (3, 0, [0])), (124, (40, 0, [129, 12, 12])), (127, (33, 0, [])), (128, (42, 0, [])), (129, (0, 1, [])), (130, (8, 0, [])), (131, (43, 0, [])), (132, (3, 0, [0])), (133, (40, 0, [104, 12, 9])), (136, (0, 59, [])), (138, (35, 0, [0, 92])), (141, (0, 1, [])), (142, (51, 0, [])), (143, (3, 0, [0])), (144, (49, 0, [166, 159])), (147, (0, 0, [])), (148, (51, 0, []))])
/-- OxenHomeModel.readText()I -/
def zm_Mo_readText : zMeth := (182, [(0, (3, 0, [0])), (1, (0, 625, [])), (4, (3, 0, [0])), (5, (40, 0, [7, 12, 0])), (8, (0, 4, [])), (9, (42, 0, [])), (10, (10, 0, [])), (11, (41, 0, [129, 12, 12])), (14, (3, 0, [0])), (15, (40, 0, [16, 12, 2])), (18, (3, 0, [0])), (19, (40, 0, [129, 12, 12])), (22, (0, 0, [])), (23, (43, 0, [])), (24, (3, 0, [0])), (25, (0, 0, [])), (26, (41, 0, [132, 12, 14])), (29, (3, 0, [0])), (30, (0, 0, [])), (31, (41, 0, [142, 12, 18])), (34, (3, 0, [0])), (35, (0, 0, [])), (36, (41, 0, [215, 12, 21])), (39, (3, 0, [0])), (40, (0, 0, [])), (41, (41, 0, [94, 12, 7])), (44, (3, 0, [0])), (45, (49, 0, [166, 159])), (48, (3, 0, [0])), (49, (40, 0, [104, 12, 9])), (52, (36, 0, [0, 39])), (55, (3, 0, [0])), (56, (49, 0, [221, 181])), (59, (2, 0, [1])), (60, (1, 0, [1])), (61, (36, 0, [0, 38])), (64, (1, 0, [1])), (65, (51, 0, [])), (66, (37, 0, [28])), (69, (0, 0, [])), (70, (51, 0, []))])
/-- OxenHomeModel.text()I -/
def zm_Mo_text : zMeth := (183, [(0, (3, 0, [0])), (1, (40, 0, [7, 12, 0])), (4, (0, 4, [])), (5, (42, 0, [])), (6, (0, 4, [])), (7, (35, 0, [1, 8])), (10, (0, (-1), [])), (11, (51, 0, [])), (12, (3, 0, [0])), (13, (3, 0, [0])), (14, (49, 0, [224, 182])), (17, (41, 0, [22, 12, 5])), (20, (3, 0, [0])), (21, (3, 0, [0])), (22, (40, 0, [22, 12, 5])), (25, (36, 0, [1, 18])), (28, (0, (-1), [])), (29, (37, 0, [20])), (32, (3, 0, [0])), (33, (40, 0, [101, 12, 8])), (36, (41, 0, [26, 12, 6])), (39, (3, 0, [0])), (40, (0, 0, [])), (41, (41, 0, [87, 12, 4])), (44, (3, 0, [0])), (45, (40, 0, [22, 12, 5])), (48, (36, 0, [0, 29])), (51, (0, (-1), [])), (52, (51, 0, [])), (53, (3, 0, [0])), (54, (40, 0, [7, 12, 0])), (57, (0, 4, [])), (58, (33, 0, [])), (59, (42, 0, [])), (60, (0, 1, [])), (61, (8, 0, [])), (62, (43, 0, [])), (63, (3, 0, [0])), (64, (40, 0, [7, 12, 0])), (67, (0, 4, [])), (68, (42, 0, [])), (69, (0, 1, [])), (70, (9, 0, [])), (71, (51, 0, []))])
/-- OxenHomeModel.fault(I)I -/
def zm_Mo_fault : zMeth := (184, [(0, (1, 0, [1])), (1, (36, 0, [1, 5])), (4, (3, 0, [0])), (5, (40, 0, [22, 12, 5])), (8, (37, 0, [12])), (11, (1, 0, [1])), (12, (0, 1, [])), (13, (35, 0, [1, 11])), (16, (3, 0, [0])), (17, (40, 0, [26, 12, 6])), (20, (37, 0, [12])), (23, (0, (-1), [])), (24, (51, 0, []))])
/-- OxenHomeModel.by(I)Z -/
def zm_Mo_by : zMeth := (185, [(0, (1, 0, [1])), (1, (0, (-1), [])), (2, (3, 0, [0])), (3, (40, 0, [7, 12, 0])), (6, (0, 4, [])), (7, (42, 0, [])), (8, (0, 1, [])), (9, (9, 0, [])), (10, (50, 0, [71, 139])), (13, (36, 0, [1, 12])), (16, (0, 0, [])), (17, (51, 0, [])), (18, (3, 0, [0])), (19, (40, 0, [7, 12, 0])), (22, (0, 5, [])), (23, (1, 0, [1])), (24, (43, 0, [])), (25, (0, 1, [])), (26, (51, 0, []))])
/-- OxenHomeModel.clip(J)J -/
def zm_Mo_clip : zMeth := (186, [(0, (5, 0, [0])), (1, (31, 1000000, [227])), (4, (38, 0, [])), (5, (36, 0, [5, 6])), (8, (31, 1000000, [227])), (11, (37, 0, [13])), (14, (5, 0, [0])), (15, (31, (-1000000), [229])), (18, (38, 0, [])), (19, (36, 0, [3, 12])), (22, (31, (-1000000), [229])), (25, (37, 0, [13])), (28, (5, 0, [0])), (29, (52, 0, []))])
/-- OxenHomeModel.two(IJJ)J -/
def zm_Mo_two : zMeth := (187, [(0, (1, 0, [0])), (1, (39, 3, [17, 2, 7, 12])), (28, (5, 0, [1])), (29, (5, 0, [3])), (30, (20, 0, [])), (31, (50, 0, [231, 186])), (34, (52, 0, [])), (35, (5, 0, [1])), (36, (5, 0, [3])), (37, (21, 0, [])), (38, (50, 0, [231, 186])), (41, (52, 0, [])), (42, (5, 0, [1])), (43, (5, 0, [3])), (44, (22, 0, [])), (45, (50, 0, [231, 186])), (48, (52, 0, [])), (49, (5, 0, [3])), (50, (31, 0, [])), (51, (38, 0, [])), (52, (36, 0, [1, 23])), (55, (31, 0, [])), (56, (37, 0, [27])), (59, (5, 0, [1])), (60, (5, 0, [3])), (61, (23, 0, [])), (62, (50, 0, [231, 186])), (65, (52, 0, []))])
/-- OxenHomeModel.isAsked(IJJ)Z -/
def zm_Mo_isAsked : zMeth := (188, [(0, (1, 0, [0])), (1, (0, 10, [])), (3, (35, 0, [1, 11])), (6, (5, 0, [1])), (7, (5, 0, [3])), (8, (38, 0, [])), (9, (36, 0, [3, 9])), (12, (0, 1, [])), (13, (37, 0, [62])), (16, (0, 0, [])), (17, (37, 0, [62])), (20, (1, 0, [0])), (21, (0, 11, [])), (23, (35, 0, [1, 22])), (26, (5, 0, [1])), (27, (5, 0, [3])), (28, (38, 0, [])), (29, (36, 0, [4, 20])), (32, (0, 1, [])), (33, (37, 0, [62])), (36, (0, 0, [])), (37, (37, 0, [62])), (40, (1, 0, [0])), (41, (0, 12, [])), (43, (35, 0, [1, 33])), (46, (5, 0, [1])), (47, (5, 0, [3])), (48, (38, 0, [])), (49, (36, 0, [5, 31])), (52, (0, 1, [])), (53, (37, 0, [62])), (56, (0, 0, [])), (57, (37, 0, [62])), (60, (1, 0, [0])), (61, (0, 13, [])), (63, (35, 0, [1, 44])), (66, (5, 0, [1])), (67, (5, 0, [3])), (68, (38, 0, [])), (69, (36, 0, [2, 42])), (72, (0, 1, [])), (73, (37, 0, [62])), (76, (0, 0, [])), (77, (37, 0, [62])), (80, (1, 0, [0])), (81, (0, 14, [])), (83, (35, 0, [1, 55])), (86, (5, 0, [1])), (87, (5, 0, [3])), (88, (38, 0, [])), (89, (36, 0, [1, 53])), (92, (0, 1, [])), (93, (37, 0, [62])), (96, (0, 0, [])), (97, (37, 0, [62])), (100, (5, 0, [1])), (101, (5, 0, [3])), (102, (38, 0, [])), (103, (36, 0, [0, 61])), (106, (0, 1, [])), (107, (37, 0, [62])), (110, (0, 0, [])), (111, (51, 0, []))])
/-- OxenHomeModel.work(I)V -/
def zm_Mo_work : zMeth := (189, [(0, (0, 625, [])), (3, (3, 0, [0])), (4, (40, 0, [7, 12, 0])), (7, (0, 5, [])), (8, (42, 0, [])), (9, (10, 0, [])), (10, (0, 1, [])), (11, (8, 0, [])), (12, (0, 3, [])), (13, (1, 0, [1])), (14, (10, 0, [])), (15, (8, 0, [])), (16, (2, 0, [2])), (17, (0, 625, [])), (20, (3, 0, [0])), (21, (40, 0, [7, 12, 0])), (24, (0, 5, [])), (25, (42, 0, [])), (26, (10, 0, [])), (27, (0, 20, [])), (29, (8, 0, [])), (30, (2, 0, [3])), (31, (0, 0, [])), (32, (2, 0, [4])), (34, (0, 0, [])), (35, (2, 0, [5])), (37, (3, 0, [0])), (38, (40, 0, [16, 12, 2])), (41, (1, 0, [2])), (42, (0, 1, [])), (43, (8, 0, [])), (44, (42, 0, [])), (45, (2, 0, [6])), (47, (1, 0, [6])), (49, (3, 0, [0])), (50, (40, 0, [16, 12, 2])), (53, (1, 0, [2])), (54, (0, 2, [])), (55, (8, 0, [])), (56, (42, 0, [])), (57, (35, 0, [3, 205])), (60, (3, 0, [0])), (61, (40, 0, [16, 12, 2])), (64, (1, 0, [3])), (65, (0, 2, [])), (66, (1, 0, [6])), (68, (10, 0, [])), (69, (8, 0, [])), (70, (42, 0, [])), (71, (2, 0, [7])), (73, (3, 0, [0])), (74, (40, 0, [16, 12, 2])), (77, (1, 0, [3])), (78, (0, 2, [])), (79, (1, 0, [6])), (81, (10, 0, [])), (82, (8, 0, [])), (83, (0, 1, [])), (84, (8, 0, [])), (85, (42, 0, [])), (86, (2, 0, [8])), (88, (1, 0, [7])), (90, (0, 1, [])), (91, (35, 0, [4, 80])), (94, (3, 0, [0])), (95, (40, 0, [35, 12, 23])), (98, (1, 0, [4])), (100, (1, 0, [7])), (102, (36, 0, [1, 72])), (105, (1, 0, [8])), (107, (29, 0, [])), (108, (37, 0, [77])), (111, (3, 0, [0])), (112, (40, 0, [32, 12, 22])), (115, (1, 0, [8])), (117, (42, 0, [])), (118, (29, 0, [])), (119, (45, 0, [])), (120, (7, 1, [4])), (123, (37, 0, [203])), (126, (1, 0, [7])), (128, (0, 2, [])), (129, (35, 0, [1, 97])), (132, (3, 0, [0])), (133, (40, 0, [35, 12, 23])), (136, (1, 0, [4])), (138, (0, 1, [])), (139, (9, 0, [])), (140, (3, 0, [0])), (141, (40, 0, [35, 12, 23])), (144, (1, 0, [4])), (146, (0, 1, [])), (147, (9, 0, [])), (148, (44, 0, [])), (149, (25, 0, [])), (150, (45, 0, [])), (151, (37, 0, [203])), (154, (1, 0, [7])), (156, (0, 10, [])), (158, (35, 0, [3, 120])), (161, (7, (-1), [4])), (164, (3, 0, [0])), (165, (40, 0, [35, 12, 23])), (168, (1, 0, [4])), (170, (0, 1, [])), (171, (9, 0, [])), (172, (1, 0, [7])), (174, (3, 0, [0])), (175, (40, 0, [35, 12, 23])), (178, (1, 0, [4])), (180, (0, 1, [])), (181, (9, 0, [])), (182, (44, 0, [])), (183, (3, 0, [0])), (184, (40, 0, [35, 12, 23])), (187, (1, 0, [4])), (189, (44, 0, [])), (190, (50, 0, [235, 187])), (193, (45, 0, [])), (194, (37, 0, [203])), (197, (1, 0, [7])), (199, (0, 20, [])), (201, (35, 0, [3, 142])), (204, (7, (-2), [4])), (207, (3, 0, [0])), (208, (40, 0, [39, 12, 24])), (211, (1, 0, [5])), (213, (1, 0, [7])), (215, (3, 0, [0])), (216, (40, 0, [35, 12, 23])), (219, (1, 0, [4])), (221, (44, 0, [])), (222, (3, 0, [0])), (223, (40, 0, [35, 12, 23])), (226, (1, 0, [4])), (228, (0, 1, [])), (229, (8, 0, [])), (230, (44, 0, [])), (231, (50, 0, [239, 188])), (234, (47, 0, [])), (235, (7, 1, [5])), (238, (37, 0, [203])), (241, (1, 0, [7])), (243, (0, 20, [])), (245, (35, 0, [1, 162])), (248, (3, 0, [0])), (249, (40, 0, [39, 12, 24])), (252, (1, 0, [5])), (254, (0, 1, [])), (255, (9, 0, [])), (256, (3, 0, [0])), (257, (40, 0, [39, 12, 24])), (260, (1, 0, [5])), (262, (0, 1, [])), (263, (9, 0, [])), (264, (46, 0, [])), (265, (36, 0, [1, 159])), (268, (0, 1, [])), (269, (37, 0, [160])), (272, (0, 0, [])), (273, (47, 0, [])), (274, (37, 0, [203])), (277, (7, (-1), [5])), (280, (3, 0, [0])), (281, (40, 0, [39, 12, 24])), (284, (1, 0, [5])), (286, (0, 1, [])), (287, (9, 0, [])), (288, (1, 0, [7])), (290, (0, 21, [])), (292, (35, 0, [1, 187])), (295, (3, 0, [0])), (296, (40, 0, [39, 12, 24])), (299, (1, 0, [5])), (301, (0, 1, [])), (302, (9, 0, [])), (303, (46, 0, [])), (304, (36, 0, [0, 185])), (307, (3, 0, [0])), (308, (40, 0, [39, 12, 24])), (311, (1, 0, [5])), (313, (46, 0, [])), (314, (36, 0, [0, 185])), (317, (0, 1, [])), (318, (37, 0, [202])), (321, (0, 0, [])), (322, (37, 0, [202])), (325, (3, 0, [0])), (326, (40, 0, [39, 12, 24])), (329, (1, 0, [5])), (331, (0, 1, [])), (332, (9, 0, [])), (333, (46, 0, [])), (334, (36, 0, [1, 199])), (337, (3, 0, [0])), (338, (40, 0, [39, 12, 24])), (341, (1, 0, [5])), (343, (46, 0, [])), (344, (36, 0, [0, 201])), (347, (0, 1, [])), (348, (37, 0, [202])), (351, (0, 0, [])), (352, (47, 0, [])), (353, (7, 1, [6])), (356, (37, 0, [33])), (359, (53, 0, []))])
/-- OxenHomeModel.clauseOf(I)I -/
def zm_Mo_clauseOf : zMeth := (190, [(0, (0, 0, [])), (1, (2, 0, [2])), (2, (3, 0, [0])), (3, (40, 0, [7, 12, 0])), (6, (0, 5, [])), (7, (42, 0, [])), (8, (36, 0, [2, 39])), (11, (1, 0, [2])), (12, (3, 0, [0])), (13, (40, 0, [16, 12, 2])), (16, (0, 625, [])), (19, (3, 0, [0])), (20, (40, 0, [7, 12, 0])), (23, (0, 5, [])), (24, (42, 0, [])), (25, (10, 0, [])), (26, (42, 0, [])), (27, (35, 0, [3, 39])), (30, (3, 0, [0])), (31, (40, 0, [16, 12, 2])), (34, (0, 625, [])), (37, (3, 0, [0])), (38, (40, 0, [7, 12, 0])), (41, (0, 5, [])), (42, (42, 0, [])), (43, (10, 0, [])), (44, (0, 1, [])), (45, (8, 0, [])), (46, (0, 3, [])), (47, (1, 0, [2])), (48, (10, 0, [])), (49, (8, 0, [])), (50, (42, 0, [])), (51, (1, 0, [1])), (52, (35, 0, [1, 37])), (55, (1, 0, [2])), (56, (51, 0, [])), (57, (7, 1, [2])), (60, (37, 0, [2])), (63, (0, (-1), [])), (64, (51, 0, []))])
/-- OxenHomeModel.name(IIIIII)V -/
def zm_Mo_name : zMeth := (191, [(0, (3, 0, [0])), (1, (40, 0, [32, 12, 22])), (4, (0, 0, [])), (5, (1, 0, [6])), (7, (43, 0, [])), (8, (3, 0, [0])), (9, (40, 0, [32, 12, 22])), (12, (0, 1, [])), (13, (1, 0, [3])), (14, (43, 0, [])), (15, (3, 0, [0])), (16, (40, 0, [32, 12, 22])), (19, (0, 2, [])), (20, (1, 0, [2])), (21, (43, 0, [])), (22, (3, 0, [0])), (23, (40, 0, [32, 12, 22])), (26, (0, 3, [])), (27, (3, 0, [0])), (28, (1, 0, [1])), (29, (0, 3, [])), (30, (49, 0, [243, 145])), (33, (43, 0, [])), (34, (3, 0, [0])), (35, (40, 0, [32, 12, 22])), (38, (0, 4, [])), (39, (1, 0, [2])), (40, (36, 0, [2, 42])), (43, (3, 0, [0])), (44, (1, 0, [1])), (45, (0, 0, [])), (46, (49, 0, [243, 145])), (49, (1, 0, [2])), (50, (35, 0, [0, 40])), (53, (3, 0, [0])), (54, (1, 0, [1])), (55, (0, 1, [])), (56, (49, 0, [243, 145])), (59, (1, 0, [2])), (60, (35, 0, [1, 42])), (63, (0, 1, [])), (64, (37, 0, [43])), (67, (0, 0, [])), (68, (43, 0, [])), (69, (3, 0, [0])), (70, (40, 0, [32, 12, 22])), (73, (0, 5, [])), (74, (1, 0, [2])), (75, (36, 0, [3, 51])), (78, (0, 0, [])), (79, (37, 0, [55])), (82, (3, 0, [0])), (83, (1, 0, [2])), (84, (1, 0, [4])), (86, (49, 0, [246, 149])), (89, (43, 0, [])), (90, (3, 0, [0])), (91, (40, 0, [32, 12, 22])), (94, (0, 6, [])), (96, (1, 0, [5])), (98, (43, 0, [])), (99, (3, 0, [0])), (100, (40, 0, [32, 12, 22])), (103, (0, 7, [])), (105, (1, 0, [1])), (106, (43, 0, [])), (107, (3, 0, [0])), (108, (40, 0, [32, 12, 22])), (111, (0, 8, [])), (113, (3, 0, [0])), (114, (1, 0, [1])), (115, (0, 2, [])), (116, (49, 0, [243, 145])), (119, (43, 0, [])), (120, (53, 0, []))])
/-- OxenHomeModel.isHeeded()Z -/
def zm_Mo_isHeeded : zMeth := (192, [(0, (3, 0, [0])), (1, (0, 0, [])), (2, (49, 0, [249, 190])), (5, (2, 0, [1])), (6, (1, 0, [1])), (7, (36, 0, [3, 16])), (10, (3, 0, [0])), (11, (40, 0, [32, 12, 22])), (14, (0, 4, [])), (15, (42, 0, [])), (16, (0, 1, [])), (17, (35, 0, [1, 14])), (20, (0, 1, [])), (21, (37, 0, [15])), (24, (0, 0, [])), (25, (51, 0, [])), (26, (3, 0, [0])), (27, (1, 0, [1])), (28, (49, 0, [252, 189])), (31, (3, 0, [0])), (32, (40, 0, [39, 12, 24])), (35, (0, 0, [])), (36, (46, 0, [])), (37, (51, 0, []))])
/-- OxenHomeModel.goal()I -/
def zm_Mo_goal : zMeth := (193, [(0, (3, 0, [0])), (1, (40, 0, [32, 12, 22])), (4, (0, 7, [])), (6, (42, 0, [])), (7, (2, 0, [1])), (8, (3, 0, [0])), (9, (0, 1, [])), (10, (49, 0, [249, 190])), (13, (2, 0, [2])), (14, (1, 0, [2])), (15, (36, 0, [2, 16])), (18, (3, 0, [0])), (19, (1, 0, [1])), (20, (0, 1, [])), (21, (49, 0, [243, 145])), (24, (36, 0, [3, 21])), (27, (3, 0, [0])), (28, (1, 0, [1])), (29, (0, 0, [])), (30, (49, 0, [243, 145])), (33, (51, 0, [])), (34, (3, 0, [0])), (35, (1, 0, [2])), (36, (49, 0, [252, 189])), (39, (3, 0, [0])), (40, (40, 0, [39, 12, 24])), (43, (0, 0, [])), (44, (46, 0, [])), (45, (36, 0, [0, 34])), (48, (3, 0, [0])), (49, (1, 0, [1])), (50, (0, 1, [])), (51, (49, 0, [243, 145])), (54, (37, 0, [38])), (57, (3, 0, [0])), (58, (1, 0, [1])), (59, (0, 0, [])), (60, (49, 0, [243, 145])), (63, (51, 0, []))])
/-- OxenHomeModel.heeds(IIIIZ)Z -/
def zm_Mo_heeds : zMeth := (194, [(0, (3, 0, [0])), (1, (1, 0, [1])), (2, (49, 0, [255, 144])), (5, (36, 0, [0, 17])), (8, (3, 0, [0])), (9, (1, 0, [2])), (10, (49, 0, [79, 142])), (13, (36, 0, [0, 17])), (16, (1, 0, [3])), (17, (0, 0, [])), (18, (0, 9, [])), (20, (50, 0, [71, 139])), (23, (36, 0, [0, 17])), (26, (3, 0, [0])), (27, (1, 0, [4])), (29, (49, 0, [258, 143])), (32, (36, 0, [1, 19])), (35, (0, 0, [])), (36, (51, 0, [])), (37, (3, 0, [0])), (38, (1, 0, [1])), (39, (1, 0, [2])), (40, (1, 0, [3])), (41, (1, 0, [4])), (43, (1, 0, [5])), (45, (36, 0, [0, 28])), (48, (0, 1, [])), (49, (37, 0, [29])), (52, (0, 0, [])), (53, (3, 0, [0])), (54, (40, 0, [7, 12, 0])), (57, (0, 3, [])), (58, (42, 0, [])), (59, (49, 0, [261, 191])), (62, (3, 0, [0])), (63, (49, 0, [265, 192])), (66, (51, 0, []))])
/-- OxenHomeModel.workOf(IIII)I -/
def zm_Mo_workOf : zMeth := (195, [(0, (3, 0, [0])), (1, (1, 0, [1])), (2, (0, 2, [])), (3, (49, 0, [243, 145])), (6, (3, 0, [0])), (7, (1, 0, [2])), (8, (0, 2, [])), (9, (49, 0, [243, 145])), (12, (8, 0, [])), (13, (2, 0, [5])), (15, (3, 0, [0])), (16, (0, 4, [])), (17, (49, 0, [249, 190])), (20, (2, 0, [6])), (22, (1, 0, [6])), (24, (36, 0, [3, 18])), (27, (1, 0, [5])), (29, (51, 0, [])), (30, (3, 0, [0])), (31, (40, 0, [32, 12, 22])), (34, (0, 0, [])), (35, (1, 0, [4])), (37, (43, 0, [])), (38, (3, 0, [0])), (39, (40, 0, [32, 12, 22])), (42, (0, 8, [])), (44, (1, 0, [5])), (46, (43, 0, [])), (47, (3, 0, [0])), (48, (40, 0, [32, 12, 22])), (51, (0, 9, [])), (53, (3, 0, [0])), (54, (1, 0, [1])), (55, (0, 2, [])), (56, (49, 0, [243, 145])), (59, (3, 0, [0])), (60, (1, 0, [2])), (61, (0, 2, [])), (62, (49, 0, [243, 145])), (65, (35, 0, [3, 45])), (68, (3, 0, [0])), (69, (1, 0, [1])), (70, (0, 2, [])), (71, (49, 0, [243, 145])), (74, (37, 0, [49])), (77, (3, 0, [0])), (78, (1, 0, [2])), (79, (0, 2, [])), (80, (49, 0, [243, 145])), (83, (43, 0, [])), (84, (3, 0, [0])), (85, (40, 0, [32, 12, 22])), (88, (0, 10, [])), (90, (3, 0, [0])), (91, (40, 0, [7, 12, 0])), (94, (0, 25, [])), (96, (0, 4, [])), (97, (1, 0, [3])), (98, (10, 0, [])), (99, (8, 0, [])), (100, (0, 2, [])), (101, (8, 0, [])), (102, (42, 0, [])), (103, (43, 0, [])), (104, (3, 0, [0])), (105, (1, 0, [6])), (107, (49, 0, [252, 189])), (110, (3, 0, [0])), (111, (40, 0, [35, 12, 23])), (114, (0, 0, [])), (115, (44, 0, [])), (116, (0, 0, [])), (117, (0, 99, [])), (119, (50, 0, [268, 140])), (122, (51, 0, []))])
/-- OxenHomeModel.keep()V -/
def zm_Mo_keep : zMeth := (196, [(0, (3, 0, [0])), (1, (40, 0, [7, 12, 0])), (4, (0, 7, [])), (6, (42, 0, [])), (7, (0, 20, [])), (9, (35, 0, [1, 33])), (12, (0, 0, [])), (13, (2, 0, [1])), (14, (1, 0, [1])), (15, (0, 893, [])), (18, (35, 0, [3, 25])), (21, (3, 0, [0])), (22, (40, 0, [7, 12, 0])), (25, (0, 121, [])), (27, (1, 0, [1])), (28, (8, 0, [])), (29, (3, 0, [0])), (30, (40, 0, [7, 12, 0])), (33, (0, 168, [])), (36, (1, 0, [1])), (37, (8, 0, [])), (38, (42, 0, [])), (39, (43, 0, [])), (40, (7, 1, [1])), (43, (37, 0, [8])), (46, (3, 0, [0])), (47, (40, 0, [7, 12, 0])), (50, (0, 7, [])), (52, (33, 0, [])), (53, (42, 0, [])), (54, (0, 1, [])), (55, (9, 0, [])), (56, (43, 0, [])), (57, (0, 121, [])), (59, (0, 47, [])), (61, (3, 0, [0])), (62, (40, 0, [7, 12, 0])), (65, (0, 7, [])), (67, (42, 0, [])), (68, (10, 0, [])), (69, (8, 0, [])), (70, (2, 0, [1])), (71, (3, 0, [0])), (72, (40, 0, [7, 12, 0])), (75, (1, 0, [1])), (76, (3, 0, [0])), (77, (40, 0, [7, 12, 0])), (80, (0, 3, [])), (81, (42, 0, [])), (82, (43, 0, [])), (83, (3, 0, [0])), (84, (40, 0, [7, 12, 0])), (87, (1, 0, [1])), (88, (0, 1, [])), (89, (8, 0, [])), (90, (3, 0, [0])), (91, (40, 0, [7, 12, 0])), (94, (0, 1, [])), (95, (42, 0, [])), (96, (43, 0, [])), (97, (3, 0, [0])), (98, (40, 0, [7, 12, 0])), (101, (1, 0, [1])), (102, (0, 2, [])), (103, (8, 0, [])), (104, (3, 0, [0])), (105, (40, 0, [7, 12, 0])), (108, (0, 2, [])), (109, (42, 0, [])), (110, (43, 0, [])), (111, (0, 0, [])), (112, (2, 0, [2])), (113, (1, 0, [2])), (114, (0, 4, [])), (115, (35, 0, [3, 95])), (118, (3, 0, [0])), (119, (40, 0, [7, 12, 0])), (122, (1, 0, [1])), (123, (0, 3, [])), (124, (8, 0, [])), (125, (1, 0, [2])), (126, (8, 0, [])), (127, (3, 0, [0])), (128, (40, 0, [7, 12, 0])), (131, (0, 25, [])), (133, (0, 4, [])), (134, (1, 0, [2])), (135, (10, 0, [])), (136, (8, 0, [])), (137, (0, 3, [])), (138, (8, 0, [])), (139, (42, 0, [])), (140, (43, 0, [])), (141, (7, 1, [2])), (144, (37, 0, [72])), (147, (0, 0, [])), (148, (2, 0, [2])), (149, (1, 0, [2])), (150, (0, 8, [])), (152, (35, 0, [3, 143])), (155, (3, 0, [0])), (156, (40, 0, [7, 12, 0])), (159, (1, 0, [1])), (160, (0, 7, [])), (162, (8, 0, [])), (163, (0, 5, [])), (164, (1, 0, [2])), (165, (10, 0, [])), (166, (8, 0, [])), (167, (3, 0, [0])), (168, (1, 0, [2])), (169, (0, 0, [])), (170, (49, 0, [243, 145])), (173, (43, 0, [])), (174, (0, 1, [])), (175, (2, 0, [3])), (176, (1, 0, [3])), (177, (0, 5, [])), (178, (35, 0, [3, 141])), (181, (3, 0, [0])), (182, (40, 0, [7, 12, 0])), (185, (1, 0, [1])), (186, (0, 7, [])), (188, (8, 0, [])), (189, (0, 5, [])), (190, (1, 0, [2])), (191, (10, 0, [])), (192, (8, 0, [])), (193, (1, 0, [3])), (194, (8, 0, [])), (195, (3, 0, [0])), (196, (1, 0, [2])), (197, (0, 4, [])), (198, (1, 0, [3])), (199, (8, 0, [])), (200, (0, 1, [])), (201, (9, 0, [])), (202, (49, 0, [243, 145])), (205, (43, 0, [])), (206, (7, 1, [3])), (209, (37, 0, [116])), (212, (7, 1, [2])), (215, (37, 0, [97])), (218, (3, 0, [0])), (219, (40, 0, [7, 12, 0])), (222, (0, 7, [])), (224, (33, 0, [])), (225, (42, 0, [])), (226, (0, 1, [])), (227, (8, 0, [])), (228, (43, 0, [])), (229, (53, 0, []))])
/-- OxenHomeModel.undo()I -/
def zm_Mo_undo : zMeth := (197, [(0, (3, 0, [0])), (1, (40, 0, [7, 12, 0])), (4, (0, 7, [])), (6, (42, 0, [])), (7, (36, 0, [1, 7])), (10, (0, (-1), [])), (11, (51, 0, [])), (12, (3, 0, [0])), (13, (40, 0, [7, 12, 0])), (16, (0, 7, [])), (18, (33, 0, [])), (19, (42, 0, [])), (20, (0, 1, [])), (21, (9, 0, [])), (22, (43, 0, [])), (23, (0, 121, [])), (25, (0, 47, [])), (27, (3, 0, [0])), (28, (40, 0, [7, 12, 0])), (31, (0, 7, [])), (33, (42, 0, [])), (34, (10, 0, [])), (35, (8, 0, [])), (36, (2, 0, [1])), (37, (3, 0, [0])), (38, (40, 0, [7, 12, 0])), (41, (0, 3, [])), (42, (3, 0, [0])), (43, (40, 0, [7, 12, 0])), (46, (1, 0, [1])), (47, (42, 0, [])), (48, (43, 0, [])), (49, (0, 0, [])), (50, (2, 0, [2])), (51, (1, 0, [2])), (52, (3, 0, [0])), (53, (40, 0, [7, 12, 0])), (56, (1, 0, [1])), (57, (0, 1, [])), (58, (8, 0, [])), (59, (42, 0, [])), (60, (35, 0, [3, 62])), (63, (3, 0, [0])), (64, (40, 0, [7, 12, 0])), (67, (0, 25, [])), (69, (0, 4, [])), (70, (1, 0, [2])), (71, (10, 0, [])), (72, (8, 0, [])), (73, (0, 3, [])), (74, (8, 0, [])), (75, (3, 0, [0])), (76, (40, 0, [7, 12, 0])), (79, (1, 0, [1])), (80, (0, 3, [])), (81, (8, 0, [])), (82, (1, 0, [2])), (83, (8, 0, [])), (84, (42, 0, [])), (85, (43, 0, [])), (86, (7, 1, [2])), (89, (37, 0, [34])), (92, (0, 0, [])), (93, (2, 0, [2])), (94, (1, 0, [2])), (95, (3, 0, [0])), (96, (40, 0, [7, 12, 0])), (99, (1, 0, [1])), (100, (0, 2, [])), (101, (8, 0, [])), (102, (42, 0, [])), (103, (35, 0, [3, 115])), (106, (3, 0, [0])), (107, (1, 0, [2])), (108, (0, 0, [])), (109, (3, 0, [0])), (110, (40, 0, [7, 12, 0])), (113, (1, 0, [1])), (114, (0, 7, [])), (116, (8, 0, [])), (117, (0, 5, [])), (118, (1, 0, [2])), (119, (10, 0, [])), (120, (8, 0, [])), (121, (42, 0, [])), (122, (49, 0, [83, 146])), (125, (0, 1, [])), (126, (2, 0, [3])), (127, (1, 0, [3])), (128, (0, 5, [])), (129, (35, 0, [3, 113])), (132, (3, 0, [0])), (133, (1, 0, [2])), (134, (0, 4, [])), (135, (1, 0, [3])), (136, (8, 0, [])), (137, (0, 1, [])), (138, (9, 0, [])), (139, (3, 0, [0])), (140, (40, 0, [7, 12, 0])), (143, (1, 0, [1])), (144, (0, 7, [])), (146, (8, 0, [])), (147, (0, 5, [])), (148, (1, 0, [2])), (149, (10, 0, [])), (150, (8, 0, [])), (151, (1, 0, [3])), (152, (8, 0, [])), (153, (42, 0, [])), (154, (49, 0, [83, 146])), (157, (7, 1, [3])), (160, (37, 0, [88])), (163, (7, 1, [2])), (166, (37, 0, [64])), (169, (3, 0, [0])), (170, (40, 0, [7, 12, 0])), (173, (0, 7, [])), (175, (42, 0, [])), (176, (51, 0, []))])
/-- OxenHomeModel.canCome(II)Z -/
def zm_Mo_canCome : zMeth := (198, [(0, (3, 0, [0])), (1, (1, 0, [1])), (2, (49, 0, [255, 144])), (5, (36, 0, [0, 25])), (8, (3, 0, [0])), (9, (1, 0, [1])), (10, (0, 6, [])), (12, (49, 0, [243, 145])), (15, (0, 10, [])), (17, (35, 0, [2, 23])), (20, (3, 0, [0])), (21, (1, 0, [1])), (22, (0, 6, [])), (24, (49, 0, [243, 145])), (27, (0, 10, [])), (29, (1, 0, [2])), (30, (8, 0, [])), (31, (35, 0, [1, 25])), (34, (3, 0, [0])), (35, (1, 0, [1])), (36, (0, 7, [])), (38, (49, 0, [243, 145])), (41, (36, 0, [3, 25])), (44, (0, 1, [])), (45, (37, 0, [26])), (48, (0, 0, [])), (49, (51, 0, []))])
/-- OxenHomeModel.yoke(III)Z -/
def zm_Mo_yoke : zMeth := (199, [(0, (3, 0, [0])), (1, (1, 0, [3])), (2, (49, 0, [258, 143])), (5, (36, 0, [0, 17])), (8, (1, 0, [1])), (9, (1, 0, [2])), (10, (35, 0, [0, 17])), (13, (3, 0, [0])), (14, (1, 0, [1])), (15, (1, 0, [3])), (16, (49, 0, [272, 198])), (19, (36, 0, [0, 17])), (22, (3, 0, [0])), (23, (1, 0, [2])), (24, (1, 0, [3])), (25, (49, 0, [272, 198])), (28, (36, 0, [1, 19])), (31, (0, 0, [])), (32, (51, 0, [])), (33, (3, 0, [0])), (34, (49, 0, [276, 196])), (37, (3, 0, [0])), (38, (1, 0, [1])), (39, (0, 6, [])), (41, (0, 10, [])), (43, (1, 0, [3])), (44, (8, 0, [])), (45, (49, 0, [83, 146])), (48, (3, 0, [0])), (49, (1, 0, [2])), (50, (0, 6, [])), (52, (0, 10, [])), (54, (1, 0, [3])), (55, (8, 0, [])), (56, (49, 0, [83, 146])), (59, (3, 0, [0])), (60, (1, 0, [1])), (61, (0, 7, [])), (63, (1, 0, [2])), (64, (49, 0, [83, 146])), (67, (3, 0, [0])), (68, (1, 0, [2])), (69, (0, 7, [])), (71, (1, 0, [1])), (72, (49, 0, [83, 146])), (75, (0, 1, [])), (76, (51, 0, []))])
/-- OxenHomeModel.part(I)V -/
def zm_Mo_part : zMeth := (200, [(0, (3, 0, [0])), (1, (1, 0, [1])), (2, (0, 7, [])), (4, (49, 0, [243, 145])), (7, (36, 0, [3, 6])), (10, (53, 0, [])), (11, (3, 0, [0])), (12, (3, 0, [0])), (13, (1, 0, [1])), (14, (0, 7, [])), (16, (49, 0, [243, 145])), (19, (0, 7, [])), (21, (0, (-1), [])), (22, (49, 0, [83, 146])), (25, (3, 0, [0])), (26, (1, 0, [1])), (27, (0, 7, [])), (29, (0, (-1), [])), (30, (49, 0, [83, 146])), (33, (53, 0, []))])
/-- OxenHomeModel.loose(I)Z -/
def zm_Mo_loose : zMeth := (201, [(0, (3, 0, [0])), (1, (1, 0, [1])), (2, (49, 0, [255, 144])), (5, (36, 0, [0, 9])), (8, (3, 0, [0])), (9, (1, 0, [1])), (10, (0, 7, [])), (12, (49, 0, [243, 145])), (15, (36, 0, [3, 11])), (18, (0, 0, [])), (19, (51, 0, [])), (20, (3, 0, [0])), (21, (49, 0, [276, 196])), (24, (3, 0, [0])), (25, (1, 0, [1])), (26, (49, 0, [279, 200])), (29, (0, 1, [])), (30, (51, 0, []))])
/-- OxenHomeModel.drive(II)Z -/
def zm_Mo_drive : zMeth := (202, [(0, (3, 0, [0])), (1, (1, 0, [1])), (2, (49, 0, [255, 144])), (5, (36, 0, [0, 13])), (8, (3, 0, [0])), (9, (1, 0, [2])), (10, (49, 0, [79, 142])), (13, (36, 0, [0, 13])), (16, (3, 0, [0])), (17, (1, 0, [1])), (18, (0, 7, [])), (20, (49, 0, [243, 145])), (23, (36, 0, [2, 15])), (26, (0, 0, [])), (27, (51, 0, [])), (28, (3, 0, [0])), (29, (49, 0, [276, 196])), (32, (3, 0, [0])), (33, (1, 0, [1])), (34, (0, 6, [])), (36, (1, 0, [2])), (37, (49, 0, [83, 146])), (40, (0, 1, [])), (41, (51, 0, []))])
/-- OxenHomeModel.sell(II)Z -/
def zm_Mo_sell : zMeth := (203, [(0, (3, 0, [0])), (1, (1, 0, [1])), (2, (49, 0, [255, 144])), (5, (36, 0, [0, 14])), (8, (3, 0, [0])), (9, (1, 0, [2])), (10, (49, 0, [79, 142])), (13, (36, 0, [0, 14])), (16, (3, 0, [0])), (17, (1, 0, [1])), (18, (0, 4, [])), (19, (49, 0, [243, 145])), (22, (1, 0, [2])), (23, (35, 0, [1, 16])), (26, (0, 0, [])), (27, (51, 0, [])), (28, (3, 0, [0])), (29, (49, 0, [276, 196])), (32, (3, 0, [0])), (33, (1, 0, [1])), (34, (0, 4, [])), (35, (1, 0, [2])), (36, (49, 0, [83, 146])), (39, (3, 0, [0])), (40, (1, 0, [1])), (41, (0, 5, [])), (42, (0, 0, [])), (43, (49, 0, [83, 146])), (46, (0, 1, [])), (47, (51, 0, []))])
/-- OxenHomeModel.whistle(I)I -/
def zm_Mo_whistle : zMeth := (204, [(0, (3, 0, [0])), (1, (1, 0, [1])), (2, (49, 0, [79, 142])), (5, (36, 0, [1, 6])), (8, (0, (-1), [])), (9, (51, 0, [])), (10, (3, 0, [0])), (11, (49, 0, [276, 196])), (14, (0, 0, [])), (15, (2, 0, [2])), (16, (0, 0, [])), (17, (2, 0, [3])), (18, (1, 0, [3])), (19, (3, 0, [0])), (20, (40, 0, [7, 12, 0])), (23, (0, 2, [])), (24, (42, 0, [])), (25, (35, 0, [3, 73])), (28, (3, 0, [0])), (29, (40, 0, [43, 12, 25])), (32, (1, 0, [3])), (33, (0, (-1), [])), (34, (43, 0, [])), (35, (3, 0, [0])), (36, (1, 0, [3])), (37, (0, 6, [])), (39, (49, 0, [243, 145])), (42, (0, 10, [])), (44, (35, 0, [3, 30])), (47, (37, 0, [71])), (50, (3, 0, [0])), (51, (1, 0, [3])), (52, (1, 0, [1])), (53, (3, 0, [0])), (54, (1, 0, [1])), (55, (49, 0, [282, 148])), (58, (3, 0, [0])), (59, (1, 0, [3])), (60, (0, 6, [])), (62, (49, 0, [243, 145])), (65, (0, 10, [])), (67, (9, 0, [])), (68, (3, 0, [0])), (69, (1, 0, [3])), (70, (0, 7, [])), (72, (49, 0, [243, 145])), (75, (36, 0, [2, 49])), (78, (0, 1, [])), (79, (37, 0, [50])), (82, (0, 0, [])), (83, (3, 0, [0])), (84, (40, 0, [7, 12, 0])), (87, (0, 3, [])), (88, (42, 0, [])), (89, (49, 0, [261, 191])), (92, (3, 0, [0])), (93, (49, 0, [265, 192])), (96, (36, 0, [1, 59])), (99, (37, 0, [71])), (102, (3, 0, [0])), (103, (40, 0, [43, 12, 25])), (106, (1, 0, [3])), (107, (3, 0, [0])), (108, (49, 0, [285, 193])), (111, (43, 0, [])), (112, (1, 0, [2])), (113, (0, 1, [])), (114, (1, 0, [3])), (115, (17, 0, [])), (116, (15, 0, [])), (117, (2, 0, [2])), (118, (7, 1, [3])), (121, (37, 0, [12])), (124, (0, 0, [])), (125, (2, 0, [3])), (126, (1, 0, [3])), (127, (3, 0, [0])), (128, (40, 0, [7, 12, 0])), (131, (0, 2, [])), (132, (42, 0, [])), (133, (35, 0, [3, 100])), (136, (3, 0, [0])), (137, (40, 0, [43, 12, 25])), (140, (1, 0, [3])), (141, (42, 0, [])), (142, (36, 0, [3, 87])), (145, (37, 0, [98])), (148, (3, 0, [0])), (149, (1, 0, [3])), (150, (49, 0, [279, 200])), (153, (3, 0, [0])), (154, (1, 0, [3])), (155, (0, 6, [])), (157, (3, 0, [0])), (158, (40, 0, [43, 12, 25])), (161, (1, 0, [3])), (162, (42, 0, [])), (163, (49, 0, [83, 146])), (166, (7, 1, [3])), (169, (37, 0, [75])), (172, (1, 0, [2])), (173, (51, 0, []))])
/-- OxenHomeModel.plough()I -/
def zm_Mo_plough : zMeth := (205, [(0, (3, 0, [0])), (1, (49, 0, [276, 196])), (4, (0, 0, [])), (5, (2, 0, [1])), (6, (0, 0, [])), (7, (2, 0, [2])), (8, (1, 0, [2])), (9, (3, 0, [0])), (10, (40, 0, [7, 12, 0])), (13, (0, 2, [])), (14, (42, 0, [])), (15, (35, 0, [3, 72])), (18, (3, 0, [0])), (19, (1, 0, [2])), (20, (0, 7, [])), (22, (49, 0, [243, 145])), (25, (1, 0, [2])), (26, (35, 0, [3, 19])), (29, (37, 0, [70])), (32, (3, 0, [0])), (33, (1, 0, [2])), (34, (0, 6, [])), (36, (49, 0, [243, 145])), (39, (0, 10, [])), (41, (9, 0, [])), (42, (2, 0, [3])), (43, (3, 0, [0])), (44, (1, 0, [2])), (45, (3, 0, [0])), (46, (1, 0, [2])), (47, (0, 7, [])), (49, (49, 0, [243, 145])), (52, (1, 0, [3])), (53, (3, 0, [0])), (54, (40, 0, [7, 12, 0])), (57, (0, 3, [])), (58, (42, 0, [])), (59, (49, 0, [288, 195])), (62, (2, 0, [4])), (64, (0, 25, [])), (66, (0, 4, [])), (67, (1, 0, [3])), (68, (10, 0, [])), (69, (8, 0, [])), (70, (0, 3, [])), (71, (8, 0, [])), (72, (2, 0, [5])), (74, (1, 0, [4])), (76, (3, 0, [0])), (77, (40, 0, [7, 12, 0])), (80, (1, 0, [5])), (82, (42, 0, [])), (83, (35, 0, [5, 58])), (86, (3, 0, [0])), (87, (40, 0, [7, 12, 0])), (90, (1, 0, [5])), (92, (42, 0, [])), (93, (2, 0, [4])), (95, (3, 0, [0])), (96, (40, 0, [7, 12, 0])), (99, (1, 0, [5])), (101, (33, 0, [])), (102, (42, 0, [])), (103, (1, 0, [4])), (105, (9, 0, [])), (106, (43, 0, [])), (107, (1, 0, [1])), (108, (1, 0, [4])), (110, (8, 0, [])), (111, (2, 0, [1])), (112, (7, 1, [2])), (115, (37, 0, [6])), (118, (3, 0, [0])), (119, (40, 0, [7, 12, 0])), (122, (0, 3, [])), (123, (3, 0, [0])), (124, (40, 0, [7, 12, 0])), (127, (0, 3, [])), (128, (42, 0, [])), (129, (0, 1, [])), (130, (8, 0, [])), (131, (0, 24, [])), (133, (12, 0, [])), (134, (43, 0, [])), (135, (1, 0, [1])), (136, (51, 0, []))])
/-- OxenHomeModel.night()I -/
def zm_Mo_night : zMeth := (206, [(0, (3, 0, [0])), (1, (49, 0, [276, 196])), (4, (0, 0, [])), (5, (2, 0, [1])), (6, (0, 0, [])), (7, (2, 0, [2])), (8, (1, 0, [2])), (9, (3, 0, [0])), (10, (40, 0, [7, 12, 0])), (13, (0, 2, [])), (14, (42, 0, [])), (15, (35, 0, [3, 69])), (18, (3, 0, [0])), (19, (1, 0, [2])), (20, (0, 6, [])), (22, (49, 0, [243, 145])), (25, (3, 0, [0])), (26, (1, 0, [2])), (27, (0, 4, [])), (28, (49, 0, [243, 145])), (31, (35, 0, [1, 67])), (34, (3, 0, [0])), (35, (1, 0, [2])), (36, (0, 4, [])), (37, (49, 0, [243, 145])), (40, (3, 0, [0])), (41, (1, 0, [2])), (42, (0, 0, [])), (43, (49, 0, [243, 145])), (46, (35, 0, [1, 31])), (49, (37, 0, [67])), (52, (3, 0, [0])), (53, (1, 0, [2])), (54, (0, 5, [])), (55, (3, 0, [0])), (56, (1, 0, [2])), (57, (0, 5, [])), (58, (49, 0, [243, 145])), (61, (0, 1, [])), (62, (8, 0, [])), (63, (49, 0, [83, 146])), (66, (3, 0, [0])), (67, (1, 0, [2])), (68, (0, 5, [])), (69, (49, 0, [243, 145])), (72, (0, 3, [])), (73, (35, 0, [3, 48])), (76, (37, 0, [67])), (79, (3, 0, [0])), (80, (1, 0, [2])), (81, (0, 0, [])), (82, (3, 0, [0])), (83, (1, 0, [2])), (84, (0, 4, [])), (85, (49, 0, [243, 145])), (88, (49, 0, [83, 146])), (91, (3, 0, [0])), (92, (1, 0, [2])), (93, (0, 5, [])), (94, (0, 0, [])), (95, (49, 0, [83, 146])), (98, (1, 0, [1])), (99, (0, 1, [])), (100, (1, 0, [2])), (101, (17, 0, [])), (102, (15, 0, [])), (103, (2, 0, [1])), (104, (7, 1, [2])), (107, (37, 0, [6])), (110, (1, 0, [1])), (111, (51, 0, []))])
/-- OxenHomeModel.of(II)I -/
def zm_Mo_of : zMeth := (207, [(0, (3, 0, [0])), (1, (1, 0, [1])), (2, (49, 0, [255, 144])), (5, (36, 0, [0, 14])), (8, (1, 0, [2])), (9, (0, 0, [])), (10, (0, 7, [])), (12, (50, 0, [71, 139])), (15, (36, 0, [0, 14])), (18, (3, 0, [0])), (19, (1, 0, [1])), (20, (1, 0, [2])), (21, (49, 0, [243, 145])), (24, (37, 0, [15])), (27, (0, (-2), [])), (29, (51, 0, []))])
/-- OxenHomeModel.call(II)I -/
def zm_Mo_call : zMeth := (208, [(0, (1, 0, [1])), (1, (0, 0, [])), (2, (0, 23, [])), (4, (50, 0, [71, 139])), (7, (36, 0, [0, 15])), (10, (3, 0, [0])), (11, (1, 0, [2])), (12, (49, 0, [79, 142])), (15, (36, 0, [0, 15])), (18, (3, 0, [0])), (19, (40, 0, [7, 12, 0])), (22, (0, 6, [])), (24, (42, 0, [])), (25, (0, 8, [])), (27, (35, 0, [1, 17])), (30, (0, (-1), [])), (31, (51, 0, [])), (32, (3, 0, [0])), (33, (40, 0, [7, 12, 0])), (36, (0, 105, [])), (38, (0, 2, [])), (39, (3, 0, [0])), (40, (40, 0, [7, 12, 0])), (43, (0, 6, [])), (45, (42, 0, [])), (46, (10, 0, [])), (47, (8, 0, [])), (48, (1, 0, [1])), (49, (43, 0, [])), (50, (3, 0, [0])), (51, (40, 0, [7, 12, 0])), (54, (0, 105, [])), (56, (0, 2, [])), (57, (3, 0, [0])), (58, (40, 0, [7, 12, 0])), (61, (0, 6, [])), (63, (42, 0, [])), (64, (10, 0, [])), (65, (8, 0, [])), (66, (0, 1, [])), (67, (8, 0, [])), (68, (1, 0, [2])), (69, (43, 0, [])), (70, (3, 0, [0])), (71, (40, 0, [7, 12, 0])), (74, (0, 6, [])), (76, (33, 0, [])), (77, (42, 0, [])), (78, (0, 1, [])), (79, (8, 0, [])), (80, (43, 0, [])), (81, (3, 0, [0])), (82, (40, 0, [7, 12, 0])), (85, (0, 6, [])), (87, (42, 0, [])), (88, (51, 0, []))])
/-- OxenHomeModel.hush()I -/
def zm_Mo_hush : zMeth := (209, [(0, (3, 0, [0])), (1, (40, 0, [7, 12, 0])), (4, (0, 6, [])), (6, (42, 0, [])), (7, (2, 0, [1])), (8, (3, 0, [0])), (9, (40, 0, [7, 12, 0])), (12, (0, 6, [])), (14, (0, 0, [])), (15, (43, 0, [])), (16, (1, 0, [1])), (17, (51, 0, []))])
/-- OxenHomeModel.isCalled(III)Z -/
def zm_Mo_isCalled : zMeth := (210, [(0, (0, 0, [])), (1, (2, 0, [4])), (3, (1, 0, [4])), (5, (3, 0, [0])), (6, (40, 0, [7, 12, 0])), (9, (0, 6, [])), (11, (42, 0, [])), (12, (35, 0, [3, 47])), (15, (3, 0, [0])), (16, (40, 0, [7, 12, 0])), (19, (0, 105, [])), (21, (0, 2, [])), (22, (1, 0, [4])), (24, (10, 0, [])), (25, (8, 0, [])), (26, (42, 0, [])), (27, (1, 0, [3])), (28, (35, 0, [0, 19])), (31, (37, 0, [45])), (34, (3, 0, [0])), (35, (40, 0, [7, 12, 0])), (38, (0, 105, [])), (40, (0, 2, [])), (41, (1, 0, [4])), (43, (10, 0, [])), (44, (8, 0, [])), (45, (0, 1, [])), (46, (8, 0, [])), (47, (42, 0, [])), (48, (2, 0, [5])), (50, (3, 0, [0])), (51, (1, 0, [1])), (52, (1, 0, [5])), (54, (3, 0, [0])), (55, (1, 0, [5])), (57, (49, 0, [282, 148])), (60, (1, 0, [2])), (61, (0, 1, [])), (62, (1, 0, [3])), (63, (49, 0, [261, 191])), (66, (3, 0, [0])), (67, (49, 0, [265, 192])), (70, (36, 0, [0, 45])), (73, (0, 1, [])), (74, (51, 0, [])), (75, (7, 1, [4])), (78, (37, 0, [2])), (81, (0, 0, [])), (82, (51, 0, []))])
/-- OxenHomeModel.stayOf(IIII)I -/
def zm_Mo_stayOf : zMeth := (211, [(0, (0, 0, [])), (1, (2, 0, [5])), (3, (1, 0, [5])), (5, (1, 0, [4])), (7, (35, 0, [3, 30])), (10, (3, 0, [0])), (11, (40, 0, [7, 12, 0])), (14, (0, 3, [])), (15, (42, 0, [])), (16, (1, 0, [5])), (18, (8, 0, [])), (19, (0, 24, [])), (21, (12, 0, [])), (22, (2, 0, [6])), (24, (3, 0, [0])), (25, (1, 0, [1])), (26, (1, 0, [3])), (27, (1, 0, [6])), (29, (49, 0, [292, 210])), (32, (36, 0, [1, 26])), (35, (3, 0, [0])), (36, (1, 0, [2])), (37, (1, 0, [3])), (38, (1, 0, [6])), (40, (49, 0, [292, 210])), (43, (36, 0, [0, 28])), (46, (1, 0, [5])), (48, (51, 0, [])), (49, (7, 1, [5])), (52, (37, 0, [2])), (55, (1, 0, [4])), (57, (51, 0, []))])
/-- OxenHomeModel.doneOf(IIII)I -/
def zm_Mo_doneOf : zMeth := (212, [(0, (0, 0, [])), (1, (2, 0, [5])), (3, (3, 0, [0])), (4, (1, 0, [1])), (5, (1, 0, [2])), (6, (1, 0, [3])), (7, (1, 0, [4])), (9, (49, 0, [295, 211])), (12, (2, 0, [6])), (14, (0, 0, [])), (15, (2, 0, [7])), (17, (1, 0, [7])), (19, (1, 0, [6])), (21, (35, 0, [3, 32])), (24, (1, 0, [5])), (26, (3, 0, [0])), (27, (1, 0, [1])), (28, (1, 0, [2])), (29, (1, 0, [3])), (30, (3, 0, [0])), (31, (40, 0, [7, 12, 0])), (34, (0, 3, [])), (35, (42, 0, [])), (36, (1, 0, [7])), (38, (8, 0, [])), (39, (0, 24, [])), (41, (12, 0, [])), (42, (49, 0, [288, 195])), (45, (8, 0, [])), (46, (2, 0, [5])), (48, (7, 1, [7])), (51, (37, 0, [11])), (54, (3, 0, [0])), (55, (40, 0, [7, 12, 0])), (58, (0, 25, [])), (60, (0, 4, [])), (61, (1, 0, [3])), (62, (10, 0, [])), (63, (8, 0, [])), (64, (0, 3, [])), (65, (8, 0, [])), (66, (42, 0, [])), (67, (2, 0, [7])), (69, (1, 0, [5])), (71, (1, 0, [7])), (73, (35, 0, [5, 48])), (76, (1, 0, [7])), (78, (37, 0, [49])), (81, (1, 0, [5])), (83, (51, 0, []))])
/-- OxenHomeModel.stay(IIIIZ)I -/
def zm_Mo_stay : zMeth := (213, [(0, (3, 0, [0])), (1, (1, 0, [1])), (2, (49, 0, [255, 144])), (5, (36, 0, [0, 20])), (8, (3, 0, [0])), (9, (1, 0, [2])), (10, (49, 0, [255, 144])), (13, (36, 0, [0, 20])), (16, (1, 0, [1])), (17, (1, 0, [2])), (18, (35, 0, [0, 20])), (21, (3, 0, [0])), (22, (1, 0, [3])), (23, (49, 0, [258, 143])), (26, (36, 0, [0, 20])), (29, (1, 0, [4])), (31, (0, 1, [])), (32, (0, 24, [])), (34, (50, 0, [71, 139])), (37, (36, 0, [1, 22])), (40, (0, (-1), [])), (41, (51, 0, [])), (42, (1, 0, [5])), (44, (36, 0, [0, 31])), (47, (3, 0, [0])), (48, (1, 0, [1])), (49, (1, 0, [2])), (50, (1, 0, [3])), (51, (1, 0, [4])), (53, (49, 0, [298, 212])), (56, (37, 0, [37])), (59, (3, 0, [0])), (60, (1, 0, [1])), (61, (1, 0, [2])), (62, (1, 0, [3])), (63, (1, 0, [4])), (65, (49, 0, [295, 211])), (68, (51, 0, []))])
/-- OxenHomeModel.by(III)I -/
def zm_Mo_by_ : zMeth := (214, [(0, (1, 0, [3])), (1, (36, 0, [3, 13])), (4, (3, 0, [0])), (5, (40, 0, [49, 12, 27])), (8, (0, 256, [])), (11, (1, 0, [1])), (12, (0, 1, [])), (13, (8, 0, [])), (14, (10, 0, [])), (15, (1, 0, [2])), (16, (8, 0, [])), (17, (42, 0, [])), (18, (51, 0, [])), (19, (3, 0, [0])), (20, (40, 0, [46, 12, 26])), (23, (0, 80, [])), (25, (1, 0, [1])), (26, (10, 0, [])), (27, (1, 0, [3])), (28, (8, 0, [])), (29, (42, 0, [])), (30, (3, 0, [0])), (31, (40, 0, [49, 12, 27])), (34, (0, 256, [])), (37, (1, 0, [1])), (38, (0, 1, [])), (39, (8, 0, [])), (40, (10, 0, [])), (41, (1, 0, [2])), (42, (0, 1, [])), (43, (1, 0, [3])), (44, (0, 10, [])), (46, (11, 0, [])), (47, (17, 0, [])), (48, (15, 0, [])), (49, (0, 1, [])), (50, (1, 0, [3])), (51, (0, 10, [])), (53, (12, 0, [])), (54, (17, 0, [])), (55, (15, 0, [])), (56, (8, 0, [])), (57, (42, 0, [])), (58, (8, 0, [])), (59, (51, 0, []))])
/-- OxenHomeModel.isPair(II)Z -/
def zm_Mo_isPair : zMeth := (215, [(0, (1, 0, [1])), (1, (36, 0, [2, 29])), (4, (1, 0, [1])), (5, (0, 10, [])), (7, (11, 0, [])), (8, (1, 0, [1])), (9, (0, 10, [])), (11, (12, 0, [])), (12, (35, 0, [3, 31])), (15, (1, 0, [1])), (16, (0, 10, [])), (18, (12, 0, [])), (19, (3, 0, [0])), (20, (40, 0, [7, 12, 0])), (23, (0, 2, [])), (24, (42, 0, [])), (25, (35, 0, [3, 31])), (28, (1, 0, [2])), (29, (1, 0, [1])), (30, (0, 10, [])), (32, (11, 0, [])), (33, (50, 0, [301, 141])), (36, (36, 0, [1, 31])), (39, (1, 0, [2])), (40, (1, 0, [1])), (41, (0, 10, [])), (43, (12, 0, [])), (44, (50, 0, [301, 141])), (47, (36, 0, [1, 31])), (50, (0, 1, [])), (51, (37, 0, [32])), (54, (0, 0, [])), (55, (51, 0, []))])
/-- OxenHomeModel.plan(II)I -/
def zm_Mo_plan : zMeth := (216, [(0, (1, 0, [1])), (1, (0, 1, [])), (2, (0, 24, [])), (4, (50, 0, [71, 139])), (7, (36, 0, [0, 12])), (10, (1, 0, [2])), (11, (0, (-1), [])), (12, (35, 0, [0, 14])), (15, (3, 0, [0])), (16, (1, 0, [2])), (17, (49, 0, [258, 143])), (20, (36, 0, [1, 14])), (23, (0, (-2), [])), (25, (51, 0, [])), (26, (0, 0, [])), (27, (2, 0, [3])), (28, (1, 0, [3])), (29, (3, 0, [0])), (30, (40, 0, [7, 12, 0])), (33, (0, 1, [])), (34, (42, 0, [])), (35, (35, 0, [3, 56])), (38, (0, 0, [])), (39, (2, 0, [4])), (41, (1, 0, [4])), (43, (0, 80, [])), (45, (35, 0, [3, 54])), (48, (3, 0, [0])), (49, (40, 0, [46, 12, 26])), (52, (0, 80, [])), (54, (1, 0, [3])), (55, (10, 0, [])), (56, (1, 0, [4])), (58, (8, 0, [])), (59, (3, 0, [0])), (60, (1, 0, [4])), (62, (0, 0, [])), (63, (49, 0, [304, 215])), (66, (36, 0, [0, 50])), (69, (3, 0, [0])), (70, (1, 0, [4])), (72, (0, 10, [])), (74, (11, 0, [])), (75, (1, 0, [4])), (77, (0, 10, [])), (79, (12, 0, [])), (80, (1, 0, [3])), (81, (1, 0, [1])), (82, (49, 0, [298, 212])), (85, (37, 0, [51])), (88, (0, 0, [])), (89, (43, 0, [])), (90, (7, 1, [4])), (93, (37, 0, [24])), (96, (7, 1, [3])), (99, (37, 0, [16])), (102, (0, 0, [])), (103, (2, 0, [3])), (104, (1, 0, [3])), (105, (0, 256, [])), (108, (35, 0, [3, 75])), (111, (3, 0, [0])), (112, (40, 0, [49, 12, 27])), (115, (0, 256, [])), (118, (3, 0, [0])), (119, (40, 0, [7, 12, 0])), (122, (0, 1, [])), (123, (42, 0, [])), (124, (10, 0, [])), (125, (1, 0, [3])), (126, (8, 0, [])), (127, (0, 0, [])), (128, (43, 0, [])), (129, (7, 1, [3])), (132, (37, 0, [58])), (135, (3, 0, [0])), (136, (40, 0, [7, 12, 0])), (139, (0, 1, [])), (140, (42, 0, [])), (141, (0, 1, [])), (142, (9, 0, [])), (143, (2, 0, [3])), (144, (1, 0, [3])), (145, (36, 0, [2, 133])), (148, (0, 0, [])), (149, (2, 0, [4])), (151, (1, 0, [4])), (153, (0, 256, [])), (156, (35, 0, [3, 131])), (159, (3, 0, [0])), (160, (1, 0, [3])), (161, (1, 0, [4])), (163, (0, (-1), [])), (164, (49, 0, [307, 214])), (167, (2, 0, [5])), (169, (0, 0, [])), (170, (2, 0, [6])), (172, (1, 0, [6])), (174, (0, 80, [])), (176, (35, 0, [3, 120])), (179, (3, 0, [0])), (180, (1, 0, [6])), (182, (1, 0, [4])), (184, (49, 0, [304, 215])), (187, (36, 0, [0, 118])), (190, (3, 0, [0])), (191, (1, 0, [3])), (192, (1, 0, [4])), (194, (1, 0, [6])), (196, (49, 0, [307, 214])), (199, (1, 0, [5])), (201, (35, 0, [5, 118])), (204, (3, 0, [0])), (205, (1, 0, [3])), (206, (1, 0, [4])), (208, (1, 0, [6])), (210, (49, 0, [307, 214])), (213, (2, 0, [5])), (215, (7, 1, [6])), (218, (37, 0, [97])), (221, (3, 0, [0])), (222, (40, 0, [49, 12, 27])), (225, (0, 256, [])), (228, (1, 0, [3])), (229, (10, 0, [])), (230, (1, 0, [4])), (232, (8, 0, [])), (233, (1, 0, [5])), (235, (43, 0, [])), (236, (7, 1, [4])), (239, (37, 0, [86])), (242, (7, (-1), [3])), (245, (37, 0, [82])), (248, (1, 0, [2])), (249, (0, (-1), [])), (250, (35, 0, [1, 141])), (253, (3, 0, [0])), (254, (40, 0, [49, 12, 27])), (257, (0, 0, [])), (258, (42, 0, [])), (259, (51, 0, [])), (260, (0, 0, [])), (261, (2, 0, [3])), (262, (0, (-1), [])), (263, (2, 0, [4])), (265, (0, 0, [])), (266, (2, 0, [5])), (268, (1, 0, [5])), (270, (1, 0, [2])), (271, (35, 0, [4, 191])), (274, (0, (-1), [])), (275, (2, 0, [4])), (277, (3, 0, [0])), (278, (1, 0, [4])), (280, (1, 0, [3])), (281, (49, 0, [304, 215])), (284, (36, 0, [0, 171])), (287, (3, 0, [0])), (288, (1, 0, [5])), (290, (1, 0, [3])), (291, (1, 0, [4])), (293, (49, 0, [307, 214])), (296, (3, 0, [0])), (297, (40, 0, [49, 12, 27])), (300, (0, 256, [])), (303, (1, 0, [5])), (305, (10, 0, [])), (306, (1, 0, [3])), (307, (8, 0, [])), (308, (42, 0, [])), (309, (35, 0, [0, 173])), (312, (7, 1, [4])), (315, (37, 0, [152])), (318, (1, 0, [4])), (320, (36, 0, [2, 189])), (323, (1, 0, [3])), (324, (0, 1, [])), (325, (1, 0, [4])), (327, (0, 10, [])), (329, (11, 0, [])), (330, (17, 0, [])), (331, (0, 1, [])), (332, (1, 0, [4])), (334, (0, 10, [])), (336, (12, 0, [])), (337, (17, 0, [])), (338, (15, 0, [])), (339, (15, 0, [])), (340, (2, 0, [3])), (341, (7, 1, [5])), (344, (37, 0, [147])), (347, (1, 0, [4])), (349, (51, 0, []))])
/-- OxenHomeModel.longest(II)I -/
def zm_Mo_longest : zMeth := (217, [(0, (3, 0, [0])), (1, (1, 0, [1])), (2, (49, 0, [258, 143])), (5, (36, 0, [0, 9])), (8, (1, 0, [2])), (9, (0, 1, [])), (10, (0, 24, [])), (12, (50, 0, [71, 139])), (15, (36, 0, [1, 11])), (18, (0, (-1), [])), (19, (51, 0, [])), (20, (0, (-1), [])), (21, (2, 0, [3])), (22, (0, (-1), [])), (23, (2, 0, [4])), (25, (0, 0, [])), (26, (2, 0, [5])), (28, (1, 0, [5])), (30, (0, 80, [])), (32, (35, 0, [3, 47])), (35, (3, 0, [0])), (36, (1, 0, [5])), (38, (0, 0, [])), (39, (49, 0, [304, 215])), (42, (36, 0, [1, 26])), (45, (37, 0, [45])), (48, (3, 0, [0])), (49, (1, 0, [5])), (51, (0, 10, [])), (53, (11, 0, [])), (54, (1, 0, [5])), (56, (0, 10, [])), (58, (12, 0, [])), (59, (1, 0, [1])), (60, (1, 0, [2])), (61, (49, 0, [295, 211])), (64, (2, 0, [6])), (66, (1, 0, [6])), (68, (1, 0, [4])), (70, (35, 0, [4, 41])), (73, (37, 0, [45])), (76, (1, 0, [5])), (78, (2, 0, [3])), (79, (1, 0, [6])), (81, (2, 0, [4])), (83, (7, 1, [5])), (86, (37, 0, [17])), (89, (1, 0, [3])), (90, (51, 0, []))])
/-- OxenHomeModel.callsOf(III)I -/
def zm_Mo_callsOf : zMeth := (218, [(0, (3, 0, [0])), (1, (0, 3, [])), (2, (49, 0, [249, 190])), (5, (2, 0, [4])), (7, (1, 0, [4])), (9, (36, 0, [3, 8])), (12, (0, 1, [])), (13, (51, 0, [])), (14, (3, 0, [0])), (15, (40, 0, [32, 12, 22])), (18, (0, 0, [])), (19, (1, 0, [3])), (20, (43, 0, [])), (21, (3, 0, [0])), (22, (40, 0, [32, 12, 22])), (25, (0, 1, [])), (26, (1, 0, [2])), (27, (43, 0, [])), (28, (3, 0, [0])), (29, (40, 0, [32, 12, 22])), (32, (0, 2, [])), (33, (1, 0, [1])), (34, (43, 0, [])), (35, (3, 0, [0])), (36, (1, 0, [4])), (38, (49, 0, [252, 189])), (41, (3, 0, [0])), (42, (40, 0, [35, 12, 23])), (45, (0, 0, [])), (46, (44, 0, [])), (47, (0, 0, [])), (48, (0, 9, [])), (50, (50, 0, [268, 140])), (53, (51, 0, []))])
/-- OxenHomeModel.slip()I -/
def zm_Mo_slip : zMeth := (219, [(0, (3, 0, [0])), (1, (0, 2, [])), (2, (49, 0, [249, 190])), (5, (2, 0, [1])), (6, (1, 0, [1])), (7, (36, 0, [3, 8])), (10, (0, 0, [])), (11, (51, 0, [])), (12, (3, 0, [0])), (13, (1, 0, [1])), (14, (49, 0, [252, 189])), (17, (3, 0, [0])), (18, (40, 0, [35, 12, 23])), (21, (0, 0, [])), (22, (44, 0, [])), (23, (0, 0, [])), (24, (0, 9, [])), (26, (50, 0, [268, 140])), (29, (51, 0, []))])
/-- OxenHomeModel.weightOf(IIIIII)J -/
def zm_Mo_weightOf : zMeth := (220, [(0, (3, 0, [0])), (1, (1, 0, [1])), (2, (1, 0, [2])), (3, (1, 0, [4])), (5, (49, 0, [311, 218])), (8, (29, 0, [])), (9, (6, 0, [7])), (11, (0, 0, [])), (12, (2, 0, [9])), (14, (1, 0, [9])), (16, (3, 0, [0])), (17, (40, 0, [7, 12, 0])), (20, (0, 2, [])), (21, (42, 0, [])), (22, (35, 0, [3, 55])), (25, (1, 0, [5])), (27, (1, 0, [9])), (29, (50, 0, [301, 141])), (32, (36, 0, [1, 20])), (35, (37, 0, [53])), (38, (3, 0, [0])), (39, (1, 0, [9])), (41, (1, 0, [1])), (42, (1, 0, [2])), (43, (1, 0, [3])), (44, (0, 0, [])), (45, (1, 0, [4])), (47, (49, 0, [261, 191])), (50, (3, 0, [0])), (51, (49, 0, [265, 192])), (54, (1, 0, [6])), (56, (1, 0, [9])), (58, (50, 0, [301, 141])), (61, (35, 0, [1, 36])), (64, (0, 1, [])), (65, (37, 0, [37])), (68, (0, 0, [])), (69, (2, 0, [10])), (71, (3, 0, [0])), (72, (49, 0, [314, 219])), (75, (2, 0, [11])), (77, (5, 0, [7])), (79, (1, 0, [10])), (81, (36, 0, [0, 49])), (84, (0, 10, [])), (86, (1, 0, [11])), (88, (9, 0, [])), (89, (29, 0, [])), (90, (37, 0, [51])), (93, (1, 0, [11])), (95, (29, 0, [])), (96, (22, 0, [])), (97, (6, 0, [7])), (99, (7, 1, [9])), (102, (37, 0, [9])), (105, (5, 0, [7])), (107, (52, 0, []))])
/-- OxenHomeModel.common(JJ)J -/
def zm_Mo_common : zMeth := (221, [(0, (5, 0, [0])), (1, (6, 0, [4])), (3, (5, 0, [2])), (4, (6, 0, [6])), (6, (5, 0, [6])), (8, (31, 0, [])), (9, (38, 0, [])), (10, (36, 0, [0, 17])), (13, (5, 0, [4])), (15, (5, 0, [6])), (17, (24, 0, [])), (18, (6, 0, [8])), (20, (5, 0, [6])), (22, (6, 0, [4])), (24, (5, 0, [8])), (26, (6, 0, [6])), (28, (37, 0, [4])), (31, (5, 0, [4])), (33, (52, 0, []))])
/-- OxenHomeModel.dark(IIIIII)J -/
def zm_Mo_dark : zMeth := (222, [(0, (3, 0, [0])), (1, (1, 0, [1])), (2, (49, 0, [258, 143])), (5, (36, 0, [0, 41])), (8, (1, 0, [2])), (9, (0, 0, [])), (10, (0, 23, [])), (12, (50, 0, [71, 139])), (15, (36, 0, [0, 41])), (18, (1, 0, [3])), (19, (0, 0, [])), (20, (0, 1, [])), (21, (3, 0, [0])), (22, (40, 0, [7, 12, 0])), (25, (0, 2, [])), (26, (42, 0, [])), (27, (17, 0, [])), (28, (0, 1, [])), (29, (9, 0, [])), (30, (50, 0, [71, 139])), (33, (36, 0, [0, 41])), (36, (1, 0, [4])), (38, (0, 0, [])), (39, (0, 255, [])), (42, (50, 0, [71, 139])), (45, (36, 0, [0, 41])), (48, (1, 0, [4])), (50, (1, 0, [3])), (51, (0, (-1), [])), (52, (16, 0, [])), (53, (14, 0, [])), (54, (36, 0, [1, 41])), (57, (3, 0, [0])), (58, (1, 0, [5])), (60, (49, 0, [79, 142])), (63, (36, 0, [0, 41])), (66, (1, 0, [6])), (68, (0, 0, [])), (69, (0, 1, [])), (70, (50, 0, [71, 139])), (73, (36, 0, [1, 43])), (76, (31, (-1), [317])), (79, (52, 0, [])), (80, (31, 0, [])), (81, (6, 0, [7])), (83, (31, 0, [])), (84, (6, 0, [9])), (86, (0, 0, [])), (87, (2, 0, [11])), (89, (1, 0, [11])), (91, (3, 0, [0])), (92, (40, 0, [7, 12, 0])), (95, (0, 0, [])), (96, (42, 0, [])), (97, (35, 0, [3, 86])), (100, (0, 0, [])), (101, (2, 0, [12])), (103, (1, 0, [12])), (105, (0, 10, [])), (107, (35, 0, [3, 84])), (110, (3, 0, [0])), (111, (1, 0, [11])), (113, (1, 0, [12])), (115, (1, 0, [1])), (116, (1, 0, [2])), (117, (1, 0, [3])), (118, (1, 0, [4])), (120, (49, 0, [319, 220])), (123, (6, 0, [13])), (125, (5, 0, [7])), (127, (5, 0, [13])), (129, (20, 0, [])), (130, (6, 0, [7])), (132, (5, 0, [9])), (134, (1, 0, [11])), (136, (1, 0, [5])), (138, (35, 0, [1, 79])), (141, (5, 0, [13])), (143, (37, 0, [80])), (146, (31, 0, [])), (147, (20, 0, [])), (148, (6, 0, [9])), (150, (7, 1, [12])), (153, (37, 0, [57])), (156, (7, 1, [11])), (159, (37, 0, [49])), (162, (5, 0, [7])), (164, (31, 0, [])), (165, (38, 0, [])), (166, (36, 0, [1, 92])), (169, (31, (-1), [317])), (172, (37, 0, [101])), (175, (1, 0, [6])), (177, (36, 0, [1, 96])), (180, (5, 0, [9])), (182, (37, 0, [97])), (185, (5, 0, [7])), (187, (5, 0, [9])), (189, (5, 0, [7])), (191, (50, 0, [322, 221])), (194, (23, 0, [])), (195, (52, 0, []))])
/-- OxenHomeModel.mayBe(III)Z -/
def zm_Mo_mayBe : zMeth := (223, [(0, (0, 0, [])), (1, (2, 0, [4])), (3, (1, 0, [4])), (5, (3, 0, [0])), (6, (40, 0, [7, 12, 0])), (9, (0, 2, [])), (10, (42, 0, [])), (11, (35, 0, [3, 43])), (14, (3, 0, [0])), (15, (1, 0, [4])), (17, (1, 0, [1])), (18, (1, 0, [2])), (19, (1, 0, [3])), (20, (0, 0, [])), (21, (3, 0, [0])), (22, (40, 0, [7, 12, 0])), (25, (0, 3, [])), (26, (42, 0, [])), (27, (49, 0, [261, 191])), (30, (3, 0, [0])), (31, (49, 0, [265, 192])), (34, (2, 0, [5])), (36, (3, 0, [0])), (37, (1, 0, [4])), (39, (0, 0, [])), (40, (49, 0, [243, 145])), (43, (1, 0, [1])), (44, (35, 0, [1, 31])), (47, (1, 0, [5])), (49, (36, 0, [1, 41])), (52, (37, 0, [39])), (55, (1, 0, [5])), (57, (36, 0, [0, 41])), (60, (3, 0, [0])), (61, (1, 0, [4])), (63, (0, 1, [])), (64, (49, 0, [243, 145])), (67, (1, 0, [1])), (68, (35, 0, [0, 41])), (71, (0, 0, [])), (72, (51, 0, [])), (73, (7, 1, [4])), (76, (37, 0, [2])), (79, (0, 1, [])), (80, (51, 0, []))])
/-- OxenHomeModel.isApart(II)Z -/
def zm_Mo_isApart : zMeth := (224, [(0, (0, 0, [])), (1, (2, 0, [3])), (2, (1, 0, [3])), (3, (1, 0, [1])), (4, (35, 0, [3, 20])), (7, (3, 0, [0])), (8, (40, 0, [55, 12, 29])), (11, (1, 0, [3])), (12, (42, 0, [])), (13, (3, 0, [0])), (14, (40, 0, [55, 12, 29])), (17, (1, 0, [1])), (18, (42, 0, [])), (19, (50, 0, [75, 147])), (22, (1, 0, [2])), (23, (35, 0, [3, 18])), (26, (0, 0, [])), (27, (51, 0, [])), (28, (7, 1, [3])), (31, (37, 0, [2])), (34, (0, 1, [])), (35, (51, 0, []))])
/-- OxenHomeModel.changed(I)I -/
def zm_Mo_changed : zMeth := (225, [(0, (0, 0, [])), (1, (2, 0, [2])), (2, (0, 0, [])), (3, (2, 0, [3])), (4, (1, 0, [3])), (5, (1, 0, [1])), (6, (35, 0, [3, 20])), (9, (1, 0, [2])), (10, (3, 0, [0])), (11, (40, 0, [55, 12, 29])), (14, (1, 0, [3])), (15, (42, 0, [])), (16, (3, 0, [0])), (17, (1, 0, [3])), (18, (49, 0, [282, 148])), (21, (50, 0, [75, 147])), (24, (8, 0, [])), (25, (2, 0, [2])), (26, (7, 1, [3])), (29, (37, 0, [4])), (32, (1, 0, [2])), (33, (51, 0, []))])
/-- OxenHomeModel.set(II)I -/
def zm_Mo_set : zMeth := (226, [(0, (3, 0, [0])), (1, (40, 0, [7, 12, 0])), (4, (0, 0, [])), (5, (42, 0, [])), (6, (2, 0, [3])), (7, (0, 0, [])), (8, (2, 0, [4])), (10, (1, 0, [4])), (12, (1, 0, [3])), (13, (35, 0, [3, 32])), (16, (0, 0, [])), (17, (2, 0, [5])), (19, (1, 0, [5])), (21, (0, 10, [])), (23, (35, 0, [3, 30])), (26, (3, 0, [0])), (27, (40, 0, [52, 12, 28])), (30, (0, 10, [])), (32, (1, 0, [4])), (34, (10, 0, [])), (35, (1, 0, [5])), (37, (8, 0, [])), (38, (3, 0, [0])), (39, (1, 0, [4])), (41, (1, 0, [5])), (43, (1, 0, [2])), (44, (49, 0, [326, 223])), (47, (47, 0, [])), (48, (7, 1, [5])), (51, (37, 0, [12])), (54, (7, 1, [4])), (57, (37, 0, [7])), (60, (0, (-1), [])), (61, (2, 0, [4])), (63, (0, 0, [])), (64, (2, 0, [5])), (66, (3, 0, [0])), (67, (40, 0, [55, 12, 29])), (70, (0, 0, [])), (71, (0, (-1), [])), (72, (43, 0, [])), (73, (1, 0, [5])), (75, (36, 0, [2, 132])), (78, (1, 0, [5])), (80, (1, 0, [3])), (81, (35, 0, [1, 74])), (84, (3, 0, [0])), (85, (1, 0, [3])), (86, (49, 0, [329, 225])), (89, (2, 0, [6])), (91, (1, 0, [4])), (93, (36, 0, [2, 55])), (96, (1, 0, [6])), (98, (1, 0, [4])), (100, (35, 0, [3, 72])), (103, (1, 0, [6])), (105, (2, 0, [4])), (107, (0, 0, [])), (108, (2, 0, [7])), (110, (1, 0, [7])), (112, (1, 0, [3])), (113, (35, 0, [3, 72])), (116, (3, 0, [0])), (117, (40, 0, [58, 12, 30])), (120, (1, 0, [7])), (122, (3, 0, [0])), (123, (40, 0, [55, 12, 29])), (126, (1, 0, [7])), (128, (42, 0, [])), (129, (43, 0, [])), (130, (7, 1, [7])), (133, (37, 0, [59])), (136, (7, (-1), [5])), (139, (37, 0, [41])), (142, (3, 0, [0])), (143, (40, 0, [55, 12, 29])), (146, (1, 0, [5])), (148, (33, 0, [])), (149, (42, 0, [])), (150, (0, 1, [])), (151, (8, 0, [])), (152, (43, 0, [])), (153, (3, 0, [0])), (154, (40, 0, [55, 12, 29])), (157, (1, 0, [5])), (159, (42, 0, [])), (160, (0, 10, [])), (162, (35, 0, [3, 114])), (165, (3, 0, [0])), (166, (40, 0, [52, 12, 28])), (169, (0, 10, [])), (171, (1, 0, [5])), (173, (10, 0, [])), (174, (3, 0, [0])), (175, (40, 0, [55, 12, 29])), (178, (1, 0, [5])), (180, (42, 0, [])), (181, (8, 0, [])), (182, (46, 0, [])), (183, (36, 0, [0, 105])), (186, (3, 0, [0])), (187, (1, 0, [5])), (189, (1, 0, [1])), (190, (49, 0, [332, 224])), (193, (36, 0, [1, 114])), (196, (3, 0, [0])), (197, (40, 0, [55, 12, 29])), (200, (1, 0, [5])), (202, (33, 0, [])), (203, (42, 0, [])), (204, (0, 1, [])), (205, (8, 0, [])), (206, (43, 0, [])), (207, (37, 0, [82])), (210, (3, 0, [0])), (211, (40, 0, [55, 12, 29])), (214, (1, 0, [5])), (216, (42, 0, [])), (217, (0, 9, [])), (219, (35, 0, [5, 122])), (222, (7, (-1), [5])), (225, (37, 0, [41])), (228, (7, 1, [5])), (231, (1, 0, [5])), (233, (1, 0, [3])), (234, (35, 0, [3, 41])), (237, (3, 0, [0])), (238, (40, 0, [55, 12, 29])), (241, (1, 0, [5])), (243, (0, (-1), [])), (244, (43, 0, [])), (245, (37, 0, [41])), (248, (1, 0, [4])), (250, (51, 0, []))])
/-- OxenHomeModel.apart(III)I -/
def zm_Mo_apart : zMeth := (227, [(0, (1, 0, [1])), (1, (0, 0, [])), (2, (0, 9, [])), (4, (50, 0, [71, 139])), (7, (36, 0, [0, 16])), (10, (3, 0, [0])), (11, (1, 0, [2])), (12, (49, 0, [258, 143])), (15, (36, 0, [0, 16])), (18, (1, 0, [3])), (19, (0, (-1), [])), (20, (35, 0, [0, 18])), (23, (3, 0, [0])), (24, (1, 0, [3])), (25, (49, 0, [79, 142])), (28, (36, 0, [1, 18])), (31, (0, (-1), [])), (32, (51, 0, [])), (33, (3, 0, [0])), (34, (1, 0, [1])), (35, (1, 0, [2])), (36, (49, 0, [335, 226])), (39, (2, 0, [4])), (41, (1, 0, [4])), (43, (36, 0, [2, 27])), (46, (1, 0, [3])), (47, (36, 0, [3, 29])), (50, (1, 0, [4])), (52, (37, 0, [33])), (55, (3, 0, [0])), (56, (40, 0, [58, 12, 30])), (59, (1, 0, [3])), (60, (42, 0, [])), (61, (51, 0, []))])
/-- OxenHomeModel.thunder(II)I -/
def zm_Mo_thunder : zMeth := (228, [(0, (1, 0, [1])), (1, (0, 0, [])), (2, (0, 9999, [])), (5, (50, 0, [71, 139])), (8, (36, 0, [0, 10])), (11, (1, 0, [2])), (12, (0, 1, [])), (13, (0, 99, [])), (15, (50, 0, [71, 139])), (18, (36, 0, [1, 12])), (21, (0, (-1), [])), (22, (51, 0, [])), (23, (0, 0, [])), (24, (2, 0, [3])), (25, (1, 0, [3])), (26, (3, 0, [0])), (27, (40, 0, [7, 12, 0])), (30, (0, 2, [])), (31, (42, 0, [])), (32, (35, 0, [3, 38])), (35, (3, 0, [0])), (36, (40, 0, [61, 12, 31])), (39, (1, 0, [3])), (40, (3, 0, [0])), (41, (1, 0, [3])), (42, (0, 6, [])), (44, (49, 0, [243, 145])), (47, (43, 0, [])), (48, (3, 0, [0])), (49, (40, 0, [64, 12, 32])), (52, (1, 0, [3])), (53, (3, 0, [0])), (54, (1, 0, [3])), (55, (0, 7, [])), (57, (49, 0, [243, 145])), (60, (43, 0, [])), (61, (7, 1, [3])), (64, (37, 0, [14])), (67, (1, 0, [1])), (68, (0, 13, [])), (70, (10, 0, [])), (71, (0, 2, [])), (72, (8, 0, [])), (73, (2, 0, [3])), (74, (0, 0, [])), (75, (2, 0, [4])), (77, (0, 0, [])), (78, (2, 0, [5])), (80, (1, 0, [5])), (82, (1, 0, [2])), (83, (35, 0, [3, 69])), (86, (1, 0, [4])), (88, (3, 0, [0])), (89, (1, 0, [3])), (90, (0, 10, [])), (92, (12, 0, [])), (93, (49, 0, [338, 229])), (96, (8, 0, [])), (97, (2, 0, [4])), (99, (1, 0, [3])), (100, (0, 163, [])), (103, (10, 0, [])), (104, (0, 47, [])), (106, (8, 0, [])), (107, (0, 30059, [])), (110, (12, 0, [])), (111, (2, 0, [3])), (112, (7, 1, [5])), (115, (37, 0, [48])), (118, (1, 0, [4])), (120, (51, 0, []))])
/-- OxenHomeModel.strike(I)I -/
def zm_Mo_strike : zMeth := (229, [(0, (0, 0, [])), (1, (2, 0, [2])), (2, (0, 0, [])), (3, (2, 0, [3])), (4, (1, 0, [3])), (5, (3, 0, [0])), (6, (40, 0, [7, 12, 0])), (9, (0, 2, [])), (10, (42, 0, [])), (11, (35, 0, [3, 53])), (14, (3, 0, [0])), (15, (40, 0, [61, 12, 31])), (18, (1, 0, [3])), (19, (42, 0, [])), (20, (0, 10, [])), (22, (35, 0, [3, 17])), (25, (37, 0, [51])), (28, (3, 0, [0])), (29, (1, 0, [3])), (30, (0, (-1), [])), (31, (1, 0, [1])), (32, (3, 0, [0])), (33, (40, 0, [61, 12, 31])), (36, (1, 0, [3])), (37, (42, 0, [])), (38, (0, 10, [])), (40, (9, 0, [])), (41, (3, 0, [0])), (42, (40, 0, [64, 12, 32])), (45, (1, 0, [3])), (46, (42, 0, [])), (47, (36, 0, [2, 34])), (50, (0, 1, [])), (51, (37, 0, [35])), (54, (0, 0, [])), (55, (3, 0, [0])), (56, (40, 0, [7, 12, 0])), (59, (0, 3, [])), (60, (42, 0, [])), (61, (49, 0, [261, 191])), (64, (1, 0, [2])), (65, (3, 0, [0])), (66, (49, 0, [265, 192])), (69, (36, 0, [0, 48])), (72, (0, 1, [])), (73, (1, 0, [3])), (74, (17, 0, [])), (75, (37, 0, [49])), (78, (0, 0, [])), (79, (15, 0, [])), (80, (2, 0, [2])), (81, (7, 1, [3])), (84, (37, 0, [4])), (87, (0, 0, [])), (88, (2, 0, [3])), (89, (0, 0, [])), (90, (2, 0, [4])), (92, (1, 0, [4])), (94, (3, 0, [0])), (95, (40, 0, [7, 12, 0])), (98, (0, 2, [])), (99, (42, 0, [])), (100, (35, 0, [3, 94])), (103, (1, 0, [2])), (104, (1, 0, [4])), (106, (50, 0, [301, 141])), (109, (36, 0, [1, 68])), (112, (37, 0, [92])), (115, (3, 0, [0])), (116, (40, 0, [64, 12, 32])), (119, (1, 0, [4])), (121, (42, 0, [])), (122, (36, 0, [2, 81])), (125, (3, 0, [0])), (126, (40, 0, [64, 12, 32])), (129, (3, 0, [0])), (130, (40, 0, [64, 12, 32])), (133, (1, 0, [4])), (135, (42, 0, [])), (136, (0, (-1), [])), (137, (43, 0, [])), (138, (3, 0, [0])), (139, (40, 0, [64, 12, 32])), (142, (1, 0, [4])), (144, (0, (-1), [])), (145, (43, 0, [])), (146, (3, 0, [0])), (147, (40, 0, [61, 12, 31])), (150, (1, 0, [4])), (152, (0, 0, [])), (153, (43, 0, [])), (154, (7, 1, [3])), (157, (7, 1, [4])), (160, (37, 0, [57])), (163, (1, 0, [3])), (164, (51, 0, []))])
/-- OxenHomeModel.image()I -/
def zm_Mo_image : zMeth := (230, [(0, (3, 0, [0])), (1, (40, 0, [7, 12, 0])), (4, (3, 0, [0])), (5, (40, 0, [13, 12, 1])), (8, (50, 0, [67, 138])), (11, (3, 0, [0])), (12, (40, 0, [7, 12, 0])), (15, (0, 3, [])), (16, (42, 0, [])), (17, (51, 0, []))])
/-- OxenHomeModel.back()I -/
def zm_Mo_back : zMeth := (231, [(0, (3, 0, [0])), (1, (40, 0, [13, 12, 1])), (4, (3, 0, [0])), (5, (40, 0, [7, 12, 0])), (8, (50, 0, [67, 138])), (11, (3, 0, [0])), (12, (40, 0, [7, 12, 0])), (15, (0, 3, [])), (16, (42, 0, [])), (17, (51, 0, []))])
/-- OxenHomeModel.about(I)I -/
def zm_Mo_about : zMeth := (232, [(0, (1, 0, [1])), (1, (0, 10, [])), (3, (0, 9, [])), (5, (3, 0, [0])), (6, (40, 0, [7, 12, 0])), (9, (0, 0, [])), (10, (42, 0, [])), (11, (8, 0, [])), (12, (50, 0, [71, 139])), (15, (36, 0, [0, 16])), (18, (3, 0, [0])), (19, (1, 0, [1])), (20, (0, 10, [])), (22, (9, 0, [])), (23, (49, 0, [282, 148])), (26, (51, 0, [])), (27, (1, 0, [1])), (28, (0, 20, [])), (30, (0, 19, [])), (32, (3, 0, [0])), (33, (40, 0, [7, 12, 0])), (36, (0, 1, [])), (37, (42, 0, [])), (38, (8, 0, [])), (39, (50, 0, [71, 139])), (42, (36, 0, [0, 39])), (45, (3, 0, [0])), (46, (40, 0, [7, 12, 0])), (49, (0, 25, [])), (51, (0, 4, [])), (52, (1, 0, [1])), (53, (0, 20, [])), (55, (9, 0, [])), (56, (10, 0, [])), (57, (8, 0, [])), (58, (0, 3, [])), (59, (8, 0, [])), (60, (42, 0, [])), (61, (51, 0, [])), (62, (1, 0, [1])), (63, (0, 0, [])), (64, (0, 7, [])), (66, (50, 0, [71, 139])), (69, (36, 0, [0, 49])), (72, (3, 0, [0])), (73, (40, 0, [7, 12, 0])), (76, (1, 0, [1])), (77, (42, 0, [])), (78, (37, 0, [56])), (81, (1, 0, [1])), (82, (0, 8, [])), (84, (35, 0, [1, 55])), (87, (3, 0, [0])), (88, (40, 0, [87, 12, 4])), (91, (37, 0, [56])), (94, (0, (-2), [])), (96, (51, 0, []))])
/-- java/lang/Integer.bitCount(I)I -/
def zm_Integer_bitCount_0f7a4 : zMeth := (233, [(0, (1, 0, [0])), (1, (1, 0, [0])), (2, (0, 1, [])), (3, (19, 0, [])), (4, (0, 1431655765, [265])), (7, (14, 0, [])), (8, (9, 0, [])), (9, (2, 0, [0])), (10, (1, 0, [0])), (11, (0, 858993459, [266])), (14, (14, 0, [])), (15, (1, 0, [0])), (16, (0, 2, [])), (17, (19, 0, [])), (18, (0, 858993459, [266])), (21, (14, 0, [])), (22, (8, 0, [])), (23, (2, 0, [0])), (24, (1, 0, [0])), (25, (1, 0, [0])), (26, (0, 4, [])), (27, (19, 0, [])), (28, (8, 0, [])), (29, (0, 252645135, [267])), (32, (14, 0, [])), (33, (2, 0, [0])), (34, (1, 0, [0])), (35, (1, 0, [0])), (36, (0, 8, [])), (38, (19, 0, [])), (39, (8, 0, [])), (40, (2, 0, [0])), (41, (1, 0, [0])), (42, (1, 0, [0])), (43, (0, 16, [])), (45, (19, 0, [])), (46, (8, 0, [])), (47, (2, 0, [0])), (48, (1, 0, [0])), (49, (0, 63, [])), (51, (14, 0, [])), (52, (51, 0, []))])
/-- java/lang/Math.abs(I)I -/
def zm_Math_abs_0f7a4 : zMeth := (234, [(0, (1, 0, [0])), (1, (36, 0, [3, 5])), (4, (1, 0, [0])), (5, (13, 0, [])), (6, (37, 0, [6])), (9, (1, 0, [0])), (10, (51, 0, []))])
/-- java/lang/Math.min(II)I -/
def zm_Math_min_7cf53 : zMeth := (235, [(0, (1, 0, [0])), (1, (1, 0, [1])), (2, (35, 0, [4, 5])), (5, (1, 0, [0])), (6, (37, 0, [6])), (9, (1, 0, [1])), (10, (51, 0, []))])
/-- java/lang/String.length()I -/
def zm_String_length_8abf5 : zMeth := (236, [(0, (3, 0, [0])), (1, (60, 0, [9])), (4, (48, 0, [])), (5, (3, 0, [0])), (6, (49, 0, [335, 238])), (9, (18, 0, [])), (10, (51, 0, []))])
/-- java/lang/String.charAt(I)C -/
def zm_String_charAt_5068e : zMeth := (237, [(0, (3, 0, [0])), (1, (49, 0, [492, 239])), (4, (36, 0, [0, 8])), (7, (3, 0, [0])), (8, (60, 0, [9])), (11, (1, 0, [1])), (12, (50, 0, [495, 241])), (15, (51, 0, [])), (16, (3, 0, [0])), (17, (60, 0, [9])), (20, (1, 0, [1])), (21, (50, 0, [498, 244])), (24, (51, 0, []))])
/-- java/lang/String.coder()B -/
def zm_String_coder_7d493 : zMeth := (238, [(0, (64, 0, [38])), (3, (36, 0, [0, 5])), (6, (3, 0, [0])), (7, (60, 0, [15])), (10, (37, 0, [6])), (13, (0, 1, [])), (14, (51, 0, []))])
/-- java/lang/String.isLatin1()Z -/
def zm_String_isLatin1_aae02 : zMeth := (239, [(0, (64, 0, [38])), (3, (36, 0, [0, 7])), (6, (3, 0, [0])), (7, (60, 0, [15])), (10, (36, 0, [1, 7])), (13, (0, 1, [])), (14, (37, 0, [8])), (17, (0, 0, [])), (18, (51, 0, []))])
/-- java/lang/String.checkIndex(II)V -/
def zm_String_checkIndex_df160 : zMeth := (240, [(0, (1, 0, [0])), (1, (1, 0, [1])), (2, (64, 0, [1053])), (5, (50, 0, [1059, 246])), (8, (34, 0, [])), (9, (53, 0, []))])
/-- java/lang/StringLatin1.charAt([BI)C -/
def zm_StringLatin1_charAt_3b067 : zMeth := (241, [(0, (1, 0, [1])), (1, (3, 0, [0])), (2, (48, 0, [])), (3, (50, 0, [9, 240])), (6, (3, 0, [0])), (7, (1, 0, [1])), (8, (46, 0, [])), (9, (0, 255, [])), (12, (14, 0, [])), (13, (65, 0, [])), (14, (51, 0, []))])
/-- jdk/internal/util/Preconditions.checkIndex(IILjava/util/function/BiFunction;)I -/
def zm_Preconditions_checkIndex_8e157 : zMeth := (246, [(0, (1, 0, [0])), (1, (36, 0, [2, 5])), (4, (1, 0, [0])), (5, (1, 0, [1])), (6, (35, 0, [2, 10])), (9, (3, 0, [2])), (10, (1, 0, [0])), (11, (1, 0, [1])), (12, (62, 0, [95])), (15, (99, 0, [])), (16, (1, 0, [0])), (17, (51, 0, []))])
/-- OxenHomeLaw.law([I)Z -/
def zm_La_law : zMeth := (247, [(0, (64, 0, [7])), (3, (32, 0, [])), (4, (63, 0, [9, 94])), (7, (4, 0, [1])), (8, (64, 0, [10])), (11, (32, 0, [])), (12, (63, 0, [12, 137])), (15, (4, 0, [2])), (16, (0, 0, [])), (17, (2, 0, [3])), (18, (1, 0, [3])), (19, (3, 0, [0])), (20, (48, 0, [])), (21, (0, 7, [])), (23, (9, 0, [])), (24, (35, 0, [4, 824])), (27, (3, 0, [0])), (28, (1, 0, [3])), (29, (42, 0, [])), (30, (0, 31, [])), (32, (14, 0, [])), (33, (39, 0, [822, 22, 59, 106, 153, 210, 227, 234, 251, 268, 305, 322, 349, 376, 393, 400, 407, 414, 441, 506, 533, 540, 605, 632, 659, 727, 764, 791, 798, 805])), (164, (3, 0, [1])), (165, (3, 0, [0])), (166, (1, 0, [3])), (167, (0, 1, [])), (168, (8, 0, [])), (169, (42, 0, [])), (170, (3, 0, [0])), (171, (1, 0, [3])), (172, (0, 2, [])), (173, (8, 0, [])), (174, (42, 0, [])), (175, (3, 0, [0])), (176, (1, 0, [3])), (177, (0, 3, [])), (178, (8, 0, [])), (179, (42, 0, [])), (180, (49, 0, [13, 95])), (183, (3, 0, [2])), (184, (3, 0, [0])), (185, (1, 0, [3])), (186, (0, 1, [])), (187, (8, 0, [])), (188, (42, 0, [])), (189, (3, 0, [0])), (190, (1, 0, [3])), (191, (0, 2, [])), (192, (8, 0, [])), (193, (42, 0, [])), (194, (3, 0, [0])), (195, (1, 0, [3])), (196, (0, 3, [])), (197, (8, 0, [])), (198, (42, 0, [])), (199, (49, 0, [17, 150])), (202, (35, 0, [0, 822])), (205, (0, 0, [])), (206, (51, 0, [])), (207, (3, 0, [1])), (208, (3, 0, [0])), (209, (1, 0, [3])), (210, (0, 1, [])), (211, (8, 0, [])), (212, (42, 0, [])), (213, (3, 0, [0])), (214, (1, 0, [3])), (215, (0, 2, [])), (216, (8, 0, [])), (217, (42, 0, [])), (218, (3, 0, [0])), (219, (1, 0, [3])), (220, (0, 3, [])), (221, (8, 0, [])), (222, (42, 0, [])), (223, (3, 0, [0])), (224, (1, 0, [3])), (225, (0, 4, [])), (226, (8, 0, [])), (227, (42, 0, [])), (228, (49, 0, [18, 96])), (231, (3, 0, [2])), (232, (3, 0, [0])), (233, (1, 0, [3])), (234, (0, 1, [])), (235, (8, 0, [])), (236, (42, 0, [])), (237, (3, 0, [0])), (238, (1, 0, [3])), (239, (0, 2, [])), (240, (8, 0, [])), (241, (42, 0, [])), (242, (3, 0, [0])), (243, (1, 0, [3])), (244, (0, 3, [])), (245, (8, 0, [])), (246, (42, 0, [])), (247, (3, 0, [0])), (248, (1, 0, [3])), (249, (0, 4, [])), (250, (8, 0, [])), (251, (42, 0, [])), (252, (49, 0, [22, 151])), (255, (35, 0, [0, 822])), (258, (0, 0, [])), (259, (51, 0, [])), (260, (3, 0, [1])), (261, (3, 0, [0])), (262, (1, 0, [3])), (263, (0, 1, [])), (264, (8, 0, [])), (265, (42, 0, [])), (266, (3, 0, [0])), (267, (1, 0, [3])), (268, (0, 2, [])), (269, (8, 0, [])), (270, (42, 0, [])), (271, (3, 0, [0])), (272, (1, 0, [3])), (273, (0, 3, [])), (274, (8, 0, [])), (275, (42, 0, [])), (276, (3, 0, [0])), (277, (1, 0, [3])), (278, (0, 4, [])), (279, (8, 0, [])), (280, (42, 0, [])), (281, (49, 0, [23, 97])), (284, (3, 0, [2])), (285, (3, 0, [0])), (286, (1, 0, [3])), (287, (0, 1, [])), (288, (8, 0, [])), (289, (42, 0, [])), (290, (3, 0, [0])), (291, (1, 0, [3])), (292, (0, 2, [])), (293, (8, 0, [])), (294, (42, 0, [])), (295, (3, 0, [0])), (296, (1, 0, [3])), (297, (0, 3, [])), (298, (8, 0, [])), (299, (42, 0, [])), (300, (3, 0, [0])), (301, (1, 0, [3])), (302, (0, 4, [])), (303, (8, 0, [])), (304, (42, 0, [])), (305, (49, 0, [26, 152])), (308, (35, 0, [0, 822])), (311, (0, 0, [])), (312, (51, 0, [])), (313, (3, 0, [1])), (314, (3, 0, [0])), (315, (1, 0, [3])), (316, (0, 1, [])), (317, (8, 0, [])), (318, (42, 0, [])), (319, (3, 0, [0])), (320, (1, 0, [3])), (321, (0, 2, [])), (322, (8, 0, [])), (323, (42, 0, [])), (324, (3, 0, [0])), (325, (1, 0, [3])), (326, (0, 3, [])), (327, (8, 0, [])), (328, (42, 0, [])), (329, (3, 0, [0])), (330, (1, 0, [3])), (331, (0, 4, [])), (332, (8, 0, [])), (333, (42, 0, [])), (334, (3, 0, [0])), (335, (1, 0, [3])), (336, (0, 5, [])), (337, (8, 0, [])), (338, (42, 0, [])), (339, (49, 0, [27, 98])), (342, (3, 0, [2])), (343, (3, 0, [0])), (344, (1, 0, [3])), (345, (0, 1, [])), (346, (8, 0, [])), (347, (42, 0, [])), (348, (3, 0, [0])), (349, (1, 0, [3])), (350, (0, 2, [])), (351, (8, 0, [])), (352, (42, 0, [])), (353, (3, 0, [0])), (354, (1, 0, [3])), (355, (0, 3, [])), (356, (8, 0, [])), (357, (42, 0, [])), (358, (3, 0, [0])), (359, (1, 0, [3])), (360, (0, 4, [])), (361, (8, 0, [])), (362, (42, 0, [])), (363, (3, 0, [0])), (364, (1, 0, [3])), (365, (0, 5, [])), (366, (8, 0, [])), (367, (42, 0, [])), (368, (49, 0, [31, 154])), (371, (35, 0, [0, 822])), (374, (0, 0, [])), (375, (51, 0, [])), (376, (3, 0, [1])), (377, (3, 0, [0])), (378, (1, 0, [3])), (379, (0, 1, [])), (380, (8, 0, [])), (381, (42, 0, [])), (382, (49, 0, [32, 100])), (385, (3, 0, [2])), (386, (3, 0, [0])), (387, (1, 0, [3])), (388, (0, 1, [])), (389, (8, 0, [])), (390, (42, 0, [])), (391, (49, 0, [36, 155])), (394, (35, 0, [0, 822])), (397, (0, 0, [])), (398, (51, 0, [])), (399, (3, 0, [1])), (400, (49, 0, [37, 101])), (403, (3, 0, [2])), (404, (49, 0, [41, 183])), (407, (35, 0, [0, 822])), (410, (0, 0, [])), (411, (51, 0, [])), (412, (3, 0, [1])), (413, (3, 0, [0])), (414, (1, 0, [3])), (415, (0, 1, [])), (416, (8, 0, [])), (417, (42, 0, [])), (418, (49, 0, [42, 102])), (421, (3, 0, [2])), (422, (3, 0, [0])), (423, (1, 0, [3])), (424, (0, 1, [])), (425, (8, 0, [])), (426, (42, 0, [])), (427, (49, 0, [45, 184])), (430, (35, 0, [0, 822])), (433, (0, 0, [])), (434, (51, 0, [])), (435, (3, 0, [1])), (436, (3, 0, [0])), (437, (1, 0, [3])), (438, (0, 1, [])), (439, (8, 0, [])), (440, (42, 0, [])), (441, (49, 0, [46, 103])), (444, (3, 0, [2])), (445, (3, 0, [0])), (446, (1, 0, [3])), (447, (0, 1, [])), (448, (8, 0, [])), (449, (42, 0, [])), (450, (49, 0, [50, 185])), (453, (35, 0, [0, 822])), (456, (0, 0, [])), (457, (51, 0, [])), (458, (3, 0, [1])), (459, (3, 0, [0])), (460, (1, 0, [3])), (461, (0, 1, [])), (462, (8, 0, [])), (463, (42, 0, [])), (464, (3, 0, [0])), (465, (1, 0, [3])), (466, (0, 2, [])), (467, (8, 0, [])), (468, (42, 0, [])), (469, (3, 0, [0])), (470, (1, 0, [3])), (471, (0, 3, [])), (472, (8, 0, [])), (473, (42, 0, [])), (474, (49, 0, [51, 104])), (477, (3, 0, [2])), (478, (3, 0, [0])), (479, (1, 0, [3])), (480, (0, 1, [])), (481, (8, 0, [])), (482, (42, 0, [])), (483, (3, 0, [0])), (484, (1, 0, [3])), (485, (0, 2, [])), (486, (8, 0, [])), (487, (42, 0, [])), (488, (3, 0, [0])), (489, (1, 0, [3])), (490, (0, 3, [])), (491, (8, 0, [])), (492, (42, 0, [])), (493, (49, 0, [55, 199])), (496, (35, 0, [0, 822])), (499, (0, 0, [])), (500, (51, 0, [])), (501, (3, 0, [1])), (502, (3, 0, [0])), (503, (1, 0, [3])), (504, (0, 1, [])), (505, (8, 0, [])), (506, (42, 0, [])), (507, (49, 0, [56, 106])), (510, (3, 0, [2])), (511, (3, 0, [0])), (512, (1, 0, [3])), (513, (0, 1, [])), (514, (8, 0, [])), (515, (42, 0, [])), (516, (49, 0, [59, 201])), (519, (35, 0, [0, 822])), (522, (0, 0, [])), (523, (51, 0, [])), (524, (3, 0, [1])), (525, (3, 0, [0])), (526, (1, 0, [3])), (527, (0, 1, [])), (528, (8, 0, [])), (529, (42, 0, [])), (530, (3, 0, [0])), (531, (1, 0, [3])), (532, (0, 2, [])), (533, (8, 0, [])), (534, (42, 0, [])), (535, (49, 0, [60, 107])), (538, (3, 0, [2])), (539, (3, 0, [0])), (540, (1, 0, [3])), (541, (0, 1, [])), (542, (8, 0, [])), (543, (42, 0, [])), (544, (3, 0, [0])), (545, (1, 0, [3])), (546, (0, 2, [])), (547, (8, 0, [])), (548, (42, 0, [])), (549, (49, 0, [64, 202])), (552, (35, 0, [0, 822])), (555, (0, 0, [])), (556, (51, 0, [])), (557, (3, 0, [1])), (558, (3, 0, [0])), (559, (1, 0, [3])), (560, (0, 1, [])), (561, (8, 0, [])), (562, (42, 0, [])), (563, (3, 0, [0])), (564, (1, 0, [3])), (565, (0, 2, [])), (566, (8, 0, [])), (567, (42, 0, [])), (568, (49, 0, [65, 108])), (571, (3, 0, [2])), (572, (3, 0, [0])), (573, (1, 0, [3])), (574, (0, 1, [])), (575, (8, 0, [])), (576, (42, 0, [])), (577, (3, 0, [0])), (578, (1, 0, [3])), (579, (0, 2, [])), (580, (8, 0, [])), (581, (42, 0, [])), (582, (49, 0, [68, 203])), (585, (35, 0, [0, 822])), (588, (0, 0, [])), (589, (51, 0, [])), (590, (3, 0, [1])), (591, (3, 0, [0])), (592, (1, 0, [3])), (593, (0, 1, [])), (594, (8, 0, [])), (595, (42, 0, [])), (596, (49, 0, [69, 109])), (599, (3, 0, [2])), (600, (3, 0, [0])), (601, (1, 0, [3])), (602, (0, 1, [])), (603, (8, 0, [])), (604, (42, 0, [])), (605, (49, 0, [72, 204])), (608, (35, 0, [0, 822])), (611, (0, 0, [])), (612, (51, 0, [])), (613, (3, 0, [1])), (614, (49, 0, [73, 111])), (617, (3, 0, [2])), (618, (49, 0, [76, 205])), (621, (35, 0, [0, 822])), (624, (0, 0, [])), (625, (51, 0, [])), (626, (3, 0, [1])), (627, (49, 0, [77, 112])), (630, (3, 0, [2])), (631, (49, 0, [80, 206])), (634, (35, 0, [0, 822])), (637, (0, 0, [])), (638, (51, 0, [])), (639, (3, 0, [1])), (640, (49, 0, [81, 113])), (643, (3, 0, [2])), (644, (49, 0, [84, 197])), (647, (35, 0, [0, 822])), (650, (0, 0, [])), (651, (51, 0, [])), (652, (3, 0, [1])), (653, (3, 0, [0])), (654, (1, 0, [3])), (655, (0, 1, [])), (656, (8, 0, [])), (657, (42, 0, [])), (658, (3, 0, [0])), (659, (1, 0, [3])), (660, (0, 2, [])), (661, (8, 0, [])), (662, (42, 0, [])), (663, (49, 0, [85, 114])), (666, (3, 0, [2])), (667, (3, 0, [0])), (668, (1, 0, [3])), (669, (0, 1, [])), (670, (8, 0, [])), (671, (42, 0, [])), (672, (3, 0, [0])), (673, (1, 0, [3])), (674, (0, 2, [])), (675, (8, 0, [])), (676, (42, 0, [])), (677, (49, 0, [89, 207])), (680, (35, 0, [0, 822])), (683, (0, 0, [])), (684, (51, 0, [])), (685, (3, 0, [1])), (686, (3, 0, [0])), (687, (1, 0, [3])), (688, (0, 1, [])), (689, (8, 0, [])), (690, (42, 0, [])), (691, (3, 0, [0])), (692, (1, 0, [3])), (693, (0, 2, [])), (694, (8, 0, [])), (695, (42, 0, [])), (696, (3, 0, [0])), (697, (1, 0, [3])), (698, (0, 3, [])), (699, (8, 0, [])), (700, (42, 0, [])), (701, (3, 0, [0])), (702, (1, 0, [3])), (703, (0, 4, [])), (704, (8, 0, [])), (705, (42, 0, [])), (706, (3, 0, [0])), (707, (1, 0, [3])), (708, (0, 5, [])), (709, (8, 0, [])), (710, (42, 0, [])), (711, (36, 0, [0, 470])), (714, (0, 1, [])), (715, (37, 0, [471])), (718, (0, 0, [])), (719, (49, 0, [90, 115])), (722, (3, 0, [2])), (723, (3, 0, [0])), (724, (1, 0, [3])), (725, (0, 1, [])), (726, (8, 0, [])), (727, (42, 0, [])), (728, (3, 0, [0])), (729, (1, 0, [3])), (730, (0, 2, [])), (731, (8, 0, [])), (732, (42, 0, [])), (733, (3, 0, [0])), (734, (1, 0, [3])), (735, (0, 3, [])), (736, (8, 0, [])), (737, (42, 0, [])), (738, (3, 0, [0])), (739, (1, 0, [3])), (740, (0, 4, [])), (741, (8, 0, [])), (742, (42, 0, [])), (743, (3, 0, [0])), (744, (1, 0, [3])), (745, (0, 5, [])), (746, (8, 0, [])), (747, (42, 0, [])), (748, (36, 0, [0, 501])), (751, (0, 1, [])), (752, (37, 0, [502])), (755, (0, 0, [])), (756, (49, 0, [94, 194])), (759, (35, 0, [0, 822])), (762, (0, 0, [])), (763, (51, 0, [])), (764, (3, 0, [1])), (765, (3, 0, [0])), (766, (1, 0, [3])), (767, (0, 1, [])), (768, (8, 0, [])), (769, (42, 0, [])), (770, (3, 0, [0])), (771, (1, 0, [3])), (772, (0, 2, [])), (773, (8, 0, [])), (774, (42, 0, [])), (775, (49, 0, [95, 116])), (778, (3, 0, [2])), (779, (3, 0, [0])), (780, (1, 0, [3])), (781, (0, 1, [])), (782, (8, 0, [])), (783, (42, 0, [])), (784, (3, 0, [0])), (785, (1, 0, [3])), (786, (0, 2, [])), (787, (8, 0, [])), (788, (42, 0, [])), (789, (49, 0, [98, 208])), (792, (35, 0, [0, 822])), (795, (0, 0, [])), (796, (51, 0, [])), (797, (3, 0, [1])), (798, (49, 0, [99, 117])), (801, (3, 0, [2])), (802, (49, 0, [102, 209])), (805, (35, 0, [0, 822])), (808, (0, 0, [])), (809, (51, 0, [])), (810, (3, 0, [1])), (811, (3, 0, [0])), (812, (1, 0, [3])), (813, (0, 1, [])), (814, (8, 0, [])), (815, (42, 0, [])), (816, (3, 0, [0])), (817, (1, 0, [3])), (818, (0, 2, [])), (819, (8, 0, [])), (820, (42, 0, [])), (821, (3, 0, [0])), (822, (1, 0, [3])), (823, (0, 3, [])), (824, (8, 0, [])), (825, (42, 0, [])), (826, (3, 0, [0])), (827, (1, 0, [3])), (828, (0, 4, [])), (829, (8, 0, [])), (830, (42, 0, [])), (831, (3, 0, [0])), (832, (1, 0, [3])), (833, (0, 5, [])), (834, (8, 0, [])), (835, (42, 0, [])), (836, (36, 0, [0, 569])), (839, (0, 1, [])), (840, (37, 0, [570])), (843, (0, 0, [])), (844, (49, 0, [103, 118])), (847, (3, 0, [2])), (848, (3, 0, [0])), (849, (1, 0, [3])), (850, (0, 1, [])), (851, (8, 0, [])), (852, (42, 0, [])), (853, (3, 0, [0])), (854, (1, 0, [3])), (855, (0, 2, [])), (856, (8, 0, [])), (857, (42, 0, [])), (858, (3, 0, [0])), (859, (1, 0, [3])), (860, (0, 3, [])), (861, (8, 0, [])), (862, (42, 0, [])), (863, (3, 0, [0])), (864, (1, 0, [3])), (865, (0, 4, [])), (866, (8, 0, [])), (867, (42, 0, [])), (868, (3, 0, [0])), (869, (1, 0, [3])), (870, (0, 5, [])), (871, (8, 0, [])), (872, (42, 0, [])), (873, (36, 0, [0, 600])), (876, (0, 1, [])), (877, (37, 0, [601])), (880, (0, 0, [])), (881, (49, 0, [107, 213])), (884, (35, 0, [0, 822])), (887, (0, 0, [])), (888, (51, 0, [])), (889, (3, 0, [1])), (890, (3, 0, [0])), (891, (1, 0, [3])), (892, (0, 1, [])), (893, (8, 0, [])), (894, (42, 0, [])), (895, (3, 0, [0])), (896, (1, 0, [3])), (897, (0, 2, [])), (898, (8, 0, [])), (899, (42, 0, [])), (900, (49, 0, [108, 119])), (903, (3, 0, [2])), (904, (3, 0, [0])), (905, (1, 0, [3])), (906, (0, 1, [])), (907, (8, 0, [])), (908, (42, 0, [])), (909, (3, 0, [0])), (910, (1, 0, [3])), (911, (0, 2, [])), (912, (8, 0, [])), (913, (42, 0, [])), (914, (49, 0, [111, 216])), (917, (35, 0, [0, 822])), (920, (0, 0, [])), (921, (51, 0, [])), (922, (3, 0, [1])), (923, (3, 0, [0])), (924, (1, 0, [3])), (925, (0, 1, [])), (926, (8, 0, [])), (927, (42, 0, [])), (928, (3, 0, [0])), (929, (1, 0, [3])), (930, (0, 2, [])), (931, (8, 0, [])), (932, (42, 0, [])), (933, (49, 0, [112, 120])), (936, (3, 0, [2])), (937, (3, 0, [0])), (938, (1, 0, [3])), (939, (0, 1, [])), (940, (8, 0, [])), (941, (42, 0, [])), (942, (3, 0, [0])), (943, (1, 0, [3])), (944, (0, 2, [])), (945, (8, 0, [])), (946, (42, 0, [])), (947, (49, 0, [115, 217])), (950, (35, 0, [0, 822])), (953, (0, 0, [])), (954, (51, 0, [])), (955, (3, 0, [1])), (956, (3, 0, [0])), (957, (1, 0, [3])), (958, (0, 1, [])), (959, (8, 0, [])), (960, (42, 0, [])), (961, (3, 0, [0])), (962, (1, 0, [3])), (963, (0, 2, [])), (964, (8, 0, [])), (965, (42, 0, [])), (966, (3, 0, [0])), (967, (1, 0, [3])), (968, (0, 3, [])), (969, (8, 0, [])), (970, (42, 0, [])), (971, (3, 0, [0])), (972, (1, 0, [3])), (973, (0, 4, [])), (974, (8, 0, [])), (975, (42, 0, [])), (976, (3, 0, [0])), (977, (1, 0, [3])), (978, (0, 5, [])), (979, (8, 0, [])), (980, (42, 0, [])), (981, (3, 0, [0])), (982, (1, 0, [3])), (983, (0, 6, [])), (985, (8, 0, [])), (986, (42, 0, [])), (987, (49, 0, [116, 121])), (990, (3, 0, [2])), (991, (3, 0, [0])), (992, (1, 0, [3])), (993, (0, 1, [])), (994, (8, 0, [])), (995, (42, 0, [])), (996, (3, 0, [0])), (997, (1, 0, [3])), (998, (0, 2, [])), (999, (8, 0, [])), (1000, (42, 0, [])), (1001, (3, 0, [0])), (1002, (1, 0, [3])), (1003, (0, 3, [])), (1004, (8, 0, [])), (1005, (42, 0, [])), (1006, (3, 0, [0])), (1007, (1, 0, [3])), (1008, (0, 4, [])), (1009, (8, 0, [])), (1010, (42, 0, [])), (1011, (3, 0, [0])), (1012, (1, 0, [3])), (1013, (0, 5, [])), (1014, (8, 0, [])), (1015, (42, 0, [])), (1016, (3, 0, [0])), (1017, (1, 0, [3])), (1018, (0, 6, [])), (1020, (8, 0, [])), (1021, (42, 0, [])), (1022, (49, 0, [120, 222])), (1025, (38, 0, [])), (1026, (36, 0, [0, 822])), (1029, (0, 0, [])), (1030, (51, 0, [])), (1031, (3, 0, [1])), (1032, (3, 0, [0])), (1033, (1, 0, [3])), (1034, (0, 1, [])), (1035, (8, 0, [])), (1036, (42, 0, [])), (1037, (3, 0, [0])), (1038, (1, 0, [3])), (1039, (0, 2, [])), (1040, (8, 0, [])), (1041, (42, 0, [])), (1042, (3, 0, [0])), (1043, (1, 0, [3])), (1044, (0, 3, [])), (1045, (8, 0, [])), (1046, (42, 0, [])), (1047, (49, 0, [121, 122])), (1050, (3, 0, [2])), (1051, (3, 0, [0])), (1052, (1, 0, [3])), (1053, (0, 1, [])), (1054, (8, 0, [])), (1055, (42, 0, [])), (1056, (3, 0, [0])), (1057, (1, 0, [3])), (1058, (0, 2, [])), (1059, (8, 0, [])), (1060, (42, 0, [])), (1061, (3, 0, [0])), (1062, (1, 0, [3])), (1063, (0, 3, [])), (1064, (8, 0, [])), (1065, (42, 0, [])), (1066, (49, 0, [124, 227])), (1069, (35, 0, [0, 822])), (1072, (0, 0, [])), (1073, (51, 0, [])), (1074, (3, 0, [1])), (1075, (3, 0, [0])), (1076, (1, 0, [3])), (1077, (0, 1, [])), (1078, (8, 0, [])), (1079, (42, 0, [])), (1080, (3, 0, [0])), (1081, (1, 0, [3])), (1082, (0, 2, [])), (1083, (8, 0, [])), (1084, (42, 0, [])), (1085, (49, 0, [125, 123])), (1088, (3, 0, [2])), (1089, (3, 0, [0])), (1090, (1, 0, [3])), (1091, (0, 1, [])), (1092, (8, 0, [])), (1093, (42, 0, [])), (1094, (3, 0, [0])), (1095, (1, 0, [3])), (1096, (0, 2, [])), (1097, (8, 0, [])), (1098, (42, 0, [])), (1099, (49, 0, [128, 228])), (1102, (35, 0, [0, 822])), (1105, (0, 0, [])), (1106, (51, 0, [])), (1107, (3, 0, [1])), (1108, (49, 0, [129, 124])), (1111, (3, 0, [2])), (1112, (49, 0, [132, 230])), (1115, (35, 0, [0, 822])), (1118, (0, 0, [])), (1119, (51, 0, [])), (1120, (3, 0, [1])), (1121, (49, 0, [133, 125])), (1124, (3, 0, [2])), (1125, (49, 0, [136, 231])), (1128, (35, 0, [0, 822])), (1131, (0, 0, [])), (1132, (51, 0, [])), (1133, (3, 0, [1])), (1134, (3, 0, [0])), (1135, (1, 0, [3])), (1136, (0, 1, [])), (1137, (8, 0, [])), (1138, (42, 0, [])), (1139, (49, 0, [137, 126])), (1142, (3, 0, [2])), (1143, (3, 0, [0])), (1144, (1, 0, [3])), (1145, (0, 1, [])), (1146, (8, 0, [])), (1147, (42, 0, [])), (1148, (49, 0, [140, 232])), (1151, (35, 0, [0, 822])), (1154, (0, 0, [])), (1155, (51, 0, [])), (1156, (7, 7, [3])), (1159, (37, 0, [10])), (1162, (0, 1, [])), (1163, (51, 0, []))])
end
section
/-! THE JUDGEMENT zW: a method of the tables, at its k-th instruction, with whole numbers as locals, operands and cells, comes to an end with Q of its answer and of the cells then. Its rules stand behind it, one an instruction; nothing behind them speaks of the machine. -/
abbrev zHp : Type := Nat → Nat → Int
abbrev zV : Type := Int ⊕ Int ⊕ Nat
def zI32 (a : Int) : Prop := -2147483648 ≤ a ∧ a ≤ 2147483647
def zI64 (a : Int) : Prop := -9223372036854775808 ≤ a ∧ a ≤ 9223372036854775807
def w32 (a : Int) : Int := (Int32.ofInt a).toInt
def w64 (a : Int) : Int := (Int64.ofInt a).toInt
theorem w32_r (a : Int) : zI32 (w32 a) := by
  have h1 := Int32.le_toInt (Int32.ofInt a)
  have h2 := Int32.toInt_lt (Int32.ofInt a)
  unfold zI32 w32
  omega
theorem w64_r (a : Int) : zI64 (w64 a) := by
  have h1 := Int64.le_toInt (Int64.ofInt a)
  have h2 := Int64.toInt_lt (Int64.ofInt a)
  unfold zI64 w64
  omega
theorem w32_o (a : Int) : Int32.ofInt (w32 a) = Int32.ofInt a := Int32.ofInt_toInt _
theorem w64_o (a : Int) : Int64.ofInt (w64 a) = Int64.ofInt a := Int64.ofInt_toInt _
theorem w32_t {a : Int} (h : zI32 a) : (Int32.ofInt a).toInt = a := Int32.toInt_ofInt_of_le (by have := h.1; omega) (by have := h.2; omega)
theorem w64_t {a : Int} (h : zI64 a) : (Int64.ofInt a).toInt = a := Int64.toInt_ofInt_of_le (by have := h.1; omega) (by have := h.2; omega)
theorem w32_i {a : Int} (h : zI32 a) : w32 a = a := w32_t h
theorem w64_i {a : Int} (h : zI64 a) : w64 a = a := w64_t h
theorem zI32_d {a : Int} (h : decide (-2147483648 ≤ a ∧ a ≤ 2147483647) = true) : zI32 a := (of_decide_eq_true h : -2147483648 ≤ a ∧ a ≤ 2147483647)
theorem o32_eq {a b : Int} (ha : zI32 a) (hb : zI32 b) : Int32.ofInt a = Int32.ofInt b ↔ a = b := ⟨fun h => by rw [← w32_t ha, ← w32_t hb, h], fun h => by rw [h]⟩
theorem o32_lt {a b : Int} (ha : zI32 a) (hb : zI32 b) : Int32.ofInt a < Int32.ofInt b ↔ a < b := by rw [Int32.lt_iff_toInt_lt, w32_t ha, w32_t hb]
theorem o32_le {a b : Int} (ha : zI32 a) (hb : zI32 b) : Int32.ofInt a ≤ Int32.ofInt b ↔ a ≤ b := by rw [Int32.le_iff_toInt_le, w32_t ha, w32_t hb]
theorem o64_eq {a b : Int} (ha : zI64 a) (hb : zI64 b) : Int64.ofInt a = Int64.ofInt b ↔ a = b := ⟨fun h => by rw [← w64_t ha, ← w64_t hb, h], fun h => by rw [h]⟩
theorem o64_lt {a b : Int} (ha : zI64 a) (hb : zI64 b) : Int64.ofInt a < Int64.ofInt b ↔ a < b := by rw [Int64.lt_iff_toInt_lt, w64_t ha, w64_t hb]
/-- the bits' operations, by the machine's own -/
def zand (a b : Int) : Int := (Int32.ofInt a &&& Int32.ofInt b).toInt
def zor (a b : Int) : Int := (Int32.ofInt a ||| Int32.ofInt b).toInt
def zxor (a b : Int) : Int := (Int32.ofInt a ^^^ Int32.ofInt b).toInt
def zshl (a b : Int) : Int := (Int32.ofInt a <<< (Int32.ofInt b &&& 31)).toInt
def zshr (a b : Int) : Int := (Int32.ofInt a >>> (Int32.ofInt b &&& 31)).toInt
def zushr (a b : Int) : Int := (((Int32.ofInt a).toUInt32 >>> ((Int32.ofInt b).toUInt32 &&& Int32.toUInt32 31)).toInt32).toInt
def zland (a b : Int) : Int := (Int64.ofInt a &&& Int64.ofInt b).toInt
def zlor (a b : Int) : Int := (Int64.ofInt a ||| Int64.ofInt b).toInt
def zlshl (a b : Int) : Int := (Int64.ofInt a <<< ((Int32.ofInt b).toInt64 &&& 63)).toInt
def zcmp (a b : Int) : Int := if b < a then 1 else if a = b then 0 else -1
theorem zt32_r (x : Int32) : zI32 x.toInt := by
  have h1 := Int32.le_toInt x
  have h2 := Int32.toInt_lt x
  unfold zI32
  omega
theorem zt64_r (x : Int64) : zI64 x.toInt := by
  have h1 := Int64.le_toInt x
  have h2 := Int64.toInt_lt x
  unfold zI64
  omega
-- the world
abbrev zE : Type := va_G × (Nat → Nat) × (ClassId × ClassId × ClassId) × (Nat → Prop) × Value × (Nat × List Int)
abbrev zgD (E : zE) : va_G := E.1
abbrev zad (E : zE) : Nat → Nat := E.2.1
abbrev ztys (E : zE) : List (ClassId × FieldType) := [(E.2.2.1.1, .int), (E.2.2.1.2.1, .long), (E.2.2.1.2.2, .boolean)]
abbrev zA (E : zE) : Nat → Prop := E.2.2.2.1
abbrev zfm (E : zE) : Value := E.2.2.2.2.1
abbrev zsc (E : zE) : Nat × List Int := E.2.2.2.2.2
def zrf (E : zE) (k : Nat) : Value := if k = 1005 then zfm E else .ref (zad E k)
def zup (E : zE) : zV → Value
  | .inl a => .int (Int32.ofInt a)
  | .inr (.inl a) => .long (Int64.ofInt a)
  | .inr (.inr k) => zrf E k
def zrv : zV → Prop
  | .inl a => zI32 a
  | .inr (.inl a) => zI64 a
  | .inr (.inr _) => True
def zJk : zV := .inr (.inr 9999)
def zfv (E : zE) (h : zHp) (id k kd : Nat) : Value := if kd = 1 then .long (Int64.ofInt (h id k)) else if kd < 3 then .int (Int32.ofInt (h id k)) else .ref (zad E (kd - 3))
def zce (E : zE) (h : zHp) (id : Nat) : zDsc → va_E
  | .inl (ci, ks) => .inr (ci, ks.mapIdx (fun k kd => zfv E h id k kd))
  | .inr (kd, n) => if kd = 1 then .inl (E.2.2.1.2.1, n, .inr (.inl (fun i => Int64.ofInt (h id i)))) else .inl (if kd = 0 then E.2.2.1.1 else E.2.2.1.2.2, n, .inl (fun i => Int32.ofInt (h id i)))
def zwl (E : zE) (h : zHp) : va_W := zO.mapIdx (fun id d => (zad E id, zce E h id d))
def zst (h : zHp) (id k : Nat) (v : Int) : zHp := fun o j => if o = id ∧ j = k then v else h o j
def zlg (o i : Nat) : Bool := match zO[o]? with
  | some (.inl q) => q.2[i]? == some 1
  | some (.inr q) => q.1 == 1
  | none => false
def zbl (o i : Nat) : Bool := match zO[o]? with
  | some (.inl q) => q.2[i]? == some 2
  | some (.inr q) => q.1 == 2
  | none => false
def zRg (h : zHp) : Prop := ∀ o i, (if zlg o i = true then zI64 (h o i) else zI32 (h o i)) ∧ (zbl o i = true → h o i = 0 ∨ h o i = 1)
theorem zwl_at {E : zE} {h : zHp} {id : Nat} {d : zDsc} (hO : zO[id]? = some d) : (zwl E h)[id]? = some (zad E id, zce E h id d) := by
  unfold zwl
  rw [List.getElem?_mapIdx, hO]
  rfl
theorem zce_ne {E : zE} {h : zHp} {id k j : Nat} {v : Int} (d : zDsc) (hj : j ≠ id) : zce E (zst h id k v) j d = zce E h j d := by
  have e : ∀ i, zst h id k v j i = h j i := fun i => by unfold zst; rw [if_neg (fun q => hj q.1)]
  cases d with
  | inl q => simp only [zce, zfv, e]
  | inr q => simp only [zce, e]
theorem zwl_set {E : zE} {h : zHp} {id k : Nat} {v : Int} {d : zDsc} (hO : zO[id]? = some d) : (zwl E h).set id (zad E id, zce E (zst h id k v) id d) = zwl E (zst h id k v) := by
  apply List.ext_getElem?
  intro j
  rw [List.getElem?_set]
  by_cases hj : id = j
  · subst hj
    have : id < (zwl E h).length := by
      unfold zwl
      rw [List.length_mapIdx]
      exact (List.getElem?_eq_some_iff.mp hO).1
    rw [if_pos rfl, if_pos this]
    exact (zwl_at hO).symm
  · rw [if_neg hj]
    unfold zwl
    rw [List.getElem?_mapIdx, List.getElem?_mapIdx]
    cases hd : zO[j]? with
    | none => rfl
    | some d' => simp only [Option.map_some, zce_ne d' (Ne.symm hj)]
theorem zRg_st {h : zHp} {id k : Nat} {v : Int} (hr : zRg h) (hv : if zlg id k = true then zI64 v else zI32 v) (hb : zbl id k = true → v = 0 ∨ v = 1) : zRg (zst h id k v) := by
  intro o i
  unfold zst
  by_cases q : o = id ∧ i = k
  · obtain ⟨rfl, rfl⟩ := q
    simp only [and_self, if_true]
    exact ⟨hv, hb⟩
  · rw [if_neg q]
    exact hr o i
theorem zRg_i {h : zHp} {o i : Nat} (hr : zRg h) (hl : zlg o i = false) : zI32 (h o i) := by
  have := (hr o i).1
  rwa [hl, if_neg (by decide)] at this
theorem zRg_l {h : zHp} {o i : Nat} (hr : zRg h) (hl : zlg o i = true) : zI64 (h o i) := by
  have := (hr o i).1
  rwa [hl, if_pos rfl] at this
theorem zRg_b {h : zHp} {o i : Nat} (hr : zRg h) (hl : zbl o i = true) : h o i = 0 ∨ h o i = 1 := (hr o i).2 hl
-- methods
def zhd (M : zMeth) : zHdr := (zHd[M.1]?).getD (0, ⟨"", "", ""⟩, ⟨#[]⟩, 0, none, false, 0)
abbrev zny (M : zMeth) : MethodName := (zhd M).2.1
abbrev zby (M : zMeth) : ByteArray := (zhd M).2.2.1
abbrev zml (M : zMeth) : Nat := (zhd M).2.2.2.1
abbrev zrt (M : zMeth) : Option FieldType := (zhd M).2.2.2.2.1
abbrev zcn (n : Nat) : String := (zcns[n]?).getD ""
abbrev zcl (M : zMeth) : String := zcn (zhd M).1
def zpc (M : zMeth) (k : Nat) : Nat := ((M.2[k]?).map (·.1)).getD 0
def zop (M : zMeth) (k : Nat) : zI := ((M.2[k]?).map (·.2)).getD (999, 0, [])
def zdc (M : zMeth) (k n : Nat) (i : Instr) : Bool := decide (decode (zby M) (zpc M k) = .ok (i, n)) && decide (zpc M (k + 1) = zpc M k + n)
def zoff (M : zMeth) (k t : Nat) : Int := (zpc M t : Int) - (zpc M k : Int)
def zcnd : Nat → ClassFile.Cond
  | 0 => .eq | 1 => .ne | 2 => .lt | 3 => .ge | 4 => .gt | _ => .le
def zsim : Nat → Option Instr
  | 8 => some .iadd | 9 => some .isub | 10 => some .imul | 11 => some .idiv | 12 => some .irem | 13 => some .ineg
  | 14 => some .iand | 15 => some .ior | 16 => some .ixor | 17 => some .ishl | 18 => some .ishr | 19 => some .iushr
  | 20 => some .ladd | 21 => some .lsub | 22 => some .lmul | 23 => some .ldiv | 24 => some .lrem | 25 => some .lneg
  | 26 => some .land | 27 => some .lor | 28 => some .lshl | 29 => some .i2l | 30 => some .l2i | 32 => some .dup | 33 => some .dup2 | 34 => some .pop
  | 38 => some .lcmp | 42 => some .iaload | 43 => some .iastore | 44 => some .laload | 45 => some .lastore | 46 => some .baload | 47 => some .bastore | 48 => some .arraylength
  | _ => none
def zg (l : List Nat) (i : Nat) : Nat := (l[i]?).getD 0
def zhj (j : Nat) : zHdr := (zHd[j]?).getD (0, ⟨"", "", ""⟩, ⟨#[]⟩, 0, none, false, 0)
def zIok (j : Nat) : Bool := zCq.contains j && (zIq.contains j && (zEq.contains j && zNq.contains (zhj j).1))
def zSok (j : Nat) : Bool := zCq.contains j && (zSq.contains j && zNq.contains (zhj j).1)
def zck (o : zI) (M : zMeth) (k : Nat) : Bool :=
  match zsim o.1 with
  | some i => zdc M k 1 i
  | none => match o.1 with
    | 0 => decide (-2147483648 ≤ o.2.1 ∧ o.2.1 ≤ 2147483647) && (zdc M k 1 (.iconst o.2.1) || ((decide ((Int8.ofInt o.2.1).toInt32 = Int32.ofInt o.2.1) && zdc M k 2 (.bipush o.2.1)) || ((decide ((Int16.ofInt o.2.1).toInt32 = Int32.ofInt o.2.1) && zdc M k 3 (.sipush o.2.1)) ||
        (decide (Jvm.Cond.constant (zcl M) (zg o.2.2 0) (Int32.ofInt o.2.1) ∈ lw_tbl) && (zdc M k 2 (.ldc (zg o.2.2 0)) || zdc M k 3 (.ldc_w (zg o.2.2 0)))))))
    | 1 => zdc M k 2 (.iload (zg o.2.2 0)) || (decide (zg o.2.2 0 < 4) && zdc M k 1 (.iload_n (Fin.ofNat 4 (zg o.2.2 0))))
    | 2 => zdc M k 2 (.istore (zg o.2.2 0)) || (decide (zg o.2.2 0 < 4) && zdc M k 1 (.istore_n (Fin.ofNat 4 (zg o.2.2 0))))
    | 3 => zdc M k 2 (.aload (zg o.2.2 0)) || (decide (zg o.2.2 0 < 4) && zdc M k 1 (.aload_n (Fin.ofNat 4 (zg o.2.2 0))))
    | 4 => zdc M k 2 (.astore (zg o.2.2 0)) || (decide (zg o.2.2 0 < 4) && zdc M k 1 (.astore_n (Fin.ofNat 4 (zg o.2.2 0))))
    | 5 => zdc M k 2 (.lload (zg o.2.2 0)) || (decide (zg o.2.2 0 < 4) && zdc M k 1 (.lload_n (Fin.ofNat 4 (zg o.2.2 0))))
    | 6 => zdc M k 2 (.lstore (zg o.2.2 0)) || (decide (zg o.2.2 0 < 4) && zdc M k 1 (.lstore_n (Fin.ofNat 4 (zg o.2.2 0))))
    | 7 => zdc M k 3 (.iinc (zg o.2.2 0) o.2.1)
    | 31 => decide (-9223372036854775808 ≤ o.2.1 ∧ o.2.1 ≤ 9223372036854775807) && ((decide (o.2.1 = 0) && zdc M k 1 (.lconst 0)) || ((decide (o.2.1 = 1) && zdc M k 1 (.lconst 1)) || (decide (Jvm.Cond.constantLong (zcl M) (zg o.2.2 0) (Int64.ofInt o.2.1) ∈ lw_tbl) && zdc M k 3 (.ldc2_w (zg o.2.2 0)))))
    | 35 => zdc M k 3 (.if_icmp (zcnd (zg o.2.2 0)) (zoff M k (zg o.2.2 1)))
    | 36 => zdc M k 3 (.ifCond (zcnd (zg o.2.2 0)) (zoff M k (zg o.2.2 1)))
    | 37 => decide (decode (zby M) (zpc M k) = .ok (.goto (zoff M k (zg o.2.2 0)), 3))
    | 39 => decide (decode (zby M) (zpc M k) = .ok (.tableswitch (zoff M k (zg o.2.2 0)) o.2.1 (o.2.1 + (o.2.2.length : Int) - 2) ((o.2.2.drop 1).map (zoff M k)).toArray, zpc M (k + 1) - zpc M k))
    | 40 => zdc M k 3 (.getfield (zg o.2.2 0)) && (zFp.contains ((zhd M).1, zg o.2.2 0, zg o.2.2 1, zg o.2.2 2, false) || zFp.contains ((zhd M).1, zg o.2.2 0, zg o.2.2 1, zg o.2.2 2, true))
    | 41 => zdc M k 3 (.putfield (zg o.2.2 0)) && (zFp.contains ((zhd M).1, zg o.2.2 0, zg o.2.2 1, zg o.2.2 2, false) || zFp.contains ((zhd M).1, zg o.2.2 0, zg o.2.2 1, zg o.2.2 2, true))
    | 49 => zdc M k 3 (.invokevirtual (zg o.2.2 0)) && (zMp.contains ((zhd M).1, zg o.2.2 0, zg o.2.2 1, false) && zIok (zg o.2.2 1))
    | 50 => zdc M k 3 (.invokestatic (zg o.2.2 0)) && ((zMp.contains ((zhd M).1, zg o.2.2 0, zg o.2.2 1, false) || zMp.contains ((zhd M).1, zg o.2.2 0, zg o.2.2 1, true)) && zSok (zg o.2.2 1))
    | 51 => decide (decode (zby M) (zpc M k) = .ok (.ireturn, 1))
    | 52 => decide (decode (zby M) (zpc M k) = .ok (.lreturn, 1))
    | 53 => decide (decode (zby M) (zpc M k) = .ok (.return_, 1))
    | _ => true
def zchk (M : zMeth) : Bool := (List.range M.2.length).all (fun k => zck (zop M k) M k)
theorem zck_at {M : zMeth} {k : Nat} {o : zI} (hc : zchk M = true) (ho : zop M k = o) (h9 : o.1 ≠ 999) : zck o M k = true := by
  have hk : k < M.2.length := by
    rcases Nat.lt_or_ge k M.2.length with h | h
    · exact h
    · exact absurd (by rw [← ho]; unfold zop; rw [List.getElem?_eq_none h]; rfl) h9
  have := List.all_eq_true.mp hc k (List.mem_range.mpr hk)
  rwa [ho] at this
theorem zdc_at {M : zMeth} {k n : Nat} {i : Instr} (h : zdc M k n i = true) : decode (zby M) (zpc M k) = .ok (i, n) ∧ zpc M (k + 1) = zpc M k + n := by
  have h := (Bool.and_eq_true _ _).mp h
  exact ⟨of_decide_eq_true h.1, of_decide_eq_true h.2⟩
theorem zoff_at (M : zMeth) (k t : Nat) : (zpc M k : Int) + zoff M k t = (zpc M t : Int) := by
  unfold zoff
  omega
theorem zsim_at {M : zMeth} {k n : Nat} {i : Instr} (hc : zchk M = true) (ho : zop M k = (n, 0, [])) (h9 : n ≠ 999) (hi : zsim n = some i) : decode (zby M) (zpc M k) = .ok (i, 1) ∧ zpc M (k + 1) = zpc M k + 1 := by
  have h := zck_at hc ho h9
  unfold zck at h
  simp only [hi] at h
  exact zdc_at h
end
section
/-! the judgement itself -/
def zsl : List Nat := [99, 11]
def zsb : List (List Int32) := [("hour pitch farm ear own far yoked ox strength weaker soil heeds second slip calls work or and not ".toList.map (fun c => Int32.ofNat c.toNat)), ("<>=#+-*/();".toList.map (fun c => Int32.ofNat c.toNat))]
/-- words between nest mates ride with the state -/
def zNw : Jvm.Cond → Bool
  | .fieldLinkNest _ _ _ _ _ _ => true
  | .methodLinkNest _ _ _ _ => true
  | _ => false
theorem zNw_warm {w : Jvm.Cond} (hn : zNw w = true) {s U : State} (hW : s.WarmedH U.vm) (h : va_Nw w s) : va_Nw w U := by
  cases w with
  | fieldLinkNest a b c d e f => exact va_Nw.warmF hW h
  | methodLinkNest a b c d => exact va_Nw.warmM hW h
  | _ => cases hn
theorem zNw_use {w : Jvm.Cond} (hn : zNw w = true) {s : State} {args : Array Value} (h : va_Nw w s) : w.before args s = true := by
  cases w with
  | fieldLinkNest a b c d e f => exact va_Nw.use rfl h
  | methodLinkNest a b c d => exact va_Nw.use rfl h
  | _ => cases hn
def zStr (E : zE) (U : State) : Prop :=
  zad E 1000 < U.heap.size ∧ ¬ zA E (zad E 1000) ∧ va_X (zad E 1000) (zsc E).1 (fun j => Int32.ofInt ((zsc E).2.getD j 0)) U U.heap ∧
  vk_S 2 zsl zsb (fun i => zad E (1001 + i)) (fun i => zad E (1003 + i)) (zA E) U U.heap ∧
  vk_R "OxenHome$Reader" 145 "hour pitch farm ear own far yoked ox strength weaker soil heeds second slip calls work or and not " (zad E 1001) U ∧ vk_R "OxenHome$Reader" 161 "<>=#+-*/();" (zad E 1002) U ∧
  va_Z "java/lang/String" "COMPACT_STRINGS" "Z" (.int 1) (zA E) U U.heap ∧ va_Z "jdk/internal/util/Preconditions" "SIOOBE_FORMATTER" "Ljava/util/function/BiFunction;" (zfm E) (zA E) U U.heap ∧
  ∀ w ∈ lw_tbl, zNw w = true → va_Nw w U
theorem zStr_mv {E : zE} {s U : State} (h : zStr E s) (hW : s.WarmedH U.vm) (hz : s.heap.size ≤ U.heap.size) (hk : ∀ q : Nat, q < s.heap.size → ¬ zA E q → U.heap[q]? = s.heap[q]?) : zStr E U := by
  obtain ⟨h1, h2, h3, h4, h5, h6, h7, h8, h9⟩ := h
  refine ⟨Nat.lt_of_lt_of_le h1 hz, h2, ?_, ?_, vk_R.warm hW h5, vk_R.warm hW h6, ?_, ?_, fun w hw hn => zNw_warm hn hW (h9 w hw hn)⟩
  · exact (h3.moved hW.alike).kept (hk _ h1 h2)
  · exact (h4.moved hW.alike).kept hk
  · exact (h7.moved hW.alike).kept hk
  · exact (h8.moved hW.alike).kept hk
def zrm (d : Nat) : Room := { frames := d, cells := 0, slots := 0, locals := 40 * d }
def lw_tblg : List Jvm.Cond := lw_tbl.filter goodWord
def zws (M : zMeth) : List Jvm.Cond := .code (zny M) (zby M) (zml M) (zrt M) :: lw_tblg
def zri (M : zMeth) : Instr := match zrt M with
  | none => .return_
  | some .long => .lreturn
  | some _ => .ireturn
def zrs (M : zMeth) (r : Int) : List Value := match zrt M with
  | none => []
  | some .long => [.long (Int64.ofInt r)]
  | some _ => [.int (Int32.ofInt r)]
def zrz (M : zMeth) (r : Int) : List zV := match zrt M with
  | none => []
  | some .long => [.inr (.inl r)]
  | some _ => [.inl r]
def zRr (M : zMeth) (r : Int) : Prop := match zrt M with
  | none => r = 0
  | some .long => zI64 r
  | some t => zI32 r ∧ narrow t (.int (Int32.ofInt r)) = .int (Int32.ofInt r)
theorem zrs_z (E : zE) (M : zMeth) (r : Int) : zrs M r = (zrz M r).map (zup E) := by
  unfold zrs zrz
  split <;> rfl
theorem zRr_v {M : zMeth} {r : Int} (h : zRr M r) : ∀ v ∈ zrz M r, zrv v := by
  unfold zRr at h
  unfold zrz
  split at h
  · intro v hv; cases hv
  · intro v hv
    rcases List.mem_singleton.mp hv with rfl
    exact h
  · intro v hv
    rcases List.mem_singleton.mp hv with rfl
    exact h.1
def zU (E : zE) (h : zHp) (U : State) : Prop := zRg h ∧ va_P (zgD E) vwCl (zwl E h) U.heap ∧ va_K (zgD E) vwCl (ztys E) U ∧ zStr E U
def zQc (E : zE) (M : zMeth) (Q : Int → zHp → Prop) : Array Value → State → Outcome → State → Prop := fun _ st oc t =>
  (∃ (r : Int) (h : zHp), oc = .returned (zrs M r).head? ∧ zRr M r ∧ Q r h ∧ zRg h ∧ va_P (zgD E) vwCl (zwl E h) t.heap) ∧ va_F (zA E) st t
def zEo (E : zE) : Prop := ∀ h : zHp, va_D (zA E) (zwl E h)
/-- a call's contract -/
def zC (l : Launch) (E : zE) (d : Nat) (M : zMeth) (as : List zV) (h : zHp) (Q : Int → zHp → Prop) : Prop :=
  (∀ v ∈ as, zrv v) → zRg h → zEo E → (zfm E).category = 1 → Met l (zny M) (zws M) (zrm d) (va_Pc (as.map (zup E)) (fun U => zU E h U)) (zQc E M Q) 0 0 (zA E)
def zX (E : zE) (d : Nat) (M : zMeth) (p : Program) (R : Room) (s : State) (m : MethodId) (args : Array Value) (c : Code) (cells slots : Nat) : Prop :=
  p.tables.exec = Jvm.exec ∧ c.code = zby M ∧ c.maxLocals = zml M ∧ s.vm.findClass (zcl M) = some m.cls ∧ (∀ w ∈ lw_tblg, w.before args s = true) ∧ va_K (zgD E) vwCl (ztys E) s ∧ zEo E ∧ zchk M = true ∧ (d ≤ R.frames ∧ 40 * d ≤ R.locals) ∧ (cells ≤ R.cells ∧ slots ≤ R.slots) ∧ zStr E s ∧ (zfm E).category = 1
def zSt (E : zE) (h : zHp) (s : State) (H : Heap) (locs : List Loc) : Prop := zRg h ∧ va_P (zgD E) vwCl (zwl E h) H ∧ va_S (zA E) s.heap H locs
def zLs (E : zE) (n : Nat) (L : List zV) (ls : Array Slot) : Prop := L.length = n ∧ (∀ v ∈ L, zrv v) ∧ ∃ lv : List (Nat × Value), lv_has ls n lv ∧ ∀ (j : Nat) (v : zV), L[j]? = some v → v ≠ zJk → (j, zup E v) ∈ lv
def zEd (E : zE) (M : zMeth) (Q : Int → zHp → Prop) (p : Program) (l : Launch) (e : Env) (R : Room) (s : State) (m : MethodId) (args : Array Value) (below : List Frame) (meth : Method) (c : Code) (cells slots : Nat) (QQ : State → Prop) : Prop :=
  ∀ (r : Int) (h : zHp) (H : Heap) (locs : List Loc) (pc : Nat) (ls : Array Slot), zSt E h s H locs → zRr M r → Q r h → decode (zby M) pc = .ok (zri M, 1) → W p l e R s m args below meth c H locs cells slots QQ (F0 m pc ls (zrs M r))
def zW (l : Launch) (E : zE) (d : Nat) (M : zMeth) (k : Nat) (L S : List zV) (h : zHp) (Q : Int → zHp → Prop) : Prop :=
  ∀ (p : Program) (e : Env) (R : Room) (s : State) (m : MethodId) (args : Array Value) (below : List Frame) (meth : Method) (c : Code) (H : Heap) (locs : List Loc) (ls : Array Slot) (cells slots : Nat) (QQ : State → Prop),
    zX E d M p R s m args c cells slots → zEd E M Q p l e R s m args below meth c cells slots QQ → zSt E h s H locs → zLs E (zml M) L ls → (∀ v ∈ S, zrv v) →
    W p l e R s m args below meth c H locs cells slots QQ (F0 m (zpc M k) ls (S.map (zup E)))
theorem lw_tblg_in : ∀ w ∈ lw_tblg, w ∈ lw_tbl ∧ goodWord w = true := fun w h => List.mem_filter.mp h
/-- the arguments as locals -/
def zlf (as : List zV) : List zV := as.flatMap (fun v => match v with
  | .inr (.inl a) => [.inr (.inl a), zJk]
  | .inl a => [.inl a]
  | .inr (.inr i) => [.inr (.inr i)])
def zla (n : Nat) (as : List zV) : List zV := zlf as ++ List.replicate (n - (zlf as).length) zJk
theorem zup_cat1 (E : zE) (hf : (zfm E).category = 1) (v : zV) : (zup E v).category = match v with | .inr (.inl _) => 2 | _ => 1 := by
  match v with
  | .inl a => rfl
  | .inr (.inl a) => rfl
  | .inr (.inr k) =>
    show (zrf E k).category = 1
    unfold zrf
    split
    · exact hf
    · rfl
end
section
/-! the rules of zW, one an instruction; by program (wip/whole/rules.py) -/
section ZR
variable {l : Launch} {E : zE} {d : Nat} {M : zMeth} {k : Nat} {L S : List zV} {h : zHp} {Q : Int → zHp → Prop}
theorem z_sim {n : Nat} {i : Instr} {S' : List zV} (ho : zop M k = (n, 0, [])) (h9 : n ≠ 999) (hi : zsim n = some i)
    (st : ∀ (p : Program) (e : Env) (R : Room) (s : State) (m : MethodId) (args : Array Value) (below : List Frame) (meth : Method) (c : Code) (H : Heap) (locs : List Loc) (ls : Array Slot) (cells slots : Nat) (QQ : State → Prop),
      p.tables.exec = Jvm.exec → c.code = zby M → decode (zby M) (zpc M k) = .ok (i, 1) → (∀ v ∈ S, zrv v) → W p l e R s m args below meth c H locs cells slots QQ (F0 m (zpc M k + 1) ls (S'.map (zup E))) → W p l e R s m args below meth c H locs cells slots QQ (F0 m (zpc M k) ls (S.map (zup E))))
    (hr : (∀ v ∈ S, zrv v) → ∀ v ∈ S', zrv v) (kk : zW l E d M (k + 1) L S' h Q) : zW l E d M k L S h Q := by
  intro p e R s m args below meth c H locs ls cells slots QQ hX hE hS hL hv
  obtain ⟨hdg, hn⟩ := zsim_at hX.2.2.2.2.2.2.2.1 ho h9 hi
  have h1 := kk p e R s m args below meth c H locs ls cells slots QQ hX hE hS hL (hr hv)
  rw [hn] at h1
  exact st p e R s m args below meth c H locs ls cells slots QQ hX.1 hX.2.1 hdg hv h1
theorem zmin32 : Int32.minValue.toInt = -2147483648 := by decide
theorem zmax32 : Int32.maxValue.toInt = 2147483647 := by decide
theorem zmin64 : Int64.minValue.toInt = -9223372036854775808 := by decide
theorem zmax64 : Int64.maxValue.toInt = 9223372036854775807 := by decide
theorem zrv_c {v : zV} {S : List zV} (h : ∀ w ∈ (v :: S), zrv w) : zrv v ∧ ∀ w ∈ S, zrv w := ⟨h v List.mem_cons_self, fun w hw => h w (List.mem_cons_of_mem _ hw)⟩
theorem zrv_k {v : zV} {S : List zV} (h1 : zrv v) (h2 : ∀ w ∈ S, zrv w) : ∀ w ∈ (v :: S), zrv w := fun w hw => (List.mem_cons.mp hw).elim (fun e => by rw [e]; exact h1) (h2 w)
theorem zne0 {b : Int} (hb : zI32 b) (h : b ≠ 0) : ¬ Int32.ofInt b = 0 := fun q => h ((o32_eq hb (show zI32 0 by unfold zI32; omega)).mp q)
theorem zne0l {b : Int} (hb : zI64 b) (h : b ≠ 0) : ¬ Int64.ofInt b = 0 := fun q => h ((o64_eq hb (show zI64 0 by unfold zI64; omega)).mp q)
theorem z_iadd {a b : Int} (ho : zop M k = (8, 0, [])) (kk : zW l E d M (k + 1) L (.inl (w32 (a + b)) :: S) h Q) : zW l E d M k L (.inl b :: .inl a :: S) h Q := by
  refine z_sim ho (by decide) rfl (fun p e R s m args below meth c H locs ls cells slots QQ hx hb hdg hv h1 => ?_) (fun hv => zrv_k (v := .inl (w32 (a + b))) (w32_r _) (zrv_c (zrv_c hv).2).2) kk
  have hb0 := (zrv_c hv).1
  have ha0 := (zrv_c (zrv_c hv).2).1
  refine lv_iadd hx hb hdg ?_
  have e1 : Int32.ofInt a + Int32.ofInt b = Int32.ofInt (w32 (a + b)) := by rw [w32_o, Int32.ofInt_add]
  rw [e1]
  exact h1
theorem z_isub {a b : Int} (ho : zop M k = (9, 0, [])) (kk : zW l E d M (k + 1) L (.inl (w32 (a - b)) :: S) h Q) : zW l E d M k L (.inl b :: .inl a :: S) h Q := by
  refine z_sim ho (by decide) rfl (fun p e R s m args below meth c H locs ls cells slots QQ hx hb hdg hv h1 => ?_) (fun hv => zrv_k (v := .inl (w32 (a - b))) (w32_r _) (zrv_c (zrv_c hv).2).2) kk
  have hb0 := (zrv_c hv).1
  have ha0 := (zrv_c (zrv_c hv).2).1
  refine lv_isub hx hb hdg ?_
  have e1 : Int32.ofInt a - Int32.ofInt b = Int32.ofInt (w32 (a - b)) := by rw [w32_o, Int32.ofInt_sub]
  rw [e1]
  exact h1
theorem z_imul {a b : Int} (ho : zop M k = (10, 0, [])) (kk : zW l E d M (k + 1) L (.inl (w32 (a * b)) :: S) h Q) : zW l E d M k L (.inl b :: .inl a :: S) h Q := by
  refine z_sim ho (by decide) rfl (fun p e R s m args below meth c H locs ls cells slots QQ hx hb hdg hv h1 => ?_) (fun hv => zrv_k (v := .inl (w32 (a * b))) (w32_r _) (zrv_c (zrv_c hv).2).2) kk
  have hb0 := (zrv_c hv).1
  have ha0 := (zrv_c (zrv_c hv).2).1
  refine lv_imul hx hb hdg ?_
  have e1 : Int32.ofInt a * Int32.ofInt b = Int32.ofInt (w32 (a * b)) := by rw [w32_o, Int32.ofInt_mul]
  rw [e1]
  exact h1
theorem z_idiv {a b : Int} (ho : zop M k = (11, 0, [])) (hne : b ≠ 0) (kk : zW l E d M (k + 1) L (.inl (w32 (a.tdiv b)) :: S) h Q) : zW l E d M k L (.inl b :: .inl a :: S) h Q := by
  refine z_sim ho (by decide) rfl (fun p e R s m args below meth c H locs ls cells slots QQ hx hb hdg hv h1 => ?_) (fun hv => zrv_k (v := .inl (w32 (a.tdiv b))) (w32_r _) (zrv_c (zrv_c hv).2).2) kk
  have hb0 := (zrv_c hv).1
  have ha0 := (zrv_c (zrv_c hv).2).1
  refine lv_idiv hx hb hdg (zne0 hb0 hne) ?_
  have e1 : Int32.ofInt a / Int32.ofInt b = Int32.ofInt (w32 (a.tdiv b)) := by rw [w32_o, Int32.ofInt_tdiv (by rw [zmin32]; exact ha0.1) (by rw [zmax32]; exact ha0.2) (by rw [zmin32]; exact hb0.1) (by rw [zmax32]; exact hb0.2)]
  rw [e1]
  exact h1
theorem z_irem {a b : Int} (ho : zop M k = (12, 0, [])) (hne : b ≠ 0) (kk : zW l E d M (k + 1) L (.inl (w32 (a.tmod b)) :: S) h Q) : zW l E d M k L (.inl b :: .inl a :: S) h Q := by
  refine z_sim ho (by decide) rfl (fun p e R s m args below meth c H locs ls cells slots QQ hx hb hdg hv h1 => ?_) (fun hv => zrv_k (v := .inl (w32 (a.tmod b))) (w32_r _) (zrv_c (zrv_c hv).2).2) kk
  have hb0 := (zrv_c hv).1
  have ha0 := (zrv_c (zrv_c hv).2).1
  refine lv_irem hx hb hdg (zne0 hb0 hne) ?_
  have e1 : Int32.ofInt a - Int32.ofInt a / Int32.ofInt b * Int32.ofInt b = Int32.ofInt (w32 (a.tmod b)) := by rw [w32_o, ← Int32.ofInt_tdiv (by rw [zmin32]; exact ha0.1) (by rw [zmax32]; exact ha0.2) (by rw [zmin32]; exact hb0.1) (by rw [zmax32]; exact hb0.2), ← Int32.ofInt_mul, ← Int32.ofInt_sub]; congr 1; have := Int.tmod_add_tdiv_mul a b; omega
  rw [e1]
  exact h1
theorem z_iand {a b : Int} (ho : zop M k = (14, 0, [])) (kk : zW l E d M (k + 1) L (.inl (zand a b) :: S) h Q) : zW l E d M k L (.inl b :: .inl a :: S) h Q := by
  refine z_sim ho (by decide) rfl (fun p e R s m args below meth c H locs ls cells slots QQ hx hb hdg hv h1 => ?_) (fun hv => zrv_k (v := .inl (zand a b)) (zt32_r _) (zrv_c (zrv_c hv).2).2) kk
  have hb0 := (zrv_c hv).1
  have ha0 := (zrv_c (zrv_c hv).2).1
  refine lv_iand hx hb hdg ?_
  have e1 : Int32.ofInt a &&& Int32.ofInt b = Int32.ofInt (zand a b) := (Int32.ofInt_toInt _).symm
  rw [e1]
  exact h1
theorem z_ior {a b : Int} (ho : zop M k = (15, 0, [])) (kk : zW l E d M (k + 1) L (.inl (zor a b) :: S) h Q) : zW l E d M k L (.inl b :: .inl a :: S) h Q := by
  refine z_sim ho (by decide) rfl (fun p e R s m args below meth c H locs ls cells slots QQ hx hb hdg hv h1 => ?_) (fun hv => zrv_k (v := .inl (zor a b)) (zt32_r _) (zrv_c (zrv_c hv).2).2) kk
  have hb0 := (zrv_c hv).1
  have ha0 := (zrv_c (zrv_c hv).2).1
  refine lv_ior hx hb hdg ?_
  have e1 : Int32.ofInt a ||| Int32.ofInt b = Int32.ofInt (zor a b) := (Int32.ofInt_toInt _).symm
  rw [e1]
  exact h1
theorem z_ixor {a b : Int} (ho : zop M k = (16, 0, [])) (kk : zW l E d M (k + 1) L (.inl (zxor a b) :: S) h Q) : zW l E d M k L (.inl b :: .inl a :: S) h Q := by
  refine z_sim ho (by decide) rfl (fun p e R s m args below meth c H locs ls cells slots QQ hx hb hdg hv h1 => ?_) (fun hv => zrv_k (v := .inl (zxor a b)) (zt32_r _) (zrv_c (zrv_c hv).2).2) kk
  have hb0 := (zrv_c hv).1
  have ha0 := (zrv_c (zrv_c hv).2).1
  refine lv_ixor hx hb hdg ?_
  have e1 : Int32.ofInt a ^^^ Int32.ofInt b = Int32.ofInt (zxor a b) := (Int32.ofInt_toInt _).symm
  rw [e1]
  exact h1
theorem z_ishl {a b : Int} (ho : zop M k = (17, 0, [])) (kk : zW l E d M (k + 1) L (.inl (zshl a b) :: S) h Q) : zW l E d M k L (.inl b :: .inl a :: S) h Q := by
  refine z_sim ho (by decide) rfl (fun p e R s m args below meth c H locs ls cells slots QQ hx hb hdg hv h1 => ?_) (fun hv => zrv_k (v := .inl (zshl a b)) (zt32_r _) (zrv_c (zrv_c hv).2).2) kk
  have hb0 := (zrv_c hv).1
  have ha0 := (zrv_c (zrv_c hv).2).1
  refine lv_ishl hx hb hdg ?_
  have e1 : Int32.ofInt a <<< (Int32.ofInt b &&& 31) = Int32.ofInt (zshl a b) := (Int32.ofInt_toInt _).symm
  rw [e1]
  exact h1
theorem z_ishr {a b : Int} (ho : zop M k = (18, 0, [])) (kk : zW l E d M (k + 1) L (.inl (zshr a b) :: S) h Q) : zW l E d M k L (.inl b :: .inl a :: S) h Q := by
  refine z_sim ho (by decide) rfl (fun p e R s m args below meth c H locs ls cells slots QQ hx hb hdg hv h1 => ?_) (fun hv => zrv_k (v := .inl (zshr a b)) (zt32_r _) (zrv_c (zrv_c hv).2).2) kk
  have hb0 := (zrv_c hv).1
  have ha0 := (zrv_c (zrv_c hv).2).1
  refine lv_ishr hx hb hdg ?_
  have e1 : Int32.ofInt a >>> (Int32.ofInt b &&& 31) = Int32.ofInt (zshr a b) := (Int32.ofInt_toInt _).symm
  rw [e1]
  exact h1
theorem z_iushr {a b : Int} (ho : zop M k = (19, 0, [])) (kk : zW l E d M (k + 1) L (.inl (zushr a b) :: S) h Q) : zW l E d M k L (.inl b :: .inl a :: S) h Q := by
  refine z_sim ho (by decide) rfl (fun p e R s m args below meth c H locs ls cells slots QQ hx hb hdg hv h1 => ?_) (fun hv => zrv_k (v := .inl (zushr a b)) (zt32_r _) (zrv_c (zrv_c hv).2).2) kk
  have hb0 := (zrv_c hv).1
  have ha0 := (zrv_c (zrv_c hv).2).1
  refine lv_iushr hx hb hdg rfl ?_
  have e1 : ((Int32.ofInt a).toUInt32 >>> ((Int32.ofInt b).toUInt32 &&& Int32.toUInt32 31)).toInt32 = Int32.ofInt (zushr a b) := (Int32.ofInt_toInt _).symm
  rw [e1]
  exact h1
theorem z_ladd {a b : Int} (ho : zop M k = (20, 0, [])) (kk : zW l E d M (k + 1) L (.inr (.inl (w64 (a + b))) :: S) h Q) : zW l E d M k L (.inr (.inl b) :: .inr (.inl a) :: S) h Q := by
  refine z_sim ho (by decide) rfl (fun p e R s m args below meth c H locs ls cells slots QQ hx hb hdg hv h1 => ?_) (fun hv => zrv_k (v := .inr (.inl (w64 (a + b)))) (w64_r _) (zrv_c (zrv_c hv).2).2) kk
  have hb0 := (zrv_c hv).1
  have ha0 := (zrv_c (zrv_c hv).2).1
  refine lv_ladd hx hb hdg ?_
  have e1 : Int64.ofInt a + Int64.ofInt b = Int64.ofInt (w64 (a + b)) := by rw [w64_o, Int64.ofInt_add]
  rw [e1]
  exact h1
theorem z_lsub {a b : Int} (ho : zop M k = (21, 0, [])) (kk : zW l E d M (k + 1) L (.inr (.inl (w64 (a - b))) :: S) h Q) : zW l E d M k L (.inr (.inl b) :: .inr (.inl a) :: S) h Q := by
  refine z_sim ho (by decide) rfl (fun p e R s m args below meth c H locs ls cells slots QQ hx hb hdg hv h1 => ?_) (fun hv => zrv_k (v := .inr (.inl (w64 (a - b)))) (w64_r _) (zrv_c (zrv_c hv).2).2) kk
  have hb0 := (zrv_c hv).1
  have ha0 := (zrv_c (zrv_c hv).2).1
  refine lv_lsub hx hb hdg ?_
  have e1 : Int64.ofInt a - Int64.ofInt b = Int64.ofInt (w64 (a - b)) := by rw [w64_o, Int64.ofInt_sub]
  rw [e1]
  exact h1
theorem z_lmul {a b : Int} (ho : zop M k = (22, 0, [])) (kk : zW l E d M (k + 1) L (.inr (.inl (w64 (a * b))) :: S) h Q) : zW l E d M k L (.inr (.inl b) :: .inr (.inl a) :: S) h Q := by
  refine z_sim ho (by decide) rfl (fun p e R s m args below meth c H locs ls cells slots QQ hx hb hdg hv h1 => ?_) (fun hv => zrv_k (v := .inr (.inl (w64 (a * b)))) (w64_r _) (zrv_c (zrv_c hv).2).2) kk
  have hb0 := (zrv_c hv).1
  have ha0 := (zrv_c (zrv_c hv).2).1
  refine lv_lmul hx hb hdg ?_
  have e1 : Int64.ofInt a * Int64.ofInt b = Int64.ofInt (w64 (a * b)) := by rw [w64_o, Int64.ofInt_mul]
  rw [e1]
  exact h1
theorem z_ldiv {a b : Int} (ho : zop M k = (23, 0, [])) (hne : b ≠ 0) (kk : zW l E d M (k + 1) L (.inr (.inl (w64 (a.tdiv b))) :: S) h Q) : zW l E d M k L (.inr (.inl b) :: .inr (.inl a) :: S) h Q := by
  refine z_sim ho (by decide) rfl (fun p e R s m args below meth c H locs ls cells slots QQ hx hb hdg hv h1 => ?_) (fun hv => zrv_k (v := .inr (.inl (w64 (a.tdiv b)))) (w64_r _) (zrv_c (zrv_c hv).2).2) kk
  have hb0 := (zrv_c hv).1
  have ha0 := (zrv_c (zrv_c hv).2).1
  refine lv_ldiv hx hb hdg (zne0l hb0 hne) ?_
  have e1 : Int64.ofInt a / Int64.ofInt b = Int64.ofInt (w64 (a.tdiv b)) := by rw [w64_o, Int64.ofInt_tdiv (by rw [zmin64]; exact ha0.1) (by rw [zmax64]; exact ha0.2) (by rw [zmin64]; exact hb0.1) (by rw [zmax64]; exact hb0.2)]
  rw [e1]
  exact h1
theorem z_lrem {a b : Int} (ho : zop M k = (24, 0, [])) (hne : b ≠ 0) (kk : zW l E d M (k + 1) L (.inr (.inl (w64 (a.tmod b))) :: S) h Q) : zW l E d M k L (.inr (.inl b) :: .inr (.inl a) :: S) h Q := by
  refine z_sim ho (by decide) rfl (fun p e R s m args below meth c H locs ls cells slots QQ hx hb hdg hv h1 => ?_) (fun hv => zrv_k (v := .inr (.inl (w64 (a.tmod b)))) (w64_r _) (zrv_c (zrv_c hv).2).2) kk
  have hb0 := (zrv_c hv).1
  have ha0 := (zrv_c (zrv_c hv).2).1
  refine lv_lrem hx hb hdg (zne0l hb0 hne) ?_
  have e1 : Int64.ofInt a - Int64.ofInt a / Int64.ofInt b * Int64.ofInt b = Int64.ofInt (w64 (a.tmod b)) := by rw [w64_o, ← Int64.ofInt_tdiv (by rw [zmin64]; exact ha0.1) (by rw [zmax64]; exact ha0.2) (by rw [zmin64]; exact hb0.1) (by rw [zmax64]; exact hb0.2), ← Int64.ofInt_mul, ← Int64.ofInt_sub]; congr 1; have := Int.tmod_add_tdiv_mul a b; omega
  rw [e1]
  exact h1
theorem z_land {a b : Int} (ho : zop M k = (26, 0, [])) (kk : zW l E d M (k + 1) L (.inr (.inl (zland a b)) :: S) h Q) : zW l E d M k L (.inr (.inl b) :: .inr (.inl a) :: S) h Q := by
  refine z_sim ho (by decide) rfl (fun p e R s m args below meth c H locs ls cells slots QQ hx hb hdg hv h1 => ?_) (fun hv => zrv_k (v := .inr (.inl (zland a b))) (zt64_r _) (zrv_c (zrv_c hv).2).2) kk
  have hb0 := (zrv_c hv).1
  have ha0 := (zrv_c (zrv_c hv).2).1
  refine lv_land hx hb hdg ?_
  have e1 : Int64.ofInt a &&& Int64.ofInt b = Int64.ofInt (zland a b) := (Int64.ofInt_toInt _).symm
  rw [e1]
  exact h1
theorem z_lor {a b : Int} (ho : zop M k = (27, 0, [])) (kk : zW l E d M (k + 1) L (.inr (.inl (zlor a b)) :: S) h Q) : zW l E d M k L (.inr (.inl b) :: .inr (.inl a) :: S) h Q := by
  refine z_sim ho (by decide) rfl (fun p e R s m args below meth c H locs ls cells slots QQ hx hb hdg hv h1 => ?_) (fun hv => zrv_k (v := .inr (.inl (zlor a b))) (zt64_r _) (zrv_c (zrv_c hv).2).2) kk
  have hb0 := (zrv_c hv).1
  have ha0 := (zrv_c (zrv_c hv).2).1
  refine lv_lor hx hb hdg ?_
  have e1 : Int64.ofInt a ||| Int64.ofInt b = Int64.ofInt (zlor a b) := (Int64.ofInt_toInt _).symm
  rw [e1]
  exact h1
theorem z_lshl {a b : Int} (ho : zop M k = (28, 0, [])) (kk : zW l E d M (k + 1) L (.inr (.inl (zlshl a b)) :: S) h Q) : zW l E d M k L (.inl b :: .inr (.inl a) :: S) h Q := by
  refine z_sim ho (by decide) rfl (fun p e R s m args below meth c H locs ls cells slots QQ hx hb hdg hv h1 => ?_) (fun hv => zrv_k (v := .inr (.inl (zlshl a b))) (zt64_r _) (zrv_c (zrv_c hv).2).2) kk
  refine lv_lshl hx hb hdg rfl ?_
  have e1 : Int64.ofInt a <<< ((Int32.ofInt b).toInt64 &&& 63) = Int64.ofInt (zlshl a b) := (Int64.ofInt_toInt _).symm
  rw [e1]
  exact h1
theorem z_ineg {a : Int} (ho : zop M k = (13, 0, [])) (kk : zW l E d M (k + 1) L (.inl (w32 (-a)) :: S) h Q) : zW l E d M k L (.inl a :: S) h Q := by
  refine z_sim ho (by decide) rfl (fun p e R s m args below meth c H locs ls cells slots QQ hx hb hdg hv h1 => ?_) (fun hv => zrv_k (v := .inl (w32 (-a))) (w32_r _) (zrv_c hv).2) kk
  refine lv_ineg hx hb hdg ?_
  have e1 : -Int32.ofInt a = Int32.ofInt (w32 (-a)) := by rw [w32_o, Int32.ofInt_neg]
  rw [e1]
  exact h1
theorem z_lneg {a : Int} (ho : zop M k = (25, 0, [])) (kk : zW l E d M (k + 1) L (.inr (.inl (w64 (-a))) :: S) h Q) : zW l E d M k L (.inr (.inl a) :: S) h Q := by
  refine z_sim ho (by decide) rfl (fun p e R s m args below meth c H locs ls cells slots QQ hx hb hdg hv h1 => ?_) (fun hv => zrv_k (v := .inr (.inl (w64 (-a)))) (w64_r _) (zrv_c hv).2) kk
  refine lv_lneg hx hb hdg ?_
  have e1 : -Int64.ofInt a = Int64.ofInt (w64 (-a)) := by rw [w64_o, Int64.ofInt_neg]
  rw [e1]
  exact h1
theorem z_i2l {a : Int} (ho : zop M k = (29, 0, [])) (kk : zW l E d M (k + 1) L (.inr (.inl a) :: S) h Q) : zW l E d M k L (.inl a :: S) h Q := by
  refine z_sim ho (by decide) rfl (fun p e R s m args below meth c H locs ls cells slots QQ hx hb hdg hv h1 => ?_) (fun hv => zrv_k (v := .inr (.inl a)) (by have := (zrv_c hv).1; exact ⟨by have := this.1; omega, by have := this.2; omega⟩) (zrv_c hv).2) kk
  have ha : zI32 a := (zrv_c hv).1
  refine lv_i2l hx hb hdg (v := Int64.ofInt a) (Int64.toInt_inj.mp ?_) h1
  rw [Int32.toInt_toInt64, w32_t ha, w64_t ⟨by have := ha.1; omega, by have := ha.2; omega⟩]
theorem z_l2i {a : Int} (ho : zop M k = (30, 0, [])) (kk : zW l E d M (k + 1) L (.inl (w32 a) :: S) h Q) : zW l E d M k L (.inr (.inl a) :: S) h Q := by
  refine z_sim ho (by decide) rfl (fun p e R s m args below meth c H locs ls cells slots QQ hx hb hdg hv h1 => ?_) (fun hv => zrv_k (v := .inl (w32 a)) (w32_r _) (zrv_c hv).2) kk
  refine lv_l2i hx hb hdg (v := Int32.ofInt (w32 a)) (by rw [w32_o]; exact Int64.toInt32_ofInt) h1
theorem z_lcmp {a b : Int} (ho : zop M k = (38, 0, [])) (kk : zW l E d M (k + 1) L (.inl (zcmp a b) :: S) h Q) : zW l E d M k L (.inr (.inl b) :: .inr (.inl a) :: S) h Q := by
  refine z_sim ho (by decide) rfl (fun p e R s m args below meth c H locs ls cells slots QQ hx hb hdg hv h1 => ?_) (fun hv => zrv_k (v := .inl (zcmp a b)) (by show zI32 (zcmp a b); unfold zcmp zI32; split <;> (try split) <;> omega) (zrv_c (zrv_c hv).2).2) kk
  have hb0 : zI64 b := (zrv_c hv).1
  have ha0 : zI64 a := (zrv_c (zrv_c hv).2).1
  refine W.lcmp hx hb hdg ?_
  have e1 : lg_cmp (Int64.ofInt a) (Int64.ofInt b) = Int32.ofInt (zcmp a b) := by
    unfold lg_cmp zcmp
    by_cases q : b < a
    · rw [if_pos q, if_pos (show Int64.ofInt b < Int64.ofInt a from (o64_lt hb0 ha0).mpr q)]; rfl
    · rw [if_neg q, if_neg (fun z => q ((o64_lt hb0 ha0).mp z))]
      by_cases q2 : a = b
      · rw [if_pos q2, if_pos (by rw [q2])]; rfl
      · rw [if_neg q2, if_neg (fun z => q2 ((o64_eq ha0 hb0).mp z))]; rfl
  rw [e1]
  exact h1
theorem zup_c1 {E : zE} {a : Int} : (zup E (.inl a)).category = 1 := rfl
theorem zup_c2 {E : zE} {i : Nat} (hi : i ≠ 1005) : (zup E (.inr (.inr i))).category = 1 := by
  show (zrf E i).category = 1
  unfold zrf
  rw [if_neg hi]
  rfl
def zc1 : zV → Bool
  | .inl _ => true
  | .inr (.inl _) => false
  | .inr (.inr i) => decide (i ≠ 1005)
theorem zup_c {E : zE} {v : zV} (h : zc1 v = true) : (zup E v).category = 1 := by
  match v, h with
  | .inl a, _ => rfl
  | .inr (.inr i), h => exact zup_c2 (of_decide_eq_true h)
theorem z_dup {v : zV} (ho : zop M k = (32, 0, [])) (hc : zc1 v = true) (kk : zW l E d M (k + 1) L (v :: v :: S) h Q) : zW l E d M k L (v :: S) h Q := by
  refine z_sim ho (by decide) rfl (fun p e R s m args below meth c H locs ls cells slots QQ hx hb hdg hv h1 => ?_) (fun hv => zrv_k (zrv_c hv).1 hv) kk
  exact lv_dup hx hb hdg (zup_c hc) h1
theorem z_dup2 {v w : zV} (ho : zop M k = (33, 0, [])) (hc : zc1 v = true) (hd : zc1 w = true) (kk : zW l E d M (k + 1) L (v :: w :: v :: w :: S) h Q) : zW l E d M k L (v :: w :: S) h Q := by
  refine z_sim ho (by decide) rfl (fun p e R s m args below meth c H locs ls cells slots QQ hx hb hdg hv h1 => ?_) (fun hv => zrv_k (zrv_c hv).1 (zrv_k (zrv_c (zrv_c hv).2).1 hv)) kk
  exact lv_dup2_11 hx hb hdg (zup_c hc) (zup_c hd) h1
theorem z_pop {v : zV} (ho : zop M k = (34, 0, [])) (hc : zc1 v = true) (kk : zW l E d M (k + 1) L S h Q) : zW l E d M k L (v :: S) h Q := by
  refine z_sim ho (by decide) rfl (fun p e R s m args below meth c H locs ls cells slots QQ hx hb hdg hv h1 => ?_) (fun hv => (zrv_c hv).2) kk
  exact lv_pop hx hb hdg (zup_c hc) h1
theorem z_const {a : Int} {ix : List Nat} (ho : zop M k = (0, a, ix)) (kk : zW l E d M (k + 1) L (.inl a :: S) h Q) : zW l E d M k L S h Q := by
  intro p e R s m args below meth c H locs ls cells slots QQ hX hE hS hL hv
  have hck : ((decide (-2147483648 ≤ a ∧ a ≤ 2147483647)) && (zdc M k 1 (.iconst a) || ((decide ((Int8.ofInt a).toInt32 = Int32.ofInt a) && zdc M k 2 (.bipush a)) || ((decide ((Int16.ofInt a).toInt32 = Int32.ofInt a) && zdc M k 3 (.sipush a)) || (decide (Jvm.Cond.constant (zcl M) (zg ix 0) (Int32.ofInt a) ∈ lw_tbl) && (zdc M k 2 (.ldc (zg ix 0)) || zdc M k 3 (.ldc_w (zg ix 0)))))))) = true := zck_at hX.2.2.2.2.2.2.2.1 ho (by decide : (0 : Nat) ≠ 999)
  obtain ⟨hr, hck⟩ := (Bool.and_eq_true _ _).mp hck
  have hr : zI32 a := zI32_d hr
  have h1 := kk p e R s m args below meth c H locs ls cells slots QQ hX hE hS hL (zrv_k hr hv)
  rcases (Bool.or_eq_true _ _).mp hck with q | q
  · obtain ⟨hdg, hn⟩ := zdc_at q
    rw [hn] at h1
    exact lv_iconst hX.1 hX.2.1 hdg rfl h1
  · rcases (Bool.or_eq_true _ _).mp q with q | q
    · obtain ⟨q1, q⟩ := (Bool.and_eq_true _ _).mp q
      obtain ⟨hdg, hn⟩ := zdc_at q
      rw [hn] at h1
      exact lv_bipush hX.1 hX.2.1 hdg (of_decide_eq_true q1) h1
    · rcases (Bool.or_eq_true _ _).mp q with q | q
      · obtain ⟨q1, q⟩ := (Bool.and_eq_true _ _).mp q
        obtain ⟨hdg, hn⟩ := zdc_at q
        rw [hn] at h1
        exact lv_sipush hX.1 hX.2.1 hdg (of_decide_eq_true q1) h1
      · obtain ⟨q1, q⟩ := (Bool.and_eq_true _ _).mp q
        have hc := hX.2.2.2.2.1 _ (List.mem_filter.mpr ⟨of_decide_eq_true q1, rfl⟩)
        rcases (Bool.or_eq_true _ _).mp q with q | q
        · obtain ⟨hdg, hn⟩ := zdc_at q
          rw [hn] at h1
          exact lv_ldc hX.1 hX.2.1 hX.2.2.2.1 hc hdg h1
        · obtain ⟨hdg, hn⟩ := zdc_at q
          rw [hn] at h1
          exact lv_ldcw hX.1 hX.2.1 hX.2.2.2.1 hc hdg h1
theorem z_lconst {a : Int} {ix : List Nat} (ho : zop M k = (31, a, ix)) (kk : zW l E d M (k + 1) L (.inr (.inl a) :: S) h Q) : zW l E d M k L S h Q := by
  intro p e R s m args below meth c H locs ls cells slots QQ hX hE hS hL hv
  have hck : (decide (-9223372036854775808 ≤ a ∧ a ≤ 9223372036854775807) && ((decide (a = 0) && zdc M k 1 (.lconst 0)) || ((decide (a = 1) && zdc M k 1 (.lconst 1)) || (decide (Jvm.Cond.constantLong (zcl M) (zg ix 0) (Int64.ofInt a) ∈ lw_tbl) && zdc M k 3 (.ldc2_w (zg ix 0)))))) = true := zck_at hX.2.2.2.2.2.2.2.1 ho (by decide : (31 : Nat) ≠ 999)
  obtain ⟨hr, hck⟩ := (Bool.and_eq_true _ _).mp hck
  have hr : zI64 a := (of_decide_eq_true hr : -9223372036854775808 ≤ a ∧ a ≤ 9223372036854775807)
  have h1 := kk p e R s m args below meth c H locs ls cells slots QQ hX hE hS hL (zrv_k hr hv)
  rcases (Bool.or_eq_true _ _).mp hck with q | q
  · obtain ⟨q1, q⟩ := (Bool.and_eq_true _ _).mp q
    obtain ⟨hdg, hn⟩ := zdc_at q
    rw [hn] at h1
    exact lv_lconst hX.1 hX.2.1 hdg (by rw [of_decide_eq_true q1]; rfl) h1
  · rcases (Bool.or_eq_true _ _).mp q with q | q
    · obtain ⟨q1, q⟩ := (Bool.and_eq_true _ _).mp q
      obtain ⟨hdg, hn⟩ := zdc_at q
      rw [hn] at h1
      exact lv_lconst hX.1 hX.2.1 hdg (by rw [of_decide_eq_true q1]; rfl) h1
    · obtain ⟨q1, q⟩ := (Bool.and_eq_true _ _).mp q
      have hc := hX.2.2.2.2.1 _ (List.mem_filter.mpr ⟨of_decide_eq_true q1, rfl⟩)
      obtain ⟨hdg, hn⟩ := zdc_at q
      rw [hn] at h1
      exact lv_ldc2 hX.1 hX.2.1 hX.2.2.2.1 hc hdg h1
theorem zLs_at {n j : Nat} {ls : Array Slot} {v : zV} (hL : zLs E n L ls) (hj : L[j]? = some v) (hv : v ≠ zJk) : ls[j]? = some (.val (zup E v)) ∧ zrv v := by
  obtain ⟨-, hr, lv, h1, h2⟩ := hL
  exact ⟨h1.2.2 _ (h2 j v hj hv), hr v (List.mem_of_getElem? hj)⟩
theorem zfin {j : Nat} (h : j < 4) : ((Fin.ofNat 4 j : Fin 4) : Nat) = j := Nat.mod_eq_of_lt h
theorem z_iload {j : Nat} {a : Int} (ho : zop M k = (1, 0, [j])) (hj : L[j]? = some (.inl a)) (kk : zW l E d M (k + 1) L (.inl a :: S) h Q) : zW l E d M k L S h Q := by
  intro p e R s m args below meth c H locs ls cells slots QQ hX hE hS hL hv
  have hck : (zdc M k 2 (.iload j) || (decide (j < 4) && zdc M k 1 (.iload_n (Fin.ofNat 4 j)))) = true := zck_at hX.2.2.2.2.2.2.2.1 ho (by decide : (1 : Nat) ≠ 999)
  obtain ⟨hl, hr⟩ := zLs_at hL hj (fun q => by cases q)
  have h1 := kk p e R s m args below meth c H locs ls cells slots QQ hX hE hS hL (zrv_k hr hv)
  rcases (Bool.or_eq_true _ _).mp hck with q | q
  · obtain ⟨hdg, hn⟩ := zdc_at q
    rw [hn] at h1
    exact lv_iload hX.1 hX.2.1 hdg hl h1
  · obtain ⟨q1, q⟩ := (Bool.and_eq_true _ _).mp q
    obtain ⟨hdg, hn⟩ := zdc_at q
    rw [hn] at h1
    exact lv_iload_n hX.1 hX.2.1 hdg (zfin (of_decide_eq_true q1)) hl h1
theorem z_lload {j : Nat} {a : Int} (ho : zop M k = (5, 0, [j])) (hj : L[j]? = some (.inr (.inl a))) (kk : zW l E d M (k + 1) L (.inr (.inl a) :: S) h Q) : zW l E d M k L S h Q := by
  intro p e R s m args below meth c H locs ls cells slots QQ hX hE hS hL hv
  have hck : (zdc M k 2 (.lload j) || (decide (j < 4) && zdc M k 1 (.lload_n (Fin.ofNat 4 j)))) = true := zck_at hX.2.2.2.2.2.2.2.1 ho (by decide : (5 : Nat) ≠ 999)
  obtain ⟨hl, hr⟩ := zLs_at hL hj (fun q => by cases q)
  have h1 := kk p e R s m args below meth c H locs ls cells slots QQ hX hE hS hL (zrv_k hr hv)
  rcases (Bool.or_eq_true _ _).mp hck with q | q
  · obtain ⟨hdg, hn⟩ := zdc_at q
    rw [hn] at h1
    exact lv_lload hX.1 hX.2.1 hdg hl h1
  · obtain ⟨q1, q⟩ := (Bool.and_eq_true _ _).mp q
    obtain ⟨hdg, hn⟩ := zdc_at q
    rw [hn] at h1
    exact lv_lload_n hX.1 hX.2.1 hdg (zfin (of_decide_eq_true q1)) hl h1
theorem z_aload {j i : Nat} (ho : zop M k = (3, 0, [j])) (hj : L[j]? = some (.inr (.inr i))) (hi : decide (i < 1005) = true) (kk : zW l E d M (k + 1) L (.inr (.inr i) :: S) h Q) : zW l E d M k L S h Q := by
  intro p e R s m args below meth c H locs ls cells slots QQ hX hE hS hL hv
  have hck : (zdc M k 2 (.aload j) || (decide (j < 4) && zdc M k 1 (.aload_n (Fin.ofNat 4 j)))) = true := zck_at hX.2.2.2.2.2.2.2.1 ho (by decide : (3 : Nat) ≠ 999)
  have hi := of_decide_eq_true hi
  obtain ⟨hl, hr⟩ := zLs_at hL hj (fun q => by cases q; omega)
  have e0 : zup E (.inr (.inr i)) = .ref (zad E i) := by show zrf E i = _; unfold zrf; rw [if_neg (by omega)]
  rw [e0] at hl
  have h1 := kk p e R s m args below meth c H locs ls cells slots QQ hX hE hS hL (zrv_k hr hv)
  rw [List.map_cons, e0] at h1
  rcases (Bool.or_eq_true _ _).mp hck with q | q
  · obtain ⟨hdg, hn⟩ := zdc_at q
    rw [hn] at h1
    exact lv_aload hX.1 hX.2.1 hdg hl h1
  · obtain ⟨q1, q⟩ := (Bool.and_eq_true _ _).mp q
    obtain ⟨hdg, hn⟩ := zdc_at q
    rw [hn] at h1
    exact lv_aload_n hX.1 hX.2.1 hdg (zfin (of_decide_eq_true q1)) hl h1
/-- the place ahead holds no long -/
def zpl (L : List zV) : Nat → Bool
  | 0 => true
  | j + 1 => match L[j]? with
    | some (.inr (.inl _)) => false
    | _ => true
theorem zpl_at {lv : List (Nat × Value)} {L : List zV} {j i : Nat} {v : zV} (hp : zpl L j = true) (hi : L[i]? = some v) (hf : (zfm E).category = 1) : (i + 1 == j && (zup E v).category == 2) = false := by
  by_cases q : i + 1 = j
  · subst q
    have h1 : (match L[i]? with | some (.inr (.inl _)) => false | _ => true) = true := hp
    rw [hi] at h1
    rw [zup_cat1 E hf]
    match v, h1 with
    | .inl a, _ => simp
    | .inr (.inr a), _ => simp
  · simp [q]
theorem zfm_cat {E : zE} {s : State} (h : zStr E s) (hf : zfm E = .null ∨ ∃ t, zfm E = .ref t) : (zfm E).category = 1 := by
  rcases hf with q | ⟨t, q⟩ <;> rw [q] <;> rfl
theorem zLs_st1 {n j : Nat} {ls' : Array Slot} {v : zV} {lv : List (Nat × Value)} (hf : (zfm E).category = 1) (hlen : L.length = n) (hr : ∀ w ∈ L, zrv w) (h2 : ∀ (j : Nat) (v : zV), L[j]? = some v → v ≠ zJk → (j, zup E v) ∈ lv) (hp : zpl L j = true) (hv : zrv v)
    (h3 : lv_has ls' n ((j, zup E v) :: lv.filter (fun q => !(q.1 == j) && !(q.1 + 1 == j && q.2.category == 2)))) : zLs E n (L.set j v) ls' := by
  refine ⟨by rw [List.length_set]; exact hlen, fun w hw => ?_, _, h3, fun i w hi hw => ?_⟩
  · rcases List.mem_or_eq_of_mem_set hw with q | q
    · exact hr w q
    · rw [q]; exact hv
  · rw [List.getElem?_set] at hi
    by_cases q : j = i
    · subst q
      rw [if_pos rfl] at hi
      split at hi
      · cases hi
        exact List.mem_cons_self
      · cases hi
    · rw [if_neg q] at hi
      refine List.mem_cons_of_mem _ (List.mem_filter.mpr ⟨h2 i w hi hw, ?_⟩)
      have := zpl_at (lv := lv) hp hi hf
      simp only [Bool.and_eq_true, Bool.not_eq_true', this, beq_eq_false_iff_ne, ne_eq]
      exact ⟨fun z => q z.symm, trivial⟩
theorem zLs_st2 {n j : Nat} {ls' : Array Slot} {a : Int} {lv : List (Nat × Value)} (hf : (zfm E).category = 1) (hlen : L.length = n) (hr : ∀ w ∈ L, zrv w) (h2 : ∀ (j : Nat) (v : zV), L[j]? = some v → v ≠ zJk → (j, zup E v) ∈ lv) (hp : zpl L j = true) (hv : zI64 a)
    (h3 : lv_has ls' n ((j, .long (Int64.ofInt a)) :: lv.filter (fun q => !(q.1 == j) && (!(q.1 == j + 1) && !(q.1 + 1 == j && q.2.category == 2))))) : zLs E n ((L.set j (.inr (.inl a))).set (j + 1) zJk) ls' := by
  refine ⟨by rw [List.length_set, List.length_set]; exact hlen, fun w hw => ?_, _, h3, fun i w hi hw => ?_⟩
  · rcases List.mem_or_eq_of_mem_set hw with q | q
    · rcases List.mem_or_eq_of_mem_set q with q | q
      · exact hr w q
      · rw [q]; exact hv
    · rw [q]; trivial
  · rw [List.getElem?_set] at hi
    by_cases q : j + 1 = i
    · subst q
      rw [if_pos rfl] at hi
      split at hi
      · cases hi
        exact absurd rfl hw
      · cases hi
    · rw [if_neg q, List.getElem?_set] at hi
      by_cases q2 : j = i
      · subst q2
        rw [if_pos rfl] at hi
        split at hi
        · cases hi
          exact List.mem_cons_self
        · cases hi
      · rw [if_neg q2] at hi
        refine List.mem_cons_of_mem _ (List.mem_filter.mpr ⟨h2 i w hi hw, ?_⟩)
        have := zpl_at (lv := lv) hp hi hf
        simp only [Bool.and_eq_true, Bool.not_eq_true', this, beq_eq_false_iff_ne, ne_eq]
        exact ⟨fun z => q2 z.symm, fun z => q z.symm, trivial⟩
theorem z_istore {j : Nat} {a : Int} (ho : zop M k = (2, 0, [j])) (hn : decide (j < L.length) = true) (hp : zpl L j = true) (kk : zW l E d M (k + 1) (L.set j (.inl a)) S h Q) : zW l E d M k L (.inl a :: S) h Q := by
  intro p e R s m args below meth c H locs ls cells slots QQ hX hE hS hL hv
  have hck : (zdc M k 2 (.istore j) || (decide (j < 4) && zdc M k 1 (.istore_n (Fin.ofNat 4 j)))) = true := zck_at hX.2.2.2.2.2.2.2.1 ho (by decide : (2 : Nat) ≠ 999)
  obtain ⟨hr, hv⟩ := zrv_c hv
  obtain ⟨hlen, hrr, lv, hh, h2⟩ := hL
  have hn : j < zml M := by rw [← hlen]; exact of_decide_eq_true hn
  rcases (Bool.or_eq_true _ _).mp hck with q | q
  · obtain ⟨hdg, hpc⟩ := zdc_at q
    refine lv_istore hX.1 hX.2.1 hdg hh hn rfl (fun ls' h3 => ?_)
    rw [← hpc]
    exact kk p e R s m args below meth c H locs ls' cells slots QQ hX hE hS (zLs_st1 hX.2.2.2.2.2.2.2.2.2.2.2 hlen hrr h2 hp hr h3) hv
  · obtain ⟨q1, q⟩ := (Bool.and_eq_true _ _).mp q
    obtain ⟨hdg, hpc⟩ := zdc_at q
    refine lv_istore_n hX.1 hX.2.1 hdg (zfin (of_decide_eq_true q1)) hh hn rfl (fun ls' h3 => ?_)
    rw [← hpc]
    exact kk p e R s m args below meth c H locs ls' cells slots QQ hX hE hS (zLs_st1 hX.2.2.2.2.2.2.2.2.2.2.2 hlen hrr h2 hp hr h3) hv
theorem z_astore {j i : Nat} (ho : zop M k = (4, 0, [j])) (hi : decide (i < 1005) = true) (hn : decide (j < L.length) = true) (hp : zpl L j = true) (kk : zW l E d M (k + 1) (L.set j (.inr (.inr i))) S h Q) : zW l E d M k L (.inr (.inr i) :: S) h Q := by
  intro p e R s m args below meth c H locs ls cells slots QQ hX hE hS hL hv
  have hck : (zdc M k 2 (.astore j) || (decide (j < 4) && zdc M k 1 (.astore_n (Fin.ofNat 4 j)))) = true := zck_at hX.2.2.2.2.2.2.2.1 ho (by decide : (4 : Nat) ≠ 999)
  have hi := of_decide_eq_true hi
  have e0 : zup E (.inr (.inr i)) = .ref (zad E i) := by show zrf E i = _; unfold zrf; rw [if_neg (by omega)]
  obtain ⟨hr, hv⟩ := zrv_c hv
  obtain ⟨hlen, hrr, lv, hh, h2⟩ := hL
  have hn : j < zml M := by rw [← hlen]; exact of_decide_eq_true hn
  rw [List.map_cons, e0]
  rcases (Bool.or_eq_true _ _).mp hck with q | q
  · obtain ⟨hdg, hpc⟩ := zdc_at q
    refine lv_astore hX.1 hX.2.1 hdg hh hn rfl (fun ls' h3 => ?_)
    rw [← hpc]
    rw [← e0] at h3
    exact kk p e R s m args below meth c H locs ls' cells slots QQ hX hE hS (zLs_st1 hX.2.2.2.2.2.2.2.2.2.2.2 hlen hrr h2 hp hr h3) hv
  · obtain ⟨q1, q⟩ := (Bool.and_eq_true _ _).mp q
    obtain ⟨hdg, hpc⟩ := zdc_at q
    refine lv_astore_n hX.1 hX.2.1 hdg (zfin (of_decide_eq_true q1)) hh hn rfl (fun ls' h3 => ?_)
    rw [← hpc]
    rw [← e0] at h3
    exact kk p e R s m args below meth c H locs ls' cells slots QQ hX hE hS (zLs_st1 hX.2.2.2.2.2.2.2.2.2.2.2 hlen hrr h2 hp hr h3) hv
theorem z_lstore {j : Nat} {a : Int} (ho : zop M k = (6, 0, [j])) (hn : decide (j + 1 < L.length) = true) (hp : zpl L j = true) (kk : zW l E d M (k + 1) ((L.set j (.inr (.inl a))).set (j + 1) zJk) S h Q) : zW l E d M k L (.inr (.inl a) :: S) h Q := by
  intro p e R s m args below meth c H locs ls cells slots QQ hX hE hS hL hv
  have hck : (zdc M k 2 (.lstore j) || (decide (j < 4) && zdc M k 1 (.lstore_n (Fin.ofNat 4 j)))) = true := zck_at hX.2.2.2.2.2.2.2.1 ho (by decide : (6 : Nat) ≠ 999)
  obtain ⟨hr, hv⟩ := zrv_c hv
  obtain ⟨hlen, hrr, lv, hh, h2⟩ := hL
  have hn : j + 1 < zml M := by rw [← hlen]; exact of_decide_eq_true hn
  rcases (Bool.or_eq_true _ _).mp hck with q | q
  · obtain ⟨hdg, hpc⟩ := zdc_at q
    refine lv_lstore hX.1 hX.2.1 hdg hh hn rfl (fun ls' h3 => ?_)
    rw [← hpc]
    exact kk p e R s m args below meth c H locs ls' cells slots QQ hX hE hS (zLs_st2 hX.2.2.2.2.2.2.2.2.2.2.2 hlen hrr h2 hp hr h3) hv
  · obtain ⟨q1, q⟩ := (Bool.and_eq_true _ _).mp q
    obtain ⟨hdg, hpc⟩ := zdc_at q
    refine lv_lstore_n hX.1 hX.2.1 hdg (zfin (of_decide_eq_true q1)) hh hn rfl (fun ls' h3 => ?_)
    rw [← hpc]
    exact kk p e R s m args below meth c H locs ls' cells slots QQ hX hE hS (zLs_st2 hX.2.2.2.2.2.2.2.2.2.2.2 hlen hrr h2 hp hr h3) hv
theorem z_iinc {j : Nat} {a n : Int} (ho : zop M k = (7, n, [j])) (hj : L[j]? = some (.inl a)) (hp : zpl L j = true) (kk : zW l E d M (k + 1) (L.set j (.inl (w32 (a + n)))) S h Q) : zW l E d M k L S h Q := by
  intro p e R s m args below meth c H locs ls cells slots QQ hX hE hS hL hv
  have hck : zdc M k 3 (.iinc j n) = true := zck_at hX.2.2.2.2.2.2.2.1 ho (by decide : (7 : Nat) ≠ 999)
  obtain ⟨hlen, hrr, lv, hh, h2⟩ := hL
  have hn : j < zml M := by rw [← hlen]; exact (List.getElem?_eq_some_iff.mp hj).1
  obtain ⟨hdg, hpc⟩ := zdc_at hck
  obtain ⟨q0, hq0⟩ := List.getElem?_of_mem (h2 j _ hj (fun q => by cases q))
  refine lv_iinc (k := q0) (v := Int32.ofInt (w32 (a + n))) hX.1 hX.2.1 hdg hh hq0 (by rw [w32_o, Int32.ofInt_add]) hn rfl (fun ls' h3 => ?_)
  rw [← hpc]
  exact kk p e R s m args below meth c H locs ls' cells slots QQ hX hE hS (zLs_st1 (v := .inl (w32 (a + n))) hX.2.2.2.2.2.2.2.2.2.2.2 hlen hrr h2 hp (w32_r _) h3) hv
theorem z_goto {t : Nat} (ho : zop M k = (37, 0, [t])) (kk : zW l E d M t L S h Q) : zW l E d M k L S h Q := by
  intro p e R s m args below meth c H locs ls cells slots QQ hX hE hS hL hv
  have hck : decide (decode (zby M) (zpc M k) = .ok (.goto (zoff M k t), 3)) = true := zck_at hX.2.2.2.2.2.2.2.1 ho (by decide : (37 : Nat) ≠ 999)
  exact lv_goto hX.1 hX.2.1 (of_decide_eq_true hck) (zoff_at M k t) (kk p e R s m args below meth c H locs ls cells slots QQ hX hE hS hL hv)
theorem z_ceq {a b : Int} {t : Nat} (ho : zop M k = (35, 0, [0, t])) (kt : a = b → zW l E d M t L S h Q) (kf : ¬ (a = b) → zW l E d M (k + 1) L S h Q) : zW l E d M k L (.inl b :: .inl a :: S) h Q := by
  intro p e R s m args below meth c H locs ls cells slots QQ hX hE hS hL hv
  have hck : zdc M k 3 (.if_icmp .eq (zoff M k t)) = true := zck_at hX.2.2.2.2.2.2.2.1 ho (by decide : (35 : Nat) ≠ 999)
  obtain ⟨hdg, hn⟩ := zdc_at hck
  have hb0 : zI32 b := (zrv_c hv).1
  have ha0 : zI32 a := (zrv_c (zrv_c hv).2).1
  have hv := (zrv_c (zrv_c hv).2).2
  have e1 := o32_eq ha0 hb0
  have e2 := o32_lt ha0 hb0
  have e3 := o32_lt hb0 ha0
  have e4 := o32_le ha0 hb0
  have e5 := o32_le hb0 ha0
  refine lv_icmp_eq hX.1 hX.2.1 hdg (zoff_at M k t) (fun q => ?_) (fun q => ?_)
  · exact kt (by simp only [ge_iff_le, gt_iff_lt, e1, e2, e3, e4, e5, ne_eq] at q; first | exact q | omega) p e R s m args below meth c H locs ls cells slots QQ hX hE hS hL hv
  · rw [← hn]
    exact kf (by simp only [ge_iff_le, gt_iff_lt, e1, e2, e3, e4, e5, ne_eq] at q; first | exact q | omega) p e R s m args below meth c H locs ls cells slots QQ hX hE hS hL hv
theorem z_zeq {a : Int} {t : Nat} (ho : zop M k = (36, 0, [0, t])) (kt : a = 0 → zW l E d M t L S h Q) (kf : ¬ (a = 0) → zW l E d M (k + 1) L S h Q) : zW l E d M k L (.inl a :: S) h Q := by
  intro p e R s m args below meth c H locs ls cells slots QQ hX hE hS hL hv
  have hck : zdc M k 3 (.ifCond .eq (zoff M k t)) = true := zck_at hX.2.2.2.2.2.2.2.1 ho (by decide : (36 : Nat) ≠ 999)
  obtain ⟨hdg, hn⟩ := zdc_at hck
  have ha0 : zI32 a := (zrv_c hv).1
  have hv := (zrv_c hv).2
  have hb0 : zI32 0 := by unfold zI32; omega
  have e1 : Int32.ofInt a = 0 ↔ a = 0 := o32_eq ha0 hb0
  have e2 : Int32.ofInt a < 0 ↔ a < 0 := o32_lt ha0 hb0
  have e3 : 0 < Int32.ofInt a ↔ 0 < a := o32_lt hb0 ha0
  have e4 : Int32.ofInt a ≤ 0 ↔ a ≤ 0 := o32_le ha0 hb0
  have e5 : 0 ≤ Int32.ofInt a ↔ 0 ≤ a := o32_le hb0 ha0
  refine lv_if_eq hX.1 hX.2.1 hdg (zoff_at M k t) (fun q => ?_) (fun q => ?_)
  · exact kt (by simp only [ge_iff_le, gt_iff_lt, e1, e2, e3, e4, e5, ne_eq] at q; first | exact q | omega) p e R s m args below meth c H locs ls cells slots QQ hX hE hS hL hv
  · rw [← hn]
    exact kf (by simp only [ge_iff_le, gt_iff_lt, e1, e2, e3, e4, e5, ne_eq] at q; first | exact q | omega) p e R s m args below meth c H locs ls cells slots QQ hX hE hS hL hv
theorem z_cne {a b : Int} {t : Nat} (ho : zop M k = (35, 0, [1, t])) (kt : ¬ a = b → zW l E d M t L S h Q) (kf : a = b → zW l E d M (k + 1) L S h Q) : zW l E d M k L (.inl b :: .inl a :: S) h Q := by
  intro p e R s m args below meth c H locs ls cells slots QQ hX hE hS hL hv
  have hck : zdc M k 3 (.if_icmp .ne (zoff M k t)) = true := zck_at hX.2.2.2.2.2.2.2.1 ho (by decide : (35 : Nat) ≠ 999)
  obtain ⟨hdg, hn⟩ := zdc_at hck
  have hb0 : zI32 b := (zrv_c hv).1
  have ha0 : zI32 a := (zrv_c (zrv_c hv).2).1
  have hv := (zrv_c (zrv_c hv).2).2
  have e1 := o32_eq ha0 hb0
  have e2 := o32_lt ha0 hb0
  have e3 := o32_lt hb0 ha0
  have e4 := o32_le ha0 hb0
  have e5 := o32_le hb0 ha0
  refine lv_icmp_ne hX.1 hX.2.1 hdg (zoff_at M k t) (fun q => ?_) (fun q => ?_)
  · exact kt (by simp only [ge_iff_le, gt_iff_lt, e1, e2, e3, e4, e5, ne_eq] at q; first | exact q | omega) p e R s m args below meth c H locs ls cells slots QQ hX hE hS hL hv
  · rw [← hn]
    exact kf (by simp only [ge_iff_le, gt_iff_lt, e1, e2, e3, e4, e5, ne_eq] at q; first | exact q | omega) p e R s m args below meth c H locs ls cells slots QQ hX hE hS hL hv
theorem z_zne {a : Int} {t : Nat} (ho : zop M k = (36, 0, [1, t])) (kt : ¬ a = 0 → zW l E d M t L S h Q) (kf : a = 0 → zW l E d M (k + 1) L S h Q) : zW l E d M k L (.inl a :: S) h Q := by
  intro p e R s m args below meth c H locs ls cells slots QQ hX hE hS hL hv
  have hck : zdc M k 3 (.ifCond .ne (zoff M k t)) = true := zck_at hX.2.2.2.2.2.2.2.1 ho (by decide : (36 : Nat) ≠ 999)
  obtain ⟨hdg, hn⟩ := zdc_at hck
  have ha0 : zI32 a := (zrv_c hv).1
  have hv := (zrv_c hv).2
  have hb0 : zI32 0 := by unfold zI32; omega
  have e1 : Int32.ofInt a = 0 ↔ a = 0 := o32_eq ha0 hb0
  have e2 : Int32.ofInt a < 0 ↔ a < 0 := o32_lt ha0 hb0
  have e3 : 0 < Int32.ofInt a ↔ 0 < a := o32_lt hb0 ha0
  have e4 : Int32.ofInt a ≤ 0 ↔ a ≤ 0 := o32_le ha0 hb0
  have e5 : 0 ≤ Int32.ofInt a ↔ 0 ≤ a := o32_le hb0 ha0
  refine lv_if_ne hX.1 hX.2.1 hdg (zoff_at M k t) (fun q => ?_) (fun q => ?_)
  · exact kt (by simp only [ge_iff_le, gt_iff_lt, e1, e2, e3, e4, e5, ne_eq] at q; first | exact q | omega) p e R s m args below meth c H locs ls cells slots QQ hX hE hS hL hv
  · rw [← hn]
    exact kf (by simp only [ge_iff_le, gt_iff_lt, e1, e2, e3, e4, e5, ne_eq] at q; first | exact q | omega) p e R s m args below meth c H locs ls cells slots QQ hX hE hS hL hv
theorem z_clt {a b : Int} {t : Nat} (ho : zop M k = (35, 0, [2, t])) (kt : a < b → zW l E d M t L S h Q) (kf : ¬ (a < b) → zW l E d M (k + 1) L S h Q) : zW l E d M k L (.inl b :: .inl a :: S) h Q := by
  intro p e R s m args below meth c H locs ls cells slots QQ hX hE hS hL hv
  have hck : zdc M k 3 (.if_icmp .lt (zoff M k t)) = true := zck_at hX.2.2.2.2.2.2.2.1 ho (by decide : (35 : Nat) ≠ 999)
  obtain ⟨hdg, hn⟩ := zdc_at hck
  have hb0 : zI32 b := (zrv_c hv).1
  have ha0 : zI32 a := (zrv_c (zrv_c hv).2).1
  have hv := (zrv_c (zrv_c hv).2).2
  have e1 := o32_eq ha0 hb0
  have e2 := o32_lt ha0 hb0
  have e3 := o32_lt hb0 ha0
  have e4 := o32_le ha0 hb0
  have e5 := o32_le hb0 ha0
  refine lv_icmp_lt hX.1 hX.2.1 hdg (zoff_at M k t) (fun q => ?_) (fun q => ?_)
  · exact kt (by simp only [ge_iff_le, gt_iff_lt, e1, e2, e3, e4, e5, ne_eq] at q; first | exact q | omega) p e R s m args below meth c H locs ls cells slots QQ hX hE hS hL hv
  · rw [← hn]
    exact kf (by simp only [ge_iff_le, gt_iff_lt, e1, e2, e3, e4, e5, ne_eq] at q; first | exact q | omega) p e R s m args below meth c H locs ls cells slots QQ hX hE hS hL hv
theorem z_zlt {a : Int} {t : Nat} (ho : zop M k = (36, 0, [2, t])) (kt : a < 0 → zW l E d M t L S h Q) (kf : ¬ (a < 0) → zW l E d M (k + 1) L S h Q) : zW l E d M k L (.inl a :: S) h Q := by
  intro p e R s m args below meth c H locs ls cells slots QQ hX hE hS hL hv
  have hck : zdc M k 3 (.ifCond .lt (zoff M k t)) = true := zck_at hX.2.2.2.2.2.2.2.1 ho (by decide : (36 : Nat) ≠ 999)
  obtain ⟨hdg, hn⟩ := zdc_at hck
  have ha0 : zI32 a := (zrv_c hv).1
  have hv := (zrv_c hv).2
  have hb0 : zI32 0 := by unfold zI32; omega
  have e1 : Int32.ofInt a = 0 ↔ a = 0 := o32_eq ha0 hb0
  have e2 : Int32.ofInt a < 0 ↔ a < 0 := o32_lt ha0 hb0
  have e3 : 0 < Int32.ofInt a ↔ 0 < a := o32_lt hb0 ha0
  have e4 : Int32.ofInt a ≤ 0 ↔ a ≤ 0 := o32_le ha0 hb0
  have e5 : 0 ≤ Int32.ofInt a ↔ 0 ≤ a := o32_le hb0 ha0
  refine lv_if_lt hX.1 hX.2.1 hdg (zoff_at M k t) (fun q => ?_) (fun q => ?_)
  · exact kt (by simp only [ge_iff_le, gt_iff_lt, e1, e2, e3, e4, e5, ne_eq] at q; first | exact q | omega) p e R s m args below meth c H locs ls cells slots QQ hX hE hS hL hv
  · rw [← hn]
    exact kf (by simp only [ge_iff_le, gt_iff_lt, e1, e2, e3, e4, e5, ne_eq] at q; first | exact q | omega) p e R s m args below meth c H locs ls cells slots QQ hX hE hS hL hv
theorem z_cge {a b : Int} {t : Nat} (ho : zop M k = (35, 0, [3, t])) (kt : b ≤ a → zW l E d M t L S h Q) (kf : ¬ (b ≤ a) → zW l E d M (k + 1) L S h Q) : zW l E d M k L (.inl b :: .inl a :: S) h Q := by
  intro p e R s m args below meth c H locs ls cells slots QQ hX hE hS hL hv
  have hck : zdc M k 3 (.if_icmp .ge (zoff M k t)) = true := zck_at hX.2.2.2.2.2.2.2.1 ho (by decide : (35 : Nat) ≠ 999)
  obtain ⟨hdg, hn⟩ := zdc_at hck
  have hb0 : zI32 b := (zrv_c hv).1
  have ha0 : zI32 a := (zrv_c (zrv_c hv).2).1
  have hv := (zrv_c (zrv_c hv).2).2
  have e1 := o32_eq ha0 hb0
  have e2 := o32_lt ha0 hb0
  have e3 := o32_lt hb0 ha0
  have e4 := o32_le ha0 hb0
  have e5 := o32_le hb0 ha0
  refine lv_icmp_ge hX.1 hX.2.1 hdg (zoff_at M k t) (fun q => ?_) (fun q => ?_)
  · exact kt (by simp only [ge_iff_le, gt_iff_lt, e1, e2, e3, e4, e5, ne_eq] at q; first | exact q | omega) p e R s m args below meth c H locs ls cells slots QQ hX hE hS hL hv
  · rw [← hn]
    exact kf (by simp only [ge_iff_le, gt_iff_lt, e1, e2, e3, e4, e5, ne_eq] at q; first | exact q | omega) p e R s m args below meth c H locs ls cells slots QQ hX hE hS hL hv
theorem z_zge {a : Int} {t : Nat} (ho : zop M k = (36, 0, [3, t])) (kt : 0 ≤ a → zW l E d M t L S h Q) (kf : ¬ (0 ≤ a) → zW l E d M (k + 1) L S h Q) : zW l E d M k L (.inl a :: S) h Q := by
  intro p e R s m args below meth c H locs ls cells slots QQ hX hE hS hL hv
  have hck : zdc M k 3 (.ifCond .ge (zoff M k t)) = true := zck_at hX.2.2.2.2.2.2.2.1 ho (by decide : (36 : Nat) ≠ 999)
  obtain ⟨hdg, hn⟩ := zdc_at hck
  have ha0 : zI32 a := (zrv_c hv).1
  have hv := (zrv_c hv).2
  have hb0 : zI32 0 := by unfold zI32; omega
  have e1 : Int32.ofInt a = 0 ↔ a = 0 := o32_eq ha0 hb0
  have e2 : Int32.ofInt a < 0 ↔ a < 0 := o32_lt ha0 hb0
  have e3 : 0 < Int32.ofInt a ↔ 0 < a := o32_lt hb0 ha0
  have e4 : Int32.ofInt a ≤ 0 ↔ a ≤ 0 := o32_le ha0 hb0
  have e5 : 0 ≤ Int32.ofInt a ↔ 0 ≤ a := o32_le hb0 ha0
  refine lv_if_ge hX.1 hX.2.1 hdg (zoff_at M k t) (fun q => ?_) (fun q => ?_)
  · exact kt (by simp only [ge_iff_le, gt_iff_lt, e1, e2, e3, e4, e5, ne_eq] at q; first | exact q | omega) p e R s m args below meth c H locs ls cells slots QQ hX hE hS hL hv
  · rw [← hn]
    exact kf (by simp only [ge_iff_le, gt_iff_lt, e1, e2, e3, e4, e5, ne_eq] at q; first | exact q | omega) p e R s m args below meth c H locs ls cells slots QQ hX hE hS hL hv
theorem z_cgt {a b : Int} {t : Nat} (ho : zop M k = (35, 0, [4, t])) (kt : b < a → zW l E d M t L S h Q) (kf : ¬ (b < a) → zW l E d M (k + 1) L S h Q) : zW l E d M k L (.inl b :: .inl a :: S) h Q := by
  intro p e R s m args below meth c H locs ls cells slots QQ hX hE hS hL hv
  have hck : zdc M k 3 (.if_icmp .gt (zoff M k t)) = true := zck_at hX.2.2.2.2.2.2.2.1 ho (by decide : (35 : Nat) ≠ 999)
  obtain ⟨hdg, hn⟩ := zdc_at hck
  have hb0 : zI32 b := (zrv_c hv).1
  have ha0 : zI32 a := (zrv_c (zrv_c hv).2).1
  have hv := (zrv_c (zrv_c hv).2).2
  have e1 := o32_eq ha0 hb0
  have e2 := o32_lt ha0 hb0
  have e3 := o32_lt hb0 ha0
  have e4 := o32_le ha0 hb0
  have e5 := o32_le hb0 ha0
  refine lv_icmp_gt hX.1 hX.2.1 hdg (zoff_at M k t) (fun q => ?_) (fun q => ?_)
  · exact kt (by simp only [ge_iff_le, gt_iff_lt, e1, e2, e3, e4, e5, ne_eq] at q; first | exact q | omega) p e R s m args below meth c H locs ls cells slots QQ hX hE hS hL hv
  · rw [← hn]
    exact kf (by simp only [ge_iff_le, gt_iff_lt, e1, e2, e3, e4, e5, ne_eq] at q; first | exact q | omega) p e R s m args below meth c H locs ls cells slots QQ hX hE hS hL hv
theorem z_zgt {a : Int} {t : Nat} (ho : zop M k = (36, 0, [4, t])) (kt : 0 < a → zW l E d M t L S h Q) (kf : ¬ (0 < a) → zW l E d M (k + 1) L S h Q) : zW l E d M k L (.inl a :: S) h Q := by
  intro p e R s m args below meth c H locs ls cells slots QQ hX hE hS hL hv
  have hck : zdc M k 3 (.ifCond .gt (zoff M k t)) = true := zck_at hX.2.2.2.2.2.2.2.1 ho (by decide : (36 : Nat) ≠ 999)
  obtain ⟨hdg, hn⟩ := zdc_at hck
  have ha0 : zI32 a := (zrv_c hv).1
  have hv := (zrv_c hv).2
  have hb0 : zI32 0 := by unfold zI32; omega
  have e1 : Int32.ofInt a = 0 ↔ a = 0 := o32_eq ha0 hb0
  have e2 : Int32.ofInt a < 0 ↔ a < 0 := o32_lt ha0 hb0
  have e3 : 0 < Int32.ofInt a ↔ 0 < a := o32_lt hb0 ha0
  have e4 : Int32.ofInt a ≤ 0 ↔ a ≤ 0 := o32_le ha0 hb0
  have e5 : 0 ≤ Int32.ofInt a ↔ 0 ≤ a := o32_le hb0 ha0
  refine lv_if_gt hX.1 hX.2.1 hdg (zoff_at M k t) (fun q => ?_) (fun q => ?_)
  · exact kt (by simp only [ge_iff_le, gt_iff_lt, e1, e2, e3, e4, e5, ne_eq] at q; first | exact q | omega) p e R s m args below meth c H locs ls cells slots QQ hX hE hS hL hv
  · rw [← hn]
    exact kf (by simp only [ge_iff_le, gt_iff_lt, e1, e2, e3, e4, e5, ne_eq] at q; first | exact q | omega) p e R s m args below meth c H locs ls cells slots QQ hX hE hS hL hv
theorem z_cle {a b : Int} {t : Nat} (ho : zop M k = (35, 0, [5, t])) (kt : a ≤ b → zW l E d M t L S h Q) (kf : ¬ (a ≤ b) → zW l E d M (k + 1) L S h Q) : zW l E d M k L (.inl b :: .inl a :: S) h Q := by
  intro p e R s m args below meth c H locs ls cells slots QQ hX hE hS hL hv
  have hck : zdc M k 3 (.if_icmp .le (zoff M k t)) = true := zck_at hX.2.2.2.2.2.2.2.1 ho (by decide : (35 : Nat) ≠ 999)
  obtain ⟨hdg, hn⟩ := zdc_at hck
  have hb0 : zI32 b := (zrv_c hv).1
  have ha0 : zI32 a := (zrv_c (zrv_c hv).2).1
  have hv := (zrv_c (zrv_c hv).2).2
  have e1 := o32_eq ha0 hb0
  have e2 := o32_lt ha0 hb0
  have e3 := o32_lt hb0 ha0
  have e4 := o32_le ha0 hb0
  have e5 := o32_le hb0 ha0
  refine lv_icmp_le hX.1 hX.2.1 hdg (zoff_at M k t) (fun q => ?_) (fun q => ?_)
  · exact kt (by simp only [ge_iff_le, gt_iff_lt, e1, e2, e3, e4, e5, ne_eq] at q; first | exact q | omega) p e R s m args below meth c H locs ls cells slots QQ hX hE hS hL hv
  · rw [← hn]
    exact kf (by simp only [ge_iff_le, gt_iff_lt, e1, e2, e3, e4, e5, ne_eq] at q; first | exact q | omega) p e R s m args below meth c H locs ls cells slots QQ hX hE hS hL hv
theorem z_zle {a : Int} {t : Nat} (ho : zop M k = (36, 0, [5, t])) (kt : a ≤ 0 → zW l E d M t L S h Q) (kf : ¬ (a ≤ 0) → zW l E d M (k + 1) L S h Q) : zW l E d M k L (.inl a :: S) h Q := by
  intro p e R s m args below meth c H locs ls cells slots QQ hX hE hS hL hv
  have hck : zdc M k 3 (.ifCond .le (zoff M k t)) = true := zck_at hX.2.2.2.2.2.2.2.1 ho (by decide : (36 : Nat) ≠ 999)
  obtain ⟨hdg, hn⟩ := zdc_at hck
  have ha0 : zI32 a := (zrv_c hv).1
  have hv := (zrv_c hv).2
  have hb0 : zI32 0 := by unfold zI32; omega
  have e1 : Int32.ofInt a = 0 ↔ a = 0 := o32_eq ha0 hb0
  have e2 : Int32.ofInt a < 0 ↔ a < 0 := o32_lt ha0 hb0
  have e3 : 0 < Int32.ofInt a ↔ 0 < a := o32_lt hb0 ha0
  have e4 : Int32.ofInt a ≤ 0 ↔ a ≤ 0 := o32_le ha0 hb0
  have e5 : 0 ≤ Int32.ofInt a ↔ 0 ≤ a := o32_le hb0 ha0
  refine lv_if_le hX.1 hX.2.1 hdg (zoff_at M k t) (fun q => ?_) (fun q => ?_)
  · exact kt (by simp only [ge_iff_le, gt_iff_lt, e1, e2, e3, e4, e5, ne_eq] at q; first | exact q | omega) p e R s m args below meth c H locs ls cells slots QQ hX hE hS hL hv
  · rw [← hn]
    exact kf (by simp only [ge_iff_le, gt_iff_lt, e1, e2, e3, e4, e5, ne_eq] at q; first | exact q | omega) p e R s m args below meth c H locs ls cells slots QQ hX hE hS hL hv
end ZR
end
section
/-! the rules of zW: cells, switches, calls, ends; by program (wip/whole/rules2.py) -/
section ZM
variable {l : Launch} {E : zE} {d : Nat} {M : zMeth} {k : Nat} {L S : List zV} {h : zHp} {Q : Int → zHp → Prop}
theorem zsim_x {n : Nat} {i : Instr} {p : Program} {R : Room} {s : State} {m : MethodId} {args : Array Value} {c : Code} {cells slots : Nat} (hX : zX E d M p R s m args c cells slots) (ho : zop M k = (n, 0, [])) (h9 : n ≠ 999) (hi : zsim n = some i) : decode (zby M) (zpc M k) = .ok (i, 1) ∧ zpc M (k + 1) = zpc M k + 1 := zsim_at hX.2.2.2.2.2.2.2.1 ho h9 hi
theorem zvp {a : Int} {n : Nat} (ha : zI32 a) (h0 : 0 ≤ a) (h1 : a < n) : vp_in (Int32.ofInt a) n := vp_in_iff.mpr (by rw [w32_t ha]; exact ⟨h0, h1⟩)
theorem zcl_nat {a : Int} (ha : zI32 a) : (Int32.ofInt a).toNatClampNeg = a.toNat := by
  show (Int32.ofInt a).toInt.toNat = a.toNat
  rw [w32_t ha]
theorem zrf_r {i : Nat} (hi : i < 1005) : zup E (.inr (.inr i)) = .ref (zad E i) := by show zrf E i = _; unfold zrf; rw [if_neg (by omega)]
theorem zOlen : zO.length < 1000 := by decide
theorem zO_lt {i : Nat} {dd : zDsc} (hO : zO[i]? = some dd) : i < 1005 := by
  have h1 := (List.getElem?_eq_some_iff.mp hO).1
  have h2 := zOlen
  omega
theorem zlg_a {i n kd : Nat} (hO : zO[i]? = some (.inr (kd, n))) (j : Nat) : zlg i j = (kd == 1) := by unfold zlg; rw [hO]
theorem zbl_a {i n kd : Nat} (hO : zO[i]? = some (.inr (kd, n))) (j : Nat) : zbl i j = (kd == 2) := by unfold zbl; rw [hO]
theorem zbl_f {i ci f kd : Nat} {ks : List Nat} (hO : zO[i]? = some (.inl (ci, ks))) (hf : ks[f]? = some kd) : zbl i f = (kd == 2) := by
  unfold zbl
  rw [hO]
  show (ks[f]? == some 2) = _
  rw [hf]
  simp
theorem zlg_f {i ci f kd : Nat} {ks : List Nat} (hO : zO[i]? = some (.inl (ci, ks))) (hf : ks[f]? = some kd) : zlg i f = (kd == 1) := by
  unfold zlg
  rw [hO]
  show (ks[f]? == some 1) = _
  rw [hf]
  simp
theorem z_iald {i n : Nat} {a : Int} (ho : zop M k = (42, 0, [])) (hO : zO[i]? = some (.inr (0, n))) (h0 : 0 ≤ a) (h1 : a < n) (kk : zW l E d M (k + 1) L (.inl (h i a.toNat) :: S) h Q) : zW l E d M k L (.inl a :: .inr (.inr i) :: S) h Q := by
  intro p e R s m args below meth c H locs ls cells slots QQ hX hE hS hL hv
  obtain ⟨hdg, hn⟩ := zsim_x hX ho (by decide) rfl
  have ha : zI32 a := (zrv_c hv).1
  have hv2 := (zrv_c (zrv_c hv).2).2
  have hg : zI32 (h i a.toNat) := zRg_i hS.1 (by rw [zlg_a hO]; rfl)
  have k1 := kk p e R s m args below meth c H locs ls cells slots QQ hX hE hS hL (zrv_k (v := .inl (h i a.toNat)) hg hv2)
  rw [List.map_cons, List.map_cons, zrf_r (zO_lt hO)]
  refine va_iald hX.1 hX.2.1 hX.2.2.2.2.2.1 hS.2.1 i 0 (zwl_at hO) rfl (zvp ha h0 h1) hdg ?_
  rw [zcl_nat ha, ← hn]
  exact k1
theorem z_lald {i n : Nat} {a : Int} (ho : zop M k = (44, 0, [])) (hO : zO[i]? = some (.inr (1, n))) (h0 : 0 ≤ a) (h1 : a < n) (kk : zW l E d M (k + 1) L (.inr (.inl (h i a.toNat)) :: S) h Q) : zW l E d M k L (.inl a :: .inr (.inr i) :: S) h Q := by
  intro p e R s m args below meth c H locs ls cells slots QQ hX hE hS hL hv
  obtain ⟨hdg, hn⟩ := zsim_x hX ho (by decide) rfl
  have ha : zI32 a := (zrv_c hv).1
  have hv2 := (zrv_c (zrv_c hv).2).2
  have hg : zI64 (h i a.toNat) := zRg_l hS.1 (by rw [zlg_a hO]; rfl)
  have k1 := kk p e R s m args below meth c H locs ls cells slots QQ hX hE hS hL (zrv_k (v := .inr (.inl (h i a.toNat))) hg hv2)
  rw [List.map_cons, List.map_cons, zrf_r (zO_lt hO)]
  refine va_lald hX.1 hX.2.1 hX.2.2.2.2.2.1 hS.2.1 i 1 (zwl_at hO) rfl (zvp ha h0 h1) hdg ?_
  rw [zcl_nat ha, ← hn]
  exact k1
theorem z_bald {i n : Nat} {a : Int} (ho : zop M k = (46, 0, [])) (hO : zO[i]? = some (.inr (2, n))) (h0 : 0 ≤ a) (h1 : a < n) (kk : (h i a.toNat = 0 ∨ h i a.toNat = 1) → zW l E d M (k + 1) L (.inl (h i a.toNat) :: S) h Q) : zW l E d M k L (.inl a :: .inr (.inr i) :: S) h Q := by
  intro p e R s m args below meth c H locs ls cells slots QQ hX hE hS hL hv
  obtain ⟨hdg, hn⟩ := zsim_x hX ho (by decide) rfl
  have ha : zI32 a := (zrv_c hv).1
  have hv2 := (zrv_c (zrv_c hv).2).2
  have hg : zI32 (h i a.toNat) := zRg_i hS.1 (by rw [zlg_a hO]; rfl)
  have k1 := kk (zRg_b hS.1 (by rw [zbl_a hO]; rfl)) p e R s m args below meth c H locs ls cells slots QQ hX hE hS hL (zrv_k (v := .inl (h i a.toNat)) hg hv2)
  rw [List.map_cons, List.map_cons, zrf_r (zO_lt hO)]
  refine va_zald hX.1 hX.2.1 hX.2.2.2.2.2.1 hS.2.1 i 2 (zwl_at hO) rfl (zvp ha h0 h1) hdg ?_
  rw [zcl_nat ha, ← hn]
  exact k1
theorem z_iast {i n : Nat} {a b : Int} (ho : zop M k = (43, 0, [])) (hO : zO[i]? = some (.inr (0, n))) (h0 : 0 ≤ a) (h1 : a < n) (kk : zW l E d M (k + 1) L S (zst h i a.toNat b) Q) : zW l E d M k L (.inl b :: .inl a :: .inr (.inr i) :: S) h Q := by
  intro p e R s m args below meth c H locs ls cells slots QQ hX hE hS hL hv
  obtain ⟨hdg, hn⟩ := zsim_x hX ho (by decide) rfl
  have hb : zI32 b := (zrv_c hv).1
  have ha : zI32 a := (zrv_c (zrv_c hv).2).1
  have hv2 := (zrv_c (zrv_c (zrv_c hv).2).2).2
  have hg : zRg (zst h i a.toNat b) := zRg_st hS.1 (by rw [zlg_a hO]; exact hb) (fun q => by rw [zbl_a hO] at q; cases q)
  rw [List.map_cons, List.map_cons, List.map_cons, zrf_r (zO_lt hO)]
  refine va_iast hX.1 hX.2.1 hX.2.2.2.2.2.1 hS.2.1 (hX.2.2.2.2.2.2.1 h) hS.2.2 i 0 (zwl_at hO) rfl (zvp ha h0 h1) hdg (fun H1 locs1 hP hD hS1 => ?_)
  rw [← hn]
  refine kk p e R s m args below meth c H1 locs1 ls cells slots QQ hX hE ⟨hg, ?_, hS1⟩ hL hv2
  rw [← zwl_set hO]
  rw [zcl_nat ha] at hP
  have e1 : zce E (zst h i a.toNat b) i (.inr (0, n)) = .inl (E.2.2.1.1, n, .inl (upd (fun q => Int32.ofInt (h i q)) a.toNat (Int32.ofInt b))) := by
    have e2 : (fun q => Int32.ofInt (zst h i a.toNat b i q)) = upd (fun q => Int32.ofInt (h i q)) a.toNat (Int32.ofInt b) := by
      funext q
      unfold zst
      by_cases hq : q = a.toNat
      · subst hq; simp [upd, vp_updL]
      · simp [upd, vp_updL, hq]
    rw [← e2]
    rfl
  rw [e1]
  exact hP
theorem z_last {i n : Nat} {a b : Int} (ho : zop M k = (45, 0, [])) (hO : zO[i]? = some (.inr (1, n))) (h0 : 0 ≤ a) (h1 : a < n) (kk : zW l E d M (k + 1) L S (zst h i a.toNat b) Q) : zW l E d M k L (.inr (.inl b) :: .inl a :: .inr (.inr i) :: S) h Q := by
  intro p e R s m args below meth c H locs ls cells slots QQ hX hE hS hL hv
  obtain ⟨hdg, hn⟩ := zsim_x hX ho (by decide) rfl
  have hb : zI64 b := (zrv_c hv).1
  have ha : zI32 a := (zrv_c (zrv_c hv).2).1
  have hv2 := (zrv_c (zrv_c (zrv_c hv).2).2).2
  have hg : zRg (zst h i a.toNat b) := zRg_st hS.1 (by rw [zlg_a hO]; exact hb) (fun q => by rw [zbl_a hO] at q; cases q)
  rw [List.map_cons, List.map_cons, List.map_cons, zrf_r (zO_lt hO)]
  refine va_last hX.1 hX.2.1 hX.2.2.2.2.2.1 hS.2.1 (hX.2.2.2.2.2.2.1 h) hS.2.2 i 1 (zwl_at hO) rfl (zvp ha h0 h1) hdg (fun H1 locs1 hP hD hS1 => ?_)
  rw [← hn]
  refine kk p e R s m args below meth c H1 locs1 ls cells slots QQ hX hE ⟨hg, ?_, hS1⟩ hL hv2
  rw [← zwl_set hO]
  rw [zcl_nat ha] at hP
  have e1 : zce E (zst h i a.toNat b) i (.inr (1, n)) = .inl (E.2.2.1.2.1, n, .inr (.inl (vp_updL (fun q => Int64.ofInt (h i q)) a.toNat (Int64.ofInt b)))) := by
    have e2 : (fun q => Int64.ofInt (zst h i a.toNat b i q)) = vp_updL (fun q => Int64.ofInt (h i q)) a.toNat (Int64.ofInt b) := by
      funext q
      unfold zst
      by_cases hq : q = a.toNat
      · subst hq; simp [upd, vp_updL]
      · simp [upd, vp_updL, hq]
    rw [← e2]
    rfl
  rw [e1]
  exact hP
theorem z_bast {i n : Nat} {a b : Int} (ho : zop M k = (47, 0, [])) (hO : zO[i]? = some (.inr (2, n))) (h0 : 0 ≤ a) (h1 : a < n) (hz : b = 0 ∨ b = 1) (kk : zW l E d M (k + 1) L S (zst h i a.toNat b) Q) : zW l E d M k L (.inl b :: .inl a :: .inr (.inr i) :: S) h Q := by
  intro p e R s m args below meth c H locs ls cells slots QQ hX hE hS hL hv
  obtain ⟨hdg, hn⟩ := zsim_x hX ho (by decide) rfl
  have hb : zI32 b := (zrv_c hv).1
  have ha : zI32 a := (zrv_c (zrv_c hv).2).1
  have hv2 := (zrv_c (zrv_c (zrv_c hv).2).2).2
  have hg : zRg (zst h i a.toNat b) := zRg_st hS.1 (by rw [zlg_a hO]; exact hb) (fun q => by rw [zbl_a hO] at q; exact hz)
  rw [List.map_cons, List.map_cons, List.map_cons, zrf_r (zO_lt hO)]
  refine va_zast hX.1 hX.2.1 hX.2.2.2.2.2.1 hS.2.1 (hX.2.2.2.2.2.2.1 h) hS.2.2 i 2 (zwl_at hO) rfl (zvp ha h0 h1) hdg (fun H1 locs1 hP hD hS1 => ?_)
  rw [← hn]
  refine kk p e R s m args below meth c H1 locs1 ls cells slots QQ hX hE ⟨hg, ?_, hS1⟩ hL hv2
  rw [← zwl_set hO]
  rw [zcl_nat ha] at hP
  have e0 : vp_nar .boolean (Int32.ofInt b) = Int32.ofInt b := by rcases hz with rfl | rfl <;> rfl
  rw [e0] at hP
  have e1 : zce E (zst h i a.toNat b) i (.inr (2, n)) = .inl (E.2.2.1.2.2, n, .inl (upd (fun q => Int32.ofInt (h i q)) a.toNat (Int32.ofInt b))) := by
    have e2 : (fun q => Int32.ofInt (zst h i a.toNat b i q)) = upd (fun q => Int32.ofInt (h i q)) a.toNat (Int32.ofInt b) := by
      funext q
      unfold zst
      by_cases hq : q = a.toNat
      · subst hq; simp [upd, vp_updL]
      · simp [upd, vp_updL, hq]
    rw [← e2]
    rfl
  rw [e1]
  exact hP
theorem z_alen {i n kd : Nat} (ho : zop M k = (48, 0, [])) (hO : zO[i]? = some (.inr (kd, n))) (hkd : kd < 3) (kk : zW l E d M (k + 1) L (.inl n :: S) h Q) : zW l E d M k L (.inr (.inr i) :: S) h Q := by
  intro p e R s m args below meth c H locs ls cells slots QQ hX hE hS hL hv
  obtain ⟨hdg, hn⟩ := zsim_x hX ho (by decide) rfl
  have hv2 := (zrv_c hv).2
  have hn0 : zI32 (n : Int) := by
    have h1 : zO.all (fun q => match q with | .inl _ => true | .inr q => decide (q.2 < 100000)) = true := by decide
    have h2 : n < 100000 := of_decide_eq_true (List.all_eq_true.mp h1 _ (List.mem_of_getElem? hO))
    unfold zI32
    omega
  have k1 := kk p e R s m args below meth c H locs ls cells slots QQ hX hE hS hL (zrv_k (v := .inl n) hn0 hv2)
  rw [List.map_cons, zrf_r (zO_lt hO)]
  rw [hn] at k1
  have h3 := zwl_at (E := E) (h := h) hO
  have e1 : Int32.ofNat n = Int32.ofInt (n : Int) := Int32.ofInt_eq_ofNat.symm
  rcases (by omega : kd = 0 ∨ kd = 1 ∨ kd = 2) with rfl | rfl | rfl
  · exact va_alen hX.1 hX.2.1 hX.2.2.2.2.2.1 hS.2.1 i 0 h3 rfl e1 hdg k1
  · exact va_alen hX.1 hX.2.1 hX.2.2.2.2.2.1 hS.2.1 i 1 h3 rfl e1 hdg k1
  · exact va_alen hX.1 hX.2.1 hX.2.2.2.2.2.1 hS.2.1 i 2 h3 rfl e1 hdg k1
/-- the classes' fields: types -/
def zTy : Nat → Nat → FieldType := fun ci => match ci with
  | 0 => tyX0
  | 1 => tyX1
  | 2 => tyX2
  | 3 => tyX3
  | 4 => tyX4
  | 5 => tyX5
  | 6 => tyX6
  | 7 => tyX7
  | 8 => tyX8
  | 9 => tyX9
  | 10 => tyX10
  | 11 => tyX11
  | _ => tyX12
theorem zcls_ok {ci : Nat} {q : vw_C} (hc : vwCl[ci]? = some q) : (∀ k, k < q.2.2 → parseFieldDescriptor (q.2.1 k).2.2.1 = some (zTy ci k)) ∧ (∀ a, a < q.2.2 → ∀ b, b < q.2.2 → a ≠ b → (q.2.1 a).2.1 ≠ (q.2.1 b).2.1) ∧ (∀ w ∈ u_ws q.1 q.2.1 q.2.2, w ∈ lw_tblg) := by
  match ci, hc with
  | 0, hc => cases hc; exact ⟨tyX0_ok, nmX0, fun w hw => List.mem_filter.mpr ⟨inX0 w hw, List.all_eq_true.mp (by decide +kernel : (u_ws RX0 TX0 1).all goodWord = true) w hw⟩⟩
  | 1, hc => cases hc; exact ⟨tyX1_ok, nmX1, fun w hw => List.mem_filter.mpr ⟨inX1 w hw, List.all_eq_true.mp (by decide +kernel : (u_ws RX1 TX1 5).all goodWord = true) w hw⟩⟩
  | 2, hc => cases hc; exact ⟨tyX2_ok, nmX2, fun w hw => List.mem_filter.mpr ⟨inX2 w hw, List.all_eq_true.mp (by decide +kernel : (u_ws RX2 TX2 4).all goodWord = true) w hw⟩⟩
  | 3, hc => cases hc; exact ⟨tyX3_ok, nmX3, fun w hw => List.mem_filter.mpr ⟨inX3 w hw, List.all_eq_true.mp (by decide +kernel : (u_ws RX3 TX3 7).all goodWord = true) w hw⟩⟩
  | 4, hc => cases hc; exact ⟨tyX4_ok, nmX4, fun w hw => List.mem_filter.mpr ⟨inX4 w hw, List.all_eq_true.mp (by decide +kernel : (u_ws RX4 TX4 7).all goodWord = true) w hw⟩⟩
  | 5, hc => cases hc; exact ⟨tyX5_ok, nmX5, fun w hw => List.mem_filter.mpr ⟨inX5 w hw, List.all_eq_true.mp (by decide +kernel : (u_ws RX5 TX5 12).all goodWord = true) w hw⟩⟩
  | 6, hc => cases hc; exact ⟨tyX6_ok, nmX6, fun w hw => List.mem_filter.mpr ⟨inX6 w hw, List.all_eq_true.mp (by decide +kernel : (u_ws RX6 TX6 1).all goodWord = true) w hw⟩⟩
  | 7, hc => cases hc; exact ⟨tyX7_ok, nmX7, fun w hw => List.mem_filter.mpr ⟨inX7 w hw, List.all_eq_true.mp (by decide +kernel : (u_ws RX7 TX7 3).all goodWord = true) w hw⟩⟩
  | 8, hc => cases hc; exact ⟨tyX8_ok, nmX8, fun w hw => List.mem_filter.mpr ⟨inX8 w hw, List.all_eq_true.mp (by decide +kernel : (u_ws RX8 TX8 3).all goodWord = true) w hw⟩⟩
  | 9, hc => cases hc; exact ⟨tyX9_ok, nmX9, fun w hw => List.mem_filter.mpr ⟨inX9 w hw, List.all_eq_true.mp (by decide +kernel : (u_ws RX9 TX9 3).all goodWord = true) w hw⟩⟩
  | 10, hc => cases hc; exact ⟨tyX10_ok, nmX10, fun w hw => List.mem_filter.mpr ⟨inX10 w hw, List.all_eq_true.mp (by decide +kernel : (u_ws RX10 TX10 14).all goodWord = true) w hw⟩⟩
  | 11, hc => cases hc; exact ⟨tyX11_ok, nmX11, fun w hw => List.mem_filter.mpr ⟨inX11 w hw, List.all_eq_true.mp (by decide +kernel : (u_ws RX11 TX11 11).all goodWord = true) w hw⟩⟩
  | 12, hc => cases hc; exact ⟨tyX12_ok, nmX12, fun w hw => List.mem_filter.mpr ⟨inX12 w hw, List.all_eq_true.mp (by decide +kernel : (u_ws RX12 TX12 33).all goodWord = true) w hw⟩⟩
/-- a field's word -/
def zfw (q : Nat × Nat × Nat × Nat × Bool) : Bool := match vwCl[q.2.2.1]? with
  | some r => decide (q.2.2.2.1 < r.2.2) && decide ((r.2.1 q.2.2.2.1).1 = r.1) && (if q.2.2.2.2 = true then decide (Jvm.Cond.fieldLinkNest (zcn q.1) q.2.1 r.1 (r.2.1 q.2.2.2.1).2.1 (r.2.1 q.2.2.2.1).2.2.1 "OxenHome" ∈ lw_tbl) else decide (Jvm.Cond.fieldLink (zcn q.1) q.2.1 r.1 (r.2.1 q.2.2.2.1).2.1 (r.2.1 q.2.2.2.1).2.2.1 ∈ lw_tbl))
  | none => false
theorem zFp_ok : zFp.all zfw = true := by decide +kernel
theorem zwl_rd {i ci f kd : Nat} {ks : List Nat} (hf : ks[f]? = some kd) : (ks.mapIdx (fun k kd => zfv E h i k kd))[f]? = some (zfv E h i f kd) := by
  rw [List.getElem?_mapIdx, hf]
  rfl
theorem z_getf0 {ix ci f i kd : Nat} {ks : List Nat} {v : zV} (ho : zop M k = (40, 0, [ix, ci, f])) (hO : zO[i]? = some (.inl (ci, ks))) (hf : ks[f]? = some kd) (hr : zRg h → zrv v) (hz : zfv E h i f kd = zup E v) (kk : zW l E d M (k + 1) L (v :: S) h Q) : zW l E d M k L (.inr (.inr i) :: S) h Q := by
  intro p e R s m args below meth c H locs ls cells slots QQ hX hE hS hL hv
  have hck : (zdc M k 3 (.getfield ix) && (zFp.contains ((zhd M).1, ix, ci, f, false) || zFp.contains ((zhd M).1, ix, ci, f, true))) = true := zck_at hX.2.2.2.2.2.2.2.1 ho (by decide : (40 : Nat) ≠ 999)
  obtain ⟨hck, hfp⟩ := (Bool.and_eq_true _ _).mp hck
  obtain ⟨hdg, hn⟩ := zdc_at hck
  have hv2 := (zrv_c hv).2
  have k1 := kk p e R s m args below meth c H locs ls cells slots QQ hX hE hS hL (zrv_k (hr hS.1) hv2)
  rw [List.map_cons, zrf_r (zO_lt hO)]
  rw [hn, List.map_cons, ← hz] at k1
  have h3 := zwl_at (E := E) (h := h) hO
  rcases (Bool.or_eq_true _ _).mp hfp with q | q
  · have hw := List.all_eq_true.mp zFp_ok _ (List.contains_iff_mem.mp q)
    unfold zfw at hw
    cases hc : vwCl[ci]? with
    | none => simp only [hc] at hw; cases hw
    | some r =>
      simp only [hc, Bool.false_eq_true, if_false, Bool.and_eq_true, decide_eq_true_eq] at hw
      obtain ⟨t1, t2, t3⟩ := zcls_ok hc
      exact va_get (C := r.1) (T := r.2.1) (N := r.2.2) (ref := r.1) hX.1 hX.2.1 hX.2.2.2.2.1 t3 hX.2.2.2.1 hX.2.2.2.2.2.1 hS.2.1 i h3 hc f hw.1.1 (hX.2.2.2.2.1 _ (List.mem_filter.mpr ⟨hw.2, rfl⟩)) (fun x hx => by rw [hw.1.2] at hx; exact hx) (zwl_rd (ci := ci) hf) hdg k1
  · have hw := List.all_eq_true.mp zFp_ok _ (List.contains_iff_mem.mp q)
    unfold zfw at hw
    cases hc : vwCl[ci]? with
    | none => simp only [hc] at hw; cases hw
    | some r =>
      simp only [hc, if_true, Bool.and_eq_true, decide_eq_true_eq] at hw
      obtain ⟨t1, t2, t3⟩ := zcls_ok hc
      exact va_getN (C := r.1) (T := r.2.1) (N := r.2.2) (ref := r.1) (host := "OxenHome") hX.1 hX.2.1 hX.2.2.2.2.1 t3 hX.2.2.2.1 hX.2.2.2.2.2.1 hS.2.1 i h3 hc f hw.1.1 (zNw_use rfl (hX.2.2.2.2.2.2.2.2.2.2.1.2.2.2.2.2.2.2.2 _ hw.2 rfl)) (fun x hx => by rw [hw.1.2] at hx; exact hx) (zwl_rd (ci := ci) hf) hdg k1
theorem z_geti {ix ci f i kd : Nat} {ks : List Nat} (ho : zop M k = (40, 0, [ix, ci, f])) (hO : zO[i]? = some (.inl (ci, ks))) (hf : ks[f]? = some kd) (hk : (decide (kd < 3) && decide (kd ≠ 1)) = true) (kk : zW l E d M (k + 1) L (.inl (h i f) :: S) h Q) : zW l E d M k L (.inr (.inr i) :: S) h Q := by
  simp only [Bool.and_eq_true, decide_eq_true_eq] at hk
  exact z_getf0 (v := .inl (h i f)) ho hO hf (fun hr => zRg_i hr (by rw [zlg_f hO hf]; simp [hk.2])) (by unfold zfv; rw [if_neg hk.2, if_pos hk.1]; rfl) kk
theorem z_getl {ix ci f i : Nat} {ks : List Nat} (ho : zop M k = (40, 0, [ix, ci, f])) (hO : zO[i]? = some (.inl (ci, ks))) (hf : ks[f]? = some 1) (kk : zW l E d M (k + 1) L (.inr (.inl (h i f)) :: S) h Q) : zW l E d M k L (.inr (.inr i) :: S) h Q :=
  z_getf0 (v := .inr (.inl (h i f))) ho hO hf (fun hr => zRg_l hr (by rw [zlg_f hO hf]; rfl)) (by unfold zfv; rw [if_pos rfl]; rfl) kk
theorem z_getr {ix ci f i r : Nat} {ks : List Nat} (ho : zop M k = (40, 0, [ix, ci, f])) (hO : zO[i]? = some (.inl (ci, ks))) (hf : ks[f]? = some (3 + r)) (hr : decide (r < 1005) = true) (kk : zW l E d M (k + 1) L (.inr (.inr r) :: S) h Q) : zW l E d M k L (.inr (.inr i) :: S) h Q :=
  z_getf0 (v := .inr (.inr r)) ho hO hf (fun _ => trivial) (by have := of_decide_eq_true hr; unfold zfv; rw [if_neg (by omega), if_neg (by omega), zrf_r this]; congr 2; omega) kk
theorem zwl_wr {i ci f : Nat} {ks : List Nat} {v : Int} {kd : Nat} (hf : ks[f]? = some kd) : (ks.mapIdx (fun k kd => zfv E h i k kd)).set f (zfv E (zst h i f v) i f kd) = ks.mapIdx (fun k kd => zfv E (zst h i f v) i k kd) := by
  apply List.ext_getElem?
  intro j
  rw [List.getElem?_set, List.getElem?_mapIdx, List.getElem?_mapIdx]
  by_cases hj : f = j
  · subst hj
    have h1 := (List.getElem?_eq_some_iff.mp hf).1
    rw [if_pos rfl, if_pos (by rw [List.length_mapIdx]; exact h1), hf]
    rfl
  · rw [if_neg hj]
    have e : zst h i f v i j = h i j := by unfold zst; rw [if_neg (fun q => hj q.2.symm)]
    simp only [zfv, e]
theorem z_putf0 {ix ci f i kd : Nat} {ks : List Nat} {a : Int} {v : zV} (ty : FieldType) (ho : zop M k = (41, 0, [ix, ci, f])) (hO : zO[i]? = some (.inl (ci, ks))) (hf : ks[f]? = some kd) (hfin : ∀ r, vwCl[ci]? = some r → (r.2.1 f).2.2.2 = false ∧ zTy ci f = ty) (hr : zrv v → zRg h → zRg (zst h i f a)) (hz : zfv E (zst h i f a) i f kd = zup E v)
    (hnar : zrv v → narrow ty (zup E v) = zup E v ∧ fits ty (zup E v) = true) (kk : zW l E d M (k + 1) L S (zst h i f a) Q) : zW l E d M k L (v :: .inr (.inr i) :: S) h Q := by
  intro p e R s m args below meth c H locs ls cells slots QQ hX hE hS hL hv
  have hck : (zdc M k 3 (.putfield ix) && (zFp.contains ((zhd M).1, ix, ci, f, false) || zFp.contains ((zhd M).1, ix, ci, f, true))) = true := zck_at hX.2.2.2.2.2.2.2.1 ho (by decide : (41 : Nat) ≠ 999)
  obtain ⟨hck, hfp⟩ := (Bool.and_eq_true _ _).mp hck
  obtain ⟨hdg, hn⟩ := zdc_at hck
  have hv1 := (zrv_c hv).1
  have hv2 := (zrv_c (zrv_c hv).2).2
  obtain ⟨n1, n2⟩ := hnar hv1
  rw [List.map_cons, List.map_cons, zrf_r (zO_lt hO)]
  have h3 := zwl_at (E := E) (h := h) hO
  have hlen : f < (ks.mapIdx (fun k kd => zfv E h i k kd)).length := by rw [List.length_mapIdx]; exact (List.getElem?_eq_some_iff.mp hf).1
  have fin : ∀ (H1 : Heap) (locs1 : List Loc), va_P (zgD E) vwCl ((zwl E h).set i (zad E i, .inr (ci, (ks.mapIdx (fun k kd => zfv E h i k kd)).set f (zup E v)))) H1 → va_S (zA E) s.heap H1 locs1 → W p l e R s m args below meth c H1 locs1 cells slots QQ (F0 m (zpc M k + 3) ls (S.map (zup E))) := by
    intro H1 locs1 hP hS1
    rw [← hn]
    refine kk p e R s m args below meth c H1 locs1 ls cells slots QQ hX hE ⟨hr hv1 hS.1, ?_, hS1⟩ hL hv2
    rw [← zwl_set hO]
    have e1 : zce E (zst h i f a) i (.inl (ci, ks)) = .inr (ci, (ks.mapIdx (fun k kd => zfv E h i k kd)).set f (zup E v)) := by
      rw [← hz, zwl_wr (ci := ci) hf]
      rfl
    rw [e1]
    exact hP
  rcases (Bool.or_eq_true _ _).mp hfp with q | q
  · have hw := List.all_eq_true.mp zFp_ok _ (List.contains_iff_mem.mp q)
    unfold zfw at hw
    cases hc : vwCl[ci]? with
    | none => simp only [hc] at hw; cases hw
    | some r =>
      simp only [hc, Bool.false_eq_true, if_false, Bool.and_eq_true, decide_eq_true_eq] at hw
      obtain ⟨t1, t2, t3⟩ := zcls_ok hc
      obtain ⟨f1, f2⟩ := hfin r hc
      exact va_put (C := r.1) (T := r.2.1) (N := r.2.2) (ref := r.1) hX.1 hX.2.1 hX.2.2.2.2.1 t3 (zTy ci) t1 t2 hX.2.2.2.1 hX.2.2.2.2.2.1 hS.2.1 (hX.2.2.2.2.2.2.1 h) hS.2.2 i h3 hc f hw.1.1 (hX.2.2.2.2.1 _ (List.mem_filter.mpr ⟨hw.2, rfl⟩)) (fun x hx => by rw [hw.1.2] at hx; exact hx) f1 (ty := ty) (by rw [← f2]; exact t1 f hw.1.1) n1 n2 hlen hdg (fun H1 locs1 hP hD hS1 => fin H1 locs1 hP hS1)
  · have hw := List.all_eq_true.mp zFp_ok _ (List.contains_iff_mem.mp q)
    unfold zfw at hw
    cases hc : vwCl[ci]? with
    | none => simp only [hc] at hw; cases hw
    | some r =>
      simp only [hc, if_true, Bool.and_eq_true, decide_eq_true_eq] at hw
      obtain ⟨t1, t2, t3⟩ := zcls_ok hc
      obtain ⟨f1, f2⟩ := hfin r hc
      exact va_putN (C := r.1) (T := r.2.1) (N := r.2.2) (ref := r.1) (host := "OxenHome") hX.1 hX.2.1 hX.2.2.2.2.1 t3 (zTy ci) t1 t2 hX.2.2.2.1 hX.2.2.2.2.2.1 hS.2.1 (hX.2.2.2.2.2.2.1 h) hS.2.2 i h3 hc f hw.1.1 (zNw_use rfl (hX.2.2.2.2.2.2.2.2.2.2.1.2.2.2.2.2.2.2.2 _ hw.2 rfl)) (fun x hx => by rw [hw.1.2] at hx; exact hx) f1 (ty := ty) (by rw [← f2]; exact t1 f hw.1.1) n1 n2 hlen hdg (fun H1 locs1 hP hD hS1 => fin H1 locs1 hP hS1)
/-- a field that may be written: its kind is its type's -/
def zfk (ci f kd : Nat) : Bool := match vwCl[ci]? with
  | some r => decide ((r.2.1 f).2.2.2 = false) && decide (zTy ci f = (if kd = 0 then .int else if kd = 1 then .long else .boolean))
  | none => false
theorem zfk_at {ci f kd : Nat} (hk : zfk ci f kd = true) : ∀ r, vwCl[ci]? = some r → (r.2.1 f).2.2.2 = false ∧ zTy ci f = (if kd = 0 then .int else if kd = 1 then .long else .boolean) := by
  intro r hr
  unfold zfk at hk
  simp only [hr, Bool.and_eq_true, decide_eq_true_eq] at hk
  exact hk
theorem z_puti {ix ci f i : Nat} {ks : List Nat} {a : Int} (ho : zop M k = (41, 0, [ix, ci, f])) (hO : zO[i]? = some (.inl (ci, ks))) (hf : ks[f]? = some 0) (hk : zfk ci f 0 = true) (kk : zW l E d M (k + 1) L S (zst h i f a) Q) : zW l E d M k L (.inl a :: .inr (.inr i) :: S) h Q :=
  z_putf0 .int ho hO hf (zfk_at hk) (fun hv hr => zRg_st hr (by rw [zlg_f hO hf]; exact hv) (fun q => by rw [zbl_f hO hf] at q; cases q)) (by unfold zfv; rw [if_neg (by decide), if_pos (by decide)]; simp [zst, zup]) (fun _ => ⟨rfl, rfl⟩) kk
theorem z_putl {ix ci f i : Nat} {ks : List Nat} {a : Int} (ho : zop M k = (41, 0, [ix, ci, f])) (hO : zO[i]? = some (.inl (ci, ks))) (hf : ks[f]? = some 1) (hk : zfk ci f 1 = true) (kk : zW l E d M (k + 1) L S (zst h i f a) Q) : zW l E d M k L (.inr (.inl a) :: .inr (.inr i) :: S) h Q :=
  z_putf0 .long ho hO hf (zfk_at hk) (fun hv hr => zRg_st hr (by rw [zlg_f hO hf]; exact hv) (fun q => by rw [zbl_f hO hf] at q; cases q)) (by unfold zfv; rw [if_pos (by decide)]; simp [zst, zup]) (fun _ => ⟨rfl, rfl⟩) kk
theorem z_putz {ix ci f i : Nat} {ks : List Nat} {a : Int} (ho : zop M k = (41, 0, [ix, ci, f])) (hO : zO[i]? = some (.inl (ci, ks))) (hf : ks[f]? = some 2) (hk : zfk ci f 2 = true) (hz : a = 0 ∨ a = 1) (kk : zW l E d M (k + 1) L S (zst h i f a) Q) : zW l E d M k L (.inl a :: .inr (.inr i) :: S) h Q :=
  z_putf0 .boolean ho hO hf (zfk_at hk) (fun hv hr => zRg_st hr (by rw [zlg_f hO hf]; exact hv) (fun _ => hz)) (by unfold zfv; rw [if_neg (by decide), if_pos (by decide)]; simp [zst, zup]) (fun _ => by rcases hz with rfl | rfl <;> exact ⟨rfl, rfl⟩) kk
theorem z_switch {a lo : Int} {ts : List Nat} (ho : zop M k = (39, lo, ts)) (hlo : zI32 lo) (hn : 1 ≤ ts.length)
    (kd : a < lo ∨ lo + ts.length - 2 < a → zW l E d M (zg ts 0) L S h Q) (kt : ∀ j t : Nat, (ts.drop 1)[j]? = some t → a = lo + j → zW l E d M t L S h Q) : zW l E d M k L (.inl a :: S) h Q := by
  intro p e R s m args below meth c H locs ls cells slots QQ hX hE hS hL hv
  have hck : decide (decode (zby M) (zpc M k) = .ok (.tableswitch (zoff M k (zg ts 0)) lo (lo + (ts.length : Int) - 2) ((ts.drop 1).map (zoff M k)).toArray, zpc M (k + 1) - zpc M k)) = true := zck_at hX.2.2.2.2.2.2.2.1 ho (by decide : (39 : Nat) ≠ 999)
  have hdg := of_decide_eq_true hck
  have ha : zI32 a := (zrv_c hv).1
  have hv2 := (zrv_c hv).2
  have e1 : (Int32.ofInt a).toInt = a := w32_t ha
  by_cases q : a < lo ∨ lo + ts.length - 2 < a
  · exact lv_tableOut hX.1 hX.2.1 hdg (by rw [e1]; exact q) (zoff_at M k _) (kd q p e R s m args below meth c H locs ls cells slots QQ hX hE hS hL hv2)
  · have q1 : ¬ a < lo := fun z => q (Or.inl z)
    have q2 : ¬ lo + ts.length - 2 < a := fun z => q (Or.inr z)
    have hj : (a - lo).toNat < (ts.drop 1).length := by rw [List.length_drop]; omega
    obtain ⟨t, ht⟩ : ∃ t, (ts.drop 1)[(a - lo).toNat]? = some t := ⟨_, List.getElem?_eq_getElem hj⟩
    refine lv_tableIn (off := zoff M k t) hX.1 hX.2.1 hdg (by rw [e1]; exact q1) (by rw [e1]; exact q2) ?_ (zoff_at M k t) (kt (a - lo).toNat t ht (by omega) p e R s m args below meth c H locs ls cells slots QQ hX hE hS hL hv2)
    rw [e1, List.getElem?_toArray, List.getElem?_map, ht]
    rfl
theorem zret0 (hi : ∀ (p : Program) (R : Room) (s : State) (m : MethodId) (args : Array Value) (c : Code) (cells slots : Nat), zX E d M p R s m args c cells slots → decode (zby M) (zpc M k) = .ok (zri M, 1)) {r : Int} (hr : (∀ v ∈ S, zrv v) → zRr M r) (hs : S.map (zup E) = zrs M r) (hq : Q r h) : zW l E d M k L S h Q := by
  intro p e R s m args below meth c H locs ls cells slots QQ hX hE hS hL hv
  rw [hs]
  exact hE r h H locs _ ls hS (hr hv) hq (hi p R s m args c cells slots hX)
theorem z_ret {r : Int} {M : zMeth} (ho : zop M k = (53, 0, [])) (ht : zrt M = none) (hr : r = 0) (hq : Q r h) : zW l E d M k L [] h Q :=
  zret0 (fun p R s m args c cells slots hX => by
    have hck : decide (decode (zby M) (zpc M k) = .ok (.return_, 1)) = true := zck_at hX.2.2.2.2.2.2.2.1 ho (by decide : (53 : Nat) ≠ 999)
    unfold zri; rw [ht]; exact of_decide_eq_true hck) (fun _ => by unfold zRr; rw [ht]; exact hr) (by unfold zrs; rw [ht]; rfl) hq
theorem z_lret {r : Int} {M : zMeth} (ho : zop M k = (52, 0, [])) (ht : zrt M = some .long) (hq : Q r h) : zW l E d M k L [.inr (.inl r)] h Q :=
  zret0 (fun p R s m args c cells slots hX => by
    have hck : decide (decode (zby M) (zpc M k) = .ok (.lreturn, 1)) = true := zck_at hX.2.2.2.2.2.2.2.1 ho (by decide : (52 : Nat) ≠ 999)
    unfold zri; rw [ht]; exact of_decide_eq_true hck) (fun hv => by unfold zRr; rw [ht]; exact (zrv_c hv).1) (by unfold zrs; rw [ht]; rfl) hq
theorem z_iret {r : Int} {M : zMeth} (ho : zop M k = (51, 0, [])) (ht : zrt M = some .int) (hq : Q r h) : zW l E d M k L [.inl r] h Q :=
  zret0 (fun p R s m args c cells slots hX => by
    have hck : decide (decode (zby M) (zpc M k) = .ok (.ireturn, 1)) = true := zck_at hX.2.2.2.2.2.2.2.1 ho (by decide : (51 : Nat) ≠ 999)
    unfold zri; rw [ht]; exact of_decide_eq_true hck) (fun hv => by unfold zRr; rw [ht]; exact ⟨(zrv_c hv).1, rfl⟩) (by unfold zrs; rw [ht]; rfl) hq
theorem z_zret {r : Int} {M : zMeth} (ho : zop M k = (51, 0, [])) (ht : zrt M = some .boolean) (hz : r = 0 ∨ r = 1) (hq : Q r h) : zW l E d M k L [.inl r] h Q :=
  zret0 (fun p R s m args c cells slots hX => by
    have hck : decide (decode (zby M) (zpc M k) = .ok (.ireturn, 1)) = true := zck_at hX.2.2.2.2.2.2.2.1 ho (by decide : (51 : Nat) ≠ 999)
    unfold zri; rw [ht]; exact of_decide_eq_true hck) (fun hv => by unfold zRr; rw [ht]; exact ⟨(zrv_c hv).1, by rcases hz with rfl | rfl <;> rfl⟩) (by unfold zrs; rw [ht]; rfl) hq
theorem zRr_z {M : zMeth} {r : Int} (ht : zrt M = some .boolean) (h : zRr M r) : r = 0 ∨ r = 1 := by
  unfold zRr at h
  rw [ht] at h
  obtain ⟨hr, hn⟩ := h
  have h1 : narrow .boolean (.int (Int32.ofInt r)) = .int (Int32.ofInt r &&& 1) := rfl
  rw [h1] at hn
  have h2 : Int32.ofInt r &&& 1 = Int32.ofInt r := by injection hn
  obtain ⟨j, hj, e⟩ := pk_andE (Int32.ofInt r) (m := 1) 1 rfl
  rw [h2] at e
  have h3 : r = (j : Int) := by
    have : (Int32.ofInt r).toInt = (nI j).toInt := by rw [e]
    rwa [w32_t hr, nI_toInt (by omega)] at this
  omega
end ZM
end
section
/-! calls, and a method from its entry -/
def zhok (hd : zHdr) : Bool := decide (hd.2.1.cls = zcn hd.1) && (decide (hd.2.1.cls ≠ "java/lang/invoke/MethodHandle") && (decide (hd.2.1.cls ≠ "java/lang/invoke/VarHandle") && (decide ((parseMethodDescriptor hd.2.1.desc).map (fun d => d.parameters.length) = some hd.2.2.2.2.2.2) && decide (hd.2.2.2.1 ≤ 21))))
theorem zHd_ok : zHd.all zhok = true := by decide +kernel
def zfl : Jvm.Cond → Option (String × Nat × MethodName)
  | .methodLink a b c => some (a, b, c)
  | _ => none
def zfn : Jvm.Cond → Option (String × Nat × MethodName × String)
  | .methodLinkNest a b c d => some (a, b, c, d)
  | _ => none
def zfc : Jvm.Cond → Option (MethodName × ByteArray × Nat × Option FieldType)
  | .code a b c d => some (a, b, c, d)
  | _ => none
def zfs : Jvm.Cond → Option MethodName
  | .static a => some a
  | _ => none
def zfi : Jvm.Cond → Option MethodName
  | .instanceMethod a => some a
  | _ => none
def zfe : Jvm.Cond → Option (String × MethodName × MethodName)
  | .selects a b c => some (a, b, c)
  | _ => none
def zfz : Jvm.Cond → Option String
  | .initialized a => some a
  | _ => none
set_option maxRecDepth 100000 in
set_option maxHeartbeats 4000000 in
theorem zl_links : lw_tbl.filterMap zfl = zMp1.map (fun q => (zcn q.1, q.2.1, (zhj q.2.2.1).2.1)) := rfl
set_option maxRecDepth 100000 in
set_option maxHeartbeats 4000000 in
theorem zl_nest : lw_tbl.filterMap zfn = zMp2.map (fun q => (zcn q.1, q.2.1, (zhj q.2.2.1).2.1, "OxenHome")) := rfl
set_option maxRecDepth 100000 in
set_option maxHeartbeats 4000000 in
theorem zl_codes : lw_tbl.filterMap zfc = zCq.map (fun j => ((zhj j).2.1, (zhj j).2.2.1, (zhj j).2.2.2.1, (zhj j).2.2.2.2.1)) := rfl
set_option maxRecDepth 100000 in
set_option maxHeartbeats 4000000 in
theorem zl_stat : lw_tbl.filterMap zfs = zSq.map (fun j => (zhj j).2.1) := rfl
set_option maxRecDepth 100000 in
set_option maxHeartbeats 4000000 in
theorem zl_inst : lw_tbl.filterMap zfi = zIq.map (fun j => (zhj j).2.1) := rfl
set_option maxRecDepth 100000 in
set_option maxHeartbeats 4000000 in
theorem zl_sel : lw_tbl.filterMap zfe = zEq.map (fun j => (zcn (zhj j).1, (zhj j).2.1, (zhj j).2.1)) := rfl
set_option maxRecDepth 100000 in
set_option maxHeartbeats 4000000 in
theorem zl_ini : lw_tbl.filterMap zfz = zNq.map zcn := rfl
theorem zfm_of {α β : Type} {f : Jvm.Cond → Option α} {l : List β} {g : β → α} {b : β} (h : lw_tbl.filterMap f = l.map g) (hb : b ∈ l) : ∃ w ∈ lw_tbl, f w = some (g b) := List.mem_filterMap.mp (by rw [h]; exact List.mem_map_of_mem hb)
theorem zw_link {cn ix j : Nat} (h : zMp.contains (cn, ix, j, false) = true) : Jvm.Cond.methodLink (zcn cn) ix (zhj j).2.1 ∈ lw_tbl := by
  have h1 : (cn, ix, j, false) ∈ zMp1 := by
    rcases List.mem_append.mp (List.contains_iff_mem.mp h) with q | q
    · exact q
    · exact absurd (List.all_eq_true.mp (by decide : zMp2.all (fun q => q.2.2.2) = true) _ q) (by simp)
  obtain ⟨w, hw, e⟩ := zfm_of zl_links h1
  cases w with
  | methodLink a b c => cases e; exact hw
  | _ => cases e
theorem zw_nest {cn ix j : Nat} (h : zMp.contains (cn, ix, j, true) = true) : Jvm.Cond.methodLinkNest (zcn cn) ix (zhj j).2.1 "OxenHome" ∈ lw_tbl := by
  have h1 : (cn, ix, j, true) ∈ zMp2 := by
    rcases List.mem_append.mp (List.contains_iff_mem.mp h) with q | q
    · exact absurd (List.all_eq_true.mp (by decide +kernel : zMp1.all (fun q => !q.2.2.2) = true) _ q) (by simp)
    · exact q
  obtain ⟨w, hw, e⟩ := zfm_of zl_nest h1
  cases w with
  | methodLinkNest a b c d => cases e; exact hw
  | _ => cases e
theorem zw_code {j : Nat} (h : zCq.contains j = true) : Jvm.Cond.code (zhj j).2.1 (zhj j).2.2.1 (zhj j).2.2.2.1 (zhj j).2.2.2.2.1 ∈ lw_tbl := by
  obtain ⟨w, hw, e⟩ := zfm_of zl_codes (List.contains_iff_mem.mp h)
  cases w with
  | code a b c d => cases e; exact hw
  | _ => cases e
theorem zw_stat {j : Nat} (h : zSq.contains j = true) : Jvm.Cond.static (zhj j).2.1 ∈ lw_tbl := by
  obtain ⟨w, hw, e⟩ := zfm_of zl_stat (List.contains_iff_mem.mp h)
  cases w with
  | static a => cases e; exact hw
  | _ => cases e
theorem zw_inst {j : Nat} (h : zIq.contains j = true) : Jvm.Cond.instanceMethod (zhj j).2.1 ∈ lw_tbl := by
  obtain ⟨w, hw, e⟩ := zfm_of zl_inst (List.contains_iff_mem.mp h)
  cases w with
  | instanceMethod a => cases e; exact hw
  | _ => cases e
theorem zw_sel {j : Nat} (h : zEq.contains j = true) : Jvm.Cond.selects (zcn (zhj j).1) (zhj j).2.1 (zhj j).2.1 ∈ lw_tbl := by
  obtain ⟨w, hw, e⟩ := zfm_of zl_sel (List.contains_iff_mem.mp h)
  cases w with
  | selects a b c => cases e; exact hw
  | _ => cases e
theorem zw_ini {c : Nat} (h : zNq.contains c = true) : Jvm.Cond.initialized (zcn c) ∈ lw_tbl := by
  obtain ⟨w, hw, e⟩ := zfm_of zl_ini (List.contains_iff_mem.mp h)
  cases w with
  | initialized a => cases e; exact hw
  | _ => cases e
theorem zhd_some {M : zMeth} {hd : zHdr} (h : zHd[M.1]? = some hd) : zhd M = hd := by unfold zhd; rw [h]; rfl
def zcat : zV → Nat
  | .inr (.inl _) => 2
  | _ => 1
theorem zcat_up {E : zE} (hf : (zfm E).category = 1) (S : List zV) : ((S.map (zup E)).map fun v => v.category).sum = (S.map zcat).sum := by
  congr 1
  rw [List.map_map]
  apply List.map_congr_left
  intro v _
  rw [Function.comp_apply, zup_cat1 E hf]
  match v with
  | .inl a => rfl
  | .inr (.inl a) => rfl
  | .inr (.inr a) => rfl
theorem zlf_at {E : zE} (hf : (zfm E).category = 1) : ∀ (as : List zV) (i0 j : Nat) (v : zV), (zlf as)[j]? = some v → v ≠ zJk → (i0 + j, zup E v) ∈ lv_args i0 (as.map (zup E)) := by
  intro as
  induction as with
  | nil => intro i0 j v h; simp [zlf] at h
  | cons w r ih =>
    intro i0 j v h hv
    rw [List.map_cons, lv_args, zup_cat1 E hf]
    match w, h with
    | .inl a, h =>
      have e : zlf (.inl a :: r) = .inl a :: zlf r := rfl
      rw [e] at h
      cases j with
      | zero => cases h; exact List.mem_cons_self
      | succ j =>
        have := ih (i0 + 1) j v h hv
        rw [show i0 + (j + 1) = i0 + 1 + j by omega]
        exact List.mem_cons_of_mem _ this
    | .inr (.inr a), h =>
      have e : zlf (.inr (.inr a) :: r) = .inr (.inr a) :: zlf r := rfl
      rw [e] at h
      cases j with
      | zero => cases h; exact List.mem_cons_self
      | succ j =>
        have := ih (i0 + 1) j v h hv
        rw [show i0 + (j + 1) = i0 + 1 + j by omega]
        exact List.mem_cons_of_mem _ this
    | .inr (.inl a), h =>
      have e : zlf (.inr (.inl a) :: r) = .inr (.inl a) :: zJk :: zlf r := rfl
      rw [e] at h
      match j, h with
      | 0, h => cases h; exact List.mem_cons_self
      | 1, h => cases h; exact absurd rfl hv
      | j + 2, h =>
        have := ih (i0 + 2) j v h hv
        rw [show i0 + (j + 2) = i0 + 2 + j by omega]
        exact List.mem_cons_of_mem _ this
theorem zlf_rv {as : List zV} (h : ∀ v ∈ as, zrv v) : ∀ v ∈ zlf as, zrv v := by
  intro v hv
  obtain ⟨w, hw, q⟩ := List.mem_flatMap.mp hv
  have hw := h w hw
  match w, hw, q with
  | .inl a, hw, q => rcases List.mem_singleton.mp q with rfl; exact hw
  | .inr (.inr a), hw, q => rcases List.mem_singleton.mp q with rfl; exact hw
  | .inr (.inl a), hw, q =>
    rcases List.mem_cons.mp q with rfl | q
    · exact hw
    · rcases List.mem_singleton.mp q with rfl; trivial
theorem zlf_sl {E : zE} (hf : (zfm E).category = 1) : ∀ as : List zV, (lg_sl (as.map (zup E))).length = (zlf as).length := by
  intro as
  induction as with
  | nil => rfl
  | cons w r ih =>
    have e1 : lg_sl ((w :: r).map (zup E)) = (if (zup E w).category = 2 then [.val (zup E w), .second] else [.val (zup E w)]) ++ lg_sl (r.map (zup E)) := rfl
    rw [e1, List.length_append, ih, zup_cat1 E hf]
    match w with
    | .inl a => show _ = (Sum.inl a :: zlf r).length; simp; omega
    | .inr (.inr a) => show _ = (Sum.inr (Sum.inr a) :: zlf r).length; simp; omega
    | .inr (.inl a) => show _ = (Sum.inr (Sum.inl a) :: zJk :: zlf r).length; simp; omega
theorem zrf_cat {E : zE} (hf : (zfm E).category = 1) (v : zV) : (zup E v).category = zcat v := by
  rw [zup_cat1 E hf]
  match v with
  | .inl a => rfl
  | .inr (.inl a) => rfl
  | .inr (.inr a) => rfl
theorem zri_n {M : zMeth} (h : zrt M = none) : zri M = .return_ := by unfold zri; rw [h]
theorem zri_l {M : zMeth} (h : zrt M = some .long) : zri M = .lreturn := by unfold zri; rw [h]
theorem zri_s {M : zMeth} {t : FieldType} (h : zrt M = some t) (hl : t ≠ .long) : zri M = .ireturn := by
  unfold zri
  rw [h]
  cases t <;> first | rfl | exact absurd rfl hl
theorem zrs_n {M : zMeth} {r : Int} (h : zrt M = none) : zrs M r = [] := by unfold zrs; rw [h]
theorem zrs_l {M : zMeth} {r : Int} (h : zrt M = some .long) : zrs M r = [.long (Int64.ofInt r)] := by unfold zrs; rw [h]
theorem zrs_s {M : zMeth} {r : Int} {t : FieldType} (h : zrt M = some t) (hl : t ≠ .long) : zrs M r = [.int (Int32.ofInt r)] := by
  unfold zrs
  rw [h]
  cases t <;> first | rfl | exact absurd rfl hl
theorem zRr_s {M : zMeth} {r : Int} {t : FieldType} (h : zrt M = some t) (hl : t ≠ .long) (hR : zRr M r) : zI32 r ∧ narrow t (.int (Int32.ofInt r)) = .int (Int32.ofInt r) := by
  unfold zRr at hR
  rw [h] at hR
  cases t <;> first | exact hR | exact absurd rfl hl
/-- a method, from its entry -/
theorem zC_of {l : Launch} {E : zE} {d : Nat} {M : zMeth} {as : List zV} {h : zHp} {Q : Int → zHp → Prop} (hc : zchk M = true) (hpl : plainName (zny M).cls = true) (hh : (zHd[M.1]?).isSome = true) (h0 : zpc M 0 = 0) (hn : (zlf as).length ≤ zml M) (hW : zW l E d M 0 (zla (zml M) as) [] h Q) : zC l E d M as h Q := by
  intro hrv hRg hEo hf
  obtain ⟨hd, hhd⟩ := Option.isSome_iff_exists.mp hh
  have ehd := zhd_some hhd
  have hok := List.all_eq_true.mp zHd_ok _ (List.mem_of_getElem? hhd)
  unfold zhok at hok
  simp only [Bool.and_eq_true, decide_eq_true_eq] at hok
  refine Met.ofW (cc := zby M) (maxL := zml M) (ret := zrt M) hpl rfl ?_
  intro p e s m args below meth c s₁ B hml hv
  obtain ⟨rfl, hRg', hP, hK, hstr⟩ := hv
  have hr := B.returns
  have hts := atoms_spec (ws := zws M) B.pre
  have hown : s.vm.findClass (zny M).cls = some m.cls := findClass_of_methodNamed B.named
  have hlocks := B.notSynchronized
  have hcl : (zny M).cls = zcl M := by show (zhd M).2.1.cls = zcn (zhd M).1; rw [ehd]; exact hok.1
  rw [hcl] at hown
  rw [lg_entry_eq]
  have hlen := zlf_sl hf as
  have hl := lv_entry (as.map (zup E)) (n := zml M) (by rw [hlen]; exact hn)
  have hX : zX E d M p (zrm d) s m (as.map (zup E)).toArray c 0 0 := ⟨B.exec, B.bytes, hml, hown, fun w hw => hts w (List.mem_cons_of_mem _ hw), hK, hEo, hc, ⟨Nat.le_refl _, Nat.le_refl _⟩, ⟨Nat.zero_le _, Nat.zero_le _⟩, hstr, hf⟩
  have hL : zLs E (zml M) (zla (zml M) as) (lg_sl (as.map (zup E)) ++ List.replicate (zml M - (lg_sl (as.map (zup E))).length) Slot.unset).toArray := by
    refine ⟨?_, ?_, _, hl, ?_⟩
    · unfold zla
      rw [List.length_append, List.length_replicate]
      omega
    · intro v hv
      rcases List.mem_append.mp hv with q | q
      · exact zlf_rv hrv v q
      · rw [(List.mem_replicate.mp q).2]; trivial
    · intro j v hj hv
      unfold zla at hj
      rcases Nat.lt_or_ge j (zlf as).length with q | q
      · rw [List.getElem?_append_left q] at hj
        have := zlf_at hf as 0 j v hj hv
        rwa [Nat.zero_add] at this
      · rw [List.getElem?_append_right q] at hj
        exact absurd (List.mem_replicate.mp (List.mem_of_getElem? hj)).2 hv
  have hE : zEd E M Q p l e (zrm d) s m (as.map (zup E)).toArray below meth c 0 0 (MQ below (zQc E M Q) (as.map (zup E)).toArray s 0 0 (zA E)) := by
    intro r h' H locs pc ls hS hR hQ hdg
    have hq : ∀ t : State, t.heap = H → s.WarmedH t.vm → zQc E M Q (as.map (zup E)).toArray s (.returned (zrs M r).head?) t := fun t ht _ => ⟨⟨r, h', rfl, hR, hQ, hS.1, by rw [ht]; exact hS.2.1⟩, hS.2.2.F ht⟩
    rcases hrt : zrt M with _ | t
    · rw [zri_n hrt] at hdg
      rw [zrs_n hrt] at hq ⊢
      rw [hrt] at hr
      exact W.vret B.exec B.bytes hr hq hS.2.2.2.2 hdg hlocks
    · by_cases hl : t = .long
      · subst hl
        rw [zri_l hrt] at hdg
        rw [zrs_l hrt] at hq ⊢
        rw [hrt] at hr
        exact W.lret B.exec B.bytes hr hq hS.2.2.2.2 hdg hlocks
      · rw [zri_s hrt hl] at hdg
        rw [zrs_s hrt hl] at hq ⊢
        have hR := zRr_s hrt hl hR
        rw [hrt] at hr
        exact W.zret B.exec B.bytes hr hR.2 hq hS.2.2.2.2 hdg hlocks
  have k1 := hW p e (zrm d) s m _ below meth c s.heap [] _ 0 0 _ hX hE ⟨hRg', hP, va_S.rf⟩ hL (fun v hv => by cases hv)
  rw [h0] at k1
  exact k1
section ZC
variable {l : Launch} {E : zE} {d : Nat} {M : zMeth} {k : Nat} {L S : List zV} {h : zHp} {Q : Int → zHp → Prop}
theorem zblind (av : List Value) (h : zHp) : FrameBlind (va_Pc av (fun U => zU E h U)) := by
  intro a U g mk q
  obtain ⟨q1, q2, q3, q4, q5⟩ := q
  exact ⟨q1, q2, q3, va_K.moved (u := U) (U := U.calling g mk a) (Vm.Alike.refl U.vm) q4, zStr_mv q5 (State.WarmedH.refl U) (Nat.le_refl _) (fun _ _ _ => rfl)⟩
theorem zU_of {s U : State} {H : Heap} {locs : List Loc} (hK : va_K (zgD E) vwCl (ztys E) s) (hstr : zStr E s) (hS : zSt E h s H locs) (hU : U.heap = H) (hW : s.WarmedH U.vm) : zU E h U := by
  refine ⟨hS.1, by rw [hU]; exact hS.2.1, va_K.moved hW.alike hK, zStr_mv hstr hW (by rw [hU]; exact hS.2.2.1) (fun q h1 h2 => by rw [hU]; exact hS.2.2.2.1 q h1 h2)⟩
/-- behind a call -/
theorem zbehind {M' : zMeth} {Q' : Int → zHp → Prop} {p : Program} {e : Env} {R : Room} {s : State} {m : MethodId} {args : Array Value} {below : List Frame} {meth : Method} {c : Code} {H : Heap} {locs : List Loc} {ls : Array Slot} {cells slots : Nat} {QQ : State → Prop} {st0 : List Value} {a : Array Value}
    (hX : zX E d M p R s m args c cells slots) (hE : zEd E M Q p l e R s m args below meth c cells slots QQ) (hS : zSt E h s H locs) (hL : zLs E (zml M) L ls) (hv : ∀ v ∈ S, zrv v) (hn : zpc M (k + 1) = zpc M k + 3)
    (hr : va_Run p l e R s m args below meth c H locs cells slots 0 0 (F0 m (zpc M k) ls st0) (S.map (zup E)) (zQc E M' Q' a) (zA E))
    (kk : ∀ (r : Int) (h' : zHp), zRr M' r → Q' r h' → zW l E d M (k + 1) L (zrz M' r ++ S) h' Q) : W p l e R s m args below meth c H locs cells slots QQ (F0 m (zpc M k) ls st0) := by
  intro T hT X
  obtain ⟨v, st₀, t, T', L', g0, X', hL', e1, e2, ⟨⟨r, h', hv', hR, hQ', hRg', hP'⟩, hz, hk⟩, st⟩ := hr T hT X
  cases hv'
  rw [g0] at hz hk
  have k1 := kk r h' hR hQ' p e R s m args below meth c T'.heap (locs ++ L') ls cells slots QQ hX hE ⟨hRg', by rw [e1]; exact hP', Nat.le_trans hS.2.2.1 (by rw [e1]; exact hz), fun q h1 h2 => by rw [e1, hk q (Nat.lt_of_lt_of_le h1 hS.2.2.1) h2]; exact hS.2.2.2.1 q h1 h2, fun q hq => (List.mem_append.mp hq).elim (hS.2.2.2.2 q) (hL' q)⟩ hL (fun v hv2 => (List.mem_append.mp hv2).elim (zRr_v hR v) (hv v))
  obtain ⟨t2, a1, b1⟩ := k1 T' rfl X'
  rw [List.map_append, ← zrs_z, hn] at a1
  have e9 : (zrs M' r).head?.toList = zrs M' r := by unfold zrs; split <;> rfl
  exact ⟨t2, st t2 (by rw [e9]; exact a1), b1⟩
theorem zhok_of {j : Nat} (h : zCq.contains j = true) : (zhj j).2.1.cls = zcn (zhj j).1 ∧ (zhj j).2.1.cls ≠ "java/lang/invoke/MethodHandle" ∧ (zhj j).2.1.cls ≠ "java/lang/invoke/VarHandle" ∧ (parseMethodDescriptor (zhj j).2.1.desc).map (fun d => d.parameters.length) = some (zhj j).2.2.2.2.2.2 ∧ (zhj j).2.2.2.1 ≤ 21 := by
  have h1 := List.all_eq_true.mp (by decide +kernel : zCq.all (fun j => (zHd[j]?).isSome) = true) _ (List.contains_iff_mem.mp h)
  obtain ⟨hd, hh⟩ := Option.isSome_iff_exists.mp h1
  have e : zhj j = hd := by unfold zhj; rw [hh]; rfl
  have hok := List.all_eq_true.mp zHd_ok _ (List.mem_of_getElem? hh)
  unfold zhok at hok
  simp only [Bool.and_eq_true, decide_eq_true_eq] at hok
  rw [e]
  exact hok
theorem z_inv {ix i ci : Nat} {M' : zMeth} {As : List zV} {d' : Nat} {Q' : Int → zHp → Prop} {ks : List Nat} (ho : zop M k = (49, 0, [ix, M'.1])) (hC : zC l E d' M' (.inr (.inr i) :: As) h Q') (hn : (zhd M').2.2.2.2.2 = (false, As.length)) (hO : zO[i]? = some (.inl (ci, ks))) (hcl : (zhd M').1 = ci) (hd : d' + 1 ≤ d) (hst : decide ((S.map zcat).sum ≤ 8) = true)
    (kk : ∀ (r : Int) (h' : zHp), zRr M' r → Q' r h' → zW l E d M (k + 1) L (zrz M' r ++ S) h' Q) : zW l E d M k L (As.reverse ++ .inr (.inr i) :: S) h Q := by
  intro p e R s m args below meth c H locs ls cells slots QQ hX hE hS hL hv
  have hck : (zdc M k 3 (.invokevirtual ix) && (zMp.contains ((zhd M).1, ix, M'.1, false) && zIok M'.1)) = true := zck_at hX.2.2.2.2.2.2.2.1 ho (by decide : (49 : Nat) ≠ 999)
  obtain ⟨hck, hmp⟩ := (Bool.and_eq_true _ _).mp hck
  obtain ⟨hdg, hpc⟩ := zdc_at hck
  obtain ⟨hmp, hi⟩ := (Bool.and_eq_true _ _).mp hmp
  unfold zIok at hi
  simp only [Bool.and_eq_true] at hi
  obtain ⟨hi1, hi2, hi3, hi4⟩ := hi
  obtain ⟨ok1, ok2, ok3, ok4, ok5⟩ := zhok_of hi1
  have hf := hX.2.2.2.2.2.2.2.2.2.2.2
  have hvA : ∀ v ∈ (.inr (.inr i) :: As : List zV), zrv v := zrv_k (v := .inr (.inr i)) trivial (fun v hq => hv v (List.mem_append_left _ (List.mem_reverse.mpr hq)))
  have hvS : ∀ v ∈ S, zrv v := fun v hq => hv v (List.mem_append_right _ (List.mem_cons_of_mem _ hq))
  have hM := hC hvA hS.1 hX.2.2.2.2.2.2.1 hf
  have gd : ∀ {w : Jvm.Cond}, w ∈ lw_tbl → goodWord w = true → w ∈ lw_tblg ∧ ((w.onTables && w.keeps) = true ∨ ∃ ty, w = .arrayClass ty) := fun h1 h2 => ⟨List.mem_filter.mpr ⟨h1, h2⟩, good_of_word h2⟩
  have hg : GoodIn lw_tblg (wsV (zcl M) ix (zny M').cls (zny M') (zws M')) := by
    intro w hw2
    unfold wsV zws at hw2
    simp only [List.cons_append, List.nil_append, List.mem_cons] at hw2
    rcases hw2 with rfl | rfl | rfl | rfl | rfl | h1
    · exact gd (zw_link hmp) rfl
    · exact gd (zw_inst hi2) rfl
    · refine gd ?_ rfl
      have h9 := zw_sel hi3
      rw [← ok1] at h9
      exact h9
    · refine gd ?_ rfl
      have h9 := zw_ini hi4
      rw [← ok1] at h9
      exact h9
    · exact gd (zw_code hi1) rfl
    · exact ⟨h1, good_of_word (lw_tblg_in _ h1).2⟩
  have hRm := hX.2.2.2.2.2.2.2.2.1
  have hnp : (zhj M'.1).2.2.2.2.2.2 = As.length := by show (zhd M').2.2.2.2.2.2 = _; rw [hn]
  have cw : CallW R s args (zcl M) (zny M').cls ix (zny M') (zby M') (zml M') (zrt M') (zws M') (zrm d') 0 0 As.length := cwV (ws' := lw_tblg) As.length hX.2.2.2.2.1 hg rfl rfl rfl ⟨rfl, ok2, ok3, by rw [← hnp]; exact ok4⟩ ⟨by show d' + 1 ≤ R.frames; omega, by show 8 + ((zhj M'.1).2.2.2.1 + 11) + 40 * d' ≤ R.locals; omega⟩
  have hrcv : ∃ cellB : Cell, H[zad E i]? = some cellB ∧ cellB.vm.isStatics = false ∧ s.vm.findClass (zny M').cls = some cellB.cls := by
    cases hc : vwCl[ci]? with
    | none =>
      exfalso
      obtain ⟨r, h1, -⟩ := hS.2.1 i _ (zwl_at hO)
      rw [hc] at h1
      cases h1
    | some q =>
      have h7 := va_recv hX.2.2.2.2.2.1 hS.2.1 hc (zwl_at hO)
      have e1 : q.1 = (zny M').cls := by
        show q.1 = (zhj M'.1).2.1.cls
        rw [ok1, show (zhj M'.1).1 = ci from hcl]
        have h8 : ∀ ci, ci < 13 → (vwCl[ci]?).map (·.1) = zcns[ci]? := by
          intro ci hci
          match ci, hci with
          | 0, _ | 1, _ | 2, _ | 3, _ | 4, _ | 5, _ | 6, _ | 7, _ | 8, _ | 9, _ | 10, _ | 11, _ | 12, _ => rfl
        have h2 := h8 ci (by have := (List.getElem?_eq_some_iff.mp hc).1; exact this)
        rw [hc] at h2
        unfold zcn
        rw [← h2]
        rfl
      rw [← e1]
      exact h7
  rw [List.map_append, List.map_cons, List.map_reverse, zrf_r (zO_lt hO)]
  have hU : ∀ U : State, U.heap = H → s.WarmedH U.vm → va_Pc ((.inr (.inr i) :: As : List zV).map (zup E)) (fun U => zU E h U) (Value.ref (zad E i) :: As.map (zup E)).toArray U := fun U hU hW => ⟨by rw [List.map_cons, zrf_r (zO_lt hO)], zU_of hX.2.2.2.2.2.1 hX.2.2.2.2.2.2.2.2.2.2.1 hS hU hW⟩
  exact zbehind hX hE hS hL hvS hpc (va_runV (As := As.map (zup E)) (rest := S.map (zup E)) ⟨hX.1, hX.2.1, hX.2.2.1, hX.2.2.2.1, hX.2.2.2.2.1⟩ hM cw ⟨zblind _ _, hrcv, hU⟩ rfl (by rw [List.length_map]) (by obtain ⟨-, -, lv, hh, -⟩ := hL; exact hh.1) rfl (lv_room (by rw [zcat_up hf]; exact of_decide_eq_true hst)) hdg hX.2.2.2.2.2.2.2.2.2.1) kk
theorem z_ivs {ix : Nat} {M' : zMeth} {As : List zV} {d' : Nat} {Q' : Int → zHp → Prop} (ho : zop M k = (50, 0, [ix, M'.1])) (hC : zC l E d' M' As h Q') (hn : (zhd M').2.2.2.2.2 = (true, As.length)) (hd : d' + 1 ≤ d) (hst : decide ((S.map zcat).sum ≤ 8) = true)
    (kk : ∀ (r : Int) (h' : zHp), zRr M' r → Q' r h' → zW l E d M (k + 1) L (zrz M' r ++ S) h' Q) : zW l E d M k L (As.reverse ++ S) h Q := by
  intro p e R s m args below meth c H locs ls cells slots QQ hX hE hS hL hv
  have hck : (zdc M k 3 (.invokestatic ix) && ((zMp.contains ((zhd M).1, ix, M'.1, false) || zMp.contains ((zhd M).1, ix, M'.1, true)) && zSok M'.1)) = true := zck_at hX.2.2.2.2.2.2.2.1 ho (by decide : (50 : Nat) ≠ 999)
  obtain ⟨hck, hmp⟩ := (Bool.and_eq_true _ _).mp hck
  obtain ⟨hdg, hpc⟩ := zdc_at hck
  obtain ⟨hmp, hi⟩ := (Bool.and_eq_true _ _).mp hmp
  unfold zSok at hi
  simp only [Bool.and_eq_true] at hi
  obtain ⟨hi1, hi2, hi4⟩ := hi
  obtain ⟨ok1, ok2, ok3, ok4, ok5⟩ := zhok_of hi1
  have hf := hX.2.2.2.2.2.2.2.2.2.2.2
  have hvA : ∀ v ∈ As, zrv v := fun v hq => hv v (List.mem_append_left _ (List.mem_reverse.mpr hq))
  have hvS : ∀ v ∈ S, zrv v := fun v hq => hv v (List.mem_append_right _ hq)
  have hM := hC hvA hS.1 hX.2.2.2.2.2.2.1 hf
  have hRm := hX.2.2.2.2.2.2.2.2.1
  have gd : ∀ {w : Jvm.Cond}, w ∈ lw_tbl → goodWord w = true → w ∈ lw_tblg ∧ ((w.onTables && w.keeps) = true ∨ ∃ ty, w = .arrayClass ty) := fun h1 h2 => ⟨List.mem_filter.mpr ⟨h1, h2⟩, good_of_word h2⟩
  have hU : ∀ U : State, U.heap = H → s.WarmedH U.vm → va_Pc (As.map (zup E)) (fun U => zU E h U) (As.map (zup E)).toArray U := fun U hU hW => ⟨rfl, zU_of hX.2.2.2.2.2.1 hX.2.2.2.2.2.2.2.2.2.2.1 hS hU hW⟩
  have hini : Jvm.Cond.initialized (zny M').cls ∈ lw_tbl := by
    have h9 := zw_ini hi4
    rw [← ok1] at h9
    exact h9
  have hnp : (zhj M'.1).2.2.2.2.2.2 = As.length := by show (zhd M').2.2.2.2.2.2 = _; rw [hn]
  rw [List.map_append, List.map_reverse]
  rcases (Bool.or_eq_true _ _).mp hmp with hmp | hmp
  · have hg : GoodIn lw_tblg (va_wsS (zcl M) ix (zny M') (zws M')) := by
      intro w hw2
      unfold va_wsS zws at hw2
      simp only [List.cons_append, List.nil_append, List.mem_cons] at hw2
      rcases hw2 with rfl | rfl | rfl | rfl | h1
      · exact gd (zw_link hmp) rfl
      · exact gd (zw_stat hi2) rfl
      · exact gd hini rfl
      · exact gd (zw_code hi1) rfl
      · exact ⟨h1, good_of_word (lw_tblg_in _ h1).2⟩
    have cw := va_cwS (R := R) (s := s) (args := args) (own := zcl M) (index := ix) (y := zny M') (bytes := zby M') (maxL := zml M') (ret := zrt M') (ws := zws M') (ws' := lw_tblg) (rm := zrm d') (mc := 0) (ms := 0) As.length hX.2.2.2.2.1 hg rfl rfl rfl ⟨ok2, ok3, by rw [← hnp]; exact ok4⟩ ⟨by show d' + 1 ≤ R.frames; omega, by show 8 + ((zhj M'.1).2.2.2.1 + 11) + 40 * d' ≤ R.locals; omega⟩
    exact zbehind hX hE hS hL hvS hpc (va_runS (As := As.map (zup E)) (rest := S.map (zup E)) ⟨hX.1, hX.2.1, hX.2.2.1, hX.2.2.2.1, hX.2.2.2.2.1⟩ hM cw ⟨zblind _ _, hU⟩ rfl (by rw [List.length_map]) (by obtain ⟨-, -, lv, hh, -⟩ := hL; exact hh.1) rfl (lv_room (by rw [zcat_up hf]; exact of_decide_eq_true hst)) hdg hX.2.2.2.2.2.2.2.2.2.1) kk
  · have hg : GoodIn lw_tblg (zws M') := by
      intro w hw2
      rcases List.mem_cons.mp hw2 with rfl | h1
      · exact gd (zw_code hi1) rfl
      · exact ⟨h1, good_of_word (lw_tblg_in _ h1).2⟩
    have cw := va_cnB (R := R) (s := s) (args := args) (own := zcl M) (host := "OxenHome") (index := ix) (y := zny M') (bytes := zby M') (maxL := zml M') (ret := zrt M') (ws := zws M') (ws' := lw_tblg) (rm := zrm d') (mc := 0) (ms := 0) As.length hX.2.2.2.2.1 hg rfl rfl rfl (hX.2.2.2.2.2.2.2.2.2.2.1.2.2.2.2.2.2.2.2 _ (zw_nest hmp) rfl) (hX.2.2.2.2.1 _ (List.mem_filter.mpr ⟨hini, rfl⟩)) ⟨ok2, ok3, by rw [← hnp]; exact ok4⟩ ⟨by show d' + 1 ≤ R.frames; omega, by show 8 + ((zhj M'.1).2.2.2.1 + 11) + 40 * d' ≤ R.locals; omega⟩
    exact zbehind hX hE hS hL hvS hpc (va_runSN (As := As.map (zup E)) (rest := S.map (zup E)) ⟨hX.1, hX.2.1, hX.2.2.1, hX.2.2.2.1, hX.2.2.2.2.1⟩ hM ⟨cw, hX.2.2.2.2.1 _ (List.mem_filter.mpr ⟨zw_stat hi2, rfl⟩), trivial⟩ ⟨zblind _ _, hU⟩ rfl (by rw [List.length_map]) (by obtain ⟨-, -, lv, hh, -⟩ := hL; exact hh.1) rfl (lv_room (by rw [zcat_up hf]; exact of_decide_eq_true hst)) hdg hX.2.2.2.2.2.2.2.2.2.1) kk
end ZC
end
section
/-! small tools behind the rules; Row; Math -/
theorem zinj {α β : Type} {a c : α} {b d : β} (h : some (a, b) = some (c, d)) : a = c ∧ b = d := by
  cases h
  exact ⟨rfl, rfl⟩
theorem zinj2 {α β : Type} {a c : α} {b d : β} (h : some (a, b) = some (c, d)) : a = c ∧ b = d := zinj h
theorem zguard {α : Type} {c : Prop} [Decidable c] {x : Option α} {r : α} (h : (if c then x else none) = some r) : c ∧ x = some r := by
  by_cases hc : c
  · rw [if_pos hc] at h; exact ⟨hc, h⟩
  · rw [if_neg hc] at h; cases h
theorem zbind {α β : Type} {x : Option α} {f : α → Option β} {r : β} (h : x.bind f = some r) : ∃ a, x = some a ∧ f a = some r := by
  cases x with
  | none => cases h
  | some a => exact ⟨a, rfl, h⟩
def zsub : List zV → List zV → Prop
  | [], [] => True
  | a :: as, b :: bs => (a = b ∨ a = zJk) ∧ zsub as bs
  | _, _ => False
theorem zsub_at : ∀ {L' L : List zV}, zsub L' L → L'.length = L.length ∧ ∀ (j : Nat) (v : zV), L'[j]? = some v → v = zJk ∨ L[j]? = some v := by
  intro L'
  induction L' with
  | nil =>
    intro L h
    cases L with
    | nil => exact ⟨rfl, fun j v hj => by simp at hj⟩
    | cons b bs => exact h.elim
  | cons a as ih =>
    intro L h
    cases L with
    | nil => exact h.elim
    | cons b bs =>
      obtain ⟨h1, h2⟩ := h
      obtain ⟨i1, i2⟩ := ih h2
      refine ⟨by simp [i1], fun j v hj => ?_⟩
      cases j with
      | zero =>
        have hj : a = v := Option.some.inj hj
        rcases h1 with q | q
        · right; rw [← hj, q]; rfl
        · left; rw [← hj, q]
      | succ j => exact i2 j v hj
section ZT
variable {l : Launch} {E : zE} {d : Nat} {M : zMeth} {k : Nat} {L L' S S' : List zV} {h : zHp} {Q : Int → zHp → Prop}
/-- locals that nobody reads any more are forgotten -/
theorem zsubL (hs : zsub L' L) (kk : zW l E d M k L' S h Q) : zW l E d M k L S h Q := by
  intro p e R s m args below meth c H locs ls cells slots QQ hX hE hS hL hv
  obtain ⟨h1, h2⟩ := zsub_at hs
  obtain ⟨g1, g2, lv, g3, g4⟩ := hL
  refine kk p e R s m args below meth c H locs ls cells slots QQ hX hE hS ⟨h1.trans g1, fun v hv => ?_, lv, g3, fun j v hj hne => ?_⟩ hv
  · obtain ⟨j, hj⟩ := List.getElem?_of_mem hv
    rcases h2 j v hj with q | q
    · rw [q]; trivial
    · exact g2 v (List.mem_of_getElem? q)
  · rcases h2 j v hj with q | q
    · exact absurd q hne
    · exact g4 j v q hne
theorem zcast (h1 : L' = L) (h2 : S' = S) (kk : zW l E d M k L S h Q) : zW l E d M k L' S' h Q := by
  subst h1; subst h2; exact kk
def zrtk (M : zMeth) : Nat := match zrt M with
  | none => 0
  | some .long => 2
  | some _ => 1
theorem zrz_0 {M : zMeth} {r : Int} (h : zrtk M = 0) : zrz M r = [] := by
  unfold zrtk at h
  unfold zrz
  split at h
  · rename_i q; rw [q]
  · cases h
  · cases h
theorem zrz_1 {M : zMeth} {r : Int} (h : zrtk M = 1) : zrz M r = [.inl r] := by
  unfold zrtk at h
  unfold zrz
  split at h
  · cases h
  · cases h
  · rename_i t hl q
    rw [q]
    cases t <;> first | rfl | exact absurd rfl hl
theorem zrz_2 {M : zMeth} {r : Int} (h : zrtk M = 2) : zrz M r = [.inr (.inl r)] := by
  unfold zrtk at h
  unfold zrz
  split at h
  · cases h
  · rename_i q; rw [q]
  · cases h
variable {ix i ci d' : Nat} {M' : zMeth} {As : List zV} {Q' : Int → zHp → Prop} {ks : List Nat}
theorem z_inv0 (ht : zrtk M' = 0) (ho : zop M k = (49, 0, [ix, M'.1])) (hC : zC l E d' M' (.inr (.inr i) :: As) h Q') (hn : (zhd M').2.2.2.2.2 = (false, As.length)) (hO : zO[i]? = some (.inl (ci, ks))) (hcl : (zhd M').1 = ci) (hd : d' + 1 ≤ d) (hst : decide ((S.map zcat).sum ≤ 8) = true)
    (kk : ∀ (r : Int) (h' : zHp), zRr M' r → Q' r h' → zW l E d M (k + 1) L S h' Q) : zW l E d M k L (As.reverse ++ .inr (.inr i) :: S) h Q :=
  z_inv ho hC hn hO hcl hd hst (fun r h' hR hQ => by rw [zrz_0 ht]; exact kk r h' hR hQ)
theorem z_inv1 (ht : zrtk M' = 1) (ho : zop M k = (49, 0, [ix, M'.1])) (hC : zC l E d' M' (.inr (.inr i) :: As) h Q') (hn : (zhd M').2.2.2.2.2 = (false, As.length)) (hO : zO[i]? = some (.inl (ci, ks))) (hcl : (zhd M').1 = ci) (hd : d' + 1 ≤ d) (hst : decide ((S.map zcat).sum ≤ 8) = true)
    (kk : ∀ (r : Int) (h' : zHp), zRr M' r → Q' r h' → zW l E d M (k + 1) L (.inl r :: S) h' Q) : zW l E d M k L (As.reverse ++ .inr (.inr i) :: S) h Q :=
  z_inv ho hC hn hO hcl hd hst (fun r h' hR hQ => by rw [zrz_1 ht]; exact kk r h' hR hQ)
theorem z_inv2 (ht : zrtk M' = 2) (ho : zop M k = (49, 0, [ix, M'.1])) (hC : zC l E d' M' (.inr (.inr i) :: As) h Q') (hn : (zhd M').2.2.2.2.2 = (false, As.length)) (hO : zO[i]? = some (.inl (ci, ks))) (hcl : (zhd M').1 = ci) (hd : d' + 1 ≤ d) (hst : decide ((S.map zcat).sum ≤ 8) = true)
    (kk : ∀ (r : Int) (h' : zHp), zRr M' r → Q' r h' → zW l E d M (k + 1) L (.inr (.inl r) :: S) h' Q) : zW l E d M k L (As.reverse ++ .inr (.inr i) :: S) h Q :=
  z_inv ho hC hn hO hcl hd hst (fun r h' hR hQ => by rw [zrz_2 ht]; exact kk r h' hR hQ)
theorem z_ivs0 (ht : zrtk M' = 0) (ho : zop M k = (50, 0, [ix, M'.1])) (hC : zC l E d' M' As h Q') (hn : (zhd M').2.2.2.2.2 = (true, As.length)) (hd : d' + 1 ≤ d) (hst : decide ((S.map zcat).sum ≤ 8) = true)
    (kk : ∀ (r : Int) (h' : zHp), zRr M' r → Q' r h' → zW l E d M (k + 1) L S h' Q) : zW l E d M k L (As.reverse ++ S) h Q :=
  z_ivs ho hC hn hd hst (fun r h' hR hQ => by rw [zrz_0 ht]; exact kk r h' hR hQ)
theorem z_ivs1 (ht : zrtk M' = 1) (ho : zop M k = (50, 0, [ix, M'.1])) (hC : zC l E d' M' As h Q') (hn : (zhd M').2.2.2.2.2 = (true, As.length)) (hd : d' + 1 ≤ d) (hst : decide ((S.map zcat).sum ≤ 8) = true)
    (kk : ∀ (r : Int) (h' : zHp), zRr M' r → Q' r h' → zW l E d M (k + 1) L (.inl r :: S) h' Q) : zW l E d M k L (As.reverse ++ S) h Q :=
  z_ivs ho hC hn hd hst (fun r h' hR hQ => by rw [zrz_1 ht]; exact kk r h' hR hQ)
theorem z_ivs2 (ht : zrtk M' = 2) (ho : zop M k = (50, 0, [ix, M'.1])) (hC : zC l E d' M' As h Q') (hn : (zhd M').2.2.2.2.2 = (true, As.length)) (hd : d' + 1 ≤ d) (hst : decide ((S.map zcat).sum ≤ 8) = true)
    (kk : ∀ (r : Int) (h' : zHp), zRr M' r → Q' r h' → zW l E d M (k + 1) L (.inr (.inl r) :: S) h' Q) : zW l E d M k L (As.reverse ++ S) h Q :=
  z_ivs ho hC hn hd hst (fun r h' hR hQ => by rw [zrz_2 ht]; exact kk r h' hR hQ)
end ZT
-- Row
def rget (h : zHp) (a n : Nat) (i : Int) : Int := if 0 ≤ i ∧ i < n then h a i.toNat else 0
def rput (h : zHp) (a n : Nat) (i v : Int) : zHp := if 0 ≤ i ∧ i < n then zst h a i.toNat v else h
theorem zk_Row_get : zchk zm_Row_get = true := by decide +kernel
theorem zk_Row_put : zchk zm_Row_put = true := by decide +kernel
theorem zk_Row_copyFrom : zchk zm_Row_copyFrom = true := by decide +kernel
theorem zk_Row_copyPart : zchk zm_Row_copyPart = true := by decide +kernel
section ZRow
variable {l : Launch} {E : zE} {h : zHp}
theorem zf_Row_get {r a n : Nat} (hr : zO[r]? = some (.inl (6, [3 + a]))) (ha : zO[a]? = some (.inr (0, n))) {d : Nat} (i : Int) : zC l E d zm_Row_get [.inr (.inr r), .inl i] h (fun r0 h0 => rget h a n i = r0 ∧ h = h0) := by
  have hrl := zO_lt hr
  have hal := zO_lt ha
  refine zC_of zk_Row_get (by decide) rfl rfl (Nat.le_of_ble_eq_true rfl) ?_
  show zW l E d zm_Row_get 0 [.inr (.inr r), .inl i] [] h _
  refine z_iload rfl rfl ?_
  refine z_zlt rfl (fun c1 => ?_) (fun c1 => ?_)
  · refine z_const rfl ?_
    refine z_iret rfl rfl ⟨?_, rfl⟩
    unfold rget
    rw [if_neg (by omega)]
  · refine z_iload rfl rfl ?_
    refine z_aload rfl rfl (by simpa using hrl) ?_
    refine z_getr rfl hr rfl (by simpa using hal) ?_
    refine z_alen rfl ha (by decide) ?_
    refine z_cge rfl (fun c2 => ?_) (fun c2 => ?_)
    · refine z_const rfl ?_
      refine z_iret rfl rfl ⟨?_, rfl⟩
      unfold rget
      rw [if_neg (by omega)]
    · refine z_aload rfl rfl (by simpa using hrl) ?_
      refine z_getr rfl hr rfl (by simpa using hal) ?_
      refine z_iload rfl rfl ?_
      refine z_iald rfl ha (by omega) (by omega) ?_
      refine z_goto rfl ?_
      refine z_iret rfl rfl ⟨?_, rfl⟩
      unfold rget
      rw [if_pos (by omega)]
theorem zf_Row_put {r a n : Nat} (hr : zO[r]? = some (.inl (6, [3 + a]))) (ha : zO[a]? = some (.inr (0, n))) {d : Nat} (i v : Int) : zC l E d zm_Row_put [.inr (.inr r), .inl i, .inl v] h (fun r0 h0 => 0 = r0 ∧ rput h a n i v = h0) := by
  have hrl := zO_lt hr
  have hal := zO_lt ha
  refine zC_of zk_Row_put (by decide) rfl rfl (Nat.le_of_ble_eq_true rfl) ?_
  show zW l E d zm_Row_put 0 [.inr (.inr r), .inl i, .inl v] [] h _
  refine z_iload rfl rfl ?_
  refine z_zlt rfl (fun c1 => ?_) (fun c1 => ?_)
  · refine z_ret rfl rfl rfl ⟨rfl, ?_⟩
    unfold rput
    rw [if_neg (by omega)]
  · refine z_iload rfl rfl ?_
    refine z_aload rfl rfl (by simpa using hrl) ?_
    refine z_getr rfl hr rfl (by simpa using hal) ?_
    refine z_alen rfl ha (by decide) ?_
    refine z_cge rfl (fun c2 => ?_) (fun c2 => ?_)
    · refine z_ret rfl rfl rfl ⟨rfl, ?_⟩
      unfold rput
      rw [if_neg (by omega)]
    · refine z_aload rfl rfl (by simpa using hrl) ?_
      refine z_getr rfl hr rfl (by simpa using hal) ?_
      refine z_iload rfl rfl ?_
      refine z_iload rfl rfl ?_
      refine z_iast rfl ha (by omega) (by omega) ?_
      refine z_ret rfl rfl rfl ⟨rfl, ?_⟩
      unfold rput
      rw [if_pos (by omega)]
end ZRow
theorem zor_ite {c : Prop} [Decidable c] {a b : Int} (h1 : a = 0 ∨ a = 1) (h2 : b = 0 ∨ b = 1) : (if c then a else b) = 0 ∨ (if c then a else b) = 1 := by
  split
  · exact h1
  · exact h2
/-- a large table is looked through in pieces -/
def zchp (M : zMeth) (a b : Nat) : Bool := ((List.range' a b)).all (fun k => zck (zop M k) M k)
theorem zchk_of {M : zMeth} (l : List (Nat × Nat)) (hl : l.flatMap (fun q => List.range' q.1 q.2) = List.range M.2.length) (h : ∀ q ∈ l, zchp M q.1 q.2 = true) : zchk M = true := by
  unfold zchk
  rw [← hl]
  refine List.all_eq_true.mpr (fun k hk => ?_)
  obtain ⟨q, hq, hk⟩ := List.mem_flatMap.mp hk
  exact List.all_eq_true.mp (h q hq) k hk
-- Math
def zmin (a b : Int) : Int := if a ≤ b then a else b
def zabs (a : Int) : Int := if 0 ≤ a then a else w32 (-a)
end
section
/-! pairs; constant places; Math: by program (in part) -/
theorem zinj3 {α0 α1 α2 : Type} {a0 b0 : α0} {a1 b1 : α1} {a2 b2 : α2} (h : some (a0, a1, a2) = some (b0, b1, b2)) : a0 = b0 ∧ a1 = b1 ∧ a2 = b2 := by
  cases h
  exact ⟨rfl, rfl, rfl⟩
theorem zinj4 {α0 α1 α2 α3 : Type} {a0 b0 : α0} {a1 b1 : α1} {a2 b2 : α2} {a3 b3 : α3} (h : some (a0, a1, a2, a3) = some (b0, b1, b2, b3)) : a0 = b0 ∧ a1 = b1 ∧ a2 = b2 ∧ a3 = b3 := by
  cases h
  exact ⟨rfl, rfl, rfl, rfl⟩
theorem zinj5 {α0 α1 α2 α3 α4 : Type} {a0 b0 : α0} {a1 b1 : α1} {a2 b2 : α2} {a3 b3 : α3} {a4 b4 : α4} (h : some (a0, a1, a2, a3, a4) = some (b0, b1, b2, b3, b4)) : a0 = b0 ∧ a1 = b1 ∧ a2 = b2 ∧ a3 = b3 ∧ a4 = b4 := by
  cases h
  exact ⟨rfl, rfl, rfl, rfl, rfl⟩
theorem zinj6 {α0 α1 α2 α3 α4 α5 : Type} {a0 b0 : α0} {a1 b1 : α1} {a2 b2 : α2} {a3 b3 : α3} {a4 b4 : α4} {a5 b5 : α5} (h : some (a0, a1, a2, a3, a4, a5) = some (b0, b1, b2, b3, b4, b5)) : a0 = b0 ∧ a1 = b1 ∧ a2 = b2 ∧ a3 = b3 ∧ a4 = b4 ∧ a5 = b5 := by
  cases h
  exact ⟨rfl, rfl, rfl, rfl, rfl, rfl⟩
theorem zinj7 {α0 α1 α2 α3 α4 α5 α6 : Type} {a0 b0 : α0} {a1 b1 : α1} {a2 b2 : α2} {a3 b3 : α3} {a4 b4 : α4} {a5 b5 : α5} {a6 b6 : α6} (h : some (a0, a1, a2, a3, a4, a5, a6) = some (b0, b1, b2, b3, b4, b5, b6)) : a0 = b0 ∧ a1 = b1 ∧ a2 = b2 ∧ a3 = b3 ∧ a4 = b4 ∧ a5 = b5 ∧ a6 = b6 := by
  cases h
  exact ⟨rfl, rfl, rfl, rfl, rfl, rfl, rfl⟩
theorem zinj8 {α0 α1 α2 α3 α4 α5 α6 α7 : Type} {a0 b0 : α0} {a1 b1 : α1} {a2 b2 : α2} {a3 b3 : α3} {a4 b4 : α4} {a5 b5 : α5} {a6 b6 : α6} {a7 b7 : α7} (h : some (a0, a1, a2, a3, a4, a5, a6, a7) = some (b0, b1, b2, b3, b4, b5, b6, b7)) : a0 = b0 ∧ a1 = b1 ∧ a2 = b2 ∧ a3 = b3 ∧ a4 = b4 ∧ a5 = b5 ∧ a6 = b6 ∧ a7 = b7 := by
  cases h
  exact ⟨rfl, rfl, rfl, rfl, rfl, rfl, rfl, rfl⟩
theorem zinj9 {α0 α1 α2 α3 α4 α5 α6 α7 α8 : Type} {a0 b0 : α0} {a1 b1 : α1} {a2 b2 : α2} {a3 b3 : α3} {a4 b4 : α4} {a5 b5 : α5} {a6 b6 : α6} {a7 b7 : α7} {a8 b8 : α8} (h : some (a0, a1, a2, a3, a4, a5, a6, a7, a8) = some (b0, b1, b2, b3, b4, b5, b6, b7, b8)) : a0 = b0 ∧ a1 = b1 ∧ a2 = b2 ∧ a3 = b3 ∧ a4 = b4 ∧ a5 = b5 ∧ a6 = b6 ∧ a7 = b7 ∧ a8 = b8 := by
  cases h
  exact ⟨rfl, rfl, rfl, rfl, rfl, rfl, rfl, rfl, rfl⟩
theorem zinj10 {α0 α1 α2 α3 α4 α5 α6 α7 α8 α9 : Type} {a0 b0 : α0} {a1 b1 : α1} {a2 b2 : α2} {a3 b3 : α3} {a4 b4 : α4} {a5 b5 : α5} {a6 b6 : α6} {a7 b7 : α7} {a8 b8 : α8} {a9 b9 : α9} (h : some (a0, a1, a2, a3, a4, a5, a6, a7, a8, a9) = some (b0, b1, b2, b3, b4, b5, b6, b7, b8, b9)) : a0 = b0 ∧ a1 = b1 ∧ a2 = b2 ∧ a3 = b3 ∧ a4 = b4 ∧ a5 = b5 ∧ a6 = b6 ∧ a7 = b7 ∧ a8 = b8 ∧ a9 = b9 := by
  cases h
  exact ⟨rfl, rfl, rfl, rfl, rfl, rfl, rfl, rfl, rfl, rfl⟩
theorem zinj11 {α0 α1 α2 α3 α4 α5 α6 α7 α8 α9 α10 : Type} {a0 b0 : α0} {a1 b1 : α1} {a2 b2 : α2} {a3 b3 : α3} {a4 b4 : α4} {a5 b5 : α5} {a6 b6 : α6} {a7 b7 : α7} {a8 b8 : α8} {a9 b9 : α9} {a10 b10 : α10} (h : some (a0, a1, a2, a3, a4, a5, a6, a7, a8, a9, a10) = some (b0, b1, b2, b3, b4, b5, b6, b7, b8, b9, b10)) : a0 = b0 ∧ a1 = b1 ∧ a2 = b2 ∧ a3 = b3 ∧ a4 = b4 ∧ a5 = b5 ∧ a6 = b6 ∧ a7 = b7 ∧ a8 = b8 ∧ a9 = b9 ∧ a10 = b10 := by
  cases h
  exact ⟨rfl, rfl, rfl, rfl, rfl, rfl, rfl, rfl, rfl, rfl, rfl⟩
theorem zinl2_0_1 {α0 : Type} {β : Type} {a0 b0 : α0} (h : (Sum.inl (a0) : (α0) ⊕ β) = Sum.inl (b0)) : a0 = b0 := by
  cases h
  exact rfl
theorem zinl2_1_1 {α0 : Type} {β : Type} {a0 b0 : α0} (h : (Sum.inr (a0) : β ⊕ (α0)) = Sum.inr (b0)) : a0 = b0 := by
  cases h
  exact rfl
theorem zinl3_0_1 {α0 : Type} {β : Type} {a0 b0 : α0} (h : (Sum.inl (a0) : (α0) ⊕ β) = Sum.inl (b0)) : a0 = b0 := by
  cases h
  exact rfl
theorem zinl3_1_1 {α0 : Type} {β γ : Type} {a0 b0 : α0} (h : (Sum.inr (Sum.inl (a0)) : β ⊕ ((α0) ⊕ γ)) = Sum.inr (Sum.inl (b0))) : a0 = b0 := by
  cases h
  exact rfl
theorem zinl3_2_1 {α0 : Type} {β γ : Type} {a0 b0 : α0} (h : (Sum.inr (Sum.inr (a0)) : β ⊕ (γ ⊕ (α0))) = Sum.inr (Sum.inr (b0))) : a0 = b0 := by
  cases h
  exact rfl
theorem zinl2_0_2 {α0 α1 : Type} {β : Type} {a0 b0 : α0} {a1 b1 : α1} (h : (Sum.inl (a0, a1) : (α0 × α1) ⊕ β) = Sum.inl (b0, b1)) : a0 = b0 ∧ a1 = b1 := by
  cases h
  exact ⟨rfl, rfl⟩
theorem zinl2_1_2 {α0 α1 : Type} {β : Type} {a0 b0 : α0} {a1 b1 : α1} (h : (Sum.inr (a0, a1) : β ⊕ (α0 × α1)) = Sum.inr (b0, b1)) : a0 = b0 ∧ a1 = b1 := by
  cases h
  exact ⟨rfl, rfl⟩
theorem zinl3_0_2 {α0 α1 : Type} {β : Type} {a0 b0 : α0} {a1 b1 : α1} (h : (Sum.inl (a0, a1) : (α0 × α1) ⊕ β) = Sum.inl (b0, b1)) : a0 = b0 ∧ a1 = b1 := by
  cases h
  exact ⟨rfl, rfl⟩
theorem zinl3_1_2 {α0 α1 : Type} {β γ : Type} {a0 b0 : α0} {a1 b1 : α1} (h : (Sum.inr (Sum.inl (a0, a1)) : β ⊕ ((α0 × α1) ⊕ γ)) = Sum.inr (Sum.inl (b0, b1))) : a0 = b0 ∧ a1 = b1 := by
  cases h
  exact ⟨rfl, rfl⟩
theorem zinl3_2_2 {α0 α1 : Type} {β γ : Type} {a0 b0 : α0} {a1 b1 : α1} (h : (Sum.inr (Sum.inr (a0, a1)) : β ⊕ (γ ⊕ (α0 × α1))) = Sum.inr (Sum.inr (b0, b1))) : a0 = b0 ∧ a1 = b1 := by
  cases h
  exact ⟨rfl, rfl⟩
theorem zinl2_0_3 {α0 α1 α2 : Type} {β : Type} {a0 b0 : α0} {a1 b1 : α1} {a2 b2 : α2} (h : (Sum.inl (a0, a1, a2) : (α0 × α1 × α2) ⊕ β) = Sum.inl (b0, b1, b2)) : a0 = b0 ∧ a1 = b1 ∧ a2 = b2 := by
  cases h
  exact ⟨rfl, rfl, rfl⟩
theorem zinl2_1_3 {α0 α1 α2 : Type} {β : Type} {a0 b0 : α0} {a1 b1 : α1} {a2 b2 : α2} (h : (Sum.inr (a0, a1, a2) : β ⊕ (α0 × α1 × α2)) = Sum.inr (b0, b1, b2)) : a0 = b0 ∧ a1 = b1 ∧ a2 = b2 := by
  cases h
  exact ⟨rfl, rfl, rfl⟩
theorem zinl3_0_3 {α0 α1 α2 : Type} {β : Type} {a0 b0 : α0} {a1 b1 : α1} {a2 b2 : α2} (h : (Sum.inl (a0, a1, a2) : (α0 × α1 × α2) ⊕ β) = Sum.inl (b0, b1, b2)) : a0 = b0 ∧ a1 = b1 ∧ a2 = b2 := by
  cases h
  exact ⟨rfl, rfl, rfl⟩
theorem zinl3_1_3 {α0 α1 α2 : Type} {β γ : Type} {a0 b0 : α0} {a1 b1 : α1} {a2 b2 : α2} (h : (Sum.inr (Sum.inl (a0, a1, a2)) : β ⊕ ((α0 × α1 × α2) ⊕ γ)) = Sum.inr (Sum.inl (b0, b1, b2))) : a0 = b0 ∧ a1 = b1 ∧ a2 = b2 := by
  cases h
  exact ⟨rfl, rfl, rfl⟩
theorem zinl3_2_3 {α0 α1 α2 : Type} {β γ : Type} {a0 b0 : α0} {a1 b1 : α1} {a2 b2 : α2} (h : (Sum.inr (Sum.inr (a0, a1, a2)) : β ⊕ (γ ⊕ (α0 × α1 × α2))) = Sum.inr (Sum.inr (b0, b1, b2))) : a0 = b0 ∧ a1 = b1 ∧ a2 = b2 := by
  cases h
  exact ⟨rfl, rfl, rfl⟩
theorem zinl2_0_4 {α0 α1 α2 α3 : Type} {β : Type} {a0 b0 : α0} {a1 b1 : α1} {a2 b2 : α2} {a3 b3 : α3} (h : (Sum.inl (a0, a1, a2, a3) : (α0 × α1 × α2 × α3) ⊕ β) = Sum.inl (b0, b1, b2, b3)) : a0 = b0 ∧ a1 = b1 ∧ a2 = b2 ∧ a3 = b3 := by
  cases h
  exact ⟨rfl, rfl, rfl, rfl⟩
theorem zinl2_1_4 {α0 α1 α2 α3 : Type} {β : Type} {a0 b0 : α0} {a1 b1 : α1} {a2 b2 : α2} {a3 b3 : α3} (h : (Sum.inr (a0, a1, a2, a3) : β ⊕ (α0 × α1 × α2 × α3)) = Sum.inr (b0, b1, b2, b3)) : a0 = b0 ∧ a1 = b1 ∧ a2 = b2 ∧ a3 = b3 := by
  cases h
  exact ⟨rfl, rfl, rfl, rfl⟩
theorem zinl3_0_4 {α0 α1 α2 α3 : Type} {β : Type} {a0 b0 : α0} {a1 b1 : α1} {a2 b2 : α2} {a3 b3 : α3} (h : (Sum.inl (a0, a1, a2, a3) : (α0 × α1 × α2 × α3) ⊕ β) = Sum.inl (b0, b1, b2, b3)) : a0 = b0 ∧ a1 = b1 ∧ a2 = b2 ∧ a3 = b3 := by
  cases h
  exact ⟨rfl, rfl, rfl, rfl⟩
theorem zinl3_1_4 {α0 α1 α2 α3 : Type} {β γ : Type} {a0 b0 : α0} {a1 b1 : α1} {a2 b2 : α2} {a3 b3 : α3} (h : (Sum.inr (Sum.inl (a0, a1, a2, a3)) : β ⊕ ((α0 × α1 × α2 × α3) ⊕ γ)) = Sum.inr (Sum.inl (b0, b1, b2, b3))) : a0 = b0 ∧ a1 = b1 ∧ a2 = b2 ∧ a3 = b3 := by
  cases h
  exact ⟨rfl, rfl, rfl, rfl⟩
theorem zinl3_2_4 {α0 α1 α2 α3 : Type} {β γ : Type} {a0 b0 : α0} {a1 b1 : α1} {a2 b2 : α2} {a3 b3 : α3} (h : (Sum.inr (Sum.inr (a0, a1, a2, a3)) : β ⊕ (γ ⊕ (α0 × α1 × α2 × α3))) = Sum.inr (Sum.inr (b0, b1, b2, b3))) : a0 = b0 ∧ a1 = b1 ∧ a2 = b2 ∧ a3 = b3 := by
  cases h
  exact ⟨rfl, rfl, rfl, rfl⟩
theorem zinl2_0_5 {α0 α1 α2 α3 α4 : Type} {β : Type} {a0 b0 : α0} {a1 b1 : α1} {a2 b2 : α2} {a3 b3 : α3} {a4 b4 : α4} (h : (Sum.inl (a0, a1, a2, a3, a4) : (α0 × α1 × α2 × α3 × α4) ⊕ β) = Sum.inl (b0, b1, b2, b3, b4)) : a0 = b0 ∧ a1 = b1 ∧ a2 = b2 ∧ a3 = b3 ∧ a4 = b4 := by
  cases h
  exact ⟨rfl, rfl, rfl, rfl, rfl⟩
theorem zinl2_1_5 {α0 α1 α2 α3 α4 : Type} {β : Type} {a0 b0 : α0} {a1 b1 : α1} {a2 b2 : α2} {a3 b3 : α3} {a4 b4 : α4} (h : (Sum.inr (a0, a1, a2, a3, a4) : β ⊕ (α0 × α1 × α2 × α3 × α4)) = Sum.inr (b0, b1, b2, b3, b4)) : a0 = b0 ∧ a1 = b1 ∧ a2 = b2 ∧ a3 = b3 ∧ a4 = b4 := by
  cases h
  exact ⟨rfl, rfl, rfl, rfl, rfl⟩
theorem zinl3_0_5 {α0 α1 α2 α3 α4 : Type} {β : Type} {a0 b0 : α0} {a1 b1 : α1} {a2 b2 : α2} {a3 b3 : α3} {a4 b4 : α4} (h : (Sum.inl (a0, a1, a2, a3, a4) : (α0 × α1 × α2 × α3 × α4) ⊕ β) = Sum.inl (b0, b1, b2, b3, b4)) : a0 = b0 ∧ a1 = b1 ∧ a2 = b2 ∧ a3 = b3 ∧ a4 = b4 := by
  cases h
  exact ⟨rfl, rfl, rfl, rfl, rfl⟩
theorem zinl3_1_5 {α0 α1 α2 α3 α4 : Type} {β γ : Type} {a0 b0 : α0} {a1 b1 : α1} {a2 b2 : α2} {a3 b3 : α3} {a4 b4 : α4} (h : (Sum.inr (Sum.inl (a0, a1, a2, a3, a4)) : β ⊕ ((α0 × α1 × α2 × α3 × α4) ⊕ γ)) = Sum.inr (Sum.inl (b0, b1, b2, b3, b4))) : a0 = b0 ∧ a1 = b1 ∧ a2 = b2 ∧ a3 = b3 ∧ a4 = b4 := by
  cases h
  exact ⟨rfl, rfl, rfl, rfl, rfl⟩
theorem zinl3_2_5 {α0 α1 α2 α3 α4 : Type} {β γ : Type} {a0 b0 : α0} {a1 b1 : α1} {a2 b2 : α2} {a3 b3 : α3} {a4 b4 : α4} (h : (Sum.inr (Sum.inr (a0, a1, a2, a3, a4)) : β ⊕ (γ ⊕ (α0 × α1 × α2 × α3 × α4))) = Sum.inr (Sum.inr (b0, b1, b2, b3, b4))) : a0 = b0 ∧ a1 = b1 ∧ a2 = b2 ∧ a3 = b3 ∧ a4 = b4 := by
  cases h
  exact ⟨rfl, rfl, rfl, rfl, rfl⟩
theorem zinl2_0_6 {α0 α1 α2 α3 α4 α5 : Type} {β : Type} {a0 b0 : α0} {a1 b1 : α1} {a2 b2 : α2} {a3 b3 : α3} {a4 b4 : α4} {a5 b5 : α5} (h : (Sum.inl (a0, a1, a2, a3, a4, a5) : (α0 × α1 × α2 × α3 × α4 × α5) ⊕ β) = Sum.inl (b0, b1, b2, b3, b4, b5)) : a0 = b0 ∧ a1 = b1 ∧ a2 = b2 ∧ a3 = b3 ∧ a4 = b4 ∧ a5 = b5 := by
  cases h
  exact ⟨rfl, rfl, rfl, rfl, rfl, rfl⟩
theorem zinl2_1_6 {α0 α1 α2 α3 α4 α5 : Type} {β : Type} {a0 b0 : α0} {a1 b1 : α1} {a2 b2 : α2} {a3 b3 : α3} {a4 b4 : α4} {a5 b5 : α5} (h : (Sum.inr (a0, a1, a2, a3, a4, a5) : β ⊕ (α0 × α1 × α2 × α3 × α4 × α5)) = Sum.inr (b0, b1, b2, b3, b4, b5)) : a0 = b0 ∧ a1 = b1 ∧ a2 = b2 ∧ a3 = b3 ∧ a4 = b4 ∧ a5 = b5 := by
  cases h
  exact ⟨rfl, rfl, rfl, rfl, rfl, rfl⟩
theorem zinl3_0_6 {α0 α1 α2 α3 α4 α5 : Type} {β : Type} {a0 b0 : α0} {a1 b1 : α1} {a2 b2 : α2} {a3 b3 : α3} {a4 b4 : α4} {a5 b5 : α5} (h : (Sum.inl (a0, a1, a2, a3, a4, a5) : (α0 × α1 × α2 × α3 × α4 × α5) ⊕ β) = Sum.inl (b0, b1, b2, b3, b4, b5)) : a0 = b0 ∧ a1 = b1 ∧ a2 = b2 ∧ a3 = b3 ∧ a4 = b4 ∧ a5 = b5 := by
  cases h
  exact ⟨rfl, rfl, rfl, rfl, rfl, rfl⟩
theorem zinl3_1_6 {α0 α1 α2 α3 α4 α5 : Type} {β γ : Type} {a0 b0 : α0} {a1 b1 : α1} {a2 b2 : α2} {a3 b3 : α3} {a4 b4 : α4} {a5 b5 : α5} (h : (Sum.inr (Sum.inl (a0, a1, a2, a3, a4, a5)) : β ⊕ ((α0 × α1 × α2 × α3 × α4 × α5) ⊕ γ)) = Sum.inr (Sum.inl (b0, b1, b2, b3, b4, b5))) : a0 = b0 ∧ a1 = b1 ∧ a2 = b2 ∧ a3 = b3 ∧ a4 = b4 ∧ a5 = b5 := by
  cases h
  exact ⟨rfl, rfl, rfl, rfl, rfl, rfl⟩
theorem zinl3_2_6 {α0 α1 α2 α3 α4 α5 : Type} {β γ : Type} {a0 b0 : α0} {a1 b1 : α1} {a2 b2 : α2} {a3 b3 : α3} {a4 b4 : α4} {a5 b5 : α5} (h : (Sum.inr (Sum.inr (a0, a1, a2, a3, a4, a5)) : β ⊕ (γ ⊕ (α0 × α1 × α2 × α3 × α4 × α5))) = Sum.inr (Sum.inr (b0, b1, b2, b3, b4, b5))) : a0 = b0 ∧ a1 = b1 ∧ a2 = b2 ∧ a3 = b3 ∧ a4 = b4 ∧ a5 = b5 := by
  cases h
  exact ⟨rfl, rfl, rfl, rfl, rfl, rfl⟩
theorem zinl2_0_7 {α0 α1 α2 α3 α4 α5 α6 : Type} {β : Type} {a0 b0 : α0} {a1 b1 : α1} {a2 b2 : α2} {a3 b3 : α3} {a4 b4 : α4} {a5 b5 : α5} {a6 b6 : α6} (h : (Sum.inl (a0, a1, a2, a3, a4, a5, a6) : (α0 × α1 × α2 × α3 × α4 × α5 × α6) ⊕ β) = Sum.inl (b0, b1, b2, b3, b4, b5, b6)) : a0 = b0 ∧ a1 = b1 ∧ a2 = b2 ∧ a3 = b3 ∧ a4 = b4 ∧ a5 = b5 ∧ a6 = b6 := by
  cases h
  exact ⟨rfl, rfl, rfl, rfl, rfl, rfl, rfl⟩
theorem zinl2_1_7 {α0 α1 α2 α3 α4 α5 α6 : Type} {β : Type} {a0 b0 : α0} {a1 b1 : α1} {a2 b2 : α2} {a3 b3 : α3} {a4 b4 : α4} {a5 b5 : α5} {a6 b6 : α6} (h : (Sum.inr (a0, a1, a2, a3, a4, a5, a6) : β ⊕ (α0 × α1 × α2 × α3 × α4 × α5 × α6)) = Sum.inr (b0, b1, b2, b3, b4, b5, b6)) : a0 = b0 ∧ a1 = b1 ∧ a2 = b2 ∧ a3 = b3 ∧ a4 = b4 ∧ a5 = b5 ∧ a6 = b6 := by
  cases h
  exact ⟨rfl, rfl, rfl, rfl, rfl, rfl, rfl⟩
theorem zinl3_0_7 {α0 α1 α2 α3 α4 α5 α6 : Type} {β : Type} {a0 b0 : α0} {a1 b1 : α1} {a2 b2 : α2} {a3 b3 : α3} {a4 b4 : α4} {a5 b5 : α5} {a6 b6 : α6} (h : (Sum.inl (a0, a1, a2, a3, a4, a5, a6) : (α0 × α1 × α2 × α3 × α4 × α5 × α6) ⊕ β) = Sum.inl (b0, b1, b2, b3, b4, b5, b6)) : a0 = b0 ∧ a1 = b1 ∧ a2 = b2 ∧ a3 = b3 ∧ a4 = b4 ∧ a5 = b5 ∧ a6 = b6 := by
  cases h
  exact ⟨rfl, rfl, rfl, rfl, rfl, rfl, rfl⟩
theorem zinl3_1_7 {α0 α1 α2 α3 α4 α5 α6 : Type} {β γ : Type} {a0 b0 : α0} {a1 b1 : α1} {a2 b2 : α2} {a3 b3 : α3} {a4 b4 : α4} {a5 b5 : α5} {a6 b6 : α6} (h : (Sum.inr (Sum.inl (a0, a1, a2, a3, a4, a5, a6)) : β ⊕ ((α0 × α1 × α2 × α3 × α4 × α5 × α6) ⊕ γ)) = Sum.inr (Sum.inl (b0, b1, b2, b3, b4, b5, b6))) : a0 = b0 ∧ a1 = b1 ∧ a2 = b2 ∧ a3 = b3 ∧ a4 = b4 ∧ a5 = b5 ∧ a6 = b6 := by
  cases h
  exact ⟨rfl, rfl, rfl, rfl, rfl, rfl, rfl⟩
theorem zinl3_2_7 {α0 α1 α2 α3 α4 α5 α6 : Type} {β γ : Type} {a0 b0 : α0} {a1 b1 : α1} {a2 b2 : α2} {a3 b3 : α3} {a4 b4 : α4} {a5 b5 : α5} {a6 b6 : α6} (h : (Sum.inr (Sum.inr (a0, a1, a2, a3, a4, a5, a6)) : β ⊕ (γ ⊕ (α0 × α1 × α2 × α3 × α4 × α5 × α6))) = Sum.inr (Sum.inr (b0, b1, b2, b3, b4, b5, b6))) : a0 = b0 ∧ a1 = b1 ∧ a2 = b2 ∧ a3 = b3 ∧ a4 = b4 ∧ a5 = b5 ∧ a6 = b6 := by
  cases h
  exact ⟨rfl, rfl, rfl, rfl, rfl, rfl, rfl⟩
theorem zinl2_0_8 {α0 α1 α2 α3 α4 α5 α6 α7 : Type} {β : Type} {a0 b0 : α0} {a1 b1 : α1} {a2 b2 : α2} {a3 b3 : α3} {a4 b4 : α4} {a5 b5 : α5} {a6 b6 : α6} {a7 b7 : α7} (h : (Sum.inl (a0, a1, a2, a3, a4, a5, a6, a7) : (α0 × α1 × α2 × α3 × α4 × α5 × α6 × α7) ⊕ β) = Sum.inl (b0, b1, b2, b3, b4, b5, b6, b7)) : a0 = b0 ∧ a1 = b1 ∧ a2 = b2 ∧ a3 = b3 ∧ a4 = b4 ∧ a5 = b5 ∧ a6 = b6 ∧ a7 = b7 := by
  cases h
  exact ⟨rfl, rfl, rfl, rfl, rfl, rfl, rfl, rfl⟩
theorem zinl2_1_8 {α0 α1 α2 α3 α4 α5 α6 α7 : Type} {β : Type} {a0 b0 : α0} {a1 b1 : α1} {a2 b2 : α2} {a3 b3 : α3} {a4 b4 : α4} {a5 b5 : α5} {a6 b6 : α6} {a7 b7 : α7} (h : (Sum.inr (a0, a1, a2, a3, a4, a5, a6, a7) : β ⊕ (α0 × α1 × α2 × α3 × α4 × α5 × α6 × α7)) = Sum.inr (b0, b1, b2, b3, b4, b5, b6, b7)) : a0 = b0 ∧ a1 = b1 ∧ a2 = b2 ∧ a3 = b3 ∧ a4 = b4 ∧ a5 = b5 ∧ a6 = b6 ∧ a7 = b7 := by
  cases h
  exact ⟨rfl, rfl, rfl, rfl, rfl, rfl, rfl, rfl⟩
theorem zinl3_0_8 {α0 α1 α2 α3 α4 α5 α6 α7 : Type} {β : Type} {a0 b0 : α0} {a1 b1 : α1} {a2 b2 : α2} {a3 b3 : α3} {a4 b4 : α4} {a5 b5 : α5} {a6 b6 : α6} {a7 b7 : α7} (h : (Sum.inl (a0, a1, a2, a3, a4, a5, a6, a7) : (α0 × α1 × α2 × α3 × α4 × α5 × α6 × α7) ⊕ β) = Sum.inl (b0, b1, b2, b3, b4, b5, b6, b7)) : a0 = b0 ∧ a1 = b1 ∧ a2 = b2 ∧ a3 = b3 ∧ a4 = b4 ∧ a5 = b5 ∧ a6 = b6 ∧ a7 = b7 := by
  cases h
  exact ⟨rfl, rfl, rfl, rfl, rfl, rfl, rfl, rfl⟩
theorem zinl3_1_8 {α0 α1 α2 α3 α4 α5 α6 α7 : Type} {β γ : Type} {a0 b0 : α0} {a1 b1 : α1} {a2 b2 : α2} {a3 b3 : α3} {a4 b4 : α4} {a5 b5 : α5} {a6 b6 : α6} {a7 b7 : α7} (h : (Sum.inr (Sum.inl (a0, a1, a2, a3, a4, a5, a6, a7)) : β ⊕ ((α0 × α1 × α2 × α3 × α4 × α5 × α6 × α7) ⊕ γ)) = Sum.inr (Sum.inl (b0, b1, b2, b3, b4, b5, b6, b7))) : a0 = b0 ∧ a1 = b1 ∧ a2 = b2 ∧ a3 = b3 ∧ a4 = b4 ∧ a5 = b5 ∧ a6 = b6 ∧ a7 = b7 := by
  cases h
  exact ⟨rfl, rfl, rfl, rfl, rfl, rfl, rfl, rfl⟩
theorem zinl3_2_8 {α0 α1 α2 α3 α4 α5 α6 α7 : Type} {β γ : Type} {a0 b0 : α0} {a1 b1 : α1} {a2 b2 : α2} {a3 b3 : α3} {a4 b4 : α4} {a5 b5 : α5} {a6 b6 : α6} {a7 b7 : α7} (h : (Sum.inr (Sum.inr (a0, a1, a2, a3, a4, a5, a6, a7)) : β ⊕ (γ ⊕ (α0 × α1 × α2 × α3 × α4 × α5 × α6 × α7))) = Sum.inr (Sum.inr (b0, b1, b2, b3, b4, b5, b6, b7))) : a0 = b0 ∧ a1 = b1 ∧ a2 = b2 ∧ a3 = b3 ∧ a4 = b4 ∧ a5 = b5 ∧ a6 = b6 ∧ a7 = b7 := by
  cases h
  exact ⟨rfl, rfl, rfl, rfl, rfl, rfl, rfl, rfl⟩
theorem zinl2_0_9 {α0 α1 α2 α3 α4 α5 α6 α7 α8 : Type} {β : Type} {a0 b0 : α0} {a1 b1 : α1} {a2 b2 : α2} {a3 b3 : α3} {a4 b4 : α4} {a5 b5 : α5} {a6 b6 : α6} {a7 b7 : α7} {a8 b8 : α8} (h : (Sum.inl (a0, a1, a2, a3, a4, a5, a6, a7, a8) : (α0 × α1 × α2 × α3 × α4 × α5 × α6 × α7 × α8) ⊕ β) = Sum.inl (b0, b1, b2, b3, b4, b5, b6, b7, b8)) : a0 = b0 ∧ a1 = b1 ∧ a2 = b2 ∧ a3 = b3 ∧ a4 = b4 ∧ a5 = b5 ∧ a6 = b6 ∧ a7 = b7 ∧ a8 = b8 := by
  cases h
  exact ⟨rfl, rfl, rfl, rfl, rfl, rfl, rfl, rfl, rfl⟩
theorem zinl2_1_9 {α0 α1 α2 α3 α4 α5 α6 α7 α8 : Type} {β : Type} {a0 b0 : α0} {a1 b1 : α1} {a2 b2 : α2} {a3 b3 : α3} {a4 b4 : α4} {a5 b5 : α5} {a6 b6 : α6} {a7 b7 : α7} {a8 b8 : α8} (h : (Sum.inr (a0, a1, a2, a3, a4, a5, a6, a7, a8) : β ⊕ (α0 × α1 × α2 × α3 × α4 × α5 × α6 × α7 × α8)) = Sum.inr (b0, b1, b2, b3, b4, b5, b6, b7, b8)) : a0 = b0 ∧ a1 = b1 ∧ a2 = b2 ∧ a3 = b3 ∧ a4 = b4 ∧ a5 = b5 ∧ a6 = b6 ∧ a7 = b7 ∧ a8 = b8 := by
  cases h
  exact ⟨rfl, rfl, rfl, rfl, rfl, rfl, rfl, rfl, rfl⟩
theorem zinl3_0_9 {α0 α1 α2 α3 α4 α5 α6 α7 α8 : Type} {β : Type} {a0 b0 : α0} {a1 b1 : α1} {a2 b2 : α2} {a3 b3 : α3} {a4 b4 : α4} {a5 b5 : α5} {a6 b6 : α6} {a7 b7 : α7} {a8 b8 : α8} (h : (Sum.inl (a0, a1, a2, a3, a4, a5, a6, a7, a8) : (α0 × α1 × α2 × α3 × α4 × α5 × α6 × α7 × α8) ⊕ β) = Sum.inl (b0, b1, b2, b3, b4, b5, b6, b7, b8)) : a0 = b0 ∧ a1 = b1 ∧ a2 = b2 ∧ a3 = b3 ∧ a4 = b4 ∧ a5 = b5 ∧ a6 = b6 ∧ a7 = b7 ∧ a8 = b8 := by
  cases h
  exact ⟨rfl, rfl, rfl, rfl, rfl, rfl, rfl, rfl, rfl⟩
theorem zinl3_1_9 {α0 α1 α2 α3 α4 α5 α6 α7 α8 : Type} {β γ : Type} {a0 b0 : α0} {a1 b1 : α1} {a2 b2 : α2} {a3 b3 : α3} {a4 b4 : α4} {a5 b5 : α5} {a6 b6 : α6} {a7 b7 : α7} {a8 b8 : α8} (h : (Sum.inr (Sum.inl (a0, a1, a2, a3, a4, a5, a6, a7, a8)) : β ⊕ ((α0 × α1 × α2 × α3 × α4 × α5 × α6 × α7 × α8) ⊕ γ)) = Sum.inr (Sum.inl (b0, b1, b2, b3, b4, b5, b6, b7, b8))) : a0 = b0 ∧ a1 = b1 ∧ a2 = b2 ∧ a3 = b3 ∧ a4 = b4 ∧ a5 = b5 ∧ a6 = b6 ∧ a7 = b7 ∧ a8 = b8 := by
  cases h
  exact ⟨rfl, rfl, rfl, rfl, rfl, rfl, rfl, rfl, rfl⟩
theorem zinl3_2_9 {α0 α1 α2 α3 α4 α5 α6 α7 α8 : Type} {β γ : Type} {a0 b0 : α0} {a1 b1 : α1} {a2 b2 : α2} {a3 b3 : α3} {a4 b4 : α4} {a5 b5 : α5} {a6 b6 : α6} {a7 b7 : α7} {a8 b8 : α8} (h : (Sum.inr (Sum.inr (a0, a1, a2, a3, a4, a5, a6, a7, a8)) : β ⊕ (γ ⊕ (α0 × α1 × α2 × α3 × α4 × α5 × α6 × α7 × α8))) = Sum.inr (Sum.inr (b0, b1, b2, b3, b4, b5, b6, b7, b8))) : a0 = b0 ∧ a1 = b1 ∧ a2 = b2 ∧ a3 = b3 ∧ a4 = b4 ∧ a5 = b5 ∧ a6 = b6 ∧ a7 = b7 ∧ a8 = b8 := by
  cases h
  exact ⟨rfl, rfl, rfl, rfl, rfl, rfl, rfl, rfl, rfl⟩
theorem zinl2_0_10 {α0 α1 α2 α3 α4 α5 α6 α7 α8 α9 : Type} {β : Type} {a0 b0 : α0} {a1 b1 : α1} {a2 b2 : α2} {a3 b3 : α3} {a4 b4 : α4} {a5 b5 : α5} {a6 b6 : α6} {a7 b7 : α7} {a8 b8 : α8} {a9 b9 : α9} (h : (Sum.inl (a0, a1, a2, a3, a4, a5, a6, a7, a8, a9) : (α0 × α1 × α2 × α3 × α4 × α5 × α6 × α7 × α8 × α9) ⊕ β) = Sum.inl (b0, b1, b2, b3, b4, b5, b6, b7, b8, b9)) : a0 = b0 ∧ a1 = b1 ∧ a2 = b2 ∧ a3 = b3 ∧ a4 = b4 ∧ a5 = b5 ∧ a6 = b6 ∧ a7 = b7 ∧ a8 = b8 ∧ a9 = b9 := by
  cases h
  exact ⟨rfl, rfl, rfl, rfl, rfl, rfl, rfl, rfl, rfl, rfl⟩
theorem zinl2_1_10 {α0 α1 α2 α3 α4 α5 α6 α7 α8 α9 : Type} {β : Type} {a0 b0 : α0} {a1 b1 : α1} {a2 b2 : α2} {a3 b3 : α3} {a4 b4 : α4} {a5 b5 : α5} {a6 b6 : α6} {a7 b7 : α7} {a8 b8 : α8} {a9 b9 : α9} (h : (Sum.inr (a0, a1, a2, a3, a4, a5, a6, a7, a8, a9) : β ⊕ (α0 × α1 × α2 × α3 × α4 × α5 × α6 × α7 × α8 × α9)) = Sum.inr (b0, b1, b2, b3, b4, b5, b6, b7, b8, b9)) : a0 = b0 ∧ a1 = b1 ∧ a2 = b2 ∧ a3 = b3 ∧ a4 = b4 ∧ a5 = b5 ∧ a6 = b6 ∧ a7 = b7 ∧ a8 = b8 ∧ a9 = b9 := by
  cases h
  exact ⟨rfl, rfl, rfl, rfl, rfl, rfl, rfl, rfl, rfl, rfl⟩
theorem zinl3_0_10 {α0 α1 α2 α3 α4 α5 α6 α7 α8 α9 : Type} {β : Type} {a0 b0 : α0} {a1 b1 : α1} {a2 b2 : α2} {a3 b3 : α3} {a4 b4 : α4} {a5 b5 : α5} {a6 b6 : α6} {a7 b7 : α7} {a8 b8 : α8} {a9 b9 : α9} (h : (Sum.inl (a0, a1, a2, a3, a4, a5, a6, a7, a8, a9) : (α0 × α1 × α2 × α3 × α4 × α5 × α6 × α7 × α8 × α9) ⊕ β) = Sum.inl (b0, b1, b2, b3, b4, b5, b6, b7, b8, b9)) : a0 = b0 ∧ a1 = b1 ∧ a2 = b2 ∧ a3 = b3 ∧ a4 = b4 ∧ a5 = b5 ∧ a6 = b6 ∧ a7 = b7 ∧ a8 = b8 ∧ a9 = b9 := by
  cases h
  exact ⟨rfl, rfl, rfl, rfl, rfl, rfl, rfl, rfl, rfl, rfl⟩
theorem zinl3_1_10 {α0 α1 α2 α3 α4 α5 α6 α7 α8 α9 : Type} {β γ : Type} {a0 b0 : α0} {a1 b1 : α1} {a2 b2 : α2} {a3 b3 : α3} {a4 b4 : α4} {a5 b5 : α5} {a6 b6 : α6} {a7 b7 : α7} {a8 b8 : α8} {a9 b9 : α9} (h : (Sum.inr (Sum.inl (a0, a1, a2, a3, a4, a5, a6, a7, a8, a9)) : β ⊕ ((α0 × α1 × α2 × α3 × α4 × α5 × α6 × α7 × α8 × α9) ⊕ γ)) = Sum.inr (Sum.inl (b0, b1, b2, b3, b4, b5, b6, b7, b8, b9))) : a0 = b0 ∧ a1 = b1 ∧ a2 = b2 ∧ a3 = b3 ∧ a4 = b4 ∧ a5 = b5 ∧ a6 = b6 ∧ a7 = b7 ∧ a8 = b8 ∧ a9 = b9 := by
  cases h
  exact ⟨rfl, rfl, rfl, rfl, rfl, rfl, rfl, rfl, rfl, rfl⟩
theorem zinl3_2_10 {α0 α1 α2 α3 α4 α5 α6 α7 α8 α9 : Type} {β γ : Type} {a0 b0 : α0} {a1 b1 : α1} {a2 b2 : α2} {a3 b3 : α3} {a4 b4 : α4} {a5 b5 : α5} {a6 b6 : α6} {a7 b7 : α7} {a8 b8 : α8} {a9 b9 : α9} (h : (Sum.inr (Sum.inr (a0, a1, a2, a3, a4, a5, a6, a7, a8, a9)) : β ⊕ (γ ⊕ (α0 × α1 × α2 × α3 × α4 × α5 × α6 × α7 × α8 × α9))) = Sum.inr (Sum.inr (b0, b1, b2, b3, b4, b5, b6, b7, b8, b9))) : a0 = b0 ∧ a1 = b1 ∧ a2 = b2 ∧ a3 = b3 ∧ a4 = b4 ∧ a5 = b5 ∧ a6 = b6 ∧ a7 = b7 ∧ a8 = b8 ∧ a9 = b9 := by
  cases h
  exact ⟨rfl, rfl, rfl, rfl, rfl, rfl, rfl, rfl, rfl, rfl⟩
theorem zinl2_0_11 {α0 α1 α2 α3 α4 α5 α6 α7 α8 α9 α10 : Type} {β : Type} {a0 b0 : α0} {a1 b1 : α1} {a2 b2 : α2} {a3 b3 : α3} {a4 b4 : α4} {a5 b5 : α5} {a6 b6 : α6} {a7 b7 : α7} {a8 b8 : α8} {a9 b9 : α9} {a10 b10 : α10} (h : (Sum.inl (a0, a1, a2, a3, a4, a5, a6, a7, a8, a9, a10) : (α0 × α1 × α2 × α3 × α4 × α5 × α6 × α7 × α8 × α9 × α10) ⊕ β) = Sum.inl (b0, b1, b2, b3, b4, b5, b6, b7, b8, b9, b10)) : a0 = b0 ∧ a1 = b1 ∧ a2 = b2 ∧ a3 = b3 ∧ a4 = b4 ∧ a5 = b5 ∧ a6 = b6 ∧ a7 = b7 ∧ a8 = b8 ∧ a9 = b9 ∧ a10 = b10 := by
  cases h
  exact ⟨rfl, rfl, rfl, rfl, rfl, rfl, rfl, rfl, rfl, rfl, rfl⟩
theorem zinl2_1_11 {α0 α1 α2 α3 α4 α5 α6 α7 α8 α9 α10 : Type} {β : Type} {a0 b0 : α0} {a1 b1 : α1} {a2 b2 : α2} {a3 b3 : α3} {a4 b4 : α4} {a5 b5 : α5} {a6 b6 : α6} {a7 b7 : α7} {a8 b8 : α8} {a9 b9 : α9} {a10 b10 : α10} (h : (Sum.inr (a0, a1, a2, a3, a4, a5, a6, a7, a8, a9, a10) : β ⊕ (α0 × α1 × α2 × α3 × α4 × α5 × α6 × α7 × α8 × α9 × α10)) = Sum.inr (b0, b1, b2, b3, b4, b5, b6, b7, b8, b9, b10)) : a0 = b0 ∧ a1 = b1 ∧ a2 = b2 ∧ a3 = b3 ∧ a4 = b4 ∧ a5 = b5 ∧ a6 = b6 ∧ a7 = b7 ∧ a8 = b8 ∧ a9 = b9 ∧ a10 = b10 := by
  cases h
  exact ⟨rfl, rfl, rfl, rfl, rfl, rfl, rfl, rfl, rfl, rfl, rfl⟩
theorem zinl3_0_11 {α0 α1 α2 α3 α4 α5 α6 α7 α8 α9 α10 : Type} {β : Type} {a0 b0 : α0} {a1 b1 : α1} {a2 b2 : α2} {a3 b3 : α3} {a4 b4 : α4} {a5 b5 : α5} {a6 b6 : α6} {a7 b7 : α7} {a8 b8 : α8} {a9 b9 : α9} {a10 b10 : α10} (h : (Sum.inl (a0, a1, a2, a3, a4, a5, a6, a7, a8, a9, a10) : (α0 × α1 × α2 × α3 × α4 × α5 × α6 × α7 × α8 × α9 × α10) ⊕ β) = Sum.inl (b0, b1, b2, b3, b4, b5, b6, b7, b8, b9, b10)) : a0 = b0 ∧ a1 = b1 ∧ a2 = b2 ∧ a3 = b3 ∧ a4 = b4 ∧ a5 = b5 ∧ a6 = b6 ∧ a7 = b7 ∧ a8 = b8 ∧ a9 = b9 ∧ a10 = b10 := by
  cases h
  exact ⟨rfl, rfl, rfl, rfl, rfl, rfl, rfl, rfl, rfl, rfl, rfl⟩
theorem zinl3_1_11 {α0 α1 α2 α3 α4 α5 α6 α7 α8 α9 α10 : Type} {β γ : Type} {a0 b0 : α0} {a1 b1 : α1} {a2 b2 : α2} {a3 b3 : α3} {a4 b4 : α4} {a5 b5 : α5} {a6 b6 : α6} {a7 b7 : α7} {a8 b8 : α8} {a9 b9 : α9} {a10 b10 : α10} (h : (Sum.inr (Sum.inl (a0, a1, a2, a3, a4, a5, a6, a7, a8, a9, a10)) : β ⊕ ((α0 × α1 × α2 × α3 × α4 × α5 × α6 × α7 × α8 × α9 × α10) ⊕ γ)) = Sum.inr (Sum.inl (b0, b1, b2, b3, b4, b5, b6, b7, b8, b9, b10))) : a0 = b0 ∧ a1 = b1 ∧ a2 = b2 ∧ a3 = b3 ∧ a4 = b4 ∧ a5 = b5 ∧ a6 = b6 ∧ a7 = b7 ∧ a8 = b8 ∧ a9 = b9 ∧ a10 = b10 := by
  cases h
  exact ⟨rfl, rfl, rfl, rfl, rfl, rfl, rfl, rfl, rfl, rfl, rfl⟩
theorem zinl3_2_11 {α0 α1 α2 α3 α4 α5 α6 α7 α8 α9 α10 : Type} {β γ : Type} {a0 b0 : α0} {a1 b1 : α1} {a2 b2 : α2} {a3 b3 : α3} {a4 b4 : α4} {a5 b5 : α5} {a6 b6 : α6} {a7 b7 : α7} {a8 b8 : α8} {a9 b9 : α9} {a10 b10 : α10} (h : (Sum.inr (Sum.inr (a0, a1, a2, a3, a4, a5, a6, a7, a8, a9, a10)) : β ⊕ (γ ⊕ (α0 × α1 × α2 × α3 × α4 × α5 × α6 × α7 × α8 × α9 × α10))) = Sum.inr (Sum.inr (b0, b1, b2, b3, b4, b5, b6, b7, b8, b9, b10))) : a0 = b0 ∧ a1 = b1 ∧ a2 = b2 ∧ a3 = b3 ∧ a4 = b4 ∧ a5 = b5 ∧ a6 = b6 ∧ a7 = b7 ∧ a8 = b8 ∧ a9 = b9 ∧ a10 = b10 := by
  cases h
  exact ⟨rfl, rfl, rfl, rfl, rfl, rfl, rfl, rfl, rfl, rfl, rfl⟩
section ZP
variable {l : Launch} {E : zE} {d : Nat} {M : zMeth} {k : Nat} {L S : List zV} {h : zHp} {Q : Int → zHp → Prop}
theorem z_ialdc (j : Nat) {i n : Nat} {a : Int} (ho : zop M k = (42, 0, [])) (hO : zO[i]? = some (.inr (0, n))) (hj : a = (j : Int)) (hl : j < n) (kk : zW l E d M (k + 1) L (.inl (h i j) :: S) h Q) : zW l E d M k L (.inl a :: .inr (.inr i) :: S) h Q := by
  subst hj
  exact z_iald ho hO (by omega) (by omega) kk
theorem z_laldc (j : Nat) {i n : Nat} {a : Int} (ho : zop M k = (44, 0, [])) (hO : zO[i]? = some (.inr (1, n))) (hj : a = (j : Int)) (hl : j < n) (kk : zW l E d M (k + 1) L (.inr (.inl (h i j)) :: S) h Q) : zW l E d M k L (.inl a :: .inr (.inr i) :: S) h Q := by
  subst hj
  exact z_lald ho hO (by omega) (by omega) kk
theorem z_baldc (j : Nat) {i n : Nat} {a : Int} (ho : zop M k = (46, 0, [])) (hO : zO[i]? = some (.inr (2, n))) (hj : a = (j : Int)) (hl : j < n) (kk : (h i j = 0 ∨ h i j = 1) → zW l E d M (k + 1) L (.inl (h i j) :: S) h Q) : zW l E d M k L (.inl a :: .inr (.inr i) :: S) h Q := by
  subst hj
  exact z_bald ho hO (by omega) (by omega) kk
theorem z_iastc (j : Nat) {i n : Nat} {a b : Int} (ho : zop M k = (43, 0, [])) (hO : zO[i]? = some (.inr (0, n))) (hj : a = (j : Int)) (hl : j < n) (kk : zW l E d M (k + 1) L S (zst h i j b) Q) : zW l E d M k L (.inl b :: .inl a :: .inr (.inr i) :: S) h Q := by
  subst hj
  exact z_iast ho hO (by omega) (by omega) kk
theorem z_lastc (j : Nat) {i n : Nat} {a b : Int} (ho : zop M k = (45, 0, [])) (hO : zO[i]? = some (.inr (1, n))) (hj : a = (j : Int)) (hl : j < n) (kk : zW l E d M (k + 1) L S (zst h i j b) Q) : zW l E d M k L (.inr (.inl b) :: .inl a :: .inr (.inr i) :: S) h Q := by
  subst hj
  exact z_last ho hO (by omega) (by omega) kk
theorem z_math (nm : MethodName) (cd : ByteArray) (ml ix j : Nat) {p : Program} {R : Room} {s : State} {m : MethodId} {args : Array Value} {c : Code} {cells slots : Nat} (hX : zX E d M p R s m args c cells slots) (ho : zop M k = (50, 0, [ix, j])) (hn : (zhj j).2.1 = nm) (hcd : (zhj j).2.2.1 = cd) (hml : (zhj j).2.2.2.1 = ml) (hrt : (zhj j).2.2.2.2.1 = some .int) (hcl : nm.cls = "java/lang/Math") (hne : zMp2.all (fun q => q.2.2.1 != j) = true) :
    decode (zby M) (zpc M k) = .ok (.invokestatic ix, 3) ∧ zpc M (k + 1) = zpc M k + 3 ∧ (Jvm.Cond.methodLink (zcl M) ix nm).before args s = true ∧ (Jvm.Cond.static nm).before args s = true ∧ (Jvm.Cond.initialized "java/lang/Math").before args s = true ∧ (Jvm.Cond.code nm cd ml (some .int)).before args s = true := by
  have hck : (zdc M k 3 (.invokestatic ix) && ((zMp.contains ((zhd M).1, ix, j, false) || zMp.contains ((zhd M).1, ix, j, true)) && zSok j)) = true := zck_at hX.2.2.2.2.2.2.2.1 ho (by decide : (50 : Nat) ≠ 999)
  obtain ⟨hck, hmp⟩ := (Bool.and_eq_true _ _).mp hck
  obtain ⟨hdg, hpc⟩ := zdc_at hck
  obtain ⟨hmp, hi⟩ := (Bool.and_eq_true _ _).mp hmp
  unfold zSok at hi
  simp only [Bool.and_eq_true] at hi
  obtain ⟨hi1, hi2, hi4⟩ := hi
  obtain ⟨ok1, ok2, ok3, ok4, ok5⟩ := zhok_of hi1
  have hl : zMp.contains ((zhd M).1, ix, j, false) = true := by
    rcases (Bool.or_eq_true _ _).mp hmp with q | q
    · exact q
    · exfalso
      rcases List.mem_append.mp (List.contains_iff_mem.mp q) with q | q
      · exact absurd (List.all_eq_true.mp (by decide +kernel : zMp1.all (fun q => !q.2.2.2) = true) _ q) (by simp)
      · have := List.all_eq_true.mp hne _ q
        simp at this
  have g : ∀ {w : Jvm.Cond}, w ∈ lw_tbl → goodWord w = true → w.before args s = true := fun h1 h2 => hX.2.2.2.2.1 _ (List.mem_filter.mpr ⟨h1, h2⟩)
  have w1 := g (zw_link hl) rfl
  have w2 := g (zw_stat hi2) rfl
  have w3 := g (zw_ini hi4) rfl
  have w4 := g (zw_code hi1) rfl
  rw [hn] at w1 w2 w4
  rw [hcd, hml, hrt] at w4
  rw [← ok1, hn, hcl] at w3
  exact ⟨hdg, hpc, w1, w2, w3, w4⟩
theorem z_mmin {a b : Int} {ix : Nat} (ho : zop M k = (50, 0, [ix, 235])) (hne : zMp2.all (fun q => q.2.2.1 != 235) = true) (hd : 1 ≤ d) (hst : decide ((S.map zcat).sum ≤ 8) = true) (kk : zW l E d M (k + 1) L (.inl (zmin a b) :: S) h Q) : zW l E d M k L (.inl b :: .inl a :: S) h Q := by
  intro p e R s m args below meth c H locs ls cells slots QQ hX hE hS hL hv
  obtain ⟨hdg, hn, w1, w2, w3, w4⟩ := z_math (E := E) (d := d) Lib.Math.min.name Lib.Math.min.code 2 ix 235 hX ho rfl (by decide +kernel) rfl rfl rfl hne
  have hb0 : zI32 b := (zrv_c hv).1
  have ha0 : zI32 a := (zrv_c (zrv_c hv).2).1
  have hv2 := (zrv_c (zrv_c hv).2).2
  have hR := hX.2.2.2.2.2.2.2.2.1
  have hf := hX.2.2.2.2.2.2.2.2.2.2.2
  have k1 := kk p e R s m args below meth c H locs ls cells slots QQ hX hE hS hL (zrv_k (v := .inl (zmin a b)) (by show zI32 (zmin a b); unfold zmin; split <;> assumption) hv2)
  refine va_mmin hX.1 hX.2.1 (by rw [hX.2.2.1]; obtain ⟨-, -, lv, hh, -⟩ := hL; exact hh.1.symm) hX.2.2.2.1 w1 w2 w3 w4 (by omega) (by rw [zcat_up hf]; have := of_decide_eq_true hst; omega) hX.2.2.2.2.2.2.2.2.2.1.1 hX.2.2.2.2.2.2.2.2.2.1.2 hdg ?_
  rw [← hn]
  have e1 : (if Int32.ofInt b < Int32.ofInt a then Int32.ofInt b else Int32.ofInt a) = Int32.ofInt (zmin a b) := by
    unfold zmin
    by_cases q : a ≤ b
    · rw [if_pos q, if_neg (fun z => by have := (o32_lt hb0 ha0).mp z; omega)]
    · rw [if_neg q, if_pos ((o32_lt hb0 ha0).mpr (by omega))]
  rw [e1]
  exact k1
theorem z_mabs {a : Int} {ix : Nat} (ho : zop M k = (50, 0, [ix, 234])) (hne : zMp2.all (fun q => q.2.2.1 != 234) = true) (hd : 1 ≤ d) (hst : decide ((S.map zcat).sum ≤ 8) = true) (kk : zW l E d M (k + 1) L (.inl (zabs a) :: S) h Q) : zW l E d M k L (.inl a :: S) h Q := by
  intro p e R s m args below meth c H locs ls cells slots QQ hX hE hS hL hv
  obtain ⟨hdg, hn, w1, w2, w3, w4⟩ := z_math (E := E) (d := d) Lib.Math.abs.name Lib.Math.abs.code 1 ix 234 hX ho rfl (by decide +kernel) rfl rfl rfl hne
  have ha0 : zI32 a := (zrv_c hv).1
  have hv2 := (zrv_c hv).2
  have hR := hX.2.2.2.2.2.2.2.2.1
  have hf := hX.2.2.2.2.2.2.2.2.2.2.2
  have k1 := kk p e R s m args below meth c H locs ls cells slots QQ hX hE hS hL (zrv_k (v := .inl (zabs a)) (by show zI32 (zabs a); unfold zabs; split; assumption; exact w32_r _) hv2)
  refine va_mabs hX.1 hX.2.1 (by rw [hX.2.2.1]; obtain ⟨-, -, lv, hh, -⟩ := hL; exact hh.1.symm) hX.2.2.2.1 w1 w2 w3 w4 (by omega) (by rw [zcat_up hf]; have := of_decide_eq_true hst; omega) hX.2.2.2.2.2.2.2.2.2.1.1 hX.2.2.2.2.2.2.2.2.2.1.2 hdg ?_
  rw [← hn]
  have e1 : (if 0 ≤ Int32.ofInt a then Int32.ofInt a else 0 - Int32.ofInt a) = Int32.ofInt (zabs a) := by
    unfold zabs
    have e0 : (0 : Int32) = Int32.ofInt 0 := rfl
    by_cases q : 0 ≤ a
    · rw [if_pos q, if_pos (by rw [e0]; exact (o32_le (by unfold zI32; omega) ha0).mpr q)]
    · rw [if_neg q, if_neg (fun z => q ((o32_le (by unfold zI32; omega) ha0).mp (by rw [e0] at z; exact z))), w32_o, e0, ← Int32.ofInt_sub]
      congr 1
      omega
  rw [e1]
  exact k1
end ZP
end
section
/-! Row: copies; the String constants -/
def rcopy (h : zHp) (a n b m : Nat) : zHp := fun o j => if o = a ∧ j < n ∧ j < m then h b j else h o j
def rpartN (h : zHp) (a n b m : Nat) (to fr : Int) : Nat → zHp
  | 0 => h
  | k + 1 => rput (rpartN h a n b m to fr k) a n (w32 (to + k)) (rget (rpartN h a n b m to fr k) b m (w32 (fr + k)))
def rpart (h : zHp) (a n b m : Nat) (to fr count : Int) : zHp := rpartN h a n b m to fr count.toNat
def rcopyK (h : zHp) (a b k : Nat) : zHp := fun o j => if o = a ∧ j < k then h b j else h o j
section ZRow2
variable {l : Launch} {E : zE} {h : zHp}
theorem zl_Row_copyFrom {r a n r2 b m : Nat} (hr : zO[r]? = some (.inl (6, [3 + a]))) (ha : zO[a]? = some (.inr (0, n))) (hr2 : zO[r2]? = some (.inl (6, [3 + b]))) (hb : zO[b]? = some (.inr (0, m))) (hab : a ≠ b) (hn : n < 100000) {d : Nat} {Q : Int → zHp → Prop} (K : zW l E d zm_Row_copyFrom 22 [.inr (.inr r), .inr (.inr r2), zJk] [] (rcopy h a n b m) Q) :
    ∀ (f k : Nat), k ≤ n → k ≤ m → n - k < f → zW l E d zm_Row_copyFrom 2 [.inr (.inr r), .inr (.inr r2), .inl k] [] (rcopyK h a b k) Q := by
  have hrl := zO_lt hr
  have hal := zO_lt ha
  have hrl2 := zO_lt hr2
  have hbl := zO_lt hb
  intro f
  induction f with
  | zero => intro k h1 h2 h3; omega
  | succ f ih =>
    intro k h1 h2 h3
    have fin : (n ≤ k ∨ m ≤ k) → zW l E d zm_Row_copyFrom 22 [.inr (.inr r), .inr (.inr r2), .inl k] [] (rcopyK h a b k) Q := by
      intro q
      refine zsubL (L' := [.inr (.inr r), .inr (.inr r2), zJk]) ⟨Or.inl rfl, Or.inl rfl, Or.inr rfl, trivial⟩ ?_
      have e : rcopyK h a b k = rcopy h a n b m := by
        funext o j
        unfold rcopyK rcopy
        by_cases q1 : o = a
        · by_cases q2 : j < k
          · rw [if_pos ⟨q1, q2⟩, if_pos ⟨q1, by omega, by omega⟩]
          · rw [if_neg (fun z => q2 z.2), if_neg (fun z => by omega)]
        · rw [if_neg (fun z => q1 z.1), if_neg (fun z => q1 z.1)]
      rw [e]
      exact K
    refine z_iload rfl rfl ?_
    refine z_aload rfl rfl (by simpa using hrl) ?_
    refine z_getr rfl hr rfl (by simpa using hal) ?_
    refine z_alen rfl ha (by decide) ?_
    refine z_cge rfl (fun c1 => ?_) (fun c1 => ?_)
    · exact fin (Or.inl (by omega))
    · refine z_iload rfl rfl ?_
      refine z_aload rfl rfl (by simpa using hrl2) ?_
      refine z_getr rfl hr2 rfl (by simpa using hbl) ?_
      refine z_alen rfl hb (by decide) ?_
      refine z_cge rfl (fun c2 => ?_) (fun c2 => ?_)
      · exact fin (Or.inr (by omega))
      · refine z_aload rfl rfl (by simpa using hrl) ?_
        refine z_getr rfl hr rfl (by simpa using hal) ?_
        refine z_iload rfl rfl ?_
        refine z_aload rfl rfl (by simpa using hrl2) ?_
        refine z_getr rfl hr2 rfl (by simpa using hbl) ?_
        refine z_iload rfl rfl ?_
        refine z_iald rfl hb (by omega) (by omega) ?_
        refine z_iast rfl ha (by omega) (by omega) ?_
        refine z_iinc rfl rfl rfl ?_
        refine z_goto rfl ?_
        have e1 : w32 ((k : Int) + 1) = ((k + 1 : Nat) : Int) := by rw [w32_i ⟨by omega, by omega⟩]; omega
        have e2 : zst (rcopyK h a b k) a ((k : Int).toNat) (rcopyK h a b k b (k : Int).toNat) = rcopyK h a b (k + 1) := by
          funext o j
          unfold zst rcopyK
          by_cases q1 : o = a
          · by_cases q2 : j = k
            · subst q2
              rw [if_pos ⟨q1, by simp⟩, if_neg (fun z => hab z.1.symm), if_pos ⟨q1, by omega⟩]
              simp
            · rw [if_neg (fun z => q2 (by have := z.2; simpa using this))]
              by_cases q3 : j < k
              · rw [if_pos ⟨q1, q3⟩, if_pos ⟨q1, by omega⟩]
              · rw [if_neg (fun z => q3 z.2), if_neg (fun z => by omega)]
          · rw [if_neg (fun z => q1 z.1), if_neg (fun z => q1 z.1), if_neg (fun z => q1 z.1)]
        rw [e2]
        exact zcast (by rw [e1]; rfl) rfl (ih (k + 1) (by omega) (by omega) (by omega))
theorem zf_Row_copyFrom {r a n r2 b m : Nat} (hr : zO[r]? = some (.inl (6, [3 + a]))) (ha : zO[a]? = some (.inr (0, n))) (hr2 : zO[r2]? = some (.inl (6, [3 + b]))) (hb : zO[b]? = some (.inr (0, m))) (hab : a ≠ b ∧ n < 100000) {d : Nat} : zC l E d zm_Row_copyFrom [.inr (.inr r), .inr (.inr r2)] h (fun r0 h0 => 0 = r0 ∧ rcopy h a n b m = h0) := by
  refine zC_of zk_Row_copyFrom (by decide) rfl rfl (Nat.le_of_ble_eq_true rfl) ?_
  show zW l E d zm_Row_copyFrom 0 [.inr (.inr r), .inr (.inr r2), zJk] [] h _
  refine z_const rfl ?_
  refine z_istore rfl rfl rfl ?_
  have e : h = rcopyK h a b 0 := by funext o j; unfold rcopyK; rw [if_neg (fun z => by omega)]
  have k := zl_Row_copyFrom (l := l) (E := E) (h := h) (d := d) hr ha hr2 hb hab.1 hab.2 (Q := fun r0 h0 => 0 = r0 ∧ rcopy h a n b m = h0) (z_ret rfl rfl rfl ⟨rfl, rfl⟩) (n + 1) 0 (by omega) (by omega) (by omega)
  rw [← e] at k
  exact k
theorem zl_Row_copyPart {r a n r2 b m : Nat} (hr : zO[r]? = some (.inl (6, [3 + a]))) (ha : zO[a]? = some (.inr (0, n))) (hr2 : zO[r2]? = some (.inl (6, [3 + b]))) (hb : zO[b]? = some (.inr (0, m))) {d : Nat} (hd : 2 ≤ d) (to fr count : Int) (hc : zI32 count) {Q : Int → zHp → Prop} (K : Q 0 (rpart h a n b m to fr count)) :
    ∀ (f k : Nat), (k : Int) ≤ count ∨ k = 0 → count.toNat - k < f → zW l E d zm_Row_copyPart 2 [.inr (.inr r), .inl to, .inr (.inr r2), .inl fr, .inl count, .inl k] [] (rpartN h a n b m to fr k) Q := by
  have hrl := zO_lt hr
  have hrl2 := zO_lt hr2
  intro f
  induction f with
  | zero => intro k h1 h3; omega
  | succ f ih =>
    intro k h1 h3
    refine z_iload rfl rfl ?_
    refine z_iload rfl rfl ?_
    refine z_cge rfl (fun c1 => ?_) (fun c1 => ?_)
    · have e : k = count.toNat := by omega
      refine z_ret rfl rfl rfl ?_
      rw [e]
      exact K
    · refine z_aload rfl rfl (by simpa using hrl) ?_
      refine z_iload rfl rfl ?_
      refine z_iload rfl rfl ?_
      refine z_iadd rfl ?_
      refine z_aload rfl rfl (by simpa using hrl2) ?_
      refine z_iload rfl rfl ?_
      refine z_iload rfl rfl ?_
      refine z_iadd rfl ?_
      refine z_inv1 (d' := d - 1) (As := [.inl (w32 (fr + k))]) rfl rfl (zf_Row_get hr2 hb _) rfl hr2 rfl (by omega) rfl (fun r1 h1 hR1 hQ1 => ?_)
      obtain ⟨rfl, rfl⟩ := hQ1
      refine z_inv0 (d' := d - 1) (As := [.inl (w32 (to + k)), .inl (rget (rpartN h a n b m to fr k) b m (w32 (fr + k)))]) rfl rfl (zf_Row_put hr ha _ _) rfl hr rfl (by omega) rfl (fun r1 h1 hR1 hQ1 => ?_)
      obtain ⟨rfl, rfl⟩ := hQ1
      refine z_iinc rfl rfl rfl ?_
      refine z_goto rfl ?_
      have e1 : w32 ((k : Int) + 1) = ((k + 1 : Nat) : Int) := by rw [w32_i ⟨by omega, by have := hc.2; omega⟩]; omega
      exact zcast (by rw [e1]; rfl) rfl (ih (k + 1) (by omega) (by omega))
theorem zf_Row_copyPart {r a n r2 b m : Nat} (hr : zO[r]? = some (.inl (6, [3 + a]))) (ha : zO[a]? = some (.inr (0, n))) (hr2 : zO[r2]? = some (.inl (6, [3 + b]))) (hb : zO[b]? = some (.inr (0, m))) {d : Nat} (hd : 2 ≤ d) (to fr count : Int) : zC l E d zm_Row_copyPart [.inr (.inr r), .inl to, .inr (.inr r2), .inl fr, .inl count] h (fun r0 h0 => 0 = r0 ∧ rpart h a n b m to fr count = h0) := by
  intro hrv
  have hc : zI32 count := hrv (.inl count) (by simp)
  refine zC_of zk_Row_copyPart (by decide) rfl rfl (Nat.le_of_ble_eq_true rfl) ?_ hrv
  show zW l E d zm_Row_copyPart 0 [.inr (.inr r), .inl to, .inr (.inr r2), .inl fr, .inl count, zJk] [] h _
  refine z_const rfl ?_
  refine z_istore rfl rfl rfl ?_
  exact zl_Row_copyPart hr ha hr2 hb hd to fr count hc ⟨rfl, rfl⟩ (count.toNat + 1) 0 (Or.inr rfl) (by omega)
end ZRow2
def zchr (i : Nat) (k : Int) : Int := (((zsb[i]?).getD [])[k.toNat]?.getD 0).toInt
section ZStrings
variable {l : Launch} {E : zE} {d : Nat} {M : zMeth} {k : Nat} {L S : List zV} {h : zHp} {Q : Int → zHp → Prop}
theorem zrf_1 {i : Nat} (hi : i < 2) : zup E (.inr (.inr (1001 + i))) = .ref (zad E (1001 + i)) := by show zrf E _ = _; unfold zrf; rw [if_neg (by omega)]
theorem zrf_3 {i : Nat} (hi : i < 2) : zup E (.inr (.inr (1003 + i))) = .ref (zad E (1003 + i)) := by show zrf E _ = _; unfold zrf; rw [if_neg (by omega)]
theorem z_ldcs {i ix : Nat} (ho : zop M k = (54, 0, [ix, i])) (hdc : zdc M k 2 (.ldc ix) = true) (hcl : zcl M = "OxenHome$Reader") (hi : decide (i = 0 ∧ ix = 145 ∨ i = 1 ∧ ix = 161) = true) (kk : zW l E d M (k + 1) L (.inr (.inr (1001 + i)) :: S) h Q) : zW l E d M k L S h Q := by
  intro p e R s m args below meth c H locs ls cells slots QQ hX hE hS hL hv
  obtain ⟨hdg, hn⟩ := zdc_at hdc
  have hi := of_decide_eq_true hi
  have k1 := kk p e R s m args below meth c H locs ls cells slots QQ hX hE hS hL (zrv_k (v := .inr (.inr (1001 + i))) trivial hv)
  rw [hn, List.map_cons, zrf_1 (by omega)] at k1
  have hown := hX.2.2.2.1
  rw [hcl] at hown
  obtain ⟨-, -, -, -, r1, r2, -⟩ := hX.2.2.2.2.2.2.2.2.2.2.1
  rcases hi with ⟨rfl, rfl⟩ | ⟨rfl, rfl⟩
  · exact va_ldcS hX.1 hX.2.1 hown r1 hdg k1
  · exact va_ldcS hX.1 hX.2.1 hown r2 hdg k1
theorem z_sval {i ix : Nat} (hi : i < 2) (hdc : zdc M k 3 (.getfield ix) = true) (hw : Jvm.Cond.fieldLink (zcl M) ix "java/lang/String" "value" "[B" ∈ lw_tbl) (kk : zW l E d M (k + 1) L (.inr (.inr (1003 + i)) :: S) h Q) : zW l E d M k L (.inr (.inr (1001 + i)) :: S) h Q := by
  intro p e R s m args below meth c H locs ls cells slots QQ hX hE hS hL hv
  obtain ⟨hdg, hn⟩ := zdc_at hdc
  have k1 := kk p e R s m args below meth c H locs ls cells slots QQ hX hE hS hL (zrv_k (v := .inr (.inr (1003 + i))) trivial (zrv_c hv).2)
  rw [hn, List.map_cons, zrf_3 hi] at k1
  rw [List.map_cons, zrf_1 hi]
  obtain ⟨-, -, -, r1, -⟩ := hX.2.2.2.2.2.2.2.2.2.2.1
  exact vk_getf hX.1 hX.2.1 (r1.1 i hi).2.2.1 hS.2.2 hX.2.2.2.1 (hX.2.2.2.2.1 _ (List.mem_filter.mpr ⟨hw, rfl⟩)) (fun x hx => hx) hdg k1
theorem z_scod {i ix : Nat} (hi : i < 2) (hdc : zdc M k 3 (.getfield ix) = true) (hw : Jvm.Cond.fieldLink (zcl M) ix "java/lang/String" "coder" "B" ∈ lw_tbl) (kk : zW l E d M (k + 1) L (.inl 0 :: S) h Q) : zW l E d M k L (.inr (.inr (1001 + i)) :: S) h Q := by
  intro p e R s m args below meth c H locs ls cells slots QQ hX hE hS hL hv
  obtain ⟨hdg, hn⟩ := zdc_at hdc
  have k1 := kk p e R s m args below meth c H locs ls cells slots QQ hX hE hS hL (zrv_k (v := .inl 0) (by show zI32 0; unfold zI32; omega) (zrv_c hv).2)
  rw [hn] at k1
  rw [List.map_cons, zrf_1 hi]
  obtain ⟨-, -, -, r1, -⟩ := hX.2.2.2.2.2.2.2.2.2.2.1
  exact vk_getf hX.1 hX.2.1 (r1.1 i hi).2.1 hS.2.2 hX.2.2.2.1 (hX.2.2.2.2.1 _ (List.mem_filter.mpr ⟨hw, rfl⟩)) (fun x hx => hx) hdg k1
theorem z_gcs {ix : Nat} (hdc : zdc M k 3 (.getstatic ix) = true) (hw : Jvm.Cond.fieldLink (zcl M) ix "java/lang/String" "COMPACT_STRINGS" "Z" ∈ lw_tbl) (kk : zW l E d M (k + 1) L (.inl 1 :: S) h Q) : zW l E d M k L S h Q := by
  intro p e R s m args below meth c H locs ls cells slots QQ hX hE hS hL hv
  obtain ⟨hdg, hn⟩ := zdc_at hdc
  have k1 := kk p e R s m args below meth c H locs ls cells slots QQ hX hE hS hL (zrv_k (v := .inl 1) (by show zI32 1; unfold zI32; omega) hv)
  rw [hn] at k1
  obtain ⟨-, -, -, -, -, -, r1, -⟩ := hX.2.2.2.2.2.2.2.2.2.2.1
  exact va_gets hX.1 hX.2.1 r1 hS.2.2 hX.2.2.2.1 (hX.2.2.2.2.1 _ (List.mem_filter.mpr ⟨hw, rfl⟩)) (fun x hx => hx) hdg k1
theorem z_gfm {ix : Nat} (hdc : zdc M k 3 (.getstatic ix) = true) (hw : Jvm.Cond.fieldLink (zcl M) ix "jdk/internal/util/Preconditions" "SIOOBE_FORMATTER" "Ljava/util/function/BiFunction;" ∈ lw_tbl) (kk : zW l E d M (k + 1) L (.inr (.inr 1005) :: S) h Q) : zW l E d M k L S h Q := by
  intro p e R s m args below meth c H locs ls cells slots QQ hX hE hS hL hv
  obtain ⟨hdg, hn⟩ := zdc_at hdc
  have k1 := kk p e R s m args below meth c H locs ls cells slots QQ hX hE hS hL (zrv_k (v := .inr (.inr 1005)) trivial hv)
  rw [hn] at k1
  have e1 : zup E (.inr (.inr 1005)) = zfm E := by show zrf E 1005 = _; unfold zrf; rw [if_pos rfl]
  rw [List.map_cons, e1] at k1
  obtain ⟨-, -, -, -, -, -, -, r1, -⟩ := hX.2.2.2.2.2.2.2.2.2.2.1
  exact va_gets hX.1 hX.2.1 r1 hS.2.2 hX.2.2.2.1 (hX.2.2.2.2.1 _ (List.mem_filter.mpr ⟨hw, rfl⟩)) (fun x hx => hx) hdg k1
theorem z_blen {i : Nat} {n : Int} (hi : i < 2) (ho : zop M k = (48, 0, [])) (hn9 : (((zsl[i]?).getD 0 : Nat) : Int) = n) (kk : zW l E d M (k + 1) L (.inl n :: S) h Q) : zW l E d M k L (.inr (.inr (1003 + i)) :: S) h Q := by
  intro p e R s m args below meth c H locs ls cells slots QQ hX hE hS hL hv
  obtain ⟨hdg, hn⟩ := zsim_x hX ho (by decide) rfl
  have hz : zI32 n := by
    rcases (by omega : i = 0 ∨ i = 1) with rfl | rfl
    · rw [← hn9]; unfold zI32; show -2147483648 ≤ ((99 : Nat) : Int) ∧ ((99 : Nat) : Int) ≤ 2147483647; omega
    · rw [← hn9]; unfold zI32; show -2147483648 ≤ ((11 : Nat) : Int) ∧ ((11 : Nat) : Int) ≤ 2147483647; omega
  have k1 := kk p e R s m args below meth c H locs ls cells slots QQ hX hE hS hL (zrv_k (v := .inl n) hz (zrv_c hv).2)
  rw [hn] at k1
  rw [List.map_cons, zrf_3 hi]
  obtain ⟨-, -, -, r1, -⟩ := hX.2.2.2.2.2.2.2.2.2.2.1
  refine va_tlen hX.1 hX.2.1 (r1.1 i hi).2.2.2 hS.2.2 (v := Int32.ofInt n) ?_ hdg k1
  rw [← hn9]
  exact Int32.ofInt_eq_ofNat.symm
theorem z_bchr {i : Nat} {a : Int} (hi : i < 2) (ho : zop M k = (46, 0, [])) (h0 : 0 ≤ a) (h1 : a < ((zsl[i]?).getD 0 : Nat)) (kk : zW l E d M (k + 1) L (.inl (zchr i a) :: S) h Q) : zW l E d M k L (.inl a :: .inr (.inr (1003 + i)) :: S) h Q := by
  intro p e R s m args below meth c H locs ls cells slots QQ hX hE hS hL hv
  obtain ⟨hdg, hn⟩ := zsim_x hX ho (by decide) rfl
  have ha : zI32 a := (zrv_c hv).1
  have k1 := kk p e R s m args below meth c H locs ls cells slots QQ hX hE hS hL (zrv_k (v := .inl (zchr i a)) (zt32_r _) (zrv_c (zrv_c hv).2).2)
  rw [hn] at k1
  rw [List.map_cons, List.map_cons, zrf_3 hi]
  obtain ⟨-, -, -, r1, -⟩ := hX.2.2.2.2.2.2.2.2.2.2.1
  refine va_tb hX.1 hX.2.1 (r1.1 i hi).2.2.2 hS.2.2 (i := Int32.ofInt a) (v := .int (Int32.ofInt (zchr i a))) ?_ ?_ hdg k1
  · have := zvp (n := (zsl[i]?).getD 0) ha h0 h1
    rwa [← List.getD_eq_getElem?_getD] at this
  · rw [zcl_nat ha]
    show Value.int _ = Value.int _
    congr 1
    unfold zchr
    rw [Int32.ofInt_toInt, ← List.getD_eq_getElem?_getD, ← List.getD_eq_getElem?_getD]
theorem z_i2c {a : Int} (hdc : zdc M k 1 .i2c = true) (h0 : 0 ≤ a) (h1 : a < 65536) (kk : zW l E d M (k + 1) L (.inl a :: S) h Q) : zW l E d M k L (.inl a :: S) h Q := by
  intro p e R s m args below meth c H locs ls cells slots QQ hX hE hS hL hv
  obtain ⟨hdg, hn⟩ := zdc_at hdc
  have ha : zI32 a := (zrv_c hv).1
  have k1 := kk p e R s m args below meth c H locs ls cells slots QQ hX hE hS hL hv
  rw [hn] at k1
  refine lv_i2c hX.1 hX.2.1 hdg ?_ k1
  obtain ⟨j, rfl⟩ : ∃ j : Nat, a = (j : Int) := ⟨a.toNat, by omega⟩
  have e1 : Int32.ofInt (j : Int) = nI j := Int32.ofInt_eq_ofNat
  show ((Int32.ofInt (j : Int)).toUInt32 % 65536).toInt32 = Int32.ofInt (j : Int)
  rw [e1, pk_char, pk_tn (by omega), Nat.mod_eq_of_lt (by omega)]
theorem z_inS {ix i : Nat} {M' : zMeth} {As : List zV} {d' : Nat} {Q' : Int → zHp → Prop} (hi : i < 2) (ho : zop M k = (49, 0, [ix, M'.1])) (hC : zC l E d' M' (.inr (.inr (1001 + i)) :: As) h Q') (hn : (zhd M').2.2.2.2.2 = (false, As.length)) (hcl : (zny M').cls = "java/lang/String") (hd : d' + 1 ≤ d) (hst : decide ((S.map zcat).sum ≤ 8) = true)
    (kk : ∀ (r : Int) (h' : zHp), zRr M' r → Q' r h' → zW l E d M (k + 1) L (zrz M' r ++ S) h' Q) : zW l E d M k L (As.reverse ++ .inr (.inr (1001 + i)) :: S) h Q := by
  intro p e R s m args below meth c H locs ls cells slots QQ hX hE hS hL hv
  have hck : (zdc M k 3 (.invokevirtual ix) && (zMp.contains ((zhd M).1, ix, M'.1, false) && zIok M'.1)) = true := zck_at hX.2.2.2.2.2.2.2.1 ho (by decide : (49 : Nat) ≠ 999)
  obtain ⟨hck, hmp⟩ := (Bool.and_eq_true _ _).mp hck
  obtain ⟨hdg, hpc⟩ := zdc_at hck
  obtain ⟨hmp, hi9⟩ := (Bool.and_eq_true _ _).mp hmp
  unfold zIok at hi9
  simp only [Bool.and_eq_true] at hi9
  obtain ⟨hi1, hi2, hi3, hi4⟩ := hi9
  obtain ⟨ok1, ok2, ok3, ok4, ok5⟩ := zhok_of hi1
  have hf := hX.2.2.2.2.2.2.2.2.2.2.2
  have hvA : ∀ v ∈ (.inr (.inr (1001 + i)) :: As : List zV), zrv v := zrv_k (v := .inr (.inr (1001 + i))) trivial (fun v hq => hv v (List.mem_append_left _ (List.mem_reverse.mpr hq)))
  have hvS : ∀ v ∈ S, zrv v := fun v hq => hv v (List.mem_append_right _ (List.mem_cons_of_mem _ hq))
  have hM := hC hvA hS.1 hX.2.2.2.2.2.2.1 hf
  have gd : ∀ {w : Jvm.Cond}, w ∈ lw_tbl → goodWord w = true → w ∈ lw_tblg ∧ ((w.onTables && w.keeps) = true ∨ ∃ ty, w = .arrayClass ty) := fun h1 h2 => ⟨List.mem_filter.mpr ⟨h1, h2⟩, good_of_word h2⟩
  have hg : GoodIn lw_tblg (wsV (zcl M) ix (zny M').cls (zny M') (zws M')) := by
    intro w hw2
    unfold wsV zws at hw2
    simp only [List.cons_append, List.nil_append, List.mem_cons] at hw2
    rcases hw2 with rfl | rfl | rfl | rfl | rfl | h1
    · exact gd (zw_link hmp) rfl
    · exact gd (zw_inst hi2) rfl
    · refine gd ?_ rfl
      have h9 := zw_sel hi3
      rw [← ok1] at h9
      exact h9
    · refine gd ?_ rfl
      have h9 := zw_ini hi4
      rw [← ok1] at h9
      exact h9
    · exact gd (zw_code hi1) rfl
    · exact ⟨h1, good_of_word (lw_tblg_in _ h1).2⟩
  have hRm := hX.2.2.2.2.2.2.2.2.1
  have hnp : (zhj M'.1).2.2.2.2.2.2 = As.length := by show (zhd M').2.2.2.2.2.2 = _; rw [hn]
  have cw : CallW R s args (zcl M) (zny M').cls ix (zny M') (zby M') (zml M') (zrt M') (zws M') (zrm d') 0 0 As.length := cwV (ws' := lw_tblg) As.length hX.2.2.2.2.1 hg rfl rfl rfl ⟨rfl, ok2, ok3, by rw [← hnp]; exact ok4⟩ ⟨by show d' + 1 ≤ R.frames; omega, by show 8 + ((zhj M'.1).2.2.2.1 + 11) + 40 * d' ≤ R.locals; omega⟩
  have hstr := hX.2.2.2.2.2.2.2.2.2.2.1
  have hrcv : ∃ cellB : Cell, H[zad E (1001 + i)]? = some cellB ∧ cellB.vm.isStatics = false ∧ s.vm.findClass (zny M').cls = some cellB.cls := by
    rw [hcl]
    obtain ⟨-, -, -, r1, -⟩ := hstr
    exact vk_recv (adK := fun i => zad E (1001 + i)) (i := i) r1 hi hS.2.2
  rw [List.map_append, List.map_cons, List.map_reverse, zrf_1 hi]
  have hU : ∀ U : State, U.heap = H → s.WarmedH U.vm → va_Pc ((.inr (.inr (1001 + i)) :: As : List zV).map (zup E)) (fun U => zU E h U) (Value.ref (zad E (1001 + i)) :: As.map (zup E)).toArray U := fun U hU hW => ⟨by rw [List.map_cons, zrf_1 hi], zU_of hX.2.2.2.2.2.1 hstr hS hU hW⟩
  exact zbehind hX hE hS hL hvS hpc (va_runV (As := As.map (zup E)) (rest := S.map (zup E)) ⟨hX.1, hX.2.1, hX.2.2.1, hX.2.2.2.1, hX.2.2.2.2.1⟩ hM cw ⟨zblind _ _, hrcv, hU⟩ rfl (by rw [List.length_map]) (by obtain ⟨-, -, lv, hh, -⟩ := hL; exact hh.1) rfl (lv_room (by rw [zcat_up hf]; exact of_decide_eq_true hst)) hdg hX.2.2.2.2.2.2.2.2.2.1) kk
theorem z_aloadS {j i : Nat} (ho : zop M k = (3, 0, [j])) (hj : L[j]? = some (.inr (.inr i))) (hi : decide (1001 ≤ i ∧ i < 1005) = true) (kk : zW l E d M (k + 1) L (.inr (.inr i) :: S) h Q) : zW l E d M k L S h Q :=  by
  intro p e R s m args below meth c H locs ls cells slots QQ hX hE hS hL hv
  have hck : (zdc M k 2 (.aload j) || (decide (j < 4) && zdc M k 1 (.aload_n (Fin.ofNat 4 j)))) = true := zck_at hX.2.2.2.2.2.2.2.1 ho (by decide : (3 : Nat) ≠ 999)
  have hi := of_decide_eq_true hi
  obtain ⟨hl, hr⟩ := zLs_at hL hj (fun q => by cases q; omega)
  have e0 : zup E (.inr (.inr i)) = .ref (zad E i) := by show zrf E i = _; unfold zrf; rw [if_neg (by omega)]
  rw [e0] at hl
  have h1 := kk p e R s m args below meth c H locs ls cells slots QQ hX hE hS hL (zrv_k hr hv)
  rw [List.map_cons, e0] at h1
  rcases (Bool.or_eq_true _ _).mp hck with q | q
  · obtain ⟨hdg, hn⟩ := zdc_at q
    rw [hn] at h1
    exact lv_aload hX.1 hX.2.1 hdg hl h1
  · obtain ⟨q1, q⟩ := (Bool.and_eq_true _ _).mp q
    obtain ⟨hdg, hn⟩ := zdc_at q
    rw [hn] at h1
    exact lv_aload_n hX.1 hX.2.1 hdg (zfin (of_decide_eq_true q1)) hl h1
theorem zk_s1 : zchk zm_String_coder_7d493 = true := by decide +kernel
theorem zk_s2 : zchk zm_String_length_8abf5 = true := by decide +kernel
theorem zk_s3 : zchk zm_String_isLatin1_aae02 = true := by decide +kernel
theorem zk_s4 : zchk zm_Preconditions_checkIndex_8e157 = true := by decide +kernel
theorem zk_s5 : zchk zm_String_checkIndex_df160 = true := by decide +kernel
theorem zk_s6 : zchk zm_StringLatin1_charAt_3b067 = true := by decide +kernel
theorem zk_s7 : zchk zm_String_charAt_5068e = true := by decide +kernel
theorem zlw {n d : String} {ix : Nat} (h : (lw_tbl.any (fun w => decide (w = Jvm.Cond.fieldLink "java/lang/String" ix "java/lang/String" n d))) = true) : Jvm.Cond.fieldLink "java/lang/String" ix "java/lang/String" n d ∈ lw_tbl := by
  obtain ⟨w, hw, e⟩ := List.any_eq_true.mp h
  rw [← of_decide_eq_true e]
  exact hw
end ZStrings
section ZStrings2
variable {l : Launch} {E : zE} {h : zHp}
theorem zsf_coder {i d : Nat} (hi : i < 2) : zC l E d zm_String_coder_7d493 [.inr (.inr (1001 + i))] h (fun r1 h1 => 0 = r1 ∧ h = h1) := by
  refine zC_of zk_s1 (by decide) rfl rfl (Nat.le_of_ble_eq_true rfl) ?_
  show zW l E d zm_String_coder_7d493 0 [.inr (.inr (1001 + i))] [] h _
  refine z_gcs (ix := 38) (by decide +kernel) (by decide +kernel) ?_
  refine z_zeq rfl (fun q => by cases q) (fun _ => ?_)
  refine z_aloadS rfl rfl (by simp; omega) ?_
  refine z_scod (ix := 15) hi (by decide +kernel) (by decide +kernel) ?_
  refine z_goto rfl ?_
  exact zret0 (r := 0) (fun p R s m args c cells slots hX => by
    have hck : decide (decode (zby zm_String_coder_7d493) (zpc zm_String_coder_7d493 6) = .ok (.ireturn, 1)) = true := zck_at (k := 6) (o := (51, 0, [])) hX.2.2.2.2.2.2.2.1 rfl (by decide)
    exact of_decide_eq_true hck) (fun _ => ⟨by unfold zI32; omega, rfl⟩) rfl ⟨rfl, rfl⟩
theorem zsf_length {i d : Nat} (hi : i < 2) (hd : 2 ≤ d) : zC l E d zm_String_length_8abf5 [.inr (.inr (1001 + i))] h (fun r1 h1 => (((zsl[i]?).getD 0 : Nat) : Int) = r1 ∧ h = h1) := by
  refine zC_of zk_s2 (by decide) rfl rfl (Nat.le_of_ble_eq_true rfl) ?_
  show zW l E d zm_String_length_8abf5 0 [.inr (.inr (1001 + i))] [] h _
  refine z_aloadS rfl rfl (by simp; omega) ?_
  refine z_sval (ix := 9) hi (by decide +kernel) (by decide +kernel) ?_
  refine z_blen hi rfl rfl ?_
  refine z_aloadS rfl rfl (by simp; omega) ?_
  refine z_inS (d' := d - 1) (As := []) hi rfl (zsf_coder hi) rfl rfl (by omega) rfl (fun r1 h1 hR1 hQ1 => ?_)
  obtain ⟨rfl, rfl⟩ := hQ1
  show zW l E d zm_String_length_8abf5 5 [.inr (.inr (1001 + i))] [.inl 0, .inl (((zsl[i]?).getD 0 : Nat) : Int)] h _
  refine z_ishr rfl ?_
  refine z_iret rfl rfl ⟨?_, rfl⟩
  rcases (by omega : i = 0 ∨ i = 1) with rfl | rfl <;> decide
theorem zsf_latin {i d : Nat} (hi : i < 2) : zC l E d zm_String_isLatin1_aae02 [.inr (.inr (1001 + i))] h (fun r1 h1 => 1 = r1 ∧ h = h1) := by
  refine zC_of zk_s3 (by decide) rfl rfl (Nat.le_of_ble_eq_true rfl) ?_
  show zW l E d zm_String_isLatin1_aae02 0 [.inr (.inr (1001 + i))] [] h _
  refine z_gcs (ix := 38) (by decide +kernel) (by decide +kernel) ?_
  refine z_zeq rfl (fun q => by cases q) (fun _ => ?_)
  refine z_aloadS rfl rfl (by simp; omega) ?_
  refine z_scod (ix := 15) hi (by decide +kernel) (by decide +kernel) ?_
  refine z_zne rfl (fun q => absurd rfl q) (fun _ => ?_)
  refine z_const rfl ?_
  refine z_goto rfl ?_
  exact z_zret rfl rfl (Or.inr rfl) ⟨rfl, rfl⟩
theorem zsf_prec {d : Nat} (a n : Int) (h0 : 0 ≤ a) (h1 : a < n) : zC l E d zm_Preconditions_checkIndex_8e157 [.inl a, .inl n, .inr (.inr 1005)] h (fun r1 h1 => a = r1 ∧ h = h1) := by
  refine zC_of zk_s4 (by decide) rfl rfl (Nat.le_of_ble_eq_true rfl) ?_
  show zW l E d zm_Preconditions_checkIndex_8e157 0 (zla (zml zm_Preconditions_checkIndex_8e157) [.inl a, .inl n, .inr (.inr 1005)]) [] h _
  refine z_iload rfl rfl ?_
  refine z_zlt rfl (fun q => by omega) (fun _ => ?_)
  refine z_iload rfl rfl ?_
  refine z_iload rfl rfl ?_
  refine z_clt rfl (fun _ => ?_) (fun q => by omega)
  refine z_iload rfl rfl ?_
  exact z_iret rfl rfl ⟨rfl, rfl⟩
theorem zsf_chk {d : Nat} (hd : 2 ≤ d) (a n : Int) (h0 : 0 ≤ a) (h1 : a < n) : zC l E d zm_String_checkIndex_df160 [.inl a, .inl n] h (fun r1 h1 => 0 = r1 ∧ h = h1) := by
  refine zC_of zk_s5 (by decide) rfl rfl (Nat.le_of_ble_eq_true rfl) ?_
  show zW l E d zm_String_checkIndex_df160 0 [.inl a, .inl n] [] h _
  refine z_iload rfl rfl ?_
  refine z_iload rfl rfl ?_
  refine z_gfm (ix := 1053) (by decide +kernel) (by decide +kernel) ?_
  refine z_ivs1 (d' := d - 1) (As := [.inl a, .inl n, .inr (.inr 1005)]) rfl rfl (zsf_prec a n h0 h1) rfl (by omega) rfl (fun r1 h1 hR1 hQ1 => ?_)
  obtain ⟨rfl, rfl⟩ := hQ1
  refine z_pop rfl rfl ?_
  exact z_ret rfl rfl rfl ⟨rfl, rfl⟩
theorem zchr_r {i : Nat} (hi : i < 2) (a : Int) : 0 ≤ zchr i a ∧ zchr i a < 256 ∧ zand (zchr i a) 255 = zchr i a := by
  have h1 : (((zsb[0]?).getD [])).all (fun x => decide (0 ≤ x.toInt ∧ x.toInt < 256 ∧ zand x.toInt 255 = x.toInt)) = true := by decide +kernel
  have h2 : (((zsb[1]?).getD [])).all (fun x => decide (0 ≤ x.toInt ∧ x.toInt < 256 ∧ zand x.toInt 255 = x.toInt)) = true := by decide +kernel
  unfold zchr
  have h3 : (((zsb[i]?).getD [])).all (fun x => decide (0 ≤ x.toInt ∧ x.toInt < 256 ∧ zand x.toInt 255 = x.toInt)) = true := by
    rcases (by omega : i = 0 ∨ i = 1) with rfl | rfl
    · exact h1
    · exact h2
  cases hq : ((zsb[i]?).getD [])[a.toNat]? with
  | none => exact ⟨by decide, by decide, by decide⟩
  | some x => exact of_decide_eq_true (List.all_eq_true.mp h3 x (List.mem_of_getElem? hq))
theorem zsf_l1 {i d : Nat} (hi : i < 2) (hd : 3 ≤ d) (a : Int) (h0 : 0 ≤ a) (h1 : a < ((zsl[i]?).getD 0 : Nat)) : zC l E d zm_StringLatin1_charAt_3b067 [.inr (.inr (1003 + i)), .inl a] h (fun r1 h1 => zchr i a = r1 ∧ h = h1) := by
  obtain ⟨g1, g2, g3⟩ := zchr_r hi a
  refine zC_of zk_s6 (by decide) rfl rfl (Nat.le_of_ble_eq_true rfl) ?_
  show zW l E d zm_StringLatin1_charAt_3b067 0 [.inr (.inr (1003 + i)), .inl a] [] h _
  refine z_iload rfl rfl ?_
  refine z_aloadS rfl rfl (by simp; omega) ?_
  refine z_blen hi rfl rfl ?_
  refine z_ivs0 (d' := d - 1) (As := [.inl a, .inl (((zsl[i]?).getD 0 : Nat) : Int)]) rfl rfl (zsf_chk (by omega) a _ h0 h1) rfl (by omega) rfl (fun r1 h1 hR1 hQ1 => ?_)
  obtain ⟨rfl, rfl⟩ := hQ1
  refine z_aloadS rfl rfl (by simp; omega) ?_
  refine z_iload rfl rfl ?_
  refine z_bchr hi rfl h0 h1 ?_
  refine z_const rfl ?_
  refine z_iand rfl ?_
  rw [g3]
  refine z_i2c (by decide +kernel) g1 (by omega) ?_
  exact zret0 (r := zchr i a) (fun p R s m args c cells slots hX => by
    have hck : decide (decode (zby zm_StringLatin1_charAt_3b067) (zpc zm_StringLatin1_charAt_3b067 10) = .ok (.ireturn, 1)) = true := zck_at (k := 10) (o := (51, 0, [])) hX.2.2.2.2.2.2.2.1 rfl (by decide)
    exact of_decide_eq_true hck) (fun hv => ⟨(zrv_c hv).1, by
      obtain ⟨j, hj⟩ : ∃ j : Nat, zchr i a = (j : Int) := ⟨(zchr i a).toNat, by omega⟩
      rw [hj]
      have e1 : Int32.ofInt (j : Int) = nI j := Int32.ofInt_eq_ofNat
      rw [e1]
      exact (pk_charN (q := j) (by omega)).1⟩) rfl ⟨rfl, rfl⟩
theorem zsf_charAt {i d : Nat} (hi : i < 2) (hd : 4 ≤ d) (a : Int) (h0 : 0 ≤ a) (h1 : a < ((zsl[i]?).getD 0 : Nat)) : zC l E d zm_String_charAt_5068e [.inr (.inr (1001 + i)), .inl a] h (fun r1 h1 => zchr i a = r1 ∧ h = h1) := by
  obtain ⟨g1, g2, g3⟩ := zchr_r hi a
  refine zC_of zk_s7 (by decide) rfl rfl (Nat.le_of_ble_eq_true rfl) ?_
  show zW l E d zm_String_charAt_5068e 0 [.inr (.inr (1001 + i)), .inl a] [] h _
  refine z_aloadS rfl rfl (by simp; omega) ?_
  refine z_inS (d' := d - 1) (As := []) hi rfl (zsf_latin hi) rfl rfl (by omega) rfl (fun r1 h1 hR1 hQ1 => ?_)
  obtain ⟨rfl, rfl⟩ := hQ1
  show zW l E d zm_String_charAt_5068e 2 [.inr (.inr (1001 + i)), .inl a] [.inl 1] h _
  refine z_zeq rfl (fun q => by cases q) (fun _ => ?_)
  refine z_aloadS rfl rfl (by simp; omega) ?_
  refine z_sval (ix := 9) hi (by decide +kernel) (by decide +kernel) ?_
  refine z_iload rfl rfl ?_
  refine z_ivs1 (d' := d - 1) (As := [.inr (.inr (1003 + i)), .inl a]) rfl rfl (zsf_l1 hi (by omega) a h0 h1) rfl (by omega) rfl (fun r1 h1 hR1 hQ1 => ?_)
  obtain ⟨rfl, rfl⟩ := hQ1
  exact zret0 (r := zchr i a) (fun p R s m args c cells slots hX => by
    have hck : decide (decode (zby zm_String_charAt_5068e) (zpc zm_String_charAt_5068e 7) = .ok (.ireturn, 1)) = true := zck_at (k := 7) (o := (51, 0, [])) hX.2.2.2.2.2.2.2.1 rfl (by decide)
    exact of_decide_eq_true hck) (fun hv => ⟨(zrv_c hv).1, by
      obtain ⟨j, hj⟩ : ∃ j : Nat, zchr i a = (j : Int) := ⟨(zchr i a).toNat, by omega⟩
      rw [hj]
      have e1 : Int32.ofInt (j : Int) = nI j := Int32.ofInt_eq_ofNat
      rw [e1]
      exact (pk_charN (q := j) (by omega)).1⟩) rfl ⟨rfl, rfl⟩
variable {d : Nat} {M : zMeth} {k : Nat} {L S : List zV} {Q : Int → zHp → Prop}
theorem z_slen {i ix : Nat} {n : Int} (ho : zop M k = (49, 0, [ix, 236])) (hi : decide (i < 2) = true) (hn : (((zsl[i]?).getD 0 : Nat) : Int) = n) (hd : 8 ≤ d) (hst : decide ((S.map zcat).sum ≤ 8) = true) (kk : zW l E d M (k + 1) L (.inl n :: S) h Q) : zW l E d M k L (.inr (.inr (1001 + i)) :: S) h Q := by
  refine z_inS (d' := d - 1) (M' := zm_String_length_8abf5) (As := []) (of_decide_eq_true hi) ho (zsf_length (of_decide_eq_true hi) (by omega)) rfl rfl (by omega) hst (fun r1 h1 hR1 hQ1 => ?_)
  obtain ⟨rfl, rfl⟩ := hQ1
  rw [hn]
  exact kk
theorem z_schr {i ix : Nat} {a n : Int} (ho : zop M k = (49, 0, [ix, 237])) (hi : decide (i < 2) = true) (hn : (((zsl[i]?).getD 0 : Nat) : Int) = n) (hd : 8 ≤ d) (hst : decide ((S.map zcat).sum ≤ 8) = true) (h0 : 0 ≤ a) (h1 : a < n) (kk : zW l E d M (k + 1) L (.inl (zchr i a) :: S) h Q) : zW l E d M k L (.inl a :: .inr (.inr (1001 + i)) :: S) h Q := by
  refine z_inS (d' := d - 1) (M' := zm_String_charAt_5068e) (As := [.inl a]) (of_decide_eq_true hi) ho (zsf_charAt (of_decide_eq_true hi) (by omega) a h0 (by omega)) rfl rfl (by omega) hst (fun r1 h1 hR1 hQ1 => ?_)
  obtain ⟨rfl, rfl⟩ := hQ1
  exact kk
end ZStrings2
end
