section
-- ===== PART A: goes FIRST, ahead of the names: the tables' words, and 'selects' of the private methods out of them =====
/-- a private method of a class that the tables say can be made, by its rows of tables_1 -/
def lw_okq (q : MethodName × Nat) : Prop := (q.1.cls ≠ "java/lang/invoke/MethodHandle" ∧ q.1.cls ≠ "java/lang/invoke/VarHandle") ∧ Cond.instantiable q.1.cls q.2 ∈ tables_1 ∧ Cond.privateMethod q.1 ∈ tables_1 ∧ Cond.instanceMethod q.1 ∈ tables_1
theorem lw_p0 : lw_okq (⟨"NotionRounds", "addNotion", "(III)I"⟩, 8) := ⟨⟨by decide +kernel, by decide +kernel⟩, List.mem_of_getElem? (i := 12) (by decide +kernel), List.mem_of_getElem? (i := 173) (by decide +kernel), List.mem_of_getElem? (i := 174) (by decide +kernel)⟩
theorem lw_p1 : lw_okq (⟨"NotionRounds", "findOrAddNotion", "(III)I"⟩, 8) := ⟨⟨by decide +kernel, by decide +kernel⟩, List.mem_of_getElem? (i := 12) (by decide +kernel), List.mem_of_getElem? (i := 195) (by decide +kernel), List.mem_of_getElem? (i := 196) (by decide +kernel)⟩
theorem lw_p2 : lw_okq (⟨"NotionRounds", "addAxiom", "(IIII)I"⟩, 8) := ⟨⟨by decide +kernel, by decide +kernel⟩, List.mem_of_getElem? (i := 12) (by decide +kernel), List.mem_of_getElem? (i := 234) (by decide +kernel), List.mem_of_getElem? (i := 235) (by decide +kernel)⟩
theorem lw_p3 : lw_okq (⟨"NotionRounds$Roles", "joinThrough", "(I)V"⟩, 2) := ⟨⟨by decide +kernel, by decide +kernel⟩, List.mem_of_getElem? (i := 64) (by decide +kernel), List.mem_of_getElem? (i := 310) (by decide +kernel), List.mem_of_getElem? (i := 311) (by decide +kernel)⟩
theorem lw_p4 : lw_okq (⟨"NotionRounds$Roles", "learnChain", "(IIII)V"⟩, 2) := ⟨⟨by decide +kernel, by decide +kernel⟩, List.mem_of_getElem? (i := 64) (by decide +kernel), List.mem_of_getElem? (i := 319) (by decide +kernel), List.mem_of_getElem? (i := 320) (by decide +kernel)⟩
theorem lw_p5 : lw_okq (⟨"NotionRounds$Rules", "clearOffers", "()V"⟩, 5) := ⟨⟨by decide +kernel, by decide +kernel⟩, List.mem_of_getElem? (i := 109) (by decide +kernel), List.mem_of_getElem? (i := 330) (by decide +kernel), List.mem_of_getElem? (i := 331) (by decide +kernel)⟩
theorem lw_p6 : lw_okq (⟨"NotionRounds$Rules", "offerSeeds", "()V"⟩, 5) := ⟨⟨by decide +kernel, by decide +kernel⟩, List.mem_of_getElem? (i := 109) (by decide +kernel), List.mem_of_getElem? (i := 335) (by decide +kernel), List.mem_of_getElem? (i := 336) (by decide +kernel)⟩
theorem lw_p7 : lw_okq (⟨"NotionRounds$Rules", "offerBegun", "(II)V"⟩, 5) := ⟨⟨by decide +kernel, by decide +kernel⟩, List.mem_of_getElem? (i := 109) (by decide +kernel), List.mem_of_getElem? (i := 343) (by decide +kernel), List.mem_of_getElem? (i := 344) (by decide +kernel)⟩
theorem lw_p8 : lw_okq (⟨"NotionRounds$Rules", "offer", "(IJ)V"⟩, 5) := ⟨⟨by decide +kernel, by decide +kernel⟩, List.mem_of_getElem? (i := 109) (by decide +kernel), List.mem_of_getElem? (i := 353) (by decide +kernel), List.mem_of_getElem? (i := 354) (by decide +kernel)⟩
theorem lw_p9 : lw_okq (⟨"NotionRounds$Rules", "offerFrom", "(I)V"⟩, 5) := ⟨⟨by decide +kernel, by decide +kernel⟩, List.mem_of_getElem? (i := 109) (by decide +kernel), List.mem_of_getElem? (i := 369) (by decide +kernel), List.mem_of_getElem? (i := 370) (by decide +kernel)⟩
theorem lw_p10 : lw_okq (⟨"NotionRounds$Rules", "offerByParts", "(III)V"⟩, 5) := ⟨⟨by decide +kernel, by decide +kernel⟩, List.mem_of_getElem? (i := 109) (by decide +kernel), List.mem_of_getElem? (i := 386) (by decide +kernel), List.mem_of_getElem? (i := 387) (by decide +kernel)⟩
theorem lw_p11 : lw_okq (⟨"NotionRounds$Rules", "offerMeets", "(III)V"⟩, 5) := ⟨⟨by decide +kernel, by decide +kernel⟩, List.mem_of_getElem? (i := 109) (by decide +kernel), List.mem_of_getElem? (i := 396) (by decide +kernel), List.mem_of_getElem? (i := 397) (by decide +kernel)⟩
theorem lw_p12 : lw_okq (⟨"NotionRounds$Rules", "offerByAxioms", "(III)V"⟩, 5) := ⟨⟨by decide +kernel, by decide +kernel⟩, List.mem_of_getElem? (i := 109) (by decide +kernel), List.mem_of_getElem? (i := 409) (by decide +kernel), List.mem_of_getElem? (i := 410) (by decide +kernel)⟩
theorem lw_p13 : lw_okq (⟨"NotionRounds$Rules", "offerBack", "(IIII)V"⟩, 5) := ⟨⟨by decide +kernel, by decide +kernel⟩, List.mem_of_getElem? (i := 109) (by decide +kernel), List.mem_of_getElem? (i := 415) (by decide +kernel), List.mem_of_getElem? (i := 416) (by decide +kernel)⟩
theorem lw_p14 : lw_okq (⟨"NotionRounds$Rules", "offerChains", "(IIII)V"⟩, 5) := ⟨⟨by decide +kernel, by decide +kernel⟩, List.mem_of_getElem? (i := 109) (by decide +kernel), List.mem_of_getElem? (i := 420) (by decide +kernel), List.mem_of_getElem? (i := 421) (by decide +kernel)⟩
theorem lw_p15 : lw_okq (⟨"NotionRounds$Rules", "addOffered", "(I)Z"⟩, 5) := ⟨⟨by decide +kernel, by decide +kernel⟩, List.mem_of_getElem? (i := 109) (by decide +kernel), List.mem_of_getElem? (i := 430) (by decide +kernel), List.mem_of_getElem? (i := 431) (by decide +kernel)⟩
def lw_privs_1 : List (MethodName × Nat) := [(⟨"NotionRounds", "addNotion", "(III)I"⟩, 8), (⟨"NotionRounds", "findOrAddNotion", "(III)I"⟩, 8), (⟨"NotionRounds", "addAxiom", "(IIII)I"⟩, 8), (⟨"NotionRounds$Roles", "joinThrough", "(I)V"⟩, 2), (⟨"NotionRounds$Roles", "learnChain", "(IIII)V"⟩, 2), (⟨"NotionRounds$Rules", "clearOffers", "()V"⟩, 5), (⟨"NotionRounds$Rules", "offerSeeds", "()V"⟩, 5), (⟨"NotionRounds$Rules", "offerBegun", "(II)V"⟩, 5), (⟨"NotionRounds$Rules", "offer", "(IJ)V"⟩, 5), (⟨"NotionRounds$Rules", "offerFrom", "(I)V"⟩, 5), (⟨"NotionRounds$Rules", "offerByParts", "(III)V"⟩, 5), (⟨"NotionRounds$Rules", "offerMeets", "(III)V"⟩, 5), (⟨"NotionRounds$Rules", "offerByAxioms", "(III)V"⟩, 5), (⟨"NotionRounds$Rules", "offerBack", "(IIII)V"⟩, 5), (⟨"NotionRounds$Rules", "offerChains", "(IIII)V"⟩, 5), (⟨"NotionRounds$Rules", "addOffered", "(I)Z"⟩, 5)]
theorem lw_r1 : ∀ q ∈ lw_privs_1, lw_okq q := List.forall_mem_cons.mpr ⟨lw_p0, List.forall_mem_cons.mpr ⟨lw_p1, List.forall_mem_cons.mpr ⟨lw_p2, List.forall_mem_cons.mpr ⟨lw_p3, List.forall_mem_cons.mpr ⟨lw_p4, List.forall_mem_cons.mpr ⟨lw_p5, List.forall_mem_cons.mpr ⟨lw_p6, List.forall_mem_cons.mpr ⟨lw_p7, List.forall_mem_cons.mpr ⟨lw_p8, List.forall_mem_cons.mpr ⟨lw_p9, List.forall_mem_cons.mpr ⟨lw_p10, List.forall_mem_cons.mpr ⟨lw_p11, List.forall_mem_cons.mpr ⟨lw_p12, List.forall_mem_cons.mpr ⟨lw_p13, List.forall_mem_cons.mpr ⟨lw_p14, List.forall_mem_cons.mpr ⟨lw_p15, fun _ h => absurd h List.not_mem_nil⟩⟩⟩⟩⟩⟩⟩⟩⟩⟩⟩⟩⟩⟩⟩⟩
theorem lw_p16 : lw_okq (⟨"NotionRounds$House", "buildPair", "(LNotionRounds$Roles;LNotionRounds$Conclusions;II)V"⟩, 2) := ⟨⟨by decide +kernel, by decide +kernel⟩, List.mem_of_getElem? (i := 131) (by decide +kernel), List.mem_of_getElem? (i := 456) (by decide +kernel), List.mem_of_getElem? (i := 457) (by decide +kernel)⟩
theorem lw_p17 : lw_okq (⟨"NotionRounds$House", "membersByMeaning", "(LNotionRounds$Notions;LNotionRounds$Conclusions;II)I"⟩, 2) := ⟨⟨by decide +kernel, by decide +kernel⟩, List.mem_of_getElem? (i := 131) (by decide +kernel), List.mem_of_getElem? (i := 473) (by decide +kernel), List.mem_of_getElem? (i := 474) (by decide +kernel)⟩
theorem lw_p18 : lw_okq (⟨"NotionRounds$House", "havers", "(II)I"⟩, 2) := ⟨⟨by decide +kernel, by decide +kernel⟩, List.mem_of_getElem? (i := 131) (by decide +kernel), List.mem_of_getElem? (i := 487) (by decide +kernel), List.mem_of_getElem? (i := 488) (by decide +kernel)⟩
theorem lw_p19 : lw_okq (⟨"NotionRounds", "isUnder", "(II)Z"⟩, 8) := ⟨⟨by decide +kernel, by decide +kernel⟩, List.mem_of_getElem? (i := 12) (by decide +kernel), List.mem_of_getElem? (i := 554) (by decide +kernel), List.mem_of_getElem? (i := 555) (by decide +kernel)⟩
theorem lw_p20 : lw_okq (⟨"NotionRounds", "leastLike", "(I)I"⟩, 8) := ⟨⟨by decide +kernel, by decide +kernel⟩, List.mem_of_getElem? (i := 12) (by decide +kernel), List.mem_of_getElem? (i := 564) (by decide +kernel), List.mem_of_getElem? (i := 565) (by decide +kernel)⟩
theorem lw_p21 : lw_okq (⟨"NotionRounds", "areLike", "(II)Z"⟩, 8) := ⟨⟨by decide +kernel, by decide +kernel⟩, List.mem_of_getElem? (i := 12) (by decide +kernel), List.mem_of_getElem? (i := 568) (by decide +kernel), List.mem_of_getElem? (i := 569) (by decide +kernel)⟩
theorem lw_p22 : lw_okq (⟨"NotionRounds", "isParent", "(II)Z"⟩, 8) := ⟨⟨by decide +kernel, by decide +kernel⟩, List.mem_of_getElem? (i := 12) (by decide +kernel), List.mem_of_getElem? (i := 576) (by decide +kernel), List.mem_of_getElem? (i := 577) (by decide +kernel)⟩
theorem lw_p23 : lw_okq (⟨"NotionRounds", "isSo", "(I)Z"⟩, 8) := ⟨⟨by decide +kernel, by decide +kernel⟩, List.mem_of_getElem? (i := 12) (by decide +kernel), List.mem_of_getElem? (i := 609) (by decide +kernel), List.mem_of_getElem? (i := 610) (by decide +kernel)⟩
theorem lw_p24 : lw_okq (⟨"NotionRoundsModel", "made", "(III)I"⟩, 32) := ⟨⟨by decide +kernel, by decide +kernel⟩, List.mem_of_getElem? (i := 637) (by decide +kernel), List.mem_of_getElem? (i := 746) (by decide +kernel), List.mem_of_getElem? (i := 747) (by decide +kernel)⟩
theorem lw_p25 : lw_okq (⟨"NotionRoundsModel", "isNotion", "(I)Z"⟩, 32) := ⟨⟨by decide +kernel, by decide +kernel⟩, List.mem_of_getElem? (i := 637) (by decide +kernel), List.mem_of_getElem? (i := 754) (by decide +kernel), List.mem_of_getElem? (i := 755) (by decide +kernel)⟩
theorem lw_p26 : lw_okq (⟨"NotionRoundsModel", "found", "(III)I"⟩, 32) := ⟨⟨by decide +kernel, by decide +kernel⟩, List.mem_of_getElem? (i := 637) (by decide +kernel), List.mem_of_getElem? (i := 761) (by decide +kernel), List.mem_of_getElem? (i := 762) (by decide +kernel)⟩
theorem lw_p27 : lw_okq (⟨"NotionRoundsModel", "said", "(IIII)I"⟩, 32) := ⟨⟨by decide +kernel, by decide +kernel⟩, List.mem_of_getElem? (i := 637) (by decide +kernel), List.mem_of_getElem? (i := 776) (by decide +kernel), List.mem_of_getElem? (i := 777) (by decide +kernel)⟩
theorem lw_p28 : lw_okq (⟨"NotionRoundsModel", "closeRoles", "()V"⟩, 32) := ⟨⟨by decide +kernel, by decide +kernel⟩, List.mem_of_getElem? (i := 637) (by decide +kernel), List.mem_of_getElem? (i := 804) (by decide +kernel), List.mem_of_getElem? (i := 805) (by decide +kernel)⟩
theorem lw_p29 : lw_okq (⟨"NotionRoundsModel", "round", "()Z"⟩, 32) := ⟨⟨by decide +kernel, by decide +kernel⟩, List.mem_of_getElem? (i := 637) (by decide +kernel), List.mem_of_getElem? (i := 808) (by decide +kernel), List.mem_of_getElem? (i := 809) (by decide +kernel)⟩
theorem lw_p30 : lw_okq (⟨"NotionRoundsModel", "ofBegun", "()V"⟩, 32) := ⟨⟨by decide +kernel, by decide +kernel⟩, List.mem_of_getElem? (i := 637) (by decide +kernel), List.mem_of_getElem? (i := 812) (by decide +kernel), List.mem_of_getElem? (i := 813) (by decide +kernel)⟩
theorem lw_p31 : lw_okq (⟨"NotionRoundsModel", "isSeed", "(I)Z"⟩, 32) := ⟨⟨by decide +kernel, by decide +kernel⟩, List.mem_of_getElem? (i := 637) (by decide +kernel), List.mem_of_getElem? (i := 816) (by decide +kernel), List.mem_of_getElem? (i := 817) (by decide +kernel)⟩
def lw_privs_2 : List (MethodName × Nat) := [(⟨"NotionRounds$House", "buildPair", "(LNotionRounds$Roles;LNotionRounds$Conclusions;II)V"⟩, 2), (⟨"NotionRounds$House", "membersByMeaning", "(LNotionRounds$Notions;LNotionRounds$Conclusions;II)I"⟩, 2), (⟨"NotionRounds$House", "havers", "(II)I"⟩, 2), (⟨"NotionRounds", "isUnder", "(II)Z"⟩, 8), (⟨"NotionRounds", "leastLike", "(I)I"⟩, 8), (⟨"NotionRounds", "areLike", "(II)Z"⟩, 8), (⟨"NotionRounds", "isParent", "(II)Z"⟩, 8), (⟨"NotionRounds", "isSo", "(I)Z"⟩, 8), (⟨"NotionRoundsModel", "made", "(III)I"⟩, 32), (⟨"NotionRoundsModel", "isNotion", "(I)Z"⟩, 32), (⟨"NotionRoundsModel", "found", "(III)I"⟩, 32), (⟨"NotionRoundsModel", "said", "(IIII)I"⟩, 32), (⟨"NotionRoundsModel", "closeRoles", "()V"⟩, 32), (⟨"NotionRoundsModel", "round", "()Z"⟩, 32), (⟨"NotionRoundsModel", "ofBegun", "()V"⟩, 32), (⟨"NotionRoundsModel", "isSeed", "(I)Z"⟩, 32)]
theorem lw_r2 : ∀ q ∈ lw_privs_2, lw_okq q := List.forall_mem_cons.mpr ⟨lw_p16, List.forall_mem_cons.mpr ⟨lw_p17, List.forall_mem_cons.mpr ⟨lw_p18, List.forall_mem_cons.mpr ⟨lw_p19, List.forall_mem_cons.mpr ⟨lw_p20, List.forall_mem_cons.mpr ⟨lw_p21, List.forall_mem_cons.mpr ⟨lw_p22, List.forall_mem_cons.mpr ⟨lw_p23, List.forall_mem_cons.mpr ⟨lw_p24, List.forall_mem_cons.mpr ⟨lw_p25, List.forall_mem_cons.mpr ⟨lw_p26, List.forall_mem_cons.mpr ⟨lw_p27, List.forall_mem_cons.mpr ⟨lw_p28, List.forall_mem_cons.mpr ⟨lw_p29, List.forall_mem_cons.mpr ⟨lw_p30, List.forall_mem_cons.mpr ⟨lw_p31, fun _ h => absurd h List.not_mem_nil⟩⟩⟩⟩⟩⟩⟩⟩⟩⟩⟩⟩⟩⟩⟩⟩
theorem lw_p32 : lw_okq (⟨"NotionRoundsModel", "leastTo", "(I)I"⟩, 32) := ⟨⟨by decide +kernel, by decide +kernel⟩, List.mem_of_getElem? (i := 637) (by decide +kernel), List.mem_of_getElem? (i := 820) (by decide +kernel), List.mem_of_getElem? (i := 821) (by decide +kernel)⟩
theorem lw_p33 : lw_okq (⟨"NotionRoundsModel", "fact", "(II)I"⟩, 32) := ⟨⟨by decide +kernel, by decide +kernel⟩, List.mem_of_getElem? (i := 637) (by decide +kernel), List.mem_of_getElem? (i := 824) (by decide +kernel), List.mem_of_getElem? (i := 825) (by decide +kernel)⟩
theorem lw_p34 : lw_okq (⟨"NotionRoundsModel", "findIs", "(IIIIII)V"⟩, 32) := ⟨⟨by decide +kernel, by decide +kernel⟩, List.mem_of_getElem? (i := 637) (by decide +kernel), List.mem_of_getElem? (i := 828) (by decide +kernel), List.mem_of_getElem? (i := 829) (by decide +kernel)⟩
theorem lw_p35 : lw_okq (⟨"NotionRoundsModel", "ofMeets", "()V"⟩, 32) := ⟨⟨by decide +kernel, by decide +kernel⟩, List.mem_of_getElem? (i := 637) (by decide +kernel), List.mem_of_getElem? (i := 832) (by decide +kernel), List.mem_of_getElem? (i := 833) (by decide +kernel)⟩
theorem lw_p36 : lw_okq (⟨"NotionRoundsModel", "ofAxioms", "()V"⟩, 32) := ⟨⟨by decide +kernel, by decide +kernel⟩, List.mem_of_getElem? (i := 637) (by decide +kernel), List.mem_of_getElem? (i := 836) (by decide +kernel), List.mem_of_getElem? (i := 837) (by decide +kernel)⟩
theorem lw_p37 : lw_okq (⟨"NotionRoundsModel", "ofRoles", "()V"⟩, 32) := ⟨⟨by decide +kernel, by decide +kernel⟩, List.mem_of_getElem? (i := 637) (by decide +kernel), List.mem_of_getElem? (i := 840) (by decide +kernel), List.mem_of_getElem? (i := 841) (by decide +kernel)⟩
theorem lw_p38 : lw_okq (⟨"NotionRoundsModel", "findTo", "(IIIIIII)V"⟩, 32) := ⟨⟨by decide +kernel, by decide +kernel⟩, List.mem_of_getElem? (i := 637) (by decide +kernel), List.mem_of_getElem? (i := 844) (by decide +kernel), List.mem_of_getElem? (i := 845) (by decide +kernel)⟩
theorem lw_p39 : lw_okq (⟨"NotionRoundsModel", "ofChains", "()V"⟩, 32) := ⟨⟨by decide +kernel, by decide +kernel⟩, List.mem_of_getElem? (i := 637) (by decide +kernel), List.mem_of_getElem? (i := 848) (by decide +kernel), List.mem_of_getElem? (i := 849) (by decide +kernel)⟩
theorem lw_p40 : lw_okq (⟨"NotionRoundsModel", "lay", "(IIIIIIII)V"⟩, 32) := ⟨⟨by decide +kernel, by decide +kernel⟩, List.mem_of_getElem? (i := 637) (by decide +kernel), List.mem_of_getElem? (i := 852) (by decide +kernel), List.mem_of_getElem? (i := 853) (by decide +kernel)⟩
theorem lw_p41 : lw_okq (⟨"NotionRoundsModel", "makeHouse", "()V"⟩, 32) := ⟨⟨by decide +kernel, by decide +kernel⟩, List.mem_of_getElem? (i := 637) (by decide +kernel), List.mem_of_getElem? (i := 856) (by decide +kernel), List.mem_of_getElem? (i := 857) (by decide +kernel)⟩
theorem lw_p42 : lw_okq (⟨"NotionRoundsModel", "isBegun", "(I)Z"⟩, 32) := ⟨⟨by decide +kernel, by decide +kernel⟩, List.mem_of_getElem? (i := 637) (by decide +kernel), List.mem_of_getElem? (i := 860) (by decide +kernel), List.mem_of_getElem? (i := 861) (by decide +kernel)⟩
theorem lw_p43 : lw_okq (⟨"NotionRoundsModel", "isPlain", "(I)Z"⟩, 32) := ⟨⟨by decide +kernel, by decide +kernel⟩, List.mem_of_getElem? (i := 637) (by decide +kernel), List.mem_of_getElem? (i := 888) (by decide +kernel), List.mem_of_getElem? (i := 889) (by decide +kernel)⟩
theorem lw_p44 : lw_okq (⟨"NotionRoundsModel", "isUnder", "(II)Z"⟩, 32) := ⟨⟨by decide +kernel, by decide +kernel⟩, List.mem_of_getElem? (i := 637) (by decide +kernel), List.mem_of_getElem? (i := 892) (by decide +kernel), List.mem_of_getElem? (i := 893) (by decide +kernel)⟩
theorem lw_p45 : lw_okq (⟨"NotionRoundsModel", "leastLike", "(I)I"⟩, 32) := ⟨⟨by decide +kernel, by decide +kernel⟩, List.mem_of_getElem? (i := 637) (by decide +kernel), List.mem_of_getElem? (i := 900) (by decide +kernel), List.mem_of_getElem? (i := 901) (by decide +kernel)⟩
theorem lw_p46 : lw_okq (⟨"NotionRoundsModel", "areLike", "(II)Z"⟩, 32) := ⟨⟨by decide +kernel, by decide +kernel⟩, List.mem_of_getElem? (i := 637) (by decide +kernel), List.mem_of_getElem? (i := 904) (by decide +kernel), List.mem_of_getElem? (i := 905) (by decide +kernel)⟩
theorem lw_p47 : lw_okq (⟨"NotionRoundsModel", "isParent", "(II)Z"⟩, 32) := ⟨⟨by decide +kernel, by decide +kernel⟩, List.mem_of_getElem? (i := 637) (by decide +kernel), List.mem_of_getElem? (i := 912) (by decide +kernel), List.mem_of_getElem? (i := 913) (by decide +kernel)⟩
def lw_privs_3 : List (MethodName × Nat) := [(⟨"NotionRoundsModel", "leastTo", "(I)I"⟩, 32), (⟨"NotionRoundsModel", "fact", "(II)I"⟩, 32), (⟨"NotionRoundsModel", "findIs", "(IIIIII)V"⟩, 32), (⟨"NotionRoundsModel", "ofMeets", "()V"⟩, 32), (⟨"NotionRoundsModel", "ofAxioms", "()V"⟩, 32), (⟨"NotionRoundsModel", "ofRoles", "()V"⟩, 32), (⟨"NotionRoundsModel", "findTo", "(IIIIIII)V"⟩, 32), (⟨"NotionRoundsModel", "ofChains", "()V"⟩, 32), (⟨"NotionRoundsModel", "lay", "(IIIIIIII)V"⟩, 32), (⟨"NotionRoundsModel", "makeHouse", "()V"⟩, 32), (⟨"NotionRoundsModel", "isBegun", "(I)Z"⟩, 32), (⟨"NotionRoundsModel", "isPlain", "(I)Z"⟩, 32), (⟨"NotionRoundsModel", "isUnder", "(II)Z"⟩, 32), (⟨"NotionRoundsModel", "leastLike", "(I)I"⟩, 32), (⟨"NotionRoundsModel", "areLike", "(II)Z"⟩, 32), (⟨"NotionRoundsModel", "isParent", "(II)Z"⟩, 32)]
theorem lw_r3 : ∀ q ∈ lw_privs_3, lw_okq q := List.forall_mem_cons.mpr ⟨lw_p32, List.forall_mem_cons.mpr ⟨lw_p33, List.forall_mem_cons.mpr ⟨lw_p34, List.forall_mem_cons.mpr ⟨lw_p35, List.forall_mem_cons.mpr ⟨lw_p36, List.forall_mem_cons.mpr ⟨lw_p37, List.forall_mem_cons.mpr ⟨lw_p38, List.forall_mem_cons.mpr ⟨lw_p39, List.forall_mem_cons.mpr ⟨lw_p40, List.forall_mem_cons.mpr ⟨lw_p41, List.forall_mem_cons.mpr ⟨lw_p42, List.forall_mem_cons.mpr ⟨lw_p43, List.forall_mem_cons.mpr ⟨lw_p44, List.forall_mem_cons.mpr ⟨lw_p45, List.forall_mem_cons.mpr ⟨lw_p46, List.forall_mem_cons.mpr ⟨lw_p47, fun _ h => absurd h List.not_mem_nil⟩⟩⟩⟩⟩⟩⟩⟩⟩⟩⟩⟩⟩⟩⟩⟩
theorem lw_p48 : lw_okq (⟨"NotionRoundsModel", "isSo", "(I)Z"⟩, 32) := ⟨⟨by decide +kernel, by decide +kernel⟩, List.mem_of_getElem? (i := 637) (by decide +kernel), List.mem_of_getElem? (i := 936) (by decide +kernel), List.mem_of_getElem? (i := 937) (by decide +kernel)⟩
def lw_privs_4 : List (MethodName × Nat) := [(⟨"NotionRoundsModel", "isSo", "(I)Z"⟩, 32)]
theorem lw_r4 : ∀ q ∈ lw_privs_4, lw_okq q := List.forall_mem_cons.mpr ⟨lw_p48, fun _ h => absurd h List.not_mem_nil⟩
def lw_privs : List (MethodName × Nat) := lw_privs_1 ++ (lw_privs_2 ++ (lw_privs_3 ++ (lw_privs_4)))
def lw_tbl : List Cond := k2_sels lw_privs ++ tables_1
theorem lw_privs_ok : ∀ q ∈ lw_privs, lw_okq q := by
  show ∀ q ∈ lw_privs_1 ++ (lw_privs_2 ++ (lw_privs_3 ++ (lw_privs_4))), lw_okq q
  exact List.forall_mem_append.mpr ⟨lw_r1, List.forall_mem_append.mpr ⟨lw_r2, List.forall_mem_append.mpr ⟨lw_r3, lw_r4⟩⟩⟩
-- ===== end of PART A; then your names; then what follows =====
end
section
def RX0 : String := "NotionRounds$Axioms"
def TX0 : u_T := fun k => match k with
  | 0 => ("NotionRounds$Axioms", "parts", "[I", true)
  | _ => ("NotionRounds$Axioms", "size", "I", false)
def tyX0 : Nat → FieldType := fun k => match k with
  | 0 => .array .int
  | _ => .int
abbrev wsX00 : List Cond := u_ws RX0 TX0 2
theorem nmX0 : ∀ a, a < 2 → ∀ b, b < 2 → a ≠ b → (TX0 a).2.1 ≠ (TX0 b).2.1 := by decide +kernel
theorem tyX0_ok : ∀ k, k < 2 → parseFieldDescriptor (TX0 k).2.2.1 = some (tyX0 k) := by decide +kernel
abbrev cX0_init : ByteArray := prog_2_method_1_code
def yX0_init : MethodName := ⟨RX0, "<init>", "()V"⟩
abbrev cX0_add : ByteArray := prog_2_method_2_code
def yX0_add : MethodName := ⟨RX0, "add", "(IIII)I"⟩
abbrev cX0_takeBack : ByteArray := prog_2_method_3_code
def yX0_takeBack : MethodName := ⟨RX0, "takeBack", "(I)V"⟩
abbrev cX0_knows : ByteArray := prog_2_method_4_code
def yX0_knows : MethodName := ⟨RX0, "knows", "(I)Z"⟩
abbrev cX0_part : ByteArray := prog_2_method_5_code
def yX0_part : MethodName := ⟨RX0, "part", "(II)I"⟩
abbrev cX0_holding : ByteArray := prog_2_method_6_code
def yX0_holding : MethodName := ⟨RX0, "holding", "(I)Z"⟩
abbrev cX0_holdingOf : ByteArray := prog_2_method_7_code
def yX0_holdingOf : MethodName := ⟨RX0, "holdingOf", "(II)Z"⟩
abbrev cX0_holdingCount : ByteArray := prog_2_method_8_code
def yX0_holdingCount : MethodName := ⟨RX0, "holdingCount", "()I"⟩
def RX1 : String := "NotionRounds$Conclusions"
def TX1 : u_T := fun k => match k with
  | 0 => ("NotionRounds$Conclusions", "numbers", "[I", true)
  | 1 => ("NotionRounds$Conclusions", "places", "[I", true)
  | 2 => ("NotionRounds$Conclusions", "roundsOf", "[I", true)
  | 3 => ("NotionRounds$Conclusions", "whys", "[J", true)
  | 4 => ("NotionRounds$Conclusions", "marks", "[I", true)
  | 5 => ("NotionRounds$Conclusions", "size", "I", false)
  | _ => ("NotionRounds$Conclusions", "lastRound", "I", false)
def tyX1 : Nat → FieldType := fun k => match k with
  | 0 => .array .int
  | 1 => .array .int
  | 2 => .array .int
  | 3 => .array .long
  | 4 => .array .int
  | 5 => .int
  | _ => .int
abbrev wsX10 : List Cond := u_ws RX1 TX1 7
theorem nmX1 : ∀ a, a < 7 → ∀ b, b < 7 → a ≠ b → (TX1 a).2.1 ≠ (TX1 b).2.1 := by decide +kernel
theorem tyX1_ok : ∀ k, k < 7 → parseFieldDescriptor (TX1 k).2.2.1 = some (tyX1 k) := by decide +kernel
abbrev cX1_init : ByteArray := prog_3_method_1_code
def yX1_init : MethodName := ⟨RX1, "<init>", "()V"⟩
abbrev cX1_clear : ByteArray := prog_3_method_2_code
def yX1_clear : MethodName := ⟨RX1, "clear", "()V"⟩
abbrev cX1_add : ByteArray := prog_3_method_3_code
def yX1_add : MethodName := ⟨RX1, "add", "(IIJ)V"⟩
abbrev cX1_knows : ByteArray := prog_3_method_4_code
def yX1_knows : MethodName := ⟨RX1, "knows", "(I)Z"⟩
abbrev cX1_placeOf : ByteArray := prog_3_method_5_code
def yX1_placeOf : MethodName := ⟨RX1, "placeOf", "(I)I"⟩
abbrev cX1_numberOfIs : ByteArray := prog_3_method_6_code
def yX1_numberOfIs : MethodName := ⟨RX1, "numberOfIs", "(II)I"⟩
abbrev cX1_numberOfTo : ByteArray := prog_3_method_7_code
def yX1_numberOfTo : MethodName := ⟨RX1, "numberOfTo", "(III)I"⟩
abbrev cX1_saysAt : ByteArray := prog_3_method_8_code
def yX1_saysAt : MethodName := ⟨RX1, "saysAt", "(I)Z"⟩
abbrev cX1_saysIs : ByteArray := prog_3_method_9_code
def yX1_saysIs : MethodName := ⟨RX1, "saysIs", "(II)Z"⟩
abbrev cX1_saysTo : ByteArray := prog_3_method_10_code
def yX1_saysTo : MethodName := ⟨RX1, "saysTo", "(III)Z"⟩
abbrev cX1_firstPremise : ByteArray := prog_3_method_11_code
def yX1_firstPremise : MethodName := ⟨RX1, "firstPremise", "(I)I"⟩
abbrev cX1_secondPremise : ByteArray := prog_3_method_12_code
def yX1_secondPremise : MethodName := ⟨RX1, "secondPremise", "(I)I"⟩
abbrev cX1_part : ByteArray := prog_3_method_13_code
def yX1_part : MethodName := ⟨RX1, "part", "(II)I"⟩
abbrev cX1_proofSize : ByteArray := prog_3_method_14_code
def yX1_proofSize : MethodName := ⟨RX1, "proofSize", "(I)I"⟩
def RX2 : String := "NotionRounds$House"
def TX2 : u_T := fun k => match k with
  | 0 => ("NotionRounds$House", "membersOf", "[I", true)
  | _ => ("NotionRounds$House", "partnersOf", "[I", true)
def tyX2 : Nat → FieldType := fun k => match k with
  | 0 => .array .int
  | _ => .array .int
abbrev wsX20 : List Cond := u_ws RX2 TX2 2
theorem nmX2 : ∀ a, a < 2 → ∀ b, b < 2 → a ≠ b → (TX2 a).2.1 ≠ (TX2 b).2.1 := by decide +kernel
theorem tyX2_ok : ∀ k, k < 2 → parseFieldDescriptor (TX2 k).2.2.1 = some (tyX2 k) := by decide +kernel
abbrev cX2_init : ByteArray := prog_4_method_1_code
def yX2_init : MethodName := ⟨RX2, "<init>", "()V"⟩
abbrev cX2_build : ByteArray := prog_4_method_2_code
def yX2_build : MethodName := ⟨RX2, "build", "(LNotionRounds$Notions;LNotionRounds$Roles;LNotionRounds$Conclusions;)V"⟩
abbrev cX2_members : ByteArray := prog_4_method_3_code
def yX2_members : MethodName := ⟨RX2, "members", "(I)I"⟩
abbrev cX2_partners : ByteArray := prog_4_method_4_code
def yX2_partners : MethodName := ⟨RX2, "partners", "(II)I"⟩
abbrev cX2_roleWithin : ByteArray := prog_4_method_5_code
def yX2_roleWithin : MethodName := ⟨RX2, "roleWithin", "(II)Z"⟩
abbrev cX2_chainWithin : ByteArray := prog_4_method_6_code
def yX2_chainWithin : MethodName := ⟨RX2, "chainWithin", "(III)Z"⟩
abbrev cX2_buildPair : ByteArray := prog_4_method_7_code
def yX2_buildPair : MethodName := ⟨RX2, "buildPair", "(LNotionRounds$Roles;LNotionRounds$Conclusions;II)V"⟩
abbrev cX2_membersByMeaning : ByteArray := prog_4_method_8_code
def yX2_membersByMeaning : MethodName := ⟨RX2, "membersByMeaning", "(LNotionRounds$Notions;LNotionRounds$Conclusions;II)I"⟩
abbrev cX2_subjects : ByteArray := prog_4_method_9_code
def yX2_subjects : MethodName := ⟨RX2, "subjects", "(LNotionRounds$Notions;LNotionRounds$Conclusions;I)I"⟩
abbrev cX2_havers : ByteArray := prog_4_method_10_code
def yX2_havers : MethodName := ⟨RX2, "havers", "(II)I"⟩
def RX3 : String := "NotionRounds$Notions"
def TX3 : u_T := fun k => match k with
  | 0 => ("NotionRounds$Notions", "parts", "[I", true)
  | 1 => ("NotionRounds$Notions", "size", "I", false)
  | _ => ("NotionRounds$Notions", "classes", "I", false)
def tyX3 : Nat → FieldType := fun k => match k with
  | 0 => .array .int
  | 1 => .int
  | _ => .int
abbrev wsX30 : List Cond := u_ws RX3 TX3 3
theorem nmX3 : ∀ a, a < 3 → ∀ b, b < 3 → a ≠ b → (TX3 a).2.1 ≠ (TX3 b).2.1 := by decide +kernel
theorem tyX3_ok : ∀ k, k < 3 → parseFieldDescriptor (TX3 k).2.2.1 = some (tyX3 k) := by decide +kernel
abbrev cX3_init : ByteArray := prog_5_method_1_code
def yX3_init : MethodName := ⟨RX3, "<init>", "()V"⟩
abbrev cX3_add : ByteArray := prog_5_method_2_code
def yX3_add : MethodName := ⟨RX3, "add", "(III)I"⟩
abbrev cX3_knows : ByteArray := prog_5_method_3_code
def yX3_knows : MethodName := ⟨RX3, "knows", "(I)Z"⟩
abbrev cX3_named : ByteArray := prog_5_method_4_code
def yX3_named : MethodName := ⟨RX3, "named", "(I)Z"⟩
abbrev cX3_seed : ByteArray := prog_5_method_5_code
def yX3_seed : MethodName := ⟨RX3, "seed", "(I)Z"⟩
abbrev cX3_part : ByteArray := prog_5_method_6_code
def yX3_part : MethodName := ⟨RX3, "part", "(II)I"⟩
abbrev cX3_sort : ByteArray := prog_5_method_7_code
def yX3_sort : MethodName := ⟨RX3, "sort", "(I)I"⟩
abbrev cX3_first : ByteArray := prog_5_method_8_code
def yX3_first : MethodName := ⟨RX3, "first", "(I)I"⟩
abbrev cX3_second : ByteArray := prog_5_method_9_code
def yX3_second : MethodName := ⟨RX3, "second", "(I)I"⟩
abbrev cX3_find : ByteArray := prog_5_method_10_code
def yX3_find : MethodName := ⟨RX3, "find", "(III)I"⟩
def RX4 : String := "NotionRounds$Roles"
def TX4 : u_T := fun k => match k with
  | 0 => ("NotionRounds$Roles", "above", "[I", true)
  | _ => ("NotionRounds$Roles", "chains", "[I", true)
def tyX4 : Nat → FieldType := fun k => match k with
  | 0 => .array .int
  | _ => .array .int
abbrev wsX40 : List Cond := u_ws RX4 TX4 2
theorem nmX4 : ∀ a, a < 2 → ∀ b, b < 2 → a ≠ b → (TX4 a).2.1 ≠ (TX4 b).2.1 := by decide +kernel
theorem tyX4_ok : ∀ k, k < 2 → parseFieldDescriptor (TX4 k).2.2.1 = some (tyX4 k) := by decide +kernel
abbrev cX4_init : ByteArray := prog_6_method_1_code
def yX4_init : MethodName := ⟨RX4, "<init>", "()V"⟩
abbrev cX4_learn : ByteArray := prog_6_method_2_code
def yX4_learn : MethodName := ⟨RX4, "learn", "(LNotionRounds$Axioms;)V"⟩
abbrev cX4_goesUnder : ByteArray := prog_6_method_3_code
def yX4_goesUnder : MethodName := ⟨RX4, "goesUnder", "(II)Z"⟩
abbrev cX4_axiomOfChain : ByteArray := prog_6_method_4_code
def yX4_axiomOfChain : MethodName := ⟨RX4, "axiomOfChain", "(III)I"⟩
abbrev cX4_joinThrough : ByteArray := prog_6_method_5_code
def yX4_joinThrough : MethodName := ⟨RX4, "joinThrough", "(I)V"⟩
abbrev cX4_learnChain : ByteArray := prog_6_method_6_code
def yX4_learnChain : MethodName := ⟨RX4, "learnChain", "(IIII)V"⟩
abbrev cX4_placeOfChain : ByteArray := prog_6_method_7_code
def yX4_placeOfChain : MethodName := ⟨RX4, "placeOfChain", "(III)I"⟩
def RX5 : String := "NotionRounds$Rules"
def TX5 : u_T := fun k => match k with
  | 0 => ("NotionRounds$Rules", "notions", "LNotionRounds$Notions;", true)
  | 1 => ("NotionRounds$Rules", "axioms", "LNotionRounds$Axioms;", true)
  | 2 => ("NotionRounds$Rules", "roles", "LNotionRounds$Roles;", true)
  | 3 => ("NotionRounds$Rules", "conclusions", "LNotionRounds$Conclusions;", true)
  | _ => ("NotionRounds$Rules", "offers", "[J", true)
def tyX5 : Nat → FieldType := fun k => match k with
  | 0 => .object "NotionRounds$Notions"
  | 1 => .object "NotionRounds$Axioms"
  | 2 => .object "NotionRounds$Roles"
  | 3 => .object "NotionRounds$Conclusions"
  | _ => .array .long
abbrev wsX50 : List Cond := u_ws RX5 TX5 5
theorem nmX5 : ∀ a, a < 5 → ∀ b, b < 5 → a ≠ b → (TX5 a).2.1 ≠ (TX5 b).2.1 := by decide +kernel
theorem tyX5_ok : ∀ k, k < 5 → parseFieldDescriptor (TX5 k).2.2.1 = some (tyX5 k) := by decide +kernel
abbrev cX5_init : ByteArray := prog_7_method_1_code
def yX5_init : MethodName := ⟨RX5, "<init>", "(LNotionRounds$Notions;LNotionRounds$Axioms;LNotionRounds$Roles;LNotionRounds$Conclusions;)V"⟩
abbrev cX5_concludeAll : ByteArray := prog_7_method_2_code
def yX5_concludeAll : MethodName := ⟨RX5, "concludeAll", "()V"⟩
abbrev cX5_clearOffers : ByteArray := prog_7_method_3_code
def yX5_clearOffers : MethodName := ⟨RX5, "clearOffers", "()V"⟩
abbrev cX5_addOffered : ByteArray := prog_7_method_4_code
def yX5_addOffered : MethodName := ⟨RX5, "addOffered", "(I)Z"⟩
abbrev cX5_offer : ByteArray := prog_7_method_5_code
def yX5_offer : MethodName := ⟨RX5, "offer", "(IJ)V"⟩
abbrev cX5_offerSeeds : ByteArray := prog_7_method_6_code
def yX5_offerSeeds : MethodName := ⟨RX5, "offerSeeds", "()V"⟩
abbrev cX5_offerFrom : ByteArray := prog_7_method_7_code
def yX5_offerFrom : MethodName := ⟨RX5, "offerFrom", "(I)V"⟩
abbrev cX5_offerBegun : ByteArray := prog_7_method_8_code
def yX5_offerBegun : MethodName := ⟨RX5, "offerBegun", "(II)V"⟩
abbrev cX5_offerByParts : ByteArray := prog_7_method_9_code
def yX5_offerByParts : MethodName := ⟨RX5, "offerByParts", "(III)V"⟩
abbrev cX5_offerMeets : ByteArray := prog_7_method_10_code
def yX5_offerMeets : MethodName := ⟨RX5, "offerMeets", "(III)V"⟩
abbrev cX5_offerByAxioms : ByteArray := prog_7_method_11_code
def yX5_offerByAxioms : MethodName := ⟨RX5, "offerByAxioms", "(III)V"⟩
abbrev cX5_offerBack : ByteArray := prog_7_method_12_code
def yX5_offerBack : MethodName := ⟨RX5, "offerBack", "(IIII)V"⟩
abbrev cX5_offerChains : ByteArray := prog_7_method_13_code
def yX5_offerChains : MethodName := ⟨RX5, "offerChains", "(IIII)V"⟩
def RX6 : String := "NotionRounds"
def TX6 : u_T := fun k => match k with
  | 0 => ("NotionRounds", "notions", "LNotionRounds$Notions;", true)
  | 1 => ("NotionRounds", "axioms", "LNotionRounds$Axioms;", true)
  | 2 => ("NotionRounds", "roles", "LNotionRounds$Roles;", true)
  | 3 => ("NotionRounds", "conclusions", "LNotionRounds$Conclusions;", true)
  | 4 => ("NotionRounds", "rules", "LNotionRounds$Rules;", true)
  | 5 => ("NotionRounds", "house", "LNotionRounds$House;", true)
  | 6 => ("NotionRounds", "concludes", "I", false)
  | _ => ("NotionRounds", "current", "Z", false)
def tyX6 : Nat → FieldType := fun k => match k with
  | 0 => .object "NotionRounds$Notions"
  | 1 => .object "NotionRounds$Axioms"
  | 2 => .object "NotionRounds$Roles"
  | 3 => .object "NotionRounds$Conclusions"
  | 4 => .object "NotionRounds$Rules"
  | 5 => .object "NotionRounds$House"
  | 6 => .int
  | _ => .boolean
abbrev wsX60 : List Cond := u_ws RX6 TX6 8
theorem nmX6 : ∀ a, a < 8 → ∀ b, b < 8 → a ≠ b → (TX6 a).2.1 ≠ (TX6 b).2.1 := by decide +kernel
theorem tyX6_ok : ∀ k, k < 8 → parseFieldDescriptor (TX6 k).2.2.1 = some (tyX6 k) := by decide +kernel
abbrev cX6_init : ByteArray := prog_1_method_1_code
def yX6_init : MethodName := ⟨RX6, "<init>", "()V"⟩
abbrev cX6_make : ByteArray := prog_1_method_2_code
def yX6_make : MethodName := ⟨RX6, "make", "()I"⟩
abbrev cX6_meet : ByteArray := prog_1_method_3_code
def yX6_meet : MethodName := ⟨RX6, "meet", "(II)I"⟩
abbrev cX6_has : ByteArray := prog_1_method_4_code
def yX6_has : MethodName := ⟨RX6, "has", "(II)I"⟩
abbrev cX6_say : ByteArray := prog_1_method_5_code
def yX6_say : MethodName := ⟨RX6, "say", "(II)I"⟩
abbrev cX6_role : ByteArray := prog_1_method_6_code
def yX6_role : MethodName := ⟨RX6, "role", "(II)I"⟩
abbrev cX6_chain : ByteArray := prog_1_method_7_code
def yX6_chain : MethodName := ⟨RX6, "chain", "(III)I"⟩
abbrev cX6_unsay : ByteArray := prog_1_method_8_code
def yX6_unsay : MethodName := ⟨RX6, "unsay", "(I)I"⟩
abbrev cX6_notion : ByteArray := prog_1_method_9_code
def yX6_notion : MethodName := ⟨RX6, "notion", "(II)I"⟩
abbrev cX6_axiom : ByteArray := prog_1_method_10_code
def yX6_axiom : MethodName := ⟨RX6, "axiom", "(II)I"⟩
abbrev cX6_conclude : ByteArray := prog_1_method_11_code
def yX6_conclude : MethodName := ⟨RX6, "conclude", "()I"⟩
abbrev cX6_rounds : ByteArray := prog_1_method_12_code
def yX6_rounds : MethodName := ⟨RX6, "rounds", "()I"⟩
abbrev cX6_conclusion : ByteArray := prog_1_method_13_code
def yX6_conclusion : MethodName := ⟨RX6, "conclusion", "(II)I"⟩
abbrev cX6_is : ByteArray := prog_1_method_14_code
def yX6_is : MethodName := ⟨RX6, "is", "(II)I"⟩
abbrev cX6_to : ByteArray := prog_1_method_15_code
def yX6_to : MethodName := ⟨RX6, "to", "(III)I"⟩
abbrev cX6_proof : ByteArray := prog_1_method_16_code
def yX6_proof : MethodName := ⟨RX6, "proof", "(I)I"⟩
abbrev cX6_under : ByteArray := prog_1_method_17_code
def yX6_under : MethodName := ⟨RX6, "under", "(II)I"⟩
abbrev cX6_like : ByteArray := prog_1_method_18_code
def yX6_like : MethodName := ⟨RX6, "like", "(I)I"⟩
abbrev cX6_parent : ByteArray := prog_1_method_19_code
def yX6_parent : MethodName := ⟨RX6, "parent", "(II)I"⟩
abbrev cX6_broken : ByteArray := prog_1_method_20_code
def yX6_broken : MethodName := ⟨RX6, "broken", "()I"⟩
abbrev cX6_things : ByteArray := prog_1_method_21_code
def yX6_things : MethodName := ⟨RX6, "things", "()I"⟩
abbrev cX6_isOf : ByteArray := prog_1_method_22_code
def yX6_isOf : MethodName := ⟨RX6, "isOf", "(II)I"⟩
abbrev cX6_pair : ByteArray := prog_1_method_23_code
def yX6_pair : MethodName := ⟨RX6, "pair", "(III)I"⟩
abbrev cX6_holds : ByteArray := prog_1_method_24_code
def yX6_holds : MethodName := ⟨RX6, "holds", "(I)I"⟩
abbrev cX6_count : ByteArray := prog_1_method_25_code
def yX6_count : MethodName := ⟨RX6, "count", "(I)I"⟩
abbrev cX6_digest : ByteArray := prog_1_method_26_code
def yX6_digest : MethodName := ⟨RX6, "digest", "()J"⟩
abbrev cX6_findOrAddNotion : ByteArray := prog_1_method_27_code
def yX6_findOrAddNotion : MethodName := ⟨RX6, "findOrAddNotion", "(III)I"⟩
abbrev cX6_addNotion : ByteArray := prog_1_method_28_code
def yX6_addNotion : MethodName := ⟨RX6, "addNotion", "(III)I"⟩
abbrev cX6_addAxiom : ByteArray := prog_1_method_29_code
def yX6_addAxiom : MethodName := ⟨RX6, "addAxiom", "(IIII)I"⟩
abbrev cX6_isUnder : ByteArray := prog_1_method_30_code
def yX6_isUnder : MethodName := ⟨RX6, "isUnder", "(II)Z"⟩
abbrev cX6_areLike : ByteArray := prog_1_method_31_code
def yX6_areLike : MethodName := ⟨RX6, "areLike", "(II)Z"⟩
abbrev cX6_leastLike : ByteArray := prog_1_method_32_code
def yX6_leastLike : MethodName := ⟨RX6, "leastLike", "(I)I"⟩
abbrev cX6_isParent : ByteArray := prog_1_method_33_code
def yX6_isParent : MethodName := ⟨RX6, "isParent", "(II)Z"⟩
abbrev cX6_isSo : ByteArray := prog_1_method_34_code
def yX6_isSo : MethodName := ⟨RX6, "isSo", "(I)Z"⟩
abbrev cX6_within : ByteArray := prog_1_method_35_code
def yX6_within : MethodName := ⟨RX6, "within", "(II)Z"⟩
abbrev cX6_isRole : ByteArray := prog_1_method_36_code
def yX6_isRole : MethodName := ⟨RX6, "isRole", "(I)Z"⟩
abbrev cX6_oneIf : ByteArray := prog_1_method_37_code
def yX6_oneIf : MethodName := ⟨RX6, "oneIf", "(Z)I"⟩
abbrev cX6_bit : ByteArray := prog_1_method_38_code
def yX6_bit : MethodName := ⟨RX6, "bit", "(I)I"⟩
abbrev cX6_hasBit : ByteArray := prog_1_method_39_code
def yX6_hasBit : MethodName := ⟨RX6, "hasBit", "(II)Z"⟩
abbrev cX6_at : ByteArray := prog_1_method_40_code
def yX6_at : MethodName := ⟨RX6, "at", "([II)I"⟩
abbrev cX6_put : ByteArray := prog_1_method_41_code
def yX6_put : MethodName := ⟨RX6, "put", "([III)V"⟩
abbrev cX6_longAt : ByteArray := prog_1_method_42_code
def yX6_longAt : MethodName := ⟨RX6, "longAt", "([JI)J"⟩
abbrev cX6_putLong : ByteArray := prog_1_method_43_code
def yX6_putLong : MethodName := ⟨RX6, "putLong", "([JIJ)V"⟩
abbrev cX6_fill : ByteArray := prog_1_method_44_code
def yX6_fill : MethodName := ⟨RX6, "fill", "([II)V"⟩
abbrev cX6_placeOfIs : ByteArray := prog_1_method_45_code
def yX6_placeOfIs : MethodName := ⟨RX6, "placeOfIs", "(II)I"⟩
abbrev cX6_placeOfTo : ByteArray := prog_1_method_46_code
def yX6_placeOfTo : MethodName := ⟨RX6, "placeOfTo", "(III)I"⟩
abbrev cX6_subjectAt : ByteArray := prog_1_method_47_code
def yX6_subjectAt : MethodName := ⟨RX6, "subjectAt", "(I)I"⟩
abbrev cX6_objectAt : ByteArray := prog_1_method_48_code
def yX6_objectAt : MethodName := ⟨RX6, "objectAt", "(I)I"⟩
abbrev cX6_roleAt : ByteArray := prog_1_method_49_code
def yX6_roleAt : MethodName := ⟨RX6, "roleAt", "(I)I"⟩
abbrev cX6_whyOf : ByteArray := prog_1_method_50_code
def yX6_whyOf : MethodName := ⟨RX6, "whyOf", "(IIII)J"⟩
abbrev cX6_whyOfTwo : ByteArray := prog_1_method_51_code
def yX6_whyOfTwo : MethodName := ⟨RX6, "whyOfTwo", "(III)J"⟩
abbrev cX6_partOfWhy : ByteArray := prog_1_method_52_code
def yX6_partOfWhy : MethodName := ⟨RX6, "partOfWhy", "(JII)I"⟩
def RX7 : String := "NotionRoundsModel"
def TX7 : u_T := fun k => match k with
  | 0 => ("NotionRoundsModel", "notions", "I", false)
  | 1 => ("NotionRoundsModel", "classes", "I", false)
  | 2 => ("NotionRoundsModel", "sort", "[I", true)
  | 3 => ("NotionRoundsModel", "one", "[I", true)
  | 4 => ("NotionRoundsModel", "two", "[I", true)
  | 5 => ("NotionRoundsModel", "axioms", "I", false)
  | 6 => ("NotionRoundsModel", "axiomSort", "[I", true)
  | 7 => ("NotionRoundsModel", "axiomA", "[I", true)
  | 8 => ("NotionRoundsModel", "axiomB", "[I", true)
  | 9 => ("NotionRoundsModel", "axiomC", "[I", true)
  | 10 => ("NotionRoundsModel", "holds", "[Z", true)
  | 11 => ("NotionRoundsModel", "done", "Z", false)
  | 12 => ("NotionRoundsModel", "doneMany", "I", false)
  | 13 => ("NotionRoundsModel", "many", "I", false)
  | 14 => ("NotionRoundsModel", "rounds", "I", false)
  | 15 => ("NotionRoundsModel", "facts", "[I", true)
  | 16 => ("NotionRoundsModel", "isAt", "[I", true)
  | 17 => ("NotionRoundsModel", "toAt", "[I", true)
  | 18 => ("NotionRoundsModel", "isRule", "[I", true)
  | 19 => ("NotionRoundsModel", "isFirst", "[I", true)
  | 20 => ("NotionRoundsModel", "isSecond", "[I", true)
  | 21 => ("NotionRoundsModel", "isAxiom", "[I", true)
  | 22 => ("NotionRoundsModel", "toRule", "[I", true)
  | 23 => ("NotionRoundsModel", "toFirst", "[I", true)
  | 24 => ("NotionRoundsModel", "toSecond", "[I", true)
  | 25 => ("NotionRoundsModel", "toAxiom", "[I", true)
  | 26 => ("NotionRoundsModel", "under", "[Z", true)
  | 27 => ("NotionRoundsModel", "next", "I", false)
  | 28 => ("NotionRoundsModel", "used", "[Z", true)
  | 29 => ("NotionRoundsModel", "isThing", "[Z", true)
  | 30 => ("NotionRoundsModel", "paired", "[Z", true)
  | _ => ("NotionRoundsModel", "isOf", "[Z", true)
def tyX7 : Nat → FieldType := fun k => match k with
  | 0 => .int
  | 1 => .int
  | 2 => .array .int
  | 3 => .array .int
  | 4 => .array .int
  | 5 => .int
  | 6 => .array .int
  | 7 => .array .int
  | 8 => .array .int
  | 9 => .array .int
  | 10 => .array .boolean
  | 11 => .boolean
  | 12 => .int
  | 13 => .int
  | 14 => .int
  | 15 => .array .int
  | 16 => .array .int
  | 17 => .array .int
  | 18 => .array .int
  | 19 => .array .int
  | 20 => .array .int
  | 21 => .array .int
  | 22 => .array .int
  | 23 => .array .int
  | 24 => .array .int
  | 25 => .array .int
  | 26 => .array .boolean
  | 27 => .int
  | 28 => .array .boolean
  | 29 => .array .boolean
  | 30 => .array .boolean
  | _ => .array .boolean
abbrev wsX70 : List Cond := u_ws RX7 TX7 32
theorem nmX7 : ∀ a, a < 32 → ∀ b, b < 32 → a ≠ b → (TX7 a).2.1 ≠ (TX7 b).2.1 := by decide +kernel
theorem tyX7_ok : ∀ k, k < 32 → parseFieldDescriptor (TX7 k).2.2.1 = some (tyX7 k) := by decide +kernel
abbrev cX7_init : ByteArray := prog_9_method_1_code
def yX7_init : MethodName := ⟨RX7, "<init>", "()V"⟩
abbrev cX7_in : ByteArray := prog_9_method_2_code
def yX7_in : MethodName := ⟨RX7, "in", "(III)Z"⟩
abbrev cX7_isNotion : ByteArray := prog_9_method_3_code
def yX7_isNotion : MethodName := ⟨RX7, "isNotion", "(I)Z"⟩
abbrev cX7_isRole : ByteArray := prog_9_method_4_code
def yX7_isRole : MethodName := ⟨RX7, "isRole", "(I)Z"⟩
abbrev cX7_found : ByteArray := prog_9_method_5_code
def yX7_found : MethodName := ⟨RX7, "found", "(III)I"⟩
abbrev cX7_made : ByteArray := prog_9_method_6_code
def yX7_made : MethodName := ⟨RX7, "made", "(III)I"⟩
abbrev cX7_make : ByteArray := prog_9_method_7_code
def yX7_make : MethodName := ⟨RX7, "make", "()I"⟩
abbrev cX7_meet : ByteArray := prog_9_method_8_code
def yX7_meet : MethodName := ⟨RX7, "meet", "(II)I"⟩
abbrev cX7_has : ByteArray := prog_9_method_9_code
def yX7_has : MethodName := ⟨RX7, "has", "(II)I"⟩
abbrev cX7_said : ByteArray := prog_9_method_10_code
def yX7_said : MethodName := ⟨RX7, "said", "(IIII)I"⟩
abbrev cX7_say : ByteArray := prog_9_method_11_code
def yX7_say : MethodName := ⟨RX7, "say", "(II)I"⟩
abbrev cX7_role : ByteArray := prog_9_method_12_code
def yX7_role : MethodName := ⟨RX7, "role", "(II)I"⟩
abbrev cX7_chain : ByteArray := prog_9_method_13_code
def yX7_chain : MethodName := ⟨RX7, "chain", "(III)I"⟩
abbrev cX7_unsay : ByteArray := prog_9_method_14_code
def yX7_unsay : MethodName := ⟨RX7, "unsay", "(I)I"⟩
abbrev cX7_notion : ByteArray := prog_9_method_15_code
def yX7_notion : MethodName := ⟨RX7, "notion", "(II)I"⟩
abbrev cX7_axiom : ByteArray := prog_9_method_16_code
def yX7_axiom : MethodName := ⟨RX7, "axiom", "(II)I"⟩
abbrev cX7_closeRoles : ByteArray := prog_9_method_17_code
def yX7_closeRoles : MethodName := ⟨RX7, "closeRoles", "()V"⟩
abbrev cX7_fact : ByteArray := prog_9_method_18_code
def yX7_fact : MethodName := ⟨RX7, "fact", "(II)I"⟩
abbrev cX7_findIs : ByteArray := prog_9_method_19_code
def yX7_findIs : MethodName := ⟨RX7, "findIs", "(IIIIII)V"⟩
abbrev cX7_findTo : ByteArray := prog_9_method_20_code
def yX7_findTo : MethodName := ⟨RX7, "findTo", "(IIIIIII)V"⟩
abbrev cX7_leastTo : ByteArray := prog_9_method_21_code
def yX7_leastTo : MethodName := ⟨RX7, "leastTo", "(I)I"⟩
abbrev cX7_isSeed : ByteArray := prog_9_method_22_code
def yX7_isSeed : MethodName := ⟨RX7, "isSeed", "(I)Z"⟩
abbrev cX7_isBegun : ByteArray := prog_9_method_23_code
def yX7_isBegun : MethodName := ⟨RX7, "isBegun", "(I)Z"⟩
abbrev cX7_ofBegun : ByteArray := prog_9_method_24_code
def yX7_ofBegun : MethodName := ⟨RX7, "ofBegun", "()V"⟩
abbrev cX7_ofMeets : ByteArray := prog_9_method_25_code
def yX7_ofMeets : MethodName := ⟨RX7, "ofMeets", "()V"⟩
abbrev cX7_ofAxioms : ByteArray := prog_9_method_26_code
def yX7_ofAxioms : MethodName := ⟨RX7, "ofAxioms", "()V"⟩
abbrev cX7_ofRoles : ByteArray := prog_9_method_27_code
def yX7_ofRoles : MethodName := ⟨RX7, "ofRoles", "()V"⟩
abbrev cX7_ofChains : ByteArray := prog_9_method_28_code
def yX7_ofChains : MethodName := ⟨RX7, "ofChains", "()V"⟩
abbrev cX7_lay : ByteArray := prog_9_method_29_code
def yX7_lay : MethodName := ⟨RX7, "lay", "(IIIIIIII)V"⟩
abbrev cX7_round : ByteArray := prog_9_method_30_code
def yX7_round : MethodName := ⟨RX7, "round", "()Z"⟩
abbrev cX7_conclude : ByteArray := prog_9_method_31_code
def yX7_conclude : MethodName := ⟨RX7, "conclude", "()I"⟩
abbrev cX7_rounds : ByteArray := prog_9_method_32_code
def yX7_rounds : MethodName := ⟨RX7, "rounds", "()I"⟩
abbrev cX7_conclusion : ByteArray := prog_9_method_33_code
def yX7_conclusion : MethodName := ⟨RX7, "conclusion", "(II)I"⟩
abbrev cX7_is : ByteArray := prog_9_method_34_code
def yX7_is : MethodName := ⟨RX7, "is", "(II)I"⟩
abbrev cX7_to : ByteArray := prog_9_method_35_code
def yX7_to : MethodName := ⟨RX7, "to", "(III)I"⟩
abbrev cX7_proof : ByteArray := prog_9_method_36_code
def yX7_proof : MethodName := ⟨RX7, "proof", "(I)I"⟩
abbrev cX7_isPlain : ByteArray := prog_9_method_37_code
def yX7_isPlain : MethodName := ⟨RX7, "isPlain", "(I)Z"⟩
abbrev cX7_isUnder : ByteArray := prog_9_method_38_code
def yX7_isUnder : MethodName := ⟨RX7, "isUnder", "(II)Z"⟩
abbrev cX7_areLike : ByteArray := prog_9_method_39_code
def yX7_areLike : MethodName := ⟨RX7, "areLike", "(II)Z"⟩
abbrev cX7_under : ByteArray := prog_9_method_40_code
def yX7_under : MethodName := ⟨RX7, "under", "(II)I"⟩
abbrev cX7_leastLike : ByteArray := prog_9_method_41_code
def yX7_leastLike : MethodName := ⟨RX7, "leastLike", "(I)I"⟩
abbrev cX7_like : ByteArray := prog_9_method_42_code
def yX7_like : MethodName := ⟨RX7, "like", "(I)I"⟩
abbrev cX7_isParent : ByteArray := prog_9_method_43_code
def yX7_isParent : MethodName := ⟨RX7, "isParent", "(II)Z"⟩
abbrev cX7_parent : ByteArray := prog_9_method_44_code
def yX7_parent : MethodName := ⟨RX7, "parent", "(II)I"⟩
abbrev cX7_broken : ByteArray := prog_9_method_45_code
def yX7_broken : MethodName := ⟨RX7, "broken", "()I"⟩
abbrev cX7_makeHouse : ByteArray := prog_9_method_46_code
def yX7_makeHouse : MethodName := ⟨RX7, "makeHouse", "()V"⟩
abbrev cX7_things : ByteArray := prog_9_method_47_code
def yX7_things : MethodName := ⟨RX7, "things", "()I"⟩
abbrev cX7_isOf : ByteArray := prog_9_method_48_code
def yX7_isOf : MethodName := ⟨RX7, "isOf", "(II)I"⟩
abbrev cX7_pair : ByteArray := prog_9_method_49_code
def yX7_pair : MethodName := ⟨RX7, "pair", "(III)I"⟩
abbrev cX7_isSo : ByteArray := prog_9_method_50_code
def yX7_isSo : MethodName := ⟨RX7, "isSo", "(I)Z"⟩
abbrev cX7_holds : ByteArray := prog_9_method_51_code
def yX7_holds : MethodName := ⟨RX7, "holds", "(I)I"⟩
abbrev cX7_count : ByteArray := prog_9_method_52_code
def yX7_count : MethodName := ⟨RX7, "count", "(I)I"⟩
abbrev cX7_digest : ByteArray := prog_9_method_53_code
def yX7_digest : MethodName := ⟨RX7, "digest", "()J"⟩
def RJ6 : String := "java/lang/Integer"
def TJ6 : u_T := fun k => match k with
  | _ => ("", "", "", false)
def tyJ6 : Nat → FieldType := fun k => match k with
  | _ => .int
abbrev wsJ60 : List Cond := u_ws RJ6 TJ6 0
theorem nmJ6 : ∀ a, a < 0 → ∀ b, b < 0 → a ≠ b → (TJ6 a).2.1 ≠ (TJ6 b).2.1 := by decide +kernel
theorem tyJ6_ok : ∀ k, k < 0 → parseFieldDescriptor (TJ6 k).2.2.1 = some (tyJ6 k) := by decide +kernel
abbrev cJ6_bitCount_0f7a4 : ByteArray := prog_10_method_49_code
def yJ6_bitCount_0f7a4 : MethodName := ⟨RJ6, "bitCount", "(I)I"⟩
def RJ9 : String := "java/lang/Math"
def TJ9 : u_T := fun k => match k with
  | _ => ("", "", "", false)
def tyJ9 : Nat → FieldType := fun k => match k with
  | _ => .int
abbrev wsJ90 : List Cond := u_ws RJ9 TJ9 0
theorem nmJ9 : ∀ a, a < 0 → ∀ b, b < 0 → a ≠ b → (TJ9 a).2.1 ≠ (TJ9 b).2.1 := by decide +kernel
theorem tyJ9_ok : ∀ k, k < 0 → parseFieldDescriptor (TJ9 k).2.2.1 = some (tyJ9 k) := by decide +kernel
abbrev cJ9_max_7cf53 : ByteArray := prog_11_method_65_code
def yJ9_max_7cf53 : MethodName := ⟨RJ9, "max", "(II)I"⟩
abbrev cJ9_min_7cf53 : ByteArray := prog_11_method_69_code
def yJ9_min_7cf53 : MethodName := ⟨RJ9, "min", "(II)I"⟩
def RL : String := "NotionRoundsLaw"
abbrev cL_law : ByteArray := code
def yL_law : MethodName := ⟨RL, "law", "([I)Z"⟩
def wsL_law_r1 : List Cond := [Cond.classLink RL 7 RX6, Cond.instantiable RX6 8, Cond.initialized RX6, Cond.classLink RL 10 RX7, Cond.instantiable RX7 32, Cond.initialized RX7, Cond.methodLink RL 9 yX6_init, Cond.instanceMethod yX6_init, Cond.code yX6_init cX6_init 1 none, Cond.methodLink RX6 3 objectInit, Cond.instanceMethod objectInit, Cond.code objectInit ⟨#[0xb1]⟩ 1 none, Cond.classLink RX6 9 RX3, Cond.instantiable RX3 3, Cond.initialized RX3, Cond.fieldLink RX6 12 "NotionRounds" "notions" "LNotionRounds$Notions;", Cond.classLink RX6 16 RX0, Cond.instantiable RX0 2, Cond.initialized RX0, Cond.fieldLink RX6 19 "NotionRounds" "axioms" "LNotionRounds$Axioms;", Cond.classLink RX6 23 RX4, Cond.instantiable RX4 2, Cond.initialized RX4, Cond.fieldLink RX6 26 "NotionRounds" "roles" "LNotionRounds$Roles;"]
def wsL_law_r2 : List Cond := [Cond.classLink RX6 30 RX1, Cond.instantiable RX1 7, Cond.initialized RX1, Cond.fieldLink RX6 33 "NotionRounds" "conclusions" "LNotionRounds$Conclusions;", Cond.classLink RX6 37 RX5, Cond.instantiable RX5 5, Cond.initialized RX5, Cond.fieldLink RX6 42 "NotionRounds" "rules" "LNotionRounds$Rules;", Cond.classLink RX6 46 RX2, Cond.instantiable RX2 2, Cond.initialized RX2, Cond.fieldLink RX6 49 "NotionRounds" "house" "LNotionRounds$House;", Cond.fieldLink RX6 53 "NotionRounds" "concludes" "I", Cond.fieldLink RX6 57 "NotionRounds" "current" "Z", Cond.methodLink RX6 11 yX3_init, Cond.instanceMethod yX3_init, Cond.code yX3_init cX3_init 1 none, Cond.methodLink RX3 3 objectInit, Cond.arrayClass .int, Cond.fieldLink RX3 9 "NotionRounds$Notions" "parts" "[I", Cond.methodLink RX3 15 yX3_add, Cond.instanceMethod yX3_add, Cond.selects RX3 yX3_add yX3_add, Cond.code yX3_add cX3_add 5 (some .int)]
def wsL_law_r3 : List Cond := [Cond.fieldLink RX3 19 "NotionRounds$Notions" "size" "I", Cond.fieldLink RX3 27 "NotionRounds$Notions" "classes" "I", Cond.static yX6_put, Cond.code yX6_put cX6_put 3 none, Cond.instanceMethod yX0_init, Cond.code yX0_init cX0_init 1 none, Cond.methodLink RX0 3 objectInit, Cond.fieldLink RX0 9 "NotionRounds$Axioms" "parts" "[I", Cond.instanceMethod yX4_init, Cond.code yX4_init cX4_init 1 none, Cond.methodLink RX4 3 objectInit, Cond.fieldLink RX4 9 "NotionRounds$Roles" "above" "[I", Cond.fieldLink RX4 15 "NotionRounds$Roles" "chains" "[I", Cond.instanceMethod yX1_init, Cond.code yX1_init cX1_init 1 none, Cond.methodLink RX1 3 objectInit, Cond.fieldLink RX1 9 "NotionRounds$Conclusions" "numbers" "[I", Cond.fieldLink RX1 15 "NotionRounds$Conclusions" "places" "[I", Cond.fieldLink RX1 18 "NotionRounds$Conclusions" "roundsOf" "[I", Cond.arrayClass .long, Cond.fieldLink RX1 21 "NotionRounds$Conclusions" "whys" "[J", Cond.fieldLink RX1 25 "NotionRounds$Conclusions" "marks" "[I", Cond.methodLink RX6 39 yX5_init, Cond.instanceMethod yX5_init]
def wsL_law_r4 : List Cond := [Cond.code yX5_init cX5_init 5 none, Cond.methodLink RX5 3 objectInit, Cond.fieldLink RX5 9 "NotionRounds$Rules" "offers" "[J", Cond.fieldLink RX5 15 "NotionRounds$Rules" "notions" "LNotionRounds$Notions;", Cond.fieldLink RX5 19 "NotionRounds$Rules" "axioms" "LNotionRounds$Axioms;", Cond.fieldLink RX5 23 "NotionRounds$Rules" "roles" "LNotionRounds$Roles;", Cond.fieldLink RX5 27 "NotionRounds$Rules" "conclusions" "LNotionRounds$Conclusions;", Cond.instanceMethod yX2_init, Cond.code yX2_init cX2_init 1 none, Cond.methodLink RX2 3 objectInit, Cond.fieldLink RX2 9 "NotionRounds$House" "membersOf" "[I", Cond.fieldLink RX2 15 "NotionRounds$House" "partnersOf" "[I", Cond.methodLink RL 12 yX7_init, Cond.instanceMethod yX7_init, Cond.code yX7_init cX7_init 1 none, Cond.methodLink RX7 1 objectInit, Cond.fieldLink RX7 7 "NotionRoundsModel" "sort" "[I", Cond.fieldLink RX7 13 "NotionRoundsModel" "one" "[I", Cond.fieldLink RX7 16 "NotionRoundsModel" "two" "[I", Cond.fieldLink RX7 19 "NotionRoundsModel" "axiomSort" "[I", Cond.fieldLink RX7 22 "NotionRoundsModel" "axiomA" "[I", Cond.fieldLink RX7 25 "NotionRoundsModel" "axiomB" "[I", Cond.fieldLink RX7 28 "NotionRoundsModel" "axiomC" "[I", Cond.arrayClass .boolean]
def wsL_law_r5 : List Cond := [Cond.fieldLink RX7 31 "NotionRoundsModel" "holds" "[Z", Cond.constant RX7 35 (36000), Cond.fieldLink RX7 36 "NotionRoundsModel" "facts" "[I", Cond.fieldLink RX7 39 "NotionRoundsModel" "isAt" "[I", Cond.fieldLink RX7 42 "NotionRoundsModel" "toAt" "[I", Cond.fieldLink RX7 45 "NotionRoundsModel" "isRule" "[I", Cond.fieldLink RX7 48 "NotionRoundsModel" "isFirst" "[I", Cond.fieldLink RX7 51 "NotionRoundsModel" "isSecond" "[I", Cond.fieldLink RX7 54 "NotionRoundsModel" "isAxiom" "[I", Cond.fieldLink RX7 57 "NotionRoundsModel" "toRule" "[I", Cond.fieldLink RX7 60 "NotionRoundsModel" "toFirst" "[I", Cond.fieldLink RX7 63 "NotionRoundsModel" "toSecond" "[I", Cond.fieldLink RX7 66 "NotionRoundsModel" "toAxiom" "[I", Cond.fieldLink RX7 69 "NotionRoundsModel" "under" "[Z", Cond.fieldLink RX7 72 "NotionRoundsModel" "used" "[Z", Cond.fieldLink RX7 75 "NotionRoundsModel" "isThing" "[Z", Cond.fieldLink RX7 78 "NotionRoundsModel" "paired" "[Z", Cond.fieldLink RX7 81 "NotionRoundsModel" "isOf" "[Z", Cond.fieldLink RX7 84 "NotionRoundsModel" "notions" "I", Cond.methodLink RL 13 yX6_make, Cond.instanceMethod yX6_make, Cond.selects RX6 yX6_make yX6_make, Cond.code yX6_make cX6_make 1 (some .int), Cond.methodLink RX6 64 yX6_addNotion]
def wsL_law_r6 : List Cond := [Cond.instanceMethod yX6_addNotion, Cond.selects RX6 yX6_addNotion yX6_addNotion, Cond.code yX6_addNotion cX6_addNotion 4 (some .int), Cond.methodLink RX6 181 yX3_add, Cond.methodLink RL 17 yX7_make, Cond.instanceMethod yX7_make, Cond.selects RX7 yX7_make yX7_make, Cond.code yX7_make cX7_make 1 (some .int), Cond.fieldLink RX7 96 "NotionRoundsModel" "classes" "I", Cond.methodLink RX7 99 yX7_made, Cond.instanceMethod yX7_made, Cond.selects RX7 yX7_made yX7_made, Cond.code yX7_made cX7_made 4 (some .int), Cond.fieldLink RX7 92 "NotionRoundsModel" "done" "Z", Cond.methodLink RL 18 yX6_meet, Cond.instanceMethod yX6_meet, Cond.selects RX6 yX6_meet yX6_meet, Cond.code yX6_meet cX6_meet 3 (some .int), Cond.methodLink RX6 72 Lib.Math.min.name, Cond.static Lib.Math.min.name, Cond.initialized "java/lang/Math", Cond.code Lib.Math.min.name Lib.Math.min.code 2 (some .int), Cond.methodLink RX6 78 Lib.Math.max.name, Cond.static Lib.Math.max.name]
def wsL_law_r7 : List Cond := [Cond.code Lib.Math.max.name Lib.Math.max.code 2 (some .int), Cond.methodLink RX6 68 yX3_knows, Cond.instanceMethod yX3_knows, Cond.selects RX3 yX3_knows yX3_knows, Cond.code yX3_knows cX3_knows 2 (some .boolean), Cond.static yX6_within, Cond.code yX6_within cX6_within 2 (some .boolean), Cond.methodLink RX6 81 yX6_findOrAddNotion, Cond.instanceMethod yX6_findOrAddNotion, Cond.selects RX6 yX6_findOrAddNotion yX6_findOrAddNotion, Cond.code yX6_findOrAddNotion cX6_findOrAddNotion 5 (some .int), Cond.methodLink RX6 178 yX3_find, Cond.instanceMethod yX3_find, Cond.selects RX3 yX3_find yX3_find, Cond.code yX3_find cX3_find 5 (some .int), Cond.methodLink RX3 38 yX3_sort, Cond.instanceMethod yX3_sort, Cond.selects RX3 yX3_sort yX3_sort, Cond.code yX3_sort cX3_sort 2 (some .int), Cond.methodLink RX3 46 yX3_part, Cond.instanceMethod yX3_part, Cond.selects RX3 yX3_part yX3_part, Cond.code yX3_part cX3_part 3 (some .int), Cond.static yX6_at]
def wsL_law_r8 : List Cond := [Cond.code yX6_at cX6_at 2 (some .int), Cond.methodLink RX3 50 yX3_first, Cond.instanceMethod yX3_first, Cond.selects RX3 yX3_first yX3_first, Cond.code yX3_first cX3_first 2 (some .int), Cond.methodLink RX3 53 yX3_second, Cond.instanceMethod yX3_second, Cond.selects RX3 yX3_second yX3_second, Cond.code yX3_second cX3_second 2 (some .int), Cond.methodLink RL 22 yX7_meet, Cond.instanceMethod yX7_meet, Cond.selects RX7 yX7_meet yX7_meet, Cond.code yX7_meet cX7_meet 6 (some .int), Cond.methodLink RX7 103 yX7_isNotion, Cond.instanceMethod yX7_isNotion, Cond.selects RX7 yX7_isNotion yX7_isNotion, Cond.code yX7_isNotion cX7_isNotion 2 (some .boolean), Cond.methodLink RX7 88 yX7_in, Cond.static yX7_in, Cond.code yX7_in cX7_in 3 (some .boolean), Cond.methodLink RX7 107 yX7_found, Cond.instanceMethod yX7_found, Cond.selects RX7 yX7_found yX7_found, Cond.code yX7_found cX7_found 5 (some .int)]
def wsL_law_r9 : List Cond := [Cond.methodLink RL 23 yX6_has, Cond.instanceMethod yX6_has, Cond.selects RX6 yX6_has yX6_has, Cond.code yX6_has cX6_has 3 (some .int), Cond.methodLink RX6 84 yX6_isRole, Cond.static yX6_isRole, Cond.code yX6_isRole cX6_isRole 1 (some .boolean), Cond.methodLink RX6 98 yX6_within, Cond.methodLink RL 26 yX7_has, Cond.instanceMethod yX7_has, Cond.selects RX7 yX7_has yX7_has, Cond.code yX7_has cX7_has 4 (some .int), Cond.methodLink RX7 110 yX7_isRole, Cond.static yX7_isRole, Cond.code yX7_isRole cX7_isRole 1 (some .boolean), Cond.methodLink RL 27 yX6_say, Cond.instanceMethod yX6_say, Cond.selects RX6 yX6_say yX6_say, Cond.code yX6_say cX6_say 3 (some .int), Cond.methodLink RX6 87 yX6_addAxiom, Cond.instanceMethod yX6_addAxiom, Cond.selects RX6 yX6_addAxiom yX6_addAxiom, Cond.code yX6_addAxiom cX6_addAxiom 5 (some .int), Cond.methodLink RX6 184 yX0_add]
def wsL_law_r10 : List Cond := [Cond.instanceMethod yX0_add, Cond.selects RX0 yX0_add yX0_add, Cond.code yX0_add cX0_add 6 (some .int), Cond.fieldLink RX0 15 "NotionRounds$Axioms" "size" "I", Cond.methodLink RL 30 yX7_say, Cond.instanceMethod yX7_say, Cond.selects RX7 yX7_say yX7_say, Cond.code yX7_say cX7_say 3 (some .int), Cond.methodLink RX7 116 yX7_said, Cond.instanceMethod yX7_said, Cond.selects RX7 yX7_said yX7_said, Cond.code yX7_said cX7_said 5 (some .int), Cond.fieldLink RX7 113 "NotionRoundsModel" "axioms" "I", Cond.methodLink RL 31 yX6_role, Cond.instanceMethod yX6_role, Cond.selects RX6 yX6_role yX6_role, Cond.code yX6_role cX6_role 3 (some .int), Cond.methodLink RL 34 yX7_role, Cond.instanceMethod yX7_role, Cond.selects RX7 yX7_role yX7_role, Cond.code yX7_role cX7_role 3 (some .int), Cond.methodLink RL 35 yX6_chain, Cond.instanceMethod yX6_chain, Cond.selects RX6 yX6_chain yX6_chain]
def wsL_law_r11 : List Cond := [Cond.code yX6_chain cX6_chain 4 (some .int), Cond.methodLink RL 39 yX7_chain, Cond.instanceMethod yX7_chain, Cond.selects RX7 yX7_chain yX7_chain, Cond.code yX7_chain cX7_chain 4 (some .int), Cond.methodLink RL 40 yX6_unsay, Cond.instanceMethod yX6_unsay, Cond.selects RX6 yX6_unsay yX6_unsay, Cond.code yX6_unsay cX6_unsay 2 (some .int), Cond.methodLink RX6 91 yX0_holding, Cond.instanceMethod yX0_holding, Cond.selects RX0 yX0_holding yX0_holding, Cond.code yX0_holding cX0_holding 2 (some .boolean), Cond.methodLink RX0 31 yX0_knows, Cond.instanceMethod yX0_knows, Cond.selects RX0 yX0_knows yX0_knows, Cond.code yX0_knows cX0_knows 2 (some .boolean), Cond.methodLink RX0 35 yX0_part, Cond.instanceMethod yX0_part, Cond.selects RX0 yX0_part yX0_part, Cond.code yX0_part cX0_part 3 (some .int), Cond.methodLink RX6 94 yX0_takeBack, Cond.instanceMethod yX0_takeBack, Cond.selects RX0 yX0_takeBack yX0_takeBack]
def wsL_law_r12 : List Cond := [Cond.code yX0_takeBack cX0_takeBack 2 none, Cond.methodLink RL 44 yX7_unsay, Cond.instanceMethod yX7_unsay, Cond.selects RX7 yX7_unsay yX7_unsay, Cond.code yX7_unsay cX7_unsay 2 (some .int), Cond.methodLink RL 45 yX6_notion, Cond.instanceMethod yX6_notion, Cond.selects RX6 yX6_notion yX6_notion, Cond.code yX6_notion cX6_notion 3 (some .int), Cond.methodLink RX6 102 yX3_part, Cond.methodLink RL 48 yX7_notion, Cond.instanceMethod yX7_notion, Cond.selects RX7 yX7_notion yX7_notion, Cond.code yX7_notion cX7_notion 3 (some .int), Cond.methodLink RL 49 yX6_axiom, Cond.instanceMethod yX6_axiom, Cond.selects RX6 yX6_axiom yX6_axiom, Cond.code yX6_axiom cX6_axiom 3 (some .int), Cond.methodLink RX6 105 yX0_knows, Cond.methodLink RX6 106 yX0_part, Cond.methodLink RL 52 yX7_axiom, Cond.instanceMethod yX7_axiom, Cond.selects RX7 yX7_axiom yX7_axiom, Cond.code yX7_axiom cX7_axiom 3 (some .int)]
def wsL_law_r13 : List Cond := [Cond.methodLink RL 53 yX6_conclude, Cond.instanceMethod yX6_conclude, Cond.selects RX6 yX6_conclude yX6_conclude, Cond.code yX6_conclude cX6_conclude 1 (some .int), Cond.methodLink RX6 107 yX5_concludeAll, Cond.instanceMethod yX5_concludeAll, Cond.selects RX5 yX5_concludeAll yX5_concludeAll, Cond.code yX5_concludeAll cX5_concludeAll 4 none, Cond.methodLink RX5 31 yX1_clear, Cond.instanceMethod yX1_clear, Cond.selects RX1 yX1_clear yX1_clear, Cond.code yX1_clear cX1_clear 1 none, Cond.fieldLink RX1 32 "NotionRounds$Conclusions" "size" "I", Cond.fieldLink RX1 36 "NotionRounds$Conclusions" "lastRound" "I", Cond.static yX6_fill, Cond.code yX6_fill cX6_fill 3 none, Cond.methodLink RX5 36 yX4_learn, Cond.instanceMethod yX4_learn, Cond.selects RX4 yX4_learn yX4_learn, Cond.code yX4_learn cX4_learn 3 none, Cond.methodLink RX4 32 yX0_holdingOf, Cond.instanceMethod yX0_holdingOf, Cond.selects RX0 yX0_holdingOf yX0_holdingOf, Cond.code yX0_holdingOf cX0_holdingOf 3 (some .boolean)]
def wsL_law_r14 : List Cond := [Cond.methodLink RX4 36 yX0_part, Cond.methodLink RX4 40 yX4_joinThrough, Cond.instanceMethod yX4_joinThrough, Cond.selects RX4 yX4_joinThrough yX4_joinThrough, Cond.code yX4_joinThrough cX4_joinThrough 4 none, Cond.methodLink RX4 56 yX4_goesUnder, Cond.instanceMethod yX4_goesUnder, Cond.selects RX4 yX4_goesUnder yX4_goesUnder, Cond.code yX4_goesUnder cX4_goesUnder 3 (some .boolean), Cond.methodLink RX4 44 yX4_learnChain, Cond.instanceMethod yX4_learnChain, Cond.selects RX4 yX4_learnChain yX4_learnChain, Cond.code yX4_learnChain cX4_learnChain 7 none, Cond.methodLink RX4 59 yX4_axiomOfChain, Cond.instanceMethod yX4_axiomOfChain, Cond.selects RX4 yX4_axiomOfChain yX4_axiomOfChain, Cond.code yX4_axiomOfChain cX4_axiomOfChain 4 (some .int), Cond.methodLink RX4 52 yX4_placeOfChain, Cond.static yX4_placeOfChain, Cond.code yX4_placeOfChain cX4_placeOfChain 3 (some .int), Cond.methodLink RX5 42 yX5_clearOffers, Cond.instanceMethod yX5_clearOffers, Cond.selects RX5 yX5_clearOffers yX5_clearOffers, Cond.code yX5_clearOffers cX5_clearOffers 2 none]
def wsL_law_r15 : List Cond := [Cond.constantLong RX5 60 (4611686018427387904), Cond.methodLink RX5 45 yX5_offerSeeds, Cond.instanceMethod yX5_offerSeeds, Cond.selects RX5 yX5_offerSeeds yX5_offerSeeds, Cond.code yX5_offerSeeds cX5_offerSeeds 2 none, Cond.methodLink RX5 80 yX3_seed, Cond.instanceMethod yX3_seed, Cond.selects RX3 yX3_seed yX3_seed, Cond.code yX3_seed cX3_seed 2 (some .boolean), Cond.methodLink RX5 83 yX5_offerBegun, Cond.instanceMethod yX5_offerBegun, Cond.selects RX5 yX5_offerBegun yX5_offerBegun, Cond.code yX5_offerBegun cX5_offerBegun 3 none, Cond.static yX6_placeOfIs, Cond.code yX6_placeOfIs cX6_placeOfIs 2 (some .int), Cond.static yX6_whyOf, Cond.code yX6_whyOf cX6_whyOf 4 (some .long), Cond.methodLink RX5 125 yX5_offer, Cond.instanceMethod yX5_offer, Cond.selects RX5 yX5_offer yX5_offer, Cond.code yX5_offer cX5_offer 4 none, Cond.static yX6_longAt, Cond.code yX6_longAt cX6_longAt 2 (some .long), Cond.constantLong RX6 199 (4611686018427387904)]
def wsL_law_r16 : List Cond := [Cond.methodLink RX5 70 yX1_saysAt, Cond.instanceMethod yX1_saysAt, Cond.selects RX1 yX1_saysAt yX1_saysAt, Cond.code yX1_saysAt cX1_saysAt 2 (some .boolean), Cond.static yX6_putLong, Cond.code yX6_putLong cX6_putLong 4 none, Cond.methodLink RX5 52 yX5_offerFrom, Cond.instanceMethod yX5_offerFrom, Cond.selects RX5 yX5_offerFrom yX5_offerFrom, Cond.code yX5_offerFrom cX5_offerFrom 5 none, Cond.methodLink RX5 87 yX1_placeOf, Cond.instanceMethod yX1_placeOf, Cond.selects RX1 yX1_placeOf yX1_placeOf, Cond.code yX1_placeOf cX1_placeOf 2 (some .int), Cond.static yX6_subjectAt, Cond.code yX6_subjectAt cX6_subjectAt 1 (some .int), Cond.static yX6_roleAt, Cond.code yX6_roleAt cX6_roleAt 1 (some .int), Cond.static yX6_objectAt, Cond.code yX6_objectAt cX6_objectAt 1 (some .int), Cond.methodLink RX5 100 yX5_offerByParts, Cond.instanceMethod yX5_offerByParts, Cond.selects RX5 yX5_offerByParts yX5_offerByParts, Cond.code yX5_offerByParts cX5_offerByParts 6 none]
def wsL_law_r17 : List Cond := [Cond.methodLink RX5 129 yX3_first, Cond.methodLink RX5 132 yX3_second, Cond.methodLink RX5 135 yX3_sort, Cond.static yX6_placeOfTo, Cond.code yX6_placeOfTo cX6_placeOfTo 3 (some .int), Cond.methodLink RX5 104 yX5_offerMeets, Cond.instanceMethod yX5_offerMeets, Cond.selects RX5 yX5_offerMeets yX5_offerMeets, Cond.code yX5_offerMeets cX5_offerMeets 6 none, Cond.methodLink RX5 142 yX1_numberOfIs, Cond.instanceMethod yX1_numberOfIs, Cond.selects RX1 yX1_numberOfIs yX1_numberOfIs, Cond.code yX1_numberOfIs cX1_numberOfIs 3 (some .int), Cond.static yX6_whyOfTwo, Cond.code yX6_whyOfTwo cX6_whyOfTwo 3 (some .long), Cond.methodLink RX6 201 yX6_whyOf, Cond.methodLink RX5 107 yX5_offerByAxioms, Cond.instanceMethod yX5_offerByAxioms, Cond.selects RX5 yX5_offerByAxioms yX5_offerByAxioms, Cond.code yX5_offerByAxioms cX5_offerByAxioms 5 none, Cond.methodLink RX5 152 yX0_holdingOf, Cond.methodLink RX5 156 yX0_part, Cond.methodLink RX5 110 yX5_offerBack, Cond.instanceMethod yX5_offerBack]
def wsL_law_r18 : List Cond := [Cond.selects RX5 yX5_offerBack yX5_offerBack, Cond.code yX5_offerBack cX5_offerBack 7 none, Cond.methodLink RX5 159 yX4_goesUnder, Cond.methodLink RX5 114 yX5_offerChains, Cond.instanceMethod yX5_offerChains, Cond.selects RX5 yX5_offerChains yX5_offerChains, Cond.code yX5_offerChains cX5_offerChains 10 none, Cond.methodLink RX5 162 yX4_axiomOfChain, Cond.methodLink RX5 165 yX1_numberOfTo, Cond.instanceMethod yX1_numberOfTo, Cond.selects RX1 yX1_numberOfTo yX1_numberOfTo, Cond.code yX1_numberOfTo cX1_numberOfTo 4 (some .int), Cond.methodLink RX5 56 yX5_addOffered, Cond.instanceMethod yX5_addOffered, Cond.selects RX5 yX5_addOffered yX5_addOffered, Cond.code yX5_addOffered cX5_addOffered 4 (some .boolean), Cond.methodLink RX5 62 yX1_add, Cond.instanceMethod yX1_add, Cond.selects RX1 yX1_add yX1_add, Cond.code yX1_add cX1_add 5 none, Cond.methodLink RX6 110 yX2_build, Cond.instanceMethod yX2_build, Cond.selects RX2 yX2_build yX2_build, Cond.code yX2_build cX2_build 7 none]
def wsL_law_r19 : List Cond := [Cond.methodLink RX2 24 yX1_saysIs, Cond.instanceMethod yX1_saysIs, Cond.selects RX1 yX1_saysIs yX1_saysIs, Cond.code yX1_saysIs cX1_saysIs 3 (some .boolean), Cond.static yX6_bit, Cond.code yX6_bit cX6_bit 1 (some .int), Cond.static yX6_hasBit, Cond.code yX6_hasBit cX6_hasBit 2 (some .boolean), Cond.methodLink RX6 196 yX6_bit, Cond.methodLink RX2 41 yX2_buildPair, Cond.instanceMethod yX2_buildPair, Cond.selects RX2 yX2_buildPair yX2_buildPair, Cond.code yX2_buildPair cX2_buildPair 7 none, Cond.methodLink RX2 68 yX1_saysTo, Cond.instanceMethod yX1_saysTo, Cond.selects RX1 yX1_saysTo yX1_saysTo, Cond.code yX1_saysTo cX1_saysTo 4 (some .boolean), Cond.methodLink RX2 72 yX4_goesUnder, Cond.methodLink RX2 64 yX2_partners, Cond.instanceMethod yX2_partners, Cond.selects RX2 yX2_partners yX2_partners, Cond.code yX2_partners cX2_partners 3 (some .int), Cond.methodLink RX2 45 yX2_membersByMeaning, Cond.instanceMethod yX2_membersByMeaning]
def wsL_law_r20 : List Cond := [Cond.selects RX2 yX2_membersByMeaning yX2_membersByMeaning, Cond.code yX2_membersByMeaning cX2_membersByMeaning 7 (some .int), Cond.methodLink RX2 77 yX3_first, Cond.methodLink RX2 80 yX3_second, Cond.methodLink RX2 83 yX3_sort, Cond.methodLink RX2 86 yX2_subjects, Cond.static yX2_subjects, Cond.code yX2_subjects cX2_subjects 5 (some .int), Cond.methodLink RX2 90 yX2_members, Cond.instanceMethod yX2_members, Cond.selects RX2 yX2_members yX2_members, Cond.code yX2_members cX2_members 2 (some .int), Cond.methodLink RX2 93 yX2_havers, Cond.instanceMethod yX2_havers, Cond.selects RX2 yX2_havers yX2_havers, Cond.code yX2_havers cX2_havers 5 (some .int), Cond.methodLink RL 56 yX7_conclude, Cond.instanceMethod yX7_conclude, Cond.selects RX7 yX7_conclude yX7_conclude, Cond.code yX7_conclude cX7_conclude 2 (some .int), Cond.fieldLink RX7 167 "NotionRoundsModel" "doneMany" "I", Cond.fieldLink RX7 120 "NotionRoundsModel" "many" "I", Cond.fieldLink RX7 145 "NotionRoundsModel" "rounds" "I", Cond.methodLink RX7 170 yX7_closeRoles]
def wsL_law_r21 : List Cond := [Cond.instanceMethod yX7_closeRoles, Cond.selects RX7 yX7_closeRoles yX7_closeRoles, Cond.code yX7_closeRoles cX7_closeRoles 4 none, Cond.methodLink RX7 173 yX7_round, Cond.instanceMethod yX7_round, Cond.selects RX7 yX7_round yX7_round, Cond.code yX7_round cX7_round 5 (some .boolean), Cond.fieldLink RX7 142 "NotionRoundsModel" "next" "I", Cond.methodLink RX7 148 yX7_ofBegun, Cond.instanceMethod yX7_ofBegun, Cond.selects RX7 yX7_ofBegun yX7_ofBegun, Cond.code yX7_ofBegun cX7_ofBegun 3 none, Cond.methodLink RX7 127 yX7_isSeed, Cond.instanceMethod yX7_isSeed, Cond.selects RX7 yX7_isSeed yX7_isSeed, Cond.code yX7_isSeed cX7_isSeed 2 (some .boolean), Cond.methodLink RX7 130 yX7_leastTo, Cond.instanceMethod yX7_leastTo, Cond.selects RX7 yX7_leastTo yX7_leastTo, Cond.code yX7_leastTo cX7_leastTo 3 (some .int), Cond.methodLink RX7 123 yX7_fact, Cond.instanceMethod yX7_fact, Cond.selects RX7 yX7_fact yX7_fact, Cond.code yX7_fact cX7_fact 3 (some .int)]
def wsL_law_r22 : List Cond := [Cond.methodLink RX7 134 yX7_findIs, Cond.instanceMethod yX7_findIs, Cond.selects RX7 yX7_findIs yX7_findIs, Cond.code yX7_findIs cX7_findIs 8 none, Cond.methodLink RX7 151 yX7_ofMeets, Cond.instanceMethod yX7_ofMeets, Cond.selects RX7 yX7_ofMeets yX7_ofMeets, Cond.code yX7_ofMeets cX7_ofMeets 3 none, Cond.methodLink RX7 154 yX7_ofAxioms, Cond.instanceMethod yX7_ofAxioms, Cond.selects RX7 yX7_ofAxioms yX7_ofAxioms, Cond.code yX7_ofAxioms cX7_ofAxioms 3 none, Cond.methodLink RX7 157 yX7_ofRoles, Cond.instanceMethod yX7_ofRoles, Cond.selects RX7 yX7_ofRoles yX7_ofRoles, Cond.code yX7_ofRoles cX7_ofRoles 4 none, Cond.methodLink RX7 138 yX7_findTo, Cond.instanceMethod yX7_findTo, Cond.selects RX7 yX7_findTo yX7_findTo, Cond.code yX7_findTo cX7_findTo 9 none, Cond.methodLink RX7 160 yX7_ofChains, Cond.instanceMethod yX7_ofChains, Cond.selects RX7 yX7_ofChains yX7_ofChains, Cond.code yX7_ofChains cX7_ofChains 4 none]
def wsL_law_r23 : List Cond := [Cond.methodLink RX7 163 yX7_lay, Cond.instanceMethod yX7_lay, Cond.selects RX7 yX7_lay yX7_lay, Cond.code yX7_lay cX7_lay 10 none, Cond.methodLink RX7 177 yX7_makeHouse, Cond.instanceMethod yX7_makeHouse, Cond.selects RX7 yX7_makeHouse yX7_makeHouse, Cond.code yX7_makeHouse cX7_makeHouse 6 none, Cond.methodLink RX7 196 yX7_isBegun, Cond.instanceMethod yX7_isBegun, Cond.selects RX7 yX7_isBegun yX7_isBegun, Cond.code yX7_isBegun cX7_isBegun 2 (some .boolean), Cond.methodLink RL 57 yX6_rounds, Cond.instanceMethod yX6_rounds, Cond.selects RX6 yX6_rounds yX6_rounds, Cond.code yX6_rounds cX6_rounds 1 (some .int), Cond.methodLink RL 60 yX7_rounds, Cond.instanceMethod yX7_rounds, Cond.selects RX7 yX7_rounds yX7_rounds, Cond.code yX7_rounds cX7_rounds 1 (some .int), Cond.methodLink RL 61 yX6_conclusion, Cond.instanceMethod yX6_conclusion, Cond.selects RX6 yX6_conclusion yX6_conclusion, Cond.code yX6_conclusion cX6_conclusion 3 (some .int)]
def wsL_law_r24 : List Cond := [Cond.methodLink RX6 120 yX1_knows, Cond.instanceMethod yX1_knows, Cond.selects RX1 yX1_knows yX1_knows, Cond.code yX1_knows cX1_knows 2 (some .boolean), Cond.methodLink RX6 121 yX1_part, Cond.instanceMethod yX1_part, Cond.selects RX1 yX1_part yX1_part, Cond.code yX1_part cX1_part 3 (some .int), Cond.methodLink RX1 71 yX1_placeOf, Cond.static yX6_oneIf, Cond.code yX6_oneIf cX6_oneIf 1 (some .int), Cond.methodLink RX1 88 yX1_firstPremise, Cond.instanceMethod yX1_firstPremise, Cond.selects RX1 yX1_firstPremise yX1_firstPremise, Cond.code yX1_firstPremise cX1_firstPremise 2 (some .int), Cond.static yX6_partOfWhy, Cond.code yX6_partOfWhy cX6_partOfWhy 4 (some .int), Cond.methodLink RX1 91 yX1_secondPremise, Cond.instanceMethod yX1_secondPremise, Cond.selects RX1 yX1_secondPremise yX1_secondPremise, Cond.code yX1_secondPremise cX1_secondPremise 2 (some .int), Cond.methodLink RL 64 yX7_conclusion, Cond.instanceMethod yX7_conclusion, Cond.selects RX7 yX7_conclusion yX7_conclusion]
def wsL_law_r25 : List Cond := [Cond.code yX7_conclusion cX7_conclusion 3 (some .int), Cond.methodLink RL 65 yX6_is, Cond.instanceMethod yX6_is, Cond.selects RX6 yX6_is yX6_is, Cond.code yX6_is cX6_is 3 (some .int), Cond.methodLink RX6 122 yX1_numberOfIs, Cond.methodLink RL 68 yX7_is, Cond.instanceMethod yX7_is, Cond.selects RX7 yX7_is yX7_is, Cond.code yX7_is cX7_is 3 (some .int), Cond.methodLink RL 69 yX6_to, Cond.instanceMethod yX6_to, Cond.selects RX6 yX6_to yX6_to, Cond.code yX6_to cX6_to 4 (some .int), Cond.methodLink RX6 125 yX1_numberOfTo, Cond.methodLink RL 72 yX7_to, Cond.instanceMethod yX7_to, Cond.selects RX7 yX7_to yX7_to, Cond.code yX7_to cX7_to 4 (some .int), Cond.methodLink RL 73 yX6_proof, Cond.instanceMethod yX6_proof, Cond.selects RX6 yX6_proof yX6_proof, Cond.code yX6_proof cX6_proof 2 (some .int), Cond.methodLink RX6 128 yX1_proofSize]
def wsL_law_r26 : List Cond := [Cond.instanceMethod yX1_proofSize, Cond.selects RX1 yX1_proofSize yX1_proofSize, Cond.code yX1_proofSize cX1_proofSize 4 (some .int), Cond.methodLink RL 76 yX7_proof, Cond.instanceMethod yX7_proof, Cond.selects RX7 yX7_proof yX7_proof, Cond.code yX7_proof cX7_proof 5 (some .int), Cond.methodLink RL 77 yX6_under, Cond.instanceMethod yX6_under, Cond.selects RX6 yX6_under yX6_under, Cond.code yX6_under cX6_under 3 (some .int), Cond.methodLink RX6 132 yX3_named, Cond.instanceMethod yX3_named, Cond.selects RX3 yX3_named yX3_named, Cond.code yX3_named cX3_named 2 (some .boolean), Cond.methodLink RX3 34 yX3_knows, Cond.methodLink RX6 135 yX6_isUnder, Cond.instanceMethod yX6_isUnder, Cond.selects RX6 yX6_isUnder yX6_isUnder, Cond.code yX6_isUnder cX6_isUnder 3 (some .boolean), Cond.methodLink RX6 149 yX1_saysIs, Cond.methodLink RX6 138 yX6_oneIf, Cond.methodLink RL 80 yX7_under, Cond.instanceMethod yX7_under]
def wsL_law_r27 : List Cond := [Cond.selects RX7 yX7_under yX7_under, Cond.code yX7_under cX7_under 3 (some .int), Cond.methodLink RX7 184 yX7_isPlain, Cond.instanceMethod yX7_isPlain, Cond.selects RX7 yX7_isPlain yX7_isPlain, Cond.code yX7_isPlain cX7_isPlain 2 (some .boolean), Cond.methodLink RX7 180 yX7_isUnder, Cond.instanceMethod yX7_isUnder, Cond.selects RX7 yX7_isUnder yX7_isUnder, Cond.code yX7_isUnder cX7_isUnder 3 (some .boolean), Cond.methodLink RL 81 yX6_like, Cond.instanceMethod yX6_like, Cond.selects RX6 yX6_like yX6_like, Cond.code yX6_like cX6_like 2 (some .int), Cond.methodLink RX6 142 yX6_leastLike, Cond.instanceMethod yX6_leastLike, Cond.selects RX6 yX6_leastLike yX6_leastLike, Cond.code yX6_leastLike cX6_leastLike 3 (some .int), Cond.methodLink RX6 186 yX6_areLike, Cond.instanceMethod yX6_areLike, Cond.selects RX6 yX6_areLike yX6_areLike, Cond.code yX6_areLike cX6_areLike 3 (some .boolean), Cond.methodLink RL 84 yX7_like, Cond.instanceMethod yX7_like]
def wsL_law_r28 : List Cond := [Cond.selects RX7 yX7_like yX7_like, Cond.code yX7_like cX7_like 2 (some .int), Cond.methodLink RX7 190 yX7_leastLike, Cond.instanceMethod yX7_leastLike, Cond.selects RX7 yX7_leastLike yX7_leastLike, Cond.code yX7_leastLike cX7_leastLike 3 (some .int), Cond.methodLink RX7 187 yX7_areLike, Cond.instanceMethod yX7_areLike, Cond.selects RX7 yX7_areLike yX7_areLike, Cond.code yX7_areLike cX7_areLike 3 (some .boolean), Cond.methodLink RL 85 yX6_parent, Cond.instanceMethod yX6_parent, Cond.selects RX6 yX6_parent yX6_parent, Cond.code yX6_parent cX6_parent 5 (some .int), Cond.methodLink RX6 146 yX6_isParent, Cond.instanceMethod yX6_isParent, Cond.selects RX6 yX6_isParent yX6_isParent, Cond.code yX6_isParent cX6_isParent 5 (some .boolean), Cond.methodLink RL 88 yX7_parent, Cond.instanceMethod yX7_parent, Cond.selects RX7 yX7_parent yX7_parent, Cond.code yX7_parent cX7_parent 5 (some .int), Cond.methodLink RX7 193 yX7_isParent, Cond.instanceMethod yX7_isParent]
def wsL_law_r29 : List Cond := [Cond.selects RX7 yX7_isParent yX7_isParent, Cond.code yX7_isParent cX7_isParent 4 (some .boolean), Cond.methodLink RL 89 yX6_broken, Cond.instanceMethod yX6_broken, Cond.selects RX6 yX6_broken yX6_broken, Cond.code yX6_broken cX6_broken 1 (some .int), Cond.methodLink RL 92 yX7_broken, Cond.instanceMethod yX7_broken, Cond.selects RX7 yX7_broken yX7_broken, Cond.code yX7_broken cX7_broken 1 (some .int), Cond.methodLink RL 93 yX6_things, Cond.instanceMethod yX6_things, Cond.selects RX6 yX6_things yX6_things, Cond.code yX6_things cX6_things 1 (some .int), Cond.methodLink RX6 152 yX2_members, Cond.methodLink RX6 155 yJ6_bitCount_0f7a4, Cond.static yJ6_bitCount_0f7a4, Cond.initialized RJ6, Cond.code yJ6_bitCount_0f7a4 cJ6_bitCount_0f7a4 1 (some .int), Cond.constant RJ6 265 (1431655765), Cond.constant RJ6 266 (858993459), Cond.constant RJ6 267 (252645135), Cond.methodLink RL 96 yX7_things, Cond.instanceMethod yX7_things]
def wsL_law_r30 : List Cond := [Cond.selects RX7 yX7_things yX7_things, Cond.code yX7_things cX7_things 3 (some .int), Cond.methodLink RL 97 yX6_isOf, Cond.instanceMethod yX6_isOf, Cond.selects RX6 yX6_isOf yX6_isOf, Cond.code yX6_isOf cX6_isOf 3 (some .int), Cond.methodLink RX6 160 yX6_hasBit, Cond.methodLink RL 100 yX7_isOf, Cond.instanceMethod yX7_isOf, Cond.selects RX7 yX7_isOf yX7_isOf, Cond.code yX7_isOf cX7_isOf 3 (some .int), Cond.methodLink RL 101 yX6_pair, Cond.instanceMethod yX6_pair, Cond.selects RX6 yX6_pair yX6_pair, Cond.code yX6_pair cX6_pair 4 (some .int), Cond.methodLink RX6 163 yX2_partners, Cond.methodLink RL 104 yX7_pair, Cond.instanceMethod yX7_pair, Cond.selects RX7 yX7_pair yX7_pair, Cond.code yX7_pair cX7_pair 4 (some .int), Cond.methodLink RL 105 yX6_holds, Cond.instanceMethod yX6_holds, Cond.selects RX6 yX6_holds yX6_holds, Cond.code yX6_holds cX6_holds 2 (some .int)]
def wsL_law_r31 : List Cond := [Cond.methodLink RX6 166 yX6_isSo, Cond.instanceMethod yX6_isSo, Cond.selects RX6 yX6_isSo yX6_isSo, Cond.code yX6_isSo cX6_isSo 4 (some .boolean), Cond.methodLink RX6 189 yX2_roleWithin, Cond.instanceMethod yX2_roleWithin, Cond.selects RX2 yX2_roleWithin yX2_roleWithin, Cond.code yX2_roleWithin cX2_roleWithin 4 (some .boolean), Cond.methodLink RX6 192 yX2_chainWithin, Cond.instanceMethod yX2_chainWithin, Cond.selects RX2 yX2_chainWithin yX2_chainWithin, Cond.code yX2_chainWithin cX2_chainWithin 6 (some .boolean), Cond.methodLink RL 108 yX7_holds, Cond.instanceMethod yX7_holds, Cond.selects RX7 yX7_holds yX7_holds, Cond.code yX7_holds cX7_holds 2 (some .int), Cond.methodLink RX7 199 yX7_isSo, Cond.instanceMethod yX7_isSo, Cond.selects RX7 yX7_isSo yX7_isSo, Cond.code yX7_isSo cX7_isSo 8 (some .boolean), Cond.methodLink RL 109 yX6_count, Cond.instanceMethod yX6_count, Cond.selects RX6 yX6_count yX6_count, Cond.code yX6_count cX6_count 2 (some .int)]
def wsL_law_r32 : List Cond := [Cond.methodLink RX6 170 yX0_holdingCount, Cond.instanceMethod yX0_holdingCount, Cond.selects RX0 yX0_holdingCount yX0_holdingCount, Cond.code yX0_holdingCount cX0_holdingCount 3 (some .int), Cond.methodLink RX0 39 yX0_holding, Cond.methodLink RL 112 yX7_count, Cond.instanceMethod yX7_count, Cond.selects RX7 yX7_count yX7_count, Cond.code yX7_count cX7_count 4 (some .int), Cond.methodLink RL 113 yX6_digest, Cond.instanceMethod yX6_digest, Cond.selects RX6 yX6_digest yX6_digest, Cond.code yX6_digest cX6_digest 6 (some .long), Cond.constantLong RX6 174 (61), Cond.constantLong RX6 176 (31), Cond.methodLink RL 117 yX7_digest, Cond.instanceMethod yX7_digest, Cond.selects RX7 yX7_digest yX7_digest, Cond.code yX7_digest cX7_digest 5 (some .long), Cond.constantLong RX7 202 (61), Cond.constantLong RX7 204 (31), Cond.methodLink RX7 206 yX7_axiom]
abbrev vwCl : List vw_C := [(RX0, TX0, 2), (RX1, TX1, 7), (RX2, TX2, 2), (RX3, TX3, 3), (RX4, TX4, 2), (RX5, TX5, 5), (RX6, TX6, 8), (RX7, TX7, 32)]
/-- all words of the tables that the walks use -/
def BIG : List Cond := wsL_law_r1 ++ (wsL_law_r2 ++ (wsL_law_r3 ++ (wsL_law_r4 ++ (wsL_law_r5 ++ (wsL_law_r6 ++ (wsL_law_r7 ++ (wsL_law_r8 ++ (wsL_law_r9 ++ (wsL_law_r10 ++ (wsL_law_r11 ++ (wsL_law_r12 ++ (wsL_law_r13 ++ (wsL_law_r14 ++ (wsL_law_r15 ++ (wsL_law_r16 ++ (wsL_law_r17 ++ (wsL_law_r18 ++ (wsL_law_r19 ++ (wsL_law_r20 ++ (wsL_law_r21 ++ (wsL_law_r22 ++ (wsL_law_r23 ++ (wsL_law_r24 ++ (wsL_law_r25 ++ (wsL_law_r26 ++ (wsL_law_r27 ++ (wsL_law_r28 ++ (wsL_law_r29 ++ (wsL_law_r30 ++ (wsL_law_r31 ++ (wsL_law_r32 ++ (wsX00 ++ (wsX10 ++ (wsX20 ++ (wsX30 ++ (wsX40 ++ (wsX50 ++ (wsX60 ++ (wsX70)))))))))))))))))))))))))))))))))))))))
theorem inB_r1 : ∀ w ∈ wsL_law_r1, w ∈ BIG := fun _ h => List.mem_append_left _ h
theorem inB_r2 : ∀ w ∈ wsL_law_r2, w ∈ BIG := fun _ h => List.mem_append_right _ (List.mem_append_left _ h)
theorem inB_r3 : ∀ w ∈ wsL_law_r3, w ∈ BIG := fun _ h => List.mem_append_right _ (List.mem_append_right _ (List.mem_append_left _ h))
theorem inB_r4 : ∀ w ∈ wsL_law_r4, w ∈ BIG := fun _ h => List.mem_append_right _ (List.mem_append_right _ (List.mem_append_right _ (List.mem_append_left _ h)))
theorem inB_r5 : ∀ w ∈ wsL_law_r5, w ∈ BIG := fun _ h => List.mem_append_right _ (List.mem_append_right _ (List.mem_append_right _ (List.mem_append_right _ (List.mem_append_left _ h))))
theorem inB_r6 : ∀ w ∈ wsL_law_r6, w ∈ BIG := fun _ h => List.mem_append_right _ (List.mem_append_right _ (List.mem_append_right _ (List.mem_append_right _ (List.mem_append_right _ (List.mem_append_left _ h)))))
theorem inB_r7 : ∀ w ∈ wsL_law_r7, w ∈ BIG := fun _ h => List.mem_append_right _ (List.mem_append_right _ (List.mem_append_right _ (List.mem_append_right _ (List.mem_append_right _ (List.mem_append_right _ (List.mem_append_left _ h))))))
theorem inB_r8 : ∀ w ∈ wsL_law_r8, w ∈ BIG := fun _ h => List.mem_append_right _ (List.mem_append_right _ (List.mem_append_right _ (List.mem_append_right _ (List.mem_append_right _ (List.mem_append_right _ (List.mem_append_right _ (List.mem_append_left _ h)))))))
theorem inB_r9 : ∀ w ∈ wsL_law_r9, w ∈ BIG := fun _ h => List.mem_append_right _ (List.mem_append_right _ (List.mem_append_right _ (List.mem_append_right _ (List.mem_append_right _ (List.mem_append_right _ (List.mem_append_right _ (List.mem_append_right _ (List.mem_append_left _ h))))))))
theorem inB_r10 : ∀ w ∈ wsL_law_r10, w ∈ BIG := fun _ h => List.mem_append_right _ (List.mem_append_right _ (List.mem_append_right _ (List.mem_append_right _ (List.mem_append_right _ (List.mem_append_right _ (List.mem_append_right _ (List.mem_append_right _ (List.mem_append_right _ (List.mem_append_left _ h)))))))))
theorem inB_r11 : ∀ w ∈ wsL_law_r11, w ∈ BIG := fun _ h => List.mem_append_right _ (List.mem_append_right _ (List.mem_append_right _ (List.mem_append_right _ (List.mem_append_right _ (List.mem_append_right _ (List.mem_append_right _ (List.mem_append_right _ (List.mem_append_right _ (List.mem_append_right _ (List.mem_append_left _ h))))))))))
theorem inB_r12 : ∀ w ∈ wsL_law_r12, w ∈ BIG := fun _ h => List.mem_append_right _ (List.mem_append_right _ (List.mem_append_right _ (List.mem_append_right _ (List.mem_append_right _ (List.mem_append_right _ (List.mem_append_right _ (List.mem_append_right _ (List.mem_append_right _ (List.mem_append_right _ (List.mem_append_right _ (List.mem_append_left _ h)))))))))))
theorem inB_r13 : ∀ w ∈ wsL_law_r13, w ∈ BIG := fun _ h => List.mem_append_right _ (List.mem_append_right _ (List.mem_append_right _ (List.mem_append_right _ (List.mem_append_right _ (List.mem_append_right _ (List.mem_append_right _ (List.mem_append_right _ (List.mem_append_right _ (List.mem_append_right _ (List.mem_append_right _ (List.mem_append_right _ (List.mem_append_left _ h))))))))))))
theorem inB_r14 : ∀ w ∈ wsL_law_r14, w ∈ BIG := fun _ h => List.mem_append_right _ (List.mem_append_right _ (List.mem_append_right _ (List.mem_append_right _ (List.mem_append_right _ (List.mem_append_right _ (List.mem_append_right _ (List.mem_append_right _ (List.mem_append_right _ (List.mem_append_right _ (List.mem_append_right _ (List.mem_append_right _ (List.mem_append_right _ (List.mem_append_left _ h)))))))))))))
theorem inB_r15 : ∀ w ∈ wsL_law_r15, w ∈ BIG := fun _ h => List.mem_append_right _ (List.mem_append_right _ (List.mem_append_right _ (List.mem_append_right _ (List.mem_append_right _ (List.mem_append_right _ (List.mem_append_right _ (List.mem_append_right _ (List.mem_append_right _ (List.mem_append_right _ (List.mem_append_right _ (List.mem_append_right _ (List.mem_append_right _ (List.mem_append_right _ (List.mem_append_left _ h))))))))))))))
theorem inB_r16 : ∀ w ∈ wsL_law_r16, w ∈ BIG := fun _ h => List.mem_append_right _ (List.mem_append_right _ (List.mem_append_right _ (List.mem_append_right _ (List.mem_append_right _ (List.mem_append_right _ (List.mem_append_right _ (List.mem_append_right _ (List.mem_append_right _ (List.mem_append_right _ (List.mem_append_right _ (List.mem_append_right _ (List.mem_append_right _ (List.mem_append_right _ (List.mem_append_right _ (List.mem_append_left _ h)))))))))))))))
theorem inB_r17 : ∀ w ∈ wsL_law_r17, w ∈ BIG := fun _ h => List.mem_append_right _ (List.mem_append_right _ (List.mem_append_right _ (List.mem_append_right _ (List.mem_append_right _ (List.mem_append_right _ (List.mem_append_right _ (List.mem_append_right _ (List.mem_append_right _ (List.mem_append_right _ (List.mem_append_right _ (List.mem_append_right _ (List.mem_append_right _ (List.mem_append_right _ (List.mem_append_right _ (List.mem_append_right _ (List.mem_append_left _ h))))))))))))))))
theorem inB_r18 : ∀ w ∈ wsL_law_r18, w ∈ BIG := fun _ h => List.mem_append_right _ (List.mem_append_right _ (List.mem_append_right _ (List.mem_append_right _ (List.mem_append_right _ (List.mem_append_right _ (List.mem_append_right _ (List.mem_append_right _ (List.mem_append_right _ (List.mem_append_right _ (List.mem_append_right _ (List.mem_append_right _ (List.mem_append_right _ (List.mem_append_right _ (List.mem_append_right _ (List.mem_append_right _ (List.mem_append_right _ (List.mem_append_left _ h)))))))))))))))))
theorem inB_r19 : ∀ w ∈ wsL_law_r19, w ∈ BIG := fun _ h => List.mem_append_right _ (List.mem_append_right _ (List.mem_append_right _ (List.mem_append_right _ (List.mem_append_right _ (List.mem_append_right _ (List.mem_append_right _ (List.mem_append_right _ (List.mem_append_right _ (List.mem_append_right _ (List.mem_append_right _ (List.mem_append_right _ (List.mem_append_right _ (List.mem_append_right _ (List.mem_append_right _ (List.mem_append_right _ (List.mem_append_right _ (List.mem_append_right _ (List.mem_append_left _ h))))))))))))))))))
theorem inB_r20 : ∀ w ∈ wsL_law_r20, w ∈ BIG := fun _ h => List.mem_append_right _ (List.mem_append_right _ (List.mem_append_right _ (List.mem_append_right _ (List.mem_append_right _ (List.mem_append_right _ (List.mem_append_right _ (List.mem_append_right _ (List.mem_append_right _ (List.mem_append_right _ (List.mem_append_right _ (List.mem_append_right _ (List.mem_append_right _ (List.mem_append_right _ (List.mem_append_right _ (List.mem_append_right _ (List.mem_append_right _ (List.mem_append_right _ (List.mem_append_right _ (List.mem_append_left _ h)))))))))))))))))))
theorem inB_r21 : ∀ w ∈ wsL_law_r21, w ∈ BIG := fun _ h => List.mem_append_right _ (List.mem_append_right _ (List.mem_append_right _ (List.mem_append_right _ (List.mem_append_right _ (List.mem_append_right _ (List.mem_append_right _ (List.mem_append_right _ (List.mem_append_right _ (List.mem_append_right _ (List.mem_append_right _ (List.mem_append_right _ (List.mem_append_right _ (List.mem_append_right _ (List.mem_append_right _ (List.mem_append_right _ (List.mem_append_right _ (List.mem_append_right _ (List.mem_append_right _ (List.mem_append_right _ (List.mem_append_left _ h))))))))))))))))))))
theorem inB_r22 : ∀ w ∈ wsL_law_r22, w ∈ BIG := fun _ h => List.mem_append_right _ (List.mem_append_right _ (List.mem_append_right _ (List.mem_append_right _ (List.mem_append_right _ (List.mem_append_right _ (List.mem_append_right _ (List.mem_append_right _ (List.mem_append_right _ (List.mem_append_right _ (List.mem_append_right _ (List.mem_append_right _ (List.mem_append_right _ (List.mem_append_right _ (List.mem_append_right _ (List.mem_append_right _ (List.mem_append_right _ (List.mem_append_right _ (List.mem_append_right _ (List.mem_append_right _ (List.mem_append_right _ (List.mem_append_left _ h)))))))))))))))))))))
theorem inB_r23 : ∀ w ∈ wsL_law_r23, w ∈ BIG := fun _ h => List.mem_append_right _ (List.mem_append_right _ (List.mem_append_right _ (List.mem_append_right _ (List.mem_append_right _ (List.mem_append_right _ (List.mem_append_right _ (List.mem_append_right _ (List.mem_append_right _ (List.mem_append_right _ (List.mem_append_right _ (List.mem_append_right _ (List.mem_append_right _ (List.mem_append_right _ (List.mem_append_right _ (List.mem_append_right _ (List.mem_append_right _ (List.mem_append_right _ (List.mem_append_right _ (List.mem_append_right _ (List.mem_append_right _ (List.mem_append_right _ (List.mem_append_left _ h))))))))))))))))))))))
theorem inB_r24 : ∀ w ∈ wsL_law_r24, w ∈ BIG := fun _ h => List.mem_append_right _ (List.mem_append_right _ (List.mem_append_right _ (List.mem_append_right _ (List.mem_append_right _ (List.mem_append_right _ (List.mem_append_right _ (List.mem_append_right _ (List.mem_append_right _ (List.mem_append_right _ (List.mem_append_right _ (List.mem_append_right _ (List.mem_append_right _ (List.mem_append_right _ (List.mem_append_right _ (List.mem_append_right _ (List.mem_append_right _ (List.mem_append_right _ (List.mem_append_right _ (List.mem_append_right _ (List.mem_append_right _ (List.mem_append_right _ (List.mem_append_right _ (List.mem_append_left _ h)))))))))))))))))))))))
theorem inB_r25 : ∀ w ∈ wsL_law_r25, w ∈ BIG := fun _ h => List.mem_append_right _ (List.mem_append_right _ (List.mem_append_right _ (List.mem_append_right _ (List.mem_append_right _ (List.mem_append_right _ (List.mem_append_right _ (List.mem_append_right _ (List.mem_append_right _ (List.mem_append_right _ (List.mem_append_right _ (List.mem_append_right _ (List.mem_append_right _ (List.mem_append_right _ (List.mem_append_right _ (List.mem_append_right _ (List.mem_append_right _ (List.mem_append_right _ (List.mem_append_right _ (List.mem_append_right _ (List.mem_append_right _ (List.mem_append_right _ (List.mem_append_right _ (List.mem_append_right _ (List.mem_append_left _ h))))))))))))))))))))))))
theorem inB_r26 : ∀ w ∈ wsL_law_r26, w ∈ BIG := fun _ h => List.mem_append_right _ (List.mem_append_right _ (List.mem_append_right _ (List.mem_append_right _ (List.mem_append_right _ (List.mem_append_right _ (List.mem_append_right _ (List.mem_append_right _ (List.mem_append_right _ (List.mem_append_right _ (List.mem_append_right _ (List.mem_append_right _ (List.mem_append_right _ (List.mem_append_right _ (List.mem_append_right _ (List.mem_append_right _ (List.mem_append_right _ (List.mem_append_right _ (List.mem_append_right _ (List.mem_append_right _ (List.mem_append_right _ (List.mem_append_right _ (List.mem_append_right _ (List.mem_append_right _ (List.mem_append_right _ (List.mem_append_left _ h)))))))))))))))))))))))))
theorem inB_r27 : ∀ w ∈ wsL_law_r27, w ∈ BIG := fun _ h => List.mem_append_right _ (List.mem_append_right _ (List.mem_append_right _ (List.mem_append_right _ (List.mem_append_right _ (List.mem_append_right _ (List.mem_append_right _ (List.mem_append_right _ (List.mem_append_right _ (List.mem_append_right _ (List.mem_append_right _ (List.mem_append_right _ (List.mem_append_right _ (List.mem_append_right _ (List.mem_append_right _ (List.mem_append_right _ (List.mem_append_right _ (List.mem_append_right _ (List.mem_append_right _ (List.mem_append_right _ (List.mem_append_right _ (List.mem_append_right _ (List.mem_append_right _ (List.mem_append_right _ (List.mem_append_right _ (List.mem_append_right _ (List.mem_append_left _ h))))))))))))))))))))))))))
theorem inB_r28 : ∀ w ∈ wsL_law_r28, w ∈ BIG := fun _ h => List.mem_append_right _ (List.mem_append_right _ (List.mem_append_right _ (List.mem_append_right _ (List.mem_append_right _ (List.mem_append_right _ (List.mem_append_right _ (List.mem_append_right _ (List.mem_append_right _ (List.mem_append_right _ (List.mem_append_right _ (List.mem_append_right _ (List.mem_append_right _ (List.mem_append_right _ (List.mem_append_right _ (List.mem_append_right _ (List.mem_append_right _ (List.mem_append_right _ (List.mem_append_right _ (List.mem_append_right _ (List.mem_append_right _ (List.mem_append_right _ (List.mem_append_right _ (List.mem_append_right _ (List.mem_append_right _ (List.mem_append_right _ (List.mem_append_right _ (List.mem_append_left _ h)))))))))))))))))))))))))))
theorem inB_r29 : ∀ w ∈ wsL_law_r29, w ∈ BIG := fun _ h => List.mem_append_right _ (List.mem_append_right _ (List.mem_append_right _ (List.mem_append_right _ (List.mem_append_right _ (List.mem_append_right _ (List.mem_append_right _ (List.mem_append_right _ (List.mem_append_right _ (List.mem_append_right _ (List.mem_append_right _ (List.mem_append_right _ (List.mem_append_right _ (List.mem_append_right _ (List.mem_append_right _ (List.mem_append_right _ (List.mem_append_right _ (List.mem_append_right _ (List.mem_append_right _ (List.mem_append_right _ (List.mem_append_right _ (List.mem_append_right _ (List.mem_append_right _ (List.mem_append_right _ (List.mem_append_right _ (List.mem_append_right _ (List.mem_append_right _ (List.mem_append_right _ (List.mem_append_left _ h))))))))))))))))))))))))))))
theorem inB_r30 : ∀ w ∈ wsL_law_r30, w ∈ BIG := fun _ h => List.mem_append_right _ (List.mem_append_right _ (List.mem_append_right _ (List.mem_append_right _ (List.mem_append_right _ (List.mem_append_right _ (List.mem_append_right _ (List.mem_append_right _ (List.mem_append_right _ (List.mem_append_right _ (List.mem_append_right _ (List.mem_append_right _ (List.mem_append_right _ (List.mem_append_right _ (List.mem_append_right _ (List.mem_append_right _ (List.mem_append_right _ (List.mem_append_right _ (List.mem_append_right _ (List.mem_append_right _ (List.mem_append_right _ (List.mem_append_right _ (List.mem_append_right _ (List.mem_append_right _ (List.mem_append_right _ (List.mem_append_right _ (List.mem_append_right _ (List.mem_append_right _ (List.mem_append_right _ (List.mem_append_left _ h)))))))))))))))))))))))))))))
theorem inB_r31 : ∀ w ∈ wsL_law_r31, w ∈ BIG := fun _ h => List.mem_append_right _ (List.mem_append_right _ (List.mem_append_right _ (List.mem_append_right _ (List.mem_append_right _ (List.mem_append_right _ (List.mem_append_right _ (List.mem_append_right _ (List.mem_append_right _ (List.mem_append_right _ (List.mem_append_right _ (List.mem_append_right _ (List.mem_append_right _ (List.mem_append_right _ (List.mem_append_right _ (List.mem_append_right _ (List.mem_append_right _ (List.mem_append_right _ (List.mem_append_right _ (List.mem_append_right _ (List.mem_append_right _ (List.mem_append_right _ (List.mem_append_right _ (List.mem_append_right _ (List.mem_append_right _ (List.mem_append_right _ (List.mem_append_right _ (List.mem_append_right _ (List.mem_append_right _ (List.mem_append_right _ (List.mem_append_left _ h))))))))))))))))))))))))))))))
theorem inB_r32 : ∀ w ∈ wsL_law_r32, w ∈ BIG := fun _ h => List.mem_append_right _ (List.mem_append_right _ (List.mem_append_right _ (List.mem_append_right _ (List.mem_append_right _ (List.mem_append_right _ (List.mem_append_right _ (List.mem_append_right _ (List.mem_append_right _ (List.mem_append_right _ (List.mem_append_right _ (List.mem_append_right _ (List.mem_append_right _ (List.mem_append_right _ (List.mem_append_right _ (List.mem_append_right _ (List.mem_append_right _ (List.mem_append_right _ (List.mem_append_right _ (List.mem_append_right _ (List.mem_append_right _ (List.mem_append_right _ (List.mem_append_right _ (List.mem_append_right _ (List.mem_append_right _ (List.mem_append_right _ (List.mem_append_right _ (List.mem_append_right _ (List.mem_append_right _ (List.mem_append_right _ (List.mem_append_right _ (List.mem_append_left _ h)))))))))))))))))))))))))))))))
theorem inB_0 : ∀ w ∈ wsX00, w ∈ BIG := fun _ h => List.mem_append_right _ (List.mem_append_right _ (List.mem_append_right _ (List.mem_append_right _ (List.mem_append_right _ (List.mem_append_right _ (List.mem_append_right _ (List.mem_append_right _ (List.mem_append_right _ (List.mem_append_right _ (List.mem_append_right _ (List.mem_append_right _ (List.mem_append_right _ (List.mem_append_right _ (List.mem_append_right _ (List.mem_append_right _ (List.mem_append_right _ (List.mem_append_right _ (List.mem_append_right _ (List.mem_append_right _ (List.mem_append_right _ (List.mem_append_right _ (List.mem_append_right _ (List.mem_append_right _ (List.mem_append_right _ (List.mem_append_right _ (List.mem_append_right _ (List.mem_append_right _ (List.mem_append_right _ (List.mem_append_right _ (List.mem_append_right _ (List.mem_append_right _ (List.mem_append_left _ h))))))))))))))))))))))))))))))))
theorem inB_1 : ∀ w ∈ wsX10, w ∈ BIG := fun _ h => List.mem_append_right _ (List.mem_append_right _ (List.mem_append_right _ (List.mem_append_right _ (List.mem_append_right _ (List.mem_append_right _ (List.mem_append_right _ (List.mem_append_right _ (List.mem_append_right _ (List.mem_append_right _ (List.mem_append_right _ (List.mem_append_right _ (List.mem_append_right _ (List.mem_append_right _ (List.mem_append_right _ (List.mem_append_right _ (List.mem_append_right _ (List.mem_append_right _ (List.mem_append_right _ (List.mem_append_right _ (List.mem_append_right _ (List.mem_append_right _ (List.mem_append_right _ (List.mem_append_right _ (List.mem_append_right _ (List.mem_append_right _ (List.mem_append_right _ (List.mem_append_right _ (List.mem_append_right _ (List.mem_append_right _ (List.mem_append_right _ (List.mem_append_right _ (List.mem_append_right _ (List.mem_append_left _ h)))))))))))))))))))))))))))))))))
theorem inB_2 : ∀ w ∈ wsX20, w ∈ BIG := fun _ h => List.mem_append_right _ (List.mem_append_right _ (List.mem_append_right _ (List.mem_append_right _ (List.mem_append_right _ (List.mem_append_right _ (List.mem_append_right _ (List.mem_append_right _ (List.mem_append_right _ (List.mem_append_right _ (List.mem_append_right _ (List.mem_append_right _ (List.mem_append_right _ (List.mem_append_right _ (List.mem_append_right _ (List.mem_append_right _ (List.mem_append_right _ (List.mem_append_right _ (List.mem_append_right _ (List.mem_append_right _ (List.mem_append_right _ (List.mem_append_right _ (List.mem_append_right _ (List.mem_append_right _ (List.mem_append_right _ (List.mem_append_right _ (List.mem_append_right _ (List.mem_append_right _ (List.mem_append_right _ (List.mem_append_right _ (List.mem_append_right _ (List.mem_append_right _ (List.mem_append_right _ (List.mem_append_right _ (List.mem_append_left _ h))))))))))))))))))))))))))))))))))
theorem inB_3 : ∀ w ∈ wsX30, w ∈ BIG := fun _ h => List.mem_append_right _ (List.mem_append_right _ (List.mem_append_right _ (List.mem_append_right _ (List.mem_append_right _ (List.mem_append_right _ (List.mem_append_right _ (List.mem_append_right _ (List.mem_append_right _ (List.mem_append_right _ (List.mem_append_right _ (List.mem_append_right _ (List.mem_append_right _ (List.mem_append_right _ (List.mem_append_right _ (List.mem_append_right _ (List.mem_append_right _ (List.mem_append_right _ (List.mem_append_right _ (List.mem_append_right _ (List.mem_append_right _ (List.mem_append_right _ (List.mem_append_right _ (List.mem_append_right _ (List.mem_append_right _ (List.mem_append_right _ (List.mem_append_right _ (List.mem_append_right _ (List.mem_append_right _ (List.mem_append_right _ (List.mem_append_right _ (List.mem_append_right _ (List.mem_append_right _ (List.mem_append_right _ (List.mem_append_right _ (List.mem_append_left _ h)))))))))))))))))))))))))))))))))))
theorem inB_4 : ∀ w ∈ wsX40, w ∈ BIG := fun _ h => List.mem_append_right _ (List.mem_append_right _ (List.mem_append_right _ (List.mem_append_right _ (List.mem_append_right _ (List.mem_append_right _ (List.mem_append_right _ (List.mem_append_right _ (List.mem_append_right _ (List.mem_append_right _ (List.mem_append_right _ (List.mem_append_right _ (List.mem_append_right _ (List.mem_append_right _ (List.mem_append_right _ (List.mem_append_right _ (List.mem_append_right _ (List.mem_append_right _ (List.mem_append_right _ (List.mem_append_right _ (List.mem_append_right _ (List.mem_append_right _ (List.mem_append_right _ (List.mem_append_right _ (List.mem_append_right _ (List.mem_append_right _ (List.mem_append_right _ (List.mem_append_right _ (List.mem_append_right _ (List.mem_append_right _ (List.mem_append_right _ (List.mem_append_right _ (List.mem_append_right _ (List.mem_append_right _ (List.mem_append_right _ (List.mem_append_right _ (List.mem_append_left _ h))))))))))))))))))))))))))))))))))))
theorem inB_5 : ∀ w ∈ wsX50, w ∈ BIG := fun _ h => List.mem_append_right _ (List.mem_append_right _ (List.mem_append_right _ (List.mem_append_right _ (List.mem_append_right _ (List.mem_append_right _ (List.mem_append_right _ (List.mem_append_right _ (List.mem_append_right _ (List.mem_append_right _ (List.mem_append_right _ (List.mem_append_right _ (List.mem_append_right _ (List.mem_append_right _ (List.mem_append_right _ (List.mem_append_right _ (List.mem_append_right _ (List.mem_append_right _ (List.mem_append_right _ (List.mem_append_right _ (List.mem_append_right _ (List.mem_append_right _ (List.mem_append_right _ (List.mem_append_right _ (List.mem_append_right _ (List.mem_append_right _ (List.mem_append_right _ (List.mem_append_right _ (List.mem_append_right _ (List.mem_append_right _ (List.mem_append_right _ (List.mem_append_right _ (List.mem_append_right _ (List.mem_append_right _ (List.mem_append_right _ (List.mem_append_right _ (List.mem_append_right _ (List.mem_append_left _ h)))))))))))))))))))))))))))))))))))))
theorem inB_6 : ∀ w ∈ wsX60, w ∈ BIG := fun _ h => List.mem_append_right _ (List.mem_append_right _ (List.mem_append_right _ (List.mem_append_right _ (List.mem_append_right _ (List.mem_append_right _ (List.mem_append_right _ (List.mem_append_right _ (List.mem_append_right _ (List.mem_append_right _ (List.mem_append_right _ (List.mem_append_right _ (List.mem_append_right _ (List.mem_append_right _ (List.mem_append_right _ (List.mem_append_right _ (List.mem_append_right _ (List.mem_append_right _ (List.mem_append_right _ (List.mem_append_right _ (List.mem_append_right _ (List.mem_append_right _ (List.mem_append_right _ (List.mem_append_right _ (List.mem_append_right _ (List.mem_append_right _ (List.mem_append_right _ (List.mem_append_right _ (List.mem_append_right _ (List.mem_append_right _ (List.mem_append_right _ (List.mem_append_right _ (List.mem_append_right _ (List.mem_append_right _ (List.mem_append_right _ (List.mem_append_right _ (List.mem_append_right _ (List.mem_append_right _ (List.mem_append_left _ h))))))))))))))))))))))))))))))))))))))
theorem inB_7 : ∀ w ∈ wsX70, w ∈ BIG := fun _ h => List.mem_append_right _ (List.mem_append_right _ (List.mem_append_right _ (List.mem_append_right _ (List.mem_append_right _ (List.mem_append_right _ (List.mem_append_right _ (List.mem_append_right _ (List.mem_append_right _ (List.mem_append_right _ (List.mem_append_right _ (List.mem_append_right _ (List.mem_append_right _ (List.mem_append_right _ (List.mem_append_right _ (List.mem_append_right _ (List.mem_append_right _ (List.mem_append_right _ (List.mem_append_right _ (List.mem_append_right _ (List.mem_append_right _ (List.mem_append_right _ (List.mem_append_right _ (List.mem_append_right _ (List.mem_append_right _ (List.mem_append_right _ (List.mem_append_right _ (List.mem_append_right _ (List.mem_append_right _ (List.mem_append_right _ (List.mem_append_right _ (List.mem_append_right _ (List.mem_append_right _ (List.mem_append_right _ (List.mem_append_right _ (List.mem_append_right _ (List.mem_append_right _ (List.mem_append_right _ (List.mem_append_right _ (h)))))))))))))))))))))))))))))))))))))))
theorem goB_0 : wsL_law_r1.all goodWord = true := by decide +kernel
theorem goB_1 : wsL_law_r2.all goodWord = true := by decide +kernel
theorem goB_2 : wsL_law_r3.all goodWord = true := by decide +kernel
theorem goB_3 : wsL_law_r4.all goodWord = true := by decide +kernel
theorem goB_4 : wsL_law_r5.all goodWord = true := by decide +kernel
theorem goB_5 : wsL_law_r6.all goodWord = true := by decide +kernel
theorem goB_6 : wsL_law_r7.all goodWord = true := by decide +kernel
theorem goB_7 : wsL_law_r8.all goodWord = true := by decide +kernel
theorem goB_8 : wsL_law_r9.all goodWord = true := by decide +kernel
theorem goB_9 : wsL_law_r10.all goodWord = true := by decide +kernel
theorem goB_10 : wsL_law_r11.all goodWord = true := by decide +kernel
theorem goB_11 : wsL_law_r12.all goodWord = true := by decide +kernel
theorem goB_12 : wsL_law_r13.all goodWord = true := by decide +kernel
theorem goB_13 : wsL_law_r14.all goodWord = true := by decide +kernel
theorem goB_14 : wsL_law_r15.all goodWord = true := by decide +kernel
theorem goB_15 : wsL_law_r16.all goodWord = true := by decide +kernel
theorem goB_16 : wsL_law_r17.all goodWord = true := by decide +kernel
theorem goB_17 : wsL_law_r18.all goodWord = true := by decide +kernel
theorem goB_18 : wsL_law_r19.all goodWord = true := by decide +kernel
theorem goB_19 : wsL_law_r20.all goodWord = true := by decide +kernel
theorem goB_20 : wsL_law_r21.all goodWord = true := by decide +kernel
theorem goB_21 : wsL_law_r22.all goodWord = true := by decide +kernel
theorem goB_22 : wsL_law_r23.all goodWord = true := by decide +kernel
theorem goB_23 : wsL_law_r24.all goodWord = true := by decide +kernel
theorem goB_24 : wsL_law_r25.all goodWord = true := by decide +kernel
theorem goB_25 : wsL_law_r26.all goodWord = true := by decide +kernel
theorem goB_26 : wsL_law_r27.all goodWord = true := by decide +kernel
theorem goB_27 : wsL_law_r28.all goodWord = true := by decide +kernel
theorem goB_28 : wsL_law_r29.all goodWord = true := by decide +kernel
theorem goB_29 : wsL_law_r30.all goodWord = true := by decide +kernel
theorem goB_30 : wsL_law_r31.all goodWord = true := by decide +kernel
theorem goB_31 : wsL_law_r32.all goodWord = true := by decide +kernel
theorem goB_32 : wsX00.all goodWord = true := by decide +kernel
theorem goB_33 : wsX10.all goodWord = true := by decide +kernel
theorem goB_34 : wsX20.all goodWord = true := by decide +kernel
theorem goB_35 : wsX30.all goodWord = true := by decide +kernel
theorem goB_36 : wsX40.all goodWord = true := by decide +kernel
theorem goB_37 : wsX50.all goodWord = true := by decide +kernel
theorem goB_38 : wsX60.all goodWord = true := by decide +kernel
theorem goB_39 : wsX70.all goodWord = true := by decide +kernel
theorem bigGood : ∀ w ∈ BIG, goodWord w = true := by
  intro w h
  rcases List.mem_append.mp h with h | h
  · exact List.all_eq_true.mp goB_0 w h
  rcases List.mem_append.mp h with h | h
  · exact List.all_eq_true.mp goB_1 w h
  rcases List.mem_append.mp h with h | h
  · exact List.all_eq_true.mp goB_2 w h
  rcases List.mem_append.mp h with h | h
  · exact List.all_eq_true.mp goB_3 w h
  rcases List.mem_append.mp h with h | h
  · exact List.all_eq_true.mp goB_4 w h
  rcases List.mem_append.mp h with h | h
  · exact List.all_eq_true.mp goB_5 w h
  rcases List.mem_append.mp h with h | h
  · exact List.all_eq_true.mp goB_6 w h
  rcases List.mem_append.mp h with h | h
  · exact List.all_eq_true.mp goB_7 w h
  rcases List.mem_append.mp h with h | h
  · exact List.all_eq_true.mp goB_8 w h
  rcases List.mem_append.mp h with h | h
  · exact List.all_eq_true.mp goB_9 w h
  rcases List.mem_append.mp h with h | h
  · exact List.all_eq_true.mp goB_10 w h
  rcases List.mem_append.mp h with h | h
  · exact List.all_eq_true.mp goB_11 w h
  rcases List.mem_append.mp h with h | h
  · exact List.all_eq_true.mp goB_12 w h
  rcases List.mem_append.mp h with h | h
  · exact List.all_eq_true.mp goB_13 w h
  rcases List.mem_append.mp h with h | h
  · exact List.all_eq_true.mp goB_14 w h
  rcases List.mem_append.mp h with h | h
  · exact List.all_eq_true.mp goB_15 w h
  rcases List.mem_append.mp h with h | h
  · exact List.all_eq_true.mp goB_16 w h
  rcases List.mem_append.mp h with h | h
  · exact List.all_eq_true.mp goB_17 w h
  rcases List.mem_append.mp h with h | h
  · exact List.all_eq_true.mp goB_18 w h
  rcases List.mem_append.mp h with h | h
  · exact List.all_eq_true.mp goB_19 w h
  rcases List.mem_append.mp h with h | h
  · exact List.all_eq_true.mp goB_20 w h
  rcases List.mem_append.mp h with h | h
  · exact List.all_eq_true.mp goB_21 w h
  rcases List.mem_append.mp h with h | h
  · exact List.all_eq_true.mp goB_22 w h
  rcases List.mem_append.mp h with h | h
  · exact List.all_eq_true.mp goB_23 w h
  rcases List.mem_append.mp h with h | h
  · exact List.all_eq_true.mp goB_24 w h
  rcases List.mem_append.mp h with h | h
  · exact List.all_eq_true.mp goB_25 w h
  rcases List.mem_append.mp h with h | h
  · exact List.all_eq_true.mp goB_26 w h
  rcases List.mem_append.mp h with h | h
  · exact List.all_eq_true.mp goB_27 w h
  rcases List.mem_append.mp h with h | h
  · exact List.all_eq_true.mp goB_28 w h
  rcases List.mem_append.mp h with h | h
  · exact List.all_eq_true.mp goB_29 w h
  rcases List.mem_append.mp h with h | h
  · exact List.all_eq_true.mp goB_30 w h
  rcases List.mem_append.mp h with h | h
  · exact List.all_eq_true.mp goB_31 w h
  rcases List.mem_append.mp h with h | h
  · exact List.all_eq_true.mp goB_32 w h
  rcases List.mem_append.mp h with h | h
  · exact List.all_eq_true.mp goB_33 w h
  rcases List.mem_append.mp h with h | h
  · exact List.all_eq_true.mp goB_34 w h
  rcases List.mem_append.mp h with h | h
  · exact List.all_eq_true.mp goB_35 w h
  rcases List.mem_append.mp h with h | h
  · exact List.all_eq_true.mp goB_36 w h
  rcases List.mem_append.mp h with h | h
  · exact List.all_eq_true.mp goB_37 w h
  rcases List.mem_append.mp h with h | h
  · exact List.all_eq_true.mp goB_38 w h
  exact List.all_eq_true.mp goB_39 w h
theorem bw_1_0 : Cond.classLink RL 7 RX6 ∈ BIG := inB_r1 _ (List.mem_of_getElem? (i := 0) rfl)
theorem bw_1_1 : Cond.instantiable RX6 8 ∈ BIG := inB_r1 _ (List.mem_of_getElem? (i := 1) rfl)
theorem bw_1_2 : Cond.initialized RX6 ∈ BIG := inB_r1 _ (List.mem_of_getElem? (i := 2) rfl)
theorem bw_1_3 : Cond.classLink RL 10 RX7 ∈ BIG := inB_r1 _ (List.mem_of_getElem? (i := 3) rfl)
theorem bw_1_4 : Cond.instantiable RX7 32 ∈ BIG := inB_r1 _ (List.mem_of_getElem? (i := 4) rfl)
theorem bw_1_5 : Cond.initialized RX7 ∈ BIG := inB_r1 _ (List.mem_of_getElem? (i := 5) rfl)
theorem bw_1_6 : Cond.methodLink RL 9 yX6_init ∈ BIG := inB_r1 _ (List.mem_of_getElem? (i := 6) rfl)
theorem bw_1_7 : Cond.instanceMethod yX6_init ∈ BIG := inB_r1 _ (List.mem_of_getElem? (i := 7) rfl)
theorem bw_1_8 : Cond.code yX6_init cX6_init 1 none ∈ BIG := inB_r1 _ (List.mem_of_getElem? (i := 8) rfl)
theorem bw_1_9 : Cond.methodLink RX6 3 objectInit ∈ BIG := inB_r1 _ (List.mem_of_getElem? (i := 9) rfl)
theorem bw_1_10 : Cond.instanceMethod objectInit ∈ BIG := inB_r1 _ (List.mem_of_getElem? (i := 10) rfl)
theorem bw_1_11 : Cond.code objectInit ⟨#[0xb1]⟩ 1 none ∈ BIG := inB_r1 _ (List.mem_of_getElem? (i := 11) rfl)
theorem bw_1_12 : Cond.classLink RX6 9 RX3 ∈ BIG := inB_r1 _ (List.mem_of_getElem? (i := 12) rfl)
theorem bw_1_13 : Cond.instantiable RX3 3 ∈ BIG := inB_r1 _ (List.mem_of_getElem? (i := 13) rfl)
theorem bw_1_14 : Cond.initialized RX3 ∈ BIG := inB_r1 _ (List.mem_of_getElem? (i := 14) rfl)
theorem bw_1_15 : Cond.fieldLink RX6 12 "NotionRounds" "notions" "LNotionRounds$Notions;" ∈ BIG := inB_r1 _ (List.mem_of_getElem? (i := 15) rfl)
theorem bw_1_16 : Cond.classLink RX6 16 RX0 ∈ BIG := inB_r1 _ (List.mem_of_getElem? (i := 16) rfl)
theorem bw_1_17 : Cond.instantiable RX0 2 ∈ BIG := inB_r1 _ (List.mem_of_getElem? (i := 17) rfl)
theorem bw_1_18 : Cond.initialized RX0 ∈ BIG := inB_r1 _ (List.mem_of_getElem? (i := 18) rfl)
theorem bw_1_19 : Cond.fieldLink RX6 19 "NotionRounds" "axioms" "LNotionRounds$Axioms;" ∈ BIG := inB_r1 _ (List.mem_of_getElem? (i := 19) rfl)
theorem bw_1_20 : Cond.classLink RX6 23 RX4 ∈ BIG := inB_r1 _ (List.mem_of_getElem? (i := 20) rfl)
theorem bw_1_21 : Cond.instantiable RX4 2 ∈ BIG := inB_r1 _ (List.mem_of_getElem? (i := 21) rfl)
theorem bw_1_22 : Cond.initialized RX4 ∈ BIG := inB_r1 _ (List.mem_of_getElem? (i := 22) rfl)
theorem bw_1_23 : Cond.fieldLink RX6 26 "NotionRounds" "roles" "LNotionRounds$Roles;" ∈ BIG := inB_r1 _ (List.mem_of_getElem? (i := 23) rfl)
theorem bw_2_0 : Cond.classLink RX6 30 RX1 ∈ BIG := inB_r2 _ (List.mem_of_getElem? (i := 0) rfl)
theorem bw_2_1 : Cond.instantiable RX1 7 ∈ BIG := inB_r2 _ (List.mem_of_getElem? (i := 1) rfl)
theorem bw_2_2 : Cond.initialized RX1 ∈ BIG := inB_r2 _ (List.mem_of_getElem? (i := 2) rfl)
theorem bw_2_3 : Cond.fieldLink RX6 33 "NotionRounds" "conclusions" "LNotionRounds$Conclusions;" ∈ BIG := inB_r2 _ (List.mem_of_getElem? (i := 3) rfl)
theorem bw_2_4 : Cond.classLink RX6 37 RX5 ∈ BIG := inB_r2 _ (List.mem_of_getElem? (i := 4) rfl)
theorem bw_2_5 : Cond.instantiable RX5 5 ∈ BIG := inB_r2 _ (List.mem_of_getElem? (i := 5) rfl)
theorem bw_2_6 : Cond.initialized RX5 ∈ BIG := inB_r2 _ (List.mem_of_getElem? (i := 6) rfl)
theorem bw_2_7 : Cond.fieldLink RX6 42 "NotionRounds" "rules" "LNotionRounds$Rules;" ∈ BIG := inB_r2 _ (List.mem_of_getElem? (i := 7) rfl)
theorem bw_2_8 : Cond.classLink RX6 46 RX2 ∈ BIG := inB_r2 _ (List.mem_of_getElem? (i := 8) rfl)
theorem bw_2_9 : Cond.instantiable RX2 2 ∈ BIG := inB_r2 _ (List.mem_of_getElem? (i := 9) rfl)
theorem bw_2_10 : Cond.initialized RX2 ∈ BIG := inB_r2 _ (List.mem_of_getElem? (i := 10) rfl)
theorem bw_2_11 : Cond.fieldLink RX6 49 "NotionRounds" "house" "LNotionRounds$House;" ∈ BIG := inB_r2 _ (List.mem_of_getElem? (i := 11) rfl)
theorem bw_2_12 : Cond.fieldLink RX6 53 "NotionRounds" "concludes" "I" ∈ BIG := inB_r2 _ (List.mem_of_getElem? (i := 12) rfl)
theorem bw_2_13 : Cond.fieldLink RX6 57 "NotionRounds" "current" "Z" ∈ BIG := inB_r2 _ (List.mem_of_getElem? (i := 13) rfl)
theorem bw_2_14 : Cond.methodLink RX6 11 yX3_init ∈ BIG := inB_r2 _ (List.mem_of_getElem? (i := 14) rfl)
theorem bw_2_15 : Cond.instanceMethod yX3_init ∈ BIG := inB_r2 _ (List.mem_of_getElem? (i := 15) rfl)
theorem bw_2_16 : Cond.code yX3_init cX3_init 1 none ∈ BIG := inB_r2 _ (List.mem_of_getElem? (i := 16) rfl)
theorem bw_2_17 : Cond.methodLink RX3 3 objectInit ∈ BIG := inB_r2 _ (List.mem_of_getElem? (i := 17) rfl)
theorem bw_2_18 : Cond.arrayClass .int ∈ BIG := inB_r2 _ (List.mem_of_getElem? (i := 18) rfl)
theorem bw_2_19 : Cond.fieldLink RX3 9 "NotionRounds$Notions" "parts" "[I" ∈ BIG := inB_r2 _ (List.mem_of_getElem? (i := 19) rfl)
theorem bw_2_20 : Cond.methodLink RX3 15 yX3_add ∈ BIG := inB_r2 _ (List.mem_of_getElem? (i := 20) rfl)
theorem bw_2_21 : Cond.instanceMethod yX3_add ∈ BIG := inB_r2 _ (List.mem_of_getElem? (i := 21) rfl)
theorem bw_2_22 : Cond.selects RX3 yX3_add yX3_add ∈ BIG := inB_r2 _ (List.mem_of_getElem? (i := 22) rfl)
theorem bw_2_23 : Cond.code yX3_add cX3_add 5 (some .int) ∈ BIG := inB_r2 _ (List.mem_of_getElem? (i := 23) rfl)
theorem bw_3_0 : Cond.fieldLink RX3 19 "NotionRounds$Notions" "size" "I" ∈ BIG := inB_r3 _ (List.mem_of_getElem? (i := 0) rfl)
theorem bw_3_1 : Cond.fieldLink RX3 27 "NotionRounds$Notions" "classes" "I" ∈ BIG := inB_r3 _ (List.mem_of_getElem? (i := 1) rfl)
theorem bw_3_2 : Cond.static yX6_put ∈ BIG := inB_r3 _ (List.mem_of_getElem? (i := 2) rfl)
theorem bw_3_3 : Cond.code yX6_put cX6_put 3 none ∈ BIG := inB_r3 _ (List.mem_of_getElem? (i := 3) rfl)
theorem bw_3_4 : Cond.instanceMethod yX0_init ∈ BIG := inB_r3 _ (List.mem_of_getElem? (i := 4) rfl)
theorem bw_3_5 : Cond.code yX0_init cX0_init 1 none ∈ BIG := inB_r3 _ (List.mem_of_getElem? (i := 5) rfl)
theorem bw_3_6 : Cond.methodLink RX0 3 objectInit ∈ BIG := inB_r3 _ (List.mem_of_getElem? (i := 6) rfl)
theorem bw_3_7 : Cond.fieldLink RX0 9 "NotionRounds$Axioms" "parts" "[I" ∈ BIG := inB_r3 _ (List.mem_of_getElem? (i := 7) rfl)
theorem bw_3_8 : Cond.instanceMethod yX4_init ∈ BIG := inB_r3 _ (List.mem_of_getElem? (i := 8) rfl)
theorem bw_3_9 : Cond.code yX4_init cX4_init 1 none ∈ BIG := inB_r3 _ (List.mem_of_getElem? (i := 9) rfl)
theorem bw_3_10 : Cond.methodLink RX4 3 objectInit ∈ BIG := inB_r3 _ (List.mem_of_getElem? (i := 10) rfl)
theorem bw_3_11 : Cond.fieldLink RX4 9 "NotionRounds$Roles" "above" "[I" ∈ BIG := inB_r3 _ (List.mem_of_getElem? (i := 11) rfl)
theorem bw_3_12 : Cond.fieldLink RX4 15 "NotionRounds$Roles" "chains" "[I" ∈ BIG := inB_r3 _ (List.mem_of_getElem? (i := 12) rfl)
theorem bw_3_13 : Cond.instanceMethod yX1_init ∈ BIG := inB_r3 _ (List.mem_of_getElem? (i := 13) rfl)
theorem bw_3_14 : Cond.code yX1_init cX1_init 1 none ∈ BIG := inB_r3 _ (List.mem_of_getElem? (i := 14) rfl)
theorem bw_3_15 : Cond.methodLink RX1 3 objectInit ∈ BIG := inB_r3 _ (List.mem_of_getElem? (i := 15) rfl)
theorem bw_3_16 : Cond.fieldLink RX1 9 "NotionRounds$Conclusions" "numbers" "[I" ∈ BIG := inB_r3 _ (List.mem_of_getElem? (i := 16) rfl)
theorem bw_3_17 : Cond.fieldLink RX1 15 "NotionRounds$Conclusions" "places" "[I" ∈ BIG := inB_r3 _ (List.mem_of_getElem? (i := 17) rfl)
theorem bw_3_18 : Cond.fieldLink RX1 18 "NotionRounds$Conclusions" "roundsOf" "[I" ∈ BIG := inB_r3 _ (List.mem_of_getElem? (i := 18) rfl)
theorem bw_3_19 : Cond.arrayClass .long ∈ BIG := inB_r3 _ (List.mem_of_getElem? (i := 19) rfl)
theorem bw_3_20 : Cond.fieldLink RX1 21 "NotionRounds$Conclusions" "whys" "[J" ∈ BIG := inB_r3 _ (List.mem_of_getElem? (i := 20) rfl)
theorem bw_3_21 : Cond.fieldLink RX1 25 "NotionRounds$Conclusions" "marks" "[I" ∈ BIG := inB_r3 _ (List.mem_of_getElem? (i := 21) rfl)
theorem bw_3_22 : Cond.methodLink RX6 39 yX5_init ∈ BIG := inB_r3 _ (List.mem_of_getElem? (i := 22) rfl)
theorem bw_3_23 : Cond.instanceMethod yX5_init ∈ BIG := inB_r3 _ (List.mem_of_getElem? (i := 23) rfl)
theorem bw_4_0 : Cond.code yX5_init cX5_init 5 none ∈ BIG := inB_r4 _ (List.mem_of_getElem? (i := 0) rfl)
theorem bw_4_1 : Cond.methodLink RX5 3 objectInit ∈ BIG := inB_r4 _ (List.mem_of_getElem? (i := 1) rfl)
theorem bw_4_2 : Cond.fieldLink RX5 9 "NotionRounds$Rules" "offers" "[J" ∈ BIG := inB_r4 _ (List.mem_of_getElem? (i := 2) rfl)
theorem bw_4_3 : Cond.fieldLink RX5 15 "NotionRounds$Rules" "notions" "LNotionRounds$Notions;" ∈ BIG := inB_r4 _ (List.mem_of_getElem? (i := 3) rfl)
theorem bw_4_4 : Cond.fieldLink RX5 19 "NotionRounds$Rules" "axioms" "LNotionRounds$Axioms;" ∈ BIG := inB_r4 _ (List.mem_of_getElem? (i := 4) rfl)
theorem bw_4_5 : Cond.fieldLink RX5 23 "NotionRounds$Rules" "roles" "LNotionRounds$Roles;" ∈ BIG := inB_r4 _ (List.mem_of_getElem? (i := 5) rfl)
theorem bw_4_6 : Cond.fieldLink RX5 27 "NotionRounds$Rules" "conclusions" "LNotionRounds$Conclusions;" ∈ BIG := inB_r4 _ (List.mem_of_getElem? (i := 6) rfl)
theorem bw_4_7 : Cond.instanceMethod yX2_init ∈ BIG := inB_r4 _ (List.mem_of_getElem? (i := 7) rfl)
theorem bw_4_8 : Cond.code yX2_init cX2_init 1 none ∈ BIG := inB_r4 _ (List.mem_of_getElem? (i := 8) rfl)
theorem bw_4_9 : Cond.methodLink RX2 3 objectInit ∈ BIG := inB_r4 _ (List.mem_of_getElem? (i := 9) rfl)
theorem bw_4_10 : Cond.fieldLink RX2 9 "NotionRounds$House" "membersOf" "[I" ∈ BIG := inB_r4 _ (List.mem_of_getElem? (i := 10) rfl)
theorem bw_4_11 : Cond.fieldLink RX2 15 "NotionRounds$House" "partnersOf" "[I" ∈ BIG := inB_r4 _ (List.mem_of_getElem? (i := 11) rfl)
theorem bw_4_12 : Cond.methodLink RL 12 yX7_init ∈ BIG := inB_r4 _ (List.mem_of_getElem? (i := 12) rfl)
theorem bw_4_13 : Cond.instanceMethod yX7_init ∈ BIG := inB_r4 _ (List.mem_of_getElem? (i := 13) rfl)
theorem bw_4_14 : Cond.code yX7_init cX7_init 1 none ∈ BIG := inB_r4 _ (List.mem_of_getElem? (i := 14) rfl)
theorem bw_4_15 : Cond.methodLink RX7 1 objectInit ∈ BIG := inB_r4 _ (List.mem_of_getElem? (i := 15) rfl)
theorem bw_4_16 : Cond.fieldLink RX7 7 "NotionRoundsModel" "sort" "[I" ∈ BIG := inB_r4 _ (List.mem_of_getElem? (i := 16) rfl)
theorem bw_4_17 : Cond.fieldLink RX7 13 "NotionRoundsModel" "one" "[I" ∈ BIG := inB_r4 _ (List.mem_of_getElem? (i := 17) rfl)
theorem bw_4_18 : Cond.fieldLink RX7 16 "NotionRoundsModel" "two" "[I" ∈ BIG := inB_r4 _ (List.mem_of_getElem? (i := 18) rfl)
theorem bw_4_19 : Cond.fieldLink RX7 19 "NotionRoundsModel" "axiomSort" "[I" ∈ BIG := inB_r4 _ (List.mem_of_getElem? (i := 19) rfl)
theorem bw_4_20 : Cond.fieldLink RX7 22 "NotionRoundsModel" "axiomA" "[I" ∈ BIG := inB_r4 _ (List.mem_of_getElem? (i := 20) rfl)
theorem bw_4_21 : Cond.fieldLink RX7 25 "NotionRoundsModel" "axiomB" "[I" ∈ BIG := inB_r4 _ (List.mem_of_getElem? (i := 21) rfl)
theorem bw_4_22 : Cond.fieldLink RX7 28 "NotionRoundsModel" "axiomC" "[I" ∈ BIG := inB_r4 _ (List.mem_of_getElem? (i := 22) rfl)
theorem bw_4_23 : Cond.arrayClass .boolean ∈ BIG := inB_r4 _ (List.mem_of_getElem? (i := 23) rfl)
theorem bw_5_0 : Cond.fieldLink RX7 31 "NotionRoundsModel" "holds" "[Z" ∈ BIG := inB_r5 _ (List.mem_of_getElem? (i := 0) rfl)
theorem bw_5_1 : Cond.constant RX7 35 (36000) ∈ BIG := inB_r5 _ (List.mem_of_getElem? (i := 1) rfl)
theorem bw_5_2 : Cond.fieldLink RX7 36 "NotionRoundsModel" "facts" "[I" ∈ BIG := inB_r5 _ (List.mem_of_getElem? (i := 2) rfl)
theorem bw_5_3 : Cond.fieldLink RX7 39 "NotionRoundsModel" "isAt" "[I" ∈ BIG := inB_r5 _ (List.mem_of_getElem? (i := 3) rfl)
theorem bw_5_4 : Cond.fieldLink RX7 42 "NotionRoundsModel" "toAt" "[I" ∈ BIG := inB_r5 _ (List.mem_of_getElem? (i := 4) rfl)
theorem bw_5_5 : Cond.fieldLink RX7 45 "NotionRoundsModel" "isRule" "[I" ∈ BIG := inB_r5 _ (List.mem_of_getElem? (i := 5) rfl)
theorem bw_5_6 : Cond.fieldLink RX7 48 "NotionRoundsModel" "isFirst" "[I" ∈ BIG := inB_r5 _ (List.mem_of_getElem? (i := 6) rfl)
theorem bw_5_7 : Cond.fieldLink RX7 51 "NotionRoundsModel" "isSecond" "[I" ∈ BIG := inB_r5 _ (List.mem_of_getElem? (i := 7) rfl)
theorem bw_5_8 : Cond.fieldLink RX7 54 "NotionRoundsModel" "isAxiom" "[I" ∈ BIG := inB_r5 _ (List.mem_of_getElem? (i := 8) rfl)
theorem bw_5_9 : Cond.fieldLink RX7 57 "NotionRoundsModel" "toRule" "[I" ∈ BIG := inB_r5 _ (List.mem_of_getElem? (i := 9) rfl)
theorem bw_5_10 : Cond.fieldLink RX7 60 "NotionRoundsModel" "toFirst" "[I" ∈ BIG := inB_r5 _ (List.mem_of_getElem? (i := 10) rfl)
theorem bw_5_11 : Cond.fieldLink RX7 63 "NotionRoundsModel" "toSecond" "[I" ∈ BIG := inB_r5 _ (List.mem_of_getElem? (i := 11) rfl)
theorem bw_5_12 : Cond.fieldLink RX7 66 "NotionRoundsModel" "toAxiom" "[I" ∈ BIG := inB_r5 _ (List.mem_of_getElem? (i := 12) rfl)
theorem bw_5_13 : Cond.fieldLink RX7 69 "NotionRoundsModel" "under" "[Z" ∈ BIG := inB_r5 _ (List.mem_of_getElem? (i := 13) rfl)
theorem bw_5_14 : Cond.fieldLink RX7 72 "NotionRoundsModel" "used" "[Z" ∈ BIG := inB_r5 _ (List.mem_of_getElem? (i := 14) rfl)
theorem bw_5_15 : Cond.fieldLink RX7 75 "NotionRoundsModel" "isThing" "[Z" ∈ BIG := inB_r5 _ (List.mem_of_getElem? (i := 15) rfl)
theorem bw_5_16 : Cond.fieldLink RX7 78 "NotionRoundsModel" "paired" "[Z" ∈ BIG := inB_r5 _ (List.mem_of_getElem? (i := 16) rfl)
theorem bw_5_17 : Cond.fieldLink RX7 81 "NotionRoundsModel" "isOf" "[Z" ∈ BIG := inB_r5 _ (List.mem_of_getElem? (i := 17) rfl)
theorem bw_5_18 : Cond.fieldLink RX7 84 "NotionRoundsModel" "notions" "I" ∈ BIG := inB_r5 _ (List.mem_of_getElem? (i := 18) rfl)
theorem bw_5_19 : Cond.methodLink RL 13 yX6_make ∈ BIG := inB_r5 _ (List.mem_of_getElem? (i := 19) rfl)
theorem bw_5_20 : Cond.instanceMethod yX6_make ∈ BIG := inB_r5 _ (List.mem_of_getElem? (i := 20) rfl)
theorem bw_5_21 : Cond.selects RX6 yX6_make yX6_make ∈ BIG := inB_r5 _ (List.mem_of_getElem? (i := 21) rfl)
theorem bw_5_22 : Cond.code yX6_make cX6_make 1 (some .int) ∈ BIG := inB_r5 _ (List.mem_of_getElem? (i := 22) rfl)
theorem bw_5_23 : Cond.methodLink RX6 64 yX6_addNotion ∈ BIG := inB_r5 _ (List.mem_of_getElem? (i := 23) rfl)
theorem bw_6_0 : Cond.instanceMethod yX6_addNotion ∈ BIG := inB_r6 _ (List.mem_of_getElem? (i := 0) rfl)
theorem bw_6_1 : Cond.selects RX6 yX6_addNotion yX6_addNotion ∈ BIG := inB_r6 _ (List.mem_of_getElem? (i := 1) rfl)
theorem bw_6_2 : Cond.code yX6_addNotion cX6_addNotion 4 (some .int) ∈ BIG := inB_r6 _ (List.mem_of_getElem? (i := 2) rfl)
theorem bw_6_3 : Cond.methodLink RX6 181 yX3_add ∈ BIG := inB_r6 _ (List.mem_of_getElem? (i := 3) rfl)
theorem bw_6_4 : Cond.methodLink RL 17 yX7_make ∈ BIG := inB_r6 _ (List.mem_of_getElem? (i := 4) rfl)
theorem bw_6_5 : Cond.instanceMethod yX7_make ∈ BIG := inB_r6 _ (List.mem_of_getElem? (i := 5) rfl)
theorem bw_6_6 : Cond.selects RX7 yX7_make yX7_make ∈ BIG := inB_r6 _ (List.mem_of_getElem? (i := 6) rfl)
theorem bw_6_7 : Cond.code yX7_make cX7_make 1 (some .int) ∈ BIG := inB_r6 _ (List.mem_of_getElem? (i := 7) rfl)
theorem bw_6_8 : Cond.fieldLink RX7 96 "NotionRoundsModel" "classes" "I" ∈ BIG := inB_r6 _ (List.mem_of_getElem? (i := 8) rfl)
theorem bw_6_9 : Cond.methodLink RX7 99 yX7_made ∈ BIG := inB_r6 _ (List.mem_of_getElem? (i := 9) rfl)
theorem bw_6_10 : Cond.instanceMethod yX7_made ∈ BIG := inB_r6 _ (List.mem_of_getElem? (i := 10) rfl)
theorem bw_6_11 : Cond.selects RX7 yX7_made yX7_made ∈ BIG := inB_r6 _ (List.mem_of_getElem? (i := 11) rfl)
theorem bw_6_12 : Cond.code yX7_made cX7_made 4 (some .int) ∈ BIG := inB_r6 _ (List.mem_of_getElem? (i := 12) rfl)
theorem bw_6_13 : Cond.fieldLink RX7 92 "NotionRoundsModel" "done" "Z" ∈ BIG := inB_r6 _ (List.mem_of_getElem? (i := 13) rfl)
theorem bw_6_14 : Cond.methodLink RL 18 yX6_meet ∈ BIG := inB_r6 _ (List.mem_of_getElem? (i := 14) rfl)
theorem bw_6_15 : Cond.instanceMethod yX6_meet ∈ BIG := inB_r6 _ (List.mem_of_getElem? (i := 15) rfl)
theorem bw_6_16 : Cond.selects RX6 yX6_meet yX6_meet ∈ BIG := inB_r6 _ (List.mem_of_getElem? (i := 16) rfl)
theorem bw_6_17 : Cond.code yX6_meet cX6_meet 3 (some .int) ∈ BIG := inB_r6 _ (List.mem_of_getElem? (i := 17) rfl)
theorem bw_6_18 : Cond.methodLink RX6 72 Lib.Math.min.name ∈ BIG := inB_r6 _ (List.mem_of_getElem? (i := 18) rfl)
theorem bw_6_19 : Cond.static Lib.Math.min.name ∈ BIG := inB_r6 _ (List.mem_of_getElem? (i := 19) rfl)
theorem bw_6_20 : Cond.initialized "java/lang/Math" ∈ BIG := inB_r6 _ (List.mem_of_getElem? (i := 20) rfl)
theorem bw_6_21 : Cond.code Lib.Math.min.name Lib.Math.min.code 2 (some .int) ∈ BIG := inB_r6 _ (List.mem_of_getElem? (i := 21) rfl)
theorem bw_6_22 : Cond.methodLink RX6 78 Lib.Math.max.name ∈ BIG := inB_r6 _ (List.mem_of_getElem? (i := 22) rfl)
theorem bw_6_23 : Cond.static Lib.Math.max.name ∈ BIG := inB_r6 _ (List.mem_of_getElem? (i := 23) rfl)
theorem bw_7_0 : Cond.code Lib.Math.max.name Lib.Math.max.code 2 (some .int) ∈ BIG := inB_r7 _ (List.mem_of_getElem? (i := 0) rfl)
theorem bw_7_1 : Cond.methodLink RX6 68 yX3_knows ∈ BIG := inB_r7 _ (List.mem_of_getElem? (i := 1) rfl)
theorem bw_7_2 : Cond.instanceMethod yX3_knows ∈ BIG := inB_r7 _ (List.mem_of_getElem? (i := 2) rfl)
theorem bw_7_3 : Cond.selects RX3 yX3_knows yX3_knows ∈ BIG := inB_r7 _ (List.mem_of_getElem? (i := 3) rfl)
theorem bw_7_4 : Cond.code yX3_knows cX3_knows 2 (some .boolean) ∈ BIG := inB_r7 _ (List.mem_of_getElem? (i := 4) rfl)
theorem bw_7_5 : Cond.static yX6_within ∈ BIG := inB_r7 _ (List.mem_of_getElem? (i := 5) rfl)
theorem bw_7_6 : Cond.code yX6_within cX6_within 2 (some .boolean) ∈ BIG := inB_r7 _ (List.mem_of_getElem? (i := 6) rfl)
theorem bw_7_7 : Cond.methodLink RX6 81 yX6_findOrAddNotion ∈ BIG := inB_r7 _ (List.mem_of_getElem? (i := 7) rfl)
theorem bw_7_8 : Cond.instanceMethod yX6_findOrAddNotion ∈ BIG := inB_r7 _ (List.mem_of_getElem? (i := 8) rfl)
theorem bw_7_9 : Cond.selects RX6 yX6_findOrAddNotion yX6_findOrAddNotion ∈ BIG := inB_r7 _ (List.mem_of_getElem? (i := 9) rfl)
theorem bw_7_10 : Cond.code yX6_findOrAddNotion cX6_findOrAddNotion 5 (some .int) ∈ BIG := inB_r7 _ (List.mem_of_getElem? (i := 10) rfl)
theorem bw_7_11 : Cond.methodLink RX6 178 yX3_find ∈ BIG := inB_r7 _ (List.mem_of_getElem? (i := 11) rfl)
theorem bw_7_12 : Cond.instanceMethod yX3_find ∈ BIG := inB_r7 _ (List.mem_of_getElem? (i := 12) rfl)
theorem bw_7_13 : Cond.selects RX3 yX3_find yX3_find ∈ BIG := inB_r7 _ (List.mem_of_getElem? (i := 13) rfl)
theorem bw_7_14 : Cond.code yX3_find cX3_find 5 (some .int) ∈ BIG := inB_r7 _ (List.mem_of_getElem? (i := 14) rfl)
theorem bw_7_15 : Cond.methodLink RX3 38 yX3_sort ∈ BIG := inB_r7 _ (List.mem_of_getElem? (i := 15) rfl)
theorem bw_7_16 : Cond.instanceMethod yX3_sort ∈ BIG := inB_r7 _ (List.mem_of_getElem? (i := 16) rfl)
theorem bw_7_17 : Cond.selects RX3 yX3_sort yX3_sort ∈ BIG := inB_r7 _ (List.mem_of_getElem? (i := 17) rfl)
theorem bw_7_18 : Cond.code yX3_sort cX3_sort 2 (some .int) ∈ BIG := inB_r7 _ (List.mem_of_getElem? (i := 18) rfl)
theorem bw_7_19 : Cond.methodLink RX3 46 yX3_part ∈ BIG := inB_r7 _ (List.mem_of_getElem? (i := 19) rfl)
theorem bw_7_20 : Cond.instanceMethod yX3_part ∈ BIG := inB_r7 _ (List.mem_of_getElem? (i := 20) rfl)
theorem bw_7_21 : Cond.selects RX3 yX3_part yX3_part ∈ BIG := inB_r7 _ (List.mem_of_getElem? (i := 21) rfl)
theorem bw_7_22 : Cond.code yX3_part cX3_part 3 (some .int) ∈ BIG := inB_r7 _ (List.mem_of_getElem? (i := 22) rfl)
theorem bw_7_23 : Cond.static yX6_at ∈ BIG := inB_r7 _ (List.mem_of_getElem? (i := 23) rfl)
theorem bw_8_0 : Cond.code yX6_at cX6_at 2 (some .int) ∈ BIG := inB_r8 _ (List.mem_of_getElem? (i := 0) rfl)
theorem bw_8_1 : Cond.methodLink RX3 50 yX3_first ∈ BIG := inB_r8 _ (List.mem_of_getElem? (i := 1) rfl)
theorem bw_8_2 : Cond.instanceMethod yX3_first ∈ BIG := inB_r8 _ (List.mem_of_getElem? (i := 2) rfl)
theorem bw_8_3 : Cond.selects RX3 yX3_first yX3_first ∈ BIG := inB_r8 _ (List.mem_of_getElem? (i := 3) rfl)
theorem bw_8_4 : Cond.code yX3_first cX3_first 2 (some .int) ∈ BIG := inB_r8 _ (List.mem_of_getElem? (i := 4) rfl)
theorem bw_8_5 : Cond.methodLink RX3 53 yX3_second ∈ BIG := inB_r8 _ (List.mem_of_getElem? (i := 5) rfl)
theorem bw_8_6 : Cond.instanceMethod yX3_second ∈ BIG := inB_r8 _ (List.mem_of_getElem? (i := 6) rfl)
theorem bw_8_7 : Cond.selects RX3 yX3_second yX3_second ∈ BIG := inB_r8 _ (List.mem_of_getElem? (i := 7) rfl)
theorem bw_8_8 : Cond.code yX3_second cX3_second 2 (some .int) ∈ BIG := inB_r8 _ (List.mem_of_getElem? (i := 8) rfl)
theorem bw_8_9 : Cond.methodLink RL 22 yX7_meet ∈ BIG := inB_r8 _ (List.mem_of_getElem? (i := 9) rfl)
theorem bw_8_10 : Cond.instanceMethod yX7_meet ∈ BIG := inB_r8 _ (List.mem_of_getElem? (i := 10) rfl)
theorem bw_8_11 : Cond.selects RX7 yX7_meet yX7_meet ∈ BIG := inB_r8 _ (List.mem_of_getElem? (i := 11) rfl)
theorem bw_8_12 : Cond.code yX7_meet cX7_meet 6 (some .int) ∈ BIG := inB_r8 _ (List.mem_of_getElem? (i := 12) rfl)
theorem bw_8_13 : Cond.methodLink RX7 103 yX7_isNotion ∈ BIG := inB_r8 _ (List.mem_of_getElem? (i := 13) rfl)
theorem bw_8_14 : Cond.instanceMethod yX7_isNotion ∈ BIG := inB_r8 _ (List.mem_of_getElem? (i := 14) rfl)
theorem bw_8_15 : Cond.selects RX7 yX7_isNotion yX7_isNotion ∈ BIG := inB_r8 _ (List.mem_of_getElem? (i := 15) rfl)
theorem bw_8_16 : Cond.code yX7_isNotion cX7_isNotion 2 (some .boolean) ∈ BIG := inB_r8 _ (List.mem_of_getElem? (i := 16) rfl)
theorem bw_8_17 : Cond.methodLink RX7 88 yX7_in ∈ BIG := inB_r8 _ (List.mem_of_getElem? (i := 17) rfl)
theorem bw_8_18 : Cond.static yX7_in ∈ BIG := inB_r8 _ (List.mem_of_getElem? (i := 18) rfl)
theorem bw_8_19 : Cond.code yX7_in cX7_in 3 (some .boolean) ∈ BIG := inB_r8 _ (List.mem_of_getElem? (i := 19) rfl)
theorem bw_8_20 : Cond.methodLink RX7 107 yX7_found ∈ BIG := inB_r8 _ (List.mem_of_getElem? (i := 20) rfl)
theorem bw_8_21 : Cond.instanceMethod yX7_found ∈ BIG := inB_r8 _ (List.mem_of_getElem? (i := 21) rfl)
theorem bw_8_22 : Cond.selects RX7 yX7_found yX7_found ∈ BIG := inB_r8 _ (List.mem_of_getElem? (i := 22) rfl)
theorem bw_8_23 : Cond.code yX7_found cX7_found 5 (some .int) ∈ BIG := inB_r8 _ (List.mem_of_getElem? (i := 23) rfl)
theorem bw_9_0 : Cond.methodLink RL 23 yX6_has ∈ BIG := inB_r9 _ (List.mem_of_getElem? (i := 0) rfl)
theorem bw_9_1 : Cond.instanceMethod yX6_has ∈ BIG := inB_r9 _ (List.mem_of_getElem? (i := 1) rfl)
theorem bw_9_2 : Cond.selects RX6 yX6_has yX6_has ∈ BIG := inB_r9 _ (List.mem_of_getElem? (i := 2) rfl)
theorem bw_9_3 : Cond.code yX6_has cX6_has 3 (some .int) ∈ BIG := inB_r9 _ (List.mem_of_getElem? (i := 3) rfl)
theorem bw_9_4 : Cond.methodLink RX6 84 yX6_isRole ∈ BIG := inB_r9 _ (List.mem_of_getElem? (i := 4) rfl)
theorem bw_9_5 : Cond.static yX6_isRole ∈ BIG := inB_r9 _ (List.mem_of_getElem? (i := 5) rfl)
theorem bw_9_6 : Cond.code yX6_isRole cX6_isRole 1 (some .boolean) ∈ BIG := inB_r9 _ (List.mem_of_getElem? (i := 6) rfl)
theorem bw_9_7 : Cond.methodLink RX6 98 yX6_within ∈ BIG := inB_r9 _ (List.mem_of_getElem? (i := 7) rfl)
theorem bw_9_8 : Cond.methodLink RL 26 yX7_has ∈ BIG := inB_r9 _ (List.mem_of_getElem? (i := 8) rfl)
theorem bw_9_9 : Cond.instanceMethod yX7_has ∈ BIG := inB_r9 _ (List.mem_of_getElem? (i := 9) rfl)
theorem bw_9_10 : Cond.selects RX7 yX7_has yX7_has ∈ BIG := inB_r9 _ (List.mem_of_getElem? (i := 10) rfl)
theorem bw_9_11 : Cond.code yX7_has cX7_has 4 (some .int) ∈ BIG := inB_r9 _ (List.mem_of_getElem? (i := 11) rfl)
theorem bw_9_12 : Cond.methodLink RX7 110 yX7_isRole ∈ BIG := inB_r9 _ (List.mem_of_getElem? (i := 12) rfl)
theorem bw_9_13 : Cond.static yX7_isRole ∈ BIG := inB_r9 _ (List.mem_of_getElem? (i := 13) rfl)
theorem bw_9_14 : Cond.code yX7_isRole cX7_isRole 1 (some .boolean) ∈ BIG := inB_r9 _ (List.mem_of_getElem? (i := 14) rfl)
theorem bw_9_15 : Cond.methodLink RL 27 yX6_say ∈ BIG := inB_r9 _ (List.mem_of_getElem? (i := 15) rfl)
theorem bw_9_16 : Cond.instanceMethod yX6_say ∈ BIG := inB_r9 _ (List.mem_of_getElem? (i := 16) rfl)
theorem bw_9_17 : Cond.selects RX6 yX6_say yX6_say ∈ BIG := inB_r9 _ (List.mem_of_getElem? (i := 17) rfl)
theorem bw_9_18 : Cond.code yX6_say cX6_say 3 (some .int) ∈ BIG := inB_r9 _ (List.mem_of_getElem? (i := 18) rfl)
theorem bw_9_19 : Cond.methodLink RX6 87 yX6_addAxiom ∈ BIG := inB_r9 _ (List.mem_of_getElem? (i := 19) rfl)
theorem bw_9_20 : Cond.instanceMethod yX6_addAxiom ∈ BIG := inB_r9 _ (List.mem_of_getElem? (i := 20) rfl)
theorem bw_9_21 : Cond.selects RX6 yX6_addAxiom yX6_addAxiom ∈ BIG := inB_r9 _ (List.mem_of_getElem? (i := 21) rfl)
theorem bw_9_22 : Cond.code yX6_addAxiom cX6_addAxiom 5 (some .int) ∈ BIG := inB_r9 _ (List.mem_of_getElem? (i := 22) rfl)
theorem bw_9_23 : Cond.methodLink RX6 184 yX0_add ∈ BIG := inB_r9 _ (List.mem_of_getElem? (i := 23) rfl)
theorem bw_10_0 : Cond.instanceMethod yX0_add ∈ BIG := inB_r10 _ (List.mem_of_getElem? (i := 0) rfl)
theorem bw_10_1 : Cond.selects RX0 yX0_add yX0_add ∈ BIG := inB_r10 _ (List.mem_of_getElem? (i := 1) rfl)
theorem bw_10_2 : Cond.code yX0_add cX0_add 6 (some .int) ∈ BIG := inB_r10 _ (List.mem_of_getElem? (i := 2) rfl)
theorem bw_10_3 : Cond.fieldLink RX0 15 "NotionRounds$Axioms" "size" "I" ∈ BIG := inB_r10 _ (List.mem_of_getElem? (i := 3) rfl)
theorem bw_10_4 : Cond.methodLink RL 30 yX7_say ∈ BIG := inB_r10 _ (List.mem_of_getElem? (i := 4) rfl)
theorem bw_10_5 : Cond.instanceMethod yX7_say ∈ BIG := inB_r10 _ (List.mem_of_getElem? (i := 5) rfl)
theorem bw_10_6 : Cond.selects RX7 yX7_say yX7_say ∈ BIG := inB_r10 _ (List.mem_of_getElem? (i := 6) rfl)
theorem bw_10_7 : Cond.code yX7_say cX7_say 3 (some .int) ∈ BIG := inB_r10 _ (List.mem_of_getElem? (i := 7) rfl)
theorem bw_10_8 : Cond.methodLink RX7 116 yX7_said ∈ BIG := inB_r10 _ (List.mem_of_getElem? (i := 8) rfl)
theorem bw_10_9 : Cond.instanceMethod yX7_said ∈ BIG := inB_r10 _ (List.mem_of_getElem? (i := 9) rfl)
theorem bw_10_10 : Cond.selects RX7 yX7_said yX7_said ∈ BIG := inB_r10 _ (List.mem_of_getElem? (i := 10) rfl)
theorem bw_10_11 : Cond.code yX7_said cX7_said 5 (some .int) ∈ BIG := inB_r10 _ (List.mem_of_getElem? (i := 11) rfl)
theorem bw_10_12 : Cond.fieldLink RX7 113 "NotionRoundsModel" "axioms" "I" ∈ BIG := inB_r10 _ (List.mem_of_getElem? (i := 12) rfl)
theorem bw_10_13 : Cond.methodLink RL 31 yX6_role ∈ BIG := inB_r10 _ (List.mem_of_getElem? (i := 13) rfl)
theorem bw_10_14 : Cond.instanceMethod yX6_role ∈ BIG := inB_r10 _ (List.mem_of_getElem? (i := 14) rfl)
theorem bw_10_15 : Cond.selects RX6 yX6_role yX6_role ∈ BIG := inB_r10 _ (List.mem_of_getElem? (i := 15) rfl)
theorem bw_10_16 : Cond.code yX6_role cX6_role 3 (some .int) ∈ BIG := inB_r10 _ (List.mem_of_getElem? (i := 16) rfl)
theorem bw_10_17 : Cond.methodLink RL 34 yX7_role ∈ BIG := inB_r10 _ (List.mem_of_getElem? (i := 17) rfl)
theorem bw_10_18 : Cond.instanceMethod yX7_role ∈ BIG := inB_r10 _ (List.mem_of_getElem? (i := 18) rfl)
theorem bw_10_19 : Cond.selects RX7 yX7_role yX7_role ∈ BIG := inB_r10 _ (List.mem_of_getElem? (i := 19) rfl)
theorem bw_10_20 : Cond.code yX7_role cX7_role 3 (some .int) ∈ BIG := inB_r10 _ (List.mem_of_getElem? (i := 20) rfl)
theorem bw_10_21 : Cond.methodLink RL 35 yX6_chain ∈ BIG := inB_r10 _ (List.mem_of_getElem? (i := 21) rfl)
theorem bw_10_22 : Cond.instanceMethod yX6_chain ∈ BIG := inB_r10 _ (List.mem_of_getElem? (i := 22) rfl)
theorem bw_10_23 : Cond.selects RX6 yX6_chain yX6_chain ∈ BIG := inB_r10 _ (List.mem_of_getElem? (i := 23) rfl)
theorem bw_11_0 : Cond.code yX6_chain cX6_chain 4 (some .int) ∈ BIG := inB_r11 _ (List.mem_of_getElem? (i := 0) rfl)
theorem bw_11_1 : Cond.methodLink RL 39 yX7_chain ∈ BIG := inB_r11 _ (List.mem_of_getElem? (i := 1) rfl)
theorem bw_11_2 : Cond.instanceMethod yX7_chain ∈ BIG := inB_r11 _ (List.mem_of_getElem? (i := 2) rfl)
theorem bw_11_3 : Cond.selects RX7 yX7_chain yX7_chain ∈ BIG := inB_r11 _ (List.mem_of_getElem? (i := 3) rfl)
theorem bw_11_4 : Cond.code yX7_chain cX7_chain 4 (some .int) ∈ BIG := inB_r11 _ (List.mem_of_getElem? (i := 4) rfl)
theorem bw_11_5 : Cond.methodLink RL 40 yX6_unsay ∈ BIG := inB_r11 _ (List.mem_of_getElem? (i := 5) rfl)
theorem bw_11_6 : Cond.instanceMethod yX6_unsay ∈ BIG := inB_r11 _ (List.mem_of_getElem? (i := 6) rfl)
theorem bw_11_7 : Cond.selects RX6 yX6_unsay yX6_unsay ∈ BIG := inB_r11 _ (List.mem_of_getElem? (i := 7) rfl)
theorem bw_11_8 : Cond.code yX6_unsay cX6_unsay 2 (some .int) ∈ BIG := inB_r11 _ (List.mem_of_getElem? (i := 8) rfl)
theorem bw_11_9 : Cond.methodLink RX6 91 yX0_holding ∈ BIG := inB_r11 _ (List.mem_of_getElem? (i := 9) rfl)
theorem bw_11_10 : Cond.instanceMethod yX0_holding ∈ BIG := inB_r11 _ (List.mem_of_getElem? (i := 10) rfl)
theorem bw_11_11 : Cond.selects RX0 yX0_holding yX0_holding ∈ BIG := inB_r11 _ (List.mem_of_getElem? (i := 11) rfl)
theorem bw_11_12 : Cond.code yX0_holding cX0_holding 2 (some .boolean) ∈ BIG := inB_r11 _ (List.mem_of_getElem? (i := 12) rfl)
theorem bw_11_13 : Cond.methodLink RX0 31 yX0_knows ∈ BIG := inB_r11 _ (List.mem_of_getElem? (i := 13) rfl)
theorem bw_11_14 : Cond.instanceMethod yX0_knows ∈ BIG := inB_r11 _ (List.mem_of_getElem? (i := 14) rfl)
theorem bw_11_15 : Cond.selects RX0 yX0_knows yX0_knows ∈ BIG := inB_r11 _ (List.mem_of_getElem? (i := 15) rfl)
theorem bw_11_16 : Cond.code yX0_knows cX0_knows 2 (some .boolean) ∈ BIG := inB_r11 _ (List.mem_of_getElem? (i := 16) rfl)
theorem bw_11_17 : Cond.methodLink RX0 35 yX0_part ∈ BIG := inB_r11 _ (List.mem_of_getElem? (i := 17) rfl)
theorem bw_11_18 : Cond.instanceMethod yX0_part ∈ BIG := inB_r11 _ (List.mem_of_getElem? (i := 18) rfl)
theorem bw_11_19 : Cond.selects RX0 yX0_part yX0_part ∈ BIG := inB_r11 _ (List.mem_of_getElem? (i := 19) rfl)
theorem bw_11_20 : Cond.code yX0_part cX0_part 3 (some .int) ∈ BIG := inB_r11 _ (List.mem_of_getElem? (i := 20) rfl)
theorem bw_11_21 : Cond.methodLink RX6 94 yX0_takeBack ∈ BIG := inB_r11 _ (List.mem_of_getElem? (i := 21) rfl)
theorem bw_11_22 : Cond.instanceMethod yX0_takeBack ∈ BIG := inB_r11 _ (List.mem_of_getElem? (i := 22) rfl)
theorem bw_11_23 : Cond.selects RX0 yX0_takeBack yX0_takeBack ∈ BIG := inB_r11 _ (List.mem_of_getElem? (i := 23) rfl)
theorem bw_12_0 : Cond.code yX0_takeBack cX0_takeBack 2 none ∈ BIG := inB_r12 _ (List.mem_of_getElem? (i := 0) rfl)
theorem bw_12_1 : Cond.methodLink RL 44 yX7_unsay ∈ BIG := inB_r12 _ (List.mem_of_getElem? (i := 1) rfl)
theorem bw_12_2 : Cond.instanceMethod yX7_unsay ∈ BIG := inB_r12 _ (List.mem_of_getElem? (i := 2) rfl)
theorem bw_12_3 : Cond.selects RX7 yX7_unsay yX7_unsay ∈ BIG := inB_r12 _ (List.mem_of_getElem? (i := 3) rfl)
theorem bw_12_4 : Cond.code yX7_unsay cX7_unsay 2 (some .int) ∈ BIG := inB_r12 _ (List.mem_of_getElem? (i := 4) rfl)
theorem bw_12_5 : Cond.methodLink RL 45 yX6_notion ∈ BIG := inB_r12 _ (List.mem_of_getElem? (i := 5) rfl)
theorem bw_12_6 : Cond.instanceMethod yX6_notion ∈ BIG := inB_r12 _ (List.mem_of_getElem? (i := 6) rfl)
theorem bw_12_7 : Cond.selects RX6 yX6_notion yX6_notion ∈ BIG := inB_r12 _ (List.mem_of_getElem? (i := 7) rfl)
theorem bw_12_8 : Cond.code yX6_notion cX6_notion 3 (some .int) ∈ BIG := inB_r12 _ (List.mem_of_getElem? (i := 8) rfl)
theorem bw_12_9 : Cond.methodLink RX6 102 yX3_part ∈ BIG := inB_r12 _ (List.mem_of_getElem? (i := 9) rfl)
theorem bw_12_10 : Cond.methodLink RL 48 yX7_notion ∈ BIG := inB_r12 _ (List.mem_of_getElem? (i := 10) rfl)
theorem bw_12_11 : Cond.instanceMethod yX7_notion ∈ BIG := inB_r12 _ (List.mem_of_getElem? (i := 11) rfl)
theorem bw_12_12 : Cond.selects RX7 yX7_notion yX7_notion ∈ BIG := inB_r12 _ (List.mem_of_getElem? (i := 12) rfl)
theorem bw_12_13 : Cond.code yX7_notion cX7_notion 3 (some .int) ∈ BIG := inB_r12 _ (List.mem_of_getElem? (i := 13) rfl)
theorem bw_12_14 : Cond.methodLink RL 49 yX6_axiom ∈ BIG := inB_r12 _ (List.mem_of_getElem? (i := 14) rfl)
theorem bw_12_15 : Cond.instanceMethod yX6_axiom ∈ BIG := inB_r12 _ (List.mem_of_getElem? (i := 15) rfl)
theorem bw_12_16 : Cond.selects RX6 yX6_axiom yX6_axiom ∈ BIG := inB_r12 _ (List.mem_of_getElem? (i := 16) rfl)
theorem bw_12_17 : Cond.code yX6_axiom cX6_axiom 3 (some .int) ∈ BIG := inB_r12 _ (List.mem_of_getElem? (i := 17) rfl)
theorem bw_12_18 : Cond.methodLink RX6 105 yX0_knows ∈ BIG := inB_r12 _ (List.mem_of_getElem? (i := 18) rfl)
theorem bw_12_19 : Cond.methodLink RX6 106 yX0_part ∈ BIG := inB_r12 _ (List.mem_of_getElem? (i := 19) rfl)
theorem bw_12_20 : Cond.methodLink RL 52 yX7_axiom ∈ BIG := inB_r12 _ (List.mem_of_getElem? (i := 20) rfl)
theorem bw_12_21 : Cond.instanceMethod yX7_axiom ∈ BIG := inB_r12 _ (List.mem_of_getElem? (i := 21) rfl)
theorem bw_12_22 : Cond.selects RX7 yX7_axiom yX7_axiom ∈ BIG := inB_r12 _ (List.mem_of_getElem? (i := 22) rfl)
theorem bw_12_23 : Cond.code yX7_axiom cX7_axiom 3 (some .int) ∈ BIG := inB_r12 _ (List.mem_of_getElem? (i := 23) rfl)
theorem bw_13_0 : Cond.methodLink RL 53 yX6_conclude ∈ BIG := inB_r13 _ (List.mem_of_getElem? (i := 0) rfl)
theorem bw_13_1 : Cond.instanceMethod yX6_conclude ∈ BIG := inB_r13 _ (List.mem_of_getElem? (i := 1) rfl)
theorem bw_13_2 : Cond.selects RX6 yX6_conclude yX6_conclude ∈ BIG := inB_r13 _ (List.mem_of_getElem? (i := 2) rfl)
theorem bw_13_3 : Cond.code yX6_conclude cX6_conclude 1 (some .int) ∈ BIG := inB_r13 _ (List.mem_of_getElem? (i := 3) rfl)
theorem bw_13_4 : Cond.methodLink RX6 107 yX5_concludeAll ∈ BIG := inB_r13 _ (List.mem_of_getElem? (i := 4) rfl)
theorem bw_13_5 : Cond.instanceMethod yX5_concludeAll ∈ BIG := inB_r13 _ (List.mem_of_getElem? (i := 5) rfl)
theorem bw_13_6 : Cond.selects RX5 yX5_concludeAll yX5_concludeAll ∈ BIG := inB_r13 _ (List.mem_of_getElem? (i := 6) rfl)
theorem bw_13_7 : Cond.code yX5_concludeAll cX5_concludeAll 4 none ∈ BIG := inB_r13 _ (List.mem_of_getElem? (i := 7) rfl)
theorem bw_13_8 : Cond.methodLink RX5 31 yX1_clear ∈ BIG := inB_r13 _ (List.mem_of_getElem? (i := 8) rfl)
theorem bw_13_9 : Cond.instanceMethod yX1_clear ∈ BIG := inB_r13 _ (List.mem_of_getElem? (i := 9) rfl)
theorem bw_13_10 : Cond.selects RX1 yX1_clear yX1_clear ∈ BIG := inB_r13 _ (List.mem_of_getElem? (i := 10) rfl)
theorem bw_13_11 : Cond.code yX1_clear cX1_clear 1 none ∈ BIG := inB_r13 _ (List.mem_of_getElem? (i := 11) rfl)
theorem bw_13_12 : Cond.fieldLink RX1 32 "NotionRounds$Conclusions" "size" "I" ∈ BIG := inB_r13 _ (List.mem_of_getElem? (i := 12) rfl)
theorem bw_13_13 : Cond.fieldLink RX1 36 "NotionRounds$Conclusions" "lastRound" "I" ∈ BIG := inB_r13 _ (List.mem_of_getElem? (i := 13) rfl)
theorem bw_13_14 : Cond.static yX6_fill ∈ BIG := inB_r13 _ (List.mem_of_getElem? (i := 14) rfl)
theorem bw_13_15 : Cond.code yX6_fill cX6_fill 3 none ∈ BIG := inB_r13 _ (List.mem_of_getElem? (i := 15) rfl)
theorem bw_13_16 : Cond.methodLink RX5 36 yX4_learn ∈ BIG := inB_r13 _ (List.mem_of_getElem? (i := 16) rfl)
theorem bw_13_17 : Cond.instanceMethod yX4_learn ∈ BIG := inB_r13 _ (List.mem_of_getElem? (i := 17) rfl)
theorem bw_13_18 : Cond.selects RX4 yX4_learn yX4_learn ∈ BIG := inB_r13 _ (List.mem_of_getElem? (i := 18) rfl)
theorem bw_13_19 : Cond.code yX4_learn cX4_learn 3 none ∈ BIG := inB_r13 _ (List.mem_of_getElem? (i := 19) rfl)
theorem bw_13_20 : Cond.methodLink RX4 32 yX0_holdingOf ∈ BIG := inB_r13 _ (List.mem_of_getElem? (i := 20) rfl)
theorem bw_13_21 : Cond.instanceMethod yX0_holdingOf ∈ BIG := inB_r13 _ (List.mem_of_getElem? (i := 21) rfl)
theorem bw_13_22 : Cond.selects RX0 yX0_holdingOf yX0_holdingOf ∈ BIG := inB_r13 _ (List.mem_of_getElem? (i := 22) rfl)
theorem bw_13_23 : Cond.code yX0_holdingOf cX0_holdingOf 3 (some .boolean) ∈ BIG := inB_r13 _ (List.mem_of_getElem? (i := 23) rfl)
theorem bw_14_0 : Cond.methodLink RX4 36 yX0_part ∈ BIG := inB_r14 _ (List.mem_of_getElem? (i := 0) rfl)
theorem bw_14_1 : Cond.methodLink RX4 40 yX4_joinThrough ∈ BIG := inB_r14 _ (List.mem_of_getElem? (i := 1) rfl)
theorem bw_14_2 : Cond.instanceMethod yX4_joinThrough ∈ BIG := inB_r14 _ (List.mem_of_getElem? (i := 2) rfl)
theorem bw_14_3 : Cond.selects RX4 yX4_joinThrough yX4_joinThrough ∈ BIG := inB_r14 _ (List.mem_of_getElem? (i := 3) rfl)
theorem bw_14_4 : Cond.code yX4_joinThrough cX4_joinThrough 4 none ∈ BIG := inB_r14 _ (List.mem_of_getElem? (i := 4) rfl)
theorem bw_14_5 : Cond.methodLink RX4 56 yX4_goesUnder ∈ BIG := inB_r14 _ (List.mem_of_getElem? (i := 5) rfl)
theorem bw_14_6 : Cond.instanceMethod yX4_goesUnder ∈ BIG := inB_r14 _ (List.mem_of_getElem? (i := 6) rfl)
theorem bw_14_7 : Cond.selects RX4 yX4_goesUnder yX4_goesUnder ∈ BIG := inB_r14 _ (List.mem_of_getElem? (i := 7) rfl)
theorem bw_14_8 : Cond.code yX4_goesUnder cX4_goesUnder 3 (some .boolean) ∈ BIG := inB_r14 _ (List.mem_of_getElem? (i := 8) rfl)
theorem bw_14_9 : Cond.methodLink RX4 44 yX4_learnChain ∈ BIG := inB_r14 _ (List.mem_of_getElem? (i := 9) rfl)
theorem bw_14_10 : Cond.instanceMethod yX4_learnChain ∈ BIG := inB_r14 _ (List.mem_of_getElem? (i := 10) rfl)
theorem bw_14_11 : Cond.selects RX4 yX4_learnChain yX4_learnChain ∈ BIG := inB_r14 _ (List.mem_of_getElem? (i := 11) rfl)
theorem bw_14_12 : Cond.code yX4_learnChain cX4_learnChain 7 none ∈ BIG := inB_r14 _ (List.mem_of_getElem? (i := 12) rfl)
theorem bw_14_13 : Cond.methodLink RX4 59 yX4_axiomOfChain ∈ BIG := inB_r14 _ (List.mem_of_getElem? (i := 13) rfl)
theorem bw_14_14 : Cond.instanceMethod yX4_axiomOfChain ∈ BIG := inB_r14 _ (List.mem_of_getElem? (i := 14) rfl)
theorem bw_14_15 : Cond.selects RX4 yX4_axiomOfChain yX4_axiomOfChain ∈ BIG := inB_r14 _ (List.mem_of_getElem? (i := 15) rfl)
theorem bw_14_16 : Cond.code yX4_axiomOfChain cX4_axiomOfChain 4 (some .int) ∈ BIG := inB_r14 _ (List.mem_of_getElem? (i := 16) rfl)
theorem bw_14_17 : Cond.methodLink RX4 52 yX4_placeOfChain ∈ BIG := inB_r14 _ (List.mem_of_getElem? (i := 17) rfl)
theorem bw_14_18 : Cond.static yX4_placeOfChain ∈ BIG := inB_r14 _ (List.mem_of_getElem? (i := 18) rfl)
theorem bw_14_19 : Cond.code yX4_placeOfChain cX4_placeOfChain 3 (some .int) ∈ BIG := inB_r14 _ (List.mem_of_getElem? (i := 19) rfl)
theorem bw_14_20 : Cond.methodLink RX5 42 yX5_clearOffers ∈ BIG := inB_r14 _ (List.mem_of_getElem? (i := 20) rfl)
theorem bw_14_21 : Cond.instanceMethod yX5_clearOffers ∈ BIG := inB_r14 _ (List.mem_of_getElem? (i := 21) rfl)
theorem bw_14_22 : Cond.selects RX5 yX5_clearOffers yX5_clearOffers ∈ BIG := inB_r14 _ (List.mem_of_getElem? (i := 22) rfl)
theorem bw_14_23 : Cond.code yX5_clearOffers cX5_clearOffers 2 none ∈ BIG := inB_r14 _ (List.mem_of_getElem? (i := 23) rfl)
theorem bw_15_0 : Cond.constantLong RX5 60 (4611686018427387904) ∈ BIG := inB_r15 _ (List.mem_of_getElem? (i := 0) rfl)
theorem bw_15_1 : Cond.methodLink RX5 45 yX5_offerSeeds ∈ BIG := inB_r15 _ (List.mem_of_getElem? (i := 1) rfl)
theorem bw_15_2 : Cond.instanceMethod yX5_offerSeeds ∈ BIG := inB_r15 _ (List.mem_of_getElem? (i := 2) rfl)
theorem bw_15_3 : Cond.selects RX5 yX5_offerSeeds yX5_offerSeeds ∈ BIG := inB_r15 _ (List.mem_of_getElem? (i := 3) rfl)
theorem bw_15_4 : Cond.code yX5_offerSeeds cX5_offerSeeds 2 none ∈ BIG := inB_r15 _ (List.mem_of_getElem? (i := 4) rfl)
theorem bw_15_5 : Cond.methodLink RX5 80 yX3_seed ∈ BIG := inB_r15 _ (List.mem_of_getElem? (i := 5) rfl)
theorem bw_15_6 : Cond.instanceMethod yX3_seed ∈ BIG := inB_r15 _ (List.mem_of_getElem? (i := 6) rfl)
theorem bw_15_7 : Cond.selects RX3 yX3_seed yX3_seed ∈ BIG := inB_r15 _ (List.mem_of_getElem? (i := 7) rfl)
theorem bw_15_8 : Cond.code yX3_seed cX3_seed 2 (some .boolean) ∈ BIG := inB_r15 _ (List.mem_of_getElem? (i := 8) rfl)
theorem bw_15_9 : Cond.methodLink RX5 83 yX5_offerBegun ∈ BIG := inB_r15 _ (List.mem_of_getElem? (i := 9) rfl)
theorem bw_15_10 : Cond.instanceMethod yX5_offerBegun ∈ BIG := inB_r15 _ (List.mem_of_getElem? (i := 10) rfl)
theorem bw_15_11 : Cond.selects RX5 yX5_offerBegun yX5_offerBegun ∈ BIG := inB_r15 _ (List.mem_of_getElem? (i := 11) rfl)
theorem bw_15_12 : Cond.code yX5_offerBegun cX5_offerBegun 3 none ∈ BIG := inB_r15 _ (List.mem_of_getElem? (i := 12) rfl)
theorem bw_15_13 : Cond.static yX6_placeOfIs ∈ BIG := inB_r15 _ (List.mem_of_getElem? (i := 13) rfl)
theorem bw_15_14 : Cond.code yX6_placeOfIs cX6_placeOfIs 2 (some .int) ∈ BIG := inB_r15 _ (List.mem_of_getElem? (i := 14) rfl)
theorem bw_15_15 : Cond.static yX6_whyOf ∈ BIG := inB_r15 _ (List.mem_of_getElem? (i := 15) rfl)
theorem bw_15_16 : Cond.code yX6_whyOf cX6_whyOf 4 (some .long) ∈ BIG := inB_r15 _ (List.mem_of_getElem? (i := 16) rfl)
theorem bw_15_17 : Cond.methodLink RX5 125 yX5_offer ∈ BIG := inB_r15 _ (List.mem_of_getElem? (i := 17) rfl)
theorem bw_15_18 : Cond.instanceMethod yX5_offer ∈ BIG := inB_r15 _ (List.mem_of_getElem? (i := 18) rfl)
theorem bw_15_19 : Cond.selects RX5 yX5_offer yX5_offer ∈ BIG := inB_r15 _ (List.mem_of_getElem? (i := 19) rfl)
theorem bw_15_20 : Cond.code yX5_offer cX5_offer 4 none ∈ BIG := inB_r15 _ (List.mem_of_getElem? (i := 20) rfl)
theorem bw_15_21 : Cond.static yX6_longAt ∈ BIG := inB_r15 _ (List.mem_of_getElem? (i := 21) rfl)
theorem bw_15_22 : Cond.code yX6_longAt cX6_longAt 2 (some .long) ∈ BIG := inB_r15 _ (List.mem_of_getElem? (i := 22) rfl)
theorem bw_15_23 : Cond.constantLong RX6 199 (4611686018427387904) ∈ BIG := inB_r15 _ (List.mem_of_getElem? (i := 23) rfl)
theorem bw_16_0 : Cond.methodLink RX5 70 yX1_saysAt ∈ BIG := inB_r16 _ (List.mem_of_getElem? (i := 0) rfl)
theorem bw_16_1 : Cond.instanceMethod yX1_saysAt ∈ BIG := inB_r16 _ (List.mem_of_getElem? (i := 1) rfl)
theorem bw_16_2 : Cond.selects RX1 yX1_saysAt yX1_saysAt ∈ BIG := inB_r16 _ (List.mem_of_getElem? (i := 2) rfl)
theorem bw_16_3 : Cond.code yX1_saysAt cX1_saysAt 2 (some .boolean) ∈ BIG := inB_r16 _ (List.mem_of_getElem? (i := 3) rfl)
theorem bw_16_4 : Cond.static yX6_putLong ∈ BIG := inB_r16 _ (List.mem_of_getElem? (i := 4) rfl)
theorem bw_16_5 : Cond.code yX6_putLong cX6_putLong 4 none ∈ BIG := inB_r16 _ (List.mem_of_getElem? (i := 5) rfl)
theorem bw_16_6 : Cond.methodLink RX5 52 yX5_offerFrom ∈ BIG := inB_r16 _ (List.mem_of_getElem? (i := 6) rfl)
theorem bw_16_7 : Cond.instanceMethod yX5_offerFrom ∈ BIG := inB_r16 _ (List.mem_of_getElem? (i := 7) rfl)
theorem bw_16_8 : Cond.selects RX5 yX5_offerFrom yX5_offerFrom ∈ BIG := inB_r16 _ (List.mem_of_getElem? (i := 8) rfl)
theorem bw_16_9 : Cond.code yX5_offerFrom cX5_offerFrom 5 none ∈ BIG := inB_r16 _ (List.mem_of_getElem? (i := 9) rfl)
theorem bw_16_10 : Cond.methodLink RX5 87 yX1_placeOf ∈ BIG := inB_r16 _ (List.mem_of_getElem? (i := 10) rfl)
theorem bw_16_11 : Cond.instanceMethod yX1_placeOf ∈ BIG := inB_r16 _ (List.mem_of_getElem? (i := 11) rfl)
theorem bw_16_12 : Cond.selects RX1 yX1_placeOf yX1_placeOf ∈ BIG := inB_r16 _ (List.mem_of_getElem? (i := 12) rfl)
theorem bw_16_13 : Cond.code yX1_placeOf cX1_placeOf 2 (some .int) ∈ BIG := inB_r16 _ (List.mem_of_getElem? (i := 13) rfl)
theorem bw_16_14 : Cond.static yX6_subjectAt ∈ BIG := inB_r16 _ (List.mem_of_getElem? (i := 14) rfl)
theorem bw_16_15 : Cond.code yX6_subjectAt cX6_subjectAt 1 (some .int) ∈ BIG := inB_r16 _ (List.mem_of_getElem? (i := 15) rfl)
theorem bw_16_16 : Cond.static yX6_roleAt ∈ BIG := inB_r16 _ (List.mem_of_getElem? (i := 16) rfl)
theorem bw_16_17 : Cond.code yX6_roleAt cX6_roleAt 1 (some .int) ∈ BIG := inB_r16 _ (List.mem_of_getElem? (i := 17) rfl)
theorem bw_16_18 : Cond.static yX6_objectAt ∈ BIG := inB_r16 _ (List.mem_of_getElem? (i := 18) rfl)
theorem bw_16_19 : Cond.code yX6_objectAt cX6_objectAt 1 (some .int) ∈ BIG := inB_r16 _ (List.mem_of_getElem? (i := 19) rfl)
theorem bw_16_20 : Cond.methodLink RX5 100 yX5_offerByParts ∈ BIG := inB_r16 _ (List.mem_of_getElem? (i := 20) rfl)
theorem bw_16_21 : Cond.instanceMethod yX5_offerByParts ∈ BIG := inB_r16 _ (List.mem_of_getElem? (i := 21) rfl)
theorem bw_16_22 : Cond.selects RX5 yX5_offerByParts yX5_offerByParts ∈ BIG := inB_r16 _ (List.mem_of_getElem? (i := 22) rfl)
theorem bw_16_23 : Cond.code yX5_offerByParts cX5_offerByParts 6 none ∈ BIG := inB_r16 _ (List.mem_of_getElem? (i := 23) rfl)
theorem bw_17_0 : Cond.methodLink RX5 129 yX3_first ∈ BIG := inB_r17 _ (List.mem_of_getElem? (i := 0) rfl)
theorem bw_17_1 : Cond.methodLink RX5 132 yX3_second ∈ BIG := inB_r17 _ (List.mem_of_getElem? (i := 1) rfl)
theorem bw_17_2 : Cond.methodLink RX5 135 yX3_sort ∈ BIG := inB_r17 _ (List.mem_of_getElem? (i := 2) rfl)
theorem bw_17_3 : Cond.static yX6_placeOfTo ∈ BIG := inB_r17 _ (List.mem_of_getElem? (i := 3) rfl)
theorem bw_17_4 : Cond.code yX6_placeOfTo cX6_placeOfTo 3 (some .int) ∈ BIG := inB_r17 _ (List.mem_of_getElem? (i := 4) rfl)
theorem bw_17_5 : Cond.methodLink RX5 104 yX5_offerMeets ∈ BIG := inB_r17 _ (List.mem_of_getElem? (i := 5) rfl)
theorem bw_17_6 : Cond.instanceMethod yX5_offerMeets ∈ BIG := inB_r17 _ (List.mem_of_getElem? (i := 6) rfl)
theorem bw_17_7 : Cond.selects RX5 yX5_offerMeets yX5_offerMeets ∈ BIG := inB_r17 _ (List.mem_of_getElem? (i := 7) rfl)
theorem bw_17_8 : Cond.code yX5_offerMeets cX5_offerMeets 6 none ∈ BIG := inB_r17 _ (List.mem_of_getElem? (i := 8) rfl)
theorem bw_17_9 : Cond.methodLink RX5 142 yX1_numberOfIs ∈ BIG := inB_r17 _ (List.mem_of_getElem? (i := 9) rfl)
theorem bw_17_10 : Cond.instanceMethod yX1_numberOfIs ∈ BIG := inB_r17 _ (List.mem_of_getElem? (i := 10) rfl)
theorem bw_17_11 : Cond.selects RX1 yX1_numberOfIs yX1_numberOfIs ∈ BIG := inB_r17 _ (List.mem_of_getElem? (i := 11) rfl)
theorem bw_17_12 : Cond.code yX1_numberOfIs cX1_numberOfIs 3 (some .int) ∈ BIG := inB_r17 _ (List.mem_of_getElem? (i := 12) rfl)
theorem bw_17_13 : Cond.static yX6_whyOfTwo ∈ BIG := inB_r17 _ (List.mem_of_getElem? (i := 13) rfl)
theorem bw_17_14 : Cond.code yX6_whyOfTwo cX6_whyOfTwo 3 (some .long) ∈ BIG := inB_r17 _ (List.mem_of_getElem? (i := 14) rfl)
theorem bw_17_15 : Cond.methodLink RX6 201 yX6_whyOf ∈ BIG := inB_r17 _ (List.mem_of_getElem? (i := 15) rfl)
theorem bw_17_16 : Cond.methodLink RX5 107 yX5_offerByAxioms ∈ BIG := inB_r17 _ (List.mem_of_getElem? (i := 16) rfl)
theorem bw_17_17 : Cond.instanceMethod yX5_offerByAxioms ∈ BIG := inB_r17 _ (List.mem_of_getElem? (i := 17) rfl)
theorem bw_17_18 : Cond.selects RX5 yX5_offerByAxioms yX5_offerByAxioms ∈ BIG := inB_r17 _ (List.mem_of_getElem? (i := 18) rfl)
theorem bw_17_19 : Cond.code yX5_offerByAxioms cX5_offerByAxioms 5 none ∈ BIG := inB_r17 _ (List.mem_of_getElem? (i := 19) rfl)
theorem bw_17_20 : Cond.methodLink RX5 152 yX0_holdingOf ∈ BIG := inB_r17 _ (List.mem_of_getElem? (i := 20) rfl)
theorem bw_17_21 : Cond.methodLink RX5 156 yX0_part ∈ BIG := inB_r17 _ (List.mem_of_getElem? (i := 21) rfl)
theorem bw_17_22 : Cond.methodLink RX5 110 yX5_offerBack ∈ BIG := inB_r17 _ (List.mem_of_getElem? (i := 22) rfl)
theorem bw_17_23 : Cond.instanceMethod yX5_offerBack ∈ BIG := inB_r17 _ (List.mem_of_getElem? (i := 23) rfl)
theorem bw_18_0 : Cond.selects RX5 yX5_offerBack yX5_offerBack ∈ BIG := inB_r18 _ (List.mem_of_getElem? (i := 0) rfl)
theorem bw_18_1 : Cond.code yX5_offerBack cX5_offerBack 7 none ∈ BIG := inB_r18 _ (List.mem_of_getElem? (i := 1) rfl)
theorem bw_18_2 : Cond.methodLink RX5 159 yX4_goesUnder ∈ BIG := inB_r18 _ (List.mem_of_getElem? (i := 2) rfl)
theorem bw_18_3 : Cond.methodLink RX5 114 yX5_offerChains ∈ BIG := inB_r18 _ (List.mem_of_getElem? (i := 3) rfl)
theorem bw_18_4 : Cond.instanceMethod yX5_offerChains ∈ BIG := inB_r18 _ (List.mem_of_getElem? (i := 4) rfl)
theorem bw_18_5 : Cond.selects RX5 yX5_offerChains yX5_offerChains ∈ BIG := inB_r18 _ (List.mem_of_getElem? (i := 5) rfl)
theorem bw_18_6 : Cond.code yX5_offerChains cX5_offerChains 10 none ∈ BIG := inB_r18 _ (List.mem_of_getElem? (i := 6) rfl)
theorem bw_18_7 : Cond.methodLink RX5 162 yX4_axiomOfChain ∈ BIG := inB_r18 _ (List.mem_of_getElem? (i := 7) rfl)
theorem bw_18_8 : Cond.methodLink RX5 165 yX1_numberOfTo ∈ BIG := inB_r18 _ (List.mem_of_getElem? (i := 8) rfl)
theorem bw_18_9 : Cond.instanceMethod yX1_numberOfTo ∈ BIG := inB_r18 _ (List.mem_of_getElem? (i := 9) rfl)
theorem bw_18_10 : Cond.selects RX1 yX1_numberOfTo yX1_numberOfTo ∈ BIG := inB_r18 _ (List.mem_of_getElem? (i := 10) rfl)
theorem bw_18_11 : Cond.code yX1_numberOfTo cX1_numberOfTo 4 (some .int) ∈ BIG := inB_r18 _ (List.mem_of_getElem? (i := 11) rfl)
theorem bw_18_12 : Cond.methodLink RX5 56 yX5_addOffered ∈ BIG := inB_r18 _ (List.mem_of_getElem? (i := 12) rfl)
theorem bw_18_13 : Cond.instanceMethod yX5_addOffered ∈ BIG := inB_r18 _ (List.mem_of_getElem? (i := 13) rfl)
theorem bw_18_14 : Cond.selects RX5 yX5_addOffered yX5_addOffered ∈ BIG := inB_r18 _ (List.mem_of_getElem? (i := 14) rfl)
theorem bw_18_15 : Cond.code yX5_addOffered cX5_addOffered 4 (some .boolean) ∈ BIG := inB_r18 _ (List.mem_of_getElem? (i := 15) rfl)
theorem bw_18_16 : Cond.methodLink RX5 62 yX1_add ∈ BIG := inB_r18 _ (List.mem_of_getElem? (i := 16) rfl)
theorem bw_18_17 : Cond.instanceMethod yX1_add ∈ BIG := inB_r18 _ (List.mem_of_getElem? (i := 17) rfl)
theorem bw_18_18 : Cond.selects RX1 yX1_add yX1_add ∈ BIG := inB_r18 _ (List.mem_of_getElem? (i := 18) rfl)
theorem bw_18_19 : Cond.code yX1_add cX1_add 5 none ∈ BIG := inB_r18 _ (List.mem_of_getElem? (i := 19) rfl)
theorem bw_18_20 : Cond.methodLink RX6 110 yX2_build ∈ BIG := inB_r18 _ (List.mem_of_getElem? (i := 20) rfl)
theorem bw_18_21 : Cond.instanceMethod yX2_build ∈ BIG := inB_r18 _ (List.mem_of_getElem? (i := 21) rfl)
theorem bw_18_22 : Cond.selects RX2 yX2_build yX2_build ∈ BIG := inB_r18 _ (List.mem_of_getElem? (i := 22) rfl)
theorem bw_18_23 : Cond.code yX2_build cX2_build 7 none ∈ BIG := inB_r18 _ (List.mem_of_getElem? (i := 23) rfl)
theorem bw_19_0 : Cond.methodLink RX2 24 yX1_saysIs ∈ BIG := inB_r19 _ (List.mem_of_getElem? (i := 0) rfl)
theorem bw_19_1 : Cond.instanceMethod yX1_saysIs ∈ BIG := inB_r19 _ (List.mem_of_getElem? (i := 1) rfl)
theorem bw_19_2 : Cond.selects RX1 yX1_saysIs yX1_saysIs ∈ BIG := inB_r19 _ (List.mem_of_getElem? (i := 2) rfl)
theorem bw_19_3 : Cond.code yX1_saysIs cX1_saysIs 3 (some .boolean) ∈ BIG := inB_r19 _ (List.mem_of_getElem? (i := 3) rfl)
theorem bw_19_4 : Cond.static yX6_bit ∈ BIG := inB_r19 _ (List.mem_of_getElem? (i := 4) rfl)
theorem bw_19_5 : Cond.code yX6_bit cX6_bit 1 (some .int) ∈ BIG := inB_r19 _ (List.mem_of_getElem? (i := 5) rfl)
theorem bw_19_6 : Cond.static yX6_hasBit ∈ BIG := inB_r19 _ (List.mem_of_getElem? (i := 6) rfl)
theorem bw_19_7 : Cond.code yX6_hasBit cX6_hasBit 2 (some .boolean) ∈ BIG := inB_r19 _ (List.mem_of_getElem? (i := 7) rfl)
theorem bw_19_8 : Cond.methodLink RX6 196 yX6_bit ∈ BIG := inB_r19 _ (List.mem_of_getElem? (i := 8) rfl)
theorem bw_19_9 : Cond.methodLink RX2 41 yX2_buildPair ∈ BIG := inB_r19 _ (List.mem_of_getElem? (i := 9) rfl)
theorem bw_19_10 : Cond.instanceMethod yX2_buildPair ∈ BIG := inB_r19 _ (List.mem_of_getElem? (i := 10) rfl)
theorem bw_19_11 : Cond.selects RX2 yX2_buildPair yX2_buildPair ∈ BIG := inB_r19 _ (List.mem_of_getElem? (i := 11) rfl)
theorem bw_19_12 : Cond.code yX2_buildPair cX2_buildPair 7 none ∈ BIG := inB_r19 _ (List.mem_of_getElem? (i := 12) rfl)
theorem bw_19_13 : Cond.methodLink RX2 68 yX1_saysTo ∈ BIG := inB_r19 _ (List.mem_of_getElem? (i := 13) rfl)
theorem bw_19_14 : Cond.instanceMethod yX1_saysTo ∈ BIG := inB_r19 _ (List.mem_of_getElem? (i := 14) rfl)
theorem bw_19_15 : Cond.selects RX1 yX1_saysTo yX1_saysTo ∈ BIG := inB_r19 _ (List.mem_of_getElem? (i := 15) rfl)
theorem bw_19_16 : Cond.code yX1_saysTo cX1_saysTo 4 (some .boolean) ∈ BIG := inB_r19 _ (List.mem_of_getElem? (i := 16) rfl)
theorem bw_19_17 : Cond.methodLink RX2 72 yX4_goesUnder ∈ BIG := inB_r19 _ (List.mem_of_getElem? (i := 17) rfl)
theorem bw_19_18 : Cond.methodLink RX2 64 yX2_partners ∈ BIG := inB_r19 _ (List.mem_of_getElem? (i := 18) rfl)
theorem bw_19_19 : Cond.instanceMethod yX2_partners ∈ BIG := inB_r19 _ (List.mem_of_getElem? (i := 19) rfl)
theorem bw_19_20 : Cond.selects RX2 yX2_partners yX2_partners ∈ BIG := inB_r19 _ (List.mem_of_getElem? (i := 20) rfl)
theorem bw_19_21 : Cond.code yX2_partners cX2_partners 3 (some .int) ∈ BIG := inB_r19 _ (List.mem_of_getElem? (i := 21) rfl)
theorem bw_19_22 : Cond.methodLink RX2 45 yX2_membersByMeaning ∈ BIG := inB_r19 _ (List.mem_of_getElem? (i := 22) rfl)
theorem bw_19_23 : Cond.instanceMethod yX2_membersByMeaning ∈ BIG := inB_r19 _ (List.mem_of_getElem? (i := 23) rfl)
theorem bw_20_0 : Cond.selects RX2 yX2_membersByMeaning yX2_membersByMeaning ∈ BIG := inB_r20 _ (List.mem_of_getElem? (i := 0) rfl)
theorem bw_20_1 : Cond.code yX2_membersByMeaning cX2_membersByMeaning 7 (some .int) ∈ BIG := inB_r20 _ (List.mem_of_getElem? (i := 1) rfl)
theorem bw_20_2 : Cond.methodLink RX2 77 yX3_first ∈ BIG := inB_r20 _ (List.mem_of_getElem? (i := 2) rfl)
theorem bw_20_3 : Cond.methodLink RX2 80 yX3_second ∈ BIG := inB_r20 _ (List.mem_of_getElem? (i := 3) rfl)
theorem bw_20_4 : Cond.methodLink RX2 83 yX3_sort ∈ BIG := inB_r20 _ (List.mem_of_getElem? (i := 4) rfl)
theorem bw_20_5 : Cond.methodLink RX2 86 yX2_subjects ∈ BIG := inB_r20 _ (List.mem_of_getElem? (i := 5) rfl)
theorem bw_20_6 : Cond.static yX2_subjects ∈ BIG := inB_r20 _ (List.mem_of_getElem? (i := 6) rfl)
theorem bw_20_7 : Cond.code yX2_subjects cX2_subjects 5 (some .int) ∈ BIG := inB_r20 _ (List.mem_of_getElem? (i := 7) rfl)
theorem bw_20_8 : Cond.methodLink RX2 90 yX2_members ∈ BIG := inB_r20 _ (List.mem_of_getElem? (i := 8) rfl)
theorem bw_20_9 : Cond.instanceMethod yX2_members ∈ BIG := inB_r20 _ (List.mem_of_getElem? (i := 9) rfl)
theorem bw_20_10 : Cond.selects RX2 yX2_members yX2_members ∈ BIG := inB_r20 _ (List.mem_of_getElem? (i := 10) rfl)
theorem bw_20_11 : Cond.code yX2_members cX2_members 2 (some .int) ∈ BIG := inB_r20 _ (List.mem_of_getElem? (i := 11) rfl)
theorem bw_20_12 : Cond.methodLink RX2 93 yX2_havers ∈ BIG := inB_r20 _ (List.mem_of_getElem? (i := 12) rfl)
theorem bw_20_13 : Cond.instanceMethod yX2_havers ∈ BIG := inB_r20 _ (List.mem_of_getElem? (i := 13) rfl)
theorem bw_20_14 : Cond.selects RX2 yX2_havers yX2_havers ∈ BIG := inB_r20 _ (List.mem_of_getElem? (i := 14) rfl)
theorem bw_20_15 : Cond.code yX2_havers cX2_havers 5 (some .int) ∈ BIG := inB_r20 _ (List.mem_of_getElem? (i := 15) rfl)
theorem bw_20_16 : Cond.methodLink RL 56 yX7_conclude ∈ BIG := inB_r20 _ (List.mem_of_getElem? (i := 16) rfl)
theorem bw_20_17 : Cond.instanceMethod yX7_conclude ∈ BIG := inB_r20 _ (List.mem_of_getElem? (i := 17) rfl)
theorem bw_20_18 : Cond.selects RX7 yX7_conclude yX7_conclude ∈ BIG := inB_r20 _ (List.mem_of_getElem? (i := 18) rfl)
theorem bw_20_19 : Cond.code yX7_conclude cX7_conclude 2 (some .int) ∈ BIG := inB_r20 _ (List.mem_of_getElem? (i := 19) rfl)
theorem bw_20_20 : Cond.fieldLink RX7 167 "NotionRoundsModel" "doneMany" "I" ∈ BIG := inB_r20 _ (List.mem_of_getElem? (i := 20) rfl)
theorem bw_20_21 : Cond.fieldLink RX7 120 "NotionRoundsModel" "many" "I" ∈ BIG := inB_r20 _ (List.mem_of_getElem? (i := 21) rfl)
theorem bw_20_22 : Cond.fieldLink RX7 145 "NotionRoundsModel" "rounds" "I" ∈ BIG := inB_r20 _ (List.mem_of_getElem? (i := 22) rfl)
theorem bw_20_23 : Cond.methodLink RX7 170 yX7_closeRoles ∈ BIG := inB_r20 _ (List.mem_of_getElem? (i := 23) rfl)
theorem bw_21_0 : Cond.instanceMethod yX7_closeRoles ∈ BIG := inB_r21 _ (List.mem_of_getElem? (i := 0) rfl)
theorem bw_21_1 : Cond.selects RX7 yX7_closeRoles yX7_closeRoles ∈ BIG := inB_r21 _ (List.mem_of_getElem? (i := 1) rfl)
theorem bw_21_2 : Cond.code yX7_closeRoles cX7_closeRoles 4 none ∈ BIG := inB_r21 _ (List.mem_of_getElem? (i := 2) rfl)
theorem bw_21_3 : Cond.methodLink RX7 173 yX7_round ∈ BIG := inB_r21 _ (List.mem_of_getElem? (i := 3) rfl)
theorem bw_21_4 : Cond.instanceMethod yX7_round ∈ BIG := inB_r21 _ (List.mem_of_getElem? (i := 4) rfl)
theorem bw_21_5 : Cond.selects RX7 yX7_round yX7_round ∈ BIG := inB_r21 _ (List.mem_of_getElem? (i := 5) rfl)
theorem bw_21_6 : Cond.code yX7_round cX7_round 5 (some .boolean) ∈ BIG := inB_r21 _ (List.mem_of_getElem? (i := 6) rfl)
theorem bw_21_7 : Cond.fieldLink RX7 142 "NotionRoundsModel" "next" "I" ∈ BIG := inB_r21 _ (List.mem_of_getElem? (i := 7) rfl)
theorem bw_21_8 : Cond.methodLink RX7 148 yX7_ofBegun ∈ BIG := inB_r21 _ (List.mem_of_getElem? (i := 8) rfl)
theorem bw_21_9 : Cond.instanceMethod yX7_ofBegun ∈ BIG := inB_r21 _ (List.mem_of_getElem? (i := 9) rfl)
theorem bw_21_10 : Cond.selects RX7 yX7_ofBegun yX7_ofBegun ∈ BIG := inB_r21 _ (List.mem_of_getElem? (i := 10) rfl)
theorem bw_21_11 : Cond.code yX7_ofBegun cX7_ofBegun 3 none ∈ BIG := inB_r21 _ (List.mem_of_getElem? (i := 11) rfl)
theorem bw_21_12 : Cond.methodLink RX7 127 yX7_isSeed ∈ BIG := inB_r21 _ (List.mem_of_getElem? (i := 12) rfl)
theorem bw_21_13 : Cond.instanceMethod yX7_isSeed ∈ BIG := inB_r21 _ (List.mem_of_getElem? (i := 13) rfl)
theorem bw_21_14 : Cond.selects RX7 yX7_isSeed yX7_isSeed ∈ BIG := inB_r21 _ (List.mem_of_getElem? (i := 14) rfl)
theorem bw_21_15 : Cond.code yX7_isSeed cX7_isSeed 2 (some .boolean) ∈ BIG := inB_r21 _ (List.mem_of_getElem? (i := 15) rfl)
theorem bw_21_16 : Cond.methodLink RX7 130 yX7_leastTo ∈ BIG := inB_r21 _ (List.mem_of_getElem? (i := 16) rfl)
theorem bw_21_17 : Cond.instanceMethod yX7_leastTo ∈ BIG := inB_r21 _ (List.mem_of_getElem? (i := 17) rfl)
theorem bw_21_18 : Cond.selects RX7 yX7_leastTo yX7_leastTo ∈ BIG := inB_r21 _ (List.mem_of_getElem? (i := 18) rfl)
theorem bw_21_19 : Cond.code yX7_leastTo cX7_leastTo 3 (some .int) ∈ BIG := inB_r21 _ (List.mem_of_getElem? (i := 19) rfl)
theorem bw_21_20 : Cond.methodLink RX7 123 yX7_fact ∈ BIG := inB_r21 _ (List.mem_of_getElem? (i := 20) rfl)
theorem bw_21_21 : Cond.instanceMethod yX7_fact ∈ BIG := inB_r21 _ (List.mem_of_getElem? (i := 21) rfl)
theorem bw_21_22 : Cond.selects RX7 yX7_fact yX7_fact ∈ BIG := inB_r21 _ (List.mem_of_getElem? (i := 22) rfl)
theorem bw_21_23 : Cond.code yX7_fact cX7_fact 3 (some .int) ∈ BIG := inB_r21 _ (List.mem_of_getElem? (i := 23) rfl)
theorem bw_22_0 : Cond.methodLink RX7 134 yX7_findIs ∈ BIG := inB_r22 _ (List.mem_of_getElem? (i := 0) rfl)
theorem bw_22_1 : Cond.instanceMethod yX7_findIs ∈ BIG := inB_r22 _ (List.mem_of_getElem? (i := 1) rfl)
theorem bw_22_2 : Cond.selects RX7 yX7_findIs yX7_findIs ∈ BIG := inB_r22 _ (List.mem_of_getElem? (i := 2) rfl)
theorem bw_22_3 : Cond.code yX7_findIs cX7_findIs 8 none ∈ BIG := inB_r22 _ (List.mem_of_getElem? (i := 3) rfl)
theorem bw_22_4 : Cond.methodLink RX7 151 yX7_ofMeets ∈ BIG := inB_r22 _ (List.mem_of_getElem? (i := 4) rfl)
theorem bw_22_5 : Cond.instanceMethod yX7_ofMeets ∈ BIG := inB_r22 _ (List.mem_of_getElem? (i := 5) rfl)
theorem bw_22_6 : Cond.selects RX7 yX7_ofMeets yX7_ofMeets ∈ BIG := inB_r22 _ (List.mem_of_getElem? (i := 6) rfl)
theorem bw_22_7 : Cond.code yX7_ofMeets cX7_ofMeets 3 none ∈ BIG := inB_r22 _ (List.mem_of_getElem? (i := 7) rfl)
theorem bw_22_8 : Cond.methodLink RX7 154 yX7_ofAxioms ∈ BIG := inB_r22 _ (List.mem_of_getElem? (i := 8) rfl)
theorem bw_22_9 : Cond.instanceMethod yX7_ofAxioms ∈ BIG := inB_r22 _ (List.mem_of_getElem? (i := 9) rfl)
theorem bw_22_10 : Cond.selects RX7 yX7_ofAxioms yX7_ofAxioms ∈ BIG := inB_r22 _ (List.mem_of_getElem? (i := 10) rfl)
theorem bw_22_11 : Cond.code yX7_ofAxioms cX7_ofAxioms 3 none ∈ BIG := inB_r22 _ (List.mem_of_getElem? (i := 11) rfl)
theorem bw_22_12 : Cond.methodLink RX7 157 yX7_ofRoles ∈ BIG := inB_r22 _ (List.mem_of_getElem? (i := 12) rfl)
theorem bw_22_13 : Cond.instanceMethod yX7_ofRoles ∈ BIG := inB_r22 _ (List.mem_of_getElem? (i := 13) rfl)
theorem bw_22_14 : Cond.selects RX7 yX7_ofRoles yX7_ofRoles ∈ BIG := inB_r22 _ (List.mem_of_getElem? (i := 14) rfl)
theorem bw_22_15 : Cond.code yX7_ofRoles cX7_ofRoles 4 none ∈ BIG := inB_r22 _ (List.mem_of_getElem? (i := 15) rfl)
theorem bw_22_16 : Cond.methodLink RX7 138 yX7_findTo ∈ BIG := inB_r22 _ (List.mem_of_getElem? (i := 16) rfl)
theorem bw_22_17 : Cond.instanceMethod yX7_findTo ∈ BIG := inB_r22 _ (List.mem_of_getElem? (i := 17) rfl)
theorem bw_22_18 : Cond.selects RX7 yX7_findTo yX7_findTo ∈ BIG := inB_r22 _ (List.mem_of_getElem? (i := 18) rfl)
theorem bw_22_19 : Cond.code yX7_findTo cX7_findTo 9 none ∈ BIG := inB_r22 _ (List.mem_of_getElem? (i := 19) rfl)
theorem bw_22_20 : Cond.methodLink RX7 160 yX7_ofChains ∈ BIG := inB_r22 _ (List.mem_of_getElem? (i := 20) rfl)
theorem bw_22_21 : Cond.instanceMethod yX7_ofChains ∈ BIG := inB_r22 _ (List.mem_of_getElem? (i := 21) rfl)
theorem bw_22_22 : Cond.selects RX7 yX7_ofChains yX7_ofChains ∈ BIG := inB_r22 _ (List.mem_of_getElem? (i := 22) rfl)
theorem bw_22_23 : Cond.code yX7_ofChains cX7_ofChains 4 none ∈ BIG := inB_r22 _ (List.mem_of_getElem? (i := 23) rfl)
theorem bw_23_0 : Cond.methodLink RX7 163 yX7_lay ∈ BIG := inB_r23 _ (List.mem_of_getElem? (i := 0) rfl)
theorem bw_23_1 : Cond.instanceMethod yX7_lay ∈ BIG := inB_r23 _ (List.mem_of_getElem? (i := 1) rfl)
theorem bw_23_2 : Cond.selects RX7 yX7_lay yX7_lay ∈ BIG := inB_r23 _ (List.mem_of_getElem? (i := 2) rfl)
theorem bw_23_3 : Cond.code yX7_lay cX7_lay 10 none ∈ BIG := inB_r23 _ (List.mem_of_getElem? (i := 3) rfl)
theorem bw_23_4 : Cond.methodLink RX7 177 yX7_makeHouse ∈ BIG := inB_r23 _ (List.mem_of_getElem? (i := 4) rfl)
theorem bw_23_5 : Cond.instanceMethod yX7_makeHouse ∈ BIG := inB_r23 _ (List.mem_of_getElem? (i := 5) rfl)
theorem bw_23_6 : Cond.selects RX7 yX7_makeHouse yX7_makeHouse ∈ BIG := inB_r23 _ (List.mem_of_getElem? (i := 6) rfl)
theorem bw_23_7 : Cond.code yX7_makeHouse cX7_makeHouse 6 none ∈ BIG := inB_r23 _ (List.mem_of_getElem? (i := 7) rfl)
theorem bw_23_8 : Cond.methodLink RX7 196 yX7_isBegun ∈ BIG := inB_r23 _ (List.mem_of_getElem? (i := 8) rfl)
theorem bw_23_9 : Cond.instanceMethod yX7_isBegun ∈ BIG := inB_r23 _ (List.mem_of_getElem? (i := 9) rfl)
theorem bw_23_10 : Cond.selects RX7 yX7_isBegun yX7_isBegun ∈ BIG := inB_r23 _ (List.mem_of_getElem? (i := 10) rfl)
theorem bw_23_11 : Cond.code yX7_isBegun cX7_isBegun 2 (some .boolean) ∈ BIG := inB_r23 _ (List.mem_of_getElem? (i := 11) rfl)
theorem bw_23_12 : Cond.methodLink RL 57 yX6_rounds ∈ BIG := inB_r23 _ (List.mem_of_getElem? (i := 12) rfl)
theorem bw_23_13 : Cond.instanceMethod yX6_rounds ∈ BIG := inB_r23 _ (List.mem_of_getElem? (i := 13) rfl)
theorem bw_23_14 : Cond.selects RX6 yX6_rounds yX6_rounds ∈ BIG := inB_r23 _ (List.mem_of_getElem? (i := 14) rfl)
theorem bw_23_15 : Cond.code yX6_rounds cX6_rounds 1 (some .int) ∈ BIG := inB_r23 _ (List.mem_of_getElem? (i := 15) rfl)
theorem bw_23_16 : Cond.methodLink RL 60 yX7_rounds ∈ BIG := inB_r23 _ (List.mem_of_getElem? (i := 16) rfl)
theorem bw_23_17 : Cond.instanceMethod yX7_rounds ∈ BIG := inB_r23 _ (List.mem_of_getElem? (i := 17) rfl)
theorem bw_23_18 : Cond.selects RX7 yX7_rounds yX7_rounds ∈ BIG := inB_r23 _ (List.mem_of_getElem? (i := 18) rfl)
theorem bw_23_19 : Cond.code yX7_rounds cX7_rounds 1 (some .int) ∈ BIG := inB_r23 _ (List.mem_of_getElem? (i := 19) rfl)
theorem bw_23_20 : Cond.methodLink RL 61 yX6_conclusion ∈ BIG := inB_r23 _ (List.mem_of_getElem? (i := 20) rfl)
theorem bw_23_21 : Cond.instanceMethod yX6_conclusion ∈ BIG := inB_r23 _ (List.mem_of_getElem? (i := 21) rfl)
theorem bw_23_22 : Cond.selects RX6 yX6_conclusion yX6_conclusion ∈ BIG := inB_r23 _ (List.mem_of_getElem? (i := 22) rfl)
theorem bw_23_23 : Cond.code yX6_conclusion cX6_conclusion 3 (some .int) ∈ BIG := inB_r23 _ (List.mem_of_getElem? (i := 23) rfl)
theorem bw_24_0 : Cond.methodLink RX6 120 yX1_knows ∈ BIG := inB_r24 _ (List.mem_of_getElem? (i := 0) rfl)
theorem bw_24_1 : Cond.instanceMethod yX1_knows ∈ BIG := inB_r24 _ (List.mem_of_getElem? (i := 1) rfl)
theorem bw_24_2 : Cond.selects RX1 yX1_knows yX1_knows ∈ BIG := inB_r24 _ (List.mem_of_getElem? (i := 2) rfl)
theorem bw_24_3 : Cond.code yX1_knows cX1_knows 2 (some .boolean) ∈ BIG := inB_r24 _ (List.mem_of_getElem? (i := 3) rfl)
theorem bw_24_4 : Cond.methodLink RX6 121 yX1_part ∈ BIG := inB_r24 _ (List.mem_of_getElem? (i := 4) rfl)
theorem bw_24_5 : Cond.instanceMethod yX1_part ∈ BIG := inB_r24 _ (List.mem_of_getElem? (i := 5) rfl)
theorem bw_24_6 : Cond.selects RX1 yX1_part yX1_part ∈ BIG := inB_r24 _ (List.mem_of_getElem? (i := 6) rfl)
theorem bw_24_7 : Cond.code yX1_part cX1_part 3 (some .int) ∈ BIG := inB_r24 _ (List.mem_of_getElem? (i := 7) rfl)
theorem bw_24_8 : Cond.methodLink RX1 71 yX1_placeOf ∈ BIG := inB_r24 _ (List.mem_of_getElem? (i := 8) rfl)
theorem bw_24_9 : Cond.static yX6_oneIf ∈ BIG := inB_r24 _ (List.mem_of_getElem? (i := 9) rfl)
theorem bw_24_10 : Cond.code yX6_oneIf cX6_oneIf 1 (some .int) ∈ BIG := inB_r24 _ (List.mem_of_getElem? (i := 10) rfl)
theorem bw_24_11 : Cond.methodLink RX1 88 yX1_firstPremise ∈ BIG := inB_r24 _ (List.mem_of_getElem? (i := 11) rfl)
theorem bw_24_12 : Cond.instanceMethod yX1_firstPremise ∈ BIG := inB_r24 _ (List.mem_of_getElem? (i := 12) rfl)
theorem bw_24_13 : Cond.selects RX1 yX1_firstPremise yX1_firstPremise ∈ BIG := inB_r24 _ (List.mem_of_getElem? (i := 13) rfl)
theorem bw_24_14 : Cond.code yX1_firstPremise cX1_firstPremise 2 (some .int) ∈ BIG := inB_r24 _ (List.mem_of_getElem? (i := 14) rfl)
theorem bw_24_15 : Cond.static yX6_partOfWhy ∈ BIG := inB_r24 _ (List.mem_of_getElem? (i := 15) rfl)
theorem bw_24_16 : Cond.code yX6_partOfWhy cX6_partOfWhy 4 (some .int) ∈ BIG := inB_r24 _ (List.mem_of_getElem? (i := 16) rfl)
theorem bw_24_17 : Cond.methodLink RX1 91 yX1_secondPremise ∈ BIG := inB_r24 _ (List.mem_of_getElem? (i := 17) rfl)
theorem bw_24_18 : Cond.instanceMethod yX1_secondPremise ∈ BIG := inB_r24 _ (List.mem_of_getElem? (i := 18) rfl)
theorem bw_24_19 : Cond.selects RX1 yX1_secondPremise yX1_secondPremise ∈ BIG := inB_r24 _ (List.mem_of_getElem? (i := 19) rfl)
theorem bw_24_20 : Cond.code yX1_secondPremise cX1_secondPremise 2 (some .int) ∈ BIG := inB_r24 _ (List.mem_of_getElem? (i := 20) rfl)
theorem bw_24_21 : Cond.methodLink RL 64 yX7_conclusion ∈ BIG := inB_r24 _ (List.mem_of_getElem? (i := 21) rfl)
theorem bw_24_22 : Cond.instanceMethod yX7_conclusion ∈ BIG := inB_r24 _ (List.mem_of_getElem? (i := 22) rfl)
theorem bw_24_23 : Cond.selects RX7 yX7_conclusion yX7_conclusion ∈ BIG := inB_r24 _ (List.mem_of_getElem? (i := 23) rfl)
theorem bw_25_0 : Cond.code yX7_conclusion cX7_conclusion 3 (some .int) ∈ BIG := inB_r25 _ (List.mem_of_getElem? (i := 0) rfl)
theorem bw_25_1 : Cond.methodLink RL 65 yX6_is ∈ BIG := inB_r25 _ (List.mem_of_getElem? (i := 1) rfl)
theorem bw_25_2 : Cond.instanceMethod yX6_is ∈ BIG := inB_r25 _ (List.mem_of_getElem? (i := 2) rfl)
theorem bw_25_3 : Cond.selects RX6 yX6_is yX6_is ∈ BIG := inB_r25 _ (List.mem_of_getElem? (i := 3) rfl)
theorem bw_25_4 : Cond.code yX6_is cX6_is 3 (some .int) ∈ BIG := inB_r25 _ (List.mem_of_getElem? (i := 4) rfl)
theorem bw_25_5 : Cond.methodLink RX6 122 yX1_numberOfIs ∈ BIG := inB_r25 _ (List.mem_of_getElem? (i := 5) rfl)
theorem bw_25_6 : Cond.methodLink RL 68 yX7_is ∈ BIG := inB_r25 _ (List.mem_of_getElem? (i := 6) rfl)
theorem bw_25_7 : Cond.instanceMethod yX7_is ∈ BIG := inB_r25 _ (List.mem_of_getElem? (i := 7) rfl)
theorem bw_25_8 : Cond.selects RX7 yX7_is yX7_is ∈ BIG := inB_r25 _ (List.mem_of_getElem? (i := 8) rfl)
theorem bw_25_9 : Cond.code yX7_is cX7_is 3 (some .int) ∈ BIG := inB_r25 _ (List.mem_of_getElem? (i := 9) rfl)
theorem bw_25_10 : Cond.methodLink RL 69 yX6_to ∈ BIG := inB_r25 _ (List.mem_of_getElem? (i := 10) rfl)
theorem bw_25_11 : Cond.instanceMethod yX6_to ∈ BIG := inB_r25 _ (List.mem_of_getElem? (i := 11) rfl)
theorem bw_25_12 : Cond.selects RX6 yX6_to yX6_to ∈ BIG := inB_r25 _ (List.mem_of_getElem? (i := 12) rfl)
theorem bw_25_13 : Cond.code yX6_to cX6_to 4 (some .int) ∈ BIG := inB_r25 _ (List.mem_of_getElem? (i := 13) rfl)
theorem bw_25_14 : Cond.methodLink RX6 125 yX1_numberOfTo ∈ BIG := inB_r25 _ (List.mem_of_getElem? (i := 14) rfl)
theorem bw_25_15 : Cond.methodLink RL 72 yX7_to ∈ BIG := inB_r25 _ (List.mem_of_getElem? (i := 15) rfl)
theorem bw_25_16 : Cond.instanceMethod yX7_to ∈ BIG := inB_r25 _ (List.mem_of_getElem? (i := 16) rfl)
theorem bw_25_17 : Cond.selects RX7 yX7_to yX7_to ∈ BIG := inB_r25 _ (List.mem_of_getElem? (i := 17) rfl)
theorem bw_25_18 : Cond.code yX7_to cX7_to 4 (some .int) ∈ BIG := inB_r25 _ (List.mem_of_getElem? (i := 18) rfl)
theorem bw_25_19 : Cond.methodLink RL 73 yX6_proof ∈ BIG := inB_r25 _ (List.mem_of_getElem? (i := 19) rfl)
theorem bw_25_20 : Cond.instanceMethod yX6_proof ∈ BIG := inB_r25 _ (List.mem_of_getElem? (i := 20) rfl)
theorem bw_25_21 : Cond.selects RX6 yX6_proof yX6_proof ∈ BIG := inB_r25 _ (List.mem_of_getElem? (i := 21) rfl)
theorem bw_25_22 : Cond.code yX6_proof cX6_proof 2 (some .int) ∈ BIG := inB_r25 _ (List.mem_of_getElem? (i := 22) rfl)
theorem bw_25_23 : Cond.methodLink RX6 128 yX1_proofSize ∈ BIG := inB_r25 _ (List.mem_of_getElem? (i := 23) rfl)
theorem bw_26_0 : Cond.instanceMethod yX1_proofSize ∈ BIG := inB_r26 _ (List.mem_of_getElem? (i := 0) rfl)
theorem bw_26_1 : Cond.selects RX1 yX1_proofSize yX1_proofSize ∈ BIG := inB_r26 _ (List.mem_of_getElem? (i := 1) rfl)
theorem bw_26_2 : Cond.code yX1_proofSize cX1_proofSize 4 (some .int) ∈ BIG := inB_r26 _ (List.mem_of_getElem? (i := 2) rfl)
theorem bw_26_3 : Cond.methodLink RL 76 yX7_proof ∈ BIG := inB_r26 _ (List.mem_of_getElem? (i := 3) rfl)
theorem bw_26_4 : Cond.instanceMethod yX7_proof ∈ BIG := inB_r26 _ (List.mem_of_getElem? (i := 4) rfl)
theorem bw_26_5 : Cond.selects RX7 yX7_proof yX7_proof ∈ BIG := inB_r26 _ (List.mem_of_getElem? (i := 5) rfl)
theorem bw_26_6 : Cond.code yX7_proof cX7_proof 5 (some .int) ∈ BIG := inB_r26 _ (List.mem_of_getElem? (i := 6) rfl)
theorem bw_26_7 : Cond.methodLink RL 77 yX6_under ∈ BIG := inB_r26 _ (List.mem_of_getElem? (i := 7) rfl)
theorem bw_26_8 : Cond.instanceMethod yX6_under ∈ BIG := inB_r26 _ (List.mem_of_getElem? (i := 8) rfl)
theorem bw_26_9 : Cond.selects RX6 yX6_under yX6_under ∈ BIG := inB_r26 _ (List.mem_of_getElem? (i := 9) rfl)
theorem bw_26_10 : Cond.code yX6_under cX6_under 3 (some .int) ∈ BIG := inB_r26 _ (List.mem_of_getElem? (i := 10) rfl)
theorem bw_26_11 : Cond.methodLink RX6 132 yX3_named ∈ BIG := inB_r26 _ (List.mem_of_getElem? (i := 11) rfl)
theorem bw_26_12 : Cond.instanceMethod yX3_named ∈ BIG := inB_r26 _ (List.mem_of_getElem? (i := 12) rfl)
theorem bw_26_13 : Cond.selects RX3 yX3_named yX3_named ∈ BIG := inB_r26 _ (List.mem_of_getElem? (i := 13) rfl)
theorem bw_26_14 : Cond.code yX3_named cX3_named 2 (some .boolean) ∈ BIG := inB_r26 _ (List.mem_of_getElem? (i := 14) rfl)
theorem bw_26_15 : Cond.methodLink RX3 34 yX3_knows ∈ BIG := inB_r26 _ (List.mem_of_getElem? (i := 15) rfl)
theorem bw_26_16 : Cond.methodLink RX6 135 yX6_isUnder ∈ BIG := inB_r26 _ (List.mem_of_getElem? (i := 16) rfl)
theorem bw_26_17 : Cond.instanceMethod yX6_isUnder ∈ BIG := inB_r26 _ (List.mem_of_getElem? (i := 17) rfl)
theorem bw_26_18 : Cond.selects RX6 yX6_isUnder yX6_isUnder ∈ BIG := inB_r26 _ (List.mem_of_getElem? (i := 18) rfl)
theorem bw_26_19 : Cond.code yX6_isUnder cX6_isUnder 3 (some .boolean) ∈ BIG := inB_r26 _ (List.mem_of_getElem? (i := 19) rfl)
theorem bw_26_20 : Cond.methodLink RX6 149 yX1_saysIs ∈ BIG := inB_r26 _ (List.mem_of_getElem? (i := 20) rfl)
theorem bw_26_21 : Cond.methodLink RX6 138 yX6_oneIf ∈ BIG := inB_r26 _ (List.mem_of_getElem? (i := 21) rfl)
theorem bw_26_22 : Cond.methodLink RL 80 yX7_under ∈ BIG := inB_r26 _ (List.mem_of_getElem? (i := 22) rfl)
theorem bw_26_23 : Cond.instanceMethod yX7_under ∈ BIG := inB_r26 _ (List.mem_of_getElem? (i := 23) rfl)
theorem bw_27_0 : Cond.selects RX7 yX7_under yX7_under ∈ BIG := inB_r27 _ (List.mem_of_getElem? (i := 0) rfl)
theorem bw_27_1 : Cond.code yX7_under cX7_under 3 (some .int) ∈ BIG := inB_r27 _ (List.mem_of_getElem? (i := 1) rfl)
theorem bw_27_2 : Cond.methodLink RX7 184 yX7_isPlain ∈ BIG := inB_r27 _ (List.mem_of_getElem? (i := 2) rfl)
theorem bw_27_3 : Cond.instanceMethod yX7_isPlain ∈ BIG := inB_r27 _ (List.mem_of_getElem? (i := 3) rfl)
theorem bw_27_4 : Cond.selects RX7 yX7_isPlain yX7_isPlain ∈ BIG := inB_r27 _ (List.mem_of_getElem? (i := 4) rfl)
theorem bw_27_5 : Cond.code yX7_isPlain cX7_isPlain 2 (some .boolean) ∈ BIG := inB_r27 _ (List.mem_of_getElem? (i := 5) rfl)
theorem bw_27_6 : Cond.methodLink RX7 180 yX7_isUnder ∈ BIG := inB_r27 _ (List.mem_of_getElem? (i := 6) rfl)
theorem bw_27_7 : Cond.instanceMethod yX7_isUnder ∈ BIG := inB_r27 _ (List.mem_of_getElem? (i := 7) rfl)
theorem bw_27_8 : Cond.selects RX7 yX7_isUnder yX7_isUnder ∈ BIG := inB_r27 _ (List.mem_of_getElem? (i := 8) rfl)
theorem bw_27_9 : Cond.code yX7_isUnder cX7_isUnder 3 (some .boolean) ∈ BIG := inB_r27 _ (List.mem_of_getElem? (i := 9) rfl)
theorem bw_27_10 : Cond.methodLink RL 81 yX6_like ∈ BIG := inB_r27 _ (List.mem_of_getElem? (i := 10) rfl)
theorem bw_27_11 : Cond.instanceMethod yX6_like ∈ BIG := inB_r27 _ (List.mem_of_getElem? (i := 11) rfl)
theorem bw_27_12 : Cond.selects RX6 yX6_like yX6_like ∈ BIG := inB_r27 _ (List.mem_of_getElem? (i := 12) rfl)
theorem bw_27_13 : Cond.code yX6_like cX6_like 2 (some .int) ∈ BIG := inB_r27 _ (List.mem_of_getElem? (i := 13) rfl)
theorem bw_27_14 : Cond.methodLink RX6 142 yX6_leastLike ∈ BIG := inB_r27 _ (List.mem_of_getElem? (i := 14) rfl)
theorem bw_27_15 : Cond.instanceMethod yX6_leastLike ∈ BIG := inB_r27 _ (List.mem_of_getElem? (i := 15) rfl)
theorem bw_27_16 : Cond.selects RX6 yX6_leastLike yX6_leastLike ∈ BIG := inB_r27 _ (List.mem_of_getElem? (i := 16) rfl)
theorem bw_27_17 : Cond.code yX6_leastLike cX6_leastLike 3 (some .int) ∈ BIG := inB_r27 _ (List.mem_of_getElem? (i := 17) rfl)
theorem bw_27_18 : Cond.methodLink RX6 186 yX6_areLike ∈ BIG := inB_r27 _ (List.mem_of_getElem? (i := 18) rfl)
theorem bw_27_19 : Cond.instanceMethod yX6_areLike ∈ BIG := inB_r27 _ (List.mem_of_getElem? (i := 19) rfl)
theorem bw_27_20 : Cond.selects RX6 yX6_areLike yX6_areLike ∈ BIG := inB_r27 _ (List.mem_of_getElem? (i := 20) rfl)
theorem bw_27_21 : Cond.code yX6_areLike cX6_areLike 3 (some .boolean) ∈ BIG := inB_r27 _ (List.mem_of_getElem? (i := 21) rfl)
theorem bw_27_22 : Cond.methodLink RL 84 yX7_like ∈ BIG := inB_r27 _ (List.mem_of_getElem? (i := 22) rfl)
theorem bw_27_23 : Cond.instanceMethod yX7_like ∈ BIG := inB_r27 _ (List.mem_of_getElem? (i := 23) rfl)
theorem bw_28_0 : Cond.selects RX7 yX7_like yX7_like ∈ BIG := inB_r28 _ (List.mem_of_getElem? (i := 0) rfl)
theorem bw_28_1 : Cond.code yX7_like cX7_like 2 (some .int) ∈ BIG := inB_r28 _ (List.mem_of_getElem? (i := 1) rfl)
theorem bw_28_2 : Cond.methodLink RX7 190 yX7_leastLike ∈ BIG := inB_r28 _ (List.mem_of_getElem? (i := 2) rfl)
theorem bw_28_3 : Cond.instanceMethod yX7_leastLike ∈ BIG := inB_r28 _ (List.mem_of_getElem? (i := 3) rfl)
theorem bw_28_4 : Cond.selects RX7 yX7_leastLike yX7_leastLike ∈ BIG := inB_r28 _ (List.mem_of_getElem? (i := 4) rfl)
theorem bw_28_5 : Cond.code yX7_leastLike cX7_leastLike 3 (some .int) ∈ BIG := inB_r28 _ (List.mem_of_getElem? (i := 5) rfl)
theorem bw_28_6 : Cond.methodLink RX7 187 yX7_areLike ∈ BIG := inB_r28 _ (List.mem_of_getElem? (i := 6) rfl)
theorem bw_28_7 : Cond.instanceMethod yX7_areLike ∈ BIG := inB_r28 _ (List.mem_of_getElem? (i := 7) rfl)
theorem bw_28_8 : Cond.selects RX7 yX7_areLike yX7_areLike ∈ BIG := inB_r28 _ (List.mem_of_getElem? (i := 8) rfl)
theorem bw_28_9 : Cond.code yX7_areLike cX7_areLike 3 (some .boolean) ∈ BIG := inB_r28 _ (List.mem_of_getElem? (i := 9) rfl)
theorem bw_28_10 : Cond.methodLink RL 85 yX6_parent ∈ BIG := inB_r28 _ (List.mem_of_getElem? (i := 10) rfl)
theorem bw_28_11 : Cond.instanceMethod yX6_parent ∈ BIG := inB_r28 _ (List.mem_of_getElem? (i := 11) rfl)
theorem bw_28_12 : Cond.selects RX6 yX6_parent yX6_parent ∈ BIG := inB_r28 _ (List.mem_of_getElem? (i := 12) rfl)
theorem bw_28_13 : Cond.code yX6_parent cX6_parent 5 (some .int) ∈ BIG := inB_r28 _ (List.mem_of_getElem? (i := 13) rfl)
theorem bw_28_14 : Cond.methodLink RX6 146 yX6_isParent ∈ BIG := inB_r28 _ (List.mem_of_getElem? (i := 14) rfl)
theorem bw_28_15 : Cond.instanceMethod yX6_isParent ∈ BIG := inB_r28 _ (List.mem_of_getElem? (i := 15) rfl)
theorem bw_28_16 : Cond.selects RX6 yX6_isParent yX6_isParent ∈ BIG := inB_r28 _ (List.mem_of_getElem? (i := 16) rfl)
theorem bw_28_17 : Cond.code yX6_isParent cX6_isParent 5 (some .boolean) ∈ BIG := inB_r28 _ (List.mem_of_getElem? (i := 17) rfl)
theorem bw_28_18 : Cond.methodLink RL 88 yX7_parent ∈ BIG := inB_r28 _ (List.mem_of_getElem? (i := 18) rfl)
theorem bw_28_19 : Cond.instanceMethod yX7_parent ∈ BIG := inB_r28 _ (List.mem_of_getElem? (i := 19) rfl)
theorem bw_28_20 : Cond.selects RX7 yX7_parent yX7_parent ∈ BIG := inB_r28 _ (List.mem_of_getElem? (i := 20) rfl)
theorem bw_28_21 : Cond.code yX7_parent cX7_parent 5 (some .int) ∈ BIG := inB_r28 _ (List.mem_of_getElem? (i := 21) rfl)
theorem bw_28_22 : Cond.methodLink RX7 193 yX7_isParent ∈ BIG := inB_r28 _ (List.mem_of_getElem? (i := 22) rfl)
theorem bw_28_23 : Cond.instanceMethod yX7_isParent ∈ BIG := inB_r28 _ (List.mem_of_getElem? (i := 23) rfl)
theorem bw_29_0 : Cond.selects RX7 yX7_isParent yX7_isParent ∈ BIG := inB_r29 _ (List.mem_of_getElem? (i := 0) rfl)
theorem bw_29_1 : Cond.code yX7_isParent cX7_isParent 4 (some .boolean) ∈ BIG := inB_r29 _ (List.mem_of_getElem? (i := 1) rfl)
theorem bw_29_2 : Cond.methodLink RL 89 yX6_broken ∈ BIG := inB_r29 _ (List.mem_of_getElem? (i := 2) rfl)
theorem bw_29_3 : Cond.instanceMethod yX6_broken ∈ BIG := inB_r29 _ (List.mem_of_getElem? (i := 3) rfl)
theorem bw_29_4 : Cond.selects RX6 yX6_broken yX6_broken ∈ BIG := inB_r29 _ (List.mem_of_getElem? (i := 4) rfl)
theorem bw_29_5 : Cond.code yX6_broken cX6_broken 1 (some .int) ∈ BIG := inB_r29 _ (List.mem_of_getElem? (i := 5) rfl)
theorem bw_29_6 : Cond.methodLink RL 92 yX7_broken ∈ BIG := inB_r29 _ (List.mem_of_getElem? (i := 6) rfl)
theorem bw_29_7 : Cond.instanceMethod yX7_broken ∈ BIG := inB_r29 _ (List.mem_of_getElem? (i := 7) rfl)
theorem bw_29_8 : Cond.selects RX7 yX7_broken yX7_broken ∈ BIG := inB_r29 _ (List.mem_of_getElem? (i := 8) rfl)
theorem bw_29_9 : Cond.code yX7_broken cX7_broken 1 (some .int) ∈ BIG := inB_r29 _ (List.mem_of_getElem? (i := 9) rfl)
theorem bw_29_10 : Cond.methodLink RL 93 yX6_things ∈ BIG := inB_r29 _ (List.mem_of_getElem? (i := 10) rfl)
theorem bw_29_11 : Cond.instanceMethod yX6_things ∈ BIG := inB_r29 _ (List.mem_of_getElem? (i := 11) rfl)
theorem bw_29_12 : Cond.selects RX6 yX6_things yX6_things ∈ BIG := inB_r29 _ (List.mem_of_getElem? (i := 12) rfl)
theorem bw_29_13 : Cond.code yX6_things cX6_things 1 (some .int) ∈ BIG := inB_r29 _ (List.mem_of_getElem? (i := 13) rfl)
theorem bw_29_14 : Cond.methodLink RX6 152 yX2_members ∈ BIG := inB_r29 _ (List.mem_of_getElem? (i := 14) rfl)
theorem bw_29_15 : Cond.methodLink RX6 155 yJ6_bitCount_0f7a4 ∈ BIG := inB_r29 _ (List.mem_of_getElem? (i := 15) rfl)
theorem bw_29_16 : Cond.static yJ6_bitCount_0f7a4 ∈ BIG := inB_r29 _ (List.mem_of_getElem? (i := 16) rfl)
theorem bw_29_17 : Cond.initialized RJ6 ∈ BIG := inB_r29 _ (List.mem_of_getElem? (i := 17) rfl)
theorem bw_29_18 : Cond.code yJ6_bitCount_0f7a4 cJ6_bitCount_0f7a4 1 (some .int) ∈ BIG := inB_r29 _ (List.mem_of_getElem? (i := 18) rfl)
theorem bw_29_19 : Cond.constant RJ6 265 (1431655765) ∈ BIG := inB_r29 _ (List.mem_of_getElem? (i := 19) rfl)
theorem bw_29_20 : Cond.constant RJ6 266 (858993459) ∈ BIG := inB_r29 _ (List.mem_of_getElem? (i := 20) rfl)
theorem bw_29_21 : Cond.constant RJ6 267 (252645135) ∈ BIG := inB_r29 _ (List.mem_of_getElem? (i := 21) rfl)
theorem bw_29_22 : Cond.methodLink RL 96 yX7_things ∈ BIG := inB_r29 _ (List.mem_of_getElem? (i := 22) rfl)
theorem bw_29_23 : Cond.instanceMethod yX7_things ∈ BIG := inB_r29 _ (List.mem_of_getElem? (i := 23) rfl)
theorem bw_30_0 : Cond.selects RX7 yX7_things yX7_things ∈ BIG := inB_r30 _ (List.mem_of_getElem? (i := 0) rfl)
theorem bw_30_1 : Cond.code yX7_things cX7_things 3 (some .int) ∈ BIG := inB_r30 _ (List.mem_of_getElem? (i := 1) rfl)
theorem bw_30_2 : Cond.methodLink RL 97 yX6_isOf ∈ BIG := inB_r30 _ (List.mem_of_getElem? (i := 2) rfl)
theorem bw_30_3 : Cond.instanceMethod yX6_isOf ∈ BIG := inB_r30 _ (List.mem_of_getElem? (i := 3) rfl)
theorem bw_30_4 : Cond.selects RX6 yX6_isOf yX6_isOf ∈ BIG := inB_r30 _ (List.mem_of_getElem? (i := 4) rfl)
theorem bw_30_5 : Cond.code yX6_isOf cX6_isOf 3 (some .int) ∈ BIG := inB_r30 _ (List.mem_of_getElem? (i := 5) rfl)
theorem bw_30_6 : Cond.methodLink RX6 160 yX6_hasBit ∈ BIG := inB_r30 _ (List.mem_of_getElem? (i := 6) rfl)
theorem bw_30_7 : Cond.methodLink RL 100 yX7_isOf ∈ BIG := inB_r30 _ (List.mem_of_getElem? (i := 7) rfl)
theorem bw_30_8 : Cond.instanceMethod yX7_isOf ∈ BIG := inB_r30 _ (List.mem_of_getElem? (i := 8) rfl)
theorem bw_30_9 : Cond.selects RX7 yX7_isOf yX7_isOf ∈ BIG := inB_r30 _ (List.mem_of_getElem? (i := 9) rfl)
theorem bw_30_10 : Cond.code yX7_isOf cX7_isOf 3 (some .int) ∈ BIG := inB_r30 _ (List.mem_of_getElem? (i := 10) rfl)
theorem bw_30_11 : Cond.methodLink RL 101 yX6_pair ∈ BIG := inB_r30 _ (List.mem_of_getElem? (i := 11) rfl)
theorem bw_30_12 : Cond.instanceMethod yX6_pair ∈ BIG := inB_r30 _ (List.mem_of_getElem? (i := 12) rfl)
theorem bw_30_13 : Cond.selects RX6 yX6_pair yX6_pair ∈ BIG := inB_r30 _ (List.mem_of_getElem? (i := 13) rfl)
theorem bw_30_14 : Cond.code yX6_pair cX6_pair 4 (some .int) ∈ BIG := inB_r30 _ (List.mem_of_getElem? (i := 14) rfl)
theorem bw_30_15 : Cond.methodLink RX6 163 yX2_partners ∈ BIG := inB_r30 _ (List.mem_of_getElem? (i := 15) rfl)
theorem bw_30_16 : Cond.methodLink RL 104 yX7_pair ∈ BIG := inB_r30 _ (List.mem_of_getElem? (i := 16) rfl)
theorem bw_30_17 : Cond.instanceMethod yX7_pair ∈ BIG := inB_r30 _ (List.mem_of_getElem? (i := 17) rfl)
theorem bw_30_18 : Cond.selects RX7 yX7_pair yX7_pair ∈ BIG := inB_r30 _ (List.mem_of_getElem? (i := 18) rfl)
theorem bw_30_19 : Cond.code yX7_pair cX7_pair 4 (some .int) ∈ BIG := inB_r30 _ (List.mem_of_getElem? (i := 19) rfl)
theorem bw_30_20 : Cond.methodLink RL 105 yX6_holds ∈ BIG := inB_r30 _ (List.mem_of_getElem? (i := 20) rfl)
theorem bw_30_21 : Cond.instanceMethod yX6_holds ∈ BIG := inB_r30 _ (List.mem_of_getElem? (i := 21) rfl)
theorem bw_30_22 : Cond.selects RX6 yX6_holds yX6_holds ∈ BIG := inB_r30 _ (List.mem_of_getElem? (i := 22) rfl)
theorem bw_30_23 : Cond.code yX6_holds cX6_holds 2 (some .int) ∈ BIG := inB_r30 _ (List.mem_of_getElem? (i := 23) rfl)
theorem bw_31_0 : Cond.methodLink RX6 166 yX6_isSo ∈ BIG := inB_r31 _ (List.mem_of_getElem? (i := 0) rfl)
theorem bw_31_1 : Cond.instanceMethod yX6_isSo ∈ BIG := inB_r31 _ (List.mem_of_getElem? (i := 1) rfl)
theorem bw_31_2 : Cond.selects RX6 yX6_isSo yX6_isSo ∈ BIG := inB_r31 _ (List.mem_of_getElem? (i := 2) rfl)
theorem bw_31_3 : Cond.code yX6_isSo cX6_isSo 4 (some .boolean) ∈ BIG := inB_r31 _ (List.mem_of_getElem? (i := 3) rfl)
theorem bw_31_4 : Cond.methodLink RX6 189 yX2_roleWithin ∈ BIG := inB_r31 _ (List.mem_of_getElem? (i := 4) rfl)
theorem bw_31_5 : Cond.instanceMethod yX2_roleWithin ∈ BIG := inB_r31 _ (List.mem_of_getElem? (i := 5) rfl)
theorem bw_31_6 : Cond.selects RX2 yX2_roleWithin yX2_roleWithin ∈ BIG := inB_r31 _ (List.mem_of_getElem? (i := 6) rfl)
theorem bw_31_7 : Cond.code yX2_roleWithin cX2_roleWithin 4 (some .boolean) ∈ BIG := inB_r31 _ (List.mem_of_getElem? (i := 7) rfl)
theorem bw_31_8 : Cond.methodLink RX6 192 yX2_chainWithin ∈ BIG := inB_r31 _ (List.mem_of_getElem? (i := 8) rfl)
theorem bw_31_9 : Cond.instanceMethod yX2_chainWithin ∈ BIG := inB_r31 _ (List.mem_of_getElem? (i := 9) rfl)
theorem bw_31_10 : Cond.selects RX2 yX2_chainWithin yX2_chainWithin ∈ BIG := inB_r31 _ (List.mem_of_getElem? (i := 10) rfl)
theorem bw_31_11 : Cond.code yX2_chainWithin cX2_chainWithin 6 (some .boolean) ∈ BIG := inB_r31 _ (List.mem_of_getElem? (i := 11) rfl)
theorem bw_31_12 : Cond.methodLink RL 108 yX7_holds ∈ BIG := inB_r31 _ (List.mem_of_getElem? (i := 12) rfl)
theorem bw_31_13 : Cond.instanceMethod yX7_holds ∈ BIG := inB_r31 _ (List.mem_of_getElem? (i := 13) rfl)
theorem bw_31_14 : Cond.selects RX7 yX7_holds yX7_holds ∈ BIG := inB_r31 _ (List.mem_of_getElem? (i := 14) rfl)
theorem bw_31_15 : Cond.code yX7_holds cX7_holds 2 (some .int) ∈ BIG := inB_r31 _ (List.mem_of_getElem? (i := 15) rfl)
theorem bw_31_16 : Cond.methodLink RX7 199 yX7_isSo ∈ BIG := inB_r31 _ (List.mem_of_getElem? (i := 16) rfl)
theorem bw_31_17 : Cond.instanceMethod yX7_isSo ∈ BIG := inB_r31 _ (List.mem_of_getElem? (i := 17) rfl)
theorem bw_31_18 : Cond.selects RX7 yX7_isSo yX7_isSo ∈ BIG := inB_r31 _ (List.mem_of_getElem? (i := 18) rfl)
theorem bw_31_19 : Cond.code yX7_isSo cX7_isSo 8 (some .boolean) ∈ BIG := inB_r31 _ (List.mem_of_getElem? (i := 19) rfl)
theorem bw_31_20 : Cond.methodLink RL 109 yX6_count ∈ BIG := inB_r31 _ (List.mem_of_getElem? (i := 20) rfl)
theorem bw_31_21 : Cond.instanceMethod yX6_count ∈ BIG := inB_r31 _ (List.mem_of_getElem? (i := 21) rfl)
theorem bw_31_22 : Cond.selects RX6 yX6_count yX6_count ∈ BIG := inB_r31 _ (List.mem_of_getElem? (i := 22) rfl)
theorem bw_31_23 : Cond.code yX6_count cX6_count 2 (some .int) ∈ BIG := inB_r31 _ (List.mem_of_getElem? (i := 23) rfl)
theorem bw_32_0 : Cond.methodLink RX6 170 yX0_holdingCount ∈ BIG := inB_r32 _ (List.mem_of_getElem? (i := 0) rfl)
theorem bw_32_1 : Cond.instanceMethod yX0_holdingCount ∈ BIG := inB_r32 _ (List.mem_of_getElem? (i := 1) rfl)
theorem bw_32_2 : Cond.selects RX0 yX0_holdingCount yX0_holdingCount ∈ BIG := inB_r32 _ (List.mem_of_getElem? (i := 2) rfl)
theorem bw_32_3 : Cond.code yX0_holdingCount cX0_holdingCount 3 (some .int) ∈ BIG := inB_r32 _ (List.mem_of_getElem? (i := 3) rfl)
theorem bw_32_4 : Cond.methodLink RX0 39 yX0_holding ∈ BIG := inB_r32 _ (List.mem_of_getElem? (i := 4) rfl)
theorem bw_32_5 : Cond.methodLink RL 112 yX7_count ∈ BIG := inB_r32 _ (List.mem_of_getElem? (i := 5) rfl)
theorem bw_32_6 : Cond.instanceMethod yX7_count ∈ BIG := inB_r32 _ (List.mem_of_getElem? (i := 6) rfl)
theorem bw_32_7 : Cond.selects RX7 yX7_count yX7_count ∈ BIG := inB_r32 _ (List.mem_of_getElem? (i := 7) rfl)
theorem bw_32_8 : Cond.code yX7_count cX7_count 4 (some .int) ∈ BIG := inB_r32 _ (List.mem_of_getElem? (i := 8) rfl)
theorem bw_32_9 : Cond.methodLink RL 113 yX6_digest ∈ BIG := inB_r32 _ (List.mem_of_getElem? (i := 9) rfl)
theorem bw_32_10 : Cond.instanceMethod yX6_digest ∈ BIG := inB_r32 _ (List.mem_of_getElem? (i := 10) rfl)
theorem bw_32_11 : Cond.selects RX6 yX6_digest yX6_digest ∈ BIG := inB_r32 _ (List.mem_of_getElem? (i := 11) rfl)
theorem bw_32_12 : Cond.code yX6_digest cX6_digest 6 (some .long) ∈ BIG := inB_r32 _ (List.mem_of_getElem? (i := 12) rfl)
theorem bw_32_13 : Cond.constantLong RX6 174 (61) ∈ BIG := inB_r32 _ (List.mem_of_getElem? (i := 13) rfl)
theorem bw_32_14 : Cond.constantLong RX6 176 (31) ∈ BIG := inB_r32 _ (List.mem_of_getElem? (i := 14) rfl)
theorem bw_32_15 : Cond.methodLink RL 117 yX7_digest ∈ BIG := inB_r32 _ (List.mem_of_getElem? (i := 15) rfl)
theorem bw_32_16 : Cond.instanceMethod yX7_digest ∈ BIG := inB_r32 _ (List.mem_of_getElem? (i := 16) rfl)
theorem bw_32_17 : Cond.selects RX7 yX7_digest yX7_digest ∈ BIG := inB_r32 _ (List.mem_of_getElem? (i := 17) rfl)
theorem bw_32_18 : Cond.code yX7_digest cX7_digest 5 (some .long) ∈ BIG := inB_r32 _ (List.mem_of_getElem? (i := 18) rfl)
theorem bw_32_19 : Cond.constantLong RX7 202 (61) ∈ BIG := inB_r32 _ (List.mem_of_getElem? (i := 19) rfl)
theorem bw_32_20 : Cond.constantLong RX7 204 (31) ∈ BIG := inB_r32 _ (List.mem_of_getElem? (i := 20) rfl)
theorem bw_32_21 : Cond.methodLink RX7 206 yX7_axiom ∈ BIG := inB_r32 _ (List.mem_of_getElem? (i := 21) rfl)
end
