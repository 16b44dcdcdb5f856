section
-- ===== PART A: goes FIRST, ahead of the names: the tables' words, and 'selects' of the private methods out of them =====
/-- a private method of a class that the tables say can be made, by its rows of tables_1 -/
def lw_okq (q : MethodName × Nat) : Prop := (q.1.cls ≠ "java/lang/invoke/MethodHandle" ∧ q.1.cls ≠ "java/lang/invoke/VarHandle") ∧ Cond.instantiable q.1.cls q.2 ∈ tables_1 ∧ Cond.privateMethod q.1 ∈ tables_1 ∧ Cond.instanceMethod q.1 ∈ tables_1
theorem lw_p0 : lw_okq (⟨"CaveParty$Ground", "linkCaves", "()V"⟩, 7) := ⟨⟨by decide +kernel, by decide +kernel⟩, List.mem_of_getElem? (i := 21) (by decide +kernel), List.mem_of_getElem? (i := 223) (by decide +kernel), List.mem_of_getElem? (i := 224) (by decide +kernel)⟩
theorem lw_p1 : lw_okq (⟨"CaveParty", "forgetSearchAndPlan", "()V"⟩, 6) := ⟨⟨by decide +kernel, by decide +kernel⟩, List.mem_of_getElem? (i := 13) (by decide +kernel), List.mem_of_getElem? (i := 238) (by decide +kernel), List.mem_of_getElem? (i := 239) (by decide +kernel)⟩
theorem lw_p2 : lw_okq (⟨"CaveParty$Search", "canBeDone", "(II)Z"⟩, 9) := ⟨⟨by decide +kernel, by decide +kernel⟩, List.mem_of_getElem? (i := 59) (by decide +kernel), List.mem_of_getElem? (i := 302) (by decide +kernel), List.mem_of_getElem? (i := 303) (by decide +kernel)⟩
theorem lw_p3 : lw_okq (⟨"CaveParty$Stand", "leave", "(I)V"⟩, 4) := ⟨⟨by decide +kernel, by decide +kernel⟩, List.mem_of_getElem? (i := 65) (by decide +kernel), List.mem_of_getElem? (i := 310) (by decide +kernel), List.mem_of_getElem? (i := 311) (by decide +kernel)⟩
theorem lw_p4 : lw_okq (⟨"CaveParty$Stand", "come", "(I)V"⟩, 4) := ⟨⟨by decide +kernel, by decide +kernel⟩, List.mem_of_getElem? (i := 65) (by decide +kernel), List.mem_of_getElem? (i := 314) (by decide +kernel), List.mem_of_getElem? (i := 315) (by decide +kernel)⟩
theorem lw_p5 : lw_okq (⟨"CaveParty", "lookAtCave", "(II)I"⟩, 6) := ⟨⟨by decide +kernel, by decide +kernel⟩, List.mem_of_getElem? (i := 13) (by decide +kernel), List.mem_of_getElem? (i := 376) (by decide +kernel), List.mem_of_getElem? (i := 377) (by decide +kernel)⟩
theorem lw_p6 : lw_okq (⟨"CaveParty", "lookAtPassage", "(II)I"⟩, 6) := ⟨⟨by decide +kernel, by decide +kernel⟩, List.mem_of_getElem? (i := 13) (by decide +kernel), List.mem_of_getElem? (i := 384) (by decide +kernel), List.mem_of_getElem? (i := 385) (by decide +kernel)⟩
theorem lw_p7 : lw_okq (⟨"CaveParty", "canBeSolved", "(I)Z"⟩, 6) := ⟨⟨by decide +kernel, by decide +kernel⟩, List.mem_of_getElem? (i := 13) (by decide +kernel), List.mem_of_getElem? (i := 397) (by decide +kernel), List.mem_of_getElem? (i := 398) (by decide +kernel)⟩
theorem lw_p8 : lw_okq (⟨"CaveParty$Finder", "meet", "(IIIIII)V"⟩, 15) := ⟨⟨by decide +kernel, by decide +kernel⟩, List.mem_of_getElem? (i := 141) (by decide +kernel), List.mem_of_getElem? (i := 410) (by decide +kernel), List.mem_of_getElem? (i := 411) (by decide +kernel)⟩
theorem lw_p9 : lw_okq (⟨"CaveParty$Finder", "slotOf", "(I)I"⟩, 15) := ⟨⟨by decide +kernel, by decide +kernel⟩, List.mem_of_getElem? (i := 141) (by decide +kernel), List.mem_of_getElem? (i := 419) (by decide +kernel), List.mem_of_getElem? (i := 420) (by decide +kernel)⟩
theorem lw_p10 : lw_okq (⟨"CaveParty$Finder", "takeUp", "(I)V"⟩, 15) := ⟨⟨by decide +kernel, by decide +kernel⟩, List.mem_of_getElem? (i := 141) (by decide +kernel), List.mem_of_getElem? (i := 427) (by decide +kernel), List.mem_of_getElem? (i := 428) (by decide +kernel)⟩
theorem lw_p11 : lw_okq (⟨"CaveParty$Finder", "tryPuts", "()V"⟩, 15) := ⟨⟨by decide +kernel, by decide +kernel⟩, List.mem_of_getElem? (i := 141) (by decide +kernel), List.mem_of_getElem? (i := 431) (by decide +kernel), List.mem_of_getElem? (i := 432) (by decide +kernel)⟩
theorem lw_p12 : lw_okq (⟨"CaveParty$Finder", "tryLifts", "()V"⟩, 15) := ⟨⟨by decide +kernel, by decide +kernel⟩, List.mem_of_getElem? (i := 141) (by decide +kernel), List.mem_of_getElem? (i := 442) (by decide +kernel), List.mem_of_getElem? (i := 443) (by decide +kernel)⟩
theorem lw_p13 : lw_okq (⟨"CaveParty$Finder", "guardedWithout", "(I)I"⟩, 15) := ⟨⟨by decide +kernel, by decide +kernel⟩, List.mem_of_getElem? (i := 141) (by decide +kernel), List.mem_of_getElem? (i := 446) (by decide +kernel), List.mem_of_getElem? (i := 447) (by decide +kernel)⟩
theorem lw_p14 : lw_okq (⟨"CaveParty$Finder", "trySlides", "()V"⟩, 15) := ⟨⟨by decide +kernel, by decide +kernel⟩, List.mem_of_getElem? (i := 141) (by decide +kernel), List.mem_of_getElem? (i := 451) (by decide +kernel), List.mem_of_getElem? (i := 452) (by decide +kernel)⟩
theorem lw_p15 : lw_okq (⟨"CaveParty$Finder", "trySlidesFrom", "(I)V"⟩, 15) := ⟨⟨by decide +kernel, by decide +kernel⟩, List.mem_of_getElem? (i := 141) (by decide +kernel), List.mem_of_getElem? (i := 455) (by decide +kernel), List.mem_of_getElem? (i := 456) (by decide +kernel)⟩
def lw_privs_1 : List (MethodName × Nat) := [(⟨"CaveParty$Ground", "linkCaves", "()V"⟩, 7), (⟨"CaveParty", "forgetSearchAndPlan", "()V"⟩, 6), (⟨"CaveParty$Search", "canBeDone", "(II)Z"⟩, 9), (⟨"CaveParty$Stand", "leave", "(I)V"⟩, 4), (⟨"CaveParty$Stand", "come", "(I)V"⟩, 4), (⟨"CaveParty", "lookAtCave", "(II)I"⟩, 6), (⟨"CaveParty", "lookAtPassage", "(II)I"⟩, 6), (⟨"CaveParty", "canBeSolved", "(I)Z"⟩, 6), (⟨"CaveParty$Finder", "meet", "(IIIIII)V"⟩, 15), (⟨"CaveParty$Finder", "slotOf", "(I)I"⟩, 15), (⟨"CaveParty$Finder", "takeUp", "(I)V"⟩, 15), (⟨"CaveParty$Finder", "tryPuts", "()V"⟩, 15), (⟨"CaveParty$Finder", "tryLifts", "()V"⟩, 15), (⟨"CaveParty$Finder", "guardedWithout", "(I)I"⟩, 15), (⟨"CaveParty$Finder", "trySlides", "()V"⟩, 15), (⟨"CaveParty$Finder", "trySlidesFrom", "(I)V"⟩, 15)]
theorem lw_r1 : ∀ q ∈ lw_privs_1, lw_okq q := List.forall_mem_cons.mpr ⟨lw_p0, List.forall_mem_cons.mpr ⟨lw_p1, List.forall_mem_cons.mpr ⟨lw_p2, List.forall_mem_cons.mpr ⟨lw_p3, List.forall_mem_cons.mpr ⟨lw_p4, List.forall_mem_cons.mpr ⟨lw_p5, List.forall_mem_cons.mpr ⟨lw_p6, List.forall_mem_cons.mpr ⟨lw_p7, List.forall_mem_cons.mpr ⟨lw_p8, List.forall_mem_cons.mpr ⟨lw_p9, List.forall_mem_cons.mpr ⟨lw_p10, List.forall_mem_cons.mpr ⟨lw_p11, List.forall_mem_cons.mpr ⟨lw_p12, List.forall_mem_cons.mpr ⟨lw_p13, List.forall_mem_cons.mpr ⟨lw_p14, List.forall_mem_cons.mpr ⟨lw_p15, fun _ h => absurd h List.not_mem_nil⟩⟩⟩⟩⟩⟩⟩⟩⟩⟩⟩⟩⟩⟩⟩⟩
theorem lw_p16 : lw_okq (⟨"CaveParty", "isPlanBy", "(I)Z"⟩, 6) := ⟨⟨by decide +kernel, by decide +kernel⟩, List.mem_of_getElem? (i := 13) (by decide +kernel), List.mem_of_getElem? (i := 499) (by decide +kernel), List.mem_of_getElem? (i := 500) (by decide +kernel)⟩
theorem lw_p17 : lw_okq (⟨"CaveParty$Layout", "leastWorstBehind", "(I)I"⟩, 3) := ⟨⟨by decide +kernel, by decide +kernel⟩, List.mem_of_getElem? (i := 125) (by decide +kernel), List.mem_of_getElem? (i := 543) (by decide +kernel), List.mem_of_getElem? (i := 544) (by decide +kernel)⟩
theorem lw_p18 : lw_okq (⟨"CaveParty$Layout", "firstWithin", "(II)I"⟩, 3) := ⟨⟨by decide +kernel, by decide +kernel⟩, List.mem_of_getElem? (i := 125) (by decide +kernel), List.mem_of_getElem? (i := 548) (by decide +kernel), List.mem_of_getElem? (i := 549) (by decide +kernel)⟩
theorem lw_p19 : lw_okq (⟨"CavePartyModel", "changes", "()V"⟩, 25) := ⟨⟨by decide +kernel, by decide +kernel⟩, List.mem_of_getElem? (i := 552) (by decide +kernel), List.mem_of_getElem? (i := 641) (by decide +kernel), List.mem_of_getElem? (i := 642) (by decide +kernel)⟩
theorem lw_p20 : lw_okq (⟨"CavePartyModel", "begins", "()V"⟩, 25) := ⟨⟨by decide +kernel, by decide +kernel⟩, List.mem_of_getElem? (i := 552) (by decide +kernel), List.mem_of_getElem? (i := 649) (by decide +kernel), List.mem_of_getElem? (i := 650) (by decide +kernel)⟩
theorem lw_p21 : lw_okq (⟨"CavePartyModel", "keeps", "()V"⟩, 25) := ⟨⟨by decide +kernel, by decide +kernel⟩, List.mem_of_getElem? (i := 552) (by decide +kernel), List.mem_of_getElem? (i := 653) (by decide +kernel), List.mem_of_getElem? (i := 654) (by decide +kernel)⟩
theorem lw_p22 : lw_okq (⟨"CavePartyModel", "isCave", "(I)Z"⟩, 25) := ⟨⟨by decide +kernel, by decide +kernel⟩, List.mem_of_getElem? (i := 552) (by decide +kernel), List.mem_of_getElem? (i := 661) (by decide +kernel), List.mem_of_getElem? (i := 662) (by decide +kernel)⟩
theorem lw_p23 : lw_okq (⟨"CavePartyModel", "isPassage", "(I)Z"⟩, 25) := ⟨⟨by decide +kernel, by decide +kernel⟩, List.mem_of_getElem? (i := 552) (by decide +kernel), List.mem_of_getElem? (i := 669) (by decide +kernel), List.mem_of_getElem? (i := 670) (by decide +kernel)⟩
theorem lw_p24 : lw_okq (⟨"CavePartyModel", "isAt", "(II)Z"⟩, 25) := ⟨⟨by decide +kernel, by decide +kernel⟩, List.mem_of_getElem? (i := 552) (by decide +kernel), List.mem_of_getElem? (i := 682) (by decide +kernel), List.mem_of_getElem? (i := 683) (by decide +kernel)⟩
theorem lw_p25 : lw_okq (⟨"CavePartyModel", "comes", "(I)V"⟩, 25) := ⟨⟨by decide +kernel, by decide +kernel⟩, List.mem_of_getElem? (i := 552) (by decide +kernel), List.mem_of_getElem? (i := 686) (by decide +kernel), List.mem_of_getElem? (i := 687) (by decide +kernel)⟩
theorem lw_p26 : lw_okq (⟨"CavePartyModel", "below", "()I"⟩, 25) := ⟨⟨by decide +kernel, by decide +kernel⟩, List.mem_of_getElem? (i := 552) (by decide +kernel), List.mem_of_getElem? (i := 690) (by decide +kernel), List.mem_of_getElem? (i := 691) (by decide +kernel)⟩
theorem lw_p27 : lw_okq (⟨"CavePartyModel", "does", "(III)V"⟩, 25) := ⟨⟨by decide +kernel, by decide +kernel⟩, List.mem_of_getElem? (i := 552) (by decide +kernel), List.mem_of_getElem? (i := 694) (by decide +kernel), List.mem_of_getElem? (i := 695) (by decide +kernel)⟩
theorem lw_p28 : lw_okq (⟨"CavePartyModel", "other", "(II)I"⟩, 25) := ⟨⟨by decide +kernel, by decide +kernel⟩, List.mem_of_getElem? (i := 552) (by decide +kernel), List.mem_of_getElem? (i := 698) (by decide +kernel), List.mem_of_getElem? (i := 699) (by decide +kernel)⟩
theorem lw_p29 : lw_okq (⟨"CavePartyModel", "settles", "(I)V"⟩, 25) := ⟨⟨by decide +kernel, by decide +kernel⟩, List.mem_of_getElem? (i := 552) (by decide +kernel), List.mem_of_getElem? (i := 702) (by decide +kernel), List.mem_of_getElem? (i := 703) (by decide +kernel)⟩
theorem lw_p30 : lw_okq (⟨"CavePartyModel", "spreads", "()V"⟩, 25) := ⟨⟨by decide +kernel, by decide +kernel⟩, List.mem_of_getElem? (i := 552) (by decide +kernel), List.mem_of_getElem? (i := 706) (by decide +kernel), List.mem_of_getElem? (i := 707) (by decide +kernel)⟩
theorem lw_p31 : lw_okq (⟨"CavePartyModel", "party", "()I"⟩, 25) := ⟨⟨by decide +kernel, by decide +kernel⟩, List.mem_of_getElem? (i := 552) (by decide +kernel), List.mem_of_getElem? (i := 718) (by decide +kernel), List.mem_of_getElem? (i := 719) (by decide +kernel)⟩
def lw_privs_2 : List (MethodName × Nat) := [(⟨"CaveParty", "isPlanBy", "(I)Z"⟩, 6), (⟨"CaveParty$Layout", "leastWorstBehind", "(I)I"⟩, 3), (⟨"CaveParty$Layout", "firstWithin", "(II)I"⟩, 3), (⟨"CavePartyModel", "changes", "()V"⟩, 25), (⟨"CavePartyModel", "begins", "()V"⟩, 25), (⟨"CavePartyModel", "keeps", "()V"⟩, 25), (⟨"CavePartyModel", "isCave", "(I)Z"⟩, 25), (⟨"CavePartyModel", "isPassage", "(I)Z"⟩, 25), (⟨"CavePartyModel", "isAt", "(II)Z"⟩, 25), (⟨"CavePartyModel", "comes", "(I)V"⟩, 25), (⟨"CavePartyModel", "below", "()I"⟩, 25), (⟨"CavePartyModel", "does", "(III)V"⟩, 25), (⟨"CavePartyModel", "other", "(II)I"⟩, 25), (⟨"CavePartyModel", "settles", "(I)V"⟩, 25), (⟨"CavePartyModel", "spreads", "()V"⟩, 25), (⟨"CavePartyModel", "party", "()I"⟩, 25)]
theorem lw_r2 : ∀ q ∈ lw_privs_2, lw_okq q := List.forall_mem_cons.mpr ⟨lw_p16, List.forall_mem_cons.mpr ⟨lw_p17, List.forall_mem_cons.mpr ⟨lw_p18, List.forall_mem_cons.mpr ⟨lw_p19, List.forall_mem_cons.mpr ⟨lw_p20, List.forall_mem_cons.mpr ⟨lw_p21, List.forall_mem_cons.mpr ⟨lw_p22, List.forall_mem_cons.mpr ⟨lw_p23, List.forall_mem_cons.mpr ⟨lw_p24, List.forall_mem_cons.mpr ⟨lw_p25, List.forall_mem_cons.mpr ⟨lw_p26, List.forall_mem_cons.mpr ⟨lw_p27, List.forall_mem_cons.mpr ⟨lw_p28, List.forall_mem_cons.mpr ⟨lw_p29, List.forall_mem_cons.mpr ⟨lw_p30, List.forall_mem_cons.mpr ⟨lw_p31, fun _ h => absurd h List.not_mem_nil⟩⟩⟩⟩⟩⟩⟩⟩⟩⟩⟩⟩⟩⟩⟩⟩
theorem lw_p32 : lw_okq (⟨"CavePartyModel", "passages", "()I"⟩, 25) := ⟨⟨by decide +kernel, by decide +kernel⟩, List.mem_of_getElem? (i := 552) (by decide +kernel), List.mem_of_getElem? (i := 725) (by decide +kernel), List.mem_of_getElem? (i := 726) (by decide +kernel)⟩
theorem lw_p33 : lw_okq (⟨"CavePartyModel", "pieces", "()I"⟩, 25) := ⟨⟨by decide +kernel, by decide +kernel⟩, List.mem_of_getElem? (i := 552) (by decide +kernel), List.mem_of_getElem? (i := 729) (by decide +kernel), List.mem_of_getElem? (i := 730) (by decide +kernel)⟩
theorem lw_p34 : lw_okq (⟨"CavePartyModel", "reached", "(II)I"⟩, 25) := ⟨⟨by decide +kernel, by decide +kernel⟩, List.mem_of_getElem? (i := 552) (by decide +kernel), List.mem_of_getElem? (i := 733) (by decide +kernel), List.mem_of_getElem? (i := 734) (by decide +kernel)⟩
theorem lw_p35 : lw_okq (⟨"CavePartyModel", "degree", "(I)I"⟩, 25) := ⟨⟨by decide +kernel, by decide +kernel⟩, List.mem_of_getElem? (i := 552) (by decide +kernel), List.mem_of_getElem? (i := 741) (by decide +kernel), List.mem_of_getElem? (i := 742) (by decide +kernel)⟩
theorem lw_p36 : lw_okq (⟨"CavePartyModel", "placeOf", "(I)I"⟩, 25) := ⟨⟨by decide +kernel, by decide +kernel⟩, List.mem_of_getElem? (i := 552) (by decide +kernel), List.mem_of_getElem? (i := 745) (by decide +kernel), List.mem_of_getElem? (i := 746) (by decide +kernel)⟩
theorem lw_p37 : lw_okq (⟨"CavePartyModel", "isSmall", "(I)Z"⟩, 25) := ⟨⟨by decide +kernel, by decide +kernel⟩, List.mem_of_getElem? (i := 552) (by decide +kernel), List.mem_of_getElem? (i := 753) (by decide +kernel), List.mem_of_getElem? (i := 754) (by decide +kernel)⟩
theorem lw_p38 : lw_okq (⟨"CavePartyModel", "finds", "(II)I"⟩, 25) := ⟨⟨by decide +kernel, by decide +kernel⟩, List.mem_of_getElem? (i := 552) (by decide +kernel), List.mem_of_getElem? (i := 757) (by decide +kernel), List.mem_of_getElem? (i := 758) (by decide +kernel)⟩
theorem lw_p39 : lw_okq (⟨"CavePartyModel", "meets", "(III)Z"⟩, 25) := ⟨⟨by decide +kernel, by decide +kernel⟩, List.mem_of_getElem? (i := 552) (by decide +kernel), List.mem_of_getElem? (i := 761) (by decide +kernel), List.mem_of_getElem? (i := 762) (by decide +kernel)⟩
theorem lw_p40 : lw_okq (⟨"CavePartyModel", "number", "(I)I"⟩, 25) := ⟨⟨by decide +kernel, by decide +kernel⟩, List.mem_of_getElem? (i := 552) (by decide +kernel), List.mem_of_getElem? (i := 765) (by decide +kernel), List.mem_of_getElem? (i := 766) (by decide +kernel)⟩
theorem lw_p41 : lw_okq (⟨"CavePartyModel", "shows", "(II)V"⟩, 25) := ⟨⟨by decide +kernel, by decide +kernel⟩, List.mem_of_getElem? (i := 552) (by decide +kernel), List.mem_of_getElem? (i := 771) (by decide +kernel), List.mem_of_getElem? (i := 772) (by decide +kernel)⟩
theorem lw_p42 : lw_okq (⟨"CavePartyModel", "may", "(IIII)Z"⟩, 25) := ⟨⟨by decide +kernel, by decide +kernel⟩, List.mem_of_getElem? (i := 552) (by decide +kernel), List.mem_of_getElem? (i := 775) (by decide +kernel), List.mem_of_getElem? (i := 776) (by decide +kernel)⟩
theorem lw_p43 : lw_okq (⟨"CavePartyModel", "hangs", "(I)Z"⟩, 25) := ⟨⟨by decide +kernel, by decide +kernel⟩, List.mem_of_getElem? (i := 552) (by decide +kernel), List.mem_of_getElem? (i := 779) (by decide +kernel), List.mem_of_getElem? (i := 780) (by decide +kernel)⟩
theorem lw_p44 : lw_okq (⟨"CavePartyModel", "isSearched", "()Z"⟩, 25) := ⟨⟨by decide +kernel, by decide +kernel⟩, List.mem_of_getElem? (i := 552) (by decide +kernel), List.mem_of_getElem? (i := 783) (by decide +kernel), List.mem_of_getElem? (i := 784) (by decide +kernel)⟩
theorem lw_p45 : lw_okq (⟨"CavePartyModel", "cutBehind", "(I)I"⟩, 25) := ⟨⟨by decide +kernel, by decide +kernel⟩, List.mem_of_getElem? (i := 552) (by decide +kernel), List.mem_of_getElem? (i := 807) (by decide +kernel), List.mem_of_getElem? (i := 808) (by decide +kernel)⟩
theorem lw_p46 : lw_okq (⟨"CavePartyModel", "cutOf", "(I)I"⟩, 25) := ⟨⟨by decide +kernel, by decide +kernel⟩, List.mem_of_getElem? (i := 552) (by decide +kernel), List.mem_of_getElem? (i := 811) (by decide +kernel), List.mem_of_getElem? (i := 812) (by decide +kernel)⟩
theorem lw_p47 : lw_okq (⟨"CavePartyModel", "worst", "(I)I"⟩, 25) := ⟨⟨by decide +kernel, by decide +kernel⟩, List.mem_of_getElem? (i := 552) (by decide +kernel), List.mem_of_getElem? (i := 819) (by decide +kernel), List.mem_of_getElem? (i := 820) (by decide +kernel)⟩
def lw_privs_3 : List (MethodName × Nat) := [(⟨"CavePartyModel", "passages", "()I"⟩, 25), (⟨"CavePartyModel", "pieces", "()I"⟩, 25), (⟨"CavePartyModel", "reached", "(II)I"⟩, 25), (⟨"CavePartyModel", "degree", "(I)I"⟩, 25), (⟨"CavePartyModel", "placeOf", "(I)I"⟩, 25), (⟨"CavePartyModel", "isSmall", "(I)Z"⟩, 25), (⟨"CavePartyModel", "finds", "(II)I"⟩, 25), (⟨"CavePartyModel", "meets", "(III)Z"⟩, 25), (⟨"CavePartyModel", "number", "(I)I"⟩, 25), (⟨"CavePartyModel", "shows", "(II)V"⟩, 25), (⟨"CavePartyModel", "may", "(IIII)Z"⟩, 25), (⟨"CavePartyModel", "hangs", "(I)Z"⟩, 25), (⟨"CavePartyModel", "isSearched", "()Z"⟩, 25), (⟨"CavePartyModel", "cutBehind", "(I)I"⟩, 25), (⟨"CavePartyModel", "cutOf", "(I)I"⟩, 25), (⟨"CavePartyModel", "worst", "(I)I"⟩, 25)]
theorem lw_r3 : ∀ q ∈ lw_privs_3, lw_okq q := List.forall_mem_cons.mpr ⟨lw_p32, List.forall_mem_cons.mpr ⟨lw_p33, List.forall_mem_cons.mpr ⟨lw_p34, List.forall_mem_cons.mpr ⟨lw_p35, List.forall_mem_cons.mpr ⟨lw_p36, List.forall_mem_cons.mpr ⟨lw_p37, List.forall_mem_cons.mpr ⟨lw_p38, List.forall_mem_cons.mpr ⟨lw_p39, List.forall_mem_cons.mpr ⟨lw_p40, List.forall_mem_cons.mpr ⟨lw_p41, List.forall_mem_cons.mpr ⟨lw_p42, List.forall_mem_cons.mpr ⟨lw_p43, List.forall_mem_cons.mpr ⟨lw_p44, List.forall_mem_cons.mpr ⟨lw_p45, List.forall_mem_cons.mpr ⟨lw_p46, List.forall_mem_cons.mpr ⟨lw_p47, fun _ h => absurd h List.not_mem_nil⟩⟩⟩⟩⟩⟩⟩⟩⟩⟩⟩⟩⟩⟩⟩⟩
def lw_privs : List (MethodName × Nat) := lw_privs_1 ++ (lw_privs_2 ++ (lw_privs_3))
def lw_tbl : List Cond := k2_sels lw_privs ++ tables_1
theorem lw_privs_ok : ∀ q ∈ lw_privs, lw_okq q := by
  show ∀ q ∈ lw_privs_1 ++ (lw_privs_2 ++ (lw_privs_3)), lw_okq q
  exact List.forall_mem_append.mpr ⟨lw_r1, List.forall_mem_append.mpr ⟨lw_r2, lw_r3⟩⟩
def RX0 : String := "CaveParty$Finder"
def TX0 : u_T := fun k => match k with
  | 0 => ("CaveParty$Finder", "ground", "LCaveParty$Ground;", true)
  | 1 => ("CaveParty$Finder", "slots", "[I", true)
  | 2 => ("CaveParty$Finder", "stands", "[I", true)
  | 3 => ("CaveParty$Finder", "from", "[I", true)
  | 4 => ("CaveParty$Finder", "orders", "[I", true)
  | 5 => ("CaveParty$Finder", "met", "I", false)
  | 6 => ("CaveParty$Finder", "goal", "I", false)
  | 7 => ("CaveParty$Finder", "law", "I", false)
  | 8 => ("CaveParty$Finder", "most", "I", false)
  | 9 => ("CaveParty$Finder", "head", "I", false)
  | 10 => ("CaveParty$Finder", "below", "I", false)
  | 11 => ("CaveParty$Finder", "lost", "I", false)
  | 12 => ("CaveParty$Finder", "slid", "Z", false)
  | 13 => ("CaveParty$Finder", "guarded", "I", false)
  | _ => ("CaveParty$Finder", "total", "I", false)
def tyX0 : Nat → FieldType := fun k => match k with
  | 0 => .object "CaveParty$Ground"
  | 1 => .array .int
  | 2 => .array .int
  | 3 => .array .int
  | 4 => .array .int
  | 5 => .int
  | 6 => .int
  | 7 => .int
  | 8 => .int
  | 9 => .int
  | 10 => .int
  | 11 => .int
  | 12 => .boolean
  | 13 => .int
  | _ => .int
abbrev wsX00 : List Cond := u_ws RX0 TX0 15
theorem nmX0 : ∀ a, a < 15 → ∀ b, b < 15 → a ≠ b → (TX0 a).2.1 ≠ (TX0 b).2.1 := by decide +kernel
theorem tyX0_ok : ∀ k, k < 15 → parseFieldDescriptor (TX0 k).2.2.1 = some (tyX0 k) := by decide +kernel
abbrev cX0_init : ByteArray := prog_2_method_1_code
def yX0_init : MethodName := ⟨RX0, "<init>", "(LCaveParty$Ground;)V"⟩
abbrev cX0_finds : ByteArray := prog_2_method_2_code
def yX0_finds : MethodName := ⟨RX0, "finds", "(II)Z"⟩
abbrev cX0_wayToGoal : ByteArray := prog_2_method_3_code
def yX0_wayToGoal : MethodName := ⟨RX0, "wayToGoal", "()LCaveParty$Way;"⟩
abbrev cX0_takeUp : ByteArray := prog_2_method_4_code
def yX0_takeUp : MethodName := ⟨RX0, "takeUp", "(I)V"⟩
abbrev cX0_tryPuts : ByteArray := prog_2_method_5_code
def yX0_tryPuts : MethodName := ⟨RX0, "tryPuts", "()V"⟩
abbrev cX0_tryLifts : ByteArray := prog_2_method_6_code
def yX0_tryLifts : MethodName := ⟨RX0, "tryLifts", "()V"⟩
abbrev cX0_trySlides : ByteArray := prog_2_method_7_code
def yX0_trySlides : MethodName := ⟨RX0, "trySlides", "()V"⟩
abbrev cX0_trySlidesFrom : ByteArray := prog_2_method_8_code
def yX0_trySlidesFrom : MethodName := ⟨RX0, "trySlidesFrom", "(I)V"⟩
abbrev cX0_one : ByteArray := prog_2_method_9_code
def yX0_one : MethodName := ⟨RX0, "one", "(I)I"⟩
abbrev cX0_guardedWithout : ByteArray := prog_2_method_10_code
def yX0_guardedWithout : MethodName := ⟨RX0, "guardedWithout", "(I)I"⟩
abbrev cX0_meet : ByteArray := prog_2_method_11_code
def yX0_meet : MethodName := ⟨RX0, "meet", "(IIIIII)V"⟩
abbrev cX0_slotOf : ByteArray := prog_2_method_12_code
def yX0_slotOf : MethodName := ⟨RX0, "slotOf", "(I)I"⟩
def RX1 : String := "CaveParty$Ground"
def TX1 : u_T := fun k => match k with
  | 0 => ("CaveParty$Ground", "caves", "I", false)
  | 1 => ("CaveParty$Ground", "dug", "I", false)
  | 2 => ("CaveParty$Ground", "mouth", "I", false)
  | 3 => ("CaveParty$Ground", "lesser", "[I", true)
  | 4 => ("CaveParty$Ground", "greater", "[I", true)
  | 5 => ("CaveParty$Ground", "at", "[I", true)
  | _ => ("CaveParty$Ground", "next", "[I", true)
def tyX1 : Nat → FieldType := fun k => match k with
  | 0 => .int
  | 1 => .int
  | 2 => .int
  | 3 => .array .int
  | 4 => .array .int
  | 5 => .array .int
  | _ => .array .int
abbrev wsX10 : List Cond := u_ws RX1 TX1 7
theorem nmX1 : ∀ a, a < 7 → ∀ b, b < 7 → a ≠ b → (TX1 a).2.1 ≠ (TX1 b).2.1 := by decide +kernel
theorem tyX1_ok : ∀ k, k < 7 → parseFieldDescriptor (TX1 k).2.2.1 = some (tyX1 k) := by decide +kernel
abbrev cX1_init : ByteArray := prog_3_method_1_code
def yX1_init : MethodName := ⟨RX1, "<init>", "()V"⟩
abbrev cX1_clear : ByteArray := prog_3_method_2_code
def yX1_clear : MethodName := ⟨RX1, "clear", "(I)V"⟩
abbrev cX1_hasCave : ByteArray := prog_3_method_3_code
def yX1_hasCave : MethodName := ⟨RX1, "hasCave", "(I)Z"⟩
abbrev cX1_hasPassage : ByteArray := prog_3_method_4_code
def yX1_hasPassage : MethodName := ⟨RX1, "hasPassage", "(I)Z"⟩
abbrev cX1_leadsFrom : ByteArray := prog_3_method_5_code
def yX1_leadsFrom : MethodName := ⟨RX1, "leadsFrom", "(II)Z"⟩
abbrev cX1_lowestFree : ByteArray := prog_3_method_6_code
def yX1_lowestFree : MethodName := ⟨RX1, "lowestFree", "()I"⟩
abbrev cX1_dig : ByteArray := prog_3_method_7_code
def yX1_dig : MethodName := ⟨RX1, "dig", "(III)V"⟩
abbrev cX1_fillUp : ByteArray := prog_3_method_8_code
def yX1_fillUp : MethodName := ⟨RX1, "fillUp", "(I)V"⟩
abbrev cX1_linkCaves : ByteArray := prog_3_method_9_code
def yX1_linkCaves : MethodName := ⟨RX1, "linkCaves", "()V"⟩
abbrev cX1_allCaves : ByteArray := prog_3_method_10_code
def yX1_allCaves : MethodName := ⟨RX1, "allCaves", "()I"⟩
abbrev cX1_otherEnd : ByteArray := prog_3_method_11_code
def yX1_otherEnd : MethodName := ⟨RX1, "otherEnd", "(II)I"⟩
abbrev cX1_passagesAt : ByteArray := prog_3_method_12_code
def yX1_passagesAt : MethodName := ⟨RX1, "passagesAt", "(I)I"⟩
abbrev cX1_spread : ByteArray := prog_3_method_13_code
def yX1_spread : MethodName := ⟨RX1, "spread", "(II)I"⟩
abbrev cX1_lostBehind : ByteArray := prog_3_method_14_code
def yX1_lostBehind : MethodName := ⟨RX1, "lostBehind", "(IIII)I"⟩
abbrev cX1_allows : ByteArray := prog_3_method_15_code
def yX1_allows : MethodName := ⟨RX1, "allows", "(IIIZ)Z"⟩
abbrev cX1_hangsTogether : ByteArray := prog_3_method_16_code
def yX1_hangsTogether : MethodName := ⟨RX1, "hangsTogether", "(II)Z"⟩
abbrev cX1_parts : ByteArray := prog_3_method_17_code
def yX1_parts : MethodName := ⟨RX1, "parts", "()I"⟩
abbrev cX1_isTree : ByteArray := prog_3_method_18_code
def yX1_isTree : MethodName := ⟨RX1, "isTree", "()Z"⟩
abbrev cX1_cutBetween : ByteArray := prog_3_method_19_code
def yX1_cutBetween : MethodName := ⟨RX1, "cutBetween", "(I)I"⟩
def RX2 : String := "CaveParty$Layout"
def TX2 : u_T := fun k => match k with
  | 0 => ("CaveParty$Layout", "ground", "LCaveParty$Ground;", true)
  | 1 => ("CaveParty$Layout", "row", "[I", true)
  | _ => ("CaveParty$Layout", "worst", "[I", true)
def tyX2 : Nat → FieldType := fun k => match k with
  | 0 => .object "CaveParty$Ground"
  | 1 => .array .int
  | _ => .array .int
abbrev wsX20 : List Cond := u_ws RX2 TX2 3
theorem nmX2 : ∀ a, a < 3 → ∀ b, b < 3 → a ≠ b → (TX2 a).2.1 ≠ (TX2 b).2.1 := by decide +kernel
theorem tyX2_ok : ∀ k, k < 3 → parseFieldDescriptor (TX2 k).2.2.1 = some (tyX2 k) := by decide +kernel
abbrev cX2_init : ByteArray := prog_4_method_1_code
def yX2_init : MethodName := ⟨RX2, "<init>", "(LCaveParty$Ground;)V"⟩
abbrev cX2_reset : ByteArray := prog_4_method_2_code
def yX2_reset : MethodName := ⟨RX2, "reset", "()V"⟩
abbrev cX2_placeOf : ByteArray := prog_4_method_3_code
def yX2_placeOf : MethodName := ⟨RX2, "placeOf", "(I)I"⟩
abbrev cX2_swapIn : ByteArray := prog_4_method_4_code
def yX2_swapIn : MethodName := ⟨RX2, "swapIn", "(II)V"⟩
abbrev cX2_cutBehind : ByteArray := prog_4_method_5_code
def yX2_cutBehind : MethodName := ⟨RX2, "cutBehind", "(I)I"⟩
abbrev cX2_greatestCut : ByteArray := prog_4_method_6_code
def yX2_greatestCut : MethodName := ⟨RX2, "greatestCut", "()I"⟩
abbrev cX2_becomeTheLeast : ByteArray := prog_4_method_7_code
def yX2_becomeTheLeast : MethodName := ⟨RX2, "becomeTheLeast", "()I"⟩
abbrev cX2_leastWorstBehind : ByteArray := prog_4_method_8_code
def yX2_leastWorstBehind : MethodName := ⟨RX2, "leastWorstBehind", "(I)I"⟩
abbrev cX2_firstWithin : ByteArray := prog_4_method_9_code
def yX2_firstWithin : MethodName := ⟨RX2, "firstWithin", "(II)I"⟩
def RX3 : String := "CaveParty$Search"
def TX3 : u_T := fun k => match k with
  | 0 => ("CaveParty$Search", "ground", "LCaveParty$Ground;", true)
  | 1 => ("CaveParty$Search", "now", "LCaveParty$Stand;", true)
  | 2 => ("CaveParty$Search", "done", "I", false)
  | 3 => ("CaveParty$Search", "party", "I", false)
  | 4 => ("CaveParty$Search", "what", "[I", true)
  | 5 => ("CaveParty$Search", "cave", "[I", true)
  | 6 => ("CaveParty$Search", "passage", "[I", true)
  | 7 => ("CaveParty$Search", "lostBefore", "[I", true)
  | _ => ("CaveParty$Search", "partyBefore", "[I", true)
def tyX3 : Nat → FieldType := fun k => match k with
  | 0 => .object "CaveParty$Ground"
  | 1 => .object "CaveParty$Stand"
  | 2 => .int
  | 3 => .int
  | 4 => .array .int
  | 5 => .array .int
  | 6 => .array .int
  | 7 => .array .int
  | _ => .array .int
abbrev wsX30 : List Cond := u_ws RX3 TX3 9
theorem nmX3 : ∀ a, a < 9 → ∀ b, b < 9 → a ≠ b → (TX3 a).2.1 ≠ (TX3 b).2.1 := by decide +kernel
theorem tyX3_ok : ∀ k, k < 9 → parseFieldDescriptor (TX3 k).2.2.1 = some (tyX3 k) := by decide +kernel
abbrev cX3_init : ByteArray := prog_5_method_1_code
def yX3_init : MethodName := ⟨RX3, "<init>", "(LCaveParty$Ground;)V"⟩
abbrev cX3_begin : ByteArray := prog_5_method_2_code
def yX3_begin : MethodName := ⟨RX3, "begin", "()V"⟩
abbrev cX3_carryOut : ByteArray := prog_5_method_3_code
def yX3_carryOut : MethodName := ⟨RX3, "carryOut", "(III)Z"⟩
abbrev cX3_canBeDone : ByteArray := prog_5_method_4_code
def yX3_canBeDone : MethodName := ⟨RX3, "canBeDone", "(II)Z"⟩
abbrev cX3_takeBack : ByteArray := prog_5_method_5_code
def yX3_takeBack : MethodName := ⟨RX3, "takeBack", "()Z"⟩
abbrev cX3_passagesJustLost : ByteArray := prog_5_method_6_code
def yX3_passagesJustLost : MethodName := ⟨RX3, "passagesJustLost", "()I"⟩
def RX4 : String := "CaveParty$Stand"
def TX4 : u_T := fun k => match k with
  | 0 => ("CaveParty$Stand", "below", "[I", true)
  | 1 => ("CaveParty$Stand", "total", "I", false)
  | 2 => ("CaveParty$Stand", "guarded", "I", false)
  | _ => ("CaveParty$Stand", "lost", "I", false)
def tyX4 : Nat → FieldType := fun k => match k with
  | 0 => .array .int
  | 1 => .int
  | 2 => .int
  | _ => .int
abbrev wsX40 : List Cond := u_ws RX4 TX4 4
theorem nmX4 : ∀ a, a < 4 → ∀ b, b < 4 → a ≠ b → (TX4 a).2.1 ≠ (TX4 b).2.1 := by decide +kernel
theorem tyX4_ok : ∀ k, k < 4 → parseFieldDescriptor (TX4 k).2.2.1 = some (tyX4 k) := by decide +kernel
abbrev cX4_init : ByteArray := prog_6_method_1_code
def yX4_init : MethodName := ⟨RX4, "<init>", "()V"⟩
abbrev cX4_begin : ByteArray := prog_6_method_2_code
def yX4_begin : MethodName := ⟨RX4, "begin", "(LCaveParty$Ground;)V"⟩
abbrev cX4_follow : ByteArray := prog_6_method_3_code
def yX4_follow : MethodName := ⟨RX4, "follow", "(LCaveParty$Ground;III)V"⟩
abbrev cX4_goBack : ByteArray := prog_6_method_4_code
def yX4_goBack : MethodName := ⟨RX4, "goBack", "(LCaveParty$Ground;IIII)V"⟩
abbrev cX4_come : ByteArray := prog_6_method_5_code
def yX4_come : MethodName := ⟨RX4, "come", "(I)V"⟩
abbrev cX4_leave : ByteArray := prog_6_method_6_code
def yX4_leave : MethodName := ⟨RX4, "leave", "(I)V"⟩
def RX5 : String := "CaveParty$Way"
def TX5 : u_T := fun k => match k with
  | _ => ("CaveParty$Way", "orders", "[I", true)
def tyX5 : Nat → FieldType := fun k => match k with
  | _ => .array .int
abbrev wsX50 : List Cond := u_ws RX5 TX5 1
theorem nmX5 : ∀ a, a < 1 → ∀ b, b < 1 → a ≠ b → (TX5 a).2.1 ≠ (TX5 b).2.1 := by decide +kernel
theorem tyX5_ok : ∀ k, k < 1 → parseFieldDescriptor (TX5 k).2.2.1 = some (tyX5 k) := by decide +kernel
abbrev cX5_init : ByteArray := prog_7_method_1_code
def yX5_init : MethodName := ⟨RX5, "<init>", "(I)V"⟩
abbrev cX5_packed : ByteArray := prog_7_method_2_code
def yX5_packed : MethodName := ⟨RX5, "packed", "(III)I"⟩
abbrev cX5_length : ByteArray := prog_7_method_3_code
def yX5_length : MethodName := ⟨RX5, "length", "()I"⟩
abbrev cX5_put : ByteArray := prog_7_method_4_code
def yX5_put : MethodName := ⟨RX5, "put", "(II)V"⟩
abbrev cX5_tell : ByteArray := prog_7_method_5_code
def yX5_tell : MethodName := ⟨RX5, "tell", "(II)I"⟩
def RX6 : String := "CaveParty"
def TX6 : u_T := fun k => match k with
  | 0 => ("CaveParty", "ground", "LCaveParty$Ground;", true)
  | 1 => ("CaveParty", "search", "LCaveParty$Search;", true)
  | 2 => ("CaveParty", "layout", "LCaveParty$Layout;", true)
  | 3 => ("CaveParty", "finder", "LCaveParty$Finder;", true)
  | 4 => ("CaveParty", "replay", "LCaveParty$Stand;", true)
  | _ => ("CaveParty", "way", "LCaveParty$Way;", false)
def tyX6 : Nat → FieldType := fun k => match k with
  | 0 => .object "CaveParty$Ground"
  | 1 => .object "CaveParty$Search"
  | 2 => .object "CaveParty$Layout"
  | 3 => .object "CaveParty$Finder"
  | 4 => .object "CaveParty$Stand"
  | _ => .object "CaveParty$Way"
abbrev wsX60 : List Cond := u_ws RX6 TX6 6
theorem nmX6 : ∀ a, a < 6 → ∀ b, b < 6 → a ≠ b → (TX6 a).2.1 ≠ (TX6 b).2.1 := by decide +kernel
theorem tyX6_ok : ∀ k, k < 6 → parseFieldDescriptor (TX6 k).2.2.1 = some (tyX6 k) := by decide +kernel
abbrev cX6_init : ByteArray := prog_1_method_1_code
def yX6_init : MethodName := ⟨RX6, "<init>", "()V"⟩
abbrev cX6_caves : ByteArray := prog_1_method_2_code
def yX6_caves : MethodName := ⟨RX6, "caves", "(I)Z"⟩
abbrev cX6_passage : ByteArray := prog_1_method_3_code
def yX6_passage : MethodName := ⟨RX6, "passage", "(II)I"⟩
abbrev cX6_drop : ByteArray := prog_1_method_4_code
def yX6_drop : MethodName := ⟨RX6, "drop", "(I)Z"⟩
abbrev cX6_mouth : ByteArray := prog_1_method_5_code
def yX6_mouth : MethodName := ⟨RX6, "mouth", "(I)Z"⟩
abbrev cX6_order : ByteArray := prog_1_method_6_code
def yX6_order : MethodName := ⟨RX6, "order", "(III)I"⟩
abbrev cX6_undo : ByteArray := prog_1_method_7_code
def yX6_undo : MethodName := ⟨RX6, "undo", "()Z"⟩
abbrev cX6_anew : ByteArray := prog_1_method_8_code
def yX6_anew : MethodName := ⟨RX6, "anew", "()V"⟩
abbrev cX6_count : ByteArray := prog_1_method_9_code
def yX6_count : MethodName := ⟨RX6, "count", "(I)I"⟩
abbrev cX6_look : ByteArray := prog_1_method_10_code
def yX6_look : MethodName := ⟨RX6, "look", "(II)I"⟩
abbrev cX6_fewest : ByteArray := prog_1_method_11_code
def yX6_fewest : MethodName := ⟨RX6, "fewest", "(I)I"⟩
abbrev cX6_plan : ByteArray := prog_1_method_12_code
def yX6_plan : MethodName := ⟨RX6, "plan", "(II)I"⟩
abbrev cX6_witness : ByteArray := prog_1_method_13_code
def yX6_witness : MethodName := ⟨RX6, "witness", "(II)I"⟩
abbrev cX6_judge : ByteArray := prog_1_method_14_code
def yX6_judge : MethodName := ⟨RX6, "judge", "(I)I"⟩
abbrev cX6_place : ByteArray := prog_1_method_15_code
def yX6_place : MethodName := ⟨RX6, "place", "(II)Z"⟩
abbrev cX6_cut : ByteArray := prog_1_method_16_code
def yX6_cut : MethodName := ⟨RX6, "cut", "(I)I"⟩
abbrev cX6_width : ByteArray := prog_1_method_17_code
def yX6_width : MethodName := ⟨RX6, "width", "()I"⟩
abbrev cX6_forgetSearchAndPlan : ByteArray := prog_1_method_18_code
def yX6_forgetSearchAndPlan : MethodName := ⟨RX6, "forgetSearchAndPlan", "()V"⟩
abbrev cX6_lookAtCave : ByteArray := prog_1_method_19_code
def yX6_lookAtCave : MethodName := ⟨RX6, "lookAtCave", "(II)I"⟩
abbrev cX6_lookAtPassage : ByteArray := prog_1_method_20_code
def yX6_lookAtPassage : MethodName := ⟨RX6, "lookAtPassage", "(II)I"⟩
abbrev cX6_canBeSolved : ByteArray := prog_1_method_21_code
def yX6_canBeSolved : MethodName := ⟨RX6, "canBeSolved", "(I)Z"⟩
abbrev cX6_isPlanBy : ByteArray := prog_1_method_22_code
def yX6_isPlanBy : MethodName := ⟨RX6, "isPlanBy", "(I)Z"⟩
abbrev cX6_isLaw : ByteArray := prog_1_method_23_code
def yX6_isLaw : MethodName := ⟨RX6, "isLaw", "(I)Z"⟩
def RX7 : String := "CavePartyModel"
def TX7 : u_T := fun k => match k with
  | 0 => ("CavePartyModel", "caves", "I", false)
  | 1 => ("CavePartyModel", "mouth", "I", false)
  | 2 => ("CavePartyModel", "one", "[I", true)
  | 3 => ("CavePartyModel", "two", "[I", true)
  | 4 => ("CavePartyModel", "isThere", "[Z", true)
  | 5 => ("CavePartyModel", "layout", "[I", true)
  | 6 => ("CavePartyModel", "men", "[I", true)
  | 7 => ("CavePartyModel", "lostCaves", "I", false)
  | 8 => ("CavePartyModel", "lostPassages", "I", false)
  | 9 => ("CavePartyModel", "done", "I", false)
  | 10 => ("CavePartyModel", "what", "[I", true)
  | 11 => ("CavePartyModel", "where", "[I", true)
  | 12 => ("CavePartyModel", "along", "[I", true)
  | 13 => ("CavePartyModel", "stood", "[I", true)
  | 14 => ("CavePartyModel", "caveBits", "[I", true)
  | 15 => ("CavePartyModel", "passageBits", "[I", true)
  | 16 => ("CavePartyModel", "table", "[I", true)
  | 17 => ("CavePartyModel", "met", "[I", true)
  | 18 => ("CavePartyModel", "cameFrom", "[I", true)
  | 19 => ("CavePartyModel", "cameBy", "[I", true)
  | 20 => ("CavePartyModel", "metMany", "I", false)
  | 21 => ("CavePartyModel", "hasSlid", "Z", false)
  | 22 => ("CavePartyModel", "planMany", "I", false)
  | 23 => ("CavePartyModel", "plan", "[I", true)
  | _ => ("CavePartyModel", "ahead", "[I", true)
def tyX7 : Nat → FieldType := fun k => match k with
  | 0 => .int
  | 1 => .int
  | 2 => .array .int
  | 3 => .array .int
  | 4 => .array .boolean
  | 5 => .array .int
  | 6 => .array .int
  | 7 => .int
  | 8 => .int
  | 9 => .int
  | 10 => .array .int
  | 11 => .array .int
  | 12 => .array .int
  | 13 => .array .int
  | 14 => .array .int
  | 15 => .array .int
  | 16 => .array .int
  | 17 => .array .int
  | 18 => .array .int
  | 19 => .array .int
  | 20 => .int
  | 21 => .boolean
  | 22 => .int
  | 23 => .array .int
  | _ => .array .int
abbrev wsX70 : List Cond := u_ws RX7 TX7 25
theorem nmX7 : ∀ a, a < 25 → ∀ b, b < 25 → a ≠ b → (TX7 a).2.1 ≠ (TX7 b).2.1 := by decide +kernel
theorem tyX7_ok : ∀ k, k < 25 → parseFieldDescriptor (TX7 k).2.2.1 = some (tyX7 k) := by decide +kernel
abbrev cX7_init : ByteArray := prog_9_method_1_code
def yX7_init : MethodName := ⟨RX7, "<init>", "()V"⟩
abbrev cX7_isCave : ByteArray := prog_9_method_2_code
def yX7_isCave : MethodName := ⟨RX7, "isCave", "(I)Z"⟩
abbrev cX7_isPassage : ByteArray := prog_9_method_3_code
def yX7_isPassage : MethodName := ⟨RX7, "isPassage", "(I)Z"⟩
abbrev cX7_isAt : ByteArray := prog_9_method_4_code
def yX7_isAt : MethodName := ⟨RX7, "isAt", "(II)Z"⟩
abbrev cX7_other : ByteArray := prog_9_method_5_code
def yX7_other : MethodName := ⟨RX7, "other", "(II)I"⟩
abbrev cX7_passages : ByteArray := prog_9_method_6_code
def yX7_passages : MethodName := ⟨RX7, "passages", "()I"⟩
abbrev cX7_changes : ByteArray := prog_9_method_7_code
def yX7_changes : MethodName := ⟨RX7, "changes", "()V"⟩
abbrev cX7_caves : ByteArray := prog_9_method_8_code
def yX7_caves : MethodName := ⟨RX7, "caves", "(I)Z"⟩
abbrev cX7_passage : ByteArray := prog_9_method_9_code
def yX7_passage : MethodName := ⟨RX7, "passage", "(II)I"⟩
abbrev cX7_drop : ByteArray := prog_9_method_10_code
def yX7_drop : MethodName := ⟨RX7, "drop", "(I)Z"⟩
abbrev cX7_mouth : ByteArray := prog_9_method_11_code
def yX7_mouth : MethodName := ⟨RX7, "mouth", "(I)Z"⟩
abbrev cX7_pieces : ByteArray := prog_9_method_12_code
def yX7_pieces : MethodName := ⟨RX7, "pieces", "()I"⟩
abbrev cX7_reached : ByteArray := prog_9_method_13_code
def yX7_reached : MethodName := ⟨RX7, "reached", "(II)I"⟩
abbrev cX7_begins : ByteArray := prog_9_method_14_code
def yX7_begins : MethodName := ⟨RX7, "begins", "()V"⟩
abbrev cX7_below : ByteArray := prog_9_method_15_code
def yX7_below : MethodName := ⟨RX7, "below", "()I"⟩
abbrev cX7_spreads : ByteArray := prog_9_method_16_code
def yX7_spreads : MethodName := ⟨RX7, "spreads", "()V"⟩
abbrev cX7_settles : ByteArray := prog_9_method_17_code
def yX7_settles : MethodName := ⟨RX7, "settles", "(I)V"⟩
abbrev cX7_does : ByteArray := prog_9_method_18_code
def yX7_does : MethodName := ⟨RX7, "does", "(III)V"⟩
abbrev cX7_isSearched : ByteArray := prog_9_method_19_code
def yX7_isSearched : MethodName := ⟨RX7, "isSearched", "()Z"⟩
abbrev cX7_hangs : ByteArray := prog_9_method_20_code
def yX7_hangs : MethodName := ⟨RX7, "hangs", "(I)Z"⟩
abbrev cX7_keeps : ByteArray := prog_9_method_21_code
def yX7_keeps : MethodName := ⟨RX7, "keeps", "()V"⟩
abbrev cX7_comes : ByteArray := prog_9_method_22_code
def yX7_comes : MethodName := ⟨RX7, "comes", "(I)V"⟩
abbrev cX7_anew : ByteArray := prog_9_method_23_code
def yX7_anew : MethodName := ⟨RX7, "anew", "()V"⟩
abbrev cX7_order : ByteArray := prog_9_method_24_code
def yX7_order : MethodName := ⟨RX7, "order", "(III)I"⟩
abbrev cX7_undo : ByteArray := prog_9_method_25_code
def yX7_undo : MethodName := ⟨RX7, "undo", "()Z"⟩
abbrev cX7_bits : ByteArray := prog_9_method_26_code
def yX7_bits : MethodName := ⟨RX7, "bits", "(I)I"⟩
abbrev cX7_party : ByteArray := prog_9_method_27_code
def yX7_party : MethodName := ⟨RX7, "party", "()I"⟩
abbrev cX7_count : ByteArray := prog_9_method_28_code
def yX7_count : MethodName := ⟨RX7, "count", "(I)I"⟩
abbrev cX7_placeOf : ByteArray := prog_9_method_29_code
def yX7_placeOf : MethodName := ⟨RX7, "placeOf", "(I)I"⟩
abbrev cX7_degree : ByteArray := prog_9_method_30_code
def yX7_degree : MethodName := ⟨RX7, "degree", "(I)I"⟩
abbrev cX7_look : ByteArray := prog_9_method_31_code
def yX7_look : MethodName := ⟨RX7, "look", "(II)I"⟩
abbrev cX7_number : ByteArray := prog_9_method_32_code
def yX7_number : MethodName := ⟨RX7, "number", "(I)I"⟩
abbrev cX7_shows : ByteArray := prog_9_method_33_code
def yX7_shows : MethodName := ⟨RX7, "shows", "(II)V"⟩
abbrev cX7_meets : ByteArray := prog_9_method_34_code
def yX7_meets : MethodName := ⟨RX7, "meets", "(III)Z"⟩
abbrev cX7_may : ByteArray := prog_9_method_35_code
def yX7_may : MethodName := ⟨RX7, "may", "(IIII)Z"⟩
abbrev cX7_finds : ByteArray := prog_9_method_36_code
def yX7_finds : MethodName := ⟨RX7, "finds", "(II)I"⟩
abbrev cX7_isSmall : ByteArray := prog_9_method_37_code
def yX7_isSmall : MethodName := ⟨RX7, "isSmall", "(I)Z"⟩
abbrev cX7_fewest : ByteArray := prog_9_method_38_code
def yX7_fewest : MethodName := ⟨RX7, "fewest", "(I)I"⟩
abbrev cX7_plan : ByteArray := prog_9_method_39_code
def yX7_plan : MethodName := ⟨RX7, "plan", "(II)I"⟩
abbrev cX7_witness : ByteArray := prog_9_method_40_code
def yX7_witness : MethodName := ⟨RX7, "witness", "(II)I"⟩
abbrev cX7_judge : ByteArray := prog_9_method_41_code
def yX7_judge : MethodName := ⟨RX7, "judge", "(I)I"⟩
abbrev cX7_cutOf : ByteArray := prog_9_method_42_code
def yX7_cutOf : MethodName := ⟨RX7, "cutOf", "(I)I"⟩
abbrev cX7_place : ByteArray := prog_9_method_43_code
def yX7_place : MethodName := ⟨RX7, "place", "(II)Z"⟩
abbrev cX7_cutBehind : ByteArray := prog_9_method_44_code
def yX7_cutBehind : MethodName := ⟨RX7, "cutBehind", "(I)I"⟩
abbrev cX7_cut : ByteArray := prog_9_method_45_code
def yX7_cut : MethodName := ⟨RX7, "cut", "(I)I"⟩
abbrev cX7_width : ByteArray := prog_9_method_46_code
def yX7_width : MethodName := ⟨RX7, "width", "()I"⟩
abbrev cX7_worst : ByteArray := prog_9_method_47_code
def yX7_worst : MethodName := ⟨RX7, "worst", "(I)I"⟩
def RJ6 : String := "java/lang/Integer"
abbrev cJ6_bitCount_0f7a4 : ByteArray := prog_10_method_49_code
def yJ6_bitCount_0f7a4 : MethodName := ⟨RJ6, "bitCount", "(I)I"⟩
def RJ9 : String := "java/lang/Math"
abbrev cJ9_max_7cf53 : ByteArray := prog_11_method_65_code
def yJ9_max_7cf53 : MethodName := ⟨RJ9, "max", "(II)I"⟩
abbrev cJ9_min_7cf53 : ByteArray := prog_11_method_69_code
def yJ9_min_7cf53 : MethodName := ⟨RJ9, "min", "(II)I"⟩
def RJ7 : String := "java/util/Arrays"
abbrev cJ7_fill_53178 : ByteArray := prog_12_method_103_code
def yJ7_fill_53178 : MethodName := ⟨RJ7, "fill", "([II)V"⟩
def RL : String := "CavePartyLaw"
abbrev cL_law : ByteArray := code
def yL_law : MethodName := ⟨RL, "law", "([I)Z"⟩
abbrev vwCl : List vw_C := [(RX0, TX0, 15), (RX1, TX1, 7), (RX2, TX2, 3), (RX3, TX3, 9), (RX4, TX4, 4), (RX5, TX5, 1), (RX6, TX6, 6), (RX7, TX7, 25)]
end
section
def nestW : Jvm.Cond → Bool
  | .fieldLinkNest .. => true
  | .methodLinkNest .. => true
  | _ => false
/-- the tables' words that a call hands on -/
def tb_ : List Jvm.Cond := lw_tbl.filter (fun w => goodWord w || nestW w)
abbrev GX : Type := va_G × ClassId × ClassId
abbrev gt_ (g : GX) : List (ClassId × FieldType) := [(g.2.1, .int), (g.2.2, .boolean)]
/-- an unset local -/
abbrev un_ : Value := .float 0
/-- what is known of the locals -/
def LH (nL : Nat) (L : List Value) (ls : Array Slot) : Prop := lv_has ls nL [] ∧ ∀ (i : Nat) (v : Value), L[i]? = some v → v ≠ un_ → v.category = 1 ∧ ls[i]? = some (.val v)
abbrev FX : Type := Program × Launch × Env × State × MethodId × Array Value × List Frame × Method × Code × (Nat → Prop) × (State → Prop)
/-- a method: code, locals, class, answer, name -/
abbrev MT : Type := ByteArray × Nat × String × Option FieldType × String
def Fix (x : FX) (t : MT) (g : GX) : Prop := match x with
  | (p, _, _, s, m, args, _, meth, c, A, _) => p.tables.exec = Jvm.exec ∧ c.code = t.1 ∧ c.maxLocals = t.2.1 ∧ s.vm.findClass t.2.2.1 = some m.cls ∧ (∀ w ∈ tb_, w.before args s = true) ∧ va_K g.1 vwCl (gt_ g) s ∧ (∀ q, s.heap.size ≤ q → A q) ∧ meth.locks = false ∧ meth.sig.returnType = t.2.2.2.1 ∧ meth.name = t.2.2.2.2
/-- from pc, with these locals, this stack, these cells, the frame comes to its end -/
def Go (x : FX) (R : Room) (t : MT) (g : GX) (pc : Nat) (L st : List Value) (M : va_W) (ce sl : Nat) : Prop := match x with
  | (p, l, e, s, m, args, below, meth, c, A, Q) => ∀ (H : Heap) (locs : List Loc) (ls : Array Slot), Fix (p, l, e, s, m, args, below, meth, c, A, Q) t g → LH t.2.1 L ls → va_P g.1 vwCl M H → va_D A M → va_S A s.heap H locs → W p l e R s m args below meth c H locs ce sl Q (F0 m pc ls st)
/-- the locals as the kit's list -/
def prL (L : List Value) : List (Nat × Value) := (List.range L.length).filterMap fun i => match L[i]? with
  | some v => if v = un_ then none else some (i, v)
  | none => none
theorem prL_mem {L : List Value} {q : Nat × Value} : q ∈ prL L ↔ L[q.1]? = some q.2 ∧ q.2 ≠ un_ := by
  obtain ⟨i, v⟩ := q
  unfold prL
  rw [List.mem_filterMap]
  constructor
  · rintro ⟨j, hj, h⟩
    cases hL : L[j]? with
    | none => rw [hL] at h; cases h
    | some w =>
      rw [hL] at h
      dsimp only at h
      by_cases hw : w = un_
      · rw [if_pos hw] at h; cases h
      · rw [if_neg hw] at h
        cases h
        exact ⟨hL, hw⟩
  · rintro ⟨h1, h2⟩
    refine ⟨i, List.mem_range.mpr (List.getElem?_eq_some_iff.mp h1).1, ?_⟩
    dsimp only at h1 h2
    rw [h1]
    dsimp only
    rw [if_neg h2]
theorem LH.has {nL : Nat} {L : List Value} {ls : Array Slot} (h : LH nL L ls) : lv_has ls nL (prL L) := by
  obtain ⟨⟨h1, h2, -⟩, h3⟩ := h
  refine ⟨h1, h2, fun q hq => ?_⟩
  obtain ⟨a, b⟩ := prL_mem.mp hq
  exact (h3 q.1 q.2 a b).2
theorem LH.put {nL : Nat} {L : List Value} {ls ls' : Array Slot} {i : Nat} {v : Value} (h : LH nL L ls) (hc : v.category = 1) (h' : lv_has ls' nL ((i, v) :: (prL L).filter (fun q => !(q.1 == i) && !(q.1 + 1 == i && q.2.category == 2)))) : LH nL (L.set i v) ls' := by
  obtain ⟨g1, g2, g3⟩ := h'
  refine ⟨⟨g1, g2, fun q hq => by cases hq⟩, fun j w hj hw => ?_⟩
  by_cases hji : j = i
  · subst hji
    have hlt : j < L.length := by
      have := (List.getElem?_eq_some_iff.mp hj).1
      rwa [List.length_set] at this
    rw [List.getElem?_set_self hlt] at hj
    cases hj
    exact ⟨hc, g3 (j, v) List.mem_cons_self⟩
  · rw [List.getElem?_set_ne (Ne.symm hji)] at hj
    have hcw := (h.2 j w hj hw).1
    refine ⟨hcw, g3 (j, w) (List.mem_cons_of_mem _ (List.mem_filter.mpr ⟨prL_mem.mpr ⟨hj, hw⟩, ?_⟩))⟩
    simp [hji, hcw]
/-- fewer locals known -/
def LSb : List Value → List Value → Prop
  | [], _ => True
  | a :: l, b :: m => (a = un_ ∨ a = b) ∧ LSb l m
  | a :: l, [] => a = un_ ∧ LSb l []
theorem LSb.at : ∀ {L' L : List Value}, LSb L' L → ∀ (i : Nat) (v : Value), L'[i]? = some v → v ≠ un_ → L[i]? = some v
  | [], _, _, i, v, h, _ => by simp at h
  | a :: l, b :: m, h, 0, v, hv, hne => by
    rw [List.getElem?_cons_zero] at hv ⊢
    cases hv
    rcases h.1 with z | z
    · exact absurd z hne
    · rw [z]
  | a :: l, b :: m, h, i + 1, v, hv, hne => by
    rw [List.getElem?_cons_succ] at hv ⊢
    exact LSb.at h.2 i v hv hne
  | a :: l, [], h, 0, v, hv, hne => by
    rw [List.getElem?_cons_zero] at hv
    cases hv
    exact absurd h.1 hne
  | a :: l, [], h, i + 1, v, hv, hne => by
    rw [List.getElem?_cons_succ] at hv
    exact absurd (LSb.at h.2 i v hv hne) (by rw [List.getElem?_nil]; exact fun z => by cases z)
section G1
variable {x : FX} {R : Room} {t : MT} {g : GX} {pc q : Nat} {L st : List Value} {M : va_W} {ce sl : Nat}
theorem g_weak {L' : List Value} (h : LSb L' L) (k : Go x R t g pc L' st M ce sl) : Go x R t g pc L st M ce sl := by
  obtain ⟨p, l, e, s, m, args, below, meth, c, A, Q⟩ := x
  intro H locs ls F hl hP hD hS
  exact k H locs ls F ⟨hl.1, fun i v hv hne => hl.2 i v (h.at i v hv hne) hne⟩ hP hD hS
theorem g_widen {ce' sl' : Nat} (h1 : ce ≤ ce') (h2 : sl ≤ sl') (k : Go x R t g pc L st M ce' sl') : Go x R t g pc L st M ce sl := by
  obtain ⟨p, l, e, s, m, args, below, meth, c, A, Q⟩ := x
  intro H locs ls F hl hP hD hS
  exact W.widen h1 h2 (k H locs ls F hl hP hD hS)
/-- fewer cells known -/
theorem g_sub {M' : va_W} (is : List Nat) (hn : va_nd is = true) (hs : is.map (fun i => M[i]?) = M'.map some) (k : Go x R t g pc L st M' ce sl) : Go x R t g pc L st M ce sl := by
  obtain ⟨p, l, e, s, m, args, below, meth, c, A, Q⟩ := x
  intro H locs ls F hl hP hD hS
  refine k H locs ls F hl (fun k0 q0 hk => ?_) (hD.sub is hn hs) hS
  have h1 : (is.map (fun i => M[i]?))[k0]? = some (some q0) := by rw [hs, List.getElem?_map, hk]; rfl
  rw [List.getElem?_map] at h1
  cases hi : is[k0]? with
  | none => rw [hi] at h1; cases h1
  | some i => rw [hi] at h1; exact hP i q0 (Option.some.inj h1)
theorem g_iadd {a b : Int32} (hd : decode t.1 pc = .ok (.iadd, 1)) (hq : pc + 1 = q) (k : Go x R t g q L (.int (a + b) :: st) M ce sl) : Go x R t g pc L (.int b :: .int a :: st) M ce sl := by
  subst hq
  obtain ⟨p, l, e, s, m, args, below, meth, c, A, Q⟩ := x
  intro H locs ls F hl hP hD hS
  exact lv_iadd F.1 F.2.1 hd (k H locs ls F hl hP hD hS)
theorem g_isub {a b : Int32} (hd : decode t.1 pc = .ok (.isub, 1)) (hq : pc + 1 = q) (k : Go x R t g q L (.int (a - b) :: st) M ce sl) : Go x R t g pc L (.int b :: .int a :: st) M ce sl := by
  subst hq
  obtain ⟨p, l, e, s, m, args, below, meth, c, A, Q⟩ := x
  intro H locs ls F hl hP hD hS
  exact lv_isub F.1 F.2.1 hd (k H locs ls F hl hP hD hS)
theorem g_imul {a b : Int32} (hd : decode t.1 pc = .ok (.imul, 1)) (hq : pc + 1 = q) (k : Go x R t g q L (.int (a * b) :: st) M ce sl) : Go x R t g pc L (.int b :: .int a :: st) M ce sl := by
  subst hq
  obtain ⟨p, l, e, s, m, args, below, meth, c, A, Q⟩ := x
  intro H locs ls F hl hP hD hS
  exact lv_imul F.1 F.2.1 hd (k H locs ls F hl hP hD hS)
theorem g_iand {a b : Int32} (hd : decode t.1 pc = .ok (.iand, 1)) (hq : pc + 1 = q) (k : Go x R t g q L (.int (a &&& b) :: st) M ce sl) : Go x R t g pc L (.int b :: .int a :: st) M ce sl := by
  subst hq
  obtain ⟨p, l, e, s, m, args, below, meth, c, A, Q⟩ := x
  intro H locs ls F hl hP hD hS
  exact lv_iand F.1 F.2.1 hd (k H locs ls F hl hP hD hS)
theorem g_ior {a b : Int32} (hd : decode t.1 pc = .ok (.ior, 1)) (hq : pc + 1 = q) (k : Go x R t g q L (.int (a ||| b) :: st) M ce sl) : Go x R t g pc L (.int b :: .int a :: st) M ce sl := by
  subst hq
  obtain ⟨p, l, e, s, m, args, below, meth, c, A, Q⟩ := x
  intro H locs ls F hl hP hD hS
  exact lv_ior F.1 F.2.1 hd (k H locs ls F hl hP hD hS)
theorem g_ixor {a b : Int32} (hd : decode t.1 pc = .ok (.ixor, 1)) (hq : pc + 1 = q) (k : Go x R t g q L (.int (a ^^^ b) :: st) M ce sl) : Go x R t g pc L (.int b :: .int a :: st) M ce sl := by
  subst hq
  obtain ⟨p, l, e, s, m, args, below, meth, c, A, Q⟩ := x
  intro H locs ls F hl hP hD hS
  exact lv_ixor F.1 F.2.1 hd (k H locs ls F hl hP hD hS)
theorem g_ishl {a b : Int32} (hd : decode t.1 pc = .ok (.ishl, 1)) (hq : pc + 1 = q) (k : Go x R t g q L (.int (a <<< (b &&& 31)) :: st) M ce sl) : Go x R t g pc L (.int b :: .int a :: st) M ce sl := by
  subst hq
  obtain ⟨p, l, e, s, m, args, below, meth, c, A, Q⟩ := x
  intro H locs ls F hl hP hD hS
  exact lv_ishl F.1 F.2.1 hd (k H locs ls F hl hP hD hS)
theorem g_ishr {a b : Int32} (hd : decode t.1 pc = .ok (.ishr, 1)) (hq : pc + 1 = q) (k : Go x R t g q L (.int (a >>> (b &&& 31)) :: st) M ce sl) : Go x R t g pc L (.int b :: .int a :: st) M ce sl := by
  subst hq
  obtain ⟨p, l, e, s, m, args, below, meth, c, A, Q⟩ := x
  intro H locs ls F hl hP hD hS
  exact lv_ishr F.1 F.2.1 hd (k H locs ls F hl hP hD hS)
theorem g_iushr {a b : Int32} (hd : decode t.1 pc = .ok (.iushr, 1)) (hq : pc + 1 = q) (k : Go x R t g q L (.int (a.toUInt32 >>> (b.toUInt32 &&& Int32.toUInt32 31)).toInt32 :: st) M ce sl) : Go x R t g pc L (.int b :: .int a :: st) M ce sl := by
  subst hq
  obtain ⟨p, l, e, s, m, args, below, meth, c, A, Q⟩ := x
  intro H locs ls F hl hP hD hS
  exact lv_iushr F.1 F.2.1 hd rfl (k H locs ls F hl hP hD hS)
theorem g_idiv {a b : Int32} (hd : decode t.1 pc = .ok (.idiv, 1)) (hq : pc + 1 = q) (hne : ¬ b = 0) (k : Go x R t g q L (.int (a / b) :: st) M ce sl) : Go x R t g pc L (.int b :: .int a :: st) M ce sl := by
  subst hq
  obtain ⟨p, l, e, s, m, args, below, meth, c, A, Q⟩ := x
  intro H locs ls F hl hP hD hS
  exact lv_idiv F.1 F.2.1 hd hne (k H locs ls F hl hP hD hS)
theorem g_irem {a b : Int32} (hd : decode t.1 pc = .ok (.irem, 1)) (hq : pc + 1 = q) (hne : ¬ b = 0) (k : Go x R t g q L (.int (a - a / b * b) :: st) M ce sl) : Go x R t g pc L (.int b :: .int a :: st) M ce sl := by
  subst hq
  obtain ⟨p, l, e, s, m, args, below, meth, c, A, Q⟩ := x
  intro H locs ls F hl hP hD hS
  exact lv_irem F.1 F.2.1 hd hne (k H locs ls F hl hP hD hS)
theorem g_iconst {n : Int} {v : Int32} (hd : decode t.1 pc = .ok (.iconst n, 1)) (hq : pc + 1 = q) (hv : Int32.ofInt n = v) (k : Go x R t g q L (.int v :: st) M ce sl) : Go x R t g pc L (st) M ce sl := by
  subst hq
  obtain ⟨p, l, e, s, m, args, below, meth, c, A, Q⟩ := x
  intro H locs ls F hl hP hD hS
  exact lv_iconst F.1 F.2.1 hd hv (k H locs ls F hl hP hD hS)
theorem g_bipush {n : Int} {v : Int32} (hd : decode t.1 pc = .ok (.bipush n, 2)) (hq : pc + 2 = q) (hv : (Int8.ofInt n).toInt32 = v) (k : Go x R t g q L (.int v :: st) M ce sl) : Go x R t g pc L (st) M ce sl := by
  subst hq
  obtain ⟨p, l, e, s, m, args, below, meth, c, A, Q⟩ := x
  intro H locs ls F hl hP hD hS
  exact lv_bipush F.1 F.2.1 hd hv (k H locs ls F hl hP hD hS)
theorem g_sipush {n : Int} {v : Int32} (hd : decode t.1 pc = .ok (.sipush n, 3)) (hq : pc + 3 = q) (hv : (Int16.ofInt n).toInt32 = v) (k : Go x R t g q L (.int v :: st) M ce sl) : Go x R t g pc L (st) M ce sl := by
  subst hq
  obtain ⟨p, l, e, s, m, args, below, meth, c, A, Q⟩ := x
  intro H locs ls F hl hP hD hS
  exact lv_sipush F.1 F.2.1 hd hv (k H locs ls F hl hP hD hS)
theorem g_ldc {i : Nat} {v : Int32} (hd : decode t.1 pc = .ok (.ldc i, 2)) (hq : pc + 2 = q) (hw : Jvm.Cond.constant t.2.2.1 i v ∈ tb_) (k : Go x R t g q L (.int v :: st) M ce sl) : Go x R t g pc L (st) M ce sl := by
  subst hq
  obtain ⟨p, l, e, s, m, args, below, meth, c, A, Q⟩ := x
  intro H locs ls F hl hP hD hS
  exact lv_ldc F.1 F.2.1 F.2.2.2.1 (F.2.2.2.2.1 _ hw) hd (k H locs ls F hl hP hD hS)
theorem g_ldcw {i : Nat} {v : Int32} (hd : decode t.1 pc = .ok (.ldc_w i, 3)) (hq : pc + 3 = q) (hw : Jvm.Cond.constant t.2.2.1 i v ∈ tb_) (k : Go x R t g q L (.int v :: st) M ce sl) : Go x R t g pc L (st) M ce sl := by
  subst hq
  obtain ⟨p, l, e, s, m, args, below, meth, c, A, Q⟩ := x
  intro H locs ls F hl hP hD hS
  exact lv_ldcw F.1 F.2.1 F.2.2.2.1 (F.2.2.2.2.1 _ hw) hd (k H locs ls F hl hP hD hS)
theorem g_iload_n {n : Fin 4} {i : Nat} {a : Int32} (hd : decode t.1 pc = .ok (.iload_n n, 1)) (hq : pc + 1 = q) (hi : (n : Nat) = i) (hv : L[i]? = some (.int a)) (k : Go x R t g q L (.int a :: st) M ce sl) : Go x R t g pc L (st) M ce sl := by
  subst hq
  obtain ⟨p, l, e, s, m, args, below, meth, c, A, Q⟩ := x
  intro H locs ls F hl hP hD hS
  exact lv_iload_n F.1 F.2.1 hd hi (hl.2 _ _ hv (fun z => by cases z)).2 (k H locs ls F hl hP hD hS)
theorem g_iload {i : Nat} {a : Int32} (hd : decode t.1 pc = .ok (.iload i, 2)) (hq : pc + 2 = q) (hv : L[i]? = some (.int a)) (k : Go x R t g q L (.int a :: st) M ce sl) : Go x R t g pc L (st) M ce sl := by
  subst hq
  obtain ⟨p, l, e, s, m, args, below, meth, c, A, Q⟩ := x
  intro H locs ls F hl hP hD hS
  exact lv_iload F.1 F.2.1 hd (hl.2 _ _ hv (fun z => by cases z)).2 (k H locs ls F hl hP hD hS)
theorem g_aload_n {n : Fin 4} {i : Nat} {a : Nat} (hd : decode t.1 pc = .ok (.aload_n n, 1)) (hq : pc + 1 = q) (hi : (n : Nat) = i) (hv : L[i]? = some (.ref a)) (k : Go x R t g q L (.ref a :: st) M ce sl) : Go x R t g pc L (st) M ce sl := by
  subst hq
  obtain ⟨p, l, e, s, m, args, below, meth, c, A, Q⟩ := x
  intro H locs ls F hl hP hD hS
  exact lv_aload_n F.1 F.2.1 hd hi (hl.2 _ _ hv (fun z => by cases z)).2 (k H locs ls F hl hP hD hS)
theorem g_aload {i : Nat} {a : Nat} (hd : decode t.1 pc = .ok (.aload i, 2)) (hq : pc + 2 = q) (hv : L[i]? = some (.ref a)) (k : Go x R t g q L (.ref a :: st) M ce sl) : Go x R t g pc L (st) M ce sl := by
  subst hq
  obtain ⟨p, l, e, s, m, args, below, meth, c, A, Q⟩ := x
  intro H locs ls F hl hP hD hS
  exact lv_aload F.1 F.2.1 hd (hl.2 _ _ hv (fun z => by cases z)).2 (k H locs ls F hl hP hD hS)
theorem g_dup {v : Value} (hd : decode t.1 pc = .ok (.dup, 1)) (hq : pc + 1 = q) (hc : v.category = 1) (k : Go x R t g q L (v :: v :: st) M ce sl) : Go x R t g pc L (v :: st) M ce sl := by
  subst hq
  obtain ⟨p, l, e, s, m, args, below, meth, c, A, Q⟩ := x
  intro H locs ls F hl hP hD hS
  exact lv_dup F.1 F.2.1 hd hc (k H locs ls F hl hP hD hS)
theorem g_dup2 {v w : Value} (hd : decode t.1 pc = .ok (.dup2, 1)) (hq : pc + 1 = q) (hc : v.category = 1) (hc2 : w.category = 1) (k : Go x R t g q L (v :: w :: v :: w :: st) M ce sl) : Go x R t g pc L (v :: w :: st) M ce sl := by
  subst hq
  obtain ⟨p, l, e, s, m, args, below, meth, c, A, Q⟩ := x
  intro H locs ls F hl hP hD hS
  exact lv_dup2_11 F.1 F.2.1 hd hc hc2 (k H locs ls F hl hP hD hS)
theorem g_pop {v : Value} (hd : decode t.1 pc = .ok (.pop, 1)) (hq : pc + 1 = q) (hc : v.category = 1) (k : Go x R t g q L (st) M ce sl) : Go x R t g pc L (v :: st) M ce sl := by
  subst hq
  obtain ⟨p, l, e, s, m, args, below, meth, c, A, Q⟩ := x
  intro H locs ls F hl hP hD hS
  exact lv_pop F.1 F.2.1 hd hc (k H locs ls F hl hP hD hS)
theorem g_null  (hd : decode t.1 pc = .ok (.aconst_null, 1)) (hq : pc + 1 = q) (k : Go x R t g q L (.null :: st) M ce sl) : Go x R t g pc L (st) M ce sl := by
  subst hq
  obtain ⟨p, l, e, s, m, args, below, meth, c, A, Q⟩ := x
  intro H locs ls F hl hP hD hS
  exact lv_null F.1 F.2.1 hd (k H locs ls F hl hP hD hS)
theorem g_istore_n {n : Fin 4} {i : Nat} {a : Int32} {L' : List Value} (hd : decode t.1 pc = .ok (.istore_n n, 1)) (hq : pc + 1 = q) (hi : (n : Nat) = i) (hn : i < t.2.1) (hL : L.set i (.int a) = L') (k : Go x R t g q L' st M ce sl) : Go x R t g pc L (.int a :: st) M ce sl := by
  subst hq
  subst hL
  obtain ⟨p, l, e, s, m, args, below, meth, c, A, Q⟩ := x
  intro H locs ls F hl hP hD hS
  exact lv_istore_n F.1 F.2.1 hd hi hl.has hn rfl (fun ls2 h2 => k H locs ls2 F (hl.put rfl h2) hP hD hS)
theorem g_istore {i : Nat} {a : Int32} {L' : List Value} (hd : decode t.1 pc = .ok (.istore i, 2)) (hq : pc + 2 = q) (hn : i < t.2.1) (hL : L.set i (.int a) = L') (k : Go x R t g q L' st M ce sl) : Go x R t g pc L (.int a :: st) M ce sl := by
  subst hq
  subst hL
  obtain ⟨p, l, e, s, m, args, below, meth, c, A, Q⟩ := x
  intro H locs ls F hl hP hD hS
  exact lv_istore F.1 F.2.1 hd hl.has hn rfl (fun ls2 h2 => k H locs ls2 F (hl.put rfl h2) hP hD hS)
theorem g_astore_n {n : Fin 4} {i : Nat} {a : Nat} {L' : List Value} (hd : decode t.1 pc = .ok (.astore_n n, 1)) (hq : pc + 1 = q) (hi : (n : Nat) = i) (hn : i < t.2.1) (hL : L.set i (.ref a) = L') (k : Go x R t g q L' st M ce sl) : Go x R t g pc L (.ref a :: st) M ce sl := by
  subst hq
  subst hL
  obtain ⟨p, l, e, s, m, args, below, meth, c, A, Q⟩ := x
  intro H locs ls F hl hP hD hS
  exact lv_astore_n F.1 F.2.1 hd hi hl.has hn rfl (fun ls2 h2 => k H locs ls2 F (hl.put rfl h2) hP hD hS)
theorem g_iinc {i : Nat} {n : Int} {a b : Int32} {L' : List Value} (hd : decode t.1 pc = .ok (.iinc i n, 3)) (hq : pc + 3 = q) (hv : L[i]? = some (.int a)) (hb : a + Int32.ofInt n = b) (hn : i < t.2.1) (hL : L.set i (.int b) = L') (k : Go x R t g q L' st M ce sl) : Go x R t g pc L st M ce sl := by
  subst hq
  subst hL
  obtain ⟨p, l, e, s, m, args, below, meth, c, A, Q⟩ := x
  intro H locs ls F hl hP hD hS
  obtain ⟨k0, hk0⟩ := List.getElem?_of_mem (prL_mem.mpr (⟨hv, fun z => by cases z⟩ : L[((i, Value.int a) : Nat × Value).1]? = some (i, Value.int a).2 ∧ (i, Value.int a).2 ≠ un_))
  exact lv_iinc F.1 F.2.1 hd hl.has hk0 hb hn rfl (fun ls2 h2 => k H locs ls2 F (hl.put rfl h2) hP hD hS)
theorem g_goto {o : Int} (hd : decode t.1 pc = .ok (.goto o, 3)) (hq : (pc : Int) + o = (q : Int)) (k : Go x R t g q L st M ce sl) : Go x R t g pc L st M ce sl := by
  obtain ⟨p, l, e, s, m, args, below, meth, c, A, Q⟩ := x
  intro H locs ls F hl hP hD hS
  exact lv_goto F.1 F.2.1 hd hq (k H locs ls F hl hP hD hS)
theorem g_if_eq {a : Int32} {o : Int} {r : Nat} (hd : decode t.1 pc = .ok (.ifCond .eq o, 3)) (hr : (pc : Int) + o = (r : Int)) (hq : pc + 3 = q) (kt : a = 0 → Go x R t g r L st M ce sl) (kf : ¬ a = 0 → Go x R t g q L st M ce sl) : Go x R t g pc L (.int a :: st) M ce sl := by
  subst hq
  obtain ⟨p, l, e, s, m, args, below, meth, c, A, Q⟩ := x
  intro H locs ls F hl hP hD hS
  exact lv_if_eq F.1 F.2.1 hd hr (fun z => kt z H locs ls F hl hP hD hS) (fun z => kf z H locs ls F hl hP hD hS)
theorem g_icmp_eq {a b : Int32} {o : Int} {r : Nat} (hd : decode t.1 pc = .ok (.if_icmp .eq o, 3)) (hr : (pc : Int) + o = (r : Int)) (hq : pc + 3 = q) (kt : a = b → Go x R t g r L st M ce sl) (kf : ¬ a = b → Go x R t g q L st M ce sl) : Go x R t g pc L (.int b :: .int a :: st) M ce sl := by
  subst hq
  obtain ⟨p, l, e, s, m, args, below, meth, c, A, Q⟩ := x
  intro H locs ls F hl hP hD hS
  exact lv_icmp_eq F.1 F.2.1 hd hr (fun z => kt z H locs ls F hl hP hD hS) (fun z => kf z H locs ls F hl hP hD hS)
theorem g_if_ne {a : Int32} {o : Int} {r : Nat} (hd : decode t.1 pc = .ok (.ifCond .ne o, 3)) (hr : (pc : Int) + o = (r : Int)) (hq : pc + 3 = q) (kt : ¬ a = 0 → Go x R t g r L st M ce sl) (kf : a = 0 → Go x R t g q L st M ce sl) : Go x R t g pc L (.int a :: st) M ce sl := by
  subst hq
  obtain ⟨p, l, e, s, m, args, below, meth, c, A, Q⟩ := x
  intro H locs ls F hl hP hD hS
  exact lv_if_ne F.1 F.2.1 hd hr (fun z => kt z H locs ls F hl hP hD hS) (fun z => kf z H locs ls F hl hP hD hS)
theorem g_icmp_ne {a b : Int32} {o : Int} {r : Nat} (hd : decode t.1 pc = .ok (.if_icmp .ne o, 3)) (hr : (pc : Int) + o = (r : Int)) (hq : pc + 3 = q) (kt : ¬ a = b → Go x R t g r L st M ce sl) (kf : a = b → Go x R t g q L st M ce sl) : Go x R t g pc L (.int b :: .int a :: st) M ce sl := by
  subst hq
  obtain ⟨p, l, e, s, m, args, below, meth, c, A, Q⟩ := x
  intro H locs ls F hl hP hD hS
  exact lv_icmp_ne F.1 F.2.1 hd hr (fun z => kt z H locs ls F hl hP hD hS) (fun z => kf z H locs ls F hl hP hD hS)
theorem g_if_lt {a : Int32} {o : Int} {r : Nat} (hd : decode t.1 pc = .ok (.ifCond .lt o, 3)) (hr : (pc : Int) + o = (r : Int)) (hq : pc + 3 = q) (kt : a < 0 → Go x R t g r L st M ce sl) (kf : ¬ a < 0 → Go x R t g q L st M ce sl) : Go x R t g pc L (.int a :: st) M ce sl := by
  subst hq
  obtain ⟨p, l, e, s, m, args, below, meth, c, A, Q⟩ := x
  intro H locs ls F hl hP hD hS
  exact lv_if_lt F.1 F.2.1 hd hr (fun z => kt z H locs ls F hl hP hD hS) (fun z => kf z H locs ls F hl hP hD hS)
theorem g_icmp_lt {a b : Int32} {o : Int} {r : Nat} (hd : decode t.1 pc = .ok (.if_icmp .lt o, 3)) (hr : (pc : Int) + o = (r : Int)) (hq : pc + 3 = q) (kt : a < b → Go x R t g r L st M ce sl) (kf : ¬ a < b → Go x R t g q L st M ce sl) : Go x R t g pc L (.int b :: .int a :: st) M ce sl := by
  subst hq
  obtain ⟨p, l, e, s, m, args, below, meth, c, A, Q⟩ := x
  intro H locs ls F hl hP hD hS
  exact lv_icmp_lt F.1 F.2.1 hd hr (fun z => kt z H locs ls F hl hP hD hS) (fun z => kf z H locs ls F hl hP hD hS)
theorem g_if_ge {a : Int32} {o : Int} {r : Nat} (hd : decode t.1 pc = .ok (.ifCond .ge o, 3)) (hr : (pc : Int) + o = (r : Int)) (hq : pc + 3 = q) (kt : 0 ≤ a → Go x R t g r L st M ce sl) (kf : ¬ 0 ≤ a → Go x R t g q L st M ce sl) : Go x R t g pc L (.int a :: st) M ce sl := by
  subst hq
  obtain ⟨p, l, e, s, m, args, below, meth, c, A, Q⟩ := x
  intro H locs ls F hl hP hD hS
  exact lv_if_ge F.1 F.2.1 hd hr (fun z => kt z H locs ls F hl hP hD hS) (fun z => kf z H locs ls F hl hP hD hS)
theorem g_icmp_ge {a b : Int32} {o : Int} {r : Nat} (hd : decode t.1 pc = .ok (.if_icmp .ge o, 3)) (hr : (pc : Int) + o = (r : Int)) (hq : pc + 3 = q) (kt : b ≤ a → Go x R t g r L st M ce sl) (kf : ¬ b ≤ a → Go x R t g q L st M ce sl) : Go x R t g pc L (.int b :: .int a :: st) M ce sl := by
  subst hq
  obtain ⟨p, l, e, s, m, args, below, meth, c, A, Q⟩ := x
  intro H locs ls F hl hP hD hS
  exact lv_icmp_ge F.1 F.2.1 hd hr (fun z => kt z H locs ls F hl hP hD hS) (fun z => kf z H locs ls F hl hP hD hS)
theorem g_if_gt {a : Int32} {o : Int} {r : Nat} (hd : decode t.1 pc = .ok (.ifCond .gt o, 3)) (hr : (pc : Int) + o = (r : Int)) (hq : pc + 3 = q) (kt : 0 < a → Go x R t g r L st M ce sl) (kf : ¬ 0 < a → Go x R t g q L st M ce sl) : Go x R t g pc L (.int a :: st) M ce sl := by
  subst hq
  obtain ⟨p, l, e, s, m, args, below, meth, c, A, Q⟩ := x
  intro H locs ls F hl hP hD hS
  exact lv_if_gt F.1 F.2.1 hd hr (fun z => kt z H locs ls F hl hP hD hS) (fun z => kf z H locs ls F hl hP hD hS)
theorem g_icmp_gt {a b : Int32} {o : Int} {r : Nat} (hd : decode t.1 pc = .ok (.if_icmp .gt o, 3)) (hr : (pc : Int) + o = (r : Int)) (hq : pc + 3 = q) (kt : b < a → Go x R t g r L st M ce sl) (kf : ¬ b < a → Go x R t g q L st M ce sl) : Go x R t g pc L (.int b :: .int a :: st) M ce sl := by
  subst hq
  obtain ⟨p, l, e, s, m, args, below, meth, c, A, Q⟩ := x
  intro H locs ls F hl hP hD hS
  exact lv_icmp_gt F.1 F.2.1 hd hr (fun z => kt z H locs ls F hl hP hD hS) (fun z => kf z H locs ls F hl hP hD hS)
theorem g_if_le {a : Int32} {o : Int} {r : Nat} (hd : decode t.1 pc = .ok (.ifCond .le o, 3)) (hr : (pc : Int) + o = (r : Int)) (hq : pc + 3 = q) (kt : a ≤ 0 → Go x R t g r L st M ce sl) (kf : ¬ a ≤ 0 → Go x R t g q L st M ce sl) : Go x R t g pc L (.int a :: st) M ce sl := by
  subst hq
  obtain ⟨p, l, e, s, m, args, below, meth, c, A, Q⟩ := x
  intro H locs ls F hl hP hD hS
  exact lv_if_le F.1 F.2.1 hd hr (fun z => kt z H locs ls F hl hP hD hS) (fun z => kf z H locs ls F hl hP hD hS)
theorem g_icmp_le {a b : Int32} {o : Int} {r : Nat} (hd : decode t.1 pc = .ok (.if_icmp .le o, 3)) (hr : (pc : Int) + o = (r : Int)) (hq : pc + 3 = q) (kt : a ≤ b → Go x R t g r L st M ce sl) (kf : ¬ a ≤ b → Go x R t g q L st M ce sl) : Go x R t g pc L (.int b :: .int a :: st) M ce sl := by
  subst hq
  obtain ⟨p, l, e, s, m, args, below, meth, c, A, Q⟩ := x
  intro H locs ls F hl hP hD hS
  exact lv_icmp_le F.1 F.2.1 hd hr (fun z => kt z H locs ls F hl hP hD hS) (fun z => kf z H locs ls F hl hP hD hS)
theorem g_nonnull {a : Nat} {o : Int} (hd : decode t.1 pc = .ok (.ifnonnull o, 3)) (hq : (pc : Int) + o = (q : Int)) (k : Go x R t g q L st M ce sl) : Go x R t g pc L (.ref a :: st) M ce sl := by
  obtain ⟨p, l, e, s, m, args, below, meth, c, A, Q⟩ := x
  intro H locs ls F hl hP hD hS
  exact lv_ifnonnull F.1 F.2.1 hd hq (k H locs ls F hl hP hD hS)
theorem g_nonnullN {o : Int} (hd : decode t.1 pc = .ok (.ifnonnull o, 3)) (hq : pc + 3 = q) (k : Go x R t g q L st M ce sl) : Go x R t g pc L (.null :: st) M ce sl := by
  subst hq
  obtain ⟨p, l, e, s, m, args, below, meth, c, A, Q⟩ := x
  intro H locs ls F hl hP hD hS
  exact lv_ifnonnullN F.1 F.2.1 hd (k H locs ls F hl hP hD hS)
theorem g_swOut {d lo hi : Int} {offs : Array Int} {len : Nat} {a : Int32} (hd : decode t.1 pc = .ok (.tableswitch d lo hi offs, len)) (h : a.toInt < lo ∨ hi < a.toInt) (hq : (pc : Int) + d = (q : Int)) (k : Go x R t g q L st M ce sl) : Go x R t g pc L (.int a :: st) M ce sl := by
  obtain ⟨p, l, e, s, m, args, below, meth, c, A, Q⟩ := x
  intro H locs ls F hl hP hD hS
  exact lv_tableOut F.1 F.2.1 hd h hq (k H locs ls F hl hP hD hS)
theorem g_swIn {d lo hi off : Int} {offs : Array Int} {len : Nat} {a : Int32} (hd : decode t.1 pc = .ok (.tableswitch d lo hi offs, len)) (h1 : ¬ a.toInt < lo) (h2 : ¬ hi < a.toInt) (ho : offs[(a.toInt - lo).toNat]? = some off) (hq : (pc : Int) + off = (q : Int)) (k : Go x R t g q L st M ce sl) : Go x R t g pc L (.int a :: st) M ce sl := by
  obtain ⟨p, l, e, s, m, args, below, meth, c, A, Q⟩ := x
  intro H locs ls F hl hP hD hS
  exact lv_tableIn F.1 F.2.1 hd h1 h2 ho hq (k H locs ls F hl hP hD hS)
/-- a field by its link: class ci, place fi -/
def FO (own : String) (i ci fi : Nat) : Prop := ∃ (C : String) (T : u_T) (N : Nat), vwCl[ci]? = some (C, T, N) ∧ fi < N ∧ (∀ w ∈ u_ws C T N, w ∈ tb_) ∧ (Jvm.Cond.fieldLink own i (T fi).1 (T fi).2.1 (T fi).2.2.1 ∈ tb_ ∨ ∃ host, Jvm.Cond.fieldLinkNest own i (T fi).1 (T fi).2.1 (T fi).2.2.1 host ∈ tb_)
/-- the same, to write it: its type; fin: final, in its class's own constructor -/
def FP (own nm : String) (i ci fi : Nat) (ty : FieldType) : Prop := ∃ (C : String) (T : u_T) (N : Nat) (ty0 : Nat → FieldType), vwCl[ci]? = some (C, T, N) ∧ fi < N ∧ (∀ w ∈ u_ws C T N, w ∈ tb_) ∧ (∀ k, k < N → parseFieldDescriptor (T k).2.2.1 = some (ty0 k)) ∧ (∀ a, a < N → ∀ b, b < N → a ≠ b → (T a).2.1 ≠ (T b).2.1) ∧ parseFieldDescriptor (T fi).2.2.1 = some ty ∧
  (((T fi).2.2.2 = false ∧ (Jvm.Cond.fieldLink own i (T fi).1 (T fi).2.1 (T fi).2.2.1 ∈ tb_ ∨ ∃ host, Jvm.Cond.fieldLinkNest own i (T fi).1 (T fi).2.1 (T fi).2.2.1 host ∈ tb_)) ∨ ((T fi).2.2.2 = true ∧ nm = "<init>" ∧ (T fi).1 = own ∧ Jvm.Cond.fieldLink own i (T fi).1 (T fi).2.1 (T fi).2.2.1 ∈ tb_))
theorem g_get {i ci fi a : Nat} {fs : List Value} {v : Value} (hd : decode t.1 pc = .ok (.getfield i, 3)) (hq : pc + 3 = q) (hw : FO t.2.2.1 i ci fi) (k0 : Nat) (hM : M[k0]? = some (a, .inr (ci, fs))) (hv : fs[fi]? = some v) (k : Go x R t g q L (v :: st) M ce sl) : Go x R t g pc L (.ref a :: st) M ce sl := by
  subst hq
  obtain ⟨p, l, e, s, m, args, below, meth, c, A, Q⟩ := x
  intro H locs ls F hl hP hD hS
  obtain ⟨C, T, N, h1, h2, h3, h4⟩ := hw
  obtain ⟨f1, f2, f3, f4, f5, f6, f7, f8⟩ := id F
  rcases h4 with h4 | ⟨host, h4⟩
  · exact va_get f1 f2 f5 h3 f4 f6 hP k0 hM h1 fi h2 (f5 _ h4) (fun _ h => h) hv hd (k H locs ls F hl hP hD hS)
  · exact va_getN f1 f2 f5 h3 f4 f6 hP k0 hM h1 fi h2 (f5 _ h4) (fun _ h => h) hv hd (k H locs ls F hl hP hD hS)
theorem g_put {i ci fi a : Nat} {fs : List Value} {v : Value} {ty : FieldType} {M' : va_W} (hd : decode t.1 pc = .ok (.putfield i, 3)) (hq : pc + 3 = q) (hw : FP t.2.2.1 t.2.2.2.2 i ci fi ty) (k0 : Nat) (hM : M[k0]? = some (a, .inr (ci, fs))) (hn : narrow ty v = v) (hf : fits ty v = true) (hlen : fi < fs.length) (hM' : M.set k0 (a, .inr (ci, fs.set fi v)) = M') (k : Go x R t g q L st M' ce sl) : Go x R t g pc L (v :: .ref a :: st) M ce sl := by
  subst hq
  subst hM'
  obtain ⟨p, l, e, s, m, args, below, meth, c, A, Q⟩ := x
  intro H locs ls F hl hP hD hS
  obtain ⟨C, T, N, ty0, h1, h2, h3, h4, h5, h6, h7⟩ := hw
  obtain ⟨f1, f2, f3, f4, f5, f6, f7, f8, f9, f10⟩ := id F
  rcases h7 with ⟨h7, h8 | ⟨host, h8⟩⟩ | ⟨h7, h9, h10, h8⟩
  · exact va_put f1 f2 f5 h3 ty0 h4 h5 f4 f6 hP hD hS k0 hM h1 fi h2 (f5 _ h8) (fun _ h => h) h7 h6 hn hf hlen hd (fun H2 locs2 hP2 hD2 hS2 => k H2 locs2 ls F hl hP2 hD2 hS2)
  · exact va_putN f1 f2 f5 h3 ty0 h4 h5 f4 f6 hP hD hS k0 hM h1 fi h2 (f5 _ h8) (fun _ h => h) h7 h6 hn hf hlen hd (fun H2 locs2 hP2 hD2 hS2 => k H2 locs2 ls F hl hP2 hD2 hS2)
  · exact va_putF f1 f2 f5 h3 ty0 h4 h5 f4 f6 hP hD hS k0 hM h1 fi h2 (f5 _ h8) (fun _ h => h) h7 (f10.trans h9) h10 h6 hn hf hlen hd (fun H2 locs2 hP2 hD2 hS2 => k H2 locs2 ls F hl hP2 hD2 hS2)
/-- a place of an array -/
abbrev ib (i : Int32) (n : Nat) : Prop := ¬ (i < 0 ∨ n ≤ i.toNatClampNeg)
theorem g_iald {a n : Nat} {f : Nat → Int32} {i : Int32} (hd : decode t.1 pc = .ok (.iaload, 1)) (hq : pc + 1 = q) (k0 : Nat) (hM : M[k0]? = some (a, .inl (g.2.1, n, .inl f))) (hin : ib i n) (k : Go x R t g q L (.int (f i.toNatClampNeg) :: st) M ce sl) : Go x R t g pc L (.int i :: .ref a :: st) M ce sl := by
  subst hq
  obtain ⟨p, l, e, s, m, args, below, meth, c, A, Q⟩ := x
  intro H locs ls F hl hP hD hS
  exact va_iald F.1 F.2.1 F.2.2.2.2.2.1 hP k0 0 hM rfl hin hd (k H locs ls F hl hP hD hS)
theorem g_zald {a n : Nat} {f : Nat → Int32} {i : Int32} (hd : decode t.1 pc = .ok (.baload, 1)) (hq : pc + 1 = q) (k0 : Nat) (hM : M[k0]? = some (a, .inl (g.2.2, n, .inl f))) (hin : ib i n) (k : Go x R t g q L (.int (f i.toNatClampNeg) :: st) M ce sl) : Go x R t g pc L (.int i :: .ref a :: st) M ce sl := by
  subst hq
  obtain ⟨p, l, e, s, m, args, below, meth, c, A, Q⟩ := x
  intro H locs ls F hl hP hD hS
  exact va_zald F.1 F.2.1 F.2.2.2.2.2.1 hP k0 1 hM rfl hin hd (k H locs ls F hl hP hD hS)
theorem g_iast {a n : Nat} {f : Nat → Int32} {i v : Int32} {M' : va_W} (hd : decode t.1 pc = .ok (.iastore, 1)) (hq : pc + 1 = q) (k0 : Nat) (hM : M[k0]? = some (a, .inl (g.2.1, n, .inl f))) (hin : ib i n) (hM' : M.set k0 (a, .inl (g.2.1, n, .inl (upd f i.toNatClampNeg v))) = M') (k : Go x R t g q L st M' ce sl) : Go x R t g pc L (.int v :: .int i :: .ref a :: st) M ce sl := by
  subst hq
  subst hM'
  obtain ⟨p, l, e, s, m, args, below, meth, c, A, Q⟩ := x
  intro H locs ls F hl hP hD hS
  exact va_iast F.1 F.2.1 F.2.2.2.2.2.1 hP hD hS k0 0 hM rfl hin hd (fun H2 locs2 hP2 hD2 hS2 => k H2 locs2 ls F hl hP2 hD2 hS2)
theorem g_zast {a n : Nat} {f : Nat → Int32} {i v w : Int32} {M' : va_W} (hd : decode t.1 pc = .ok (.bastore, 1)) (hq : pc + 1 = q) (k0 : Nat) (hM : M[k0]? = some (a, .inl (g.2.2, n, .inl f))) (hin : ib i n) (hw : vp_nar .boolean v = w) (hM' : M.set k0 (a, .inl (g.2.2, n, .inl (upd f i.toNatClampNeg w))) = M') (k : Go x R t g q L st M' ce sl) : Go x R t g pc L (.int v :: .int i :: .ref a :: st) M ce sl := by
  subst hq
  subst hM'
  subst hw
  obtain ⟨p, l, e, s, m, args, below, meth, c, A, Q⟩ := x
  intro H locs ls F hl hP hD hS
  exact va_zast F.1 F.2.1 F.2.2.2.2.2.1 hP hD hS k0 1 hM rfl hin hd (fun H2 locs2 hP2 hD2 hS2 => k H2 locs2 ls F hl hP2 hD2 hS2)
theorem g_alen {a n : Nat} {f : Nat → Int32} {v : Int32} (hd : decode t.1 pc = .ok (.arraylength, 1)) (hq : pc + 1 = q) (k0 : Nat) (hM : M[k0]? = some (a, .inl (g.2.1, n, .inl f))) (hv : Int32.ofNat n = v) (k : Go x R t g q L (.int v :: st) M ce sl) : Go x R t g pc L (.ref a :: st) M ce sl := by
  subst hq
  obtain ⟨p, l, e, s, m, args, below, meth, c, A, Q⟩ := x
  intro H locs ls F hl hP hD hS
  exact va_alen F.1 F.2.1 F.2.2.2.2.2.1 hP k0 0 hM rfl hv hd (k H locs ls F hl hP hD hS)
end G1
end
section
theorem wm_all {s : State} {args : Array Value} (hts : ∀ w ∈ tb_, w.before args s = true) : ∀ w ∈ tb_, ∀ (a' : Array Value) (U : State), s.WarmedH U.vm → w.before a' U = true := by
  intro w hw a' U hW
  have h1 := (List.mem_filter.mp hw).2
  rw [Bool.or_eq_true] at h1
  rcases h1 with h1 | h1
  · exact word_at hW (good_of_word h1) (hts w hw)
  · cases w <;> first
      | (simp [nestW] at h1; done)
      | exact va_Nw.use rfl (va_Nw.warmF hW (va_Nw.of rfl (hts _ hw)))
      | exact va_Nw.use rfl (va_Nw.warmM hW (va_Nw.of rfl (hts _ hw)))
/-- the end of a method: its answer and its cells as Post says, nothing else changed -/
def CQ (g : GX) (M : va_W) (Post : Option Value → va_W → Prop) : Array Value → State → Outcome → State → Prop := fun _ st oc t =>
  (∃ (r : Option Value) (M' : va_W), oc = .returned r ∧ Post r M' ∧ va_P g.1 vwCl M' t.heap ∧ va_D (va_A M st.heap.size) M') ∧ va_F (va_A M st.heap.size) st t
abbrev wsC (y : MethodName) (t : MT) : List Jvm.Cond := Jvm.Cond.code y t.1 t.2.1 t.2.2.2.1 :: tb_
/-- a method's contract: from the cells M, with these arguments, it comes to Post -/
def Ct (l : Launch) (g : GX) (y : MethodName) (t : MT) (fr lo nc ns : Nat) (as : List Value) (M : va_W) (Post : Option Value → va_W → Prop) : Prop :=
  ∀ sz : Nat, Met l y (wsC y t) ({ frames := fr, cells := nc, slots := ns, locals := lo }) (va_Pc as (fun U => U.heap.size = sz ∧ va_P g.1 vwCl M U.heap ∧ va_K g.1 vwCl (gt_ g) U ∧ va_D (fun _ => True) M)) (CQ g M Post) nc ns (va_A M sz)
/-- a frame whose end is a contract's -/
def RX (x : FX) (g : GX) (M0 : va_W) (Post : Option Value → va_W → Prop) (nc ns : Nat) : Prop := match x with
  | (_, _, _, s, _, args, below, _, _, A, Q) => A = va_A M0 s.heap.size ∧ Q = MQ below (CQ g M0 Post) args s nc ns (va_A M0 s.heap.size)
theorem argsIn : ∀ (as : List Value) (i0 : Nat), (∀ v ∈ as, v.category = 1) → ∀ (i : Nat) (v : Value), as[i]? = some v → (i0 + i, v) ∈ lv_args i0 as
  | [], _, _, i, v, h => by simp at h
  | a :: as, i0, hc, 0, v, h => by
    rw [List.getElem?_cons_zero] at h
    cases h
    unfold lv_args
    first | exact List.mem_cons_self | (simp)
  | a :: as, i0, hc, i + 1, v, h => by
    rw [List.getElem?_cons_succ] at h
    have ha : a.category = 1 := hc a List.mem_cons_self
    have h1 := argsIn as (i0 + 1) (fun w hw => hc w (List.mem_cons_of_mem _ hw)) i v h
    rw [show i0 + 1 + i = i0 + (i + 1) by omega] at h1
    unfold lv_args
    simp only [ha]
    exact List.mem_cons_of_mem _ h1
theorem lenSl (as : List Value) (hc : ∀ v ∈ as, v.category = 1) : (lg_sl as).length = as.length := by
  induction as with
  | nil => rfl
  | cons a as ih =>
    have ha : a.category = 1 := hc a List.mem_cons_self
    have h2 := ih (fun w hw => hc w (List.mem_cons_of_mem _ hw))
    simp only [lg_sl, List.flatMap_cons, ha] at h2 ⊢
    simp only [List.length_append, List.length_cons]
    simp [h2, Nat.add_comm]
theorem Ct.of {l : Launch} {g : GX} {y : MethodName} {t : MT} {fr lo nc ns : Nat} {as : List Value} {M : va_W} {Post : Option Value → va_W → Prop} (hy : plainName y.cls = true) (ho : t.2.2.1 = y.cls) (hm : t.2.2.2.2 = y.name) (hc : as.all (fun v => v.category == 1) = true) (hle : as.length ≤ t.2.1) {L : List Value} (hL : as ++ List.replicate (t.2.1 - as.length) un_ = L)
    (h : ∀ x : FX, x.2.1 = l → RX x g M Post nc ns → Go x { frames := fr, cells := nc, slots := ns, locals := lo } t g 0 L [] M 0 0) : Ct l g y t fr lo nc ns as M Post := by
  intro sz
  have hc' : ∀ v ∈ as, v.category = 1 := fun v hv => by simpa using List.all_eq_true.mp hc v hv
  refine Met.ofW (cc := t.1) (maxL := t.2.1) (ret := t.2.2.2.1) hy rfl ?_
  intro p e s m args below meth c s₁ B hml hv
  obtain ⟨rfl, hsz, hP, hK, hD0⟩ := hv
  have hts := atoms_spec (ws := wsC y t) B.pre
  have hown : s.vm.findClass y.cls = some m.cls := findClass_of_methodNamed B.named
  have hin : meth.name = y.name := (name_of_methodNamed B.named B.method).1
  subst hsz
  have hD := hD0.self (sz := s.heap.size)
  have hl := lv_entry as (n := t.2.1) (by rw [lenSl as hc']; exact hle)
  rw [lg_entry_eq]
  refine h (p, l, e, s, m, as.toArray, below, meth, c, va_A M s.heap.size, MQ below (CQ g M Post) as.toArray s nc ns (va_A M s.heap.size)) rfl ⟨rfl, rfl⟩ s.heap [] _ ⟨B.exec, B.bytes, hml, by rw [ho]; exact hown, fun w hw => hts w (List.mem_cons_of_mem _ hw), hK, fun q hq => Or.inr hq, B.notSynchronized, B.returns, by rw [hin, hm]⟩ ?_ hP hD va_S.rf
  refine ⟨⟨hl.1, hl.2.1, fun q hq => by cases hq⟩, fun i v hi hne => ?_⟩
  subst hL
  by_cases hlt : i < as.length
  · rw [List.getElem?_append_left hlt] at hi
    refine ⟨hc' v (List.mem_of_getElem? hi), ?_⟩
    have h2 := argsIn as 0 hc' i v hi
    rw [Nat.zero_add] at h2
    exact hl.2.2 (i, v) h2
  · rw [List.getElem?_append_right (by omega)] at hi
    exact absurd (List.eq_of_mem_replicate (List.mem_of_getElem? hi)) hne
section G2
variable {x : FX} {R : Room} {t : MT} {g : GX} {pc q : Nat} {L st : List Value} {M M0 : va_W} {ce sl nc ns : Nat} {Post : Option Value → va_W → Prop}
theorem g_iret {v : Int32} {ty : FieldType} (hX : RX x g M0 Post nc ns) (hd : decode t.1 pc = .ok (.ireturn, 1)) (ht : t.2.2.2.1 = some ty) (hn : narrow ty (.int v) = .int v) (h1 : ce ≤ nc) (h2 : sl ≤ ns) (hPo : Post (some (.int v)) M) : Go x R t g pc L [.int v] M ce sl := by
  obtain ⟨p, l, e, s, m, args, below, meth, c, A, Q⟩ := x
  intro H locs ls F hl hP hD hS
  obtain ⟨rfl, rfl⟩ := hX
  obtain ⟨f1, f2, f3, f4, f5, f6, f7, f8, f9, f10⟩ := F
  refine W.widen h1 h2 ?_
  exact W.zret f1 f2 (f9.trans ht) hn (fun u hu hW => ⟨⟨_, M, rfl, hPo, by rw [hu]; exact hP, hD⟩, hS.F hu⟩) hS.2.2 hd f8
theorem g_vret (hX : RX x g M0 Post nc ns) (hd : decode t.1 pc = .ok (.return_, 1)) (ht : t.2.2.2.1 = none) (h1 : ce ≤ nc) (h2 : sl ≤ ns) (hPo : Post none M) : Go x R t g pc L [] M ce sl := by
  obtain ⟨p, l, e, s, m, args, below, meth, c, A, Q⟩ := x
  intro H locs ls F hl hP hD hS
  obtain ⟨rfl, rfl⟩ := hX
  obtain ⟨f1, f2, f3, f4, f5, f6, f7, f8, f9, f10⟩ := F
  refine W.widen h1 h2 ?_
  exact W.vret f1 f2 (f9.trans ht) (fun u hu hW => ⟨⟨_, M, rfl, hPo, by rw [hu]; exact hP, hD⟩, hS.F hu⟩) hS.2.2 hd f8
theorem g_aret {a : Nat} {C : String} (hX : RX x g M0 Post nc ns) (hd : decode t.1 pc = .ok (.areturn, 1)) (ht : t.2.2.2.1 = some (.object C)) (h1 : ce ≤ nc) (h2 : sl ≤ ns) (hPo : Post (some (.ref a)) M) : Go x R t g pc L [.ref a] M ce sl := by
  obtain ⟨p, l, e, s, m, args, below, meth, c, A, Q⟩ := x
  intro H locs ls F hl hP hD hS
  obtain ⟨rfl, rfl⟩ := hX
  obtain ⟨f1, f2, f3, f4, f5, f6, f7, f8, f9, f10⟩ := F
  refine W.widen h1 h2 ?_
  exact W.aret f1 f2 (f9.trans ht) (Or.inl ⟨_, rfl⟩) (Or.inr ⟨_, rfl⟩) (fun u hu hW => ⟨⟨_, M, rfl, hPo, by rw [hu]; exact hP, hD⟩, hS.F hu⟩) hS.2.2 hd f8
end G2
/-- behind a call -/
theorem callC {p : Program} {l : Launch} {e : Env} {R : Room} {s : State} {m : MethodId} {args : Array Value} {below : List Frame} {meth : Method} {c : Code} {H : Heap} {locs : List Loc} {ce sl : Nat} {Q : State → Prop} {pc : Nat} {ls : Array Slot} {rest st0 : List Value} {a : Array Value} {A : Nat → Prop} {H0 : Heap} {mc ms : Nat} {g : GX} {M : va_W} {Post : Option Value → va_W → Prop}
    (hr : va_Run p l e R s m args below meth c H locs ce sl mc ms (F0 m pc ls st0) rest (CQ g M Post a) (va_A M H.size)) (hS : va_S A H0 H locs) (hD : va_D A M) (hA : ∀ q, H0.size ≤ q → A q)
    (kk : ∀ (r : Option Value) (M' : va_W) (H1 : Heap) (locs1 : List Loc), Post r M' → va_P g.1 vwCl M' H1 → va_D A M' → va_S A H0 H1 locs1 → W p l e R s m args below meth c H1 locs1 (ce + mc) (sl + ms) Q (F0 m (pc + 3) ls (r.toList ++ rest))) : W p l e R s m args below meth c H locs ce sl Q (F0 m pc ls st0) := by
  have hAA : ∀ q, va_A M H.size q → A q := by
    intro q h
    rcases h with ⟨k, e, h⟩ | h
    · exact hD.2 k (q, e) h
    · exact hA q (Nat.le_trans hS.1 h)
  intro T hT X
  obtain ⟨v, st₀, t, T', L, h0, X', hL, e1, e2, ⟨⟨r, M', hv, hp, hP1, hD1⟩, hz, hk⟩, st⟩ := hr T hT X
  cases hv
  rw [h0] at hz hk hD1
  obtain ⟨t2, a1, b1⟩ := kk v M' T'.heap (locs ++ L) hp (by rw [e1]; exact hP1) (hD1.weaken (fun _ z _ h => hAA z.1 h))
    ⟨Nat.le_trans hS.1 (by rw [e1]; exact hz), fun q h1 h2 => by rw [e1, hk q (Nat.lt_of_lt_of_le h1 hS.1) (fun z => h2 (hAA q z))]; exact hS.2.1 q h1 h2, fun q hq => by
      rcases List.mem_append.mp hq with h | h
      · exact hS.2.2 q h
      · exact hAA _ (hL q h)⟩ T' rfl X'
  exact ⟨t2, st t2 a1, b1⟩
theorem preOk {g : GX} {M : va_W} {s : State} {H : Heap} {as : List Value} {A : Nat → Prop} (hP : va_P g.1 vwCl M H) (hD : va_D A M) (hK : va_K g.1 vwCl (gt_ g) s) : PreS s H (va_Pc as (fun U => U.heap.size = H.size ∧ va_P g.1 vwCl M U.heap ∧ va_K g.1 vwCl (gt_ g) U ∧ va_D (fun _ => True) M)) as :=
  ⟨fun a U gg mk q => by obtain ⟨q0, q1, qP, qK, qD⟩ := q; exact ⟨q0, q1, qP, va_K.moved (u := U) (U := U.calling gg mk a) (Vm.Alike.refl U.vm) qK, qD⟩, fun U hU hW => ⟨rfl, by rw [hU], by rw [hU]; exact hP, va_K.moved hW.alike hK, hD.weaken (fun _ _ _ _ => trivial)⟩⟩
/-- what a call needs of the tables: the method's own words -/
def MW (y : MethodName) (t : MT) (n : Nat) : Prop := (Jvm.Cond.code y t.1 t.2.1 t.2.2.2.1 ∈ tb_ ∧ Jvm.Cond.initialized y.cls ∈ tb_) ∧ (y.cls ≠ "java/lang/invoke/MethodHandle" ∧ y.cls ≠ "java/lang/invoke/VarHandle" ∧ (parseMethodDescriptor y.desc).map (fun d => d.parameters.length) = some n)
theorem mwB {R : Room} {s : State} {args : Array Value} {own : String} {i : Nat} {y : MethodName} {t : MT} {n fr lo nc ns : Nat} (hts : ∀ w ∈ tb_, w.before args s = true) (hm : MW y t n) (hl : Jvm.Cond.methodLink own i y ∈ tb_) (hR : fr + 1 ≤ R.frames ∧ 8 + (t.2.1 + 11) + lo ≤ R.locals) :
    CallB R s args own i y t.1 t.2.1 t.2.2.2.1 (wsC y t) { frames := fr, cells := nc, slots := ns, locals := lo } nc ns n := by
  obtain ⟨⟨h1, h2⟩, h3, h4, h5⟩ := hm
  refine ⟨rfl, rfl, hR.1, hR.2, fun w hw => ?_, List.mem_cons_self, hts _ h1, hts _ h2, ⟨h3, h4⟩, fun sig h => ?_, hts _ hl⟩
  · rcases List.mem_cons.mp hw with rfl | hw
    · exact wm_all hts _ h1
    · exact wm_all hts _ hw
  · rw [h] at h5
    exact (Option.some.inj h5).symm
theorem mwN {R : Room} {s : State} {args : Array Value} {own host : String} {i : Nat} {y : MethodName} {t : MT} {n fr lo nc ns : Nat} (hts : ∀ w ∈ tb_, w.before args s = true) (hm : MW y t n) (hl : Jvm.Cond.methodLinkNest own i y host ∈ tb_) (hR : fr + 1 ≤ R.frames ∧ 8 + (t.2.1 + 11) + lo ≤ R.locals) :
    va_CN R s args own i y host t.1 t.2.1 t.2.2.2.1 (wsC y t) { frames := fr, cells := nc, slots := ns, locals := lo } nc ns n := by
  obtain ⟨⟨h1, h2⟩, h3, h4, h5⟩ := hm
  refine ⟨⟨rfl, rfl, hR.1, hR.2, fun w hw => ?_, List.mem_cons_self⟩, hts _ h1, hts _ h2, ⟨h3, h4⟩, fun sig h => ?_, hts _ hl⟩
  · rcases List.mem_cons.mp hw with rfl | hw
    · exact wm_all hts _ h1
    · exact wm_all hts _ hw
  · rw [h] at h5
    exact (Option.some.inj h5).symm
section G3
variable {x : FX} {R : Room} {t : MT} {g : GX} {pc q : Nat} {L st : List Value} {M : va_W} {ce sl : Nat} {Post' : Option Value → va_W → Prop} {y : MethodName} {t' : MT} {fr' lo' nc' ns' n i b ci : Nat} {as rest : List Value} {fs : List Value}
/-- a virtual call's words -/
def CV (own : String) (i : Nat) (y : MethodName) (t : MT) (n : Nat) : Prop := MW y t n ∧ Jvm.Cond.methodLink own i y ∈ tb_ ∧ Jvm.Cond.instanceMethod y ∈ tb_ ∧ Jvm.Cond.selects y.cls y y ∈ tb_
theorem g_callV (hd : decode t.1 pc = .ok (.invokevirtual i, 3)) (hq : pc + 3 = q) (hw : CV t.2.2.1 i y t' n) (hC : Ct x.2.1 g y t' fr' lo' nc' ns' (.ref b :: as) M Post') (hst : as.reverse ++ .ref b :: rest = st) (hn : as.length = n) (hR : fr' + 1 ≤ R.frames ∧ 8 + (t'.2.1 + 11) + lo' ≤ R.locals) (hcs : ce + nc' ≤ R.cells ∧ sl + ns' ≤ R.slots) (hcat : (rest.map fun v => v.category).sum ≤ 8) (k0 : Nat) (hM : M[k0]? = some (b, .inr (ci, fs))) (hci : (vwCl[ci]?).map (fun z => z.1) = some y.cls)
    (k : ∀ (r : Option Value) (M' : va_W), Post' r M' → Go x R t g q L (r.toList ++ rest) M' (ce + nc') (sl + ns')) : Go x R t g pc L st M ce sl := by
  subst hq
  subst hst
  obtain ⟨p, l, e, s, m, args, below, meth, c, A, Q⟩ := x
  intro H locs ls F hl hP hD hS
  obtain ⟨f1, f2, f3, f4, f5, f6, f7, f8, f9, f10⟩ := id F
  obtain ⟨w1, w2, w3, w4⟩ := hw
  obtain ⟨z, hz⟩ : ∃ z, vwCl[ci]? = some z := by
    cases hz : vwCl[ci]? with
    | none => rw [hz] at hci; cases hci
    | some z => exact ⟨z, rfl⟩
  have hzc : z.1 = y.cls := by rw [hz] at hci; exact Option.some.inj hci
  have hpr := preOk (as := .ref b :: as) hP hD f6
  refine callC (va_runV ⟨f1, f2, f3, f4, f5⟩ (hC H.size) ⟨mwB f5 w1 w2 hR, f5 _ w3, f5 _ w4⟩ ⟨hpr.1, hzc ▸ va_recv f6 hP hz hM, hpr.2⟩ rfl hn hl.1.1 rfl (lv_room hcat) hd hcs) hS hD f7 (fun r M' H1 locs1 hPo hP1 hD1 hS1 => ?_)
  exact k r M' hPo H1 locs1 ls F hl hP1 hD1 hS1
/-- a static call's words -/
def CS (own : String) (i : Nat) (y : MethodName) (t : MT) (n : Nat) : Prop := MW y t n ∧ Jvm.Cond.methodLink own i y ∈ tb_ ∧ Jvm.Cond.static y ∈ tb_
theorem g_callS (hd : decode t.1 pc = .ok (.invokestatic i, 3)) (hq : pc + 3 = q) (hw : CS t.2.2.1 i y t' n) (hC : Ct x.2.1 g y t' fr' lo' nc' ns' as M Post') (hst : as.reverse ++ rest = st) (hn : as.length = n) (hR : fr' + 1 ≤ R.frames ∧ 8 + (t'.2.1 + 11) + lo' ≤ R.locals) (hcs : ce + nc' ≤ R.cells ∧ sl + ns' ≤ R.slots) (hcat : (rest.map fun v => v.category).sum ≤ 8)
    (k : ∀ (r : Option Value) (M' : va_W), Post' r M' → Go x R t g q L (r.toList ++ rest) M' (ce + nc') (sl + ns')) : Go x R t g pc L st M ce sl := by
  subst hq
  subst hst
  obtain ⟨p, l, e, s, m, args, below, meth, c, A, Q⟩ := x
  intro H locs ls F hl hP hD hS
  obtain ⟨f1, f2, f3, f4, f5, f6, f7, f8, f9, f10⟩ := id F
  obtain ⟨w1, w2, w3⟩ := hw
  have hpr := preOk (as := as) hP hD f6
  refine callC (va_runS ⟨f1, f2, f3, f4, f5⟩ (hC H.size) ⟨mwB f5 w1 w2 hR, f5 _ w3⟩ hpr rfl hn hl.1.1 rfl (lv_room hcat) hd hcs) hS hD f7 (fun r M' H1 locs1 hPo hP1 hD1 hS1 => ?_)
  exact k r M' hPo H1 locs1 ls F hl hP1 hD1 hS1
/-- a constructor's words -/
def CI (own : String) (i : Nat) (y : MethodName) (t : MT) (n : Nat) : Prop := MW y t n ∧ (Jvm.Cond.methodLink own i y ∈ tb_ ∨ ∃ host, Jvm.Cond.methodLinkNest own i y host ∈ tb_) ∧ y.name = "<init>" ∧ Jvm.Cond.instanceMethod y ∈ tb_ ∧ t.2.2.2.1 = none
theorem g_callI (hd : decode t.1 pc = .ok (.invokespecial i, 3)) (hq : pc + 3 = q) (hw : CI t.2.2.1 i y t' n) (hC : Ct x.2.1 g y t' fr' lo' nc' ns' (.ref b :: as) M Post') (hst : as.reverse ++ .ref b :: rest = st) (hn : as.length = n) (hR : fr' + 1 ≤ R.frames ∧ 8 + (t'.2.1 + 11) + lo' ≤ R.locals) (hcs : ce + nc' ≤ R.cells ∧ sl + ns' ≤ R.slots) (hcat : (rest.map fun v => v.category).sum ≤ 8)
    (k : ∀ (r : Option Value) (M' : va_W), Post' r M' → Go x R t g q L (r.toList ++ rest) M' (ce + nc') (sl + ns')) : Go x R t g pc L st M ce sl := by
  subst hq
  subst hst
  obtain ⟨p, l, e, s, m, args, below, meth, c, A, Q⟩ := x
  intro H locs ls F hl hP hD hS
  obtain ⟨f1, f2, f3, f4, f5, f6, f7, f8, f9, f10⟩ := id F
  obtain ⟨w1, w2, w3, w4, w5⟩ := hw
  have hpr := preOk (as := .ref b :: as) hP hD f6
  obtain ⟨tc, tn, to, tr, tm⟩ := t'
  dsimp only at w5
  subst w5
  rcases w2 with w2 | ⟨host, w2⟩
  · refine callC (va_runI ⟨f1, f2, f3, f4, f5⟩ (hC H.size) ⟨mwB f5 w1 w2 hR, w3, f5 _ w4⟩ hpr rfl hn hl.1.1 rfl (lv_room hcat) hd hcs) hS hD f7 (fun r M' H1 locs1 hPo hP1 hD1 hS1 => ?_)
    exact k r M' hPo H1 locs1 ls F hl hP1 hD1 hS1
  · refine callC (va_runIN ⟨f1, f2, f3, f4, f5⟩ (hC H.size) ⟨mwN f5 w1 w2 hR, w3, f5 _ w4⟩ hpr rfl hn hl.1.1 rfl (lv_room hcat) hd hcs) hS hD f7 (fun r M' H1 locs1 hPo hP1 hD1 hS1 => ?_)
    exact k r M' hPo H1 locs1 ls F hl hP1 hD1 hS1
theorem g_objInit {a : Nat} (hd : decode t.1 pc = .ok (.invokespecial i, 3)) (hq : pc + 3 = q) (h1 : Jvm.Cond.methodLink t.2.2.1 i objectInit ∈ tb_) (h2 : Jvm.Cond.instanceMethod objectInit ∈ tb_) (h3 : Jvm.Cond.code objectInit ⟨#[0xb1]⟩ 1 none ∈ tb_) (hf : 1 ≤ R.frames) (hlo : (st.map fun v => v.category).sum + 12 ≤ R.locals) (k : Go x R t g q L st M ce sl) : Go x R t g pc L (.ref a :: st) M ce sl := by
  subst hq
  obtain ⟨p, l, e, s, m, args, below, meth, c, A, Q⟩ := x
  intro H locs ls F hl hP hD hS
  obtain ⟨f1, f2, f3, f4, f5, f6, f7, f8, f9, f10⟩ := id F
  refine W.objInit f1 f2 f4 (f5 _ h1) (f5 _ h2) (f5 _ h3) rfl (by rw [f3]; exact hl.1.1) rfl hd hf ?_ (k H locs ls F hl hP hD hS)
  show 2 * 0 + (st.map fun v => v.category).sum + 12 ≤ R.locals
  omega
/-- a class that is made: its words, its fields at birth -/
def NW (own : String) (i ci N : Nat) (fs : List Value) : Prop := ∃ (C : String) (T : u_T) (ty : Nat → FieldType), vwCl[ci]? = some (C, T, N) ∧ (∀ w ∈ u_ws C T N, w ∈ tb_) ∧ (∀ k, k < N → parseFieldDescriptor (T k).2.2.1 = some (ty k)) ∧ Jvm.Cond.classLink own i C ∈ tb_ ∧ Jvm.Cond.instantiable C N ∈ tb_ ∧ Jvm.Cond.initialized C ∈ tb_ ∧ ∀ j, j < N → defaultValue (ty j) = vp_V fs j
theorem g_new {N : Nat} (hd : decode t.1 pc = .ok (.new i, 3)) (hq : pc + 3 = q) (hw : NW t.2.2.1 i ci N fs) (hc : ce + 1 ≤ R.cells) (hs : sl + N ≤ R.slots) (k : ∀ a : Nat, Go x R t g q L (.ref a :: st) (M ++ [(a, .inr (ci, fs))]) (ce + 1) (sl + N)) : Go x R t g pc L st M ce sl := by
  subst hq
  obtain ⟨p, l, e, s, m, args, below, meth, c, A, Q⟩ := x
  intro H locs ls F hl hP hD hS
  obtain ⟨f1, f2, f3, f4, f5, f6, f7, f8, f9, f10⟩ := id F
  obtain ⟨C, T, ty, h1, h2, h3, h4, h5, h6, h7⟩ := hw
  exact va_new f1 f2 f5 h2 ty h3 f4 (f5 _ h4) (f5 _ h5) (f5 _ h6) f6 hP hD hS f7 h1 h7 hc hs hd (fun a H1 hP1 hD1 hS1 => k a H1 locs ls F hl hP1 hD1 hS1)
theorem g_newi {n : Int32} {N : Nat} (hd : decode t.1 pc = .ok (.newarray .int, 2)) (hq : pc + 2 = q) (hw : Jvm.Cond.arrayClass .int ∈ tb_) (hn : ¬ n < 0) (hN : n.toNatClampNeg = N) (hb : N * 4 ≤ 536870912) (hc : ce + 1 ≤ R.cells) (hs : sl + N ≤ R.slots) (k : ∀ a : Nat, Go x R t g q L (.ref a :: st) (M ++ [(a, .inl (g.2.1, N, .inl (fun _ => 0)))]) (ce + 1) (sl + N)) : Go x R t g pc L (.int n :: st) M ce sl := by
  subst hq
  obtain ⟨p, l, e, s, m, args, below, meth, c, A, Q⟩ := x
  intro H locs ls F hl hP hD hS
  obtain ⟨f1, f2, f3, f4, f5, f6, f7, f8, f9, f10⟩ := id F
  refine va_newa (atype := .int) (a0 := (N, .inl (fun _ => 0))) (ty := .int) f1 f2 (f5 _ hw) rfl f6 hP hD hS f7 (fun _ => rfl) hn hN hb hc hs hd (fun a cA H1 hK1 hP1 hD1 hS1 => ?_)
  have e1 : va_RA s cA .int := (hK1.2 2 (cA, .int) rfl).2
  have e2 : va_RA s g.2.1 .int := (hK1.2 0 (g.2.1, .int) rfl).2
  have e3 : cA = g.2.1 := Option.some.inj (e1.symm.trans e2)
  subst e3
  exact k a H1 locs ls F hl hP1 hD1 hS1
theorem g_newz {n : Int32} {N : Nat} (hd : decode t.1 pc = .ok (.newarray .boolean, 2)) (hq : pc + 2 = q) (hw : Jvm.Cond.arrayClass .boolean ∈ tb_) (hn : ¬ n < 0) (hN : n.toNatClampNeg = N) (hb : N * 1 ≤ 536870912) (hc : ce + 1 ≤ R.cells) (hs : sl + N ≤ R.slots) (k : ∀ a : Nat, Go x R t g q L (.ref a :: st) (M ++ [(a, .inl (g.2.2, N, .inl (fun _ => 0)))]) (ce + 1) (sl + N)) : Go x R t g pc L (.int n :: st) M ce sl := by
  subst hq
  obtain ⟨p, l, e, s, m, args, below, meth, c, A, Q⟩ := x
  intro H locs ls F hl hP hD hS
  obtain ⟨f1, f2, f3, f4, f5, f6, f7, f8, f9, f10⟩ := id F
  refine va_newa (atype := .boolean) (a0 := (N, .inl (fun _ => 0))) (ty := .boolean) f1 f2 (f5 _ hw) rfl f6 hP hD hS f7 (fun _ => rfl) hn hN hb hc hs hd (fun a cA H1 hK1 hP1 hD1 hS1 => ?_)
  have e1 : va_RA s cA .boolean := (hK1.2 2 (cA, .boolean) rfl).2
  have e2 : va_RA s g.2.2 .boolean := (hK1.2 1 (g.2.2, .boolean) rfl).2
  have e3 : cA = g.2.2 := Option.some.inj (e1.symm.trans e2)
  subst e3
  exact k a H1 locs ls F hl hP1 hD1 hS1
end G3
end
section
theorem t1_ {w : Jvm.Cond} (i : Nat) (h : tables_1_1[i]? = some w) (hg : (goodWord w || nestW w) = true) : w ∈ tb_ := List.mem_filter.mpr ⟨List.mem_append_right _ (List.mem_append_left _ (List.mem_of_getElem? h)), hg⟩
theorem t2_ {w : Jvm.Cond} (i : Nat) (h : tables_1_2[i]? = some w) (hg : (goodWord w || nestW w) = true) : w ∈ tb_ := List.mem_filter.mpr ⟨List.mem_append_right _ (List.mem_append_right _ (List.mem_append_left _ (List.mem_of_getElem? h))), hg⟩
theorem t3_ {w : Jvm.Cond} (i : Nat) (h : tables_1_3[i]? = some w) (hg : (goodWord w || nestW w) = true) : w ∈ tb_ := List.mem_filter.mpr ⟨List.mem_append_right _ (List.mem_append_right _ (List.mem_append_right _ (List.mem_append_left _ (List.mem_of_getElem? h)))), hg⟩
theorem t4_ {w : Jvm.Cond} (i : Nat) (h : tables_1_4[i]? = some w) (hg : (goodWord w || nestW w) = true) : w ∈ tb_ := List.mem_filter.mpr ⟨List.mem_append_right _ (List.mem_append_right _ (List.mem_append_right _ (List.mem_append_right _ (List.mem_of_getElem? h)))), hg⟩
theorem sm_ {w : Jvm.Cond} (i : Nat) (h : (k2_sels lw_privs)[i]? = some w) (hg : (goodWord w || nestW w) = true) : w ∈ tb_ := List.mem_filter.mpr ⟨List.mem_append_left _ (List.mem_of_getElem? h), hg⟩
theorem inX0 : ∀ w ∈ u_ws RX0 TX0 15, w ∈ tb_ := by
  intro w hw
  obtain ⟨k, hk, rfl⟩ := List.mem_map.mp hw
  have hk := List.mem_range.mp hk
  match k, hk with
  | 0, _ => exact (t1_ 162 rfl rfl)
  | 1, _ => exact (t1_ 164 rfl rfl)
  | 2, _ => exact (t1_ 166 rfl rfl)
  | 3, _ => exact (t1_ 168 rfl rfl)
  | 4, _ => exact (t1_ 170 rfl rfl)
  | 5, _ => exact (t1_ 172 rfl rfl)
  | 6, _ => exact (t1_ 174 rfl rfl)
  | 7, _ => exact (t1_ 176 rfl rfl)
  | 8, _ => exact (t1_ 178 rfl rfl)
  | 9, _ => exact (t1_ 180 rfl rfl)
  | 10, _ => exact (t1_ 182 rfl rfl)
  | 11, _ => exact (t1_ 184 rfl rfl)
  | 12, _ => exact (t1_ 186 rfl rfl)
  | 13, _ => exact (t1_ 188 rfl rfl)
  | 14, _ => exact (t1_ 190 rfl rfl)
  | k + 15, h => exact absurd h (by omega)
theorem inX1 : ∀ w ∈ u_ws RX1 TX1 7, w ∈ tb_ := by
  intro w hw
  obtain ⟨k, hk, rfl⟩ := List.mem_map.mp hw
  have hk := List.mem_range.mp hk
  match k, hk with
  | 0, _ => exact (t1_ 42 rfl rfl)
  | 1, _ => exact (t1_ 44 rfl rfl)
  | 2, _ => exact (t1_ 46 rfl rfl)
  | 3, _ => exact (t1_ 48 rfl rfl)
  | 4, _ => exact (t1_ 50 rfl rfl)
  | 5, _ => exact (t1_ 52 rfl rfl)
  | 6, _ => exact (t1_ 54 rfl rfl)
  | k + 7, h => exact absurd h (by omega)
theorem inX2 : ∀ w ∈ u_ws RX2 TX2 3, w ∈ tb_ := by
  intro w hw
  obtain ⟨k, hk, rfl⟩ := List.mem_map.mp hw
  have hk := List.mem_range.mp hk
  match k, hk with
  | 0, _ => exact (t1_ 133 rfl rfl)
  | 1, _ => exact (t1_ 135 rfl rfl)
  | 2, _ => exact (t1_ 137 rfl rfl)
  | k + 3, h => exact absurd h (by omega)
theorem inX3 : ∀ w ∈ u_ws RX3 TX3 9, w ∈ tb_ := by
  intro w hw
  obtain ⟨k, hk, rfl⟩ := List.mem_map.mp hw
  have hk := List.mem_range.mp hk
  match k, hk with
  | 0, _ => exact (t1_ 105 rfl rfl)
  | 1, _ => exact (t1_ 107 rfl rfl)
  | 2, _ => exact (t1_ 109 rfl rfl)
  | 3, _ => exact (t1_ 111 rfl rfl)
  | 4, _ => exact (t1_ 113 rfl rfl)
  | 5, _ => exact (t1_ 115 rfl rfl)
  | 6, _ => exact (t1_ 117 rfl rfl)
  | 7, _ => exact (t1_ 119 rfl rfl)
  | 8, _ => exact (t1_ 121 rfl rfl)
  | k + 9, h => exact absurd h (by omega)
theorem inX4 : ∀ w ∈ u_ws RX4 TX4 4, w ∈ tb_ := by
  intro w hw
  obtain ⟨k, hk, rfl⟩ := List.mem_map.mp hw
  have hk := List.mem_range.mp hk
  match k, hk with
  | 0, _ => exact (t1_ 81 rfl rfl)
  | 1, _ => exact (t1_ 83 rfl rfl)
  | 2, _ => exact (t1_ 85 rfl rfl)
  | 3, _ => exact (t1_ 87 rfl rfl)
  | k + 4, h => exact absurd h (by omega)
theorem inX5 : ∀ w ∈ u_ws RX5 TX5 1, w ∈ tb_ := by
  intro w hw
  obtain ⟨k, hk, rfl⟩ := List.mem_map.mp hw
  have hk := List.mem_range.mp hk
  match k, hk with
  | 0, _ => exact (t2_ 231 rfl rfl)
  | k + 1, h => exact absurd h (by omega)
theorem inX6 : ∀ w ∈ u_ws RX6 TX6 6, w ∈ tb_ := by
  intro w hw
  obtain ⟨k, hk, rfl⟩ := List.mem_map.mp hw
  have hk := List.mem_range.mp hk
  match k, hk with
  | 0, _ => exact (t1_ 201 rfl rfl)
  | 1, _ => exact (t1_ 203 rfl rfl)
  | 2, _ => exact (t1_ 205 rfl rfl)
  | 3, _ => exact (t1_ 207 rfl rfl)
  | 4, _ => exact (t1_ 209 rfl rfl)
  | 5, _ => exact (t1_ 211 rfl rfl)
  | k + 6, h => exact absurd h (by omega)
theorem inX7 : ∀ w ∈ u_ws RX7 TX7 25, w ∈ tb_ := by
  intro w hw
  obtain ⟨k, hk, rfl⟩ := List.mem_map.mp hw
  have hk := List.mem_range.mp hk
  match k, hk with
  | 0, _ => exact (t3_ 104 rfl rfl)
  | 1, _ => exact (t3_ 106 rfl rfl)
  | 2, _ => exact (t3_ 108 rfl rfl)
  | 3, _ => exact (t3_ 110 rfl rfl)
  | 4, _ => exact (t3_ 112 rfl rfl)
  | 5, _ => exact (t3_ 114 rfl rfl)
  | 6, _ => exact (t3_ 116 rfl rfl)
  | 7, _ => exact (t3_ 118 rfl rfl)
  | 8, _ => exact (t3_ 120 rfl rfl)
  | 9, _ => exact (t3_ 122 rfl rfl)
  | 10, _ => exact (t3_ 124 rfl rfl)
  | 11, _ => exact (t3_ 126 rfl rfl)
  | 12, _ => exact (t3_ 128 rfl rfl)
  | 13, _ => exact (t3_ 130 rfl rfl)
  | 14, _ => exact (t3_ 132 rfl rfl)
  | 15, _ => exact (t3_ 134 rfl rfl)
  | 16, _ => exact (t3_ 136 rfl rfl)
  | 17, _ => exact (t3_ 138 rfl rfl)
  | 18, _ => exact (t3_ 140 rfl rfl)
  | 19, _ => exact (t3_ 142 rfl rfl)
  | 20, _ => exact (t3_ 144 rfl rfl)
  | 21, _ => exact (t3_ 146 rfl rfl)
  | 22, _ => exact (t3_ 148 rfl rfl)
  | 23, _ => exact (t3_ 150 rfl rfl)
  | 24, _ => exact (t3_ 152 rfl rfl)
  | k + 25, h => exact absurd h (by omega)
abbrev tX6_init : MT := (cX6_init, 1, RX6, none, "<init>")
theorem mwX6_init : MW yX6_init tX6_init 0 := ⟨⟨(t1_ 16 rfl rfl), (t1_ 1 rfl rfl)⟩, by decide +kernel⟩
abbrev tX1_init : MT := (cX1_init, 1, RX1, none, "<init>")
theorem mwX1_init : MW yX1_init tX1_init 0 := ⟨⟨(t1_ 24 rfl rfl), (t1_ 2 rfl rfl)⟩, by decide +kernel⟩
abbrev tX3_init : MT := (cX3_init, 2, RX3, none, "<init>")
theorem mwX3_init : MW yX3_init tX3_init 1 := ⟨⟨(t1_ 62 rfl rfl), (t1_ 3 rfl rfl)⟩, by decide +kernel⟩
abbrev tX4_init : MT := (cX4_init, 1, RX4, none, "<init>")
theorem mwX4_init : MW yX4_init tX4_init 0 := ⟨⟨(t1_ 68 rfl rfl), (t1_ 4 rfl rfl)⟩, by decide +kernel⟩
abbrev tX2_init : MT := (cX2_init, 2, RX2, none, "<init>")
theorem mwX2_init : MW yX2_init tX2_init 1 := ⟨⟨(t1_ 128 rfl rfl), (t1_ 5 rfl rfl)⟩, by decide +kernel⟩
abbrev tX0_init : MT := (cX0_init, 2, RX0, none, "<init>")
theorem mwX0_init : MW yX0_init tX0_init 1 := ⟨⟨(t1_ 144 rfl rfl), (t1_ 6 rfl rfl)⟩, by decide +kernel⟩
abbrev tX6_caves : MT := (cX6_caves, 2, RX6, some .boolean, "caves")
theorem mwX6_caves : MW yX6_caves tX6_caves 1 := ⟨⟨(t1_ 217 rfl rfl), (t1_ 1 rfl rfl)⟩, by decide +kernel⟩
abbrev tX1_clear : MT := (cX1_clear, 2, RX1, none, "clear")
theorem mwX1_clear : MW yX1_clear tX1_clear 1 := ⟨⟨(t1_ 221 rfl rfl), (t1_ 2 rfl rfl)⟩, by decide +kernel⟩
abbrev tX1_linkCaves : MT := (cX1_linkCaves, 4, RX1, none, "linkCaves")
theorem mwX1_linkCaves : MW yX1_linkCaves tX1_linkCaves 0 := ⟨⟨(t1_ 225 rfl rfl), (t1_ 2 rfl rfl)⟩, by decide +kernel⟩
abbrev tJ7_fill_53178 : MT := (cJ7_fill_53178, 4, RJ7, none, "fill")
theorem mwJ7_fill_53178 : MW yJ7_fill_53178 tJ7_fill_53178 2 := ⟨⟨(t1_ 228 rfl rfl), (t1_ 8 rfl rfl)⟩, by decide +kernel⟩
abbrev tX1_hasPassage : MT := (cX1_hasPassage, 2, RX1, some .boolean, "hasPassage")
theorem mwX1_hasPassage : MW yX1_hasPassage tX1_hasPassage 1 := ⟨⟨(t1_ 232 rfl rfl), (t1_ 2 rfl rfl)⟩, by decide +kernel⟩
abbrev tX2_reset : MT := (cX2_reset, 2, RX2, none, "reset")
theorem mwX2_reset : MW yX2_reset tX2_reset 0 := ⟨⟨(t1_ 236 rfl rfl), (t1_ 5 rfl rfl)⟩, by decide +kernel⟩
abbrev tX6_forgetSearchAndPlan : MT := (cX6_forgetSearchAndPlan, 1, RX6, none, "forgetSearchAndPlan")
theorem mwX6_forgetSearchAndPlan : MW yX6_forgetSearchAndPlan tX6_forgetSearchAndPlan 0 := ⟨⟨(t2_ 0 rfl rfl), (t1_ 1 rfl rfl)⟩, by decide +kernel⟩
abbrev tX3_begin : MT := (cX3_begin, 1, RX3, none, "begin")
theorem mwX3_begin : MW yX3_begin tX3_begin 0 := ⟨⟨(t2_ 4 rfl rfl), (t1_ 3 rfl rfl)⟩, by decide +kernel⟩
abbrev tX4_begin : MT := (cX4_begin, 2, RX4, none, "begin")
theorem mwX4_begin : MW yX4_begin tX4_begin 1 := ⟨⟨(t2_ 8 rfl rfl), (t1_ 4 rfl rfl)⟩, by decide +kernel⟩
abbrev tX1_allCaves : MT := (cX1_allCaves, 1, RX1, some .int, "allCaves")
theorem mwX1_allCaves : MW yX1_allCaves tX1_allCaves 0 := ⟨⟨(t2_ 13 rfl rfl), (t1_ 2 rfl rfl)⟩, by decide +kernel⟩
abbrev tX6_passage : MT := (cX6_passage, 4, RX6, some .int, "passage")
theorem mwX6_passage : MW yX6_passage tX6_passage 2 := ⟨⟨(t2_ 17 rfl rfl), (t1_ 1 rfl rfl)⟩, by decide +kernel⟩
abbrev tX1_lowestFree : MT := (cX1_lowestFree, 2, RX1, some .int, "lowestFree")
theorem mwX1_lowestFree : MW yX1_lowestFree tX1_lowestFree 0 := ⟨⟨(t2_ 21 rfl rfl), (t1_ 2 rfl rfl)⟩, by decide +kernel⟩
abbrev tX1_hasCave : MT := (cX1_hasCave, 2, RX1, some .boolean, "hasCave")
theorem mwX1_hasCave : MW yX1_hasCave tX1_hasCave 1 := ⟨⟨(t2_ 25 rfl rfl), (t1_ 2 rfl rfl)⟩, by decide +kernel⟩
abbrev tX1_dig : MT := (cX1_dig, 4, RX1, none, "dig")
theorem mwX1_dig : MW yX1_dig tX1_dig 3 := ⟨⟨(t2_ 29 rfl rfl), (t1_ 2 rfl rfl)⟩, by decide +kernel⟩
abbrev tJ9_min_7cf53 : MT := (cJ9_min_7cf53, 2, RJ9, some .int, "min")
theorem mwJ9_min_7cf53 : MW yJ9_min_7cf53 tJ9_min_7cf53 2 := ⟨⟨(t2_ 32 rfl rfl), (t1_ 9 rfl rfl)⟩, by decide +kernel⟩
abbrev tJ9_max_7cf53 : MT := (cJ9_max_7cf53, 2, RJ9, some .int, "max")
theorem mwJ9_max_7cf53 : MW yJ9_max_7cf53 tJ9_max_7cf53 2 := ⟨⟨(t2_ 35 rfl rfl), (t1_ 9 rfl rfl)⟩, by decide +kernel⟩
abbrev tX6_drop : MT := (cX6_drop, 2, RX6, some .boolean, "drop")
theorem mwX6_drop : MW yX6_drop tX6_drop 1 := ⟨⟨(t2_ 39 rfl rfl), (t1_ 1 rfl rfl)⟩, by decide +kernel⟩
abbrev tX1_fillUp : MT := (cX1_fillUp, 2, RX1, none, "fillUp")
theorem mwX1_fillUp : MW yX1_fillUp tX1_fillUp 1 := ⟨⟨(t2_ 44 rfl rfl), (t1_ 2 rfl rfl)⟩, by decide +kernel⟩
abbrev tX6_mouth : MT := (cX6_mouth, 2, RX6, some .boolean, "mouth")
theorem mwX6_mouth : MW yX6_mouth tX6_mouth 1 := ⟨⟨(t2_ 48 rfl rfl), (t1_ 1 rfl rfl)⟩, by decide +kernel⟩
abbrev tX6_order : MT := (cX6_order, 4, RX6, some .int, "order")
theorem mwX6_order : MW yX6_order tX6_order 3 := ⟨⟨(t2_ 52 rfl rfl), (t1_ 1 rfl rfl)⟩, by decide +kernel⟩
abbrev tX1_leadsFrom : MT := (cX1_leadsFrom, 3, RX1, some .boolean, "leadsFrom")
theorem mwX1_leadsFrom : MW yX1_leadsFrom tX1_leadsFrom 2 := ⟨⟨(t2_ 56 rfl rfl), (t1_ 2 rfl rfl)⟩, by decide +kernel⟩
abbrev tX3_carryOut : MT := (cX3_carryOut, 5, RX3, some .boolean, "carryOut")
theorem mwX3_carryOut : MW yX3_carryOut tX3_carryOut 3 := ⟨⟨(t2_ 60 rfl rfl), (t1_ 3 rfl rfl)⟩, by decide +kernel⟩
abbrev tX3_canBeDone : MT := (cX3_canBeDone, 3, RX3, some .boolean, "canBeDone")
theorem mwX3_canBeDone : MW yX3_canBeDone tX3_canBeDone 2 := ⟨⟨(t2_ 64 rfl rfl), (t1_ 3 rfl rfl)⟩, by decide +kernel⟩
abbrev tX4_follow : MT := (cX4_follow, 5, RX4, none, "follow")
theorem mwX4_follow : MW yX4_follow tX4_follow 4 := ⟨⟨(t2_ 68 rfl rfl), (t1_ 4 rfl rfl)⟩, by decide +kernel⟩
abbrev tX4_leave : MT := (cX4_leave, 2, RX4, none, "leave")
theorem mwX4_leave : MW yX4_leave tX4_leave 1 := ⟨⟨(t2_ 72 rfl rfl), (t1_ 4 rfl rfl)⟩, by decide +kernel⟩
abbrev tX4_come : MT := (cX4_come, 2, RX4, none, "come")
theorem mwX4_come : MW yX4_come tX4_come 1 := ⟨⟨(t2_ 76 rfl rfl), (t1_ 4 rfl rfl)⟩, by decide +kernel⟩
abbrev tX1_otherEnd : MT := (cX1_otherEnd, 3, RX1, some .int, "otherEnd")
theorem mwX1_otherEnd : MW yX1_otherEnd tX1_otherEnd 2 := ⟨⟨(t2_ 80 rfl rfl), (t1_ 2 rfl rfl)⟩, by decide +kernel⟩
abbrev tX1_lostBehind : MT := (cX1_lostBehind, 7, RX1, some .int, "lostBehind")
theorem mwX1_lostBehind : MW yX1_lostBehind tX1_lostBehind 4 := ⟨⟨(t2_ 84 rfl rfl), (t1_ 2 rfl rfl)⟩, by decide +kernel⟩
abbrev tX1_passagesAt : MT := (cX1_passagesAt, 4, RX1, some .int, "passagesAt")
theorem mwX1_passagesAt : MW yX1_passagesAt tX1_passagesAt 1 := ⟨⟨(t2_ 88 rfl rfl), (t1_ 2 rfl rfl)⟩, by decide +kernel⟩
abbrev tX1_spread : MT := (cX1_spread, 8, RX1, some .int, "spread")
theorem mwX1_spread : MW yX1_spread tX1_spread 2 := ⟨⟨(t2_ 92 rfl rfl), (t1_ 2 rfl rfl)⟩, by decide +kernel⟩
abbrev tX4_goBack : MT := (cX4_goBack, 6, RX4, none, "goBack")
theorem mwX4_goBack : MW yX4_goBack tX4_goBack 5 := ⟨⟨(t2_ 96 rfl rfl), (t1_ 4 rfl rfl)⟩, by decide +kernel⟩
abbrev tX6_undo : MT := (cX6_undo, 1, RX6, some .boolean, "undo")
theorem mwX6_undo : MW yX6_undo tX6_undo 0 := ⟨⟨(t2_ 101 rfl rfl), (t1_ 1 rfl rfl)⟩, by decide +kernel⟩
abbrev tX3_takeBack : MT := (cX3_takeBack, 2, RX3, some .boolean, "takeBack")
theorem mwX3_takeBack : MW yX3_takeBack tX3_takeBack 0 := ⟨⟨(t2_ 105 rfl rfl), (t1_ 3 rfl rfl)⟩, by decide +kernel⟩
abbrev tX6_anew : MT := (cX6_anew, 1, RX6, none, "anew")
theorem mwX6_anew : MW yX6_anew tX6_anew 0 := ⟨⟨(t2_ 109 rfl rfl), (t1_ 1 rfl rfl)⟩, by decide +kernel⟩
abbrev tX6_count : MT := (cX6_count, 2, RX6, some .int, "count")
theorem mwX6_count : MW yX6_count tX6_count 1 := ⟨⟨(t2_ 113 rfl rfl), (t1_ 1 rfl rfl)⟩, by decide +kernel⟩
abbrev tJ6_bitCount_0f7a4 : MT := (cJ6_bitCount_0f7a4, 1, RJ6, some .int, "bitCount")
theorem mwJ6_bitCount_0f7a4 : MW yJ6_bitCount_0f7a4 tJ6_bitCount_0f7a4 1 := ⟨⟨(t2_ 116 rfl rfl), (t1_ 10 rfl rfl)⟩, by decide +kernel⟩
abbrev tX1_parts : MT := (cX1_parts, 4, RX1, some .int, "parts")
theorem mwX1_parts : MW yX1_parts tX1_parts 0 := ⟨⟨(t2_ 124 rfl rfl), (t1_ 2 rfl rfl)⟩, by decide +kernel⟩
abbrev tX1_isTree : MT := (cX1_isTree, 1, RX1, some .boolean, "isTree")
theorem mwX1_isTree : MW yX1_isTree tX1_isTree 0 := ⟨⟨(t2_ 128 rfl rfl), (t1_ 2 rfl rfl)⟩, by decide +kernel⟩
abbrev tX6_look : MT := (cX6_look, 3, RX6, some .int, "look")
theorem mwX6_look : MW yX6_look tX6_look 2 := ⟨⟨(t2_ 134 rfl rfl), (t1_ 1 rfl rfl)⟩, by decide +kernel⟩
abbrev tX6_lookAtCave : MT := (cX6_lookAtCave, 3, RX6, some .int, "lookAtCave")
theorem mwX6_lookAtCave : MW yX6_lookAtCave tX6_lookAtCave 2 := ⟨⟨(t2_ 138 rfl rfl), (t1_ 1 rfl rfl)⟩, by decide +kernel⟩
abbrev tX2_placeOf : MT := (cX2_placeOf, 3, RX2, some .int, "placeOf")
theorem mwX2_placeOf : MW yX2_placeOf tX2_placeOf 1 := ⟨⟨(t2_ 142 rfl rfl), (t1_ 5 rfl rfl)⟩, by decide +kernel⟩
abbrev tX6_lookAtPassage : MT := (cX6_lookAtPassage, 3, RX6, some .int, "lookAtPassage")
theorem mwX6_lookAtPassage : MW yX6_lookAtPassage tX6_lookAtPassage 2 := ⟨⟨(t2_ 146 rfl rfl), (t1_ 1 rfl rfl)⟩, by decide +kernel⟩
abbrev tX3_passagesJustLost : MT := (cX3_passagesJustLost, 2, RX3, some .int, "passagesJustLost")
theorem mwX3_passagesJustLost : MW yX3_passagesJustLost tX3_passagesJustLost 0 := ⟨⟨(t2_ 150 rfl rfl), (t1_ 3 rfl rfl)⟩, by decide +kernel⟩
abbrev tX6_fewest : MT := (cX6_fewest, 3, RX6, some .int, "fewest")
theorem mwX6_fewest : MW yX6_fewest tX6_fewest 1 := ⟨⟨(t2_ 155 rfl rfl), (t1_ 1 rfl rfl)⟩, by decide +kernel⟩
abbrev tX6_canBeSolved : MT := (cX6_canBeSolved, 2, RX6, some .boolean, "canBeSolved")
theorem mwX6_canBeSolved : MW yX6_canBeSolved tX6_canBeSolved 1 := ⟨⟨(t2_ 159 rfl rfl), (t1_ 1 rfl rfl)⟩, by decide +kernel⟩
abbrev tX6_isLaw : MT := (cX6_isLaw, 1, RX6, some .boolean, "isLaw")
theorem mwX6_isLaw : MW yX6_isLaw tX6_isLaw 1 := ⟨⟨(t2_ 162 rfl rfl), (t1_ 1 rfl rfl)⟩, by decide +kernel⟩
abbrev tX0_finds : MT := (cX0_finds, 4, RX0, some .boolean, "finds")
theorem mwX0_finds : MW yX0_finds tX0_finds 2 := ⟨⟨(t2_ 166 rfl rfl), (t1_ 6 rfl rfl)⟩, by decide +kernel⟩
abbrev tX0_meet : MT := (cX0_meet, 10, RX0, none, "meet")
theorem mwX0_meet : MW yX0_meet tX0_meet 6 := ⟨⟨(t2_ 172 rfl rfl), (t1_ 6 rfl rfl)⟩, by decide +kernel⟩
abbrev tX1_hangsTogether : MT := (cX1_hangsTogether, 6, RX1, some .boolean, "hangsTogether")
theorem mwX1_hangsTogether : MW yX1_hangsTogether tX1_hangsTogether 2 := ⟨⟨(t2_ 176 rfl rfl), (t1_ 2 rfl rfl)⟩, by decide +kernel⟩
abbrev tX0_slotOf : MT := (cX0_slotOf, 5, RX0, some .int, "slotOf")
theorem mwX0_slotOf : MW yX0_slotOf tX0_slotOf 1 := ⟨⟨(t2_ 181 rfl rfl), (t1_ 6 rfl rfl)⟩, by decide +kernel⟩
abbrev tX5_packed : MT := (cX5_packed, 3, RX5, some .int, "packed")
theorem mwX5_packed : MW yX5_packed tX5_packed 3 := ⟨⟨(t2_ 185 rfl rfl), (t1_ 11 rfl rfl)⟩, by decide +kernel⟩
abbrev tX0_takeUp : MT := (cX0_takeUp, 5, RX0, none, "takeUp")
theorem mwX0_takeUp : MW yX0_takeUp tX0_takeUp 1 := ⟨⟨(t2_ 189 rfl rfl), (t1_ 6 rfl rfl)⟩, by decide +kernel⟩
abbrev tX0_tryPuts : MT := (cX0_tryPuts, 3, RX0, none, "tryPuts")
theorem mwX0_tryPuts : MW yX0_tryPuts tX0_tryPuts 0 := ⟨⟨(t2_ 193 rfl rfl), (t1_ 6 rfl rfl)⟩, by decide +kernel⟩
abbrev tX1_allows : MT := (cX1_allows, 5, RX1, some .boolean, "allows")
theorem mwX1_allows : MW yX1_allows tX1_allows 4 := ⟨⟨(t2_ 197 rfl rfl), (t1_ 2 rfl rfl)⟩, by decide +kernel⟩
abbrev tX0_one : MT := (cX0_one, 1, RX0, some .int, "one")
theorem mwX0_one : MW yX0_one tX0_one 1 := ⟨⟨(t2_ 200 rfl rfl), (t1_ 6 rfl rfl)⟩, by decide +kernel⟩
abbrev tX0_tryLifts : MT := (cX0_tryLifts, 3, RX0, none, "tryLifts")
theorem mwX0_tryLifts : MW yX0_tryLifts tX0_tryLifts 0 := ⟨⟨(t2_ 204 rfl rfl), (t1_ 6 rfl rfl)⟩, by decide +kernel⟩
abbrev tX0_guardedWithout : MT := (cX0_guardedWithout, 2, RX0, some .int, "guardedWithout")
theorem mwX0_guardedWithout : MW yX0_guardedWithout tX0_guardedWithout 1 := ⟨⟨(t2_ 208 rfl rfl), (t1_ 6 rfl rfl)⟩, by decide +kernel⟩
abbrev tX0_trySlides : MT := (cX0_trySlides, 2, RX0, none, "trySlides")
theorem mwX0_trySlides : MW yX0_trySlides tX0_trySlides 0 := ⟨⟨(t2_ 213 rfl rfl), (t1_ 6 rfl rfl)⟩, by decide +kernel⟩
abbrev tX0_trySlidesFrom : MT := (cX0_trySlidesFrom, 7, RX0, none, "trySlidesFrom")
theorem mwX0_trySlidesFrom : MW yX0_trySlidesFrom tX0_trySlidesFrom 1 := ⟨⟨(t2_ 217 rfl rfl), (t1_ 6 rfl rfl)⟩, by decide +kernel⟩
abbrev tX0_wayToGoal : MT := (cX0_wayToGoal, 5, RX0, some (.object "CaveParty$Way"), "wayToGoal")
theorem mwX0_wayToGoal : MW yX0_wayToGoal tX0_wayToGoal 0 := ⟨⟨(t2_ 222 rfl rfl), (t1_ 6 rfl rfl)⟩, by decide +kernel⟩
abbrev tX5_init : MT := (cX5_init, 2, RX5, none, "<init>")
theorem mwX5_init : MW yX5_init tX5_init 1 := ⟨⟨(t2_ 227 rfl rfl), (t1_ 11 rfl rfl)⟩, by decide +kernel⟩
abbrev tX5_put : MT := (cX5_put, 3, RX5, none, "put")
theorem mwX5_put : MW yX5_put tX5_put 2 := ⟨⟨(t2_ 237 rfl rfl), (t1_ 11 rfl rfl)⟩, by decide +kernel⟩
abbrev tX6_plan : MT := (cX6_plan, 3, RX6, some .int, "plan")
theorem mwX6_plan : MW yX6_plan tX6_plan 2 := ⟨⟨(t3_ 1 rfl rfl), (t1_ 1 rfl rfl)⟩, by decide +kernel⟩
abbrev tX5_length : MT := (cX5_length, 1, RX5, some .int, "length")
theorem mwX5_length : MW yX5_length tX5_length 0 := ⟨⟨(t3_ 5 rfl rfl), (t1_ 11 rfl rfl)⟩, by decide +kernel⟩
abbrev tX5_tell : MT := (cX5_tell, 3, RX5, some .int, "tell")
theorem mwX5_tell : MW yX5_tell tX5_tell 2 := ⟨⟨(t3_ 9 rfl rfl), (t1_ 11 rfl rfl)⟩, by decide +kernel⟩
abbrev tX6_witness : MT := (cX6_witness, 3, RX6, some .int, "witness")
theorem mwX6_witness : MW yX6_witness tX6_witness 2 := ⟨⟨(t3_ 13 rfl rfl), (t1_ 1 rfl rfl)⟩, by decide +kernel⟩
abbrev tX6_judge : MT := (cX6_judge, 2, RX6, some .int, "judge")
theorem mwX6_judge : MW yX6_judge tX6_judge 1 := ⟨⟨(t3_ 17 rfl rfl), (t1_ 1 rfl rfl)⟩, by decide +kernel⟩
abbrev tX6_isPlanBy : MT := (cX6_isPlanBy, 6, RX6, some .boolean, "isPlanBy")
theorem mwX6_isPlanBy : MW yX6_isPlanBy tX6_isPlanBy 1 := ⟨⟨(t3_ 21 rfl rfl), (t1_ 1 rfl rfl)⟩, by decide +kernel⟩
abbrev tX6_place : MT := (cX6_place, 3, RX6, some .boolean, "place")
theorem mwX6_place : MW yX6_place tX6_place 2 := ⟨⟨(t3_ 29 rfl rfl), (t1_ 1 rfl rfl)⟩, by decide +kernel⟩
abbrev tX2_swapIn : MT := (cX2_swapIn, 4, RX2, none, "swapIn")
theorem mwX2_swapIn : MW yX2_swapIn tX2_swapIn 2 := ⟨⟨(t3_ 33 rfl rfl), (t1_ 5 rfl rfl)⟩, by decide +kernel⟩
abbrev tX6_cut : MT := (cX6_cut, 2, RX6, some .int, "cut")
theorem mwX6_cut : MW yX6_cut tX6_cut 1 := ⟨⟨(t3_ 38 rfl rfl), (t1_ 1 rfl rfl)⟩, by decide +kernel⟩
abbrev tX2_greatestCut : MT := (cX2_greatestCut, 3, RX2, some .int, "greatestCut")
theorem mwX2_greatestCut : MW yX2_greatestCut tX2_greatestCut 0 := ⟨⟨(t3_ 42 rfl rfl), (t1_ 5 rfl rfl)⟩, by decide +kernel⟩
abbrev tX2_cutBehind : MT := (cX2_cutBehind, 4, RX2, some .int, "cutBehind")
theorem mwX2_cutBehind : MW yX2_cutBehind tX2_cutBehind 1 := ⟨⟨(t3_ 46 rfl rfl), (t1_ 5 rfl rfl)⟩, by decide +kernel⟩
abbrev tX1_cutBetween : MT := (cX1_cutBetween, 4, RX1, some .int, "cutBetween")
theorem mwX1_cutBetween : MW yX1_cutBetween tX1_cutBetween 1 := ⟨⟨(t3_ 50 rfl rfl), (t1_ 2 rfl rfl)⟩, by decide +kernel⟩
abbrev tX6_width : MT := (cX6_width, 1, RX6, some .int, "width")
theorem mwX6_width : MW yX6_width tX6_width 0 := ⟨⟨(t3_ 56 rfl rfl), (t1_ 1 rfl rfl)⟩, by decide +kernel⟩
abbrev tX2_becomeTheLeast : MT := (cX2_becomeTheLeast, 5, RX2, some .int, "becomeTheLeast")
theorem mwX2_becomeTheLeast : MW yX2_becomeTheLeast tX2_becomeTheLeast 0 := ⟨⟨(t3_ 60 rfl rfl), (t1_ 5 rfl rfl)⟩, by decide +kernel⟩
abbrev tX2_leastWorstBehind : MT := (cX2_leastWorstBehind, 4, RX2, some .int, "leastWorstBehind")
theorem mwX2_leastWorstBehind : MW yX2_leastWorstBehind tX2_leastWorstBehind 1 := ⟨⟨(t3_ 65 rfl rfl), (t1_ 5 rfl rfl)⟩, by decide +kernel⟩
abbrev tX2_firstWithin : MT := (cX2_firstWithin, 4, RX2, some .int, "firstWithin")
theorem mwX2_firstWithin : MW yX2_firstWithin tX2_firstWithin 2 := ⟨⟨(t3_ 70 rfl rfl), (t1_ 5 rfl rfl)⟩, by decide +kernel⟩
abbrev tX7_init : MT := (cX7_init, 1, RX7, none, "<init>")
theorem mwX7_init : MW yX7_init tX7_init 0 := ⟨⟨(t3_ 75 rfl rfl), (t1_ 7 rfl rfl)⟩, by decide +kernel⟩
abbrev tX7_caves : MT := (cX7_caves, 3, RX7, some .boolean, "caves")
theorem mwX7_caves : MW yX7_caves tX7_caves 1 := ⟨⟨(t3_ 159 rfl rfl), (t1_ 7 rfl rfl)⟩, by decide +kernel⟩
abbrev tX7_changes : MT := (cX7_changes, 1, RX7, none, "changes")
theorem mwX7_changes : MW yX7_changes tX7_changes 0 := ⟨⟨(t3_ 163 rfl rfl), (t1_ 7 rfl rfl)⟩, by decide +kernel⟩
abbrev tX7_anew : MT := (cX7_anew, 1, RX7, none, "anew")
theorem mwX7_anew : MW yX7_anew tX7_anew 0 := ⟨⟨(t3_ 167 rfl rfl), (t1_ 7 rfl rfl)⟩, by decide +kernel⟩
abbrev tX7_begins : MT := (cX7_begins, 2, RX7, none, "begins")
theorem mwX7_begins : MW yX7_begins tX7_begins 0 := ⟨⟨(t3_ 171 rfl rfl), (t1_ 7 rfl rfl)⟩, by decide +kernel⟩
abbrev tX7_keeps : MT := (cX7_keeps, 2, RX7, none, "keeps")
theorem mwX7_keeps : MW yX7_keeps tX7_keeps 0 := ⟨⟨(t3_ 175 rfl rfl), (t1_ 7 rfl rfl)⟩, by decide +kernel⟩
abbrev tX7_passage : MT := (cX7_passage, 4, RX7, some .int, "passage")
theorem mwX7_passage : MW yX7_passage tX7_passage 2 := ⟨⟨(t3_ 179 rfl rfl), (t1_ 7 rfl rfl)⟩, by decide +kernel⟩
abbrev tX7_isCave : MT := (cX7_isCave, 2, RX7, some .boolean, "isCave")
theorem mwX7_isCave : MW yX7_isCave tX7_isCave 1 := ⟨⟨(t3_ 183 rfl rfl), (t1_ 7 rfl rfl)⟩, by decide +kernel⟩
abbrev tX7_drop : MT := (cX7_drop, 2, RX7, some .boolean, "drop")
theorem mwX7_drop : MW yX7_drop tX7_drop 1 := ⟨⟨(t3_ 187 rfl rfl), (t1_ 7 rfl rfl)⟩, by decide +kernel⟩
abbrev tX7_isPassage : MT := (cX7_isPassage, 2, RX7, some .boolean, "isPassage")
theorem mwX7_isPassage : MW yX7_isPassage tX7_isPassage 1 := ⟨⟨(t3_ 191 rfl rfl), (t1_ 7 rfl rfl)⟩, by decide +kernel⟩
abbrev tX7_mouth : MT := (cX7_mouth, 2, RX7, some .boolean, "mouth")
theorem mwX7_mouth : MW yX7_mouth tX7_mouth 1 := ⟨⟨(t3_ 195 rfl rfl), (t1_ 7 rfl rfl)⟩, by decide +kernel⟩
abbrev tX7_order : MT := (cX7_order, 5, RX7, some .int, "order")
theorem mwX7_order : MW yX7_order tX7_order 3 := ⟨⟨(t3_ 200 rfl rfl), (t1_ 7 rfl rfl)⟩, by decide +kernel⟩
abbrev tX7_isAt : MT := (cX7_isAt, 3, RX7, some .boolean, "isAt")
theorem mwX7_isAt : MW yX7_isAt tX7_isAt 2 := ⟨⟨(t3_ 204 rfl rfl), (t1_ 7 rfl rfl)⟩, by decide +kernel⟩
abbrev tX7_comes : MT := (cX7_comes, 3, RX7, none, "comes")
theorem mwX7_comes : MW yX7_comes tX7_comes 1 := ⟨⟨(t3_ 208 rfl rfl), (t1_ 7 rfl rfl)⟩, by decide +kernel⟩
abbrev tX7_below : MT := (cX7_below, 3, RX7, some .int, "below")
theorem mwX7_below : MW yX7_below tX7_below 0 := ⟨⟨(t3_ 212 rfl rfl), (t1_ 7 rfl rfl)⟩, by decide +kernel⟩
abbrev tX7_does : MT := (cX7_does, 4, RX7, none, "does")
theorem mwX7_does : MW yX7_does tX7_does 3 := ⟨⟨(t3_ 216 rfl rfl), (t1_ 7 rfl rfl)⟩, by decide +kernel⟩
abbrev tX7_other : MT := (cX7_other, 3, RX7, some .int, "other")
theorem mwX7_other : MW yX7_other tX7_other 2 := ⟨⟨(t3_ 220 rfl rfl), (t1_ 7 rfl rfl)⟩, by decide +kernel⟩
abbrev tX7_settles : MT := (cX7_settles, 3, RX7, none, "settles")
theorem mwX7_settles : MW yX7_settles tX7_settles 1 := ⟨⟨(t3_ 224 rfl rfl), (t1_ 7 rfl rfl)⟩, by decide +kernel⟩
abbrev tX7_spreads : MT := (cX7_spreads, 6, RX7, none, "spreads")
theorem mwX7_spreads : MW yX7_spreads tX7_spreads 0 := ⟨⟨(t3_ 228 rfl rfl), (t1_ 7 rfl rfl)⟩, by decide +kernel⟩
abbrev tX7_undo : MT := (cX7_undo, 1, RX7, some .boolean, "undo")
theorem mwX7_undo : MW yX7_undo tX7_undo 0 := ⟨⟨(t3_ 232 rfl rfl), (t1_ 7 rfl rfl)⟩, by decide +kernel⟩
abbrev tX7_count : MT := (cX7_count, 2, RX7, some .int, "count")
theorem mwX7_count : MW yX7_count tX7_count 1 := ⟨⟨(t3_ 236 rfl rfl), (t1_ 7 rfl rfl)⟩, by decide +kernel⟩
abbrev tX7_party : MT := (cX7_party, 3, RX7, some .int, "party")
theorem mwX7_party : MW yX7_party tX7_party 0 := ⟨⟨(t4_ 0 rfl rfl), (t1_ 7 rfl rfl)⟩, by decide +kernel⟩
abbrev tX7_bits : MT := (cX7_bits, 3, RX7, some .int, "bits")
theorem mwX7_bits : MW yX7_bits tX7_bits 1 := ⟨⟨(t4_ 3 rfl rfl), (t1_ 7 rfl rfl)⟩, by decide +kernel⟩
abbrev tX7_passages : MT := (cX7_passages, 3, RX7, some .int, "passages")
theorem mwX7_passages : MW yX7_passages tX7_passages 0 := ⟨⟨(t4_ 7 rfl rfl), (t1_ 7 rfl rfl)⟩, by decide +kernel⟩
abbrev tX7_pieces : MT := (cX7_pieces, 4, RX7, some .int, "pieces")
theorem mwX7_pieces : MW yX7_pieces tX7_pieces 0 := ⟨⟨(t4_ 11 rfl rfl), (t1_ 7 rfl rfl)⟩, by decide +kernel⟩
abbrev tX7_reached : MT := (cX7_reached, 7, RX7, some .int, "reached")
theorem mwX7_reached : MW yX7_reached tX7_reached 2 := ⟨⟨(t4_ 15 rfl rfl), (t1_ 7 rfl rfl)⟩, by decide +kernel⟩
abbrev tX7_look : MT := (cX7_look, 3, RX7, some .int, "look")
theorem mwX7_look : MW yX7_look tX7_look 2 := ⟨⟨(t4_ 19 rfl rfl), (t1_ 7 rfl rfl)⟩, by decide +kernel⟩
abbrev tX7_degree : MT := (cX7_degree, 4, RX7, some .int, "degree")
theorem mwX7_degree : MW yX7_degree tX7_degree 1 := ⟨⟨(t4_ 23 rfl rfl), (t1_ 7 rfl rfl)⟩, by decide +kernel⟩
abbrev tX7_placeOf : MT := (cX7_placeOf, 3, RX7, some .int, "placeOf")
theorem mwX7_placeOf : MW yX7_placeOf tX7_placeOf 1 := ⟨⟨(t4_ 27 rfl rfl), (t1_ 7 rfl rfl)⟩, by decide +kernel⟩
abbrev tX7_fewest : MT := (cX7_fewest, 6, RX7, some .int, "fewest")
theorem mwX7_fewest : MW yX7_fewest tX7_fewest 1 := ⟨⟨(t4_ 31 rfl rfl), (t1_ 7 rfl rfl)⟩, by decide +kernel⟩
abbrev tX7_isSmall : MT := (cX7_isSmall, 2, RX7, some .boolean, "isSmall")
theorem mwX7_isSmall : MW yX7_isSmall tX7_isSmall 1 := ⟨⟨(t4_ 35 rfl rfl), (t1_ 7 rfl rfl)⟩, by decide +kernel⟩
abbrev tX7_finds : MT := (cX7_finds, 7, RX7, some .int, "finds")
theorem mwX7_finds : MW yX7_finds tX7_finds 2 := ⟨⟨(t4_ 39 rfl rfl), (t1_ 7 rfl rfl)⟩, by decide +kernel⟩
abbrev tX7_meets : MT := (cX7_meets, 6, RX7, some .boolean, "meets")
theorem mwX7_meets : MW yX7_meets tX7_meets 3 := ⟨⟨(t4_ 43 rfl rfl), (t1_ 7 rfl rfl)⟩, by decide +kernel⟩
abbrev tX7_number : MT := (cX7_number, 5, RX7, some .int, "number")
theorem mwX7_number : MW yX7_number tX7_number 1 := ⟨⟨(t4_ 47 rfl rfl), (t1_ 7 rfl rfl)⟩, by decide +kernel⟩
abbrev tX7_shows : MT := (cX7_shows, 5, RX7, none, "shows")
theorem mwX7_shows : MW yX7_shows tX7_shows 2 := ⟨⟨(t4_ 53 rfl rfl), (t1_ 7 rfl rfl)⟩, by decide +kernel⟩
abbrev tX7_may : MT := (cX7_may, 5, RX7, some .boolean, "may")
theorem mwX7_may : MW yX7_may tX7_may 4 := ⟨⟨(t4_ 57 rfl rfl), (t1_ 7 rfl rfl)⟩, by decide +kernel⟩
abbrev tX7_hangs : MT := (cX7_hangs, 6, RX7, some .boolean, "hangs")
theorem mwX7_hangs : MW yX7_hangs tX7_hangs 1 := ⟨⟨(t4_ 61 rfl rfl), (t1_ 7 rfl rfl)⟩, by decide +kernel⟩
abbrev tX7_isSearched : MT := (cX7_isSearched, 1, RX7, some .boolean, "isSearched")
theorem mwX7_isSearched : MW yX7_isSearched tX7_isSearched 0 := ⟨⟨(t4_ 65 rfl rfl), (t1_ 7 rfl rfl)⟩, by decide +kernel⟩
abbrev tX7_plan : MT := (cX7_plan, 3, RX7, some .int, "plan")
theorem mwX7_plan : MW yX7_plan tX7_plan 2 := ⟨⟨(t4_ 69 rfl rfl), (t1_ 7 rfl rfl)⟩, by decide +kernel⟩
abbrev tX7_witness : MT := (cX7_witness, 3, RX7, some .int, "witness")
theorem mwX7_witness : MW yX7_witness tX7_witness 2 := ⟨⟨(t4_ 73 rfl rfl), (t1_ 7 rfl rfl)⟩, by decide +kernel⟩
abbrev tX7_judge : MT := (cX7_judge, 5, RX7, some .int, "judge")
theorem mwX7_judge : MW yX7_judge tX7_judge 1 := ⟨⟨(t4_ 77 rfl rfl), (t1_ 7 rfl rfl)⟩, by decide +kernel⟩
abbrev tX7_place : MT := (cX7_place, 4, RX7, some .boolean, "place")
theorem mwX7_place : MW yX7_place tX7_place 2 := ⟨⟨(t4_ 81 rfl rfl), (t1_ 7 rfl rfl)⟩, by decide +kernel⟩
abbrev tX7_cut : MT := (cX7_cut, 4, RX7, some .int, "cut")
theorem mwX7_cut : MW yX7_cut tX7_cut 1 := ⟨⟨(t4_ 85 rfl rfl), (t1_ 7 rfl rfl)⟩, by decide +kernel⟩
abbrev tX7_cutBehind : MT := (cX7_cutBehind, 4, RX7, some .int, "cutBehind")
theorem mwX7_cutBehind : MW yX7_cutBehind tX7_cutBehind 1 := ⟨⟨(t4_ 89 rfl rfl), (t1_ 7 rfl rfl)⟩, by decide +kernel⟩
abbrev tX7_cutOf : MT := (cX7_cutOf, 6, RX7, some .int, "cutOf")
theorem mwX7_cutOf : MW yX7_cutOf tX7_cutOf 1 := ⟨⟨(t4_ 93 rfl rfl), (t1_ 7 rfl rfl)⟩, by decide +kernel⟩
abbrev tX7_width : MT := (cX7_width, 6, RX7, some .int, "width")
theorem mwX7_width : MW yX7_width tX7_width 0 := ⟨⟨(t4_ 97 rfl rfl), (t1_ 7 rfl rfl)⟩, by decide +kernel⟩
abbrev tX7_worst : MT := (cX7_worst, 3, RX7, some .int, "worst")
theorem mwX7_worst : MW yX7_worst tX7_worst 1 := ⟨⟨(t4_ 101 rfl rfl), (t1_ 7 rfl rfl)⟩, by decide +kernel⟩
theorem nwL_7 : NW RL 7 6 6 [.null, .null, .null, .null, .null, .null] := ⟨RX6, TX6, tyX6, rfl, inX6, tyX6_ok, (t1_ 12 rfl rfl), (t1_ 13 rfl rfl), (t1_ 1 rfl rfl), fun j hj => by
  match j, hj with
  | 0, _ => rfl
  | 1, _ => rfl
  | 2, _ => rfl
  | 3, _ => rfl
  | 4, _ => rfl
  | 5, _ => rfl
  | j + 6, h => exact absurd h (by omega)⟩
theorem ciL_9 : CI RL 9 yX6_init tX6_init 0 := ⟨mwX6_init, (Or.inl (t1_ 14 rfl rfl)), rfl, (t1_ 15 rfl rfl), rfl⟩
theorem coX6_1 : Jvm.Cond.methodLink RX6 1 objectInit ∈ tb_ := (t1_ 17 rfl rfl)
theorem nwX6_7 : NW RX6 7 1 7 [.int 0, .int 0, .int 0, .null, .null, .null, .null] := ⟨RX1, TX1, tyX1, rfl, inX1, tyX1_ok, (t1_ 20 rfl rfl), (t1_ 21 rfl rfl), (t1_ 2 rfl rfl), fun j hj => by
  match j, hj with
  | 0, _ => rfl
  | 1, _ => rfl
  | 2, _ => rfl
  | 3, _ => rfl
  | 4, _ => rfl
  | 5, _ => rfl
  | 6, _ => rfl
  | j + 7, h => exact absurd h (by omega)⟩
theorem ciX6_9 : CI RX6 9 yX1_init tX1_init 0 := ⟨mwX1_init, (Or.inr ⟨_, (t1_ 22 rfl rfl)⟩), rfl, (t1_ 23 rfl rfl), rfl⟩
theorem coX1_3 : Jvm.Cond.methodLink RX1 3 objectInit ∈ tb_ := (t1_ 25 rfl rfl)
theorem foX1_24 : FO RX1 24 1 0 := ⟨RX1, TX1, 7, rfl, by decide, inX1, (Or.inl (t1_ 26 rfl rfl))⟩
theorem fpX1_24 (nm : String) : FP RX1 nm 24 1 0 (.int) := ⟨RX1, TX1, 7, tyX1, rfl, by decide, inX1, tyX1_ok, nmX1, by decide +kernel, Or.inl ⟨rfl, (Or.inl (t1_ 26 rfl rfl))⟩⟩
theorem foX2_22 : FO RX2 22 1 0 := ⟨RX1, TX1, 7, rfl, by decide, inX1, (Or.inr ⟨_, (t1_ 27 rfl rfl)⟩)⟩
theorem fpX2_22 (nm : String) : FP RX2 nm 22 1 0 (.int) := ⟨RX1, TX1, 7, tyX1, rfl, by decide, inX1, tyX1_ok, nmX1, by decide +kernel, Or.inl ⟨rfl, (Or.inr ⟨_, (t1_ 27 rfl rfl)⟩)⟩⟩
theorem foX0_97 : FO RX0 97 1 0 := ⟨RX1, TX1, 7, rfl, by decide, inX1, (Or.inr ⟨_, (t1_ 28 rfl rfl)⟩)⟩
theorem fpX0_97 (nm : String) : FP RX0 nm 97 1 0 (.int) := ⟨RX1, TX1, 7, tyX1, rfl, by decide, inX1, tyX1_ok, nmX1, by decide +kernel, Or.inl ⟨rfl, (Or.inr ⟨_, (t1_ 28 rfl rfl)⟩)⟩⟩
theorem foX6_121 : FO RX6 121 1 0 := ⟨RX1, TX1, 7, rfl, by decide, inX1, (Or.inr ⟨_, (t1_ 29 rfl rfl)⟩)⟩
theorem fpX6_121 (nm : String) : FP RX6 nm 121 1 0 (.int) := ⟨RX1, TX1, 7, tyX1, rfl, by decide, inX1, tyX1_ok, nmX1, by decide +kernel, Or.inl ⟨rfl, (Or.inr ⟨_, (t1_ 29 rfl rfl)⟩)⟩⟩
theorem foX1_28 : FO RX1 28 1 1 := ⟨RX1, TX1, 7, rfl, by decide, inX1, (Or.inl (t1_ 30 rfl rfl))⟩
theorem fpX1_28 (nm : String) : FP RX1 nm 28 1 1 (.int) := ⟨RX1, TX1, 7, tyX1, rfl, by decide, inX1, tyX1_ok, nmX1, by decide +kernel, Or.inl ⟨rfl, (Or.inl (t1_ 30 rfl rfl))⟩⟩
theorem foX6_124 : FO RX6 124 1 1 := ⟨RX1, TX1, 7, rfl, by decide, inX1, (Or.inr ⟨_, (t1_ 31 rfl rfl)⟩)⟩
theorem fpX6_124 (nm : String) : FP RX6 nm 124 1 1 (.int) := ⟨RX1, TX1, 7, tyX1, rfl, by decide, inX1, tyX1_ok, nmX1, by decide +kernel, Or.inl ⟨rfl, (Or.inr ⟨_, (t1_ 31 rfl rfl)⟩)⟩⟩
theorem foX1_31 : FO RX1 31 1 2 := ⟨RX1, TX1, 7, rfl, by decide, inX1, (Or.inl (t1_ 32 rfl rfl))⟩
theorem fpX1_31 (nm : String) : FP RX1 nm 31 1 2 (.int) := ⟨RX1, TX1, 7, tyX1, rfl, by decide, inX1, tyX1_ok, nmX1, by decide +kernel, Or.inl ⟨rfl, (Or.inl (t1_ 32 rfl rfl))⟩⟩
theorem foX6_78 : FO RX6 78 1 2 := ⟨RX1, TX1, 7, rfl, by decide, inX1, (Or.inr ⟨_, (t1_ 33 rfl rfl)⟩)⟩
theorem fpX6_78 (nm : String) : FP RX6 nm 78 1 2 (.int) := ⟨RX1, TX1, 7, tyX1, rfl, by decide, inX1, tyX1_ok, nmX1, by decide +kernel, Or.inl ⟨rfl, (Or.inr ⟨_, (t1_ 33 rfl rfl)⟩)⟩⟩
theorem foX1_9 : FO RX1 9 1 3 := ⟨RX1, TX1, 7, rfl, by decide, inX1, (Or.inl (t1_ 34 rfl rfl))⟩
theorem fpX1_9 : FP RX1 "<init>" 9 1 3 (.array .int) := ⟨RX1, TX1, 7, tyX1, rfl, by decide, inX1, tyX1_ok, nmX1, by decide +kernel, Or.inr ⟨rfl, rfl, rfl, (t1_ 34 rfl rfl)⟩⟩
theorem foX6_190 : FO RX6 190 1 3 := ⟨RX1, TX1, 7, rfl, by decide, inX1, (Or.inr ⟨_, (t1_ 35 rfl rfl)⟩)⟩
theorem foX1_15 : FO RX1 15 1 4 := ⟨RX1, TX1, 7, rfl, by decide, inX1, (Or.inl (t1_ 36 rfl rfl))⟩
theorem fpX1_15 : FP RX1 "<init>" 15 1 4 (.array .int) := ⟨RX1, TX1, 7, tyX1, rfl, by decide, inX1, tyX1_ok, nmX1, by decide +kernel, Or.inr ⟨rfl, rfl, rfl, (t1_ 36 rfl rfl)⟩⟩
theorem foX6_193 : FO RX6 193 1 4 := ⟨RX1, TX1, 7, rfl, by decide, inX1, (Or.inr ⟨_, (t1_ 37 rfl rfl)⟩)⟩
theorem foX1_18 : FO RX1 18 1 5 := ⟨RX1, TX1, 7, rfl, by decide, inX1, (Or.inl (t1_ 38 rfl rfl))⟩
theorem fpX1_18 : FP RX1 "<init>" 18 1 5 (.array .int) := ⟨RX1, TX1, 7, tyX1, rfl, by decide, inX1, tyX1_ok, nmX1, by decide +kernel, Or.inr ⟨rfl, rfl, rfl, (t1_ 38 rfl rfl)⟩⟩
theorem foX0_118 : FO RX0 118 1 5 := ⟨RX1, TX1, 7, rfl, by decide, inX1, (Or.inr ⟨_, (t1_ 39 rfl rfl)⟩)⟩
theorem foX6_184 : FO RX6 184 1 5 := ⟨RX1, TX1, 7, rfl, by decide, inX1, (Or.inr ⟨_, (t1_ 40 rfl rfl)⟩)⟩
theorem foX1_21 : FO RX1 21 1 6 := ⟨RX1, TX1, 7, rfl, by decide, inX1, (Or.inl (t1_ 41 rfl rfl))⟩
theorem fpX1_21 : FP RX1 "<init>" 21 1 6 (.array .int) := ⟨RX1, TX1, 7, tyX1, rfl, by decide, inX1, tyX1_ok, nmX1, by decide +kernel, Or.inr ⟨rfl, rfl, rfl, (t1_ 41 rfl rfl)⟩⟩
theorem nwX6_16 : NW RX6 16 3 9 [.null, .null, .int 0, .int 0, .null, .null, .null, .null, .null] := ⟨RX3, TX3, tyX3, rfl, inX3, tyX3_ok, (t1_ 58 rfl rfl), (t1_ 59 rfl rfl), (t1_ 3 rfl rfl), fun j hj => by
  match j, hj with
  | 0, _ => rfl
  | 1, _ => rfl
  | 2, _ => rfl
  | 3, _ => rfl
  | 4, _ => rfl
  | 5, _ => rfl
  | 6, _ => rfl
  | 7, _ => rfl
  | 8, _ => rfl
  | j + 9, h => exact absurd h (by omega)⟩
theorem ciX6_18 : CI RX6 18 yX3_init tX3_init 1 := ⟨mwX3_init, (Or.inl (t1_ 60 rfl rfl)), rfl, (t1_ 61 rfl rfl), rfl⟩
theorem coX3_3 : Jvm.Cond.methodLink RX3 3 objectInit ∈ tb_ := (t1_ 63 rfl rfl)
theorem nwX3_9 : NW RX3 9 4 4 [.null, .int 0, .int 0, .int 0] := ⟨RX4, TX4, tyX4, rfl, inX4, tyX4_ok, (t1_ 64 rfl rfl), (t1_ 65 rfl rfl), (t1_ 4 rfl rfl), fun j hj => by
  match j, hj with
  | 0, _ => rfl
  | 1, _ => rfl
  | 2, _ => rfl
  | 3, _ => rfl
  | j + 4, h => exact absurd h (by omega)⟩
theorem ciX3_11 : CI RX3 11 yX4_init tX4_init 0 := ⟨mwX4_init, (Or.inr ⟨_, (t1_ 66 rfl rfl)⟩), rfl, (t1_ 67 rfl rfl), rfl⟩
theorem coX4_3 : Jvm.Cond.methodLink RX4 3 objectInit ∈ tb_ := (t1_ 69 rfl rfl)
theorem foX4_9 : FO RX4 9 4 0 := ⟨RX4, TX4, 4, rfl, by decide, inX4, (Or.inl (t1_ 70 rfl rfl))⟩
theorem fpX4_9 : FP RX4 "<init>" 9 4 0 (.array .int) := ⟨RX4, TX4, 4, tyX4, rfl, by decide, inX4, tyX4_ok, nmX4, by decide +kernel, Or.inr ⟨rfl, rfl, rfl, (t1_ 70 rfl rfl)⟩⟩
theorem foX3_73 : FO RX3 73 4 0 := ⟨RX4, TX4, 4, rfl, by decide, inX4, (Or.inr ⟨_, (t1_ 71 rfl rfl)⟩)⟩
theorem foX6_180 : FO RX6 180 4 0 := ⟨RX4, TX4, 4, rfl, by decide, inX4, (Or.inr ⟨_, (t1_ 72 rfl rfl)⟩)⟩
theorem foX4_21 : FO RX4 21 4 1 := ⟨RX4, TX4, 4, rfl, by decide, inX4, (Or.inl (t1_ 73 rfl rfl))⟩
theorem fpX4_21 (nm : String) : FP RX4 nm 21 4 1 (.int) := ⟨RX4, TX4, 4, tyX4, rfl, by decide, inX4, tyX4_ok, nmX4, by decide +kernel, Or.inl ⟨rfl, (Or.inl (t1_ 73 rfl rfl))⟩⟩
theorem foX3_64 : FO RX3 64 4 1 := ⟨RX4, TX4, 4, rfl, by decide, inX4, (Or.inr ⟨_, (t1_ 74 rfl rfl)⟩)⟩
theorem fpX3_64 (nm : String) : FP RX3 nm 64 4 1 (.int) := ⟨RX4, TX4, 4, tyX4, rfl, by decide, inX4, tyX4_ok, nmX4, by decide +kernel, Or.inl ⟨rfl, (Or.inr ⟨_, (t1_ 74 rfl rfl)⟩)⟩⟩
theorem foX6_103 : FO RX6 103 4 1 := ⟨RX4, TX4, 4, rfl, by decide, inX4, (Or.inr ⟨_, (t1_ 75 rfl rfl)⟩)⟩
theorem fpX6_103 (nm : String) : FP RX6 nm 103 4 1 (.int) := ⟨RX4, TX4, 4, tyX4, rfl, by decide, inX4, tyX4_ok, nmX4, by decide +kernel, Or.inl ⟨rfl, (Or.inr ⟨_, (t1_ 75 rfl rfl)⟩)⟩⟩
theorem foX4_25 : FO RX4 25 4 2 := ⟨RX4, TX4, 4, rfl, by decide, inX4, (Or.inl (t1_ 76 rfl rfl))⟩
theorem fpX4_25 (nm : String) : FP RX4 nm 25 4 2 (.int) := ⟨RX4, TX4, 4, tyX4, rfl, by decide, inX4, tyX4_ok, nmX4, by decide +kernel, Or.inl ⟨rfl, (Or.inl (t1_ 76 rfl rfl))⟩⟩
theorem foX6_218 : FO RX6 218 4 2 := ⟨RX4, TX4, 4, rfl, by decide, inX4, (Or.inr ⟨_, (t1_ 77 rfl rfl)⟩)⟩
theorem fpX6_218 (nm : String) : FP RX6 nm 218 4 2 (.int) := ⟨RX4, TX4, 4, tyX4, rfl, by decide, inX4, tyX4_ok, nmX4, by decide +kernel, Or.inl ⟨rfl, (Or.inr ⟨_, (t1_ 77 rfl rfl)⟩)⟩⟩
theorem foX4_34 : FO RX4 34 4 3 := ⟨RX4, TX4, 4, rfl, by decide, inX4, (Or.inl (t1_ 78 rfl rfl))⟩
theorem fpX4_34 (nm : String) : FP RX4 nm 34 4 3 (.int) := ⟨RX4, TX4, 4, tyX4, rfl, by decide, inX4, tyX4_ok, nmX4, by decide +kernel, Or.inl ⟨rfl, (Or.inl (t1_ 78 rfl rfl))⟩⟩
theorem foX3_53 : FO RX3 53 4 3 := ⟨RX4, TX4, 4, rfl, by decide, inX4, (Or.inr ⟨_, (t1_ 79 rfl rfl)⟩)⟩
theorem fpX3_53 (nm : String) : FP RX3 nm 53 4 3 (.int) := ⟨RX4, TX4, 4, tyX4, rfl, by decide, inX4, tyX4_ok, nmX4, by decide +kernel, Or.inl ⟨rfl, (Or.inr ⟨_, (t1_ 79 rfl rfl)⟩)⟩⟩
theorem foX6_109 : FO RX6 109 4 3 := ⟨RX4, TX4, 4, rfl, by decide, inX4, (Or.inr ⟨_, (t1_ 80 rfl rfl)⟩)⟩
theorem fpX6_109 (nm : String) : FP RX6 nm 109 4 3 (.int) := ⟨RX4, TX4, 4, tyX4, rfl, by decide, inX4, tyX4_ok, nmX4, by decide +kernel, Or.inl ⟨rfl, (Or.inr ⟨_, (t1_ 80 rfl rfl)⟩)⟩⟩
theorem foX3_34 : FO RX3 34 3 0 := ⟨RX3, TX3, 9, rfl, by decide, inX3, (Or.inl (t1_ 90 rfl rfl))⟩
theorem fpX3_34 : FP RX3 "<init>" 34 3 0 (.object "CaveParty$Ground") := ⟨RX3, TX3, 9, tyX3, rfl, by decide, inX3, tyX3_ok, nmX3, by decide +kernel, Or.inr ⟨rfl, rfl, rfl, (t1_ 90 rfl rfl)⟩⟩
theorem foX3_12 : FO RX3 12 3 1 := ⟨RX3, TX3, 9, rfl, by decide, inX3, (Or.inl (t1_ 91 rfl rfl))⟩
theorem fpX3_12 : FP RX3 "<init>" 12 3 1 (.object "CaveParty$Stand") := ⟨RX3, TX3, 9, tyX3, rfl, by decide, inX3, tyX3_ok, nmX3, by decide +kernel, Or.inr ⟨rfl, rfl, rfl, (t1_ 91 rfl rfl)⟩⟩
theorem foX6_100 : FO RX6 100 3 1 := ⟨RX3, TX3, 9, rfl, by decide, inX3, (Or.inr ⟨_, (t1_ 92 rfl rfl)⟩)⟩
theorem foX3_42 : FO RX3 42 3 2 := ⟨RX3, TX3, 9, rfl, by decide, inX3, (Or.inl (t1_ 93 rfl rfl))⟩
theorem fpX3_42 (nm : String) : FP RX3 nm 42 3 2 (.int) := ⟨RX3, TX3, 9, tyX3, rfl, by decide, inX3, tyX3_ok, nmX3, by decide +kernel, Or.inl ⟨rfl, (Or.inl (t1_ 93 rfl rfl))⟩⟩
theorem foX6_86 : FO RX6 86 3 2 := ⟨RX3, TX3, 9, rfl, by decide, inX3, (Or.inr ⟨_, (t1_ 94 rfl rfl)⟩)⟩
theorem fpX6_86 (nm : String) : FP RX6 nm 86 3 2 (.int) := ⟨RX3, TX3, 9, tyX3, rfl, by decide, inX3, tyX3_ok, nmX3, by decide +kernel, Or.inl ⟨rfl, (Or.inr ⟨_, (t1_ 94 rfl rfl)⟩)⟩⟩
theorem foX3_46 : FO RX3 46 3 3 := ⟨RX3, TX3, 9, rfl, by decide, inX3, (Or.inl (t1_ 95 rfl rfl))⟩
theorem fpX3_46 (nm : String) : FP RX3 nm 46 3 3 (.int) := ⟨RX3, TX3, 9, tyX3, rfl, by decide, inX3, tyX3_ok, nmX3, by decide +kernel, Or.inl ⟨rfl, (Or.inl (t1_ 95 rfl rfl))⟩⟩
theorem foX6_106 : FO RX6 106 3 3 := ⟨RX3, TX3, 9, rfl, by decide, inX3, (Or.inr ⟨_, (t1_ 96 rfl rfl)⟩)⟩
theorem fpX6_106 (nm : String) : FP RX6 nm 106 3 3 (.int) := ⟨RX3, TX3, 9, tyX3, rfl, by decide, inX3, tyX3_ok, nmX3, by decide +kernel, Or.inl ⟨rfl, (Or.inr ⟨_, (t1_ 96 rfl rfl)⟩)⟩⟩
theorem foX3_18 : FO RX3 18 3 4 := ⟨RX3, TX3, 9, rfl, by decide, inX3, (Or.inl (t1_ 97 rfl rfl))⟩
theorem fpX3_18 : FP RX3 "<init>" 18 3 4 (.array .int) := ⟨RX3, TX3, 9, tyX3, rfl, by decide, inX3, tyX3_ok, nmX3, by decide +kernel, Or.inr ⟨rfl, rfl, rfl, (t1_ 97 rfl rfl)⟩⟩
theorem foX6_201 : FO RX6 201 3 4 := ⟨RX3, TX3, 9, rfl, by decide, inX3, (Or.inr ⟨_, (t1_ 98 rfl rfl)⟩)⟩
theorem foX3_22 : FO RX3 22 3 5 := ⟨RX3, TX3, 9, rfl, by decide, inX3, (Or.inl (t1_ 99 rfl rfl))⟩
theorem fpX3_22 : FP RX3 "<init>" 22 3 5 (.array .int) := ⟨RX3, TX3, 9, tyX3, rfl, by decide, inX3, tyX3_ok, nmX3, by decide +kernel, Or.inr ⟨rfl, rfl, rfl, (t1_ 99 rfl rfl)⟩⟩
theorem foX6_204 : FO RX6 204 3 5 := ⟨RX3, TX3, 9, rfl, by decide, inX3, (Or.inr ⟨_, (t1_ 100 rfl rfl)⟩)⟩
theorem foX3_25 : FO RX3 25 3 6 := ⟨RX3, TX3, 9, rfl, by decide, inX3, (Or.inl (t1_ 101 rfl rfl))⟩
theorem fpX3_25 : FP RX3 "<init>" 25 3 6 (.array .int) := ⟨RX3, TX3, 9, tyX3, rfl, by decide, inX3, tyX3_ok, nmX3, by decide +kernel, Or.inr ⟨rfl, rfl, rfl, (t1_ 101 rfl rfl)⟩⟩
theorem foX6_211 : FO RX6 211 3 6 := ⟨RX3, TX3, 9, rfl, by decide, inX3, (Or.inr ⟨_, (t1_ 102 rfl rfl)⟩)⟩
theorem foX3_28 : FO RX3 28 3 7 := ⟨RX3, TX3, 9, rfl, by decide, inX3, (Or.inl (t1_ 103 rfl rfl))⟩
theorem fpX3_28 : FP RX3 "<init>" 28 3 7 (.array .int) := ⟨RX3, TX3, 9, tyX3, rfl, by decide, inX3, tyX3_ok, nmX3, by decide +kernel, Or.inr ⟨rfl, rfl, rfl, (t1_ 103 rfl rfl)⟩⟩
theorem foX3_31 : FO RX3 31 3 8 := ⟨RX3, TX3, 9, rfl, by decide, inX3, (Or.inl (t1_ 104 rfl rfl))⟩
theorem fpX3_31 : FP RX3 "<init>" 31 3 8 (.array .int) := ⟨RX3, TX3, 9, tyX3, rfl, by decide, inX3, tyX3_ok, nmX3, by decide +kernel, Or.inr ⟨rfl, rfl, rfl, (t1_ 104 rfl rfl)⟩⟩
theorem nwX6_25 : NW RX6 25 2 3 [.null, .null, .null] := ⟨RX2, TX2, tyX2, rfl, inX2, tyX2_ok, (t1_ 124 rfl rfl), (t1_ 125 rfl rfl), (t1_ 5 rfl rfl), fun j hj => by
  match j, hj with
  | 0, _ => rfl
  | 1, _ => rfl
  | 2, _ => rfl
  | j + 3, h => exact absurd h (by omega)⟩
theorem ciX6_27 : CI RX6 27 yX2_init tX2_init 1 := ⟨mwX2_init, (Or.inl (t1_ 126 rfl rfl)), rfl, (t1_ 127 rfl rfl), rfl⟩
theorem coX2_3 : Jvm.Cond.methodLink RX2 3 objectInit ∈ tb_ := (t1_ 129 rfl rfl)
theorem foX2_18 : FO RX2 18 2 0 := ⟨RX2, TX2, 3, rfl, by decide, inX2, (Or.inl (t1_ 130 rfl rfl))⟩
theorem fpX2_18 : FP RX2 "<init>" 18 2 0 (.object "CaveParty$Ground") := ⟨RX2, TX2, 3, tyX2, rfl, by decide, inX2, tyX2_ok, nmX2, by decide +kernel, Or.inr ⟨rfl, rfl, rfl, (t1_ 130 rfl rfl)⟩⟩
theorem foX2_9 : FO RX2 9 2 1 := ⟨RX2, TX2, 3, rfl, by decide, inX2, (Or.inl (t1_ 131 rfl rfl))⟩
theorem fpX2_9 : FP RX2 "<init>" 9 2 1 (.array .int) := ⟨RX2, TX2, 3, tyX2, rfl, by decide, inX2, tyX2_ok, nmX2, by decide +kernel, Or.inr ⟨rfl, rfl, rfl, (t1_ 131 rfl rfl)⟩⟩
theorem foX2_15 : FO RX2 15 2 2 := ⟨RX2, TX2, 3, rfl, by decide, inX2, (Or.inl (t1_ 132 rfl rfl))⟩
theorem fpX2_15 : FP RX2 "<init>" 15 2 2 (.array .int) := ⟨RX2, TX2, 3, tyX2, rfl, by decide, inX2, tyX2_ok, nmX2, by decide +kernel, Or.inr ⟨rfl, rfl, rfl, (t1_ 132 rfl rfl)⟩⟩
theorem nwX6_32 : NW RX6 32 0 15 [.null, .null, .null, .null, .null, .int 0, .int 0, .int 0, .int 0, .int 0, .int 0, .int 0, .int 0, .int 0, .int 0] := ⟨RX0, TX0, tyX0, rfl, inX0, tyX0_ok, (t1_ 140 rfl rfl), (t1_ 141 rfl rfl), (t1_ 6 rfl rfl), fun j hj => by
  match j, hj with
  | 0, _ => rfl
  | 1, _ => rfl
  | 2, _ => rfl
  | 3, _ => rfl
  | 4, _ => rfl
  | 5, _ => rfl
  | 6, _ => rfl
  | 7, _ => rfl
  | 8, _ => rfl
  | 9, _ => rfl
  | 10, _ => rfl
  | 11, _ => rfl
  | 12, _ => rfl
  | 13, _ => rfl
  | 14, _ => rfl
  | j + 15, h => exact absurd h (by omega)⟩
theorem ciX6_34 : CI RX6 34 yX0_init tX0_init 1 := ⟨mwX0_init, (Or.inl (t1_ 142 rfl rfl)), rfl, (t1_ 143 rfl rfl), rfl⟩
theorem coX0_3 : Jvm.Cond.methodLink RX0 3 objectInit ∈ tb_ := (t1_ 145 rfl rfl)
theorem foX0_24 : FO RX0 24 0 0 := ⟨RX0, TX0, 15, rfl, by decide, inX0, (Or.inl (t1_ 146 rfl rfl))⟩
theorem fpX0_24 : FP RX0 "<init>" 24 0 0 (.object "CaveParty$Ground") := ⟨RX0, TX0, 15, tyX0, rfl, by decide, inX0, tyX0_ok, nmX0, by decide +kernel, Or.inr ⟨rfl, rfl, rfl, (t1_ 146 rfl rfl)⟩⟩
theorem foX0_11 : FO RX0 11 0 1 := ⟨RX0, TX0, 15, rfl, by decide, inX0, (Or.inl (t1_ 147 rfl rfl))⟩
theorem fpX0_11 : FP RX0 "<init>" 11 0 1 (.array .int) := ⟨RX0, TX0, 15, tyX0, rfl, by decide, inX0, tyX0_ok, nmX0, by decide +kernel, Or.inr ⟨rfl, rfl, rfl, (t1_ 147 rfl rfl)⟩⟩
theorem foX0_15 : FO RX0 15 0 2 := ⟨RX0, TX0, 15, rfl, by decide, inX0, (Or.inl (t1_ 148 rfl rfl))⟩
theorem fpX0_15 : FP RX0 "<init>" 15 0 2 (.array .int) := ⟨RX0, TX0, 15, tyX0, rfl, by decide, inX0, tyX0_ok, nmX0, by decide +kernel, Or.inr ⟨rfl, rfl, rfl, (t1_ 148 rfl rfl)⟩⟩
theorem foX0_18 : FO RX0 18 0 3 := ⟨RX0, TX0, 15, rfl, by decide, inX0, (Or.inl (t1_ 149 rfl rfl))⟩
theorem fpX0_18 : FP RX0 "<init>" 18 0 3 (.array .int) := ⟨RX0, TX0, 15, tyX0, rfl, by decide, inX0, tyX0_ok, nmX0, by decide +kernel, Or.inr ⟨rfl, rfl, rfl, (t1_ 149 rfl rfl)⟩⟩
theorem foX0_21 : FO RX0 21 0 4 := ⟨RX0, TX0, 15, rfl, by decide, inX0, (Or.inl (t1_ 150 rfl rfl))⟩
theorem fpX0_21 : FP RX0 "<init>" 21 0 4 (.array .int) := ⟨RX0, TX0, 15, tyX0, rfl, by decide, inX0, tyX0_ok, nmX0, by decide +kernel, Or.inr ⟨rfl, rfl, rfl, (t1_ 150 rfl rfl)⟩⟩
theorem foX0_35 : FO RX0 35 0 5 := ⟨RX0, TX0, 15, rfl, by decide, inX0, (Or.inl (t1_ 151 rfl rfl))⟩
theorem fpX0_35 (nm : String) : FP RX0 nm 35 0 5 (.int) := ⟨RX0, TX0, 15, tyX0, rfl, by decide, inX0, tyX0_ok, nmX0, by decide +kernel, Or.inl ⟨rfl, (Or.inl (t1_ 151 rfl rfl))⟩⟩
theorem foX6_158 : FO RX6 158 0 5 := ⟨RX0, TX0, 15, rfl, by decide, inX0, (Or.inr ⟨_, (t1_ 152 rfl rfl)⟩)⟩
theorem fpX6_158 (nm : String) : FP RX6 nm 158 0 5 (.int) := ⟨RX0, TX0, 15, tyX0, rfl, by decide, inX0, tyX0_ok, nmX0, by decide +kernel, Or.inl ⟨rfl, (Or.inr ⟨_, (t1_ 152 rfl rfl)⟩)⟩⟩
theorem foX0_38 : FO RX0 38 0 6 := ⟨RX0, TX0, 15, rfl, by decide, inX0, (Or.inl (t1_ 153 rfl rfl))⟩
theorem fpX0_38 (nm : String) : FP RX0 nm 38 0 6 (.int) := ⟨RX0, TX0, 15, tyX0, rfl, by decide, inX0, tyX0_ok, nmX0, by decide +kernel, Or.inl ⟨rfl, (Or.inl (t1_ 153 rfl rfl))⟩⟩
theorem foX0_28 : FO RX0 28 0 7 := ⟨RX0, TX0, 15, rfl, by decide, inX0, (Or.inl (t1_ 154 rfl rfl))⟩
theorem fpX0_28 (nm : String) : FP RX0 nm 28 0 7 (.int) := ⟨RX0, TX0, 15, tyX0, rfl, by decide, inX0, tyX0_ok, nmX0, by decide +kernel, Or.inl ⟨rfl, (Or.inl (t1_ 154 rfl rfl))⟩⟩
theorem foX0_32 : FO RX0 32 0 8 := ⟨RX0, TX0, 15, rfl, by decide, inX0, (Or.inl (t1_ 155 rfl rfl))⟩
theorem fpX0_32 (nm : String) : FP RX0 nm 32 0 8 (.int) := ⟨RX0, TX0, 15, tyX0, rfl, by decide, inX0, tyX0_ok, nmX0, by decide +kernel, Or.inl ⟨rfl, (Or.inl (t1_ 155 rfl rfl))⟩⟩
theorem foX0_47 : FO RX0 47 0 9 := ⟨RX0, TX0, 15, rfl, by decide, inX0, (Or.inl (t1_ 156 rfl rfl))⟩
theorem fpX0_47 (nm : String) : FP RX0 nm 47 0 9 (.int) := ⟨RX0, TX0, 15, tyX0, rfl, by decide, inX0, tyX0_ok, nmX0, by decide +kernel, Or.inl ⟨rfl, (Or.inl (t1_ 156 rfl rfl))⟩⟩
theorem foX0_85 : FO RX0 85 0 10 := ⟨RX0, TX0, 15, rfl, by decide, inX0, (Or.inl (t1_ 157 rfl rfl))⟩
theorem fpX0_85 (nm : String) : FP RX0 nm 85 0 10 (.int) := ⟨RX0, TX0, 15, tyX0, rfl, by decide, inX0, tyX0_ok, nmX0, by decide +kernel, Or.inl ⟨rfl, (Or.inl (t1_ 157 rfl rfl))⟩⟩
theorem foX0_88 : FO RX0 88 0 11 := ⟨RX0, TX0, 15, rfl, by decide, inX0, (Or.inl (t1_ 158 rfl rfl))⟩
theorem fpX0_88 (nm : String) : FP RX0 nm 88 0 11 (.int) := ⟨RX0, TX0, 15, tyX0, rfl, by decide, inX0, tyX0_ok, nmX0, by decide +kernel, Or.inl ⟨rfl, (Or.inl (t1_ 158 rfl rfl))⟩⟩
theorem foX0_50 : FO RX0 50 0 12 := ⟨RX0, TX0, 15, rfl, by decide, inX0, (Or.inl (t1_ 159 rfl rfl))⟩
theorem fpX0_50 (nm : String) : FP RX0 nm 50 0 12 (.boolean) := ⟨RX0, TX0, 15, tyX0, rfl, by decide, inX0, tyX0_ok, nmX0, by decide +kernel, Or.inl ⟨rfl, (Or.inl (t1_ 159 rfl rfl))⟩⟩
theorem foX0_91 : FO RX0 91 0 13 := ⟨RX0, TX0, 15, rfl, by decide, inX0, (Or.inl (t1_ 160 rfl rfl))⟩
theorem fpX0_91 (nm : String) : FP RX0 nm 91 0 13 (.int) := ⟨RX0, TX0, 15, tyX0, rfl, by decide, inX0, tyX0_ok, nmX0, by decide +kernel, Or.inl ⟨rfl, (Or.inl (t1_ 160 rfl rfl))⟩⟩
theorem foX0_94 : FO RX0 94 0 14 := ⟨RX0, TX0, 15, rfl, by decide, inX0, (Or.inl (t1_ 161 rfl rfl))⟩
theorem fpX0_94 (nm : String) : FP RX0 nm 94 0 14 (.int) := ⟨RX0, TX0, 15, tyX0, rfl, by decide, inX0, tyX0_ok, nmX0, by decide +kernel, Or.inl ⟨rfl, (Or.inl (t1_ 161 rfl rfl))⟩⟩
theorem nwX6_39 : NW RX6 39 4 4 [.null, .int 0, .int 0, .int 0] := ⟨RX4, TX4, tyX4, rfl, inX4, tyX4_ok, (t1_ 193 rfl rfl), (t1_ 65 rfl rfl), (t1_ 4 rfl rfl), fun j hj => by
  match j, hj with
  | 0, _ => rfl
  | 1, _ => rfl
  | 2, _ => rfl
  | 3, _ => rfl
  | j + 4, h => exact absurd h (by omega)⟩
theorem ciX6_41 : CI RX6 41 yX4_init tX4_init 0 := ⟨mwX4_init, (Or.inr ⟨_, (t1_ 194 rfl rfl)⟩), rfl, (t1_ 67 rfl rfl), rfl⟩
theorem foX6_10 : FO RX6 10 6 0 := ⟨RX6, TX6, 6, rfl, by decide, inX6, (Or.inl (t1_ 195 rfl rfl))⟩
theorem fpX6_10 : FP RX6 "<init>" 10 6 0 (.object "CaveParty$Ground") := ⟨RX6, TX6, 6, tyX6, rfl, by decide, inX6, tyX6_ok, nmX6, by decide +kernel, Or.inr ⟨rfl, rfl, rfl, (t1_ 195 rfl rfl)⟩⟩
theorem foX6_21 : FO RX6 21 6 1 := ⟨RX6, TX6, 6, rfl, by decide, inX6, (Or.inl (t1_ 196 rfl rfl))⟩
theorem fpX6_21 : FP RX6 "<init>" 21 6 1 (.object "CaveParty$Search") := ⟨RX6, TX6, 6, tyX6, rfl, by decide, inX6, tyX6_ok, nmX6, by decide +kernel, Or.inr ⟨rfl, rfl, rfl, (t1_ 196 rfl rfl)⟩⟩
theorem foX6_28 : FO RX6 28 6 2 := ⟨RX6, TX6, 6, rfl, by decide, inX6, (Or.inl (t1_ 197 rfl rfl))⟩
theorem fpX6_28 : FP RX6 "<init>" 28 6 2 (.object "CaveParty$Layout") := ⟨RX6, TX6, 6, tyX6, rfl, by decide, inX6, tyX6_ok, nmX6, by decide +kernel, Or.inr ⟨rfl, rfl, rfl, (t1_ 197 rfl rfl)⟩⟩
theorem foX6_35 : FO RX6 35 6 3 := ⟨RX6, TX6, 6, rfl, by decide, inX6, (Or.inl (t1_ 198 rfl rfl))⟩
theorem fpX6_35 : FP RX6 "<init>" 35 6 3 (.object "CaveParty$Finder") := ⟨RX6, TX6, 6, tyX6, rfl, by decide, inX6, tyX6_ok, nmX6, by decide +kernel, Or.inr ⟨rfl, rfl, rfl, (t1_ 198 rfl rfl)⟩⟩
theorem foX6_42 : FO RX6 42 6 4 := ⟨RX6, TX6, 6, rfl, by decide, inX6, (Or.inl (t1_ 199 rfl rfl))⟩
theorem fpX6_42 : FP RX6 "<init>" 42 6 4 (.object "CaveParty$Stand") := ⟨RX6, TX6, 6, tyX6, rfl, by decide, inX6, tyX6_ok, nmX6, by decide +kernel, Or.inr ⟨rfl, rfl, rfl, (t1_ 199 rfl rfl)⟩⟩
theorem foX6_46 : FO RX6 46 6 5 := ⟨RX6, TX6, 6, rfl, by decide, inX6, (Or.inl (t1_ 200 rfl rfl))⟩
theorem fpX6_46 (nm : String) : FP RX6 nm 46 6 5 (.object "CaveParty$Way") := ⟨RX6, TX6, 6, tyX6, rfl, by decide, inX6, tyX6_ok, nmX6, by decide +kernel, Or.inl ⟨rfl, (Or.inl (t1_ 200 rfl rfl))⟩⟩
theorem cvL_13 : CV RL 13 yX6_caves tX6_caves 1 := ⟨mwX6_caves, (t1_ 214 rfl rfl), (t1_ 215 rfl rfl), (t1_ 216 rfl rfl)⟩
theorem cvX6_50 : CV RX6 50 yX1_clear tX1_clear 1 := ⟨mwX1_clear, (t1_ 218 rfl rfl), (t1_ 219 rfl rfl), (t1_ 220 rfl rfl)⟩
theorem cvX1_34 : CV RX1 34 yX1_linkCaves tX1_linkCaves 0 := ⟨mwX1_linkCaves, (t1_ 222 rfl rfl), (t1_ 224 rfl rfl), (sm_ 0 rfl rfl)⟩
theorem csX1_50 : CS RX1 50 yJ7_fill_53178 tJ7_fill_53178 2 := ⟨mwJ7_fill_53178, (t1_ 226 rfl rfl), (t1_ 227 rfl rfl)⟩
theorem cvX1_37 : CV RX1 37 yX1_hasPassage tX1_hasPassage 1 := ⟨mwX1_hasPassage, (t1_ 229 rfl rfl), (t1_ 230 rfl rfl), (t1_ 231 rfl rfl)⟩
theorem cvX6_54 : CV RX6 54 yX2_reset tX2_reset 0 := ⟨mwX2_reset, (t1_ 233 rfl rfl), (t1_ 234 rfl rfl), (t1_ 235 rfl rfl)⟩
theorem cvX6_57 : CV RX6 57 yX6_forgetSearchAndPlan tX6_forgetSearchAndPlan 0 := ⟨mwX6_forgetSearchAndPlan, (t1_ 237 rfl rfl), (t1_ 239 rfl rfl), (sm_ 1 rfl rfl)⟩
theorem cvX6_97 : CV RX6 97 yX3_begin tX3_begin 0 := ⟨mwX3_begin, (t2_ 1 rfl rfl), (t2_ 2 rfl rfl), (t2_ 3 rfl rfl)⟩
theorem cvX3_38 : CV RX3 38 yX4_begin tX4_begin 1 := ⟨mwX4_begin, (t2_ 5 rfl rfl), (t2_ 6 rfl rfl), (t2_ 7 rfl rfl)⟩
theorem csX4_15 : CS RX4 15 yJ7_fill_53178 tJ7_fill_53178 2 := ⟨mwJ7_fill_53178, (t2_ 9 rfl rfl), (t1_ 227 rfl rfl)⟩
theorem cvX4_28 : CV RX4 28 yX1_allCaves tX1_allCaves 0 := ⟨mwX1_allCaves, (t2_ 10 rfl rfl), (t2_ 11 rfl rfl), (t2_ 12 rfl rfl)⟩
theorem cvL_18 : CV RL 18 yX6_passage tX6_passage 2 := ⟨mwX6_passage, (t2_ 14 rfl rfl), (t2_ 15 rfl rfl), (t2_ 16 rfl rfl)⟩
theorem cvX6_60 : CV RX6 60 yX1_lowestFree tX1_lowestFree 0 := ⟨mwX1_lowestFree, (t2_ 18 rfl rfl), (t2_ 19 rfl rfl), (t2_ 20 rfl rfl)⟩
theorem cvX6_64 : CV RX6 64 yX1_hasCave tX1_hasCave 1 := ⟨mwX1_hasCave, (t2_ 22 rfl rfl), (t2_ 23 rfl rfl), (t2_ 24 rfl rfl)⟩
theorem cvX6_68 : CV RX6 68 yX1_dig tX1_dig 3 := ⟨mwX1_dig, (t2_ 26 rfl rfl), (t2_ 27 rfl rfl), (t2_ 28 rfl rfl)⟩
theorem csX1_41 : CS RX1 41 yJ9_min_7cf53 tJ9_min_7cf53 2 := ⟨mwJ9_min_7cf53, (t2_ 30 rfl rfl), (t2_ 31 rfl rfl)⟩
theorem csX1_47 : CS RX1 47 yJ9_max_7cf53 tJ9_max_7cf53 2 := ⟨mwJ9_max_7cf53, (t2_ 33 rfl rfl), (t2_ 34 rfl rfl)⟩
theorem cvL_23 : CV RL 23 yX6_drop tX6_drop 1 := ⟨mwX6_drop, (t2_ 36 rfl rfl), (t2_ 37 rfl rfl), (t2_ 38 rfl rfl)⟩
theorem cvX6_72 : CV RX6 72 yX1_hasPassage tX1_hasPassage 1 := ⟨mwX1_hasPassage, (t2_ 40 rfl rfl), (t1_ 230 rfl rfl), (t1_ 231 rfl rfl)⟩
theorem cvX6_75 : CV RX6 75 yX1_fillUp tX1_fillUp 1 := ⟨mwX1_fillUp, (t2_ 41 rfl rfl), (t2_ 42 rfl rfl), (t2_ 43 rfl rfl)⟩
theorem cvL_27 : CV RL 27 yX6_mouth tX6_mouth 1 := ⟨mwX6_mouth, (t2_ 45 rfl rfl), (t2_ 46 rfl rfl), (t2_ 47 rfl rfl)⟩
theorem cvL_31 : CV RL 31 yX6_order tX6_order 3 := ⟨mwX6_order, (t2_ 49 rfl rfl), (t2_ 50 rfl rfl), (t2_ 51 rfl rfl)⟩
theorem cvX6_82 : CV RX6 82 yX1_leadsFrom tX1_leadsFrom 2 := ⟨mwX1_leadsFrom, (t2_ 53 rfl rfl), (t2_ 54 rfl rfl), (t2_ 55 rfl rfl)⟩
theorem cvX6_89 : CV RX6 89 yX3_carryOut tX3_carryOut 3 := ⟨mwX3_carryOut, (t2_ 57 rfl rfl), (t2_ 58 rfl rfl), (t2_ 59 rfl rfl)⟩
theorem cvX3_49 : CV RX3 49 yX3_canBeDone tX3_canBeDone 2 := ⟨mwX3_canBeDone, (t2_ 61 rfl rfl), (t2_ 63 rfl rfl), (sm_ 2 rfl rfl)⟩
theorem cvX3_56 : CV RX3 56 yX4_follow tX4_follow 4 := ⟨mwX4_follow, (t2_ 65 rfl rfl), (t2_ 66 rfl rfl), (t2_ 67 rfl rfl)⟩
theorem cvX4_37 : CV RX4 37 yX4_leave tX4_leave 1 := ⟨mwX4_leave, (t2_ 69 rfl rfl), (t2_ 71 rfl rfl), (sm_ 3 rfl rfl)⟩
theorem cvX4_41 : CV RX4 41 yX4_come tX4_come 1 := ⟨mwX4_come, (t2_ 73 rfl rfl), (t2_ 75 rfl rfl), (sm_ 4 rfl rfl)⟩
theorem cvX4_44 : CV RX4 44 yX1_otherEnd tX1_otherEnd 2 := ⟨mwX1_otherEnd, (t2_ 77 rfl rfl), (t2_ 78 rfl rfl), (t2_ 79 rfl rfl)⟩
theorem cvX4_48 : CV RX4 48 yX1_lostBehind tX1_lostBehind 4 := ⟨mwX1_lostBehind, (t2_ 81 rfl rfl), (t2_ 82 rfl rfl), (t2_ 83 rfl rfl)⟩
theorem cvX1_56 : CV RX1 56 yX1_passagesAt tX1_passagesAt 1 := ⟨mwX1_passagesAt, (t2_ 85 rfl rfl), (t2_ 86 rfl rfl), (t2_ 87 rfl rfl)⟩
theorem cvX1_60 : CV RX1 60 yX1_spread tX1_spread 2 := ⟨mwX1_spread, (t2_ 89 rfl rfl), (t2_ 90 rfl rfl), (t2_ 91 rfl rfl)⟩
theorem cvX3_60 : CV RX3 60 yX4_goBack tX4_goBack 5 := ⟨mwX4_goBack, (t2_ 93 rfl rfl), (t2_ 94 rfl rfl), (t2_ 95 rfl rfl)⟩
theorem csX3_67 : CS RX3 67 yJ9_max_7cf53 tJ9_max_7cf53 2 := ⟨mwJ9_max_7cf53, (t2_ 97 rfl rfl), (t2_ 34 rfl rfl)⟩
theorem cvL_36 : CV RL 36 yX6_undo tX6_undo 0 := ⟨mwX6_undo, (t2_ 98 rfl rfl), (t2_ 99 rfl rfl), (t2_ 100 rfl rfl)⟩
theorem cvX6_93 : CV RX6 93 yX3_takeBack tX3_takeBack 0 := ⟨mwX3_takeBack, (t2_ 102 rfl rfl), (t2_ 103 rfl rfl), (t2_ 104 rfl rfl)⟩
theorem cvL_41 : CV RL 41 yX6_anew tX6_anew 0 := ⟨mwX6_anew, (t2_ 106 rfl rfl), (t2_ 107 rfl rfl), (t2_ 108 rfl rfl)⟩
theorem cvL_45 : CV RL 45 yX6_count tX6_count 1 := ⟨mwX6_count, (t2_ 110 rfl rfl), (t2_ 111 rfl rfl), (t2_ 112 rfl rfl)⟩
theorem csX6_112 : CS RX6 112 yJ6_bitCount_0f7a4 tJ6_bitCount_0f7a4 1 := ⟨mwJ6_bitCount_0f7a4, (t2_ 114 rfl rfl), (t2_ 115 rfl rfl)⟩
theorem kcJ6_265 : Jvm.Cond.constant RJ6 265 (1431655765) ∈ tb_ := (t2_ 117 rfl rfl)
theorem kcJ6_266 : Jvm.Cond.constant RJ6 266 (858993459) ∈ tb_ := (t2_ 118 rfl rfl)
theorem kcJ6_267 : Jvm.Cond.constant RJ6 267 (252645135) ∈ tb_ := (t2_ 119 rfl rfl)
theorem cvX6_118 : CV RX6 118 yX1_passagesAt tX1_passagesAt 1 := ⟨mwX1_passagesAt, (t2_ 120 rfl rfl), (t2_ 86 rfl rfl), (t2_ 87 rfl rfl)⟩
theorem cvX6_127 : CV RX6 127 yX1_parts tX1_parts 0 := ⟨mwX1_parts, (t2_ 121 rfl rfl), (t2_ 122 rfl rfl), (t2_ 123 rfl rfl)⟩
theorem cvX6_130 : CV RX6 130 yX1_isTree tX1_isTree 0 := ⟨mwX1_isTree, (t2_ 125 rfl rfl), (t2_ 126 rfl rfl), (t2_ 127 rfl rfl)⟩
theorem cvX1_63 : CV RX1 63 yX1_parts tX1_parts 0 := ⟨mwX1_parts, (t2_ 129 rfl rfl), (t2_ 122 rfl rfl), (t2_ 123 rfl rfl)⟩
theorem csX1_67 : CS RX1 67 yJ6_bitCount_0f7a4 tJ6_bitCount_0f7a4 1 := ⟨mwJ6_bitCount_0f7a4, (t2_ 130 rfl rfl), (t2_ 115 rfl rfl)⟩
theorem cvL_50 : CV RL 50 yX6_look tX6_look 2 := ⟨mwX6_look, (t2_ 131 rfl rfl), (t2_ 132 rfl rfl), (t2_ 133 rfl rfl)⟩
theorem cvX6_133 : CV RX6 133 yX6_lookAtCave tX6_lookAtCave 2 := ⟨mwX6_lookAtCave, (t2_ 135 rfl rfl), (t2_ 137 rfl rfl), (sm_ 5 rfl rfl)⟩
theorem cvX6_187 : CV RX6 187 yX2_placeOf tX2_placeOf 1 := ⟨mwX2_placeOf, (t2_ 139 rfl rfl), (t2_ 140 rfl rfl), (t2_ 141 rfl rfl)⟩
theorem cvX6_137 : CV RX6 137 yX6_lookAtPassage tX6_lookAtPassage 2 := ⟨mwX6_lookAtPassage, (t2_ 143 rfl rfl), (t2_ 145 rfl rfl), (sm_ 6 rfl rfl)⟩
theorem cvX6_196 : CV RX6 196 yX3_passagesJustLost tX3_passagesJustLost 0 := ⟨mwX3_passagesJustLost, (t2_ 147 rfl rfl), (t2_ 148 rfl rfl), (t2_ 149 rfl rfl)⟩
theorem cvX3_76 : CV RX3 76 yX1_passagesAt tX1_passagesAt 1 := ⟨mwX1_passagesAt, (t2_ 151 rfl rfl), (t2_ 86 rfl rfl), (t2_ 87 rfl rfl)⟩
theorem cvL_54 : CV RL 54 yX6_fewest tX6_fewest 1 := ⟨mwX6_fewest, (t2_ 152 rfl rfl), (t2_ 153 rfl rfl), (t2_ 154 rfl rfl)⟩
theorem cvX6_140 : CV RX6 140 yX6_canBeSolved tX6_canBeSolved 1 := ⟨mwX6_canBeSolved, (t2_ 156 rfl rfl), (t2_ 158 rfl rfl), (sm_ 7 rfl rfl)⟩
theorem csX6_161 : CS RX6 161 yX6_isLaw tX6_isLaw 1 := ⟨mwX6_isLaw, (t2_ 160 rfl rfl), (t2_ 161 rfl rfl)⟩
theorem cvX6_143 : CV RX6 143 yX0_finds tX0_finds 2 := ⟨mwX0_finds, (t2_ 163 rfl rfl), (t2_ 164 rfl rfl), (t2_ 165 rfl rfl)⟩
theorem csX0_41 : CS RX0 41 yJ7_fill_53178 tJ7_fill_53178 2 := ⟨mwJ7_fill_53178, (t2_ 167 rfl rfl), (t1_ 227 rfl rfl)⟩
theorem cvX0_54 : CV RX0 54 yX1_allCaves tX1_allCaves 0 := ⟨mwX1_allCaves, (t2_ 168 rfl rfl), (t2_ 11 rfl rfl), (t2_ 12 rfl rfl)⟩
theorem cvX0_60 : CV RX0 60 yX0_meet tX0_meet 6 := ⟨mwX0_meet, (t2_ 169 rfl rfl), (t2_ 171 rfl rfl), (sm_ 8 rfl rfl)⟩
theorem cvX0_125 : CV RX0 125 yX1_hangsTogether tX1_hangsTogether 2 := ⟨mwX1_hangsTogether, (t2_ 173 rfl rfl), (t2_ 174 rfl rfl), (t2_ 175 rfl rfl)⟩
theorem kcX0_129 : Jvm.Cond.constant RX0 129 (262144) ∈ tb_ := (t2_ 177 rfl rfl)
theorem cvX0_130 : CV RX0 130 yX0_slotOf tX0_slotOf 1 := ⟨mwX0_slotOf, (t2_ 178 rfl rfl), (t2_ 180 rfl rfl), (sm_ 9 rfl rfl)⟩
theorem kcX0_137 : Jvm.Cond.constant RX0 137 (-1640531535) ∈ tb_ := (t2_ 182 rfl rfl)
theorem csX0_133 : CS RX0 133 yX5_packed tX5_packed 3 := ⟨mwX5_packed, (t2_ 183 rfl rfl), (t2_ 184 rfl rfl)⟩
theorem cvX0_64 : CV RX0 64 yX0_takeUp tX0_takeUp 1 := ⟨mwX0_takeUp, (t2_ 186 rfl rfl), (t2_ 188 rfl rfl), (sm_ 10 rfl rfl)⟩
theorem cvX0_68 : CV RX0 68 yX0_tryPuts tX0_tryPuts 0 := ⟨mwX0_tryPuts, (t2_ 190 rfl rfl), (t2_ 192 rfl rfl), (sm_ 11 rfl rfl)⟩
theorem cvX0_100 : CV RX0 100 yX1_allows tX1_allows 4 := ⟨mwX1_allows, (t2_ 194 rfl rfl), (t2_ 195 rfl rfl), (t2_ 196 rfl rfl)⟩
theorem csX0_104 : CS RX0 104 yX0_one tX0_one 1 := ⟨mwX0_one, (t2_ 198 rfl rfl), (t2_ 199 rfl rfl)⟩
theorem cvX0_71 : CV RX0 71 yX0_tryLifts tX0_tryLifts 0 := ⟨mwX0_tryLifts, (t2_ 201 rfl rfl), (t2_ 203 rfl rfl), (sm_ 12 rfl rfl)⟩
theorem cvX0_108 : CV RX0 108 yX0_guardedWithout tX0_guardedWithout 1 := ⟨mwX0_guardedWithout, (t2_ 205 rfl rfl), (t2_ 207 rfl rfl), (sm_ 13 rfl rfl)⟩
theorem cvX0_111 : CV RX0 111 yX1_lostBehind tX1_lostBehind 4 := ⟨mwX1_lostBehind, (t2_ 209 rfl rfl), (t2_ 82 rfl rfl), (t2_ 83 rfl rfl)⟩
theorem cvX0_74 : CV RX0 74 yX0_trySlides tX0_trySlides 0 := ⟨mwX0_trySlides, (t2_ 210 rfl rfl), (t2_ 212 rfl rfl), (sm_ 14 rfl rfl)⟩
theorem cvX0_115 : CV RX0 115 yX0_trySlidesFrom tX0_trySlidesFrom 1 := ⟨mwX0_trySlidesFrom, (t2_ 214 rfl rfl), (t2_ 216 rfl rfl), (sm_ 15 rfl rfl)⟩
theorem cvX0_121 : CV RX0 121 yX1_otherEnd tX1_otherEnd 2 := ⟨mwX1_otherEnd, (t2_ 218 rfl rfl), (t2_ 78 rfl rfl), (t2_ 79 rfl rfl)⟩
theorem cvX6_146 : CV RX6 146 yX0_wayToGoal tX0_wayToGoal 0 := ⟨mwX0_wayToGoal, (t2_ 219 rfl rfl), (t2_ 220 rfl rfl), (t2_ 221 rfl rfl)⟩
theorem nwX0_77 : NW RX0 77 5 1 [.null] := ⟨RX5, TX5, tyX5, rfl, inX5, tyX5_ok, (t2_ 223 rfl rfl), (t2_ 224 rfl rfl), (t1_ 11 rfl rfl), fun j hj => by
  match j, hj with
  | 0, _ => rfl
  | j + 1, h => exact absurd h (by omega)⟩
theorem ciX0_79 : CI RX0 79 yX5_init tX5_init 1 := ⟨mwX5_init, (Or.inl (t2_ 225 rfl rfl)), rfl, (t2_ 226 rfl rfl), rfl⟩
theorem coX5_3 : Jvm.Cond.methodLink RX5 3 objectInit ∈ tb_ := (t2_ 228 rfl rfl)
theorem csX5_9 : CS RX5 9 yJ9_max_7cf53 tJ9_max_7cf53 2 := ⟨mwJ9_max_7cf53, (t2_ 229 rfl rfl), (t2_ 34 rfl rfl)⟩
theorem foX5_15 : FO RX5 15 5 0 := ⟨RX5, TX5, 1, rfl, by decide, inX5, (Or.inl (t2_ 230 rfl rfl))⟩
theorem fpX5_15 : FP RX5 "<init>" 15 5 0 (.array .int) := ⟨RX5, TX5, 1, tyX5, rfl, by decide, inX5, tyX5_ok, nmX5, by decide +kernel, Or.inr ⟨rfl, rfl, rfl, (t2_ 230 rfl rfl)⟩⟩
theorem cvX0_81 : CV RX0 81 yX5_put tX5_put 2 := ⟨mwX5_put, (t2_ 234 rfl rfl), (t2_ 235 rfl rfl), (t2_ 236 rfl rfl)⟩
theorem cvL_58 : CV RL 58 yX6_plan tX6_plan 2 := ⟨mwX6_plan, (t2_ 238 rfl rfl), (t2_ 239 rfl rfl), (t3_ 0 rfl rfl)⟩
theorem cvX6_150 : CV RX6 150 yX5_length tX5_length 0 := ⟨mwX5_length, (t3_ 2 rfl rfl), (t3_ 3 rfl rfl), (t3_ 4 rfl rfl)⟩
theorem cvX6_155 : CV RX6 155 yX5_tell tX5_tell 2 := ⟨mwX5_tell, (t3_ 6 rfl rfl), (t3_ 7 rfl rfl), (t3_ 8 rfl rfl)⟩
theorem cvL_62 : CV RL 62 yX6_witness tX6_witness 2 := ⟨mwX6_witness, (t3_ 10 rfl rfl), (t3_ 11 rfl rfl), (t3_ 12 rfl rfl)⟩
theorem cvL_66 : CV RL 66 yX6_judge tX6_judge 1 := ⟨mwX6_judge, (t3_ 14 rfl rfl), (t3_ 15 rfl rfl), (t3_ 16 rfl rfl)⟩
theorem cvX6_164 : CV RX6 164 yX6_isPlanBy tX6_isPlanBy 1 := ⟨mwX6_isPlanBy, (t3_ 18 rfl rfl), (t3_ 20 rfl rfl), (sm_ 16 rfl rfl)⟩
theorem cvX6_199 : CV RX6 199 yX4_begin tX4_begin 1 := ⟨mwX4_begin, (t3_ 22 rfl rfl), (t2_ 6 rfl rfl), (t2_ 7 rfl rfl)⟩
theorem cvX6_207 : CV RX6 207 yX1_allows tX1_allows 4 := ⟨mwX1_allows, (t3_ 23 rfl rfl), (t2_ 195 rfl rfl), (t2_ 196 rfl rfl)⟩
theorem cvX6_214 : CV RX6 214 yX4_follow tX4_follow 4 := ⟨mwX4_follow, (t3_ 24 rfl rfl), (t2_ 66 rfl rfl), (t2_ 67 rfl rfl)⟩
theorem cvX6_221 : CV RX6 221 yX1_hangsTogether tX1_hangsTogether 2 := ⟨mwX1_hangsTogether, (t3_ 25 rfl rfl), (t2_ 174 rfl rfl), (t2_ 175 rfl rfl)⟩
theorem cvL_70 : CV RL 70 yX6_place tX6_place 2 := ⟨mwX6_place, (t3_ 26 rfl rfl), (t3_ 27 rfl rfl), (t3_ 28 rfl rfl)⟩
theorem cvX6_167 : CV RX6 167 yX2_swapIn tX2_swapIn 2 := ⟨mwX2_swapIn, (t3_ 30 rfl rfl), (t3_ 31 rfl rfl), (t3_ 32 rfl rfl)⟩
theorem cvX2_28 : CV RX2 28 yX2_placeOf tX2_placeOf 1 := ⟨mwX2_placeOf, (t3_ 34 rfl rfl), (t2_ 140 rfl rfl), (t2_ 141 rfl rfl)⟩
theorem cvL_75 : CV RL 75 yX6_cut tX6_cut 1 := ⟨mwX6_cut, (t3_ 35 rfl rfl), (t3_ 36 rfl rfl), (t3_ 37 rfl rfl)⟩
theorem cvX6_171 : CV RX6 171 yX2_greatestCut tX2_greatestCut 0 := ⟨mwX2_greatestCut, (t3_ 39 rfl rfl), (t3_ 40 rfl rfl), (t3_ 41 rfl rfl)⟩
theorem cvX2_35 : CV RX2 35 yX2_cutBehind tX2_cutBehind 1 := ⟨mwX2_cutBehind, (t3_ 43 rfl rfl), (t3_ 44 rfl rfl), (t3_ 45 rfl rfl)⟩
theorem cvX2_32 : CV RX2 32 yX1_cutBetween tX1_cutBetween 1 := ⟨mwX1_cutBetween, (t3_ 47 rfl rfl), (t3_ 48 rfl rfl), (t3_ 49 rfl rfl)⟩
theorem csX2_38 : CS RX2 38 yJ9_max_7cf53 tJ9_max_7cf53 2 := ⟨mwJ9_max_7cf53, (t3_ 51 rfl rfl), (t2_ 34 rfl rfl)⟩
theorem cvX6_174 : CV RX6 174 yX2_cutBehind tX2_cutBehind 1 := ⟨mwX2_cutBehind, (t3_ 52 rfl rfl), (t3_ 44 rfl rfl), (t3_ 45 rfl rfl)⟩
theorem cvL_79 : CV RL 79 yX6_width tX6_width 0 := ⟨mwX6_width, (t3_ 53 rfl rfl), (t3_ 54 rfl rfl), (t3_ 55 rfl rfl)⟩
theorem cvX6_177 : CV RX6 177 yX2_becomeTheLeast tX2_becomeTheLeast 0 := ⟨mwX2_becomeTheLeast, (t3_ 57 rfl rfl), (t3_ 58 rfl rfl), (t3_ 59 rfl rfl)⟩
theorem cvX2_44 : CV RX2 44 yX1_allCaves tX1_allCaves 0 := ⟨mwX1_allCaves, (t3_ 61 rfl rfl), (t2_ 11 rfl rfl), (t2_ 12 rfl rfl)⟩
theorem cvX2_48 : CV RX2 48 yX2_leastWorstBehind tX2_leastWorstBehind 1 := ⟨mwX2_leastWorstBehind, (t3_ 62 rfl rfl), (t3_ 64 rfl rfl), (sm_ 17 rfl rfl)⟩
theorem csX2_54 : CS RX2 54 yJ9_min_7cf53 tJ9_min_7cf53 2 := ⟨mwJ9_min_7cf53, (t3_ 66 rfl rfl), (t2_ 31 rfl rfl)⟩
theorem cvX2_51 : CV RX2 51 yX2_firstWithin tX2_firstWithin 2 := ⟨mwX2_firstWithin, (t3_ 67 rfl rfl), (t3_ 69 rfl rfl), (sm_ 18 rfl rfl)⟩
theorem nwL_10 : NW RL 10 7 25 [.int 0, .int 0, .null, .null, .null, .null, .null, .int 0, .int 0, .int 0, .null, .null, .null, .null, .null, .null, .null, .null, .null, .null, .int 0, .int 0, .int 0, .null, .null] := ⟨RX7, TX7, tyX7, rfl, inX7, tyX7_ok, (t3_ 71 rfl rfl), (t3_ 72 rfl rfl), (t1_ 7 rfl rfl), fun j hj => by
  match j, hj with
  | 0, _ => rfl
  | 1, _ => rfl
  | 2, _ => rfl
  | 3, _ => rfl
  | 4, _ => rfl
  | 5, _ => rfl
  | 6, _ => rfl
  | 7, _ => rfl
  | 8, _ => rfl
  | 9, _ => rfl
  | 10, _ => rfl
  | 11, _ => rfl
  | 12, _ => rfl
  | 13, _ => rfl
  | 14, _ => rfl
  | 15, _ => rfl
  | 16, _ => rfl
  | 17, _ => rfl
  | 18, _ => rfl
  | 19, _ => rfl
  | 20, _ => rfl
  | 21, _ => rfl
  | 22, _ => rfl
  | 23, _ => rfl
  | 24, _ => rfl
  | j + 25, h => exact absurd h (by omega)⟩
theorem ciL_12 : CI RL 12 yX7_init tX7_init 0 := ⟨mwX7_init, (Or.inl (t3_ 73 rfl rfl)), rfl, (t3_ 74 rfl rfl), rfl⟩
theorem coX7_1 : Jvm.Cond.methodLink RX7 1 objectInit ∈ tb_ := (t3_ 76 rfl rfl)
theorem kcX7_44 : Jvm.Cond.constant RX7 44 (524288) ∈ tb_ := (t3_ 77 rfl rfl)
theorem kcX7_48 : Jvm.Cond.constant RX7 48 (262144) ∈ tb_ := (t3_ 78 rfl rfl)
theorem foX7_68 : FO RX7 68 7 0 := ⟨RX7, TX7, 25, rfl, by decide, inX7, (Or.inl (t3_ 79 rfl rfl))⟩
theorem fpX7_68 (nm : String) : FP RX7 nm 68 7 0 (.int) := ⟨RX7, TX7, 25, tyX7, rfl, by decide, inX7, tyX7_ok, nmX7, by decide +kernel, Or.inl ⟨rfl, (Or.inl (t3_ 79 rfl rfl))⟩⟩
theorem foX7_74 : FO RX7 74 7 1 := ⟨RX7, TX7, 25, rfl, by decide, inX7, (Or.inl (t3_ 80 rfl rfl))⟩
theorem fpX7_74 (nm : String) : FP RX7 nm 74 7 1 (.int) := ⟨RX7, TX7, 25, tyX7, rfl, by decide, inX7, tyX7_ok, nmX7, by decide +kernel, Or.inl ⟨rfl, (Or.inl (t3_ 80 rfl rfl))⟩⟩
theorem foX7_7 : FO RX7 7 7 2 := ⟨RX7, TX7, 25, rfl, by decide, inX7, (Or.inl (t3_ 81 rfl rfl))⟩
theorem fpX7_7 : FP RX7 "<init>" 7 7 2 (.array .int) := ⟨RX7, TX7, 25, tyX7, rfl, by decide, inX7, tyX7_ok, nmX7, by decide +kernel, Or.inr ⟨rfl, rfl, rfl, (t3_ 81 rfl rfl)⟩⟩
theorem foX7_13 : FO RX7 13 7 3 := ⟨RX7, TX7, 25, rfl, by decide, inX7, (Or.inl (t3_ 82 rfl rfl))⟩
theorem fpX7_13 : FP RX7 "<init>" 13 7 3 (.array .int) := ⟨RX7, TX7, 25, tyX7, rfl, by decide, inX7, tyX7_ok, nmX7, by decide +kernel, Or.inr ⟨rfl, rfl, rfl, (t3_ 82 rfl rfl)⟩⟩
theorem foX7_16 : FO RX7 16 7 4 := ⟨RX7, TX7, 25, rfl, by decide, inX7, (Or.inl (t3_ 83 rfl rfl))⟩
theorem fpX7_16 : FP RX7 "<init>" 16 7 4 (.array .boolean) := ⟨RX7, TX7, 25, tyX7, rfl, by decide, inX7, tyX7_ok, nmX7, by decide +kernel, Or.inr ⟨rfl, rfl, rfl, (t3_ 83 rfl rfl)⟩⟩
theorem foX7_20 : FO RX7 20 7 5 := ⟨RX7, TX7, 25, rfl, by decide, inX7, (Or.inl (t3_ 84 rfl rfl))⟩
theorem fpX7_20 : FP RX7 "<init>" 20 7 5 (.array .int) := ⟨RX7, TX7, 25, tyX7, rfl, by decide, inX7, tyX7_ok, nmX7, by decide +kernel, Or.inr ⟨rfl, rfl, rfl, (t3_ 84 rfl rfl)⟩⟩
theorem foX7_23 : FO RX7 23 7 6 := ⟨RX7, TX7, 25, rfl, by decide, inX7, (Or.inl (t3_ 85 rfl rfl))⟩
theorem fpX7_23 : FP RX7 "<init>" 23 7 6 (.array .int) := ⟨RX7, TX7, 25, tyX7, rfl, by decide, inX7, tyX7_ok, nmX7, by decide +kernel, Or.inr ⟨rfl, rfl, rfl, (t3_ 85 rfl rfl)⟩⟩
theorem foX7_91 : FO RX7 91 7 7 := ⟨RX7, TX7, 25, rfl, by decide, inX7, (Or.inl (t3_ 86 rfl rfl))⟩
theorem fpX7_91 (nm : String) : FP RX7 nm 91 7 7 (.int) := ⟨RX7, TX7, 25, tyX7, rfl, by decide, inX7, tyX7_ok, nmX7, by decide +kernel, Or.inl ⟨rfl, (Or.inl (t3_ 86 rfl rfl))⟩⟩
theorem foX7_94 : FO RX7 94 7 8 := ⟨RX7, TX7, 25, rfl, by decide, inX7, (Or.inl (t3_ 87 rfl rfl))⟩
theorem fpX7_94 (nm : String) : FP RX7 nm 94 7 8 (.int) := ⟨RX7, TX7, 25, tyX7, rfl, by decide, inX7, tyX7_ok, nmX7, by decide +kernel, Or.inl ⟨rfl, (Or.inl (t3_ 87 rfl rfl))⟩⟩
theorem foX7_107 : FO RX7 107 7 9 := ⟨RX7, TX7, 25, rfl, by decide, inX7, (Or.inl (t3_ 88 rfl rfl))⟩
theorem fpX7_107 (nm : String) : FP RX7 nm 107 7 9 (.int) := ⟨RX7, TX7, 25, tyX7, rfl, by decide, inX7, tyX7_ok, nmX7, by decide +kernel, Or.inl ⟨rfl, (Or.inl (t3_ 88 rfl rfl))⟩⟩
theorem foX7_26 : FO RX7 26 7 10 := ⟨RX7, TX7, 25, rfl, by decide, inX7, (Or.inl (t3_ 89 rfl rfl))⟩
theorem fpX7_26 : FP RX7 "<init>" 26 7 10 (.array .int) := ⟨RX7, TX7, 25, tyX7, rfl, by decide, inX7, tyX7_ok, nmX7, by decide +kernel, Or.inr ⟨rfl, rfl, rfl, (t3_ 89 rfl rfl)⟩⟩
theorem foX7_29 : FO RX7 29 7 11 := ⟨RX7, TX7, 25, rfl, by decide, inX7, (Or.inl (t3_ 90 rfl rfl))⟩
theorem fpX7_29 : FP RX7 "<init>" 29 7 11 (.array .int) := ⟨RX7, TX7, 25, tyX7, rfl, by decide, inX7, tyX7_ok, nmX7, by decide +kernel, Or.inr ⟨rfl, rfl, rfl, (t3_ 90 rfl rfl)⟩⟩
theorem foX7_32 : FO RX7 32 7 12 := ⟨RX7, TX7, 25, rfl, by decide, inX7, (Or.inl (t3_ 91 rfl rfl))⟩
theorem fpX7_32 : FP RX7 "<init>" 32 7 12 (.array .int) := ⟨RX7, TX7, 25, tyX7, rfl, by decide, inX7, tyX7_ok, nmX7, by decide +kernel, Or.inr ⟨rfl, rfl, rfl, (t3_ 91 rfl rfl)⟩⟩
theorem foX7_35 : FO RX7 35 7 13 := ⟨RX7, TX7, 25, rfl, by decide, inX7, (Or.inl (t3_ 92 rfl rfl))⟩
theorem fpX7_35 : FP RX7 "<init>" 35 7 13 (.array .int) := ⟨RX7, TX7, 25, tyX7, rfl, by decide, inX7, tyX7_ok, nmX7, by decide +kernel, Or.inr ⟨rfl, rfl, rfl, (t3_ 92 rfl rfl)⟩⟩
theorem foX7_38 : FO RX7 38 7 14 := ⟨RX7, TX7, 25, rfl, by decide, inX7, (Or.inl (t3_ 93 rfl rfl))⟩
theorem fpX7_38 : FP RX7 "<init>" 38 7 14 (.array .int) := ⟨RX7, TX7, 25, tyX7, rfl, by decide, inX7, tyX7_ok, nmX7, by decide +kernel, Or.inr ⟨rfl, rfl, rfl, (t3_ 93 rfl rfl)⟩⟩
theorem foX7_41 : FO RX7 41 7 15 := ⟨RX7, TX7, 25, rfl, by decide, inX7, (Or.inl (t3_ 94 rfl rfl))⟩
theorem fpX7_41 : FP RX7 "<init>" 41 7 15 (.array .int) := ⟨RX7, TX7, 25, tyX7, rfl, by decide, inX7, tyX7_ok, nmX7, by decide +kernel, Or.inr ⟨rfl, rfl, rfl, (t3_ 94 rfl rfl)⟩⟩
theorem foX7_45 : FO RX7 45 7 16 := ⟨RX7, TX7, 25, rfl, by decide, inX7, (Or.inl (t3_ 95 rfl rfl))⟩
theorem fpX7_45 : FP RX7 "<init>" 45 7 16 (.array .int) := ⟨RX7, TX7, 25, tyX7, rfl, by decide, inX7, tyX7_ok, nmX7, by decide +kernel, Or.inr ⟨rfl, rfl, rfl, (t3_ 95 rfl rfl)⟩⟩
theorem foX7_49 : FO RX7 49 7 17 := ⟨RX7, TX7, 25, rfl, by decide, inX7, (Or.inl (t3_ 96 rfl rfl))⟩
theorem fpX7_49 : FP RX7 "<init>" 49 7 17 (.array .int) := ⟨RX7, TX7, 25, tyX7, rfl, by decide, inX7, tyX7_ok, nmX7, by decide +kernel, Or.inr ⟨rfl, rfl, rfl, (t3_ 96 rfl rfl)⟩⟩
theorem foX7_52 : FO RX7 52 7 18 := ⟨RX7, TX7, 25, rfl, by decide, inX7, (Or.inl (t3_ 97 rfl rfl))⟩
theorem fpX7_52 : FP RX7 "<init>" 52 7 18 (.array .int) := ⟨RX7, TX7, 25, tyX7, rfl, by decide, inX7, tyX7_ok, nmX7, by decide +kernel, Or.inr ⟨rfl, rfl, rfl, (t3_ 97 rfl rfl)⟩⟩
theorem foX7_55 : FO RX7 55 7 19 := ⟨RX7, TX7, 25, rfl, by decide, inX7, (Or.inl (t3_ 98 rfl rfl))⟩
theorem fpX7_55 : FP RX7 "<init>" 55 7 19 (.array .int) := ⟨RX7, TX7, 25, tyX7, rfl, by decide, inX7, tyX7_ok, nmX7, by decide +kernel, Or.inr ⟨rfl, rfl, rfl, (t3_ 98 rfl rfl)⟩⟩
theorem foX7_159 : FO RX7 159 7 20 := ⟨RX7, TX7, 25, rfl, by decide, inX7, (Or.inl (t3_ 99 rfl rfl))⟩
theorem fpX7_159 (nm : String) : FP RX7 nm 159 7 20 (.int) := ⟨RX7, TX7, 25, tyX7, rfl, by decide, inX7, tyX7_ok, nmX7, by decide +kernel, Or.inl ⟨rfl, (Or.inl (t3_ 99 rfl rfl))⟩⟩
theorem foX7_150 : FO RX7 150 7 21 := ⟨RX7, TX7, 25, rfl, by decide, inX7, (Or.inl (t3_ 100 rfl rfl))⟩
theorem fpX7_150 (nm : String) : FP RX7 nm 150 7 21 (.boolean) := ⟨RX7, TX7, 25, tyX7, rfl, by decide, inX7, tyX7_ok, nmX7, by decide +kernel, Or.inl ⟨rfl, (Or.inl (t3_ 100 rfl rfl))⟩⟩
theorem foX7_58 : FO RX7 58 7 22 := ⟨RX7, TX7, 25, rfl, by decide, inX7, (Or.inl (t3_ 101 rfl rfl))⟩
theorem fpX7_58 (nm : String) : FP RX7 nm 58 7 22 (.int) := ⟨RX7, TX7, 25, tyX7, rfl, by decide, inX7, tyX7_ok, nmX7, by decide +kernel, Or.inl ⟨rfl, (Or.inl (t3_ 101 rfl rfl))⟩⟩
theorem foX7_62 : FO RX7 62 7 23 := ⟨RX7, TX7, 25, rfl, by decide, inX7, (Or.inl (t3_ 102 rfl rfl))⟩
theorem fpX7_62 : FP RX7 "<init>" 62 7 23 (.array .int) := ⟨RX7, TX7, 25, tyX7, rfl, by decide, inX7, tyX7_ok, nmX7, by decide +kernel, Or.inr ⟨rfl, rfl, rfl, (t3_ 102 rfl rfl)⟩⟩
theorem foX7_65 : FO RX7 65 7 24 := ⟨RX7, TX7, 25, rfl, by decide, inX7, (Or.inl (t3_ 103 rfl rfl))⟩
theorem fpX7_65 : FP RX7 "<init>" 65 7 24 (.array .int) := ⟨RX7, TX7, 25, tyX7, rfl, by decide, inX7, tyX7_ok, nmX7, by decide +kernel, Or.inr ⟨rfl, rfl, rfl, (t3_ 103 rfl rfl)⟩⟩
theorem cvL_17 : CV RL 17 yX7_caves tX7_caves 1 := ⟨mwX7_caves, (t3_ 156 rfl rfl), (t3_ 157 rfl rfl), (t3_ 158 rfl rfl)⟩
theorem cvX7_77 : CV RX7 77 yX7_changes tX7_changes 0 := ⟨mwX7_changes, (t3_ 160 rfl rfl), (t3_ 162 rfl rfl), (sm_ 19 rfl rfl)⟩
theorem cvX7_71 : CV RX7 71 yX7_anew tX7_anew 0 := ⟨mwX7_anew, (t3_ 164 rfl rfl), (t3_ 165 rfl rfl), (t3_ 166 rfl rfl)⟩
theorem cvX7_110 : CV RX7 110 yX7_begins tX7_begins 0 := ⟨mwX7_begins, (t3_ 168 rfl rfl), (t3_ 170 rfl rfl), (sm_ 20 rfl rfl)⟩
theorem cvX7_113 : CV RX7 113 yX7_keeps tX7_keeps 0 := ⟨mwX7_keeps, (t3_ 172 rfl rfl), (t3_ 174 rfl rfl), (sm_ 21 rfl rfl)⟩
theorem cvL_22 : CV RL 22 yX7_passage tX7_passage 2 := ⟨mwX7_passage, (t3_ 176 rfl rfl), (t3_ 177 rfl rfl), (t3_ 178 rfl rfl)⟩
theorem cvX7_80 : CV RX7 80 yX7_isCave tX7_isCave 1 := ⟨mwX7_isCave, (t3_ 180 rfl rfl), (t3_ 182 rfl rfl), (sm_ 22 rfl rfl)⟩
theorem cvL_26 : CV RL 26 yX7_drop tX7_drop 1 := ⟨mwX7_drop, (t3_ 184 rfl rfl), (t3_ 185 rfl rfl), (t3_ 186 rfl rfl)⟩
theorem cvX7_84 : CV RX7 84 yX7_isPassage tX7_isPassage 1 := ⟨mwX7_isPassage, (t3_ 188 rfl rfl), (t3_ 190 rfl rfl), (sm_ 23 rfl rfl)⟩
theorem cvL_30 : CV RL 30 yX7_mouth tX7_mouth 1 := ⟨mwX7_mouth, (t3_ 192 rfl rfl), (t3_ 193 rfl rfl), (t3_ 194 rfl rfl)⟩
theorem cvL_44 : CV RL 44 yX7_anew tX7_anew 0 := ⟨mwX7_anew, (t3_ 196 rfl rfl), (t3_ 165 rfl rfl), (t3_ 166 rfl rfl)⟩
theorem cvL_35 : CV RL 35 yX7_order tX7_order 3 := ⟨mwX7_order, (t3_ 197 rfl rfl), (t3_ 198 rfl rfl), (t3_ 199 rfl rfl)⟩
theorem cvX7_116 : CV RX7 116 yX7_isAt tX7_isAt 2 := ⟨mwX7_isAt, (t3_ 201 rfl rfl), (t3_ 203 rfl rfl), (sm_ 24 rfl rfl)⟩
theorem cvX7_120 : CV RX7 120 yX7_comes tX7_comes 1 := ⟨mwX7_comes, (t3_ 205 rfl rfl), (t3_ 207 rfl rfl), (sm_ 25 rfl rfl)⟩
theorem cvX7_123 : CV RX7 123 yX7_below tX7_below 0 := ⟨mwX7_below, (t3_ 209 rfl rfl), (t3_ 211 rfl rfl), (sm_ 26 rfl rfl)⟩
theorem cvX7_127 : CV RX7 127 yX7_does tX7_does 3 := ⟨mwX7_does, (t3_ 213 rfl rfl), (t3_ 215 rfl rfl), (sm_ 27 rfl rfl)⟩
theorem cvX7_100 : CV RX7 100 yX7_other tX7_other 2 := ⟨mwX7_other, (t3_ 217 rfl rfl), (t3_ 219 rfl rfl), (sm_ 28 rfl rfl)⟩
theorem cvX7_103 : CV RX7 103 yX7_settles tX7_settles 1 := ⟨mwX7_settles, (t3_ 221 rfl rfl), (t3_ 223 rfl rfl), (sm_ 29 rfl rfl)⟩
theorem cvX7_97 : CV RX7 97 yX7_spreads tX7_spreads 0 := ⟨mwX7_spreads, (t3_ 225 rfl rfl), (t3_ 227 rfl rfl), (sm_ 30 rfl rfl)⟩
theorem cvL_40 : CV RL 40 yX7_undo tX7_undo 0 := ⟨mwX7_undo, (t3_ 229 rfl rfl), (t3_ 230 rfl rfl), (t3_ 231 rfl rfl)⟩
theorem cvL_49 : CV RL 49 yX7_count tX7_count 1 := ⟨mwX7_count, (t3_ 233 rfl rfl), (t3_ 234 rfl rfl), (t3_ 235 rfl rfl)⟩
theorem cvX7_131 : CV RX7 131 yX7_party tX7_party 0 := ⟨mwX7_party, (t3_ 237 rfl rfl), (t3_ 239 rfl rfl), (sm_ 31 rfl rfl)⟩
theorem csX7_134 : CS RX7 134 yX7_bits tX7_bits 1 := ⟨mwX7_bits, (t4_ 1 rfl rfl), (t4_ 2 rfl rfl)⟩
theorem cvX7_138 : CV RX7 138 yX7_passages tX7_passages 0 := ⟨mwX7_passages, (t4_ 4 rfl rfl), (t4_ 6 rfl rfl), (sm_ 32 rfl rfl)⟩
theorem cvX7_141 : CV RX7 141 yX7_pieces tX7_pieces 0 := ⟨mwX7_pieces, (t4_ 8 rfl rfl), (t4_ 10 rfl rfl), (sm_ 33 rfl rfl)⟩
theorem cvX7_87 : CV RX7 87 yX7_reached tX7_reached 2 := ⟨mwX7_reached, (t4_ 12 rfl rfl), (t4_ 14 rfl rfl), (sm_ 34 rfl rfl)⟩
theorem cvL_53 : CV RL 53 yX7_look tX7_look 2 := ⟨mwX7_look, (t4_ 16 rfl rfl), (t4_ 17 rfl rfl), (t4_ 18 rfl rfl)⟩
theorem cvX7_144 : CV RX7 144 yX7_degree tX7_degree 1 := ⟨mwX7_degree, (t4_ 20 rfl rfl), (t4_ 22 rfl rfl), (sm_ 35 rfl rfl)⟩
theorem cvX7_147 : CV RX7 147 yX7_placeOf tX7_placeOf 1 := ⟨mwX7_placeOf, (t4_ 24 rfl rfl), (t4_ 26 rfl rfl), (sm_ 36 rfl rfl)⟩
theorem cvL_57 : CV RL 57 yX7_fewest tX7_fewest 1 := ⟨mwX7_fewest, (t4_ 28 rfl rfl), (t4_ 29 rfl rfl), (t4_ 30 rfl rfl)⟩
theorem cvX7_181 : CV RX7 181 yX7_isSmall tX7_isSmall 1 := ⟨mwX7_isSmall, (t4_ 32 rfl rfl), (t4_ 34 rfl rfl), (sm_ 37 rfl rfl)⟩
theorem cvX7_184 : CV RX7 184 yX7_finds tX7_finds 2 := ⟨mwX7_finds, (t4_ 36 rfl rfl), (t4_ 38 rfl rfl), (sm_ 38 rfl rfl)⟩
theorem cvX7_162 : CV RX7 162 yX7_meets tX7_meets 3 := ⟨mwX7_meets, (t4_ 40 rfl rfl), (t4_ 42 rfl rfl), (sm_ 39 rfl rfl)⟩
theorem cvX7_154 : CV RX7 154 yX7_number tX7_number 1 := ⟨mwX7_number, (t4_ 44 rfl rfl), (t4_ 46 rfl rfl), (sm_ 40 rfl rfl)⟩
theorem kcX7_157 : Jvm.Cond.constant RX7 157 (-1640531535) ∈ tb_ := (t4_ 48 rfl rfl)
theorem kcX7_158 : Jvm.Cond.constant RX7 158 (524287) ∈ tb_ := (t4_ 49 rfl rfl)
theorem cvX7_166 : CV RX7 166 yX7_shows tX7_shows 2 := ⟨mwX7_shows, (t4_ 50 rfl rfl), (t4_ 52 rfl rfl), (sm_ 41 rfl rfl)⟩
theorem cvX7_170 : CV RX7 170 yX7_may tX7_may 4 := ⟨mwX7_may, (t4_ 54 rfl rfl), (t4_ 56 rfl rfl), (sm_ 42 rfl rfl)⟩
theorem cvX7_174 : CV RX7 174 yX7_hangs tX7_hangs 1 := ⟨mwX7_hangs, (t4_ 58 rfl rfl), (t4_ 60 rfl rfl), (sm_ 43 rfl rfl)⟩
theorem cvX7_177 : CV RX7 177 yX7_isSearched tX7_isSearched 0 := ⟨mwX7_isSearched, (t4_ 62 rfl rfl), (t4_ 64 rfl rfl), (sm_ 44 rfl rfl)⟩
theorem cvL_61 : CV RL 61 yX7_plan tX7_plan 2 := ⟨mwX7_plan, (t4_ 66 rfl rfl), (t4_ 67 rfl rfl), (t4_ 68 rfl rfl)⟩
theorem cvL_65 : CV RL 65 yX7_witness tX7_witness 2 := ⟨mwX7_witness, (t4_ 70 rfl rfl), (t4_ 71 rfl rfl), (t4_ 72 rfl rfl)⟩
theorem cvL_69 : CV RL 69 yX7_judge tX7_judge 1 := ⟨mwX7_judge, (t4_ 74 rfl rfl), (t4_ 75 rfl rfl), (t4_ 76 rfl rfl)⟩
theorem cvL_74 : CV RL 74 yX7_place tX7_place 2 := ⟨mwX7_place, (t4_ 78 rfl rfl), (t4_ 79 rfl rfl), (t4_ 80 rfl rfl)⟩
theorem cvL_78 : CV RL 78 yX7_cut tX7_cut 1 := ⟨mwX7_cut, (t4_ 82 rfl rfl), (t4_ 83 rfl rfl), (t4_ 84 rfl rfl)⟩
theorem cvX7_190 : CV RX7 190 yX7_cutBehind tX7_cutBehind 1 := ⟨mwX7_cutBehind, (t4_ 86 rfl rfl), (t4_ 88 rfl rfl), (sm_ 45 rfl rfl)⟩
theorem cvX7_187 : CV RX7 187 yX7_cutOf tX7_cutOf 1 := ⟨mwX7_cutOf, (t4_ 90 rfl rfl), (t4_ 92 rfl rfl), (sm_ 46 rfl rfl)⟩
theorem cvL_83 : CV RL 83 yX7_width tX7_width 0 := ⟨mwX7_width, (t4_ 94 rfl rfl), (t4_ 95 rfl rfl), (t4_ 96 rfl rfl)⟩
theorem cvX7_193 : CV RX7 193 yX7_worst tX7_worst 1 := ⟨mwX7_worst, (t4_ 98 rfl rfl), (t4_ 100 rfl rfl), (sm_ 47 rfl rfl)⟩
theorem ob_inst : Jvm.Cond.instanceMethod objectInit ∈ tb_ := (t1_ 18 rfl rfl)
theorem ob_code : Jvm.Cond.code objectInit ⟨#[0xb1]⟩ 1 none ∈ tb_ := (t1_ 19 rfl rfl)
theorem ar_int : Jvm.Cond.arrayClass .int ∈ tb_ := (t1_ 57 rfl rfl)
theorem ar_boolean : Jvm.Cond.arrayClass .boolean ∈ tb_ := (t3_ 155 rfl rfl)
end
section
theorem dX0_init_0 : decode cX0_init 0 = .ok (.aload_n 0, 1) := by decide +kernel
theorem dX0_init_1 : decode cX0_init 1 = .ok (.invokespecial 3, 3) := by decide +kernel
theorem dX0_init_4 : decode cX0_init 4 = .ok (.aload_n 0, 1) := by decide +kernel
theorem dX0_init_5 : decode cX0_init 5 = .ok (.sipush 2048, 3) := by decide +kernel
theorem dX0_init_8 : decode cX0_init 8 = .ok (.newarray .int, 2) := by decide +kernel
theorem dX0_init_10 : decode cX0_init 10 = .ok (.putfield 11, 3) := by decide +kernel
theorem dX0_init_13 : decode cX0_init 13 = .ok (.aload_n 0, 1) := by decide +kernel
theorem dX0_init_14 : decode cX0_init 14 = .ok (.sipush 1604, 3) := by decide +kernel
theorem dX0_init_17 : decode cX0_init 17 = .ok (.newarray .int, 2) := by decide +kernel
theorem dX0_init_19 : decode cX0_init 19 = .ok (.putfield 15, 3) := by decide +kernel
theorem dX0_init_22 : decode cX0_init 22 = .ok (.aload_n 0, 1) := by decide +kernel
theorem dX0_init_23 : decode cX0_init 23 = .ok (.sipush 1604, 3) := by decide +kernel
theorem dX0_init_26 : decode cX0_init 26 = .ok (.newarray .int, 2) := by decide +kernel
theorem dX0_init_28 : decode cX0_init 28 = .ok (.putfield 18, 3) := by decide +kernel
theorem dX0_init_31 : decode cX0_init 31 = .ok (.aload_n 0, 1) := by decide +kernel
theorem dX0_init_32 : decode cX0_init 32 = .ok (.sipush 1604, 3) := by decide +kernel
theorem dX0_init_35 : decode cX0_init 35 = .ok (.newarray .int, 2) := by decide +kernel
theorem dX0_init_37 : decode cX0_init 37 = .ok (.putfield 21, 3) := by decide +kernel
theorem dX0_init_40 : decode cX0_init 40 = .ok (.aload_n 0, 1) := by decide +kernel
theorem dX0_init_41 : decode cX0_init 41 = .ok (.aload_n 1, 1) := by decide +kernel
theorem dX0_init_42 : decode cX0_init 42 = .ok (.putfield 24, 3) := by decide +kernel
theorem dX0_init_45 : decode cX0_init 45 = .ok (.return_, 1) := by decide +kernel
theorem dX0_finds_0 : decode cX0_finds 0 = .ok (.aload_n 0, 1) := by decide +kernel
theorem dX0_finds_1 : decode cX0_finds 1 = .ok (.iload_n 1, 1) := by decide +kernel
theorem dX0_finds_2 : decode cX0_finds 2 = .ok (.putfield 28, 3) := by decide +kernel
theorem dX0_finds_5 : decode cX0_finds 5 = .ok (.aload_n 0, 1) := by decide +kernel
theorem dX0_finds_6 : decode cX0_finds 6 = .ok (.iload_n 2, 1) := by decide +kernel
theorem dX0_finds_7 : decode cX0_finds 7 = .ok (.putfield 32, 3) := by decide +kernel
theorem dX0_finds_10 : decode cX0_finds 10 = .ok (.aload_n 0, 1) := by decide +kernel
theorem dX0_finds_11 : decode cX0_finds 11 = .ok (.iconst 0, 1) := by decide +kernel
theorem dX0_finds_12 : decode cX0_finds 12 = .ok (.putfield 35, 3) := by decide +kernel
theorem dX0_finds_15 : decode cX0_finds 15 = .ok (.aload_n 0, 1) := by decide +kernel
theorem dX0_finds_16 : decode cX0_finds 16 = .ok (.iconst (-1), 1) := by decide +kernel
theorem dX0_finds_17 : decode cX0_finds 17 = .ok (.putfield 38, 3) := by decide +kernel
theorem dX0_finds_20 : decode cX0_finds 20 = .ok (.aload_n 0, 1) := by decide +kernel
theorem dX0_finds_21 : decode cX0_finds 21 = .ok (.getfield 11, 3) := by decide +kernel
theorem dX0_finds_24 : decode cX0_finds 24 = .ok (.iconst 0, 1) := by decide +kernel
theorem dX0_finds_25 : decode cX0_finds 25 = .ok (.invokestatic 41, 3) := by decide +kernel
theorem dX0_finds_28 : decode cX0_finds 28 = .ok (.aload_n 0, 1) := by decide +kernel
theorem dX0_finds_29 : decode cX0_finds 29 = .ok (.iconst (-1), 1) := by decide +kernel
theorem dX0_finds_30 : decode cX0_finds 30 = .ok (.putfield 47, 3) := by decide +kernel
theorem dX0_finds_33 : decode cX0_finds 33 = .ok (.aload_n 0, 1) := by decide +kernel
theorem dX0_finds_34 : decode cX0_finds 34 = .ok (.iconst 0, 1) := by decide +kernel
theorem dX0_finds_35 : decode cX0_finds 35 = .ok (.putfield 50, 3) := by decide +kernel
theorem dX0_finds_38 : decode cX0_finds 38 = .ok (.aload_n 0, 1) := by decide +kernel
theorem dX0_finds_39 : decode cX0_finds 39 = .ok (.iconst 0, 1) := by decide +kernel
theorem dX0_finds_40 : decode cX0_finds 40 = .ok (.aload_n 0, 1) := by decide +kernel
theorem dX0_finds_41 : decode cX0_finds 41 = .ok (.getfield 24, 3) := by decide +kernel
theorem dX0_finds_44 : decode cX0_finds 44 = .ok (.invokevirtual 54, 3) := by decide +kernel
theorem dX0_finds_47 : decode cX0_finds 47 = .ok (.iconst 0, 1) := by decide +kernel
theorem dX0_finds_48 : decode cX0_finds 48 = .ok (.iconst 0, 1) := by decide +kernel
theorem dX0_finds_49 : decode cX0_finds 49 = .ok (.iconst 0, 1) := by decide +kernel
theorem dX0_finds_50 : decode cX0_finds 50 = .ok (.iconst (-1), 1) := by decide +kernel
theorem dX0_finds_51 : decode cX0_finds 51 = .ok (.invokevirtual 60, 3) := by decide +kernel
theorem dX0_finds_54 : decode cX0_finds 54 = .ok (.iconst 0, 1) := by decide +kernel
theorem dX0_finds_55 : decode cX0_finds 55 = .ok (.istore_n 3, 1) := by decide +kernel
theorem dX0_finds_56 : decode cX0_finds 56 = .ok (.iload_n 3, 1) := by decide +kernel
theorem dX0_finds_57 : decode cX0_finds 57 = .ok (.aload_n 0, 1) := by decide +kernel
theorem dX0_finds_58 : decode cX0_finds 58 = .ok (.getfield 35, 3) := by decide +kernel
theorem dX0_finds_61 : decode cX0_finds 61 = .ok (.if_icmp .ge 41, 3) := by decide +kernel
theorem dX0_finds_64 : decode cX0_finds 64 = .ok (.iload_n 3, 1) := by decide +kernel
theorem dX0_finds_65 : decode cX0_finds 65 = .ok (.sipush 1604, 3) := by decide +kernel
theorem dX0_finds_68 : decode cX0_finds 68 = .ok (.if_icmp .ge 34, 3) := by decide +kernel
theorem dX0_finds_71 : decode cX0_finds 71 = .ok (.aload_n 0, 1) := by decide +kernel
theorem dX0_finds_72 : decode cX0_finds 72 = .ok (.getfield 38, 3) := by decide +kernel
theorem dX0_finds_75 : decode cX0_finds 75 = .ok (.iconst (-1), 1) := by decide +kernel
theorem dX0_finds_76 : decode cX0_finds 76 = .ok (.if_icmp .ne 26, 3) := by decide +kernel
theorem dX0_finds_79 : decode cX0_finds 79 = .ok (.aload_n 0, 1) := by decide +kernel
theorem dX0_finds_80 : decode cX0_finds 80 = .ok (.iload_n 3, 1) := by decide +kernel
theorem dX0_finds_81 : decode cX0_finds 81 = .ok (.invokevirtual 64, 3) := by decide +kernel
theorem dX0_finds_84 : decode cX0_finds 84 = .ok (.aload_n 0, 1) := by decide +kernel
theorem dX0_finds_85 : decode cX0_finds 85 = .ok (.invokevirtual 68, 3) := by decide +kernel
theorem dX0_finds_88 : decode cX0_finds 88 = .ok (.aload_n 0, 1) := by decide +kernel
theorem dX0_finds_89 : decode cX0_finds 89 = .ok (.invokevirtual 71, 3) := by decide +kernel
theorem dX0_finds_92 : decode cX0_finds 92 = .ok (.aload_n 0, 1) := by decide +kernel
theorem dX0_finds_93 : decode cX0_finds 93 = .ok (.invokevirtual 74, 3) := by decide +kernel
theorem dX0_finds_96 : decode cX0_finds 96 = .ok (.iinc 3 1, 3) := by decide +kernel
theorem dX0_finds_99 : decode cX0_finds 99 = .ok (.goto (-43), 3) := by decide +kernel
theorem dX0_finds_102 : decode cX0_finds 102 = .ok (.aload_n 0, 1) := by decide +kernel
theorem dX0_finds_103 : decode cX0_finds 103 = .ok (.getfield 38, 3) := by decide +kernel
theorem dX0_finds_106 : decode cX0_finds 106 = .ok (.iconst (-1), 1) := by decide +kernel
theorem dX0_finds_107 : decode cX0_finds 107 = .ok (.if_icmp .eq 7, 3) := by decide +kernel
theorem dX0_finds_110 : decode cX0_finds 110 = .ok (.iconst 1, 1) := by decide +kernel
theorem dX0_finds_111 : decode cX0_finds 111 = .ok (.goto 4, 3) := by decide +kernel
theorem dX0_finds_114 : decode cX0_finds 114 = .ok (.iconst 0, 1) := by decide +kernel
theorem dX0_finds_115 : decode cX0_finds 115 = .ok (.ireturn, 1) := by decide +kernel
theorem dX0_wayToGoal_0 : decode cX0_wayToGoal 0 = .ok (.iconst 0, 1) := by decide +kernel
theorem dX0_wayToGoal_1 : decode cX0_wayToGoal 1 = .ok (.istore_n 1, 1) := by decide +kernel
theorem dX0_wayToGoal_2 : decode cX0_wayToGoal 2 = .ok (.aload_n 0, 1) := by decide +kernel
theorem dX0_wayToGoal_3 : decode cX0_wayToGoal 3 = .ok (.getfield 38, 3) := by decide +kernel
theorem dX0_wayToGoal_6 : decode cX0_wayToGoal 6 = .ok (.istore_n 2, 1) := by decide +kernel
theorem dX0_wayToGoal_7 : decode cX0_wayToGoal 7 = .ok (.iload_n 2, 1) := by decide +kernel
theorem dX0_wayToGoal_8 : decode cX0_wayToGoal 8 = .ok (.ifCond .le 30, 3) := by decide +kernel
theorem dX0_wayToGoal_11 : decode cX0_wayToGoal 11 = .ok (.iload_n 2, 1) := by decide +kernel
theorem dX0_wayToGoal_12 : decode cX0_wayToGoal 12 = .ok (.sipush 1604, 3) := by decide +kernel
theorem dX0_wayToGoal_15 : decode cX0_wayToGoal 15 = .ok (.if_icmp .ge 23, 3) := by decide +kernel
theorem dX0_wayToGoal_18 : decode cX0_wayToGoal 18 = .ok (.iload_n 1, 1) := by decide +kernel
theorem dX0_wayToGoal_19 : decode cX0_wayToGoal 19 = .ok (.sipush 1604, 3) := by decide +kernel
theorem dX0_wayToGoal_22 : decode cX0_wayToGoal 22 = .ok (.if_icmp .ge 16, 3) := by decide +kernel
theorem dX0_wayToGoal_25 : decode cX0_wayToGoal 25 = .ok (.iinc 1 1, 3) := by decide +kernel
theorem dX0_wayToGoal_28 : decode cX0_wayToGoal 28 = .ok (.aload_n 0, 1) := by decide +kernel
theorem dX0_wayToGoal_29 : decode cX0_wayToGoal 29 = .ok (.getfield 18, 3) := by decide +kernel
theorem dX0_wayToGoal_32 : decode cX0_wayToGoal 32 = .ok (.iload_n 2, 1) := by decide +kernel
theorem dX0_wayToGoal_33 : decode cX0_wayToGoal 33 = .ok (.iaload, 1) := by decide +kernel
theorem dX0_wayToGoal_34 : decode cX0_wayToGoal 34 = .ok (.istore_n 2, 1) := by decide +kernel
theorem dX0_wayToGoal_35 : decode cX0_wayToGoal 35 = .ok (.goto (-28), 3) := by decide +kernel
theorem dX0_wayToGoal_38 : decode cX0_wayToGoal 38 = .ok (.new 77, 3) := by decide +kernel
theorem dX0_wayToGoal_41 : decode cX0_wayToGoal 41 = .ok (.dup, 1) := by decide +kernel
theorem dX0_wayToGoal_42 : decode cX0_wayToGoal 42 = .ok (.iload_n 1, 1) := by decide +kernel
theorem dX0_wayToGoal_43 : decode cX0_wayToGoal 43 = .ok (.invokespecial 79, 3) := by decide +kernel
theorem dX0_wayToGoal_46 : decode cX0_wayToGoal 46 = .ok (.astore_n 2, 1) := by decide +kernel
theorem dX0_wayToGoal_47 : decode cX0_wayToGoal 47 = .ok (.iload_n 1, 1) := by decide +kernel
theorem dX0_wayToGoal_48 : decode cX0_wayToGoal 48 = .ok (.istore_n 3, 1) := by decide +kernel
theorem dX0_wayToGoal_49 : decode cX0_wayToGoal 49 = .ok (.aload_n 0, 1) := by decide +kernel
theorem dX0_wayToGoal_50 : decode cX0_wayToGoal 50 = .ok (.getfield 38, 3) := by decide +kernel
theorem dX0_wayToGoal_53 : decode cX0_wayToGoal 53 = .ok (.istore 4, 2) := by decide +kernel
theorem dX0_wayToGoal_55 : decode cX0_wayToGoal 55 = .ok (.iload 4, 2) := by decide +kernel
theorem dX0_wayToGoal_57 : decode cX0_wayToGoal 57 = .ok (.ifCond .le 42, 3) := by decide +kernel
theorem dX0_wayToGoal_60 : decode cX0_wayToGoal 60 = .ok (.iload 4, 2) := by decide +kernel
theorem dX0_wayToGoal_62 : decode cX0_wayToGoal 62 = .ok (.sipush 1604, 3) := by decide +kernel
theorem dX0_wayToGoal_65 : decode cX0_wayToGoal 65 = .ok (.if_icmp .ge 34, 3) := by decide +kernel
theorem dX0_wayToGoal_68 : decode cX0_wayToGoal 68 = .ok (.iload_n 3, 1) := by decide +kernel
theorem dX0_wayToGoal_69 : decode cX0_wayToGoal 69 = .ok (.ifCond .le 30, 3) := by decide +kernel
theorem dX0_wayToGoal_72 : decode cX0_wayToGoal 72 = .ok (.iinc 3 (-1), 3) := by decide +kernel
theorem dX0_wayToGoal_75 : decode cX0_wayToGoal 75 = .ok (.aload_n 2, 1) := by decide +kernel
theorem dX0_wayToGoal_76 : decode cX0_wayToGoal 76 = .ok (.iload_n 3, 1) := by decide +kernel
theorem dX0_wayToGoal_77 : decode cX0_wayToGoal 77 = .ok (.aload_n 0, 1) := by decide +kernel
theorem dX0_wayToGoal_78 : decode cX0_wayToGoal 78 = .ok (.getfield 21, 3) := by decide +kernel
theorem dX0_wayToGoal_81 : decode cX0_wayToGoal 81 = .ok (.iload 4, 2) := by decide +kernel
theorem dX0_wayToGoal_83 : decode cX0_wayToGoal 83 = .ok (.iaload, 1) := by decide +kernel
theorem dX0_wayToGoal_84 : decode cX0_wayToGoal 84 = .ok (.invokevirtual 81, 3) := by decide +kernel
theorem dX0_wayToGoal_87 : decode cX0_wayToGoal 87 = .ok (.aload_n 0, 1) := by decide +kernel
theorem dX0_wayToGoal_88 : decode cX0_wayToGoal 88 = .ok (.getfield 18, 3) := by decide +kernel
theorem dX0_wayToGoal_91 : decode cX0_wayToGoal 91 = .ok (.iload 4, 2) := by decide +kernel
theorem dX0_wayToGoal_93 : decode cX0_wayToGoal 93 = .ok (.iaload, 1) := by decide +kernel
theorem dX0_wayToGoal_94 : decode cX0_wayToGoal 94 = .ok (.istore 4, 2) := by decide +kernel
theorem dX0_wayToGoal_96 : decode cX0_wayToGoal 96 = .ok (.goto (-41), 3) := by decide +kernel
theorem dX0_wayToGoal_99 : decode cX0_wayToGoal 99 = .ok (.aload_n 2, 1) := by decide +kernel
theorem dX0_wayToGoal_100 : decode cX0_wayToGoal 100 = .ok (.areturn, 1) := by decide +kernel
theorem dX0_takeUp_0 : decode cX0_takeUp 0 = .ok (.aload_n 0, 1) := by decide +kernel
theorem dX0_takeUp_1 : decode cX0_takeUp 1 = .ok (.getfield 15, 3) := by decide +kernel
theorem dX0_takeUp_4 : decode cX0_takeUp 4 = .ok (.iload_n 1, 1) := by decide +kernel
theorem dX0_takeUp_5 : decode cX0_takeUp 5 = .ok (.iaload, 1) := by decide +kernel
theorem dX0_takeUp_6 : decode cX0_takeUp 6 = .ok (.istore_n 2, 1) := by decide +kernel
theorem dX0_takeUp_7 : decode cX0_takeUp 7 = .ok (.aload_n 0, 1) := by decide +kernel
theorem dX0_takeUp_8 : decode cX0_takeUp 8 = .ok (.iload_n 1, 1) := by decide +kernel
theorem dX0_takeUp_9 : decode cX0_takeUp 9 = .ok (.putfield 47, 3) := by decide +kernel
theorem dX0_takeUp_12 : decode cX0_takeUp 12 = .ok (.aload_n 0, 1) := by decide +kernel
theorem dX0_takeUp_13 : decode cX0_takeUp 13 = .ok (.iload_n 2, 1) := by decide +kernel
theorem dX0_takeUp_14 : decode cX0_takeUp 14 = .ok (.sipush 4095, 3) := by decide +kernel
theorem dX0_takeUp_17 : decode cX0_takeUp 17 = .ok (.iand, 1) := by decide +kernel
theorem dX0_takeUp_18 : decode cX0_takeUp 18 = .ok (.putfield 85, 3) := by decide +kernel
theorem dX0_takeUp_21 : decode cX0_takeUp 21 = .ok (.aload_n 0, 1) := by decide +kernel
theorem dX0_takeUp_22 : decode cX0_takeUp 22 = .ok (.iload_n 2, 1) := by decide +kernel
theorem dX0_takeUp_23 : decode cX0_takeUp 23 = .ok (.bipush 12, 2) := by decide +kernel
theorem dX0_takeUp_25 : decode cX0_takeUp 25 = .ok (.ishr, 1) := by decide +kernel
theorem dX0_takeUp_26 : decode cX0_takeUp 26 = .ok (.bipush 63, 2) := by decide +kernel
theorem dX0_takeUp_28 : decode cX0_takeUp 28 = .ok (.iand, 1) := by decide +kernel
theorem dX0_takeUp_29 : decode cX0_takeUp 29 = .ok (.putfield 88, 3) := by decide +kernel
theorem dX0_takeUp_32 : decode cX0_takeUp 32 = .ok (.aload_n 0, 1) := by decide +kernel
theorem dX0_takeUp_33 : decode cX0_takeUp 33 = .ok (.iload_n 2, 1) := by decide +kernel
theorem dX0_takeUp_34 : decode cX0_takeUp 34 = .ok (.bipush 18, 2) := by decide +kernel
theorem dX0_takeUp_36 : decode cX0_takeUp 36 = .ok (.ishr, 1) := by decide +kernel
theorem dX0_takeUp_37 : decode cX0_takeUp 37 = .ok (.ifCond .eq 7, 3) := by decide +kernel
theorem dX0_takeUp_40 : decode cX0_takeUp 40 = .ok (.iconst 1, 1) := by decide +kernel
theorem dX0_takeUp_41 : decode cX0_takeUp 41 = .ok (.goto 4, 3) := by decide +kernel
theorem dX0_takeUp_44 : decode cX0_takeUp 44 = .ok (.iconst 0, 1) := by decide +kernel
theorem dX0_takeUp_45 : decode cX0_takeUp 45 = .ok (.putfield 50, 3) := by decide +kernel
theorem dX0_takeUp_48 : decode cX0_takeUp 48 = .ok (.aload_n 0, 1) := by decide +kernel
theorem dX0_takeUp_49 : decode cX0_takeUp 49 = .ok (.iconst 0, 1) := by decide +kernel
theorem dX0_takeUp_50 : decode cX0_takeUp 50 = .ok (.putfield 91, 3) := by decide +kernel
theorem dX0_takeUp_53 : decode cX0_takeUp 53 = .ok (.aload_n 0, 1) := by decide +kernel
theorem dX0_takeUp_54 : decode cX0_takeUp 54 = .ok (.iconst 0, 1) := by decide +kernel
theorem dX0_takeUp_55 : decode cX0_takeUp 55 = .ok (.putfield 94, 3) := by decide +kernel
theorem dX0_takeUp_58 : decode cX0_takeUp 58 = .ok (.iconst 0, 1) := by decide +kernel
theorem dX0_takeUp_59 : decode cX0_takeUp 59 = .ok (.istore_n 3, 1) := by decide +kernel
theorem dX0_takeUp_60 : decode cX0_takeUp 60 = .ok (.iload_n 3, 1) := by decide +kernel
theorem dX0_takeUp_61 : decode cX0_takeUp 61 = .ok (.bipush 6, 2) := by decide +kernel
theorem dX0_takeUp_63 : decode cX0_takeUp 63 = .ok (.if_icmp .ge 49, 3) := by decide +kernel
theorem dX0_takeUp_66 : decode cX0_takeUp 66 = .ok (.aload_n 0, 1) := by decide +kernel
theorem dX0_takeUp_67 : decode cX0_takeUp 67 = .ok (.getfield 85, 3) := by decide +kernel
theorem dX0_takeUp_70 : decode cX0_takeUp 70 = .ok (.iconst 2, 1) := by decide +kernel
theorem dX0_takeUp_71 : decode cX0_takeUp 71 = .ok (.iload_n 3, 1) := by decide +kernel
theorem dX0_takeUp_72 : decode cX0_takeUp 72 = .ok (.imul, 1) := by decide +kernel
theorem dX0_takeUp_73 : decode cX0_takeUp 73 = .ok (.ishr, 1) := by decide +kernel
theorem dX0_takeUp_74 : decode cX0_takeUp 74 = .ok (.iconst 3, 1) := by decide +kernel
theorem dX0_takeUp_75 : decode cX0_takeUp 75 = .ok (.iand, 1) := by decide +kernel
theorem dX0_takeUp_76 : decode cX0_takeUp 76 = .ok (.istore 4, 2) := by decide +kernel
theorem dX0_takeUp_78 : decode cX0_takeUp 78 = .ok (.aload_n 0, 1) := by decide +kernel
theorem dX0_takeUp_79 : decode cX0_takeUp 79 = .ok (.dup, 1) := by decide +kernel
theorem dX0_takeUp_80 : decode cX0_takeUp 80 = .ok (.getfield 94, 3) := by decide +kernel
theorem dX0_takeUp_83 : decode cX0_takeUp 83 = .ok (.iload 4, 2) := by decide +kernel
theorem dX0_takeUp_85 : decode cX0_takeUp 85 = .ok (.iadd, 1) := by decide +kernel
theorem dX0_takeUp_86 : decode cX0_takeUp 86 = .ok (.putfield 94, 3) := by decide +kernel
theorem dX0_takeUp_89 : decode cX0_takeUp 89 = .ok (.iload 4, 2) := by decide +kernel
theorem dX0_takeUp_91 : decode cX0_takeUp 91 = .ok (.ifCond .le 15, 3) := by decide +kernel
theorem dX0_takeUp_94 : decode cX0_takeUp 94 = .ok (.aload_n 0, 1) := by decide +kernel
theorem dX0_takeUp_95 : decode cX0_takeUp 95 = .ok (.dup, 1) := by decide +kernel
theorem dX0_takeUp_96 : decode cX0_takeUp 96 = .ok (.getfield 91, 3) := by decide +kernel
theorem dX0_takeUp_99 : decode cX0_takeUp 99 = .ok (.iconst 1, 1) := by decide +kernel
theorem dX0_takeUp_100 : decode cX0_takeUp 100 = .ok (.iload_n 3, 1) := by decide +kernel
theorem dX0_takeUp_101 : decode cX0_takeUp 101 = .ok (.ishl, 1) := by decide +kernel
theorem dX0_takeUp_102 : decode cX0_takeUp 102 = .ok (.ior, 1) := by decide +kernel
theorem dX0_takeUp_103 : decode cX0_takeUp 103 = .ok (.putfield 91, 3) := by decide +kernel
theorem dX0_takeUp_106 : decode cX0_takeUp 106 = .ok (.iinc 3 1, 3) := by decide +kernel
theorem dX0_takeUp_109 : decode cX0_takeUp 109 = .ok (.goto (-49), 3) := by decide +kernel
theorem dX0_takeUp_112 : decode cX0_takeUp 112 = .ok (.return_, 1) := by decide +kernel
theorem dX0_tryPuts_0 : decode cX0_tryPuts 0 = .ok (.iconst 0, 1) := by decide +kernel
theorem dX0_tryPuts_1 : decode cX0_tryPuts 1 = .ok (.istore_n 1, 1) := by decide +kernel
theorem dX0_tryPuts_2 : decode cX0_tryPuts 2 = .ok (.iload_n 1, 1) := by decide +kernel
theorem dX0_tryPuts_3 : decode cX0_tryPuts 3 = .ok (.aload_n 0, 1) := by decide +kernel
theorem dX0_tryPuts_4 : decode cX0_tryPuts 4 = .ok (.getfield 24, 3) := by decide +kernel
theorem dX0_tryPuts_7 : decode cX0_tryPuts 7 = .ok (.getfield 97, 3) := by decide +kernel
theorem dX0_tryPuts_10 : decode cX0_tryPuts 10 = .ok (.if_icmp .ge 74, 3) := by decide +kernel
theorem dX0_tryPuts_13 : decode cX0_tryPuts 13 = .ok (.aload_n 0, 1) := by decide +kernel
theorem dX0_tryPuts_14 : decode cX0_tryPuts 14 = .ok (.getfield 94, 3) := by decide +kernel
theorem dX0_tryPuts_17 : decode cX0_tryPuts 17 = .ok (.aload_n 0, 1) := by decide +kernel
theorem dX0_tryPuts_18 : decode cX0_tryPuts 18 = .ok (.getfield 32, 3) := by decide +kernel
theorem dX0_tryPuts_21 : decode cX0_tryPuts 21 = .ok (.if_icmp .ge 63, 3) := by decide +kernel
theorem dX0_tryPuts_24 : decode cX0_tryPuts 24 = .ok (.aload_n 0, 1) := by decide +kernel
theorem dX0_tryPuts_25 : decode cX0_tryPuts 25 = .ok (.getfield 24, 3) := by decide +kernel
theorem dX0_tryPuts_28 : decode cX0_tryPuts 28 = .ok (.aload_n 0, 1) := by decide +kernel
theorem dX0_tryPuts_29 : decode cX0_tryPuts 29 = .ok (.getfield 28, 3) := by decide +kernel
theorem dX0_tryPuts_32 : decode cX0_tryPuts 32 = .ok (.iconst 0, 1) := by decide +kernel
theorem dX0_tryPuts_33 : decode cX0_tryPuts 33 = .ok (.iload_n 1, 1) := by decide +kernel
theorem dX0_tryPuts_34 : decode cX0_tryPuts 34 = .ok (.aload_n 0, 1) := by decide +kernel
theorem dX0_tryPuts_35 : decode cX0_tryPuts 35 = .ok (.getfield 50, 3) := by decide +kernel
theorem dX0_tryPuts_38 : decode cX0_tryPuts 38 = .ok (.invokevirtual 100, 3) := by decide +kernel
theorem dX0_tryPuts_41 : decode cX0_tryPuts 41 = .ok (.ifCond .eq 37, 3) := by decide +kernel
theorem dX0_tryPuts_44 : decode cX0_tryPuts 44 = .ok (.aload_n 0, 1) := by decide +kernel
theorem dX0_tryPuts_45 : decode cX0_tryPuts 45 = .ok (.getfield 91, 3) := by decide +kernel
theorem dX0_tryPuts_48 : decode cX0_tryPuts 48 = .ok (.iconst 1, 1) := by decide +kernel
theorem dX0_tryPuts_49 : decode cX0_tryPuts 49 = .ok (.iload_n 1, 1) := by decide +kernel
theorem dX0_tryPuts_50 : decode cX0_tryPuts 50 = .ok (.ishl, 1) := by decide +kernel
theorem dX0_tryPuts_51 : decode cX0_tryPuts 51 = .ok (.ior, 1) := by decide +kernel
theorem dX0_tryPuts_52 : decode cX0_tryPuts 52 = .ok (.istore_n 2, 1) := by decide +kernel
theorem dX0_tryPuts_53 : decode cX0_tryPuts 53 = .ok (.aload_n 0, 1) := by decide +kernel
theorem dX0_tryPuts_54 : decode cX0_tryPuts 54 = .ok (.aload_n 0, 1) := by decide +kernel
theorem dX0_tryPuts_55 : decode cX0_tryPuts 55 = .ok (.getfield 85, 3) := by decide +kernel
theorem dX0_tryPuts_58 : decode cX0_tryPuts 58 = .ok (.iload_n 1, 1) := by decide +kernel
theorem dX0_tryPuts_59 : decode cX0_tryPuts 59 = .ok (.invokestatic 104, 3) := by decide +kernel
theorem dX0_tryPuts_62 : decode cX0_tryPuts 62 = .ok (.iadd, 1) := by decide +kernel
theorem dX0_tryPuts_63 : decode cX0_tryPuts 63 = .ok (.aload_n 0, 1) := by decide +kernel
theorem dX0_tryPuts_64 : decode cX0_tryPuts 64 = .ok (.getfield 88, 3) := by decide +kernel
theorem dX0_tryPuts_67 : decode cX0_tryPuts 67 = .ok (.iload_n 2, 1) := by decide +kernel
theorem dX0_tryPuts_68 : decode cX0_tryPuts 68 = .ok (.iconst (-1), 1) := by decide +kernel
theorem dX0_tryPuts_69 : decode cX0_tryPuts 69 = .ok (.ixor, 1) := by decide +kernel
theorem dX0_tryPuts_70 : decode cX0_tryPuts 70 = .ok (.iand, 1) := by decide +kernel
theorem dX0_tryPuts_71 : decode cX0_tryPuts 71 = .ok (.iload_n 2, 1) := by decide +kernel
theorem dX0_tryPuts_72 : decode cX0_tryPuts 72 = .ok (.iconst 0, 1) := by decide +kernel
theorem dX0_tryPuts_73 : decode cX0_tryPuts 73 = .ok (.iload_n 1, 1) := by decide +kernel
theorem dX0_tryPuts_74 : decode cX0_tryPuts 74 = .ok (.iconst (-1), 1) := by decide +kernel
theorem dX0_tryPuts_75 : decode cX0_tryPuts 75 = .ok (.invokevirtual 60, 3) := by decide +kernel
theorem dX0_tryPuts_78 : decode cX0_tryPuts 78 = .ok (.iinc 1 1, 3) := by decide +kernel
theorem dX0_tryPuts_81 : decode cX0_tryPuts 81 = .ok (.goto (-79), 3) := by decide +kernel
theorem dX0_tryPuts_84 : decode cX0_tryPuts 84 = .ok (.return_, 1) := by decide +kernel
theorem dX0_tryLifts_0 : decode cX0_tryLifts 0 = .ok (.iconst 0, 1) := by decide +kernel
theorem dX0_tryLifts_1 : decode cX0_tryLifts 1 = .ok (.istore_n 1, 1) := by decide +kernel
theorem dX0_tryLifts_2 : decode cX0_tryLifts 2 = .ok (.iload_n 1, 1) := by decide +kernel
theorem dX0_tryLifts_3 : decode cX0_tryLifts 3 = .ok (.aload_n 0, 1) := by decide +kernel
theorem dX0_tryLifts_4 : decode cX0_tryLifts 4 = .ok (.getfield 24, 3) := by decide +kernel
theorem dX0_tryLifts_7 : decode cX0_tryLifts 7 = .ok (.getfield 97, 3) := by decide +kernel
theorem dX0_tryLifts_10 : decode cX0_tryLifts 10 = .ok (.if_icmp .ge 77, 3) := by decide +kernel
theorem dX0_tryLifts_13 : decode cX0_tryLifts 13 = .ok (.aload_n 0, 1) := by decide +kernel
theorem dX0_tryLifts_14 : decode cX0_tryLifts 14 = .ok (.getfield 91, 3) := by decide +kernel
theorem dX0_tryLifts_17 : decode cX0_tryLifts 17 = .ok (.iload_n 1, 1) := by decide +kernel
theorem dX0_tryLifts_18 : decode cX0_tryLifts 18 = .ok (.ishr, 1) := by decide +kernel
theorem dX0_tryLifts_19 : decode cX0_tryLifts 19 = .ok (.iconst 1, 1) := by decide +kernel
theorem dX0_tryLifts_20 : decode cX0_tryLifts 20 = .ok (.iand, 1) := by decide +kernel
theorem dX0_tryLifts_21 : decode cX0_tryLifts 21 = .ok (.ifCond .eq 60, 3) := by decide +kernel
theorem dX0_tryLifts_24 : decode cX0_tryLifts 24 = .ok (.aload_n 0, 1) := by decide +kernel
theorem dX0_tryLifts_25 : decode cX0_tryLifts 25 = .ok (.getfield 24, 3) := by decide +kernel
theorem dX0_tryLifts_28 : decode cX0_tryLifts 28 = .ok (.aload_n 0, 1) := by decide +kernel
theorem dX0_tryLifts_29 : decode cX0_tryLifts 29 = .ok (.getfield 28, 3) := by decide +kernel
theorem dX0_tryLifts_32 : decode cX0_tryLifts 32 = .ok (.iconst 1, 1) := by decide +kernel
theorem dX0_tryLifts_33 : decode cX0_tryLifts 33 = .ok (.iload_n 1, 1) := by decide +kernel
theorem dX0_tryLifts_34 : decode cX0_tryLifts 34 = .ok (.aload_n 0, 1) := by decide +kernel
theorem dX0_tryLifts_35 : decode cX0_tryLifts 35 = .ok (.getfield 50, 3) := by decide +kernel
theorem dX0_tryLifts_38 : decode cX0_tryLifts 38 = .ok (.invokevirtual 100, 3) := by decide +kernel
theorem dX0_tryLifts_41 : decode cX0_tryLifts 41 = .ok (.ifCond .eq 40, 3) := by decide +kernel
theorem dX0_tryLifts_44 : decode cX0_tryLifts 44 = .ok (.aload_n 0, 1) := by decide +kernel
theorem dX0_tryLifts_45 : decode cX0_tryLifts 45 = .ok (.iload_n 1, 1) := by decide +kernel
theorem dX0_tryLifts_46 : decode cX0_tryLifts 46 = .ok (.invokevirtual 108, 3) := by decide +kernel
theorem dX0_tryLifts_49 : decode cX0_tryLifts 49 = .ok (.istore_n 2, 1) := by decide +kernel
theorem dX0_tryLifts_50 : decode cX0_tryLifts 50 = .ok (.aload_n 0, 1) := by decide +kernel
theorem dX0_tryLifts_51 : decode cX0_tryLifts 51 = .ok (.aload_n 0, 1) := by decide +kernel
theorem dX0_tryLifts_52 : decode cX0_tryLifts 52 = .ok (.getfield 85, 3) := by decide +kernel
theorem dX0_tryLifts_55 : decode cX0_tryLifts 55 = .ok (.iload_n 1, 1) := by decide +kernel
theorem dX0_tryLifts_56 : decode cX0_tryLifts 56 = .ok (.invokestatic 104, 3) := by decide +kernel
theorem dX0_tryLifts_59 : decode cX0_tryLifts 59 = .ok (.isub, 1) := by decide +kernel
theorem dX0_tryLifts_60 : decode cX0_tryLifts 60 = .ok (.aload_n 0, 1) := by decide +kernel
theorem dX0_tryLifts_61 : decode cX0_tryLifts 61 = .ok (.getfield 24, 3) := by decide +kernel
theorem dX0_tryLifts_64 : decode cX0_tryLifts 64 = .ok (.aload_n 0, 1) := by decide +kernel
theorem dX0_tryLifts_65 : decode cX0_tryLifts 65 = .ok (.getfield 88, 3) := by decide +kernel
theorem dX0_tryLifts_68 : decode cX0_tryLifts 68 = .ok (.iload_n 2, 1) := by decide +kernel
theorem dX0_tryLifts_69 : decode cX0_tryLifts 69 = .ok (.iload_n 1, 1) := by decide +kernel
theorem dX0_tryLifts_70 : decode cX0_tryLifts 70 = .ok (.iconst 0, 1) := by decide +kernel
theorem dX0_tryLifts_71 : decode cX0_tryLifts 71 = .ok (.invokevirtual 111, 3) := by decide +kernel
theorem dX0_tryLifts_74 : decode cX0_tryLifts 74 = .ok (.iload_n 2, 1) := by decide +kernel
theorem dX0_tryLifts_75 : decode cX0_tryLifts 75 = .ok (.iconst 1, 1) := by decide +kernel
theorem dX0_tryLifts_76 : decode cX0_tryLifts 76 = .ok (.iload_n 1, 1) := by decide +kernel
theorem dX0_tryLifts_77 : decode cX0_tryLifts 77 = .ok (.iconst (-1), 1) := by decide +kernel
theorem dX0_tryLifts_78 : decode cX0_tryLifts 78 = .ok (.invokevirtual 60, 3) := by decide +kernel
theorem dX0_tryLifts_81 : decode cX0_tryLifts 81 = .ok (.iinc 1 1, 3) := by decide +kernel
theorem dX0_tryLifts_84 : decode cX0_tryLifts 84 = .ok (.goto (-82), 3) := by decide +kernel
theorem dX0_tryLifts_87 : decode cX0_tryLifts 87 = .ok (.return_, 1) := by decide +kernel
theorem dX0_trySlides_0 : decode cX0_trySlides 0 = .ok (.iconst 0, 1) := by decide +kernel
theorem dX0_trySlides_1 : decode cX0_trySlides 1 = .ok (.istore_n 1, 1) := by decide +kernel
theorem dX0_trySlides_2 : decode cX0_trySlides 2 = .ok (.iload_n 1, 1) := by decide +kernel
theorem dX0_trySlides_3 : decode cX0_trySlides 3 = .ok (.aload_n 0, 1) := by decide +kernel
theorem dX0_trySlides_4 : decode cX0_trySlides 4 = .ok (.getfield 24, 3) := by decide +kernel
theorem dX0_trySlides_7 : decode cX0_trySlides 7 = .ok (.getfield 97, 3) := by decide +kernel
theorem dX0_trySlides_10 : decode cX0_trySlides 10 = .ok (.if_icmp .ge 25, 3) := by decide +kernel
theorem dX0_trySlides_13 : decode cX0_trySlides 13 = .ok (.aload_n 0, 1) := by decide +kernel
theorem dX0_trySlides_14 : decode cX0_trySlides 14 = .ok (.getfield 91, 3) := by decide +kernel
theorem dX0_trySlides_17 : decode cX0_trySlides 17 = .ok (.iload_n 1, 1) := by decide +kernel
theorem dX0_trySlides_18 : decode cX0_trySlides 18 = .ok (.ishr, 1) := by decide +kernel
theorem dX0_trySlides_19 : decode cX0_trySlides 19 = .ok (.iconst 1, 1) := by decide +kernel
theorem dX0_trySlides_20 : decode cX0_trySlides 20 = .ok (.iand, 1) := by decide +kernel
theorem dX0_trySlides_21 : decode cX0_trySlides 21 = .ok (.ifCond .eq 8, 3) := by decide +kernel
theorem dX0_trySlides_24 : decode cX0_trySlides 24 = .ok (.aload_n 0, 1) := by decide +kernel
theorem dX0_trySlides_25 : decode cX0_trySlides 25 = .ok (.iload_n 1, 1) := by decide +kernel
theorem dX0_trySlides_26 : decode cX0_trySlides 26 = .ok (.invokevirtual 115, 3) := by decide +kernel
theorem dX0_trySlides_29 : decode cX0_trySlides 29 = .ok (.iinc 1 1, 3) := by decide +kernel
theorem dX0_trySlides_32 : decode cX0_trySlides 32 = .ok (.goto (-30), 3) := by decide +kernel
theorem dX0_trySlides_35 : decode cX0_trySlides 35 = .ok (.return_, 1) := by decide +kernel
theorem dX0_trySlidesFrom_0 : decode cX0_trySlidesFrom 0 = .ok (.aload_n 0, 1) := by decide +kernel
theorem dX0_trySlidesFrom_1 : decode cX0_trySlidesFrom 1 = .ok (.getfield 24, 3) := by decide +kernel
theorem dX0_trySlidesFrom_4 : decode cX0_trySlidesFrom 4 = .ok (.getfield 118, 3) := by decide +kernel
theorem dX0_trySlidesFrom_7 : decode cX0_trySlidesFrom 7 = .ok (.iload_n 1, 1) := by decide +kernel
theorem dX0_trySlidesFrom_8 : decode cX0_trySlidesFrom 8 = .ok (.iaload, 1) := by decide +kernel
theorem dX0_trySlidesFrom_9 : decode cX0_trySlidesFrom 9 = .ok (.istore_n 2, 1) := by decide +kernel
theorem dX0_trySlidesFrom_10 : decode cX0_trySlidesFrom 10 = .ok (.iconst 0, 1) := by decide +kernel
theorem dX0_trySlidesFrom_11 : decode cX0_trySlidesFrom 11 = .ok (.istore_n 3, 1) := by decide +kernel
theorem dX0_trySlidesFrom_12 : decode cX0_trySlidesFrom 12 = .ok (.iload_n 3, 1) := by decide +kernel
theorem dX0_trySlidesFrom_13 : decode cX0_trySlidesFrom 13 = .ok (.bipush 18, 2) := by decide +kernel
theorem dX0_trySlidesFrom_15 : decode cX0_trySlidesFrom 15 = .ok (.if_icmp .ge 91, 3) := by decide +kernel
theorem dX0_trySlidesFrom_18 : decode cX0_trySlidesFrom 18 = .ok (.iload_n 2, 1) := by decide +kernel
theorem dX0_trySlidesFrom_19 : decode cX0_trySlidesFrom 19 = .ok (.iload_n 3, 1) := by decide +kernel
theorem dX0_trySlidesFrom_20 : decode cX0_trySlidesFrom 20 = .ok (.ishr, 1) := by decide +kernel
theorem dX0_trySlidesFrom_21 : decode cX0_trySlidesFrom 21 = .ok (.ifCond .eq 85, 3) := by decide +kernel
theorem dX0_trySlidesFrom_24 : decode cX0_trySlidesFrom 24 = .ok (.iload_n 2, 1) := by decide +kernel
theorem dX0_trySlidesFrom_25 : decode cX0_trySlidesFrom 25 = .ok (.iload_n 3, 1) := by decide +kernel
theorem dX0_trySlidesFrom_26 : decode cX0_trySlidesFrom 26 = .ok (.ishr, 1) := by decide +kernel
theorem dX0_trySlidesFrom_27 : decode cX0_trySlidesFrom 27 = .ok (.iconst 1, 1) := by decide +kernel
theorem dX0_trySlidesFrom_28 : decode cX0_trySlidesFrom 28 = .ok (.iand, 1) := by decide +kernel
theorem dX0_trySlidesFrom_29 : decode cX0_trySlidesFrom 29 = .ok (.ifCond .eq 71, 3) := by decide +kernel
theorem dX0_trySlidesFrom_32 : decode cX0_trySlidesFrom 32 = .ok (.aload_n 0, 1) := by decide +kernel
theorem dX0_trySlidesFrom_33 : decode cX0_trySlidesFrom 33 = .ok (.getfield 24, 3) := by decide +kernel
theorem dX0_trySlidesFrom_36 : decode cX0_trySlidesFrom 36 = .ok (.iload_n 3, 1) := by decide +kernel
theorem dX0_trySlidesFrom_37 : decode cX0_trySlidesFrom 37 = .ok (.iload_n 1, 1) := by decide +kernel
theorem dX0_trySlidesFrom_38 : decode cX0_trySlidesFrom 38 = .ok (.invokevirtual 121, 3) := by decide +kernel
theorem dX0_trySlidesFrom_41 : decode cX0_trySlidesFrom 41 = .ok (.istore 4, 2) := by decide +kernel
theorem dX0_trySlidesFrom_43 : decode cX0_trySlidesFrom 43 = .ok (.aload_n 0, 1) := by decide +kernel
theorem dX0_trySlidesFrom_44 : decode cX0_trySlidesFrom 44 = .ok (.iload_n 1, 1) := by decide +kernel
theorem dX0_trySlidesFrom_45 : decode cX0_trySlidesFrom 45 = .ok (.invokevirtual 108, 3) := by decide +kernel
theorem dX0_trySlidesFrom_48 : decode cX0_trySlidesFrom 48 = .ok (.iconst 1, 1) := by decide +kernel
theorem dX0_trySlidesFrom_49 : decode cX0_trySlidesFrom 49 = .ok (.iload 4, 2) := by decide +kernel
theorem dX0_trySlidesFrom_51 : decode cX0_trySlidesFrom 51 = .ok (.ishl, 1) := by decide +kernel
theorem dX0_trySlidesFrom_52 : decode cX0_trySlidesFrom 52 = .ok (.ior, 1) := by decide +kernel
theorem dX0_trySlidesFrom_53 : decode cX0_trySlidesFrom 53 = .ok (.istore 5, 2) := by decide +kernel
theorem dX0_trySlidesFrom_55 : decode cX0_trySlidesFrom 55 = .ok (.aload_n 0, 1) := by decide +kernel
theorem dX0_trySlidesFrom_56 : decode cX0_trySlidesFrom 56 = .ok (.getfield 24, 3) := by decide +kernel
theorem dX0_trySlidesFrom_59 : decode cX0_trySlidesFrom 59 = .ok (.aload_n 0, 1) := by decide +kernel
theorem dX0_trySlidesFrom_60 : decode cX0_trySlidesFrom 60 = .ok (.getfield 88, 3) := by decide +kernel
theorem dX0_trySlidesFrom_63 : decode cX0_trySlidesFrom 63 = .ok (.iload 5, 2) := by decide +kernel
theorem dX0_trySlidesFrom_65 : decode cX0_trySlidesFrom 65 = .ok (.iload_n 1, 1) := by decide +kernel
theorem dX0_trySlidesFrom_66 : decode cX0_trySlidesFrom 66 = .ok (.iconst 1, 1) := by decide +kernel
theorem dX0_trySlidesFrom_67 : decode cX0_trySlidesFrom 67 = .ok (.iload_n 3, 1) := by decide +kernel
theorem dX0_trySlidesFrom_68 : decode cX0_trySlidesFrom 68 = .ok (.ishl, 1) := by decide +kernel
theorem dX0_trySlidesFrom_69 : decode cX0_trySlidesFrom 69 = .ok (.invokevirtual 111, 3) := by decide +kernel
theorem dX0_trySlidesFrom_72 : decode cX0_trySlidesFrom 72 = .ok (.istore 6, 2) := by decide +kernel
theorem dX0_trySlidesFrom_74 : decode cX0_trySlidesFrom 74 = .ok (.aload_n 0, 1) := by decide +kernel
theorem dX0_trySlidesFrom_75 : decode cX0_trySlidesFrom 75 = .ok (.aload_n 0, 1) := by decide +kernel
theorem dX0_trySlidesFrom_76 : decode cX0_trySlidesFrom 76 = .ok (.getfield 85, 3) := by decide +kernel
theorem dX0_trySlidesFrom_79 : decode cX0_trySlidesFrom 79 = .ok (.iload_n 1, 1) := by decide +kernel
theorem dX0_trySlidesFrom_80 : decode cX0_trySlidesFrom 80 = .ok (.invokestatic 104, 3) := by decide +kernel
theorem dX0_trySlidesFrom_83 : decode cX0_trySlidesFrom 83 = .ok (.isub, 1) := by decide +kernel
theorem dX0_trySlidesFrom_84 : decode cX0_trySlidesFrom 84 = .ok (.iload 4, 2) := by decide +kernel
theorem dX0_trySlidesFrom_86 : decode cX0_trySlidesFrom 86 = .ok (.invokestatic 104, 3) := by decide +kernel
theorem dX0_trySlidesFrom_89 : decode cX0_trySlidesFrom 89 = .ok (.iadd, 1) := by decide +kernel
theorem dX0_trySlidesFrom_90 : decode cX0_trySlidesFrom 90 = .ok (.iload 6, 2) := by decide +kernel
theorem dX0_trySlidesFrom_92 : decode cX0_trySlidesFrom 92 = .ok (.iload 5, 2) := by decide +kernel
theorem dX0_trySlidesFrom_94 : decode cX0_trySlidesFrom 94 = .ok (.iconst 2, 1) := by decide +kernel
theorem dX0_trySlidesFrom_95 : decode cX0_trySlidesFrom 95 = .ok (.iload_n 1, 1) := by decide +kernel
theorem dX0_trySlidesFrom_96 : decode cX0_trySlidesFrom 96 = .ok (.iload_n 3, 1) := by decide +kernel
theorem dX0_trySlidesFrom_97 : decode cX0_trySlidesFrom 97 = .ok (.invokevirtual 60, 3) := by decide +kernel
theorem dX0_trySlidesFrom_100 : decode cX0_trySlidesFrom 100 = .ok (.iinc 3 1, 3) := by decide +kernel
theorem dX0_trySlidesFrom_103 : decode cX0_trySlidesFrom 103 = .ok (.goto (-91), 3) := by decide +kernel
theorem dX0_trySlidesFrom_106 : decode cX0_trySlidesFrom 106 = .ok (.return_, 1) := by decide +kernel
theorem dX0_one_0 : decode cX0_one 0 = .ok (.iconst 1, 1) := by decide +kernel
theorem dX0_one_1 : decode cX0_one 1 = .ok (.iconst 2, 1) := by decide +kernel
theorem dX0_one_2 : decode cX0_one 2 = .ok (.iload_n 0, 1) := by decide +kernel
theorem dX0_one_3 : decode cX0_one 3 = .ok (.imul, 1) := by decide +kernel
theorem dX0_one_4 : decode cX0_one 4 = .ok (.ishl, 1) := by decide +kernel
theorem dX0_one_5 : decode cX0_one 5 = .ok (.ireturn, 1) := by decide +kernel
theorem dX0_guardedWithout_0 : decode cX0_guardedWithout 0 = .ok (.aload_n 0, 1) := by decide +kernel
theorem dX0_guardedWithout_1 : decode cX0_guardedWithout 1 = .ok (.getfield 85, 3) := by decide +kernel
theorem dX0_guardedWithout_4 : decode cX0_guardedWithout 4 = .ok (.iconst 2, 1) := by decide +kernel
theorem dX0_guardedWithout_5 : decode cX0_guardedWithout 5 = .ok (.iload_n 1, 1) := by decide +kernel
theorem dX0_guardedWithout_6 : decode cX0_guardedWithout 6 = .ok (.imul, 1) := by decide +kernel
theorem dX0_guardedWithout_7 : decode cX0_guardedWithout 7 = .ok (.ishr, 1) := by decide +kernel
theorem dX0_guardedWithout_8 : decode cX0_guardedWithout 8 = .ok (.iconst 3, 1) := by decide +kernel
theorem dX0_guardedWithout_9 : decode cX0_guardedWithout 9 = .ok (.iand, 1) := by decide +kernel
theorem dX0_guardedWithout_10 : decode cX0_guardedWithout 10 = .ok (.iconst 1, 1) := by decide +kernel
theorem dX0_guardedWithout_11 : decode cX0_guardedWithout 11 = .ok (.if_icmp .le 10, 3) := by decide +kernel
theorem dX0_guardedWithout_14 : decode cX0_guardedWithout 14 = .ok (.aload_n 0, 1) := by decide +kernel
theorem dX0_guardedWithout_15 : decode cX0_guardedWithout 15 = .ok (.getfield 91, 3) := by decide +kernel
theorem dX0_guardedWithout_18 : decode cX0_guardedWithout 18 = .ok (.goto 13, 3) := by decide +kernel
theorem dX0_guardedWithout_21 : decode cX0_guardedWithout 21 = .ok (.aload_n 0, 1) := by decide +kernel
theorem dX0_guardedWithout_22 : decode cX0_guardedWithout 22 = .ok (.getfield 91, 3) := by decide +kernel
theorem dX0_guardedWithout_25 : decode cX0_guardedWithout 25 = .ok (.iconst 1, 1) := by decide +kernel
theorem dX0_guardedWithout_26 : decode cX0_guardedWithout 26 = .ok (.iload_n 1, 1) := by decide +kernel
theorem dX0_guardedWithout_27 : decode cX0_guardedWithout 27 = .ok (.ishl, 1) := by decide +kernel
theorem dX0_guardedWithout_28 : decode cX0_guardedWithout 28 = .ok (.iconst (-1), 1) := by decide +kernel
theorem dX0_guardedWithout_29 : decode cX0_guardedWithout 29 = .ok (.ixor, 1) := by decide +kernel
theorem dX0_guardedWithout_30 : decode cX0_guardedWithout 30 = .ok (.iand, 1) := by decide +kernel
theorem dX0_guardedWithout_31 : decode cX0_guardedWithout 31 = .ok (.ireturn, 1) := by decide +kernel
theorem dX0_meet_0 : decode cX0_meet 0 = .ok (.aload_n 0, 1) := by decide +kernel
theorem dX0_meet_1 : decode cX0_meet 1 = .ok (.getfield 28, 3) := by decide +kernel
theorem dX0_meet_4 : decode cX0_meet 4 = .ok (.iconst 2, 1) := by decide +kernel
theorem dX0_meet_5 : decode cX0_meet 5 = .ok (.if_icmp .ne 16, 3) := by decide +kernel
theorem dX0_meet_8 : decode cX0_meet 8 = .ok (.aload_n 0, 1) := by decide +kernel
theorem dX0_meet_9 : decode cX0_meet 9 = .ok (.getfield 24, 3) := by decide +kernel
theorem dX0_meet_12 : decode cX0_meet 12 = .ok (.iload_n 2, 1) := by decide +kernel
theorem dX0_meet_13 : decode cX0_meet 13 = .ok (.iload_n 3, 1) := by decide +kernel
theorem dX0_meet_14 : decode cX0_meet 14 = .ok (.invokevirtual 125, 3) := by decide +kernel
theorem dX0_meet_17 : decode cX0_meet 17 = .ok (.ifCond .ne 4, 3) := by decide +kernel
theorem dX0_meet_20 : decode cX0_meet 20 = .ok (.return_, 1) := by decide +kernel
theorem dX0_meet_21 : decode cX0_meet 21 = .ok (.aload_n 0, 1) := by decide +kernel
theorem dX0_meet_22 : decode cX0_meet 22 = .ok (.getfield 28, 3) := by decide +kernel
theorem dX0_meet_25 : decode cX0_meet 25 = .ok (.iconst 1, 1) := by decide +kernel
theorem dX0_meet_26 : decode cX0_meet 26 = .ok (.if_icmp .ne 20, 3) := by decide +kernel
theorem dX0_meet_29 : decode cX0_meet 29 = .ok (.aload_n 0, 1) := by decide +kernel
theorem dX0_meet_30 : decode cX0_meet 30 = .ok (.getfield 50, 3) := by decide +kernel
theorem dX0_meet_33 : decode cX0_meet 33 = .ok (.ifCond .ne 9, 3) := by decide +kernel
theorem dX0_meet_36 : decode cX0_meet 36 = .ok (.iload 4, 2) := by decide +kernel
theorem dX0_meet_38 : decode cX0_meet 38 = .ok (.iconst 2, 1) := by decide +kernel
theorem dX0_meet_39 : decode cX0_meet 39 = .ok (.if_icmp .ne 7, 3) := by decide +kernel
theorem dX0_meet_42 : decode cX0_meet 42 = .ok (.iconst 1, 1) := by decide +kernel
theorem dX0_meet_43 : decode cX0_meet 43 = .ok (.goto 4, 3) := by decide +kernel
theorem dX0_meet_46 : decode cX0_meet 46 = .ok (.iconst 0, 1) := by decide +kernel
theorem dX0_meet_47 : decode cX0_meet 47 = .ok (.istore 7, 2) := by decide +kernel
theorem dX0_meet_49 : decode cX0_meet 49 = .ok (.iload_n 1, 1) := by decide +kernel
theorem dX0_meet_50 : decode cX0_meet 50 = .ok (.iload_n 2, 1) := by decide +kernel
theorem dX0_meet_51 : decode cX0_meet 51 = .ok (.bipush 12, 2) := by decide +kernel
theorem dX0_meet_53 : decode cX0_meet 53 = .ok (.ishl, 1) := by decide +kernel
theorem dX0_meet_54 : decode cX0_meet 54 = .ok (.ior, 1) := by decide +kernel
theorem dX0_meet_55 : decode cX0_meet 55 = .ok (.iload 7, 2) := by decide +kernel
theorem dX0_meet_57 : decode cX0_meet 57 = .ok (.ifCond .eq 8, 3) := by decide +kernel
theorem dX0_meet_60 : decode cX0_meet 60 = .ok (.ldc 129, 2) := by decide +kernel
theorem dX0_meet_62 : decode cX0_meet 62 = .ok (.goto 4, 3) := by decide +kernel
theorem dX0_meet_65 : decode cX0_meet 65 = .ok (.iconst 0, 1) := by decide +kernel
theorem dX0_meet_66 : decode cX0_meet 66 = .ok (.ior, 1) := by decide +kernel
theorem dX0_meet_67 : decode cX0_meet 67 = .ok (.istore 8, 2) := by decide +kernel
theorem dX0_meet_69 : decode cX0_meet 69 = .ok (.aload_n 0, 1) := by decide +kernel
theorem dX0_meet_70 : decode cX0_meet 70 = .ok (.iload 8, 2) := by decide +kernel
theorem dX0_meet_72 : decode cX0_meet 72 = .ok (.invokevirtual 130, 3) := by decide +kernel
theorem dX0_meet_75 : decode cX0_meet 75 = .ok (.istore 9, 2) := by decide +kernel
theorem dX0_meet_77 : decode cX0_meet 77 = .ok (.iload 9, 2) := by decide +kernel
theorem dX0_meet_79 : decode cX0_meet 79 = .ok (.iconst (-1), 1) := by decide +kernel
theorem dX0_meet_80 : decode cX0_meet 80 = .ok (.if_icmp .eq 23, 3) := by decide +kernel
theorem dX0_meet_83 : decode cX0_meet 83 = .ok (.aload_n 0, 1) := by decide +kernel
theorem dX0_meet_84 : decode cX0_meet 84 = .ok (.getfield 11, 3) := by decide +kernel
theorem dX0_meet_87 : decode cX0_meet 87 = .ok (.iload 9, 2) := by decide +kernel
theorem dX0_meet_89 : decode cX0_meet 89 = .ok (.iaload, 1) := by decide +kernel
theorem dX0_meet_90 : decode cX0_meet 90 = .ok (.ifCond .ne 13, 3) := by decide +kernel
theorem dX0_meet_93 : decode cX0_meet 93 = .ok (.aload_n 0, 1) := by decide +kernel
theorem dX0_meet_94 : decode cX0_meet 94 = .ok (.getfield 35, 3) := by decide +kernel
theorem dX0_meet_97 : decode cX0_meet 97 = .ok (.sipush 1604, 3) := by decide +kernel
theorem dX0_meet_100 : decode cX0_meet 100 = .ok (.if_icmp .lt 4, 3) := by decide +kernel
theorem dX0_meet_103 : decode cX0_meet 103 = .ok (.return_, 1) := by decide +kernel
theorem dX0_meet_104 : decode cX0_meet 104 = .ok (.aload_n 0, 1) := by decide +kernel
theorem dX0_meet_105 : decode cX0_meet 105 = .ok (.getfield 15, 3) := by decide +kernel
theorem dX0_meet_108 : decode cX0_meet 108 = .ok (.aload_n 0, 1) := by decide +kernel
theorem dX0_meet_109 : decode cX0_meet 109 = .ok (.getfield 35, 3) := by decide +kernel
theorem dX0_meet_112 : decode cX0_meet 112 = .ok (.iload 8, 2) := by decide +kernel
theorem dX0_meet_114 : decode cX0_meet 114 = .ok (.iastore, 1) := by decide +kernel
theorem dX0_meet_115 : decode cX0_meet 115 = .ok (.aload_n 0, 1) := by decide +kernel
theorem dX0_meet_116 : decode cX0_meet 116 = .ok (.getfield 18, 3) := by decide +kernel
theorem dX0_meet_119 : decode cX0_meet 119 = .ok (.aload_n 0, 1) := by decide +kernel
theorem dX0_meet_120 : decode cX0_meet 120 = .ok (.getfield 35, 3) := by decide +kernel
theorem dX0_meet_123 : decode cX0_meet 123 = .ok (.aload_n 0, 1) := by decide +kernel
theorem dX0_meet_124 : decode cX0_meet 124 = .ok (.getfield 47, 3) := by decide +kernel
theorem dX0_meet_127 : decode cX0_meet 127 = .ok (.iastore, 1) := by decide +kernel
theorem dX0_meet_128 : decode cX0_meet 128 = .ok (.aload_n 0, 1) := by decide +kernel
theorem dX0_meet_129 : decode cX0_meet 129 = .ok (.getfield 21, 3) := by decide +kernel
theorem dX0_meet_132 : decode cX0_meet 132 = .ok (.aload_n 0, 1) := by decide +kernel
theorem dX0_meet_133 : decode cX0_meet 133 = .ok (.getfield 35, 3) := by decide +kernel
theorem dX0_meet_136 : decode cX0_meet 136 = .ok (.iload 4, 2) := by decide +kernel
theorem dX0_meet_138 : decode cX0_meet 138 = .ok (.iload 5, 2) := by decide +kernel
theorem dX0_meet_140 : decode cX0_meet 140 = .ok (.iload 6, 2) := by decide +kernel
theorem dX0_meet_142 : decode cX0_meet 142 = .ok (.invokestatic 133, 3) := by decide +kernel
theorem dX0_meet_145 : decode cX0_meet 145 = .ok (.iastore, 1) := by decide +kernel
theorem dX0_meet_146 : decode cX0_meet 146 = .ok (.iload_n 2, 1) := by decide +kernel
theorem dX0_meet_147 : decode cX0_meet 147 = .ok (.ifCond .ne 19, 3) := by decide +kernel
theorem dX0_meet_150 : decode cX0_meet 150 = .ok (.aload_n 0, 1) := by decide +kernel
theorem dX0_meet_151 : decode cX0_meet 151 = .ok (.getfield 38, 3) := by decide +kernel
theorem dX0_meet_154 : decode cX0_meet 154 = .ok (.iconst (-1), 1) := by decide +kernel
theorem dX0_meet_155 : decode cX0_meet 155 = .ok (.if_icmp .ne 11, 3) := by decide +kernel
theorem dX0_meet_158 : decode cX0_meet 158 = .ok (.aload_n 0, 1) := by decide +kernel
theorem dX0_meet_159 : decode cX0_meet 159 = .ok (.aload_n 0, 1) := by decide +kernel
theorem dX0_meet_160 : decode cX0_meet 160 = .ok (.getfield 35, 3) := by decide +kernel
theorem dX0_meet_163 : decode cX0_meet 163 = .ok (.putfield 38, 3) := by decide +kernel
theorem dX0_meet_166 : decode cX0_meet 166 = .ok (.aload_n 0, 1) := by decide +kernel
theorem dX0_meet_167 : decode cX0_meet 167 = .ok (.dup, 1) := by decide +kernel
theorem dX0_meet_168 : decode cX0_meet 168 = .ok (.getfield 35, 3) := by decide +kernel
theorem dX0_meet_171 : decode cX0_meet 171 = .ok (.iconst 1, 1) := by decide +kernel
theorem dX0_meet_172 : decode cX0_meet 172 = .ok (.iadd, 1) := by decide +kernel
theorem dX0_meet_173 : decode cX0_meet 173 = .ok (.putfield 35, 3) := by decide +kernel
theorem dX0_meet_176 : decode cX0_meet 176 = .ok (.aload_n 0, 1) := by decide +kernel
theorem dX0_meet_177 : decode cX0_meet 177 = .ok (.getfield 11, 3) := by decide +kernel
theorem dX0_meet_180 : decode cX0_meet 180 = .ok (.iload 9, 2) := by decide +kernel
theorem dX0_meet_182 : decode cX0_meet 182 = .ok (.aload_n 0, 1) := by decide +kernel
theorem dX0_meet_183 : decode cX0_meet 183 = .ok (.getfield 35, 3) := by decide +kernel
theorem dX0_meet_186 : decode cX0_meet 186 = .ok (.iastore, 1) := by decide +kernel
theorem dX0_meet_187 : decode cX0_meet 187 = .ok (.return_, 1) := by decide +kernel
theorem dX0_slotOf_0 : decode cX0_slotOf 0 = .ok (.iload_n 1, 1) := by decide +kernel
theorem dX0_slotOf_1 : decode cX0_slotOf 1 = .ok (.ldc 137, 2) := by decide +kernel
theorem dX0_slotOf_3 : decode cX0_slotOf 3 = .ok (.imul, 1) := by decide +kernel
theorem dX0_slotOf_4 : decode cX0_slotOf 4 = .ok (.bipush 21, 2) := by decide +kernel
theorem dX0_slotOf_6 : decode cX0_slotOf 6 = .ok (.iushr, 1) := by decide +kernel
theorem dX0_slotOf_7 : decode cX0_slotOf 7 = .ok (.istore_n 2, 1) := by decide +kernel
theorem dX0_slotOf_8 : decode cX0_slotOf 8 = .ok (.iconst 0, 1) := by decide +kernel
theorem dX0_slotOf_9 : decode cX0_slotOf 9 = .ok (.istore_n 3, 1) := by decide +kernel
theorem dX0_slotOf_10 : decode cX0_slotOf 10 = .ok (.iload_n 3, 1) := by decide +kernel
theorem dX0_slotOf_11 : decode cX0_slotOf 11 = .ok (.sipush 2048, 3) := by decide +kernel
theorem dX0_slotOf_14 : decode cX0_slotOf 14 = .ok (.if_icmp .ge 53, 3) := by decide +kernel
theorem dX0_slotOf_17 : decode cX0_slotOf 17 = .ok (.aload_n 0, 1) := by decide +kernel
theorem dX0_slotOf_18 : decode cX0_slotOf 18 = .ok (.getfield 11, 3) := by decide +kernel
theorem dX0_slotOf_21 : decode cX0_slotOf 21 = .ok (.iload_n 2, 1) := by decide +kernel
theorem dX0_slotOf_22 : decode cX0_slotOf 22 = .ok (.iaload, 1) := by decide +kernel
theorem dX0_slotOf_23 : decode cX0_slotOf 23 = .ok (.istore 4, 2) := by decide +kernel
theorem dX0_slotOf_25 : decode cX0_slotOf 25 = .ok (.iload 4, 2) := by decide +kernel
theorem dX0_slotOf_27 : decode cX0_slotOf 27 = .ok (.ifCond .le 24, 3) := by decide +kernel
theorem dX0_slotOf_30 : decode cX0_slotOf 30 = .ok (.iload 4, 2) := by decide +kernel
theorem dX0_slotOf_32 : decode cX0_slotOf 32 = .ok (.sipush 1604, 3) := by decide +kernel
theorem dX0_slotOf_35 : decode cX0_slotOf 35 = .ok (.if_icmp .gt 16, 3) := by decide +kernel
theorem dX0_slotOf_38 : decode cX0_slotOf 38 = .ok (.aload_n 0, 1) := by decide +kernel
theorem dX0_slotOf_39 : decode cX0_slotOf 39 = .ok (.getfield 15, 3) := by decide +kernel
theorem dX0_slotOf_42 : decode cX0_slotOf 42 = .ok (.iload 4, 2) := by decide +kernel
theorem dX0_slotOf_44 : decode cX0_slotOf 44 = .ok (.iconst 1, 1) := by decide +kernel
theorem dX0_slotOf_45 : decode cX0_slotOf 45 = .ok (.isub, 1) := by decide +kernel
theorem dX0_slotOf_46 : decode cX0_slotOf 46 = .ok (.iaload, 1) := by decide +kernel
theorem dX0_slotOf_47 : decode cX0_slotOf 47 = .ok (.iload_n 1, 1) := by decide +kernel
theorem dX0_slotOf_48 : decode cX0_slotOf 48 = .ok (.if_icmp .ne 5, 3) := by decide +kernel
theorem dX0_slotOf_51 : decode cX0_slotOf 51 = .ok (.iload_n 2, 1) := by decide +kernel
theorem dX0_slotOf_52 : decode cX0_slotOf 52 = .ok (.ireturn, 1) := by decide +kernel
theorem dX0_slotOf_53 : decode cX0_slotOf 53 = .ok (.iload_n 2, 1) := by decide +kernel
theorem dX0_slotOf_54 : decode cX0_slotOf 54 = .ok (.iconst 1, 1) := by decide +kernel
theorem dX0_slotOf_55 : decode cX0_slotOf 55 = .ok (.iadd, 1) := by decide +kernel
theorem dX0_slotOf_56 : decode cX0_slotOf 56 = .ok (.sipush 2047, 3) := by decide +kernel
theorem dX0_slotOf_59 : decode cX0_slotOf 59 = .ok (.iand, 1) := by decide +kernel
theorem dX0_slotOf_60 : decode cX0_slotOf 60 = .ok (.istore_n 2, 1) := by decide +kernel
theorem dX0_slotOf_61 : decode cX0_slotOf 61 = .ok (.iinc 3 1, 3) := by decide +kernel
theorem dX0_slotOf_64 : decode cX0_slotOf 64 = .ok (.goto (-54), 3) := by decide +kernel
theorem dX0_slotOf_67 : decode cX0_slotOf 67 = .ok (.iconst (-1), 1) := by decide +kernel
theorem dX0_slotOf_68 : decode cX0_slotOf 68 = .ok (.ireturn, 1) := by decide +kernel
theorem dX1_init_0 : decode cX1_init 0 = .ok (.aload_n 0, 1) := by decide +kernel
theorem dX1_init_1 : decode cX1_init 1 = .ok (.invokespecial 3, 3) := by decide +kernel
theorem dX1_init_4 : decode cX1_init 4 = .ok (.aload_n 0, 1) := by decide +kernel
theorem dX1_init_5 : decode cX1_init 5 = .ok (.bipush 18, 2) := by decide +kernel
theorem dX1_init_7 : decode cX1_init 7 = .ok (.newarray .int, 2) := by decide +kernel
theorem dX1_init_9 : decode cX1_init 9 = .ok (.putfield 9, 3) := by decide +kernel
theorem dX1_init_12 : decode cX1_init 12 = .ok (.aload_n 0, 1) := by decide +kernel
theorem dX1_init_13 : decode cX1_init 13 = .ok (.bipush 18, 2) := by decide +kernel
theorem dX1_init_15 : decode cX1_init 15 = .ok (.newarray .int, 2) := by decide +kernel
theorem dX1_init_17 : decode cX1_init 17 = .ok (.putfield 15, 3) := by decide +kernel
theorem dX1_init_20 : decode cX1_init 20 = .ok (.aload_n 0, 1) := by decide +kernel
theorem dX1_init_21 : decode cX1_init 21 = .ok (.bipush 12, 2) := by decide +kernel
theorem dX1_init_23 : decode cX1_init 23 = .ok (.newarray .int, 2) := by decide +kernel
theorem dX1_init_25 : decode cX1_init 25 = .ok (.putfield 18, 3) := by decide +kernel
theorem dX1_init_28 : decode cX1_init 28 = .ok (.aload_n 0, 1) := by decide +kernel
theorem dX1_init_29 : decode cX1_init 29 = .ok (.bipush 12, 2) := by decide +kernel
theorem dX1_init_31 : decode cX1_init 31 = .ok (.newarray .int, 2) := by decide +kernel
theorem dX1_init_33 : decode cX1_init 33 = .ok (.putfield 21, 3) := by decide +kernel
theorem dX1_init_36 : decode cX1_init 36 = .ok (.return_, 1) := by decide +kernel
theorem dX1_clear_0 : decode cX1_clear 0 = .ok (.aload_n 0, 1) := by decide +kernel
theorem dX1_clear_1 : decode cX1_clear 1 = .ok (.iload_n 1, 1) := by decide +kernel
theorem dX1_clear_2 : decode cX1_clear 2 = .ok (.putfield 24, 3) := by decide +kernel
theorem dX1_clear_5 : decode cX1_clear 5 = .ok (.aload_n 0, 1) := by decide +kernel
theorem dX1_clear_6 : decode cX1_clear 6 = .ok (.iconst 0, 1) := by decide +kernel
theorem dX1_clear_7 : decode cX1_clear 7 = .ok (.putfield 28, 3) := by decide +kernel
theorem dX1_clear_10 : decode cX1_clear 10 = .ok (.aload_n 0, 1) := by decide +kernel
theorem dX1_clear_11 : decode cX1_clear 11 = .ok (.iconst 0, 1) := by decide +kernel
theorem dX1_clear_12 : decode cX1_clear 12 = .ok (.putfield 31, 3) := by decide +kernel
theorem dX1_clear_15 : decode cX1_clear 15 = .ok (.aload_n 0, 1) := by decide +kernel
theorem dX1_clear_16 : decode cX1_clear 16 = .ok (.invokevirtual 34, 3) := by decide +kernel
theorem dX1_clear_19 : decode cX1_clear 19 = .ok (.return_, 1) := by decide +kernel
theorem dX1_hasCave_0 : decode cX1_hasCave 0 = .ok (.iload_n 1, 1) := by decide +kernel
theorem dX1_hasCave_1 : decode cX1_hasCave 1 = .ok (.ifCond .lt 15, 3) := by decide +kernel
theorem dX1_hasCave_4 : decode cX1_hasCave 4 = .ok (.iload_n 1, 1) := by decide +kernel
theorem dX1_hasCave_5 : decode cX1_hasCave 5 = .ok (.aload_n 0, 1) := by decide +kernel
theorem dX1_hasCave_6 : decode cX1_hasCave 6 = .ok (.getfield 24, 3) := by decide +kernel
theorem dX1_hasCave_9 : decode cX1_hasCave 9 = .ok (.if_icmp .ge 7, 3) := by decide +kernel
theorem dX1_hasCave_12 : decode cX1_hasCave 12 = .ok (.iconst 1, 1) := by decide +kernel
theorem dX1_hasCave_13 : decode cX1_hasCave 13 = .ok (.goto 4, 3) := by decide +kernel
theorem dX1_hasCave_16 : decode cX1_hasCave 16 = .ok (.iconst 0, 1) := by decide +kernel
theorem dX1_hasCave_17 : decode cX1_hasCave 17 = .ok (.ireturn, 1) := by decide +kernel
theorem dX1_hasPassage_0 : decode cX1_hasPassage 0 = .ok (.iload_n 1, 1) := by decide +kernel
theorem dX1_hasPassage_1 : decode cX1_hasPassage 1 = .ok (.ifCond .lt 24, 3) := by decide +kernel
theorem dX1_hasPassage_4 : decode cX1_hasPassage 4 = .ok (.iload_n 1, 1) := by decide +kernel
theorem dX1_hasPassage_5 : decode cX1_hasPassage 5 = .ok (.bipush 18, 2) := by decide +kernel
theorem dX1_hasPassage_7 : decode cX1_hasPassage 7 = .ok (.if_icmp .ge 18, 3) := by decide +kernel
theorem dX1_hasPassage_10 : decode cX1_hasPassage 10 = .ok (.aload_n 0, 1) := by decide +kernel
theorem dX1_hasPassage_11 : decode cX1_hasPassage 11 = .ok (.getfield 28, 3) := by decide +kernel
theorem dX1_hasPassage_14 : decode cX1_hasPassage 14 = .ok (.iload_n 1, 1) := by decide +kernel
theorem dX1_hasPassage_15 : decode cX1_hasPassage 15 = .ok (.ishr, 1) := by decide +kernel
theorem dX1_hasPassage_16 : decode cX1_hasPassage 16 = .ok (.iconst 1, 1) := by decide +kernel
theorem dX1_hasPassage_17 : decode cX1_hasPassage 17 = .ok (.iand, 1) := by decide +kernel
theorem dX1_hasPassage_18 : decode cX1_hasPassage 18 = .ok (.ifCond .eq 7, 3) := by decide +kernel
theorem dX1_hasPassage_21 : decode cX1_hasPassage 21 = .ok (.iconst 1, 1) := by decide +kernel
theorem dX1_hasPassage_22 : decode cX1_hasPassage 22 = .ok (.goto 4, 3) := by decide +kernel
theorem dX1_hasPassage_25 : decode cX1_hasPassage 25 = .ok (.iconst 0, 1) := by decide +kernel
theorem dX1_hasPassage_26 : decode cX1_hasPassage 26 = .ok (.ireturn, 1) := by decide +kernel
theorem dX1_leadsFrom_0 : decode cX1_leadsFrom 0 = .ok (.aload_n 0, 1) := by decide +kernel
theorem dX1_leadsFrom_1 : decode cX1_leadsFrom 1 = .ok (.iload_n 1, 1) := by decide +kernel
theorem dX1_leadsFrom_2 : decode cX1_leadsFrom 2 = .ok (.invokevirtual 37, 3) := by decide +kernel
theorem dX1_leadsFrom_5 : decode cX1_leadsFrom 5 = .ok (.ifCond .eq 27, 3) := by decide +kernel
theorem dX1_leadsFrom_8 : decode cX1_leadsFrom 8 = .ok (.aload_n 0, 1) := by decide +kernel
theorem dX1_leadsFrom_9 : decode cX1_leadsFrom 9 = .ok (.getfield 9, 3) := by decide +kernel
theorem dX1_leadsFrom_12 : decode cX1_leadsFrom 12 = .ok (.iload_n 1, 1) := by decide +kernel
theorem dX1_leadsFrom_13 : decode cX1_leadsFrom 13 = .ok (.iaload, 1) := by decide +kernel
theorem dX1_leadsFrom_14 : decode cX1_leadsFrom 14 = .ok (.iload_n 2, 1) := by decide +kernel
theorem dX1_leadsFrom_15 : decode cX1_leadsFrom 15 = .ok (.if_icmp .eq 13, 3) := by decide +kernel
theorem dX1_leadsFrom_18 : decode cX1_leadsFrom 18 = .ok (.aload_n 0, 1) := by decide +kernel
theorem dX1_leadsFrom_19 : decode cX1_leadsFrom 19 = .ok (.getfield 15, 3) := by decide +kernel
theorem dX1_leadsFrom_22 : decode cX1_leadsFrom 22 = .ok (.iload_n 1, 1) := by decide +kernel
theorem dX1_leadsFrom_23 : decode cX1_leadsFrom 23 = .ok (.iaload, 1) := by decide +kernel
theorem dX1_leadsFrom_24 : decode cX1_leadsFrom 24 = .ok (.iload_n 2, 1) := by decide +kernel
theorem dX1_leadsFrom_25 : decode cX1_leadsFrom 25 = .ok (.if_icmp .ne 7, 3) := by decide +kernel
theorem dX1_leadsFrom_28 : decode cX1_leadsFrom 28 = .ok (.iconst 1, 1) := by decide +kernel
theorem dX1_leadsFrom_29 : decode cX1_leadsFrom 29 = .ok (.goto 4, 3) := by decide +kernel
theorem dX1_leadsFrom_32 : decode cX1_leadsFrom 32 = .ok (.iconst 0, 1) := by decide +kernel
theorem dX1_leadsFrom_33 : decode cX1_leadsFrom 33 = .ok (.ireturn, 1) := by decide +kernel
theorem dX1_lowestFree_0 : decode cX1_lowestFree 0 = .ok (.iconst 0, 1) := by decide +kernel
theorem dX1_lowestFree_1 : decode cX1_lowestFree 1 = .ok (.istore_n 1, 1) := by decide +kernel
theorem dX1_lowestFree_2 : decode cX1_lowestFree 2 = .ok (.iload_n 1, 1) := by decide +kernel
theorem dX1_lowestFree_3 : decode cX1_lowestFree 3 = .ok (.bipush 18, 2) := by decide +kernel
theorem dX1_lowestFree_5 : decode cX1_lowestFree 5 = .ok (.if_icmp .ge 22, 3) := by decide +kernel
theorem dX1_lowestFree_8 : decode cX1_lowestFree 8 = .ok (.aload_n 0, 1) := by decide +kernel
theorem dX1_lowestFree_9 : decode cX1_lowestFree 9 = .ok (.getfield 28, 3) := by decide +kernel
theorem dX1_lowestFree_12 : decode cX1_lowestFree 12 = .ok (.iload_n 1, 1) := by decide +kernel
theorem dX1_lowestFree_13 : decode cX1_lowestFree 13 = .ok (.ishr, 1) := by decide +kernel
theorem dX1_lowestFree_14 : decode cX1_lowestFree 14 = .ok (.iconst 1, 1) := by decide +kernel
theorem dX1_lowestFree_15 : decode cX1_lowestFree 15 = .ok (.iand, 1) := by decide +kernel
theorem dX1_lowestFree_16 : decode cX1_lowestFree 16 = .ok (.ifCond .ne 5, 3) := by decide +kernel
theorem dX1_lowestFree_19 : decode cX1_lowestFree 19 = .ok (.iload_n 1, 1) := by decide +kernel
theorem dX1_lowestFree_20 : decode cX1_lowestFree 20 = .ok (.ireturn, 1) := by decide +kernel
theorem dX1_lowestFree_21 : decode cX1_lowestFree 21 = .ok (.iinc 1 1, 3) := by decide +kernel
theorem dX1_lowestFree_24 : decode cX1_lowestFree 24 = .ok (.goto (-22), 3) := by decide +kernel
theorem dX1_lowestFree_27 : decode cX1_lowestFree 27 = .ok (.iconst (-1), 1) := by decide +kernel
theorem dX1_lowestFree_28 : decode cX1_lowestFree 28 = .ok (.ireturn, 1) := by decide +kernel
theorem dX1_dig_0 : decode cX1_dig 0 = .ok (.aload_n 0, 1) := by decide +kernel
theorem dX1_dig_1 : decode cX1_dig 1 = .ok (.getfield 9, 3) := by decide +kernel
theorem dX1_dig_4 : decode cX1_dig 4 = .ok (.iload_n 1, 1) := by decide +kernel
theorem dX1_dig_5 : decode cX1_dig 5 = .ok (.iload_n 2, 1) := by decide +kernel
theorem dX1_dig_6 : decode cX1_dig 6 = .ok (.iload_n 3, 1) := by decide +kernel
theorem dX1_dig_7 : decode cX1_dig 7 = .ok (.invokestatic 41, 3) := by decide +kernel
theorem dX1_dig_10 : decode cX1_dig 10 = .ok (.iastore, 1) := by decide +kernel
theorem dX1_dig_11 : decode cX1_dig 11 = .ok (.aload_n 0, 1) := by decide +kernel
theorem dX1_dig_12 : decode cX1_dig 12 = .ok (.getfield 15, 3) := by decide +kernel
theorem dX1_dig_15 : decode cX1_dig 15 = .ok (.iload_n 1, 1) := by decide +kernel
theorem dX1_dig_16 : decode cX1_dig 16 = .ok (.iload_n 2, 1) := by decide +kernel
theorem dX1_dig_17 : decode cX1_dig 17 = .ok (.iload_n 3, 1) := by decide +kernel
theorem dX1_dig_18 : decode cX1_dig 18 = .ok (.invokestatic 47, 3) := by decide +kernel
theorem dX1_dig_21 : decode cX1_dig 21 = .ok (.iastore, 1) := by decide +kernel
theorem dX1_dig_22 : decode cX1_dig 22 = .ok (.aload_n 0, 1) := by decide +kernel
theorem dX1_dig_23 : decode cX1_dig 23 = .ok (.dup, 1) := by decide +kernel
theorem dX1_dig_24 : decode cX1_dig 24 = .ok (.getfield 28, 3) := by decide +kernel
theorem dX1_dig_27 : decode cX1_dig 27 = .ok (.iconst 1, 1) := by decide +kernel
theorem dX1_dig_28 : decode cX1_dig 28 = .ok (.iload_n 1, 1) := by decide +kernel
theorem dX1_dig_29 : decode cX1_dig 29 = .ok (.ishl, 1) := by decide +kernel
theorem dX1_dig_30 : decode cX1_dig 30 = .ok (.ior, 1) := by decide +kernel
theorem dX1_dig_31 : decode cX1_dig 31 = .ok (.putfield 28, 3) := by decide +kernel
theorem dX1_dig_34 : decode cX1_dig 34 = .ok (.aload_n 0, 1) := by decide +kernel
theorem dX1_dig_35 : decode cX1_dig 35 = .ok (.invokevirtual 34, 3) := by decide +kernel
theorem dX1_dig_38 : decode cX1_dig 38 = .ok (.return_, 1) := by decide +kernel
theorem dX1_fillUp_0 : decode cX1_fillUp 0 = .ok (.aload_n 0, 1) := by decide +kernel
theorem dX1_fillUp_1 : decode cX1_fillUp 1 = .ok (.dup, 1) := by decide +kernel
theorem dX1_fillUp_2 : decode cX1_fillUp 2 = .ok (.getfield 28, 3) := by decide +kernel
theorem dX1_fillUp_5 : decode cX1_fillUp 5 = .ok (.iconst 1, 1) := by decide +kernel
theorem dX1_fillUp_6 : decode cX1_fillUp 6 = .ok (.iload_n 1, 1) := by decide +kernel
theorem dX1_fillUp_7 : decode cX1_fillUp 7 = .ok (.ishl, 1) := by decide +kernel
theorem dX1_fillUp_8 : decode cX1_fillUp 8 = .ok (.iconst (-1), 1) := by decide +kernel
theorem dX1_fillUp_9 : decode cX1_fillUp 9 = .ok (.ixor, 1) := by decide +kernel
theorem dX1_fillUp_10 : decode cX1_fillUp 10 = .ok (.iand, 1) := by decide +kernel
theorem dX1_fillUp_11 : decode cX1_fillUp 11 = .ok (.putfield 28, 3) := by decide +kernel
theorem dX1_fillUp_14 : decode cX1_fillUp 14 = .ok (.aload_n 0, 1) := by decide +kernel
theorem dX1_fillUp_15 : decode cX1_fillUp 15 = .ok (.invokevirtual 34, 3) := by decide +kernel
theorem dX1_fillUp_18 : decode cX1_fillUp 18 = .ok (.return_, 1) := by decide +kernel
theorem dX1_linkCaves_0 : decode cX1_linkCaves 0 = .ok (.aload_n 0, 1) := by decide +kernel
theorem dX1_linkCaves_1 : decode cX1_linkCaves 1 = .ok (.getfield 18, 3) := by decide +kernel
theorem dX1_linkCaves_4 : decode cX1_linkCaves 4 = .ok (.iconst 0, 1) := by decide +kernel
theorem dX1_linkCaves_5 : decode cX1_linkCaves 5 = .ok (.invokestatic 50, 3) := by decide +kernel
theorem dX1_linkCaves_8 : decode cX1_linkCaves 8 = .ok (.aload_n 0, 1) := by decide +kernel
theorem dX1_linkCaves_9 : decode cX1_linkCaves 9 = .ok (.getfield 21, 3) := by decide +kernel
theorem dX1_linkCaves_12 : decode cX1_linkCaves 12 = .ok (.iconst 0, 1) := by decide +kernel
theorem dX1_linkCaves_13 : decode cX1_linkCaves 13 = .ok (.invokestatic 50, 3) := by decide +kernel
theorem dX1_linkCaves_16 : decode cX1_linkCaves 16 = .ok (.iconst 0, 1) := by decide +kernel
theorem dX1_linkCaves_17 : decode cX1_linkCaves 17 = .ok (.istore_n 1, 1) := by decide +kernel
theorem dX1_linkCaves_18 : decode cX1_linkCaves 18 = .ok (.iload_n 1, 1) := by decide +kernel
theorem dX1_linkCaves_19 : decode cX1_linkCaves 19 = .ok (.bipush 18, 2) := by decide +kernel
theorem dX1_linkCaves_21 : decode cX1_linkCaves 21 = .ok (.if_icmp .ge 79, 3) := by decide +kernel
theorem dX1_linkCaves_24 : decode cX1_linkCaves 24 = .ok (.aload_n 0, 1) := by decide +kernel
theorem dX1_linkCaves_25 : decode cX1_linkCaves 25 = .ok (.iload_n 1, 1) := by decide +kernel
theorem dX1_linkCaves_26 : decode cX1_linkCaves 26 = .ok (.invokevirtual 37, 3) := by decide +kernel
theorem dX1_linkCaves_29 : decode cX1_linkCaves 29 = .ok (.ifCond .eq 65, 3) := by decide +kernel
theorem dX1_linkCaves_32 : decode cX1_linkCaves 32 = .ok (.aload_n 0, 1) := by decide +kernel
theorem dX1_linkCaves_33 : decode cX1_linkCaves 33 = .ok (.getfield 9, 3) := by decide +kernel
theorem dX1_linkCaves_36 : decode cX1_linkCaves 36 = .ok (.iload_n 1, 1) := by decide +kernel
theorem dX1_linkCaves_37 : decode cX1_linkCaves 37 = .ok (.iaload, 1) := by decide +kernel
theorem dX1_linkCaves_38 : decode cX1_linkCaves 38 = .ok (.istore_n 2, 1) := by decide +kernel
theorem dX1_linkCaves_39 : decode cX1_linkCaves 39 = .ok (.aload_n 0, 1) := by decide +kernel
theorem dX1_linkCaves_40 : decode cX1_linkCaves 40 = .ok (.getfield 15, 3) := by decide +kernel
theorem dX1_linkCaves_43 : decode cX1_linkCaves 43 = .ok (.iload_n 1, 1) := by decide +kernel
theorem dX1_linkCaves_44 : decode cX1_linkCaves 44 = .ok (.iaload, 1) := by decide +kernel
theorem dX1_linkCaves_45 : decode cX1_linkCaves 45 = .ok (.istore_n 3, 1) := by decide +kernel
theorem dX1_linkCaves_46 : decode cX1_linkCaves 46 = .ok (.aload_n 0, 1) := by decide +kernel
theorem dX1_linkCaves_47 : decode cX1_linkCaves 47 = .ok (.getfield 18, 3) := by decide +kernel
theorem dX1_linkCaves_50 : decode cX1_linkCaves 50 = .ok (.iload_n 2, 1) := by decide +kernel
theorem dX1_linkCaves_51 : decode cX1_linkCaves 51 = .ok (.dup2, 1) := by decide +kernel
theorem dX1_linkCaves_52 : decode cX1_linkCaves 52 = .ok (.iaload, 1) := by decide +kernel
theorem dX1_linkCaves_53 : decode cX1_linkCaves 53 = .ok (.iconst 1, 1) := by decide +kernel
theorem dX1_linkCaves_54 : decode cX1_linkCaves 54 = .ok (.iload_n 1, 1) := by decide +kernel
theorem dX1_linkCaves_55 : decode cX1_linkCaves 55 = .ok (.ishl, 1) := by decide +kernel
theorem dX1_linkCaves_56 : decode cX1_linkCaves 56 = .ok (.ior, 1) := by decide +kernel
theorem dX1_linkCaves_57 : decode cX1_linkCaves 57 = .ok (.iastore, 1) := by decide +kernel
theorem dX1_linkCaves_58 : decode cX1_linkCaves 58 = .ok (.aload_n 0, 1) := by decide +kernel
theorem dX1_linkCaves_59 : decode cX1_linkCaves 59 = .ok (.getfield 18, 3) := by decide +kernel
theorem dX1_linkCaves_62 : decode cX1_linkCaves 62 = .ok (.iload_n 3, 1) := by decide +kernel
theorem dX1_linkCaves_63 : decode cX1_linkCaves 63 = .ok (.dup2, 1) := by decide +kernel
theorem dX1_linkCaves_64 : decode cX1_linkCaves 64 = .ok (.iaload, 1) := by decide +kernel
theorem dX1_linkCaves_65 : decode cX1_linkCaves 65 = .ok (.iconst 1, 1) := by decide +kernel
theorem dX1_linkCaves_66 : decode cX1_linkCaves 66 = .ok (.iload_n 1, 1) := by decide +kernel
theorem dX1_linkCaves_67 : decode cX1_linkCaves 67 = .ok (.ishl, 1) := by decide +kernel
theorem dX1_linkCaves_68 : decode cX1_linkCaves 68 = .ok (.ior, 1) := by decide +kernel
theorem dX1_linkCaves_69 : decode cX1_linkCaves 69 = .ok (.iastore, 1) := by decide +kernel
theorem dX1_linkCaves_70 : decode cX1_linkCaves 70 = .ok (.aload_n 0, 1) := by decide +kernel
theorem dX1_linkCaves_71 : decode cX1_linkCaves 71 = .ok (.getfield 21, 3) := by decide +kernel
theorem dX1_linkCaves_74 : decode cX1_linkCaves 74 = .ok (.iload_n 2, 1) := by decide +kernel
theorem dX1_linkCaves_75 : decode cX1_linkCaves 75 = .ok (.dup2, 1) := by decide +kernel
theorem dX1_linkCaves_76 : decode cX1_linkCaves 76 = .ok (.iaload, 1) := by decide +kernel
theorem dX1_linkCaves_77 : decode cX1_linkCaves 77 = .ok (.iconst 1, 1) := by decide +kernel
theorem dX1_linkCaves_78 : decode cX1_linkCaves 78 = .ok (.iload_n 3, 1) := by decide +kernel
theorem dX1_linkCaves_79 : decode cX1_linkCaves 79 = .ok (.ishl, 1) := by decide +kernel
theorem dX1_linkCaves_80 : decode cX1_linkCaves 80 = .ok (.ior, 1) := by decide +kernel
theorem dX1_linkCaves_81 : decode cX1_linkCaves 81 = .ok (.iastore, 1) := by decide +kernel
theorem dX1_linkCaves_82 : decode cX1_linkCaves 82 = .ok (.aload_n 0, 1) := by decide +kernel
theorem dX1_linkCaves_83 : decode cX1_linkCaves 83 = .ok (.getfield 21, 3) := by decide +kernel
theorem dX1_linkCaves_86 : decode cX1_linkCaves 86 = .ok (.iload_n 3, 1) := by decide +kernel
theorem dX1_linkCaves_87 : decode cX1_linkCaves 87 = .ok (.dup2, 1) := by decide +kernel
theorem dX1_linkCaves_88 : decode cX1_linkCaves 88 = .ok (.iaload, 1) := by decide +kernel
theorem dX1_linkCaves_89 : decode cX1_linkCaves 89 = .ok (.iconst 1, 1) := by decide +kernel
theorem dX1_linkCaves_90 : decode cX1_linkCaves 90 = .ok (.iload_n 2, 1) := by decide +kernel
theorem dX1_linkCaves_91 : decode cX1_linkCaves 91 = .ok (.ishl, 1) := by decide +kernel
theorem dX1_linkCaves_92 : decode cX1_linkCaves 92 = .ok (.ior, 1) := by decide +kernel
theorem dX1_linkCaves_93 : decode cX1_linkCaves 93 = .ok (.iastore, 1) := by decide +kernel
theorem dX1_linkCaves_94 : decode cX1_linkCaves 94 = .ok (.iinc 1 1, 3) := by decide +kernel
theorem dX1_linkCaves_97 : decode cX1_linkCaves 97 = .ok (.goto (-79), 3) := by decide +kernel
theorem dX1_linkCaves_100 : decode cX1_linkCaves 100 = .ok (.return_, 1) := by decide +kernel
theorem dX1_allCaves_0 : decode cX1_allCaves 0 = .ok (.iconst 1, 1) := by decide +kernel
theorem dX1_allCaves_1 : decode cX1_allCaves 1 = .ok (.aload_n 0, 1) := by decide +kernel
theorem dX1_allCaves_2 : decode cX1_allCaves 2 = .ok (.getfield 24, 3) := by decide +kernel
theorem dX1_allCaves_5 : decode cX1_allCaves 5 = .ok (.ishl, 1) := by decide +kernel
theorem dX1_allCaves_6 : decode cX1_allCaves 6 = .ok (.iconst 1, 1) := by decide +kernel
theorem dX1_allCaves_7 : decode cX1_allCaves 7 = .ok (.isub, 1) := by decide +kernel
theorem dX1_allCaves_8 : decode cX1_allCaves 8 = .ok (.ireturn, 1) := by decide +kernel
theorem dX1_otherEnd_0 : decode cX1_otherEnd 0 = .ok (.aload_n 0, 1) := by decide +kernel
theorem dX1_otherEnd_1 : decode cX1_otherEnd 1 = .ok (.getfield 9, 3) := by decide +kernel
theorem dX1_otherEnd_4 : decode cX1_otherEnd 4 = .ok (.iload_n 1, 1) := by decide +kernel
theorem dX1_otherEnd_5 : decode cX1_otherEnd 5 = .ok (.iaload, 1) := by decide +kernel
theorem dX1_otherEnd_6 : decode cX1_otherEnd 6 = .ok (.iload_n 2, 1) := by decide +kernel
theorem dX1_otherEnd_7 : decode cX1_otherEnd 7 = .ok (.if_icmp .ne 12, 3) := by decide +kernel
theorem dX1_otherEnd_10 : decode cX1_otherEnd 10 = .ok (.aload_n 0, 1) := by decide +kernel
theorem dX1_otherEnd_11 : decode cX1_otherEnd 11 = .ok (.getfield 15, 3) := by decide +kernel
theorem dX1_otherEnd_14 : decode cX1_otherEnd 14 = .ok (.iload_n 1, 1) := by decide +kernel
theorem dX1_otherEnd_15 : decode cX1_otherEnd 15 = .ok (.iaload, 1) := by decide +kernel
theorem dX1_otherEnd_16 : decode cX1_otherEnd 16 = .ok (.goto 9, 3) := by decide +kernel
theorem dX1_otherEnd_19 : decode cX1_otherEnd 19 = .ok (.aload_n 0, 1) := by decide +kernel
theorem dX1_otherEnd_20 : decode cX1_otherEnd 20 = .ok (.getfield 9, 3) := by decide +kernel
theorem dX1_otherEnd_23 : decode cX1_otherEnd 23 = .ok (.iload_n 1, 1) := by decide +kernel
theorem dX1_otherEnd_24 : decode cX1_otherEnd 24 = .ok (.iaload, 1) := by decide +kernel
theorem dX1_otherEnd_25 : decode cX1_otherEnd 25 = .ok (.ireturn, 1) := by decide +kernel
theorem dX1_passagesAt_0 : decode cX1_passagesAt 0 = .ok (.iconst 0, 1) := by decide +kernel
theorem dX1_passagesAt_1 : decode cX1_passagesAt 1 = .ok (.istore_n 2, 1) := by decide +kernel
theorem dX1_passagesAt_2 : decode cX1_passagesAt 2 = .ok (.iconst 0, 1) := by decide +kernel
theorem dX1_passagesAt_3 : decode cX1_passagesAt 3 = .ok (.istore_n 3, 1) := by decide +kernel
theorem dX1_passagesAt_4 : decode cX1_passagesAt 4 = .ok (.iload_n 3, 1) := by decide +kernel
theorem dX1_passagesAt_5 : decode cX1_passagesAt 5 = .ok (.aload_n 0, 1) := by decide +kernel
theorem dX1_passagesAt_6 : decode cX1_passagesAt 6 = .ok (.getfield 24, 3) := by decide +kernel
theorem dX1_passagesAt_9 : decode cX1_passagesAt 9 = .ok (.if_icmp .ge 26, 3) := by decide +kernel
theorem dX1_passagesAt_12 : decode cX1_passagesAt 12 = .ok (.iload_n 1, 1) := by decide +kernel
theorem dX1_passagesAt_13 : decode cX1_passagesAt 13 = .ok (.iload_n 3, 1) := by decide +kernel
theorem dX1_passagesAt_14 : decode cX1_passagesAt 14 = .ok (.ishr, 1) := by decide +kernel
theorem dX1_passagesAt_15 : decode cX1_passagesAt 15 = .ok (.iconst 1, 1) := by decide +kernel
theorem dX1_passagesAt_16 : decode cX1_passagesAt 16 = .ok (.iand, 1) := by decide +kernel
theorem dX1_passagesAt_17 : decode cX1_passagesAt 17 = .ok (.ifCond .eq 12, 3) := by decide +kernel
theorem dX1_passagesAt_20 : decode cX1_passagesAt 20 = .ok (.iload_n 2, 1) := by decide +kernel
theorem dX1_passagesAt_21 : decode cX1_passagesAt 21 = .ok (.aload_n 0, 1) := by decide +kernel
theorem dX1_passagesAt_22 : decode cX1_passagesAt 22 = .ok (.getfield 18, 3) := by decide +kernel
theorem dX1_passagesAt_25 : decode cX1_passagesAt 25 = .ok (.iload_n 3, 1) := by decide +kernel
theorem dX1_passagesAt_26 : decode cX1_passagesAt 26 = .ok (.iaload, 1) := by decide +kernel
theorem dX1_passagesAt_27 : decode cX1_passagesAt 27 = .ok (.ior, 1) := by decide +kernel
theorem dX1_passagesAt_28 : decode cX1_passagesAt 28 = .ok (.istore_n 2, 1) := by decide +kernel
theorem dX1_passagesAt_29 : decode cX1_passagesAt 29 = .ok (.iinc 3 1, 3) := by decide +kernel
theorem dX1_passagesAt_32 : decode cX1_passagesAt 32 = .ok (.goto (-28), 3) := by decide +kernel
theorem dX1_passagesAt_35 : decode cX1_passagesAt 35 = .ok (.iload_n 2, 1) := by decide +kernel
theorem dX1_passagesAt_36 : decode cX1_passagesAt 36 = .ok (.ireturn, 1) := by decide +kernel
theorem dX1_spread_0 : decode cX1_spread 0 = .ok (.iload_n 1, 1) := by decide +kernel
theorem dX1_spread_1 : decode cX1_spread 1 = .ok (.istore_n 3, 1) := by decide +kernel
theorem dX1_spread_2 : decode cX1_spread 2 = .ok (.iload_n 1, 1) := by decide +kernel
theorem dX1_spread_3 : decode cX1_spread 3 = .ok (.istore 4, 2) := by decide +kernel
theorem dX1_spread_5 : decode cX1_spread 5 = .ok (.iconst 0, 1) := by decide +kernel
theorem dX1_spread_6 : decode cX1_spread 6 = .ok (.istore 5, 2) := by decide +kernel
theorem dX1_spread_8 : decode cX1_spread 8 = .ok (.iload 5, 2) := by decide +kernel
theorem dX1_spread_10 : decode cX1_spread 10 = .ok (.aload_n 0, 1) := by decide +kernel
theorem dX1_spread_11 : decode cX1_spread 11 = .ok (.getfield 24, 3) := by decide +kernel
theorem dX1_spread_14 : decode cX1_spread 14 = .ok (.if_icmp .ge 74, 3) := by decide +kernel
theorem dX1_spread_17 : decode cX1_spread 17 = .ok (.iload 4, 2) := by decide +kernel
theorem dX1_spread_19 : decode cX1_spread 19 = .ok (.ifCond .eq 69, 3) := by decide +kernel
theorem dX1_spread_22 : decode cX1_spread 22 = .ok (.iconst 0, 1) := by decide +kernel
theorem dX1_spread_23 : decode cX1_spread 23 = .ok (.istore 6, 2) := by decide +kernel
theorem dX1_spread_25 : decode cX1_spread 25 = .ok (.iconst 0, 1) := by decide +kernel
theorem dX1_spread_26 : decode cX1_spread 26 = .ok (.istore 7, 2) := by decide +kernel
theorem dX1_spread_28 : decode cX1_spread 28 = .ok (.iload 7, 2) := by decide +kernel
theorem dX1_spread_30 : decode cX1_spread 30 = .ok (.aload_n 0, 1) := by decide +kernel
theorem dX1_spread_31 : decode cX1_spread 31 = .ok (.getfield 24, 3) := by decide +kernel
theorem dX1_spread_34 : decode cX1_spread 34 = .ok (.if_icmp .ge 31, 3) := by decide +kernel
theorem dX1_spread_37 : decode cX1_spread 37 = .ok (.iload 4, 2) := by decide +kernel
theorem dX1_spread_39 : decode cX1_spread 39 = .ok (.iload 7, 2) := by decide +kernel
theorem dX1_spread_41 : decode cX1_spread 41 = .ok (.ishr, 1) := by decide +kernel
theorem dX1_spread_42 : decode cX1_spread 42 = .ok (.iconst 1, 1) := by decide +kernel
theorem dX1_spread_43 : decode cX1_spread 43 = .ok (.iand, 1) := by decide +kernel
theorem dX1_spread_44 : decode cX1_spread 44 = .ok (.ifCond .eq 15, 3) := by decide +kernel
theorem dX1_spread_47 : decode cX1_spread 47 = .ok (.iload 6, 2) := by decide +kernel
theorem dX1_spread_49 : decode cX1_spread 49 = .ok (.aload_n 0, 1) := by decide +kernel
theorem dX1_spread_50 : decode cX1_spread 50 = .ok (.getfield 21, 3) := by decide +kernel
theorem dX1_spread_53 : decode cX1_spread 53 = .ok (.iload 7, 2) := by decide +kernel
theorem dX1_spread_55 : decode cX1_spread 55 = .ok (.iaload, 1) := by decide +kernel
theorem dX1_spread_56 : decode cX1_spread 56 = .ok (.ior, 1) := by decide +kernel
theorem dX1_spread_57 : decode cX1_spread 57 = .ok (.istore 6, 2) := by decide +kernel
theorem dX1_spread_59 : decode cX1_spread 59 = .ok (.iinc 7 1, 3) := by decide +kernel
theorem dX1_spread_62 : decode cX1_spread 62 = .ok (.goto (-34), 3) := by decide +kernel
theorem dX1_spread_65 : decode cX1_spread 65 = .ok (.iload 6, 2) := by decide +kernel
theorem dX1_spread_67 : decode cX1_spread 67 = .ok (.iload_n 2, 1) := by decide +kernel
theorem dX1_spread_68 : decode cX1_spread 68 = .ok (.iconst (-1), 1) := by decide +kernel
theorem dX1_spread_69 : decode cX1_spread 69 = .ok (.ixor, 1) := by decide +kernel
theorem dX1_spread_70 : decode cX1_spread 70 = .ok (.iand, 1) := by decide +kernel
theorem dX1_spread_71 : decode cX1_spread 71 = .ok (.iload_n 3, 1) := by decide +kernel
end
section
theorem dX1_spread_72 : decode cX1_spread 72 = .ok (.iconst (-1), 1) := by decide +kernel
theorem dX1_spread_73 : decode cX1_spread 73 = .ok (.ixor, 1) := by decide +kernel
theorem dX1_spread_74 : decode cX1_spread 74 = .ok (.iand, 1) := by decide +kernel
theorem dX1_spread_75 : decode cX1_spread 75 = .ok (.istore 4, 2) := by decide +kernel
theorem dX1_spread_77 : decode cX1_spread 77 = .ok (.iload_n 3, 1) := by decide +kernel
theorem dX1_spread_78 : decode cX1_spread 78 = .ok (.iload 4, 2) := by decide +kernel
theorem dX1_spread_80 : decode cX1_spread 80 = .ok (.ior, 1) := by decide +kernel
theorem dX1_spread_81 : decode cX1_spread 81 = .ok (.istore_n 3, 1) := by decide +kernel
theorem dX1_spread_82 : decode cX1_spread 82 = .ok (.iinc 5 1, 3) := by decide +kernel
theorem dX1_spread_85 : decode cX1_spread 85 = .ok (.goto (-77), 3) := by decide +kernel
theorem dX1_spread_88 : decode cX1_spread 88 = .ok (.iload_n 3, 1) := by decide +kernel
theorem dX1_spread_89 : decode cX1_spread 89 = .ok (.ireturn, 1) := by decide +kernel
theorem dX1_lostBehind_0 : decode cX1_lostBehind 0 = .ok (.iload_n 1, 1) := by decide +kernel
theorem dX1_lostBehind_1 : decode cX1_lostBehind 1 = .ok (.iload_n 2, 1) := by decide +kernel
theorem dX1_lostBehind_2 : decode cX1_lostBehind 2 = .ok (.iconst (-1), 1) := by decide +kernel
theorem dX1_lostBehind_3 : decode cX1_lostBehind 3 = .ok (.ixor, 1) := by decide +kernel
theorem dX1_lostBehind_4 : decode cX1_lostBehind 4 = .ok (.iand, 1) := by decide +kernel
theorem dX1_lostBehind_5 : decode cX1_lostBehind 5 = .ok (.istore 5, 2) := by decide +kernel
theorem dX1_lostBehind_7 : decode cX1_lostBehind 7 = .ok (.iload_n 2, 1) := by decide +kernel
theorem dX1_lostBehind_8 : decode cX1_lostBehind 8 = .ok (.iload_n 3, 1) := by decide +kernel
theorem dX1_lostBehind_9 : decode cX1_lostBehind 9 = .ok (.ishr, 1) := by decide +kernel
theorem dX1_lostBehind_10 : decode cX1_lostBehind 10 = .ok (.iconst 1, 1) := by decide +kernel
theorem dX1_lostBehind_11 : decode cX1_lostBehind 11 = .ok (.iand, 1) := by decide +kernel
theorem dX1_lostBehind_12 : decode cX1_lostBehind 12 = .ok (.ifCond .eq 6, 3) := by decide +kernel
theorem dX1_lostBehind_15 : decode cX1_lostBehind 15 = .ok (.iload 5, 2) := by decide +kernel
theorem dX1_lostBehind_17 : decode cX1_lostBehind 17 = .ok (.ireturn, 1) := by decide +kernel
theorem dX1_lostBehind_18 : decode cX1_lostBehind 18 = .ok (.aload_n 0, 1) := by decide +kernel
theorem dX1_lostBehind_19 : decode cX1_lostBehind 19 = .ok (.getfield 18, 3) := by decide +kernel
theorem dX1_lostBehind_22 : decode cX1_lostBehind 22 = .ok (.iload_n 3, 1) := by decide +kernel
theorem dX1_lostBehind_23 : decode cX1_lostBehind 23 = .ok (.iaload, 1) := by decide +kernel
theorem dX1_lostBehind_24 : decode cX1_lostBehind 24 = .ok (.aload_n 0, 1) := by decide +kernel
theorem dX1_lostBehind_25 : decode cX1_lostBehind 25 = .ok (.iload_n 1, 1) := by decide +kernel
theorem dX1_lostBehind_26 : decode cX1_lostBehind 26 = .ok (.invokevirtual 56, 3) := by decide +kernel
theorem dX1_lostBehind_29 : decode cX1_lostBehind 29 = .ok (.iand, 1) := by decide +kernel
theorem dX1_lostBehind_30 : decode cX1_lostBehind 30 = .ok (.iload 4, 2) := by decide +kernel
theorem dX1_lostBehind_32 : decode cX1_lostBehind 32 = .ok (.iconst (-1), 1) := by decide +kernel
theorem dX1_lostBehind_33 : decode cX1_lostBehind 33 = .ok (.ixor, 1) := by decide +kernel
theorem dX1_lostBehind_34 : decode cX1_lostBehind 34 = .ok (.iand, 1) := by decide +kernel
theorem dX1_lostBehind_35 : decode cX1_lostBehind 35 = .ok (.istore 6, 2) := by decide +kernel
theorem dX1_lostBehind_37 : decode cX1_lostBehind 37 = .ok (.iload 6, 2) := by decide +kernel
theorem dX1_lostBehind_39 : decode cX1_lostBehind 39 = .ok (.ifCond .ne 8, 3) := by decide +kernel
theorem dX1_lostBehind_42 : decode cX1_lostBehind 42 = .ok (.iload 5, 2) := by decide +kernel
theorem dX1_lostBehind_44 : decode cX1_lostBehind 44 = .ok (.goto 14, 3) := by decide +kernel
theorem dX1_lostBehind_47 : decode cX1_lostBehind 47 = .ok (.aload_n 0, 1) := by decide +kernel
theorem dX1_lostBehind_48 : decode cX1_lostBehind 48 = .ok (.iload 5, 2) := by decide +kernel
theorem dX1_lostBehind_50 : decode cX1_lostBehind 50 = .ok (.iconst 1, 1) := by decide +kernel
theorem dX1_lostBehind_51 : decode cX1_lostBehind 51 = .ok (.iload_n 3, 1) := by decide +kernel
theorem dX1_lostBehind_52 : decode cX1_lostBehind 52 = .ok (.ishl, 1) := by decide +kernel
theorem dX1_lostBehind_53 : decode cX1_lostBehind 53 = .ok (.ior, 1) := by decide +kernel
theorem dX1_lostBehind_54 : decode cX1_lostBehind 54 = .ok (.iload_n 2, 1) := by decide +kernel
theorem dX1_lostBehind_55 : decode cX1_lostBehind 55 = .ok (.invokevirtual 60, 3) := by decide +kernel
theorem dX1_lostBehind_58 : decode cX1_lostBehind 58 = .ok (.ireturn, 1) := by decide +kernel
theorem dX1_allows_0 : decode cX1_allows 0 = .ok (.iload_n 1, 1) := by decide +kernel
theorem dX1_allows_1 : decode cX1_allows 1 = .ok (.ifCond .ne 5, 3) := by decide +kernel
theorem dX1_allows_4 : decode cX1_allows 4 = .ok (.iconst 1, 1) := by decide +kernel
theorem dX1_allows_5 : decode cX1_allows 5 = .ok (.ireturn, 1) := by decide +kernel
theorem dX1_allows_6 : decode cX1_allows 6 = .ok (.iload_n 2, 1) := by decide +kernel
theorem dX1_allows_7 : decode cX1_allows 7 = .ok (.iconst 1, 1) := by decide +kernel
theorem dX1_allows_8 : decode cX1_allows 8 = .ok (.if_icmp .ne 5, 3) := by decide +kernel
theorem dX1_allows_11 : decode cX1_allows 11 = .ok (.iconst 0, 1) := by decide +kernel
theorem dX1_allows_12 : decode cX1_allows 12 = .ok (.ireturn, 1) := by decide +kernel
theorem dX1_allows_13 : decode cX1_allows 13 = .ok (.iload_n 2, 1) := by decide +kernel
theorem dX1_allows_14 : decode cX1_allows 14 = .ok (.ifCond .eq 5, 3) := by decide +kernel
theorem dX1_allows_17 : decode cX1_allows 17 = .ok (.iconst 1, 1) := by decide +kernel
theorem dX1_allows_18 : decode cX1_allows 18 = .ok (.ireturn, 1) := by decide +kernel
theorem dX1_allows_19 : decode cX1_allows 19 = .ok (.iload_n 1, 1) := by decide +kernel
theorem dX1_allows_20 : decode cX1_allows 20 = .ok (.iconst 1, 1) := by decide +kernel
theorem dX1_allows_21 : decode cX1_allows 21 = .ok (.if_icmp .ne 16, 3) := by decide +kernel
theorem dX1_allows_24 : decode cX1_allows 24 = .ok (.iload 4, 2) := by decide +kernel
theorem dX1_allows_26 : decode cX1_allows 26 = .ok (.ifCond .ne 7, 3) := by decide +kernel
theorem dX1_allows_29 : decode cX1_allows 29 = .ok (.iconst 1, 1) := by decide +kernel
theorem dX1_allows_30 : decode cX1_allows 30 = .ok (.goto 20, 3) := by decide +kernel
theorem dX1_allows_33 : decode cX1_allows 33 = .ok (.iconst 0, 1) := by decide +kernel
theorem dX1_allows_34 : decode cX1_allows 34 = .ok (.goto 16, 3) := by decide +kernel
theorem dX1_allows_37 : decode cX1_allows 37 = .ok (.iload_n 3, 1) := by decide +kernel
theorem dX1_allows_38 : decode cX1_allows 38 = .ok (.aload_n 0, 1) := by decide +kernel
theorem dX1_allows_39 : decode cX1_allows 39 = .ok (.getfield 31, 3) := by decide +kernel
theorem dX1_allows_42 : decode cX1_allows 42 = .ok (.if_icmp .ne 7, 3) := by decide +kernel
theorem dX1_allows_45 : decode cX1_allows 45 = .ok (.iconst 1, 1) := by decide +kernel
theorem dX1_allows_46 : decode cX1_allows 46 = .ok (.goto 4, 3) := by decide +kernel
theorem dX1_allows_49 : decode cX1_allows 49 = .ok (.iconst 0, 1) := by decide +kernel
theorem dX1_allows_50 : decode cX1_allows 50 = .ok (.ireturn, 1) := by decide +kernel
theorem dX1_hangsTogether_0 : decode cX1_hangsTogether 0 = .ok (.iconst 1, 1) := by decide +kernel
theorem dX1_hangsTogether_1 : decode cX1_hangsTogether 1 = .ok (.aload_n 0, 1) := by decide +kernel
theorem dX1_hangsTogether_2 : decode cX1_hangsTogether 2 = .ok (.getfield 31, 3) := by decide +kernel
theorem dX1_hangsTogether_5 : decode cX1_hangsTogether 5 = .ok (.ishl, 1) := by decide +kernel
theorem dX1_hangsTogether_6 : decode cX1_hangsTogether 6 = .ok (.istore_n 3, 1) := by decide +kernel
theorem dX1_hangsTogether_7 : decode cX1_hangsTogether 7 = .ok (.iload_n 1, 1) := by decide +kernel
theorem dX1_hangsTogether_8 : decode cX1_hangsTogether 8 = .ok (.iload_n 3, 1) := by decide +kernel
theorem dX1_hangsTogether_9 : decode cX1_hangsTogether 9 = .ok (.iand, 1) := by decide +kernel
theorem dX1_hangsTogether_10 : decode cX1_hangsTogether 10 = .ok (.ifCond .eq 7, 3) := by decide +kernel
theorem dX1_hangsTogether_13 : decode cX1_hangsTogether 13 = .ok (.iload_n 3, 1) := by decide +kernel
theorem dX1_hangsTogether_14 : decode cX1_hangsTogether 14 = .ok (.goto 9, 3) := by decide +kernel
theorem dX1_hangsTogether_17 : decode cX1_hangsTogether 17 = .ok (.aload_n 0, 1) := by decide +kernel
theorem dX1_hangsTogether_18 : decode cX1_hangsTogether 18 = .ok (.iload_n 3, 1) := by decide +kernel
theorem dX1_hangsTogether_19 : decode cX1_hangsTogether 19 = .ok (.iload_n 1, 1) := by decide +kernel
theorem dX1_hangsTogether_20 : decode cX1_hangsTogether 20 = .ok (.invokevirtual 60, 3) := by decide +kernel
theorem dX1_hangsTogether_23 : decode cX1_hangsTogether 23 = .ok (.istore 4, 2) := by decide +kernel
theorem dX1_hangsTogether_25 : decode cX1_hangsTogether 25 = .ok (.aload_n 0, 1) := by decide +kernel
theorem dX1_hangsTogether_26 : decode cX1_hangsTogether 26 = .ok (.getfield 28, 3) := by decide +kernel
theorem dX1_hangsTogether_29 : decode cX1_hangsTogether 29 = .ok (.aload_n 0, 1) := by decide +kernel
theorem dX1_hangsTogether_30 : decode cX1_hangsTogether 30 = .ok (.iload_n 1, 1) := by decide +kernel
theorem dX1_hangsTogether_31 : decode cX1_hangsTogether 31 = .ok (.invokevirtual 56, 3) := by decide +kernel
theorem dX1_hangsTogether_34 : decode cX1_hangsTogether 34 = .ok (.iconst (-1), 1) := by decide +kernel
theorem dX1_hangsTogether_35 : decode cX1_hangsTogether 35 = .ok (.ixor, 1) := by decide +kernel
theorem dX1_hangsTogether_36 : decode cX1_hangsTogether 36 = .ok (.iand, 1) := by decide +kernel
theorem dX1_hangsTogether_37 : decode cX1_hangsTogether 37 = .ok (.istore 5, 2) := by decide +kernel
theorem dX1_hangsTogether_39 : decode cX1_hangsTogether 39 = .ok (.iload_n 2, 1) := by decide +kernel
theorem dX1_hangsTogether_40 : decode cX1_hangsTogether 40 = .ok (.iload 4, 2) := by decide +kernel
theorem dX1_hangsTogether_42 : decode cX1_hangsTogether 42 = .ok (.iconst (-1), 1) := by decide +kernel
theorem dX1_hangsTogether_43 : decode cX1_hangsTogether 43 = .ok (.ixor, 1) := by decide +kernel
theorem dX1_hangsTogether_44 : decode cX1_hangsTogether 44 = .ok (.iand, 1) := by decide +kernel
theorem dX1_hangsTogether_45 : decode cX1_hangsTogether 45 = .ok (.ifCond .ne 21, 3) := by decide +kernel
theorem dX1_hangsTogether_48 : decode cX1_hangsTogether 48 = .ok (.iload 5, 2) := by decide +kernel
theorem dX1_hangsTogether_50 : decode cX1_hangsTogether 50 = .ok (.aload_n 0, 1) := by decide +kernel
theorem dX1_hangsTogether_51 : decode cX1_hangsTogether 51 = .ok (.iload 4, 2) := by decide +kernel
theorem dX1_hangsTogether_53 : decode cX1_hangsTogether 53 = .ok (.invokevirtual 56, 3) := by decide +kernel
theorem dX1_hangsTogether_56 : decode cX1_hangsTogether 56 = .ok (.iconst (-1), 1) := by decide +kernel
theorem dX1_hangsTogether_57 : decode cX1_hangsTogether 57 = .ok (.ixor, 1) := by decide +kernel
theorem dX1_hangsTogether_58 : decode cX1_hangsTogether 58 = .ok (.iand, 1) := by decide +kernel
theorem dX1_hangsTogether_59 : decode cX1_hangsTogether 59 = .ok (.ifCond .ne 7, 3) := by decide +kernel
theorem dX1_hangsTogether_62 : decode cX1_hangsTogether 62 = .ok (.iconst 1, 1) := by decide +kernel
theorem dX1_hangsTogether_63 : decode cX1_hangsTogether 63 = .ok (.goto 4, 3) := by decide +kernel
theorem dX1_hangsTogether_66 : decode cX1_hangsTogether 66 = .ok (.iconst 0, 1) := by decide +kernel
theorem dX1_hangsTogether_67 : decode cX1_hangsTogether 67 = .ok (.ireturn, 1) := by decide +kernel
theorem dX1_parts_0 : decode cX1_parts 0 = .ok (.iconst 0, 1) := by decide +kernel
theorem dX1_parts_1 : decode cX1_parts 1 = .ok (.istore_n 1, 1) := by decide +kernel
theorem dX1_parts_2 : decode cX1_parts 2 = .ok (.iconst 0, 1) := by decide +kernel
theorem dX1_parts_3 : decode cX1_parts 3 = .ok (.istore_n 2, 1) := by decide +kernel
theorem dX1_parts_4 : decode cX1_parts 4 = .ok (.iconst 0, 1) := by decide +kernel
theorem dX1_parts_5 : decode cX1_parts 5 = .ok (.istore_n 3, 1) := by decide +kernel
theorem dX1_parts_6 : decode cX1_parts 6 = .ok (.iload_n 3, 1) := by decide +kernel
theorem dX1_parts_7 : decode cX1_parts 7 = .ok (.aload_n 0, 1) := by decide +kernel
theorem dX1_parts_8 : decode cX1_parts 8 = .ok (.getfield 24, 3) := by decide +kernel
theorem dX1_parts_11 : decode cX1_parts 11 = .ok (.if_icmp .ge 31, 3) := by decide +kernel
theorem dX1_parts_14 : decode cX1_parts 14 = .ok (.iload_n 2, 1) := by decide +kernel
theorem dX1_parts_15 : decode cX1_parts 15 = .ok (.iload_n 3, 1) := by decide +kernel
theorem dX1_parts_16 : decode cX1_parts 16 = .ok (.ishr, 1) := by decide +kernel
theorem dX1_parts_17 : decode cX1_parts 17 = .ok (.iconst 1, 1) := by decide +kernel
theorem dX1_parts_18 : decode cX1_parts 18 = .ok (.iand, 1) := by decide +kernel
theorem dX1_parts_19 : decode cX1_parts 19 = .ok (.ifCond .ne 17, 3) := by decide +kernel
theorem dX1_parts_22 : decode cX1_parts 22 = .ok (.iinc 1 1, 3) := by decide +kernel
theorem dX1_parts_25 : decode cX1_parts 25 = .ok (.iload_n 2, 1) := by decide +kernel
theorem dX1_parts_26 : decode cX1_parts 26 = .ok (.aload_n 0, 1) := by decide +kernel
theorem dX1_parts_27 : decode cX1_parts 27 = .ok (.iconst 1, 1) := by decide +kernel
theorem dX1_parts_28 : decode cX1_parts 28 = .ok (.iload_n 3, 1) := by decide +kernel
theorem dX1_parts_29 : decode cX1_parts 29 = .ok (.ishl, 1) := by decide +kernel
theorem dX1_parts_30 : decode cX1_parts 30 = .ok (.iconst 0, 1) := by decide +kernel
theorem dX1_parts_31 : decode cX1_parts 31 = .ok (.invokevirtual 60, 3) := by decide +kernel
theorem dX1_parts_34 : decode cX1_parts 34 = .ok (.ior, 1) := by decide +kernel
theorem dX1_parts_35 : decode cX1_parts 35 = .ok (.istore_n 2, 1) := by decide +kernel
theorem dX1_parts_36 : decode cX1_parts 36 = .ok (.iinc 3 1, 3) := by decide +kernel
theorem dX1_parts_39 : decode cX1_parts 39 = .ok (.goto (-33), 3) := by decide +kernel
theorem dX1_parts_42 : decode cX1_parts 42 = .ok (.iload_n 1, 1) := by decide +kernel
theorem dX1_parts_43 : decode cX1_parts 43 = .ok (.ireturn, 1) := by decide +kernel
theorem dX1_isTree_0 : decode cX1_isTree 0 = .ok (.aload_n 0, 1) := by decide +kernel
theorem dX1_isTree_1 : decode cX1_isTree 1 = .ok (.invokevirtual 63, 3) := by decide +kernel
theorem dX1_isTree_4 : decode cX1_isTree 4 = .ok (.iconst 1, 1) := by decide +kernel
theorem dX1_isTree_5 : decode cX1_isTree 5 = .ok (.if_icmp .ne 23, 3) := by decide +kernel
theorem dX1_isTree_8 : decode cX1_isTree 8 = .ok (.aload_n 0, 1) := by decide +kernel
theorem dX1_isTree_9 : decode cX1_isTree 9 = .ok (.getfield 28, 3) := by decide +kernel
theorem dX1_isTree_12 : decode cX1_isTree 12 = .ok (.invokestatic 67, 3) := by decide +kernel
theorem dX1_isTree_15 : decode cX1_isTree 15 = .ok (.aload_n 0, 1) := by decide +kernel
theorem dX1_isTree_16 : decode cX1_isTree 16 = .ok (.getfield 24, 3) := by decide +kernel
theorem dX1_isTree_19 : decode cX1_isTree 19 = .ok (.iconst 1, 1) := by decide +kernel
theorem dX1_isTree_20 : decode cX1_isTree 20 = .ok (.isub, 1) := by decide +kernel
theorem dX1_isTree_21 : decode cX1_isTree 21 = .ok (.if_icmp .ne 7, 3) := by decide +kernel
theorem dX1_isTree_24 : decode cX1_isTree 24 = .ok (.iconst 1, 1) := by decide +kernel
theorem dX1_isTree_25 : decode cX1_isTree 25 = .ok (.goto 4, 3) := by decide +kernel
theorem dX1_isTree_28 : decode cX1_isTree 28 = .ok (.iconst 0, 1) := by decide +kernel
theorem dX1_isTree_29 : decode cX1_isTree 29 = .ok (.ireturn, 1) := by decide +kernel
theorem dX1_cutBetween_0 : decode cX1_cutBetween 0 = .ok (.iconst 0, 1) := by decide +kernel
theorem dX1_cutBetween_1 : decode cX1_cutBetween 1 = .ok (.istore_n 2, 1) := by decide +kernel
theorem dX1_cutBetween_2 : decode cX1_cutBetween 2 = .ok (.iconst 0, 1) := by decide +kernel
theorem dX1_cutBetween_3 : decode cX1_cutBetween 3 = .ok (.istore_n 3, 1) := by decide +kernel
theorem dX1_cutBetween_4 : decode cX1_cutBetween 4 = .ok (.iload_n 3, 1) := by decide +kernel
theorem dX1_cutBetween_5 : decode cX1_cutBetween 5 = .ok (.aload_n 0, 1) := by decide +kernel
theorem dX1_cutBetween_6 : decode cX1_cutBetween 6 = .ok (.getfield 24, 3) := by decide +kernel
theorem dX1_cutBetween_9 : decode cX1_cutBetween 9 = .ok (.if_icmp .ge 33, 3) := by decide +kernel
theorem dX1_cutBetween_12 : decode cX1_cutBetween 12 = .ok (.iload_n 1, 1) := by decide +kernel
theorem dX1_cutBetween_13 : decode cX1_cutBetween 13 = .ok (.iload_n 3, 1) := by decide +kernel
theorem dX1_cutBetween_14 : decode cX1_cutBetween 14 = .ok (.ishr, 1) := by decide +kernel
theorem dX1_cutBetween_15 : decode cX1_cutBetween 15 = .ok (.iconst 1, 1) := by decide +kernel
theorem dX1_cutBetween_16 : decode cX1_cutBetween 16 = .ok (.iand, 1) := by decide +kernel
theorem dX1_cutBetween_17 : decode cX1_cutBetween 17 = .ok (.ifCond .eq 19, 3) := by decide +kernel
theorem dX1_cutBetween_20 : decode cX1_cutBetween 20 = .ok (.aload_n 0, 1) := by decide +kernel
theorem dX1_cutBetween_21 : decode cX1_cutBetween 21 = .ok (.getfield 21, 3) := by decide +kernel
theorem dX1_cutBetween_24 : decode cX1_cutBetween 24 = .ok (.iload_n 3, 1) := by decide +kernel
theorem dX1_cutBetween_25 : decode cX1_cutBetween 25 = .ok (.iaload, 1) := by decide +kernel
theorem dX1_cutBetween_26 : decode cX1_cutBetween 26 = .ok (.iload_n 1, 1) := by decide +kernel
theorem dX1_cutBetween_27 : decode cX1_cutBetween 27 = .ok (.iconst (-1), 1) := by decide +kernel
theorem dX1_cutBetween_28 : decode cX1_cutBetween 28 = .ok (.ixor, 1) := by decide +kernel
theorem dX1_cutBetween_29 : decode cX1_cutBetween 29 = .ok (.iand, 1) := by decide +kernel
theorem dX1_cutBetween_30 : decode cX1_cutBetween 30 = .ok (.ifCond .eq 6, 3) := by decide +kernel
theorem dX1_cutBetween_33 : decode cX1_cutBetween 33 = .ok (.iinc 2 1, 3) := by decide +kernel
theorem dX1_cutBetween_36 : decode cX1_cutBetween 36 = .ok (.iinc 3 1, 3) := by decide +kernel
theorem dX1_cutBetween_39 : decode cX1_cutBetween 39 = .ok (.goto (-35), 3) := by decide +kernel
theorem dX1_cutBetween_42 : decode cX1_cutBetween 42 = .ok (.iload_n 2, 1) := by decide +kernel
theorem dX1_cutBetween_43 : decode cX1_cutBetween 43 = .ok (.ireturn, 1) := by decide +kernel
theorem dX2_init_0 : decode cX2_init 0 = .ok (.aload_n 0, 1) := by decide +kernel
theorem dX2_init_1 : decode cX2_init 1 = .ok (.invokespecial 3, 3) := by decide +kernel
theorem dX2_init_4 : decode cX2_init 4 = .ok (.aload_n 0, 1) := by decide +kernel
theorem dX2_init_5 : decode cX2_init 5 = .ok (.bipush 12, 2) := by decide +kernel
theorem dX2_init_7 : decode cX2_init 7 = .ok (.newarray .int, 2) := by decide +kernel
theorem dX2_init_9 : decode cX2_init 9 = .ok (.putfield 9, 3) := by decide +kernel
theorem dX2_init_12 : decode cX2_init 12 = .ok (.aload_n 0, 1) := by decide +kernel
theorem dX2_init_13 : decode cX2_init 13 = .ok (.sipush 4096, 3) := by decide +kernel
theorem dX2_init_16 : decode cX2_init 16 = .ok (.newarray .int, 2) := by decide +kernel
theorem dX2_init_18 : decode cX2_init 18 = .ok (.putfield 15, 3) := by decide +kernel
theorem dX2_init_21 : decode cX2_init 21 = .ok (.aload_n 0, 1) := by decide +kernel
theorem dX2_init_22 : decode cX2_init 22 = .ok (.aload_n 1, 1) := by decide +kernel
theorem dX2_init_23 : decode cX2_init 23 = .ok (.putfield 18, 3) := by decide +kernel
theorem dX2_init_26 : decode cX2_init 26 = .ok (.return_, 1) := by decide +kernel
theorem dX2_reset_0 : decode cX2_reset 0 = .ok (.iconst 0, 1) := by decide +kernel
theorem dX2_reset_1 : decode cX2_reset 1 = .ok (.istore_n 1, 1) := by decide +kernel
theorem dX2_reset_2 : decode cX2_reset 2 = .ok (.iload_n 1, 1) := by decide +kernel
theorem dX2_reset_3 : decode cX2_reset 3 = .ok (.bipush 12, 2) := by decide +kernel
theorem dX2_reset_5 : decode cX2_reset 5 = .ok (.if_icmp .ge 16, 3) := by decide +kernel
theorem dX2_reset_8 : decode cX2_reset 8 = .ok (.aload_n 0, 1) := by decide +kernel
theorem dX2_reset_9 : decode cX2_reset 9 = .ok (.getfield 9, 3) := by decide +kernel
theorem dX2_reset_12 : decode cX2_reset 12 = .ok (.iload_n 1, 1) := by decide +kernel
theorem dX2_reset_13 : decode cX2_reset 13 = .ok (.iload_n 1, 1) := by decide +kernel
theorem dX2_reset_14 : decode cX2_reset 14 = .ok (.iastore, 1) := by decide +kernel
theorem dX2_reset_15 : decode cX2_reset 15 = .ok (.iinc 1 1, 3) := by decide +kernel
theorem dX2_reset_18 : decode cX2_reset 18 = .ok (.goto (-16), 3) := by decide +kernel
theorem dX2_reset_21 : decode cX2_reset 21 = .ok (.return_, 1) := by decide +kernel
theorem dX2_placeOf_0 : decode cX2_placeOf 0 = .ok (.iconst 0, 1) := by decide +kernel
theorem dX2_placeOf_1 : decode cX2_placeOf 1 = .ok (.istore_n 2, 1) := by decide +kernel
theorem dX2_placeOf_2 : decode cX2_placeOf 2 = .ok (.iload_n 2, 1) := by decide +kernel
theorem dX2_placeOf_3 : decode cX2_placeOf 3 = .ok (.aload_n 0, 1) := by decide +kernel
theorem dX2_placeOf_4 : decode cX2_placeOf 4 = .ok (.getfield 18, 3) := by decide +kernel
theorem dX2_placeOf_7 : decode cX2_placeOf 7 = .ok (.getfield 22, 3) := by decide +kernel
theorem dX2_placeOf_10 : decode cX2_placeOf 10 = .ok (.if_icmp .ge 21, 3) := by decide +kernel
theorem dX2_placeOf_13 : decode cX2_placeOf 13 = .ok (.aload_n 0, 1) := by decide +kernel
theorem dX2_placeOf_14 : decode cX2_placeOf 14 = .ok (.getfield 9, 3) := by decide +kernel
theorem dX2_placeOf_17 : decode cX2_placeOf 17 = .ok (.iload_n 2, 1) := by decide +kernel
theorem dX2_placeOf_18 : decode cX2_placeOf 18 = .ok (.iaload, 1) := by decide +kernel
theorem dX2_placeOf_19 : decode cX2_placeOf 19 = .ok (.iload_n 1, 1) := by decide +kernel
theorem dX2_placeOf_20 : decode cX2_placeOf 20 = .ok (.if_icmp .ne 5, 3) := by decide +kernel
theorem dX2_placeOf_23 : decode cX2_placeOf 23 = .ok (.iload_n 2, 1) := by decide +kernel
theorem dX2_placeOf_24 : decode cX2_placeOf 24 = .ok (.ireturn, 1) := by decide +kernel
theorem dX2_placeOf_25 : decode cX2_placeOf 25 = .ok (.iinc 2 1, 3) := by decide +kernel
theorem dX2_placeOf_28 : decode cX2_placeOf 28 = .ok (.goto (-26), 3) := by decide +kernel
theorem dX2_placeOf_31 : decode cX2_placeOf 31 = .ok (.iconst (-1), 1) := by decide +kernel
theorem dX2_placeOf_32 : decode cX2_placeOf 32 = .ok (.ireturn, 1) := by decide +kernel
theorem dX2_swapIn_0 : decode cX2_swapIn 0 = .ok (.aload_n 0, 1) := by decide +kernel
theorem dX2_swapIn_1 : decode cX2_swapIn 1 = .ok (.iload_n 2, 1) := by decide +kernel
theorem dX2_swapIn_2 : decode cX2_swapIn 2 = .ok (.invokevirtual 28, 3) := by decide +kernel
theorem dX2_swapIn_5 : decode cX2_swapIn 5 = .ok (.istore_n 3, 1) := by decide +kernel
theorem dX2_swapIn_6 : decode cX2_swapIn 6 = .ok (.iload_n 3, 1) := by decide +kernel
theorem dX2_swapIn_7 : decode cX2_swapIn 7 = .ok (.iconst (-1), 1) := by decide +kernel
theorem dX2_swapIn_8 : decode cX2_swapIn 8 = .ok (.if_icmp .eq 22, 3) := by decide +kernel
theorem dX2_swapIn_11 : decode cX2_swapIn 11 = .ok (.aload_n 0, 1) := by decide +kernel
theorem dX2_swapIn_12 : decode cX2_swapIn 12 = .ok (.getfield 9, 3) := by decide +kernel
theorem dX2_swapIn_15 : decode cX2_swapIn 15 = .ok (.iload_n 3, 1) := by decide +kernel
theorem dX2_swapIn_16 : decode cX2_swapIn 16 = .ok (.aload_n 0, 1) := by decide +kernel
theorem dX2_swapIn_17 : decode cX2_swapIn 17 = .ok (.getfield 9, 3) := by decide +kernel
theorem dX2_swapIn_20 : decode cX2_swapIn 20 = .ok (.iload_n 1, 1) := by decide +kernel
theorem dX2_swapIn_21 : decode cX2_swapIn 21 = .ok (.iaload, 1) := by decide +kernel
theorem dX2_swapIn_22 : decode cX2_swapIn 22 = .ok (.iastore, 1) := by decide +kernel
theorem dX2_swapIn_23 : decode cX2_swapIn 23 = .ok (.aload_n 0, 1) := by decide +kernel
theorem dX2_swapIn_24 : decode cX2_swapIn 24 = .ok (.getfield 9, 3) := by decide +kernel
theorem dX2_swapIn_27 : decode cX2_swapIn 27 = .ok (.iload_n 1, 1) := by decide +kernel
theorem dX2_swapIn_28 : decode cX2_swapIn 28 = .ok (.iload_n 2, 1) := by decide +kernel
theorem dX2_swapIn_29 : decode cX2_swapIn 29 = .ok (.iastore, 1) := by decide +kernel
theorem dX2_swapIn_30 : decode cX2_swapIn 30 = .ok (.return_, 1) := by decide +kernel
theorem dX2_cutBehind_0 : decode cX2_cutBehind 0 = .ok (.iconst 0, 1) := by decide +kernel
theorem dX2_cutBehind_1 : decode cX2_cutBehind 1 = .ok (.istore_n 2, 1) := by decide +kernel
theorem dX2_cutBehind_2 : decode cX2_cutBehind 2 = .ok (.iconst 0, 1) := by decide +kernel
theorem dX2_cutBehind_3 : decode cX2_cutBehind 3 = .ok (.istore_n 3, 1) := by decide +kernel
theorem dX2_cutBehind_4 : decode cX2_cutBehind 4 = .ok (.iload_n 3, 1) := by decide +kernel
theorem dX2_cutBehind_5 : decode cX2_cutBehind 5 = .ok (.iload_n 1, 1) := by decide +kernel
theorem dX2_cutBehind_6 : decode cX2_cutBehind 6 = .ok (.if_icmp .ge 31, 3) := by decide +kernel
theorem dX2_cutBehind_9 : decode cX2_cutBehind 9 = .ok (.iload_n 3, 1) := by decide +kernel
theorem dX2_cutBehind_10 : decode cX2_cutBehind 10 = .ok (.aload_n 0, 1) := by decide +kernel
theorem dX2_cutBehind_11 : decode cX2_cutBehind 11 = .ok (.getfield 18, 3) := by decide +kernel
theorem dX2_cutBehind_14 : decode cX2_cutBehind 14 = .ok (.getfield 22, 3) := by decide +kernel
theorem dX2_cutBehind_17 : decode cX2_cutBehind 17 = .ok (.if_icmp .ge 20, 3) := by decide +kernel
theorem dX2_cutBehind_20 : decode cX2_cutBehind 20 = .ok (.iload_n 2, 1) := by decide +kernel
theorem dX2_cutBehind_21 : decode cX2_cutBehind 21 = .ok (.iconst 1, 1) := by decide +kernel
theorem dX2_cutBehind_22 : decode cX2_cutBehind 22 = .ok (.aload_n 0, 1) := by decide +kernel
theorem dX2_cutBehind_23 : decode cX2_cutBehind 23 = .ok (.getfield 9, 3) := by decide +kernel
theorem dX2_cutBehind_26 : decode cX2_cutBehind 26 = .ok (.iload_n 3, 1) := by decide +kernel
theorem dX2_cutBehind_27 : decode cX2_cutBehind 27 = .ok (.iaload, 1) := by decide +kernel
theorem dX2_cutBehind_28 : decode cX2_cutBehind 28 = .ok (.ishl, 1) := by decide +kernel
theorem dX2_cutBehind_29 : decode cX2_cutBehind 29 = .ok (.ior, 1) := by decide +kernel
theorem dX2_cutBehind_30 : decode cX2_cutBehind 30 = .ok (.istore_n 2, 1) := by decide +kernel
theorem dX2_cutBehind_31 : decode cX2_cutBehind 31 = .ok (.iinc 3 1, 3) := by decide +kernel
theorem dX2_cutBehind_34 : decode cX2_cutBehind 34 = .ok (.goto (-30), 3) := by decide +kernel
theorem dX2_cutBehind_37 : decode cX2_cutBehind 37 = .ok (.aload_n 0, 1) := by decide +kernel
theorem dX2_cutBehind_38 : decode cX2_cutBehind 38 = .ok (.getfield 18, 3) := by decide +kernel
theorem dX2_cutBehind_41 : decode cX2_cutBehind 41 = .ok (.iload_n 2, 1) := by decide +kernel
theorem dX2_cutBehind_42 : decode cX2_cutBehind 42 = .ok (.invokevirtual 32, 3) := by decide +kernel
theorem dX2_cutBehind_45 : decode cX2_cutBehind 45 = .ok (.ireturn, 1) := by decide +kernel
theorem dX2_greatestCut_0 : decode cX2_greatestCut 0 = .ok (.iconst (-1), 1) := by decide +kernel
theorem dX2_greatestCut_1 : decode cX2_greatestCut 1 = .ok (.istore_n 1, 1) := by decide +kernel
theorem dX2_greatestCut_2 : decode cX2_greatestCut 2 = .ok (.iconst 1, 1) := by decide +kernel
theorem dX2_greatestCut_3 : decode cX2_greatestCut 3 = .ok (.istore_n 2, 1) := by decide +kernel
theorem dX2_greatestCut_4 : decode cX2_greatestCut 4 = .ok (.iload_n 2, 1) := by decide +kernel
theorem dX2_greatestCut_5 : decode cX2_greatestCut 5 = .ok (.aload_n 0, 1) := by decide +kernel
theorem dX2_greatestCut_6 : decode cX2_greatestCut 6 = .ok (.getfield 18, 3) := by decide +kernel
theorem dX2_greatestCut_9 : decode cX2_greatestCut 9 = .ok (.getfield 22, 3) := by decide +kernel
theorem dX2_greatestCut_12 : decode cX2_greatestCut 12 = .ok (.if_icmp .gt 19, 3) := by decide +kernel
theorem dX2_greatestCut_15 : decode cX2_greatestCut 15 = .ok (.iload_n 1, 1) := by decide +kernel
theorem dX2_greatestCut_16 : decode cX2_greatestCut 16 = .ok (.aload_n 0, 1) := by decide +kernel
theorem dX2_greatestCut_17 : decode cX2_greatestCut 17 = .ok (.iload_n 2, 1) := by decide +kernel
theorem dX2_greatestCut_18 : decode cX2_greatestCut 18 = .ok (.invokevirtual 35, 3) := by decide +kernel
theorem dX2_greatestCut_21 : decode cX2_greatestCut 21 = .ok (.invokestatic 38, 3) := by decide +kernel
theorem dX2_greatestCut_24 : decode cX2_greatestCut 24 = .ok (.istore_n 1, 1) := by decide +kernel
theorem dX2_greatestCut_25 : decode cX2_greatestCut 25 = .ok (.iinc 2 1, 3) := by decide +kernel
theorem dX2_greatestCut_28 : decode cX2_greatestCut 28 = .ok (.goto (-24), 3) := by decide +kernel
theorem dX2_greatestCut_31 : decode cX2_greatestCut 31 = .ok (.iload_n 1, 1) := by decide +kernel
theorem dX2_greatestCut_32 : decode cX2_greatestCut 32 = .ok (.ireturn, 1) := by decide +kernel
theorem dX2_becomeTheLeast_0 : decode cX2_becomeTheLeast 0 = .ok (.aload_n 0, 1) := by decide +kernel
theorem dX2_becomeTheLeast_1 : decode cX2_becomeTheLeast 1 = .ok (.getfield 18, 3) := by decide +kernel
theorem dX2_becomeTheLeast_4 : decode cX2_becomeTheLeast 4 = .ok (.invokevirtual 44, 3) := by decide +kernel
theorem dX2_becomeTheLeast_7 : decode cX2_becomeTheLeast 7 = .ok (.istore_n 1, 1) := by decide +kernel
theorem dX2_becomeTheLeast_8 : decode cX2_becomeTheLeast 8 = .ok (.iload_n 1, 1) := by decide +kernel
theorem dX2_becomeTheLeast_9 : decode cX2_becomeTheLeast 9 = .ok (.istore_n 2, 1) := by decide +kernel
theorem dX2_becomeTheLeast_10 : decode cX2_becomeTheLeast 10 = .ok (.iload_n 2, 1) := by decide +kernel
theorem dX2_becomeTheLeast_11 : decode cX2_becomeTheLeast 11 = .ok (.ifCond .lt 31, 3) := by decide +kernel
theorem dX2_becomeTheLeast_14 : decode cX2_becomeTheLeast 14 = .ok (.aload_n 0, 1) := by decide +kernel
theorem dX2_becomeTheLeast_15 : decode cX2_becomeTheLeast 15 = .ok (.getfield 15, 3) := by decide +kernel
theorem dX2_becomeTheLeast_18 : decode cX2_becomeTheLeast 18 = .ok (.iload_n 2, 1) := by decide +kernel
theorem dX2_becomeTheLeast_19 : decode cX2_becomeTheLeast 19 = .ok (.aload_n 0, 1) := by decide +kernel
theorem dX2_becomeTheLeast_20 : decode cX2_becomeTheLeast 20 = .ok (.getfield 18, 3) := by decide +kernel
theorem dX2_becomeTheLeast_23 : decode cX2_becomeTheLeast 23 = .ok (.iload_n 2, 1) := by decide +kernel
theorem dX2_becomeTheLeast_24 : decode cX2_becomeTheLeast 24 = .ok (.invokevirtual 32, 3) := by decide +kernel
theorem dX2_becomeTheLeast_27 : decode cX2_becomeTheLeast 27 = .ok (.aload_n 0, 1) := by decide +kernel
theorem dX2_becomeTheLeast_28 : decode cX2_becomeTheLeast 28 = .ok (.iload_n 2, 1) := by decide +kernel
theorem dX2_becomeTheLeast_29 : decode cX2_becomeTheLeast 29 = .ok (.invokevirtual 48, 3) := by decide +kernel
theorem dX2_becomeTheLeast_32 : decode cX2_becomeTheLeast 32 = .ok (.invokestatic 38, 3) := by decide +kernel
theorem dX2_becomeTheLeast_35 : decode cX2_becomeTheLeast 35 = .ok (.iastore, 1) := by decide +kernel
theorem dX2_becomeTheLeast_36 : decode cX2_becomeTheLeast 36 = .ok (.iinc 2 (-1), 3) := by decide +kernel
theorem dX2_becomeTheLeast_39 : decode cX2_becomeTheLeast 39 = .ok (.goto (-29), 3) := by decide +kernel
theorem dX2_becomeTheLeast_42 : decode cX2_becomeTheLeast 42 = .ok (.aload_n 0, 1) := by decide +kernel
theorem dX2_becomeTheLeast_43 : decode cX2_becomeTheLeast 43 = .ok (.getfield 15, 3) := by decide +kernel
theorem dX2_becomeTheLeast_46 : decode cX2_becomeTheLeast 46 = .ok (.iconst 0, 1) := by decide +kernel
theorem dX2_becomeTheLeast_47 : decode cX2_becomeTheLeast 47 = .ok (.iaload, 1) := by decide +kernel
theorem dX2_becomeTheLeast_48 : decode cX2_becomeTheLeast 48 = .ok (.istore_n 2, 1) := by decide +kernel
theorem dX2_becomeTheLeast_49 : decode cX2_becomeTheLeast 49 = .ok (.iconst 0, 1) := by decide +kernel
theorem dX2_becomeTheLeast_50 : decode cX2_becomeTheLeast 50 = .ok (.istore_n 3, 1) := by decide +kernel
theorem dX2_becomeTheLeast_51 : decode cX2_becomeTheLeast 51 = .ok (.iconst 0, 1) := by decide +kernel
theorem dX2_becomeTheLeast_52 : decode cX2_becomeTheLeast 52 = .ok (.istore 4, 2) := by decide +kernel
theorem dX2_becomeTheLeast_54 : decode cX2_becomeTheLeast 54 = .ok (.iload 4, 2) := by decide +kernel
theorem dX2_becomeTheLeast_56 : decode cX2_becomeTheLeast 56 = .ok (.aload_n 0, 1) := by decide +kernel
theorem dX2_becomeTheLeast_57 : decode cX2_becomeTheLeast 57 = .ok (.getfield 18, 3) := by decide +kernel
theorem dX2_becomeTheLeast_60 : decode cX2_becomeTheLeast 60 = .ok (.getfield 22, 3) := by decide +kernel
theorem dX2_becomeTheLeast_63 : decode cX2_becomeTheLeast 63 = .ok (.if_icmp .ge 34, 3) := by decide +kernel
theorem dX2_becomeTheLeast_66 : decode cX2_becomeTheLeast 66 = .ok (.aload_n 0, 1) := by decide +kernel
theorem dX2_becomeTheLeast_67 : decode cX2_becomeTheLeast 67 = .ok (.getfield 9, 3) := by decide +kernel
theorem dX2_becomeTheLeast_70 : decode cX2_becomeTheLeast 70 = .ok (.iload 4, 2) := by decide +kernel
theorem dX2_becomeTheLeast_72 : decode cX2_becomeTheLeast 72 = .ok (.aload_n 0, 1) := by decide +kernel
theorem dX2_becomeTheLeast_73 : decode cX2_becomeTheLeast 73 = .ok (.iload_n 3, 1) := by decide +kernel
theorem dX2_becomeTheLeast_74 : decode cX2_becomeTheLeast 74 = .ok (.iload_n 2, 1) := by decide +kernel
theorem dX2_becomeTheLeast_75 : decode cX2_becomeTheLeast 75 = .ok (.invokevirtual 51, 3) := by decide +kernel
theorem dX2_becomeTheLeast_78 : decode cX2_becomeTheLeast 78 = .ok (.iastore, 1) := by decide +kernel
theorem dX2_becomeTheLeast_79 : decode cX2_becomeTheLeast 79 = .ok (.iload_n 3, 1) := by decide +kernel
theorem dX2_becomeTheLeast_80 : decode cX2_becomeTheLeast 80 = .ok (.iconst 1, 1) := by decide +kernel
theorem dX2_becomeTheLeast_81 : decode cX2_becomeTheLeast 81 = .ok (.aload_n 0, 1) := by decide +kernel
theorem dX2_becomeTheLeast_82 : decode cX2_becomeTheLeast 82 = .ok (.getfield 9, 3) := by decide +kernel
theorem dX2_becomeTheLeast_85 : decode cX2_becomeTheLeast 85 = .ok (.iload 4, 2) := by decide +kernel
theorem dX2_becomeTheLeast_87 : decode cX2_becomeTheLeast 87 = .ok (.iaload, 1) := by decide +kernel
theorem dX2_becomeTheLeast_88 : decode cX2_becomeTheLeast 88 = .ok (.ishl, 1) := by decide +kernel
theorem dX2_becomeTheLeast_89 : decode cX2_becomeTheLeast 89 = .ok (.ior, 1) := by decide +kernel
theorem dX2_becomeTheLeast_90 : decode cX2_becomeTheLeast 90 = .ok (.istore_n 3, 1) := by decide +kernel
theorem dX2_becomeTheLeast_91 : decode cX2_becomeTheLeast 91 = .ok (.iinc 4 1, 3) := by decide +kernel
theorem dX2_becomeTheLeast_94 : decode cX2_becomeTheLeast 94 = .ok (.goto (-40), 3) := by decide +kernel
theorem dX2_becomeTheLeast_97 : decode cX2_becomeTheLeast 97 = .ok (.iload_n 2, 1) := by decide +kernel
theorem dX2_becomeTheLeast_98 : decode cX2_becomeTheLeast 98 = .ok (.ireturn, 1) := by decide +kernel
theorem dX2_leastWorstBehind_0 : decode cX2_leastWorstBehind 0 = .ok (.iload_n 1, 1) := by decide +kernel
theorem dX2_leastWorstBehind_1 : decode cX2_leastWorstBehind 1 = .ok (.aload_n 0, 1) := by decide +kernel
theorem dX2_leastWorstBehind_2 : decode cX2_leastWorstBehind 2 = .ok (.getfield 18, 3) := by decide +kernel
theorem dX2_leastWorstBehind_5 : decode cX2_leastWorstBehind 5 = .ok (.invokevirtual 44, 3) := by decide +kernel
theorem dX2_leastWorstBehind_8 : decode cX2_leastWorstBehind 8 = .ok (.if_icmp .ne 5, 3) := by decide +kernel
theorem dX2_leastWorstBehind_11 : decode cX2_leastWorstBehind 11 = .ok (.iconst 0, 1) := by decide +kernel
theorem dX2_leastWorstBehind_12 : decode cX2_leastWorstBehind 12 = .ok (.ireturn, 1) := by decide +kernel
theorem dX2_leastWorstBehind_13 : decode cX2_leastWorstBehind 13 = .ok (.bipush 12, 2) := by decide +kernel
theorem dX2_leastWorstBehind_15 : decode cX2_leastWorstBehind 15 = .ok (.istore_n 2, 1) := by decide +kernel
theorem dX2_leastWorstBehind_16 : decode cX2_leastWorstBehind 16 = .ok (.iconst 0, 1) := by decide +kernel
theorem dX2_leastWorstBehind_17 : decode cX2_leastWorstBehind 17 = .ok (.istore_n 3, 1) := by decide +kernel
theorem dX2_leastWorstBehind_18 : decode cX2_leastWorstBehind 18 = .ok (.iload_n 3, 1) := by decide +kernel
theorem dX2_leastWorstBehind_19 : decode cX2_leastWorstBehind 19 = .ok (.aload_n 0, 1) := by decide +kernel
theorem dX2_leastWorstBehind_20 : decode cX2_leastWorstBehind 20 = .ok (.getfield 18, 3) := by decide +kernel
theorem dX2_leastWorstBehind_23 : decode cX2_leastWorstBehind 23 = .ok (.getfield 22, 3) := by decide +kernel
theorem dX2_leastWorstBehind_26 : decode cX2_leastWorstBehind 26 = .ok (.if_icmp .ge 32, 3) := by decide +kernel
theorem dX2_leastWorstBehind_29 : decode cX2_leastWorstBehind 29 = .ok (.iload_n 1, 1) := by decide +kernel
theorem dX2_leastWorstBehind_30 : decode cX2_leastWorstBehind 30 = .ok (.iload_n 3, 1) := by decide +kernel
theorem dX2_leastWorstBehind_31 : decode cX2_leastWorstBehind 31 = .ok (.ishr, 1) := by decide +kernel
theorem dX2_leastWorstBehind_32 : decode cX2_leastWorstBehind 32 = .ok (.iconst 1, 1) := by decide +kernel
theorem dX2_leastWorstBehind_33 : decode cX2_leastWorstBehind 33 = .ok (.iand, 1) := by decide +kernel
theorem dX2_leastWorstBehind_34 : decode cX2_leastWorstBehind 34 = .ok (.ifCond .ne 18, 3) := by decide +kernel
theorem dX2_leastWorstBehind_37 : decode cX2_leastWorstBehind 37 = .ok (.iload_n 2, 1) := by decide +kernel
theorem dX2_leastWorstBehind_38 : decode cX2_leastWorstBehind 38 = .ok (.aload_n 0, 1) := by decide +kernel
theorem dX2_leastWorstBehind_39 : decode cX2_leastWorstBehind 39 = .ok (.getfield 15, 3) := by decide +kernel
theorem dX2_leastWorstBehind_42 : decode cX2_leastWorstBehind 42 = .ok (.iload_n 1, 1) := by decide +kernel
theorem dX2_leastWorstBehind_43 : decode cX2_leastWorstBehind 43 = .ok (.iconst 1, 1) := by decide +kernel
theorem dX2_leastWorstBehind_44 : decode cX2_leastWorstBehind 44 = .ok (.iload_n 3, 1) := by decide +kernel
theorem dX2_leastWorstBehind_45 : decode cX2_leastWorstBehind 45 = .ok (.ishl, 1) := by decide +kernel
theorem dX2_leastWorstBehind_46 : decode cX2_leastWorstBehind 46 = .ok (.ior, 1) := by decide +kernel
theorem dX2_leastWorstBehind_47 : decode cX2_leastWorstBehind 47 = .ok (.iaload, 1) := by decide +kernel
theorem dX2_leastWorstBehind_48 : decode cX2_leastWorstBehind 48 = .ok (.invokestatic 54, 3) := by decide +kernel
theorem dX2_leastWorstBehind_51 : decode cX2_leastWorstBehind 51 = .ok (.istore_n 2, 1) := by decide +kernel
theorem dX2_leastWorstBehind_52 : decode cX2_leastWorstBehind 52 = .ok (.iinc 3 1, 3) := by decide +kernel
theorem dX2_leastWorstBehind_55 : decode cX2_leastWorstBehind 55 = .ok (.goto (-37), 3) := by decide +kernel
theorem dX2_leastWorstBehind_58 : decode cX2_leastWorstBehind 58 = .ok (.iload_n 2, 1) := by decide +kernel
theorem dX2_leastWorstBehind_59 : decode cX2_leastWorstBehind 59 = .ok (.ireturn, 1) := by decide +kernel
theorem dX2_firstWithin_0 : decode cX2_firstWithin 0 = .ok (.iconst 0, 1) := by decide +kernel
theorem dX2_firstWithin_1 : decode cX2_firstWithin 1 = .ok (.istore_n 3, 1) := by decide +kernel
theorem dX2_firstWithin_2 : decode cX2_firstWithin 2 = .ok (.iload_n 3, 1) := by decide +kernel
theorem dX2_firstWithin_3 : decode cX2_firstWithin 3 = .ok (.aload_n 0, 1) := by decide +kernel
theorem dX2_firstWithin_4 : decode cX2_firstWithin 4 = .ok (.getfield 18, 3) := by decide +kernel
theorem dX2_firstWithin_7 : decode cX2_firstWithin 7 = .ok (.getfield 22, 3) := by decide +kernel
theorem dX2_firstWithin_10 : decode cX2_firstWithin 10 = .ok (.if_icmp .ge 33, 3) := by decide +kernel
theorem dX2_firstWithin_13 : decode cX2_firstWithin 13 = .ok (.iload_n 1, 1) := by decide +kernel
theorem dX2_firstWithin_14 : decode cX2_firstWithin 14 = .ok (.iload_n 3, 1) := by decide +kernel
theorem dX2_firstWithin_15 : decode cX2_firstWithin 15 = .ok (.ishr, 1) := by decide +kernel
theorem dX2_firstWithin_16 : decode cX2_firstWithin 16 = .ok (.iconst 1, 1) := by decide +kernel
theorem dX2_firstWithin_17 : decode cX2_firstWithin 17 = .ok (.iand, 1) := by decide +kernel
theorem dX2_firstWithin_18 : decode cX2_firstWithin 18 = .ok (.ifCond .ne 19, 3) := by decide +kernel
theorem dX2_firstWithin_21 : decode cX2_firstWithin 21 = .ok (.aload_n 0, 1) := by decide +kernel
theorem dX2_firstWithin_22 : decode cX2_firstWithin 22 = .ok (.getfield 15, 3) := by decide +kernel
theorem dX2_firstWithin_25 : decode cX2_firstWithin 25 = .ok (.iload_n 1, 1) := by decide +kernel
theorem dX2_firstWithin_26 : decode cX2_firstWithin 26 = .ok (.iconst 1, 1) := by decide +kernel
theorem dX2_firstWithin_27 : decode cX2_firstWithin 27 = .ok (.iload_n 3, 1) := by decide +kernel
theorem dX2_firstWithin_28 : decode cX2_firstWithin 28 = .ok (.ishl, 1) := by decide +kernel
theorem dX2_firstWithin_29 : decode cX2_firstWithin 29 = .ok (.ior, 1) := by decide +kernel
theorem dX2_firstWithin_30 : decode cX2_firstWithin 30 = .ok (.iaload, 1) := by decide +kernel
theorem dX2_firstWithin_31 : decode cX2_firstWithin 31 = .ok (.iload_n 2, 1) := by decide +kernel
theorem dX2_firstWithin_32 : decode cX2_firstWithin 32 = .ok (.if_icmp .gt 5, 3) := by decide +kernel
theorem dX2_firstWithin_35 : decode cX2_firstWithin 35 = .ok (.iload_n 3, 1) := by decide +kernel
theorem dX2_firstWithin_36 : decode cX2_firstWithin 36 = .ok (.ireturn, 1) := by decide +kernel
theorem dX2_firstWithin_37 : decode cX2_firstWithin 37 = .ok (.iinc 3 1, 3) := by decide +kernel
theorem dX2_firstWithin_40 : decode cX2_firstWithin 40 = .ok (.goto (-38), 3) := by decide +kernel
theorem dX2_firstWithin_43 : decode cX2_firstWithin 43 = .ok (.iconst 0, 1) := by decide +kernel
theorem dX2_firstWithin_44 : decode cX2_firstWithin 44 = .ok (.ireturn, 1) := by decide +kernel
theorem dX3_init_0 : decode cX3_init 0 = .ok (.aload_n 0, 1) := by decide +kernel
theorem dX3_init_1 : decode cX3_init 1 = .ok (.invokespecial 3, 3) := by decide +kernel
theorem dX3_init_4 : decode cX3_init 4 = .ok (.aload_n 0, 1) := by decide +kernel
theorem dX3_init_5 : decode cX3_init 5 = .ok (.new 9, 3) := by decide +kernel
theorem dX3_init_8 : decode cX3_init 8 = .ok (.dup, 1) := by decide +kernel
theorem dX3_init_9 : decode cX3_init 9 = .ok (.invokespecial 11, 3) := by decide +kernel
theorem dX3_init_12 : decode cX3_init 12 = .ok (.putfield 12, 3) := by decide +kernel
theorem dX3_init_15 : decode cX3_init 15 = .ok (.aload_n 0, 1) := by decide +kernel
theorem dX3_init_16 : decode cX3_init 16 = .ok (.sipush 200, 3) := by decide +kernel
theorem dX3_init_19 : decode cX3_init 19 = .ok (.newarray .int, 2) := by decide +kernel
theorem dX3_init_21 : decode cX3_init 21 = .ok (.putfield 18, 3) := by decide +kernel
theorem dX3_init_24 : decode cX3_init 24 = .ok (.aload_n 0, 1) := by decide +kernel
theorem dX3_init_25 : decode cX3_init 25 = .ok (.sipush 200, 3) := by decide +kernel
theorem dX3_init_28 : decode cX3_init 28 = .ok (.newarray .int, 2) := by decide +kernel
theorem dX3_init_30 : decode cX3_init 30 = .ok (.putfield 22, 3) := by decide +kernel
theorem dX3_init_33 : decode cX3_init 33 = .ok (.aload_n 0, 1) := by decide +kernel
theorem dX3_init_34 : decode cX3_init 34 = .ok (.sipush 200, 3) := by decide +kernel
theorem dX3_init_37 : decode cX3_init 37 = .ok (.newarray .int, 2) := by decide +kernel
theorem dX3_init_39 : decode cX3_init 39 = .ok (.putfield 25, 3) := by decide +kernel
theorem dX3_init_42 : decode cX3_init 42 = .ok (.aload_n 0, 1) := by decide +kernel
theorem dX3_init_43 : decode cX3_init 43 = .ok (.sipush 200, 3) := by decide +kernel
theorem dX3_init_46 : decode cX3_init 46 = .ok (.newarray .int, 2) := by decide +kernel
theorem dX3_init_48 : decode cX3_init 48 = .ok (.putfield 28, 3) := by decide +kernel
theorem dX3_init_51 : decode cX3_init 51 = .ok (.aload_n 0, 1) := by decide +kernel
theorem dX3_init_52 : decode cX3_init 52 = .ok (.sipush 200, 3) := by decide +kernel
theorem dX3_init_55 : decode cX3_init 55 = .ok (.newarray .int, 2) := by decide +kernel
theorem dX3_init_57 : decode cX3_init 57 = .ok (.putfield 31, 3) := by decide +kernel
theorem dX3_init_60 : decode cX3_init 60 = .ok (.aload_n 0, 1) := by decide +kernel
theorem dX3_init_61 : decode cX3_init 61 = .ok (.aload_n 1, 1) := by decide +kernel
theorem dX3_init_62 : decode cX3_init 62 = .ok (.putfield 34, 3) := by decide +kernel
theorem dX3_init_65 : decode cX3_init 65 = .ok (.return_, 1) := by decide +kernel
theorem dX3_begin_0 : decode cX3_begin 0 = .ok (.aload_n 0, 1) := by decide +kernel
theorem dX3_begin_1 : decode cX3_begin 1 = .ok (.getfield 12, 3) := by decide +kernel
theorem dX3_begin_4 : decode cX3_begin 4 = .ok (.aload_n 0, 1) := by decide +kernel
theorem dX3_begin_5 : decode cX3_begin 5 = .ok (.getfield 34, 3) := by decide +kernel
theorem dX3_begin_8 : decode cX3_begin 8 = .ok (.invokevirtual 38, 3) := by decide +kernel
theorem dX3_begin_11 : decode cX3_begin 11 = .ok (.aload_n 0, 1) := by decide +kernel
theorem dX3_begin_12 : decode cX3_begin 12 = .ok (.iconst 0, 1) := by decide +kernel
theorem dX3_begin_13 : decode cX3_begin 13 = .ok (.putfield 42, 3) := by decide +kernel
theorem dX3_begin_16 : decode cX3_begin 16 = .ok (.aload_n 0, 1) := by decide +kernel
theorem dX3_begin_17 : decode cX3_begin 17 = .ok (.iconst 0, 1) := by decide +kernel
theorem dX3_begin_18 : decode cX3_begin 18 = .ok (.putfield 46, 3) := by decide +kernel
theorem dX3_begin_21 : decode cX3_begin 21 = .ok (.return_, 1) := by decide +kernel
theorem dX3_carryOut_0 : decode cX3_carryOut 0 = .ok (.aload_n 0, 1) := by decide +kernel
theorem dX3_carryOut_1 : decode cX3_carryOut 1 = .ok (.getfield 42, 3) := by decide +kernel
theorem dX3_carryOut_4 : decode cX3_carryOut 4 = .ok (.sipush 200, 3) := by decide +kernel
theorem dX3_carryOut_7 : decode cX3_carryOut 7 = .ok (.if_icmp .ge 12, 3) := by decide +kernel
theorem dX3_carryOut_10 : decode cX3_carryOut 10 = .ok (.aload_n 0, 1) := by decide +kernel
theorem dX3_carryOut_11 : decode cX3_carryOut 11 = .ok (.iload_n 1, 1) := by decide +kernel
theorem dX3_carryOut_12 : decode cX3_carryOut 12 = .ok (.iload_n 2, 1) := by decide +kernel
theorem dX3_carryOut_13 : decode cX3_carryOut 13 = .ok (.invokevirtual 49, 3) := by decide +kernel
theorem dX3_carryOut_16 : decode cX3_carryOut 16 = .ok (.ifCond .ne 5, 3) := by decide +kernel
theorem dX3_carryOut_19 : decode cX3_carryOut 19 = .ok (.iconst 0, 1) := by decide +kernel
theorem dX3_carryOut_20 : decode cX3_carryOut 20 = .ok (.ireturn, 1) := by decide +kernel
theorem dX3_carryOut_21 : decode cX3_carryOut 21 = .ok (.aload_n 0, 1) := by decide +kernel
theorem dX3_carryOut_22 : decode cX3_carryOut 22 = .ok (.getfield 12, 3) := by decide +kernel
theorem dX3_carryOut_25 : decode cX3_carryOut 25 = .ok (.getfield 53, 3) := by decide +kernel
theorem dX3_carryOut_28 : decode cX3_carryOut 28 = .ok (.istore 4, 2) := by decide +kernel
theorem dX3_carryOut_30 : decode cX3_carryOut 30 = .ok (.aload_n 0, 1) := by decide +kernel
theorem dX3_carryOut_31 : decode cX3_carryOut 31 = .ok (.getfield 12, 3) := by decide +kernel
theorem dX3_carryOut_34 : decode cX3_carryOut 34 = .ok (.aload_n 0, 1) := by decide +kernel
theorem dX3_carryOut_35 : decode cX3_carryOut 35 = .ok (.getfield 34, 3) := by decide +kernel
theorem dX3_carryOut_38 : decode cX3_carryOut 38 = .ok (.iload_n 1, 1) := by decide +kernel
theorem dX3_carryOut_39 : decode cX3_carryOut 39 = .ok (.iload_n 2, 1) := by decide +kernel
theorem dX3_carryOut_40 : decode cX3_carryOut 40 = .ok (.iload_n 3, 1) := by decide +kernel
theorem dX3_carryOut_41 : decode cX3_carryOut 41 = .ok (.invokevirtual 56, 3) := by decide +kernel
theorem dX3_carryOut_44 : decode cX3_carryOut 44 = .ok (.iload_n 1, 1) := by decide +kernel
theorem dX3_carryOut_45 : decode cX3_carryOut 45 = .ok (.iconst 3, 1) := by decide +kernel
theorem dX3_carryOut_46 : decode cX3_carryOut 46 = .ok (.if_icmp .ne 36, 3) := by decide +kernel
theorem dX3_carryOut_49 : decode cX3_carryOut 49 = .ok (.aload_n 0, 1) := by decide +kernel
theorem dX3_carryOut_50 : decode cX3_carryOut 50 = .ok (.getfield 12, 3) := by decide +kernel
theorem dX3_carryOut_53 : decode cX3_carryOut 53 = .ok (.getfield 53, 3) := by decide +kernel
theorem dX3_carryOut_56 : decode cX3_carryOut 56 = .ok (.iload 4, 2) := by decide +kernel
theorem dX3_carryOut_58 : decode cX3_carryOut 58 = .ok (.iconst (-1), 1) := by decide +kernel
theorem dX3_carryOut_59 : decode cX3_carryOut 59 = .ok (.ixor, 1) := by decide +kernel
theorem dX3_carryOut_60 : decode cX3_carryOut 60 = .ok (.iand, 1) := by decide +kernel
theorem dX3_carryOut_61 : decode cX3_carryOut 61 = .ok (.ifCond .eq 21, 3) := by decide +kernel
theorem dX3_carryOut_64 : decode cX3_carryOut 64 = .ok (.aload_n 0, 1) := by decide +kernel
theorem dX3_carryOut_65 : decode cX3_carryOut 65 = .ok (.getfield 12, 3) := by decide +kernel
theorem dX3_carryOut_68 : decode cX3_carryOut 68 = .ok (.aload_n 0, 1) := by decide +kernel
theorem dX3_carryOut_69 : decode cX3_carryOut 69 = .ok (.getfield 34, 3) := by decide +kernel
theorem dX3_carryOut_72 : decode cX3_carryOut 72 = .ok (.iload_n 1, 1) := by decide +kernel
theorem dX3_carryOut_73 : decode cX3_carryOut 73 = .ok (.iload_n 2, 1) := by decide +kernel
theorem dX3_carryOut_74 : decode cX3_carryOut 74 = .ok (.iload_n 3, 1) := by decide +kernel
theorem dX3_carryOut_75 : decode cX3_carryOut 75 = .ok (.iload 4, 2) := by decide +kernel
theorem dX3_carryOut_77 : decode cX3_carryOut 77 = .ok (.invokevirtual 60, 3) := by decide +kernel
theorem dX3_carryOut_80 : decode cX3_carryOut 80 = .ok (.iconst 0, 1) := by decide +kernel
theorem dX3_carryOut_81 : decode cX3_carryOut 81 = .ok (.ireturn, 1) := by decide +kernel
theorem dX3_carryOut_82 : decode cX3_carryOut 82 = .ok (.aload_n 0, 1) := by decide +kernel
theorem dX3_carryOut_83 : decode cX3_carryOut 83 = .ok (.getfield 18, 3) := by decide +kernel
theorem dX3_carryOut_86 : decode cX3_carryOut 86 = .ok (.aload_n 0, 1) := by decide +kernel
theorem dX3_carryOut_87 : decode cX3_carryOut 87 = .ok (.getfield 42, 3) := by decide +kernel
theorem dX3_carryOut_90 : decode cX3_carryOut 90 = .ok (.iload_n 1, 1) := by decide +kernel
theorem dX3_carryOut_91 : decode cX3_carryOut 91 = .ok (.iastore, 1) := by decide +kernel
theorem dX3_carryOut_92 : decode cX3_carryOut 92 = .ok (.aload_n 0, 1) := by decide +kernel
theorem dX3_carryOut_93 : decode cX3_carryOut 93 = .ok (.getfield 22, 3) := by decide +kernel
theorem dX3_carryOut_96 : decode cX3_carryOut 96 = .ok (.aload_n 0, 1) := by decide +kernel
theorem dX3_carryOut_97 : decode cX3_carryOut 97 = .ok (.getfield 42, 3) := by decide +kernel
theorem dX3_carryOut_100 : decode cX3_carryOut 100 = .ok (.iload_n 2, 1) := by decide +kernel
theorem dX3_carryOut_101 : decode cX3_carryOut 101 = .ok (.iastore, 1) := by decide +kernel
theorem dX3_carryOut_102 : decode cX3_carryOut 102 = .ok (.aload_n 0, 1) := by decide +kernel
theorem dX3_carryOut_103 : decode cX3_carryOut 103 = .ok (.getfield 25, 3) := by decide +kernel
theorem dX3_carryOut_106 : decode cX3_carryOut 106 = .ok (.aload_n 0, 1) := by decide +kernel
theorem dX3_carryOut_107 : decode cX3_carryOut 107 = .ok (.getfield 42, 3) := by decide +kernel
theorem dX3_carryOut_110 : decode cX3_carryOut 110 = .ok (.iload_n 3, 1) := by decide +kernel
theorem dX3_carryOut_111 : decode cX3_carryOut 111 = .ok (.iastore, 1) := by decide +kernel
theorem dX3_carryOut_112 : decode cX3_carryOut 112 = .ok (.aload_n 0, 1) := by decide +kernel
theorem dX3_carryOut_113 : decode cX3_carryOut 113 = .ok (.getfield 28, 3) := by decide +kernel
theorem dX3_carryOut_116 : decode cX3_carryOut 116 = .ok (.aload_n 0, 1) := by decide +kernel
theorem dX3_carryOut_117 : decode cX3_carryOut 117 = .ok (.getfield 42, 3) := by decide +kernel
theorem dX3_carryOut_120 : decode cX3_carryOut 120 = .ok (.iload 4, 2) := by decide +kernel
theorem dX3_carryOut_122 : decode cX3_carryOut 122 = .ok (.iastore, 1) := by decide +kernel
theorem dX3_carryOut_123 : decode cX3_carryOut 123 = .ok (.aload_n 0, 1) := by decide +kernel
theorem dX3_carryOut_124 : decode cX3_carryOut 124 = .ok (.getfield 31, 3) := by decide +kernel
theorem dX3_carryOut_127 : decode cX3_carryOut 127 = .ok (.aload_n 0, 1) := by decide +kernel
theorem dX3_carryOut_128 : decode cX3_carryOut 128 = .ok (.getfield 42, 3) := by decide +kernel
theorem dX3_carryOut_131 : decode cX3_carryOut 131 = .ok (.aload_n 0, 1) := by decide +kernel
theorem dX3_carryOut_132 : decode cX3_carryOut 132 = .ok (.getfield 46, 3) := by decide +kernel
theorem dX3_carryOut_135 : decode cX3_carryOut 135 = .ok (.iastore, 1) := by decide +kernel
theorem dX3_carryOut_136 : decode cX3_carryOut 136 = .ok (.aload_n 0, 1) := by decide +kernel
theorem dX3_carryOut_137 : decode cX3_carryOut 137 = .ok (.dup, 1) := by decide +kernel
theorem dX3_carryOut_138 : decode cX3_carryOut 138 = .ok (.getfield 42, 3) := by decide +kernel
theorem dX3_carryOut_141 : decode cX3_carryOut 141 = .ok (.iconst 1, 1) := by decide +kernel
theorem dX3_carryOut_142 : decode cX3_carryOut 142 = .ok (.iadd, 1) := by decide +kernel
theorem dX3_carryOut_143 : decode cX3_carryOut 143 = .ok (.putfield 42, 3) := by decide +kernel
theorem dX3_carryOut_146 : decode cX3_carryOut 146 = .ok (.aload_n 0, 1) := by decide +kernel
theorem dX3_carryOut_147 : decode cX3_carryOut 147 = .ok (.aload_n 0, 1) := by decide +kernel
theorem dX3_carryOut_148 : decode cX3_carryOut 148 = .ok (.getfield 46, 3) := by decide +kernel
theorem dX3_carryOut_151 : decode cX3_carryOut 151 = .ok (.aload_n 0, 1) := by decide +kernel
theorem dX3_carryOut_152 : decode cX3_carryOut 152 = .ok (.getfield 12, 3) := by decide +kernel
theorem dX3_carryOut_155 : decode cX3_carryOut 155 = .ok (.getfield 64, 3) := by decide +kernel
theorem dX3_carryOut_158 : decode cX3_carryOut 158 = .ok (.invokestatic 67, 3) := by decide +kernel
theorem dX3_carryOut_161 : decode cX3_carryOut 161 = .ok (.putfield 46, 3) := by decide +kernel
theorem dX3_carryOut_164 : decode cX3_carryOut 164 = .ok (.iconst 1, 1) := by decide +kernel
theorem dX3_carryOut_165 : decode cX3_carryOut 165 = .ok (.ireturn, 1) := by decide +kernel
theorem dX3_canBeDone_0 : decode cX3_canBeDone 0 = .ok (.iload_n 1, 1) := by decide +kernel
theorem dX3_canBeDone_1 : decode cX3_canBeDone 1 = .ok (.ifCond .ne 23, 3) := by decide +kernel
theorem dX3_canBeDone_4 : decode cX3_canBeDone 4 = .ok (.aload_n 0, 1) := by decide +kernel
theorem dX3_canBeDone_5 : decode cX3_canBeDone 5 = .ok (.getfield 12, 3) := by decide +kernel
theorem dX3_canBeDone_8 : decode cX3_canBeDone 8 = .ok (.getfield 64, 3) := by decide +kernel
theorem dX3_canBeDone_11 : decode cX3_canBeDone 11 = .ok (.bipush 9, 2) := by decide +kernel
theorem dX3_canBeDone_13 : decode cX3_canBeDone 13 = .ok (.if_icmp .ge 7, 3) := by decide +kernel
theorem dX3_canBeDone_16 : decode cX3_canBeDone 16 = .ok (.iconst 1, 1) := by decide +kernel
theorem dX3_canBeDone_17 : decode cX3_canBeDone 17 = .ok (.goto 24, 3) := by decide +kernel
theorem dX3_canBeDone_20 : decode cX3_canBeDone 20 = .ok (.iconst 0, 1) := by decide +kernel
theorem dX3_canBeDone_21 : decode cX3_canBeDone 21 = .ok (.goto 20, 3) := by decide +kernel
theorem dX3_canBeDone_24 : decode cX3_canBeDone 24 = .ok (.aload_n 0, 1) := by decide +kernel
theorem dX3_canBeDone_25 : decode cX3_canBeDone 25 = .ok (.getfield 12, 3) := by decide +kernel
theorem dX3_canBeDone_28 : decode cX3_canBeDone 28 = .ok (.getfield 73, 3) := by decide +kernel
theorem dX3_canBeDone_31 : decode cX3_canBeDone 31 = .ok (.iload_n 2, 1) := by decide +kernel
theorem dX3_canBeDone_32 : decode cX3_canBeDone 32 = .ok (.iaload, 1) := by decide +kernel
theorem dX3_canBeDone_33 : decode cX3_canBeDone 33 = .ok (.ifCond .le 7, 3) := by decide +kernel
theorem dX3_canBeDone_36 : decode cX3_canBeDone 36 = .ok (.iconst 1, 1) := by decide +kernel
theorem dX3_canBeDone_37 : decode cX3_canBeDone 37 = .ok (.goto 4, 3) := by decide +kernel
theorem dX3_canBeDone_40 : decode cX3_canBeDone 40 = .ok (.iconst 0, 1) := by decide +kernel
theorem dX3_canBeDone_41 : decode cX3_canBeDone 41 = .ok (.ireturn, 1) := by decide +kernel
theorem dX3_takeBack_0 : decode cX3_takeBack 0 = .ok (.aload_n 0, 1) := by decide +kernel
theorem dX3_takeBack_1 : decode cX3_takeBack 1 = .ok (.getfield 42, 3) := by decide +kernel
theorem dX3_takeBack_4 : decode cX3_takeBack 4 = .ok (.iconst 1, 1) := by decide +kernel
theorem dX3_takeBack_5 : decode cX3_takeBack 5 = .ok (.isub, 1) := by decide +kernel
theorem dX3_takeBack_6 : decode cX3_takeBack 6 = .ok (.istore_n 1, 1) := by decide +kernel
theorem dX3_takeBack_7 : decode cX3_takeBack 7 = .ok (.iload_n 1, 1) := by decide +kernel
theorem dX3_takeBack_8 : decode cX3_takeBack 8 = .ok (.ifCond .ge 5, 3) := by decide +kernel
theorem dX3_takeBack_11 : decode cX3_takeBack 11 = .ok (.iconst 0, 1) := by decide +kernel
theorem dX3_takeBack_12 : decode cX3_takeBack 12 = .ok (.ireturn, 1) := by decide +kernel
theorem dX3_takeBack_13 : decode cX3_takeBack 13 = .ok (.aload_n 0, 1) := by decide +kernel
theorem dX3_takeBack_14 : decode cX3_takeBack 14 = .ok (.getfield 12, 3) := by decide +kernel
theorem dX3_takeBack_17 : decode cX3_takeBack 17 = .ok (.aload_n 0, 1) := by decide +kernel
theorem dX3_takeBack_18 : decode cX3_takeBack 18 = .ok (.getfield 34, 3) := by decide +kernel
theorem dX3_takeBack_21 : decode cX3_takeBack 21 = .ok (.aload_n 0, 1) := by decide +kernel
theorem dX3_takeBack_22 : decode cX3_takeBack 22 = .ok (.getfield 18, 3) := by decide +kernel
theorem dX3_takeBack_25 : decode cX3_takeBack 25 = .ok (.iload_n 1, 1) := by decide +kernel
theorem dX3_takeBack_26 : decode cX3_takeBack 26 = .ok (.iaload, 1) := by decide +kernel
theorem dX3_takeBack_27 : decode cX3_takeBack 27 = .ok (.aload_n 0, 1) := by decide +kernel
theorem dX3_takeBack_28 : decode cX3_takeBack 28 = .ok (.getfield 22, 3) := by decide +kernel
theorem dX3_takeBack_31 : decode cX3_takeBack 31 = .ok (.iload_n 1, 1) := by decide +kernel
theorem dX3_takeBack_32 : decode cX3_takeBack 32 = .ok (.iaload, 1) := by decide +kernel
theorem dX3_takeBack_33 : decode cX3_takeBack 33 = .ok (.aload_n 0, 1) := by decide +kernel
theorem dX3_takeBack_34 : decode cX3_takeBack 34 = .ok (.getfield 25, 3) := by decide +kernel
theorem dX3_takeBack_37 : decode cX3_takeBack 37 = .ok (.iload_n 1, 1) := by decide +kernel
theorem dX3_takeBack_38 : decode cX3_takeBack 38 = .ok (.iaload, 1) := by decide +kernel
theorem dX3_takeBack_39 : decode cX3_takeBack 39 = .ok (.aload_n 0, 1) := by decide +kernel
theorem dX3_takeBack_40 : decode cX3_takeBack 40 = .ok (.getfield 28, 3) := by decide +kernel
theorem dX3_takeBack_43 : decode cX3_takeBack 43 = .ok (.iload_n 1, 1) := by decide +kernel
theorem dX3_takeBack_44 : decode cX3_takeBack 44 = .ok (.iaload, 1) := by decide +kernel
theorem dX3_takeBack_45 : decode cX3_takeBack 45 = .ok (.invokevirtual 60, 3) := by decide +kernel
theorem dX3_takeBack_48 : decode cX3_takeBack 48 = .ok (.aload_n 0, 1) := by decide +kernel
theorem dX3_takeBack_49 : decode cX3_takeBack 49 = .ok (.aload_n 0, 1) := by decide +kernel
theorem dX3_takeBack_50 : decode cX3_takeBack 50 = .ok (.getfield 31, 3) := by decide +kernel
theorem dX3_takeBack_53 : decode cX3_takeBack 53 = .ok (.iload_n 1, 1) := by decide +kernel
theorem dX3_takeBack_54 : decode cX3_takeBack 54 = .ok (.iaload, 1) := by decide +kernel
theorem dX3_takeBack_55 : decode cX3_takeBack 55 = .ok (.putfield 46, 3) := by decide +kernel
theorem dX3_takeBack_58 : decode cX3_takeBack 58 = .ok (.aload_n 0, 1) := by decide +kernel
theorem dX3_takeBack_59 : decode cX3_takeBack 59 = .ok (.iload_n 1, 1) := by decide +kernel
theorem dX3_takeBack_60 : decode cX3_takeBack 60 = .ok (.putfield 42, 3) := by decide +kernel
theorem dX3_takeBack_63 : decode cX3_takeBack 63 = .ok (.iconst 1, 1) := by decide +kernel
theorem dX3_takeBack_64 : decode cX3_takeBack 64 = .ok (.ireturn, 1) := by decide +kernel
theorem dX3_passagesJustLost_0 : decode cX3_passagesJustLost 0 = .ok (.aload_n 0, 1) := by decide +kernel
theorem dX3_passagesJustLost_1 : decode cX3_passagesJustLost 1 = .ok (.getfield 42, 3) := by decide +kernel
theorem dX3_passagesJustLost_4 : decode cX3_passagesJustLost 4 = .ok (.iconst 1, 1) := by decide +kernel
theorem dX3_passagesJustLost_5 : decode cX3_passagesJustLost 5 = .ok (.isub, 1) := by decide +kernel
theorem dX3_passagesJustLost_6 : decode cX3_passagesJustLost 6 = .ok (.istore_n 1, 1) := by decide +kernel
theorem dX3_passagesJustLost_7 : decode cX3_passagesJustLost 7 = .ok (.iload_n 1, 1) := by decide +kernel
theorem dX3_passagesJustLost_8 : decode cX3_passagesJustLost 8 = .ok (.ifCond .ge 5, 3) := by decide +kernel
theorem dX3_passagesJustLost_11 : decode cX3_passagesJustLost 11 = .ok (.iconst 0, 1) := by decide +kernel
theorem dX3_passagesJustLost_12 : decode cX3_passagesJustLost 12 = .ok (.ireturn, 1) := by decide +kernel
theorem dX3_passagesJustLost_13 : decode cX3_passagesJustLost 13 = .ok (.aload_n 0, 1) := by decide +kernel
theorem dX3_passagesJustLost_14 : decode cX3_passagesJustLost 14 = .ok (.getfield 34, 3) := by decide +kernel
theorem dX3_passagesJustLost_17 : decode cX3_passagesJustLost 17 = .ok (.aload_n 0, 1) := by decide +kernel
theorem dX3_passagesJustLost_18 : decode cX3_passagesJustLost 18 = .ok (.getfield 12, 3) := by decide +kernel
theorem dX3_passagesJustLost_21 : decode cX3_passagesJustLost 21 = .ok (.getfield 53, 3) := by decide +kernel
theorem dX3_passagesJustLost_24 : decode cX3_passagesJustLost 24 = .ok (.invokevirtual 76, 3) := by decide +kernel
theorem dX3_passagesJustLost_27 : decode cX3_passagesJustLost 27 = .ok (.aload_n 0, 1) := by decide +kernel
theorem dX3_passagesJustLost_28 : decode cX3_passagesJustLost 28 = .ok (.getfield 34, 3) := by decide +kernel
theorem dX3_passagesJustLost_31 : decode cX3_passagesJustLost 31 = .ok (.aload_n 0, 1) := by decide +kernel
theorem dX3_passagesJustLost_32 : decode cX3_passagesJustLost 32 = .ok (.getfield 28, 3) := by decide +kernel
theorem dX3_passagesJustLost_35 : decode cX3_passagesJustLost 35 = .ok (.iload_n 1, 1) := by decide +kernel
theorem dX3_passagesJustLost_36 : decode cX3_passagesJustLost 36 = .ok (.iaload, 1) := by decide +kernel
theorem dX3_passagesJustLost_37 : decode cX3_passagesJustLost 37 = .ok (.invokevirtual 76, 3) := by decide +kernel
theorem dX3_passagesJustLost_40 : decode cX3_passagesJustLost 40 = .ok (.iconst (-1), 1) := by decide +kernel
theorem dX3_passagesJustLost_41 : decode cX3_passagesJustLost 41 = .ok (.ixor, 1) := by decide +kernel
theorem dX3_passagesJustLost_42 : decode cX3_passagesJustLost 42 = .ok (.iand, 1) := by decide +kernel
theorem dX3_passagesJustLost_43 : decode cX3_passagesJustLost 43 = .ok (.ireturn, 1) := by decide +kernel
theorem dX4_init_0 : decode cX4_init 0 = .ok (.aload_n 0, 1) := by decide +kernel
theorem dX4_init_1 : decode cX4_init 1 = .ok (.invokespecial 3, 3) := by decide +kernel
theorem dX4_init_4 : decode cX4_init 4 = .ok (.aload_n 0, 1) := by decide +kernel
theorem dX4_init_5 : decode cX4_init 5 = .ok (.bipush 12, 2) := by decide +kernel
theorem dX4_init_7 : decode cX4_init 7 = .ok (.newarray .int, 2) := by decide +kernel
theorem dX4_init_9 : decode cX4_init 9 = .ok (.putfield 9, 3) := by decide +kernel
theorem dX4_init_12 : decode cX4_init 12 = .ok (.return_, 1) := by decide +kernel
theorem dX4_begin_0 : decode cX4_begin 0 = .ok (.aload_n 0, 1) := by decide +kernel
theorem dX4_begin_1 : decode cX4_begin 1 = .ok (.getfield 9, 3) := by decide +kernel
theorem dX4_begin_4 : decode cX4_begin 4 = .ok (.iconst 0, 1) := by decide +kernel
theorem dX4_begin_5 : decode cX4_begin 5 = .ok (.invokestatic 15, 3) := by decide +kernel
theorem dX4_begin_8 : decode cX4_begin 8 = .ok (.aload_n 0, 1) := by decide +kernel
theorem dX4_begin_9 : decode cX4_begin 9 = .ok (.iconst 0, 1) := by decide +kernel
theorem dX4_begin_10 : decode cX4_begin 10 = .ok (.putfield 21, 3) := by decide +kernel
theorem dX4_begin_13 : decode cX4_begin 13 = .ok (.aload_n 0, 1) := by decide +kernel
theorem dX4_begin_14 : decode cX4_begin 14 = .ok (.iconst 0, 1) := by decide +kernel
theorem dX4_begin_15 : decode cX4_begin 15 = .ok (.putfield 25, 3) := by decide +kernel
theorem dX4_begin_18 : decode cX4_begin 18 = .ok (.aload_n 0, 1) := by decide +kernel
theorem dX4_begin_19 : decode cX4_begin 19 = .ok (.aload_n 1, 1) := by decide +kernel
theorem dX4_begin_20 : decode cX4_begin 20 = .ok (.invokevirtual 28, 3) := by decide +kernel
theorem dX4_begin_23 : decode cX4_begin 23 = .ok (.putfield 34, 3) := by decide +kernel
theorem dX4_begin_26 : decode cX4_begin 26 = .ok (.return_, 1) := by decide +kernel
theorem dX4_follow_0 : decode cX4_follow 0 = .ok (.iload_n 2, 1) := by decide +kernel
theorem dX4_follow_1 : decode cX4_follow 1 = .ok (.ifCond .eq 8, 3) := by decide +kernel
theorem dX4_follow_4 : decode cX4_follow 4 = .ok (.aload_n 0, 1) := by decide +kernel
theorem dX4_follow_5 : decode cX4_follow 5 = .ok (.iload_n 3, 1) := by decide +kernel
theorem dX4_follow_6 : decode cX4_follow 6 = .ok (.invokevirtual 37, 3) := by decide +kernel
theorem dX4_follow_9 : decode cX4_follow 9 = .ok (.iload_n 2, 1) := by decide +kernel
theorem dX4_follow_10 : decode cX4_follow 10 = .ok (.ifCond .ne 11, 3) := by decide +kernel
theorem dX4_follow_13 : decode cX4_follow 13 = .ok (.aload_n 0, 1) := by decide +kernel
theorem dX4_follow_14 : decode cX4_follow 14 = .ok (.iload_n 3, 1) := by decide +kernel
theorem dX4_follow_15 : decode cX4_follow 15 = .ok (.invokevirtual 41, 3) := by decide +kernel
theorem dX4_follow_18 : decode cX4_follow 18 = .ok (.goto 19, 3) := by decide +kernel
theorem dX4_follow_21 : decode cX4_follow 21 = .ok (.iload_n 2, 1) := by decide +kernel
theorem dX4_follow_22 : decode cX4_follow 22 = .ok (.iconst 1, 1) := by decide +kernel
theorem dX4_follow_23 : decode cX4_follow 23 = .ok (.if_icmp .eq 14, 3) := by decide +kernel
theorem dX4_follow_26 : decode cX4_follow 26 = .ok (.aload_n 0, 1) := by decide +kernel
theorem dX4_follow_27 : decode cX4_follow 27 = .ok (.aload_n 1, 1) := by decide +kernel
theorem dX4_follow_28 : decode cX4_follow 28 = .ok (.iload 4, 2) := by decide +kernel
theorem dX4_follow_30 : decode cX4_follow 30 = .ok (.iload_n 3, 1) := by decide +kernel
theorem dX4_follow_31 : decode cX4_follow 31 = .ok (.invokevirtual 44, 3) := by decide +kernel
theorem dX4_follow_34 : decode cX4_follow 34 = .ok (.invokevirtual 41, 3) := by decide +kernel
theorem dX4_follow_37 : decode cX4_follow 37 = .ok (.aload_n 0, 1) := by decide +kernel
theorem dX4_follow_38 : decode cX4_follow 38 = .ok (.aload_n 1, 1) := by decide +kernel
theorem dX4_follow_39 : decode cX4_follow 39 = .ok (.aload_n 0, 1) := by decide +kernel
theorem dX4_follow_40 : decode cX4_follow 40 = .ok (.getfield 34, 3) := by decide +kernel
theorem dX4_follow_43 : decode cX4_follow 43 = .ok (.aload_n 0, 1) := by decide +kernel
theorem dX4_follow_44 : decode cX4_follow 44 = .ok (.getfield 25, 3) := by decide +kernel
theorem dX4_follow_47 : decode cX4_follow 47 = .ok (.iload_n 3, 1) := by decide +kernel
theorem dX4_follow_48 : decode cX4_follow 48 = .ok (.iload_n 2, 1) := by decide +kernel
theorem dX4_follow_49 : decode cX4_follow 49 = .ok (.iconst 2, 1) := by decide +kernel
theorem dX4_follow_50 : decode cX4_follow 50 = .ok (.if_icmp .lt 10, 3) := by decide +kernel
theorem dX4_follow_53 : decode cX4_follow 53 = .ok (.iconst 1, 1) := by decide +kernel
theorem dX4_follow_54 : decode cX4_follow 54 = .ok (.iload 4, 2) := by decide +kernel
theorem dX4_follow_56 : decode cX4_follow 56 = .ok (.ishl, 1) := by decide +kernel
theorem dX4_follow_57 : decode cX4_follow 57 = .ok (.goto 4, 3) := by decide +kernel
theorem dX4_follow_60 : decode cX4_follow 60 = .ok (.iconst 0, 1) := by decide +kernel
theorem dX4_follow_61 : decode cX4_follow 61 = .ok (.invokevirtual 48, 3) := by decide +kernel
theorem dX4_follow_64 : decode cX4_follow 64 = .ok (.putfield 34, 3) := by decide +kernel
theorem dX4_follow_67 : decode cX4_follow 67 = .ok (.return_, 1) := by decide +kernel
theorem dX4_goBack_0 : decode cX4_goBack 0 = .ok (.iload_n 2, 1) := by decide +kernel
theorem dX4_goBack_1 : decode cX4_goBack 1 = .ok (.ifCond .ne 11, 3) := by decide +kernel
theorem dX4_goBack_4 : decode cX4_goBack 4 = .ok (.aload_n 0, 1) := by decide +kernel
theorem dX4_goBack_5 : decode cX4_goBack 5 = .ok (.iload_n 3, 1) := by decide +kernel
theorem dX4_goBack_6 : decode cX4_goBack 6 = .ok (.invokevirtual 37, 3) := by decide +kernel
theorem dX4_goBack_9 : decode cX4_goBack 9 = .ok (.goto 19, 3) := by decide +kernel
theorem dX4_goBack_12 : decode cX4_goBack 12 = .ok (.iload_n 2, 1) := by decide +kernel
theorem dX4_goBack_13 : decode cX4_goBack 13 = .ok (.iconst 1, 1) := by decide +kernel
theorem dX4_goBack_14 : decode cX4_goBack 14 = .ok (.if_icmp .eq 14, 3) := by decide +kernel
theorem dX4_goBack_17 : decode cX4_goBack 17 = .ok (.aload_n 0, 1) := by decide +kernel
theorem dX4_goBack_18 : decode cX4_goBack 18 = .ok (.aload_n 1, 1) := by decide +kernel
theorem dX4_goBack_19 : decode cX4_goBack 19 = .ok (.iload 4, 2) := by decide +kernel
theorem dX4_goBack_21 : decode cX4_goBack 21 = .ok (.iload_n 3, 1) := by decide +kernel
theorem dX4_goBack_22 : decode cX4_goBack 22 = .ok (.invokevirtual 44, 3) := by decide +kernel
theorem dX4_goBack_25 : decode cX4_goBack 25 = .ok (.invokevirtual 37, 3) := by decide +kernel
theorem dX4_goBack_28 : decode cX4_goBack 28 = .ok (.iload_n 2, 1) := by decide +kernel
theorem dX4_goBack_29 : decode cX4_goBack 29 = .ok (.ifCond .eq 8, 3) := by decide +kernel
theorem dX4_goBack_32 : decode cX4_goBack 32 = .ok (.aload_n 0, 1) := by decide +kernel
theorem dX4_goBack_33 : decode cX4_goBack 33 = .ok (.iload_n 3, 1) := by decide +kernel
theorem dX4_goBack_34 : decode cX4_goBack 34 = .ok (.invokevirtual 41, 3) := by decide +kernel
theorem dX4_goBack_37 : decode cX4_goBack 37 = .ok (.aload_n 0, 1) := by decide +kernel
theorem dX4_goBack_38 : decode cX4_goBack 38 = .ok (.iload 5, 2) := by decide +kernel
theorem dX4_goBack_40 : decode cX4_goBack 40 = .ok (.putfield 34, 3) := by decide +kernel
theorem dX4_goBack_43 : decode cX4_goBack 43 = .ok (.return_, 1) := by decide +kernel
theorem dX4_come_0 : decode cX4_come 0 = .ok (.aload_n 0, 1) := by decide +kernel
theorem dX4_come_1 : decode cX4_come 1 = .ok (.getfield 9, 3) := by decide +kernel
theorem dX4_come_4 : decode cX4_come 4 = .ok (.iload_n 1, 1) := by decide +kernel
theorem dX4_come_5 : decode cX4_come 5 = .ok (.dup2, 1) := by decide +kernel
theorem dX4_come_6 : decode cX4_come 6 = .ok (.iaload, 1) := by decide +kernel
theorem dX4_come_7 : decode cX4_come 7 = .ok (.iconst 1, 1) := by decide +kernel
theorem dX4_come_8 : decode cX4_come 8 = .ok (.iadd, 1) := by decide +kernel
theorem dX4_come_9 : decode cX4_come 9 = .ok (.iastore, 1) := by decide +kernel
theorem dX4_come_10 : decode cX4_come 10 = .ok (.aload_n 0, 1) := by decide +kernel
theorem dX4_come_11 : decode cX4_come 11 = .ok (.dup, 1) := by decide +kernel
theorem dX4_come_12 : decode cX4_come 12 = .ok (.getfield 21, 3) := by decide +kernel
theorem dX4_come_15 : decode cX4_come 15 = .ok (.iconst 1, 1) := by decide +kernel
theorem dX4_come_16 : decode cX4_come 16 = .ok (.iadd, 1) := by decide +kernel
theorem dX4_come_17 : decode cX4_come 17 = .ok (.putfield 21, 3) := by decide +kernel
theorem dX4_come_20 : decode cX4_come 20 = .ok (.aload_n 0, 1) := by decide +kernel
theorem dX4_come_21 : decode cX4_come 21 = .ok (.dup, 1) := by decide +kernel
theorem dX4_come_22 : decode cX4_come 22 = .ok (.getfield 25, 3) := by decide +kernel
theorem dX4_come_25 : decode cX4_come 25 = .ok (.iconst 1, 1) := by decide +kernel
theorem dX4_come_26 : decode cX4_come 26 = .ok (.iload_n 1, 1) := by decide +kernel
theorem dX4_come_27 : decode cX4_come 27 = .ok (.ishl, 1) := by decide +kernel
theorem dX4_come_28 : decode cX4_come 28 = .ok (.ior, 1) := by decide +kernel
theorem dX4_come_29 : decode cX4_come 29 = .ok (.putfield 25, 3) := by decide +kernel
theorem dX4_come_32 : decode cX4_come 32 = .ok (.return_, 1) := by decide +kernel
theorem dX4_leave_0 : decode cX4_leave 0 = .ok (.aload_n 0, 1) := by decide +kernel
theorem dX4_leave_1 : decode cX4_leave 1 = .ok (.getfield 9, 3) := by decide +kernel
theorem dX4_leave_4 : decode cX4_leave 4 = .ok (.iload_n 1, 1) := by decide +kernel
theorem dX4_leave_5 : decode cX4_leave 5 = .ok (.dup2, 1) := by decide +kernel
theorem dX4_leave_6 : decode cX4_leave 6 = .ok (.iaload, 1) := by decide +kernel
theorem dX4_leave_7 : decode cX4_leave 7 = .ok (.iconst 1, 1) := by decide +kernel
theorem dX4_leave_8 : decode cX4_leave 8 = .ok (.isub, 1) := by decide +kernel
theorem dX4_leave_9 : decode cX4_leave 9 = .ok (.iastore, 1) := by decide +kernel
theorem dX4_leave_10 : decode cX4_leave 10 = .ok (.aload_n 0, 1) := by decide +kernel
theorem dX4_leave_11 : decode cX4_leave 11 = .ok (.dup, 1) := by decide +kernel
theorem dX4_leave_12 : decode cX4_leave 12 = .ok (.getfield 21, 3) := by decide +kernel
theorem dX4_leave_15 : decode cX4_leave 15 = .ok (.iconst 1, 1) := by decide +kernel
theorem dX4_leave_16 : decode cX4_leave 16 = .ok (.isub, 1) := by decide +kernel
theorem dX4_leave_17 : decode cX4_leave 17 = .ok (.putfield 21, 3) := by decide +kernel
theorem dX4_leave_20 : decode cX4_leave 20 = .ok (.aload_n 0, 1) := by decide +kernel
theorem dX4_leave_21 : decode cX4_leave 21 = .ok (.getfield 9, 3) := by decide +kernel
theorem dX4_leave_24 : decode cX4_leave 24 = .ok (.iload_n 1, 1) := by decide +kernel
theorem dX4_leave_25 : decode cX4_leave 25 = .ok (.iaload, 1) := by decide +kernel
theorem dX4_leave_26 : decode cX4_leave 26 = .ok (.ifCond .ne 17, 3) := by decide +kernel
theorem dX4_leave_29 : decode cX4_leave 29 = .ok (.aload_n 0, 1) := by decide +kernel
theorem dX4_leave_30 : decode cX4_leave 30 = .ok (.dup, 1) := by decide +kernel
theorem dX4_leave_31 : decode cX4_leave 31 = .ok (.getfield 25, 3) := by decide +kernel
theorem dX4_leave_34 : decode cX4_leave 34 = .ok (.iconst 1, 1) := by decide +kernel
theorem dX4_leave_35 : decode cX4_leave 35 = .ok (.iload_n 1, 1) := by decide +kernel
theorem dX4_leave_36 : decode cX4_leave 36 = .ok (.ishl, 1) := by decide +kernel
theorem dX4_leave_37 : decode cX4_leave 37 = .ok (.iconst (-1), 1) := by decide +kernel
theorem dX4_leave_38 : decode cX4_leave 38 = .ok (.ixor, 1) := by decide +kernel
theorem dX4_leave_39 : decode cX4_leave 39 = .ok (.iand, 1) := by decide +kernel
theorem dX4_leave_40 : decode cX4_leave 40 = .ok (.putfield 25, 3) := by decide +kernel
theorem dX4_leave_43 : decode cX4_leave 43 = .ok (.return_, 1) := by decide +kernel
theorem dX5_init_0 : decode cX5_init 0 = .ok (.aload_n 0, 1) := by decide +kernel
theorem dX5_init_1 : decode cX5_init 1 = .ok (.invokespecial 3, 3) := by decide +kernel
theorem dX5_init_4 : decode cX5_init 4 = .ok (.aload_n 0, 1) := by decide +kernel
theorem dX5_init_5 : decode cX5_init 5 = .ok (.iconst 0, 1) := by decide +kernel
theorem dX5_init_6 : decode cX5_init 6 = .ok (.iload_n 1, 1) := by decide +kernel
theorem dX5_init_7 : decode cX5_init 7 = .ok (.invokestatic 9, 3) := by decide +kernel
theorem dX5_init_10 : decode cX5_init 10 = .ok (.newarray .int, 2) := by decide +kernel
theorem dX5_init_12 : decode cX5_init 12 = .ok (.putfield 15, 3) := by decide +kernel
theorem dX5_init_15 : decode cX5_init 15 = .ok (.return_, 1) := by decide +kernel
theorem dX5_packed_0 : decode cX5_packed 0 = .ok (.iload_n 0, 1) := by decide +kernel
theorem dX5_packed_1 : decode cX5_packed 1 = .ok (.bipush 10, 2) := by decide +kernel
theorem dX5_packed_3 : decode cX5_packed 3 = .ok (.ishl, 1) := by decide +kernel
theorem dX5_packed_4 : decode cX5_packed 4 = .ok (.iload_n 1, 1) := by decide +kernel
theorem dX5_packed_5 : decode cX5_packed 5 = .ok (.iconst 5, 1) := by decide +kernel
theorem dX5_packed_6 : decode cX5_packed 6 = .ok (.ishl, 1) := by decide +kernel
theorem dX5_packed_7 : decode cX5_packed 7 = .ok (.ior, 1) := by decide +kernel
theorem dX5_packed_8 : decode cX5_packed 8 = .ok (.iload_n 2, 1) := by decide +kernel
theorem dX5_packed_9 : decode cX5_packed 9 = .ok (.iconst 1, 1) := by decide +kernel
theorem dX5_packed_10 : decode cX5_packed 10 = .ok (.iadd, 1) := by decide +kernel
theorem dX5_packed_11 : decode cX5_packed 11 = .ok (.ior, 1) := by decide +kernel
theorem dX5_packed_12 : decode cX5_packed 12 = .ok (.ireturn, 1) := by decide +kernel
theorem dX5_length_0 : decode cX5_length 0 = .ok (.aload_n 0, 1) := by decide +kernel
theorem dX5_length_1 : decode cX5_length 1 = .ok (.getfield 15, 3) := by decide +kernel
theorem dX5_length_4 : decode cX5_length 4 = .ok (.arraylength, 1) := by decide +kernel
theorem dX5_length_5 : decode cX5_length 5 = .ok (.ireturn, 1) := by decide +kernel
theorem dX5_put_0 : decode cX5_put 0 = .ok (.iload_n 1, 1) := by decide +kernel
theorem dX5_put_1 : decode cX5_put 1 = .ok (.ifCond .lt 19, 3) := by decide +kernel
theorem dX5_put_4 : decode cX5_put 4 = .ok (.iload_n 1, 1) := by decide +kernel
theorem dX5_put_5 : decode cX5_put 5 = .ok (.aload_n 0, 1) := by decide +kernel
theorem dX5_put_6 : decode cX5_put 6 = .ok (.getfield 15, 3) := by decide +kernel
theorem dX5_put_9 : decode cX5_put 9 = .ok (.arraylength, 1) := by decide +kernel
theorem dX5_put_10 : decode cX5_put 10 = .ok (.if_icmp .ge 10, 3) := by decide +kernel
theorem dX5_put_13 : decode cX5_put 13 = .ok (.aload_n 0, 1) := by decide +kernel
theorem dX5_put_14 : decode cX5_put 14 = .ok (.getfield 15, 3) := by decide +kernel
theorem dX5_put_17 : decode cX5_put 17 = .ok (.iload_n 1, 1) := by decide +kernel
theorem dX5_put_18 : decode cX5_put 18 = .ok (.iload_n 2, 1) := by decide +kernel
theorem dX5_put_19 : decode cX5_put 19 = .ok (.iastore, 1) := by decide +kernel
theorem dX5_put_20 : decode cX5_put 20 = .ok (.return_, 1) := by decide +kernel
theorem dX5_tell_0 : decode cX5_tell 0 = .ok (.iload_n 1, 1) := by decide +kernel
theorem dX5_tell_1 : decode cX5_tell 1 = .ok (.ifCond .lt 12, 3) := by decide +kernel
theorem dX5_tell_4 : decode cX5_tell 4 = .ok (.iload_n 1, 1) := by decide +kernel
theorem dX5_tell_5 : decode cX5_tell 5 = .ok (.aload_n 0, 1) := by decide +kernel
theorem dX5_tell_6 : decode cX5_tell 6 = .ok (.getfield 15, 3) := by decide +kernel
theorem dX5_tell_9 : decode cX5_tell 9 = .ok (.arraylength, 1) := by decide +kernel
theorem dX5_tell_10 : decode cX5_tell 10 = .ok (.if_icmp .lt 5, 3) := by decide +kernel
theorem dX5_tell_13 : decode cX5_tell 13 = .ok (.iconst (-1), 1) := by decide +kernel
theorem dX5_tell_14 : decode cX5_tell 14 = .ok (.ireturn, 1) := by decide +kernel
theorem dX5_tell_15 : decode cX5_tell 15 = .ok (.iload_n 2, 1) := by decide +kernel
theorem dX5_tell_16 : decode cX5_tell 16 = .ok (.tableswitch 62 0 2 #[28, 38, 50], 28) := by decide +kernel
theorem dX5_tell_44 : decode cX5_tell 44 = .ok (.aload_n 0, 1) := by decide +kernel
theorem dX5_tell_45 : decode cX5_tell 45 = .ok (.getfield 15, 3) := by decide +kernel
theorem dX5_tell_48 : decode cX5_tell 48 = .ok (.iload_n 1, 1) := by decide +kernel
theorem dX5_tell_49 : decode cX5_tell 49 = .ok (.iaload, 1) := by decide +kernel
theorem dX5_tell_50 : decode cX5_tell 50 = .ok (.bipush 10, 2) := by decide +kernel
end
section
theorem dX5_tell_52 : decode cX5_tell 52 = .ok (.ishr, 1) := by decide +kernel
theorem dX5_tell_53 : decode cX5_tell 53 = .ok (.ireturn, 1) := by decide +kernel
theorem dX5_tell_54 : decode cX5_tell 54 = .ok (.aload_n 0, 1) := by decide +kernel
theorem dX5_tell_55 : decode cX5_tell 55 = .ok (.getfield 15, 3) := by decide +kernel
theorem dX5_tell_58 : decode cX5_tell 58 = .ok (.iload_n 1, 1) := by decide +kernel
theorem dX5_tell_59 : decode cX5_tell 59 = .ok (.iaload, 1) := by decide +kernel
theorem dX5_tell_60 : decode cX5_tell 60 = .ok (.iconst 5, 1) := by decide +kernel
theorem dX5_tell_61 : decode cX5_tell 61 = .ok (.ishr, 1) := by decide +kernel
theorem dX5_tell_62 : decode cX5_tell 62 = .ok (.bipush 31, 2) := by decide +kernel
theorem dX5_tell_64 : decode cX5_tell 64 = .ok (.iand, 1) := by decide +kernel
theorem dX5_tell_65 : decode cX5_tell 65 = .ok (.ireturn, 1) := by decide +kernel
theorem dX5_tell_66 : decode cX5_tell 66 = .ok (.aload_n 0, 1) := by decide +kernel
theorem dX5_tell_67 : decode cX5_tell 67 = .ok (.getfield 15, 3) := by decide +kernel
theorem dX5_tell_70 : decode cX5_tell 70 = .ok (.iload_n 1, 1) := by decide +kernel
theorem dX5_tell_71 : decode cX5_tell 71 = .ok (.iaload, 1) := by decide +kernel
theorem dX5_tell_72 : decode cX5_tell 72 = .ok (.bipush 31, 2) := by decide +kernel
theorem dX5_tell_74 : decode cX5_tell 74 = .ok (.iand, 1) := by decide +kernel
theorem dX5_tell_75 : decode cX5_tell 75 = .ok (.iconst 1, 1) := by decide +kernel
theorem dX5_tell_76 : decode cX5_tell 76 = .ok (.isub, 1) := by decide +kernel
theorem dX5_tell_77 : decode cX5_tell 77 = .ok (.ireturn, 1) := by decide +kernel
theorem dX5_tell_78 : decode cX5_tell 78 = .ok (.iconst (-1), 1) := by decide +kernel
theorem dX5_tell_79 : decode cX5_tell 79 = .ok (.ireturn, 1) := by decide +kernel
theorem dX6_init_0 : decode cX6_init 0 = .ok (.aload_n 0, 1) := by decide +kernel
theorem dX6_init_1 : decode cX6_init 1 = .ok (.invokespecial 1, 3) := by decide +kernel
theorem dX6_init_4 : decode cX6_init 4 = .ok (.aload_n 0, 1) := by decide +kernel
theorem dX6_init_5 : decode cX6_init 5 = .ok (.new 7, 3) := by decide +kernel
theorem dX6_init_8 : decode cX6_init 8 = .ok (.dup, 1) := by decide +kernel
theorem dX6_init_9 : decode cX6_init 9 = .ok (.invokespecial 9, 3) := by decide +kernel
theorem dX6_init_12 : decode cX6_init 12 = .ok (.putfield 10, 3) := by decide +kernel
theorem dX6_init_15 : decode cX6_init 15 = .ok (.aload_n 0, 1) := by decide +kernel
theorem dX6_init_16 : decode cX6_init 16 = .ok (.new 16, 3) := by decide +kernel
theorem dX6_init_19 : decode cX6_init 19 = .ok (.dup, 1) := by decide +kernel
theorem dX6_init_20 : decode cX6_init 20 = .ok (.aload_n 0, 1) := by decide +kernel
theorem dX6_init_21 : decode cX6_init 21 = .ok (.getfield 10, 3) := by decide +kernel
theorem dX6_init_24 : decode cX6_init 24 = .ok (.invokespecial 18, 3) := by decide +kernel
theorem dX6_init_27 : decode cX6_init 27 = .ok (.putfield 21, 3) := by decide +kernel
theorem dX6_init_30 : decode cX6_init 30 = .ok (.aload_n 0, 1) := by decide +kernel
theorem dX6_init_31 : decode cX6_init 31 = .ok (.new 25, 3) := by decide +kernel
theorem dX6_init_34 : decode cX6_init 34 = .ok (.dup, 1) := by decide +kernel
theorem dX6_init_35 : decode cX6_init 35 = .ok (.aload_n 0, 1) := by decide +kernel
theorem dX6_init_36 : decode cX6_init 36 = .ok (.getfield 10, 3) := by decide +kernel
theorem dX6_init_39 : decode cX6_init 39 = .ok (.invokespecial 27, 3) := by decide +kernel
theorem dX6_init_42 : decode cX6_init 42 = .ok (.putfield 28, 3) := by decide +kernel
theorem dX6_init_45 : decode cX6_init 45 = .ok (.aload_n 0, 1) := by decide +kernel
theorem dX6_init_46 : decode cX6_init 46 = .ok (.new 32, 3) := by decide +kernel
theorem dX6_init_49 : decode cX6_init 49 = .ok (.dup, 1) := by decide +kernel
theorem dX6_init_50 : decode cX6_init 50 = .ok (.aload_n 0, 1) := by decide +kernel
theorem dX6_init_51 : decode cX6_init 51 = .ok (.getfield 10, 3) := by decide +kernel
theorem dX6_init_54 : decode cX6_init 54 = .ok (.invokespecial 34, 3) := by decide +kernel
theorem dX6_init_57 : decode cX6_init 57 = .ok (.putfield 35, 3) := by decide +kernel
theorem dX6_init_60 : decode cX6_init 60 = .ok (.aload_n 0, 1) := by decide +kernel
theorem dX6_init_61 : decode cX6_init 61 = .ok (.new 39, 3) := by decide +kernel
theorem dX6_init_64 : decode cX6_init 64 = .ok (.dup, 1) := by decide +kernel
theorem dX6_init_65 : decode cX6_init 65 = .ok (.invokespecial 41, 3) := by decide +kernel
theorem dX6_init_68 : decode cX6_init 68 = .ok (.putfield 42, 3) := by decide +kernel
theorem dX6_init_71 : decode cX6_init 71 = .ok (.aload_n 0, 1) := by decide +kernel
theorem dX6_init_72 : decode cX6_init 72 = .ok (.aconst_null, 1) := by decide +kernel
theorem dX6_init_73 : decode cX6_init 73 = .ok (.putfield 46, 3) := by decide +kernel
theorem dX6_init_76 : decode cX6_init 76 = .ok (.return_, 1) := by decide +kernel
theorem dX6_caves_0 : decode cX6_caves 0 = .ok (.iload_n 1, 1) := by decide +kernel
theorem dX6_caves_1 : decode cX6_caves 1 = .ok (.ifCond .lt 9, 3) := by decide +kernel
theorem dX6_caves_4 : decode cX6_caves 4 = .ok (.iload_n 1, 1) := by decide +kernel
theorem dX6_caves_5 : decode cX6_caves 5 = .ok (.bipush 12, 2) := by decide +kernel
theorem dX6_caves_7 : decode cX6_caves 7 = .ok (.if_icmp .le 5, 3) := by decide +kernel
theorem dX6_caves_10 : decode cX6_caves 10 = .ok (.iconst 0, 1) := by decide +kernel
theorem dX6_caves_11 : decode cX6_caves 11 = .ok (.ireturn, 1) := by decide +kernel
theorem dX6_caves_12 : decode cX6_caves 12 = .ok (.aload_n 0, 1) := by decide +kernel
theorem dX6_caves_13 : decode cX6_caves 13 = .ok (.getfield 10, 3) := by decide +kernel
theorem dX6_caves_16 : decode cX6_caves 16 = .ok (.iload_n 1, 1) := by decide +kernel
theorem dX6_caves_17 : decode cX6_caves 17 = .ok (.invokevirtual 50, 3) := by decide +kernel
theorem dX6_caves_20 : decode cX6_caves 20 = .ok (.aload_n 0, 1) := by decide +kernel
theorem dX6_caves_21 : decode cX6_caves 21 = .ok (.getfield 28, 3) := by decide +kernel
theorem dX6_caves_24 : decode cX6_caves 24 = .ok (.invokevirtual 54, 3) := by decide +kernel
theorem dX6_caves_27 : decode cX6_caves 27 = .ok (.aload_n 0, 1) := by decide +kernel
theorem dX6_caves_28 : decode cX6_caves 28 = .ok (.invokevirtual 57, 3) := by decide +kernel
theorem dX6_caves_31 : decode cX6_caves 31 = .ok (.iconst 1, 1) := by decide +kernel
theorem dX6_caves_32 : decode cX6_caves 32 = .ok (.ireturn, 1) := by decide +kernel
theorem dX6_passage_0 : decode cX6_passage 0 = .ok (.aload_n 0, 1) := by decide +kernel
theorem dX6_passage_1 : decode cX6_passage 1 = .ok (.getfield 10, 3) := by decide +kernel
theorem dX6_passage_4 : decode cX6_passage 4 = .ok (.invokevirtual 60, 3) := by decide +kernel
theorem dX6_passage_7 : decode cX6_passage 7 = .ok (.istore_n 3, 1) := by decide +kernel
theorem dX6_passage_8 : decode cX6_passage 8 = .ok (.iload_n 1, 1) := by decide +kernel
theorem dX6_passage_9 : decode cX6_passage 9 = .ok (.iload_n 2, 1) := by decide +kernel
theorem dX6_passage_10 : decode cX6_passage 10 = .ok (.if_icmp .eq 30, 3) := by decide +kernel
theorem dX6_passage_13 : decode cX6_passage 13 = .ok (.aload_n 0, 1) := by decide +kernel
theorem dX6_passage_14 : decode cX6_passage 14 = .ok (.getfield 10, 3) := by decide +kernel
theorem dX6_passage_17 : decode cX6_passage 17 = .ok (.iload_n 1, 1) := by decide +kernel
theorem dX6_passage_18 : decode cX6_passage 18 = .ok (.invokevirtual 64, 3) := by decide +kernel
theorem dX6_passage_21 : decode cX6_passage 21 = .ok (.ifCond .eq 19, 3) := by decide +kernel
theorem dX6_passage_24 : decode cX6_passage 24 = .ok (.aload_n 0, 1) := by decide +kernel
theorem dX6_passage_25 : decode cX6_passage 25 = .ok (.getfield 10, 3) := by decide +kernel
theorem dX6_passage_28 : decode cX6_passage 28 = .ok (.iload_n 2, 1) := by decide +kernel
theorem dX6_passage_29 : decode cX6_passage 29 = .ok (.invokevirtual 64, 3) := by decide +kernel
theorem dX6_passage_32 : decode cX6_passage 32 = .ok (.ifCond .eq 8, 3) := by decide +kernel
theorem dX6_passage_35 : decode cX6_passage 35 = .ok (.iload_n 3, 1) := by decide +kernel
theorem dX6_passage_36 : decode cX6_passage 36 = .ok (.iconst (-1), 1) := by decide +kernel
theorem dX6_passage_37 : decode cX6_passage 37 = .ok (.if_icmp .ne 5, 3) := by decide +kernel
theorem dX6_passage_40 : decode cX6_passage 40 = .ok (.iconst (-1), 1) := by decide +kernel
theorem dX6_passage_41 : decode cX6_passage 41 = .ok (.ireturn, 1) := by decide +kernel
theorem dX6_passage_42 : decode cX6_passage 42 = .ok (.aload_n 0, 1) := by decide +kernel
theorem dX6_passage_43 : decode cX6_passage 43 = .ok (.getfield 10, 3) := by decide +kernel
theorem dX6_passage_46 : decode cX6_passage 46 = .ok (.iload_n 3, 1) := by decide +kernel
theorem dX6_passage_47 : decode cX6_passage 47 = .ok (.iload_n 1, 1) := by decide +kernel
theorem dX6_passage_48 : decode cX6_passage 48 = .ok (.iload_n 2, 1) := by decide +kernel
theorem dX6_passage_49 : decode cX6_passage 49 = .ok (.invokevirtual 68, 3) := by decide +kernel
theorem dX6_passage_52 : decode cX6_passage 52 = .ok (.aload_n 0, 1) := by decide +kernel
theorem dX6_passage_53 : decode cX6_passage 53 = .ok (.invokevirtual 57, 3) := by decide +kernel
theorem dX6_passage_56 : decode cX6_passage 56 = .ok (.iload_n 3, 1) := by decide +kernel
theorem dX6_passage_57 : decode cX6_passage 57 = .ok (.ireturn, 1) := by decide +kernel
theorem dX6_drop_0 : decode cX6_drop 0 = .ok (.aload_n 0, 1) := by decide +kernel
theorem dX6_drop_1 : decode cX6_drop 1 = .ok (.getfield 10, 3) := by decide +kernel
theorem dX6_drop_4 : decode cX6_drop 4 = .ok (.iload_n 1, 1) := by decide +kernel
theorem dX6_drop_5 : decode cX6_drop 5 = .ok (.invokevirtual 72, 3) := by decide +kernel
theorem dX6_drop_8 : decode cX6_drop 8 = .ok (.ifCond .ne 5, 3) := by decide +kernel
theorem dX6_drop_11 : decode cX6_drop 11 = .ok (.iconst 0, 1) := by decide +kernel
theorem dX6_drop_12 : decode cX6_drop 12 = .ok (.ireturn, 1) := by decide +kernel
theorem dX6_drop_13 : decode cX6_drop 13 = .ok (.aload_n 0, 1) := by decide +kernel
theorem dX6_drop_14 : decode cX6_drop 14 = .ok (.getfield 10, 3) := by decide +kernel
theorem dX6_drop_17 : decode cX6_drop 17 = .ok (.iload_n 1, 1) := by decide +kernel
theorem dX6_drop_18 : decode cX6_drop 18 = .ok (.invokevirtual 75, 3) := by decide +kernel
theorem dX6_drop_21 : decode cX6_drop 21 = .ok (.aload_n 0, 1) := by decide +kernel
theorem dX6_drop_22 : decode cX6_drop 22 = .ok (.invokevirtual 57, 3) := by decide +kernel
theorem dX6_drop_25 : decode cX6_drop 25 = .ok (.iconst 1, 1) := by decide +kernel
theorem dX6_drop_26 : decode cX6_drop 26 = .ok (.ireturn, 1) := by decide +kernel
theorem dX6_mouth_0 : decode cX6_mouth 0 = .ok (.aload_n 0, 1) := by decide +kernel
theorem dX6_mouth_1 : decode cX6_mouth 1 = .ok (.getfield 10, 3) := by decide +kernel
theorem dX6_mouth_4 : decode cX6_mouth 4 = .ok (.iload_n 1, 1) := by decide +kernel
theorem dX6_mouth_5 : decode cX6_mouth 5 = .ok (.invokevirtual 64, 3) := by decide +kernel
theorem dX6_mouth_8 : decode cX6_mouth 8 = .ok (.ifCond .ne 5, 3) := by decide +kernel
theorem dX6_mouth_11 : decode cX6_mouth 11 = .ok (.iconst 0, 1) := by decide +kernel
theorem dX6_mouth_12 : decode cX6_mouth 12 = .ok (.ireturn, 1) := by decide +kernel
theorem dX6_mouth_13 : decode cX6_mouth 13 = .ok (.aload_n 0, 1) := by decide +kernel
theorem dX6_mouth_14 : decode cX6_mouth 14 = .ok (.getfield 10, 3) := by decide +kernel
theorem dX6_mouth_17 : decode cX6_mouth 17 = .ok (.iload_n 1, 1) := by decide +kernel
theorem dX6_mouth_18 : decode cX6_mouth 18 = .ok (.putfield 78, 3) := by decide +kernel
theorem dX6_mouth_21 : decode cX6_mouth 21 = .ok (.iconst 1, 1) := by decide +kernel
theorem dX6_mouth_22 : decode cX6_mouth 22 = .ok (.ireturn, 1) := by decide +kernel
theorem dX6_order_0 : decode cX6_order 0 = .ok (.iload_n 1, 1) := by decide +kernel
theorem dX6_order_1 : decode cX6_order 1 = .ok (.ifCond .lt 19, 3) := by decide +kernel
theorem dX6_order_4 : decode cX6_order 4 = .ok (.iload_n 1, 1) := by decide +kernel
theorem dX6_order_5 : decode cX6_order 5 = .ok (.iconst 3, 1) := by decide +kernel
theorem dX6_order_6 : decode cX6_order 6 = .ok (.if_icmp .gt 14, 3) := by decide +kernel
theorem dX6_order_9 : decode cX6_order 9 = .ok (.aload_n 0, 1) := by decide +kernel
theorem dX6_order_10 : decode cX6_order 10 = .ok (.getfield 10, 3) := by decide +kernel
theorem dX6_order_13 : decode cX6_order 13 = .ok (.iload_n 2, 1) := by decide +kernel
theorem dX6_order_14 : decode cX6_order 14 = .ok (.invokevirtual 64, 3) := by decide +kernel
theorem dX6_order_17 : decode cX6_order 17 = .ok (.ifCond .ne 5, 3) := by decide +kernel
theorem dX6_order_20 : decode cX6_order 20 = .ok (.iconst (-1), 1) := by decide +kernel
theorem dX6_order_21 : decode cX6_order 21 = .ok (.ireturn, 1) := by decide +kernel
theorem dX6_order_22 : decode cX6_order 22 = .ok (.iload_n 1, 1) := by decide +kernel
theorem dX6_order_23 : decode cX6_order 23 = .ok (.iconst 2, 1) := by decide +kernel
theorem dX6_order_24 : decode cX6_order 24 = .ok (.if_icmp .lt 17, 3) := by decide +kernel
theorem dX6_order_27 : decode cX6_order 27 = .ok (.aload_n 0, 1) := by decide +kernel
theorem dX6_order_28 : decode cX6_order 28 = .ok (.getfield 10, 3) := by decide +kernel
theorem dX6_order_31 : decode cX6_order 31 = .ok (.iload_n 3, 1) := by decide +kernel
theorem dX6_order_32 : decode cX6_order 32 = .ok (.iload_n 2, 1) := by decide +kernel
theorem dX6_order_33 : decode cX6_order 33 = .ok (.invokevirtual 82, 3) := by decide +kernel
theorem dX6_order_36 : decode cX6_order 36 = .ok (.ifCond .ne 5, 3) := by decide +kernel
theorem dX6_order_39 : decode cX6_order 39 = .ok (.iconst (-1), 1) := by decide +kernel
theorem dX6_order_40 : decode cX6_order 40 = .ok (.ireturn, 1) := by decide +kernel
theorem dX6_order_41 : decode cX6_order 41 = .ok (.aload_n 0, 1) := by decide +kernel
theorem dX6_order_42 : decode cX6_order 42 = .ok (.getfield 21, 3) := by decide +kernel
theorem dX6_order_45 : decode cX6_order 45 = .ok (.getfield 86, 3) := by decide +kernel
theorem dX6_order_48 : decode cX6_order 48 = .ok (.sipush 200, 3) := by decide +kernel
theorem dX6_order_51 : decode cX6_order 51 = .ok (.if_icmp .lt 5, 3) := by decide +kernel
theorem dX6_order_54 : decode cX6_order 54 = .ok (.iconst (-1), 1) := by decide +kernel
theorem dX6_order_55 : decode cX6_order 55 = .ok (.ireturn, 1) := by decide +kernel
theorem dX6_order_56 : decode cX6_order 56 = .ok (.aload_n 0, 1) := by decide +kernel
theorem dX6_order_57 : decode cX6_order 57 = .ok (.getfield 21, 3) := by decide +kernel
theorem dX6_order_60 : decode cX6_order 60 = .ok (.iload_n 1, 1) := by decide +kernel
theorem dX6_order_61 : decode cX6_order 61 = .ok (.iload_n 2, 1) := by decide +kernel
theorem dX6_order_62 : decode cX6_order 62 = .ok (.iload_n 1, 1) := by decide +kernel
theorem dX6_order_63 : decode cX6_order 63 = .ok (.iconst 2, 1) := by decide +kernel
theorem dX6_order_64 : decode cX6_order 64 = .ok (.if_icmp .lt 7, 3) := by decide +kernel
theorem dX6_order_67 : decode cX6_order 67 = .ok (.iload_n 3, 1) := by decide +kernel
theorem dX6_order_68 : decode cX6_order 68 = .ok (.goto 4, 3) := by decide +kernel
theorem dX6_order_71 : decode cX6_order 71 = .ok (.iconst (-1), 1) := by decide +kernel
theorem dX6_order_72 : decode cX6_order 72 = .ok (.invokevirtual 89, 3) := by decide +kernel
theorem dX6_order_75 : decode cX6_order 75 = .ok (.ifCond .eq 7, 3) := by decide +kernel
theorem dX6_order_78 : decode cX6_order 78 = .ok (.iconst 1, 1) := by decide +kernel
theorem dX6_order_79 : decode cX6_order 79 = .ok (.goto 4, 3) := by decide +kernel
theorem dX6_order_82 : decode cX6_order 82 = .ok (.iconst 0, 1) := by decide +kernel
theorem dX6_order_83 : decode cX6_order 83 = .ok (.ireturn, 1) := by decide +kernel
theorem dX6_undo_0 : decode cX6_undo 0 = .ok (.aload_n 0, 1) := by decide +kernel
theorem dX6_undo_1 : decode cX6_undo 1 = .ok (.getfield 21, 3) := by decide +kernel
theorem dX6_undo_4 : decode cX6_undo 4 = .ok (.invokevirtual 93, 3) := by decide +kernel
theorem dX6_undo_7 : decode cX6_undo 7 = .ok (.ireturn, 1) := by decide +kernel
theorem dX6_anew_0 : decode cX6_anew 0 = .ok (.aload_n 0, 1) := by decide +kernel
theorem dX6_anew_1 : decode cX6_anew 1 = .ok (.getfield 21, 3) := by decide +kernel
theorem dX6_anew_4 : decode cX6_anew 4 = .ok (.invokevirtual 97, 3) := by decide +kernel
theorem dX6_anew_7 : decode cX6_anew 7 = .ok (.return_, 1) := by decide +kernel
theorem dX6_count_0 : decode cX6_count 0 = .ok (.iload_n 1, 1) := by decide +kernel
theorem dX6_count_1 : decode cX6_count 1 = .ok (.tableswitch 191 0 10 #[59, 67, 78, 86, 100, 121, 140, 148, 159, 167, 175], 59) := by decide +kernel
theorem dX6_count_60 : decode cX6_count 60 = .ok (.aload_n 0, 1) := by decide +kernel
theorem dX6_count_61 : decode cX6_count 61 = .ok (.getfield 21, 3) := by decide +kernel
theorem dX6_count_64 : decode cX6_count 64 = .ok (.getfield 86, 3) := by decide +kernel
theorem dX6_count_67 : decode cX6_count 67 = .ok (.ireturn, 1) := by decide +kernel
theorem dX6_count_68 : decode cX6_count 68 = .ok (.aload_n 0, 1) := by decide +kernel
theorem dX6_count_69 : decode cX6_count 69 = .ok (.getfield 21, 3) := by decide +kernel
theorem dX6_count_72 : decode cX6_count 72 = .ok (.getfield 100, 3) := by decide +kernel
theorem dX6_count_75 : decode cX6_count 75 = .ok (.getfield 103, 3) := by decide +kernel
theorem dX6_count_78 : decode cX6_count 78 = .ok (.ireturn, 1) := by decide +kernel
theorem dX6_count_79 : decode cX6_count 79 = .ok (.aload_n 0, 1) := by decide +kernel
theorem dX6_count_80 : decode cX6_count 80 = .ok (.getfield 21, 3) := by decide +kernel
theorem dX6_count_83 : decode cX6_count 83 = .ok (.getfield 106, 3) := by decide +kernel
theorem dX6_count_86 : decode cX6_count 86 = .ok (.ireturn, 1) := by decide +kernel
theorem dX6_count_87 : decode cX6_count 87 = .ok (.aload_n 0, 1) := by decide +kernel
theorem dX6_count_88 : decode cX6_count 88 = .ok (.getfield 21, 3) := by decide +kernel
theorem dX6_count_91 : decode cX6_count 91 = .ok (.getfield 100, 3) := by decide +kernel
theorem dX6_count_94 : decode cX6_count 94 = .ok (.getfield 109, 3) := by decide +kernel
theorem dX6_count_97 : decode cX6_count 97 = .ok (.invokestatic 112, 3) := by decide +kernel
theorem dX6_count_100 : decode cX6_count 100 = .ok (.ireturn, 1) := by decide +kernel
theorem dX6_count_101 : decode cX6_count 101 = .ok (.aload_n 0, 1) := by decide +kernel
theorem dX6_count_102 : decode cX6_count 102 = .ok (.getfield 10, 3) := by decide +kernel
theorem dX6_count_105 : decode cX6_count 105 = .ok (.aload_n 0, 1) := by decide +kernel
theorem dX6_count_106 : decode cX6_count 106 = .ok (.getfield 21, 3) := by decide +kernel
theorem dX6_count_109 : decode cX6_count 109 = .ok (.getfield 100, 3) := by decide +kernel
theorem dX6_count_112 : decode cX6_count 112 = .ok (.getfield 109, 3) := by decide +kernel
theorem dX6_count_115 : decode cX6_count 115 = .ok (.invokevirtual 118, 3) := by decide +kernel
theorem dX6_count_118 : decode cX6_count 118 = .ok (.invokestatic 112, 3) := by decide +kernel
theorem dX6_count_121 : decode cX6_count 121 = .ok (.ireturn, 1) := by decide +kernel
theorem dX6_count_122 : decode cX6_count 122 = .ok (.aload_n 0, 1) := by decide +kernel
theorem dX6_count_123 : decode cX6_count 123 = .ok (.getfield 21, 3) := by decide +kernel
theorem dX6_count_126 : decode cX6_count 126 = .ok (.getfield 100, 3) := by decide +kernel
theorem dX6_count_129 : decode cX6_count 129 = .ok (.getfield 109, 3) := by decide +kernel
theorem dX6_count_132 : decode cX6_count 132 = .ok (.ifCond .ne 7, 3) := by decide +kernel
theorem dX6_count_135 : decode cX6_count 135 = .ok (.iconst 1, 1) := by decide +kernel
theorem dX6_count_136 : decode cX6_count 136 = .ok (.goto 4, 3) := by decide +kernel
theorem dX6_count_139 : decode cX6_count 139 = .ok (.iconst 0, 1) := by decide +kernel
theorem dX6_count_140 : decode cX6_count 140 = .ok (.ireturn, 1) := by decide +kernel
theorem dX6_count_141 : decode cX6_count 141 = .ok (.aload_n 0, 1) := by decide +kernel
theorem dX6_count_142 : decode cX6_count 142 = .ok (.getfield 10, 3) := by decide +kernel
theorem dX6_count_145 : decode cX6_count 145 = .ok (.getfield 121, 3) := by decide +kernel
theorem dX6_count_148 : decode cX6_count 148 = .ok (.ireturn, 1) := by decide +kernel
theorem dX6_count_149 : decode cX6_count 149 = .ok (.aload_n 0, 1) := by decide +kernel
theorem dX6_count_150 : decode cX6_count 150 = .ok (.getfield 10, 3) := by decide +kernel
theorem dX6_count_153 : decode cX6_count 153 = .ok (.getfield 124, 3) := by decide +kernel
theorem dX6_count_156 : decode cX6_count 156 = .ok (.invokestatic 112, 3) := by decide +kernel
theorem dX6_count_159 : decode cX6_count 159 = .ok (.ireturn, 1) := by decide +kernel
theorem dX6_count_160 : decode cX6_count 160 = .ok (.aload_n 0, 1) := by decide +kernel
theorem dX6_count_161 : decode cX6_count 161 = .ok (.getfield 10, 3) := by decide +kernel
theorem dX6_count_164 : decode cX6_count 164 = .ok (.getfield 78, 3) := by decide +kernel
theorem dX6_count_167 : decode cX6_count 167 = .ok (.ireturn, 1) := by decide +kernel
theorem dX6_count_168 : decode cX6_count 168 = .ok (.aload_n 0, 1) := by decide +kernel
theorem dX6_count_169 : decode cX6_count 169 = .ok (.getfield 10, 3) := by decide +kernel
theorem dX6_count_172 : decode cX6_count 172 = .ok (.invokevirtual 127, 3) := by decide +kernel
theorem dX6_count_175 : decode cX6_count 175 = .ok (.ireturn, 1) := by decide +kernel
theorem dX6_count_176 : decode cX6_count 176 = .ok (.aload_n 0, 1) := by decide +kernel
theorem dX6_count_177 : decode cX6_count 177 = .ok (.getfield 10, 3) := by decide +kernel
theorem dX6_count_180 : decode cX6_count 180 = .ok (.invokevirtual 130, 3) := by decide +kernel
theorem dX6_count_183 : decode cX6_count 183 = .ok (.ifCond .eq 7, 3) := by decide +kernel
theorem dX6_count_186 : decode cX6_count 186 = .ok (.iconst 1, 1) := by decide +kernel
theorem dX6_count_187 : decode cX6_count 187 = .ok (.goto 4, 3) := by decide +kernel
theorem dX6_count_190 : decode cX6_count 190 = .ok (.iconst 0, 1) := by decide +kernel
theorem dX6_count_191 : decode cX6_count 191 = .ok (.ireturn, 1) := by decide +kernel
theorem dX6_count_192 : decode cX6_count 192 = .ok (.iconst (-1), 1) := by decide +kernel
theorem dX6_count_193 : decode cX6_count 193 = .ok (.ireturn, 1) := by decide +kernel
theorem dX6_look_0 : decode cX6_look 0 = .ok (.iload_n 2, 1) := by decide +kernel
theorem dX6_look_1 : decode cX6_look 1 = .ok (.iconst 4, 1) := by decide +kernel
theorem dX6_look_2 : decode cX6_look 2 = .ok (.if_icmp .ge 25, 3) := by decide +kernel
theorem dX6_look_5 : decode cX6_look 5 = .ok (.aload_n 0, 1) := by decide +kernel
theorem dX6_look_6 : decode cX6_look 6 = .ok (.getfield 10, 3) := by decide +kernel
theorem dX6_look_9 : decode cX6_look 9 = .ok (.iload_n 1, 1) := by decide +kernel
theorem dX6_look_10 : decode cX6_look 10 = .ok (.invokevirtual 64, 3) := by decide +kernel
theorem dX6_look_13 : decode cX6_look 13 = .ok (.ifCond .eq 12, 3) := by decide +kernel
theorem dX6_look_16 : decode cX6_look 16 = .ok (.aload_n 0, 1) := by decide +kernel
theorem dX6_look_17 : decode cX6_look 17 = .ok (.iload_n 1, 1) := by decide +kernel
theorem dX6_look_18 : decode cX6_look 18 = .ok (.iload_n 2, 1) := by decide +kernel
theorem dX6_look_19 : decode cX6_look 19 = .ok (.invokevirtual 133, 3) := by decide +kernel
theorem dX6_look_22 : decode cX6_look 22 = .ok (.goto 4, 3) := by decide +kernel
theorem dX6_look_25 : decode cX6_look 25 = .ok (.iconst (-1), 1) := by decide +kernel
theorem dX6_look_26 : decode cX6_look 26 = .ok (.ireturn, 1) := by decide +kernel
theorem dX6_look_27 : decode cX6_look 27 = .ok (.aload_n 0, 1) := by decide +kernel
theorem dX6_look_28 : decode cX6_look 28 = .ok (.getfield 10, 3) := by decide +kernel
theorem dX6_look_31 : decode cX6_look 31 = .ok (.iload_n 1, 1) := by decide +kernel
theorem dX6_look_32 : decode cX6_look 32 = .ok (.invokevirtual 72, 3) := by decide +kernel
theorem dX6_look_35 : decode cX6_look 35 = .ok (.ifCond .eq 12, 3) := by decide +kernel
theorem dX6_look_38 : decode cX6_look 38 = .ok (.aload_n 0, 1) := by decide +kernel
theorem dX6_look_39 : decode cX6_look 39 = .ok (.iload_n 1, 1) := by decide +kernel
theorem dX6_look_40 : decode cX6_look 40 = .ok (.iload_n 2, 1) := by decide +kernel
theorem dX6_look_41 : decode cX6_look 41 = .ok (.invokevirtual 137, 3) := by decide +kernel
theorem dX6_look_44 : decode cX6_look 44 = .ok (.goto 4, 3) := by decide +kernel
theorem dX6_look_47 : decode cX6_look 47 = .ok (.iconst (-1), 1) := by decide +kernel
theorem dX6_look_48 : decode cX6_look 48 = .ok (.ireturn, 1) := by decide +kernel
theorem dX6_fewest_0 : decode cX6_fewest 0 = .ok (.aload_n 0, 1) := by decide +kernel
theorem dX6_fewest_1 : decode cX6_fewest 1 = .ok (.aconst_null, 1) := by decide +kernel
theorem dX6_fewest_2 : decode cX6_fewest 2 = .ok (.putfield 46, 3) := by decide +kernel
theorem dX6_fewest_5 : decode cX6_fewest 5 = .ok (.aload_n 0, 1) := by decide +kernel
theorem dX6_fewest_6 : decode cX6_fewest 6 = .ok (.iload_n 1, 1) := by decide +kernel
theorem dX6_fewest_7 : decode cX6_fewest 7 = .ok (.invokevirtual 140, 3) := by decide +kernel
theorem dX6_fewest_10 : decode cX6_fewest 10 = .ok (.ifCond .ne 5, 3) := by decide +kernel
theorem dX6_fewest_13 : decode cX6_fewest 13 = .ok (.iconst (-1), 1) := by decide +kernel
theorem dX6_fewest_14 : decode cX6_fewest 14 = .ok (.ireturn, 1) := by decide +kernel
theorem dX6_fewest_15 : decode cX6_fewest 15 = .ok (.iconst 1, 1) := by decide +kernel
theorem dX6_fewest_16 : decode cX6_fewest 16 = .ok (.istore_n 2, 1) := by decide +kernel
theorem dX6_fewest_17 : decode cX6_fewest 17 = .ok (.iload_n 2, 1) := by decide +kernel
theorem dX6_fewest_18 : decode cX6_fewest 18 = .ok (.iconst 3, 1) := by decide +kernel
theorem dX6_fewest_19 : decode cX6_fewest 19 = .ok (.if_icmp .gt 34, 3) := by decide +kernel
theorem dX6_fewest_22 : decode cX6_fewest 22 = .ok (.aload_n 0, 1) := by decide +kernel
theorem dX6_fewest_23 : decode cX6_fewest 23 = .ok (.getfield 35, 3) := by decide +kernel
theorem dX6_fewest_26 : decode cX6_fewest 26 = .ok (.iload_n 1, 1) := by decide +kernel
theorem dX6_fewest_27 : decode cX6_fewest 27 = .ok (.iload_n 2, 1) := by decide +kernel
theorem dX6_fewest_28 : decode cX6_fewest 28 = .ok (.invokevirtual 143, 3) := by decide +kernel
theorem dX6_fewest_31 : decode cX6_fewest 31 = .ok (.ifCond .eq 16, 3) := by decide +kernel
theorem dX6_fewest_34 : decode cX6_fewest 34 = .ok (.aload_n 0, 1) := by decide +kernel
theorem dX6_fewest_35 : decode cX6_fewest 35 = .ok (.aload_n 0, 1) := by decide +kernel
theorem dX6_fewest_36 : decode cX6_fewest 36 = .ok (.getfield 35, 3) := by decide +kernel
theorem dX6_fewest_39 : decode cX6_fewest 39 = .ok (.invokevirtual 146, 3) := by decide +kernel
theorem dX6_fewest_42 : decode cX6_fewest 42 = .ok (.putfield 46, 3) := by decide +kernel
theorem dX6_fewest_45 : decode cX6_fewest 45 = .ok (.iload_n 2, 1) := by decide +kernel
theorem dX6_fewest_46 : decode cX6_fewest 46 = .ok (.ireturn, 1) := by decide +kernel
theorem dX6_fewest_47 : decode cX6_fewest 47 = .ok (.iinc 2 1, 3) := by decide +kernel
theorem dX6_fewest_50 : decode cX6_fewest 50 = .ok (.goto (-33), 3) := by decide +kernel
theorem dX6_fewest_53 : decode cX6_fewest 53 = .ok (.iconst 4, 1) := by decide +kernel
theorem dX6_fewest_54 : decode cX6_fewest 54 = .ok (.ireturn, 1) := by decide +kernel
theorem dX6_plan_0 : decode cX6_plan 0 = .ok (.aload_n 0, 1) := by decide +kernel
theorem dX6_plan_1 : decode cX6_plan 1 = .ok (.getfield 46, 3) := by decide +kernel
theorem dX6_plan_4 : decode cX6_plan 4 = .ok (.ifnonnull 5, 3) := by decide +kernel
theorem dX6_plan_7 : decode cX6_plan 7 = .ok (.iconst (-1), 1) := by decide +kernel
theorem dX6_plan_8 : decode cX6_plan 8 = .ok (.ireturn, 1) := by decide +kernel
theorem dX6_plan_9 : decode cX6_plan 9 = .ok (.iload_n 1, 1) := by decide +kernel
theorem dX6_plan_10 : decode cX6_plan 10 = .ok (.iconst (-1), 1) := by decide +kernel
theorem dX6_plan_11 : decode cX6_plan 11 = .ok (.if_icmp .ne 15, 3) := by decide +kernel
theorem dX6_plan_14 : decode cX6_plan 14 = .ok (.iload_n 2, 1) := by decide +kernel
theorem dX6_plan_15 : decode cX6_plan 15 = .ok (.ifCond .ne 11, 3) := by decide +kernel
theorem dX6_plan_18 : decode cX6_plan 18 = .ok (.aload_n 0, 1) := by decide +kernel
theorem dX6_plan_19 : decode cX6_plan 19 = .ok (.getfield 46, 3) := by decide +kernel
theorem dX6_plan_22 : decode cX6_plan 22 = .ok (.invokevirtual 150, 3) := by decide +kernel
theorem dX6_plan_25 : decode cX6_plan 25 = .ok (.ireturn, 1) := by decide +kernel
theorem dX6_plan_26 : decode cX6_plan 26 = .ok (.aload_n 0, 1) := by decide +kernel
theorem dX6_plan_27 : decode cX6_plan 27 = .ok (.getfield 46, 3) := by decide +kernel
theorem dX6_plan_30 : decode cX6_plan 30 = .ok (.iload_n 1, 1) := by decide +kernel
theorem dX6_plan_31 : decode cX6_plan 31 = .ok (.iload_n 2, 1) := by decide +kernel
theorem dX6_plan_32 : decode cX6_plan 32 = .ok (.invokevirtual 155, 3) := by decide +kernel
theorem dX6_plan_35 : decode cX6_plan 35 = .ok (.ireturn, 1) := by decide +kernel
theorem dX6_witness_0 : decode cX6_witness 0 = .ok (.aload_n 0, 1) := by decide +kernel
theorem dX6_witness_1 : decode cX6_witness 1 = .ok (.iload_n 1, 1) := by decide +kernel
theorem dX6_witness_2 : decode cX6_witness 2 = .ok (.invokevirtual 140, 3) := by decide +kernel
theorem dX6_witness_5 : decode cX6_witness 5 = .ok (.ifCond .eq 13, 3) := by decide +kernel
theorem dX6_witness_8 : decode cX6_witness 8 = .ok (.iload_n 2, 1) := by decide +kernel
theorem dX6_witness_9 : decode cX6_witness 9 = .ok (.iconst 1, 1) := by decide +kernel
theorem dX6_witness_10 : decode cX6_witness 10 = .ok (.if_icmp .lt 8, 3) := by decide +kernel
theorem dX6_witness_13 : decode cX6_witness 13 = .ok (.iload_n 2, 1) := by decide +kernel
theorem dX6_witness_14 : decode cX6_witness 14 = .ok (.iconst 3, 1) := by decide +kernel
theorem dX6_witness_15 : decode cX6_witness 15 = .ok (.if_icmp .le 5, 3) := by decide +kernel
theorem dX6_witness_18 : decode cX6_witness 18 = .ok (.iconst (-1), 1) := by decide +kernel
theorem dX6_witness_19 : decode cX6_witness 19 = .ok (.ireturn, 1) := by decide +kernel
theorem dX6_witness_20 : decode cX6_witness 20 = .ok (.aload_n 0, 1) := by decide +kernel
theorem dX6_witness_21 : decode cX6_witness 21 = .ok (.getfield 35, 3) := by decide +kernel
theorem dX6_witness_24 : decode cX6_witness 24 = .ok (.iload_n 1, 1) := by decide +kernel
theorem dX6_witness_25 : decode cX6_witness 25 = .ok (.iload_n 2, 1) := by decide +kernel
theorem dX6_witness_26 : decode cX6_witness 26 = .ok (.invokevirtual 143, 3) := by decide +kernel
theorem dX6_witness_29 : decode cX6_witness 29 = .ok (.ifCond .eq 8, 3) := by decide +kernel
theorem dX6_witness_32 : decode cX6_witness 32 = .ok (.bipush (-2), 2) := by decide +kernel
theorem dX6_witness_34 : decode cX6_witness 34 = .ok (.goto 10, 3) := by decide +kernel
theorem dX6_witness_37 : decode cX6_witness 37 = .ok (.aload_n 0, 1) := by decide +kernel
theorem dX6_witness_38 : decode cX6_witness 38 = .ok (.getfield 35, 3) := by decide +kernel
theorem dX6_witness_41 : decode cX6_witness 41 = .ok (.getfield 158, 3) := by decide +kernel
theorem dX6_witness_44 : decode cX6_witness 44 = .ok (.ireturn, 1) := by decide +kernel
theorem dX6_judge_0 : decode cX6_judge 0 = .ok (.iload_n 1, 1) := by decide +kernel
theorem dX6_judge_1 : decode cX6_judge 1 = .ok (.invokestatic 161, 3) := by decide +kernel
theorem dX6_judge_4 : decode cX6_judge 4 = .ok (.ifCond .eq 13, 3) := by decide +kernel
theorem dX6_judge_7 : decode cX6_judge 7 = .ok (.aload_n 0, 1) := by decide +kernel
theorem dX6_judge_8 : decode cX6_judge 8 = .ok (.getfield 10, 3) := by decide +kernel
theorem dX6_judge_11 : decode cX6_judge 11 = .ok (.getfield 121, 3) := by decide +kernel
theorem dX6_judge_14 : decode cX6_judge 14 = .ok (.ifCond .ne 5, 3) := by decide +kernel
theorem dX6_judge_17 : decode cX6_judge 17 = .ok (.iconst (-1), 1) := by decide +kernel
theorem dX6_judge_18 : decode cX6_judge 18 = .ok (.ireturn, 1) := by decide +kernel
theorem dX6_judge_19 : decode cX6_judge 19 = .ok (.aload_n 0, 1) := by decide +kernel
theorem dX6_judge_20 : decode cX6_judge 20 = .ok (.iload_n 1, 1) := by decide +kernel
theorem dX6_judge_21 : decode cX6_judge 21 = .ok (.invokevirtual 164, 3) := by decide +kernel
theorem dX6_judge_24 : decode cX6_judge 24 = .ok (.ifCond .eq 7, 3) := by decide +kernel
theorem dX6_judge_27 : decode cX6_judge 27 = .ok (.iconst 1, 1) := by decide +kernel
theorem dX6_judge_28 : decode cX6_judge 28 = .ok (.goto 4, 3) := by decide +kernel
theorem dX6_judge_31 : decode cX6_judge 31 = .ok (.iconst 0, 1) := by decide +kernel
theorem dX6_judge_32 : decode cX6_judge 32 = .ok (.ireturn, 1) := by decide +kernel
theorem dX6_place_0 : decode cX6_place 0 = .ok (.aload_n 0, 1) := by decide +kernel
theorem dX6_place_1 : decode cX6_place 1 = .ok (.getfield 10, 3) := by decide +kernel
theorem dX6_place_4 : decode cX6_place 4 = .ok (.iload_n 1, 1) := by decide +kernel
theorem dX6_place_5 : decode cX6_place 5 = .ok (.invokevirtual 64, 3) := by decide +kernel
theorem dX6_place_8 : decode cX6_place 8 = .ok (.ifCond .eq 14, 3) := by decide +kernel
theorem dX6_place_11 : decode cX6_place 11 = .ok (.aload_n 0, 1) := by decide +kernel
theorem dX6_place_12 : decode cX6_place 12 = .ok (.getfield 10, 3) := by decide +kernel
theorem dX6_place_15 : decode cX6_place 15 = .ok (.iload_n 2, 1) := by decide +kernel
theorem dX6_place_16 : decode cX6_place 16 = .ok (.invokevirtual 64, 3) := by decide +kernel
theorem dX6_place_19 : decode cX6_place 19 = .ok (.ifCond .ne 5, 3) := by decide +kernel
theorem dX6_place_22 : decode cX6_place 22 = .ok (.iconst 0, 1) := by decide +kernel
theorem dX6_place_23 : decode cX6_place 23 = .ok (.ireturn, 1) := by decide +kernel
theorem dX6_place_24 : decode cX6_place 24 = .ok (.aload_n 0, 1) := by decide +kernel
theorem dX6_place_25 : decode cX6_place 25 = .ok (.getfield 28, 3) := by decide +kernel
theorem dX6_place_28 : decode cX6_place 28 = .ok (.iload_n 1, 1) := by decide +kernel
theorem dX6_place_29 : decode cX6_place 29 = .ok (.iload_n 2, 1) := by decide +kernel
theorem dX6_place_30 : decode cX6_place 30 = .ok (.invokevirtual 167, 3) := by decide +kernel
theorem dX6_place_33 : decode cX6_place 33 = .ok (.iconst 1, 1) := by decide +kernel
theorem dX6_place_34 : decode cX6_place 34 = .ok (.ireturn, 1) := by decide +kernel
theorem dX6_cut_0 : decode cX6_cut 0 = .ok (.iload_n 1, 1) := by decide +kernel
theorem dX6_cut_1 : decode cX6_cut 1 = .ok (.ifCond .lt 14, 3) := by decide +kernel
theorem dX6_cut_4 : decode cX6_cut 4 = .ok (.iload_n 1, 1) := by decide +kernel
theorem dX6_cut_5 : decode cX6_cut 5 = .ok (.aload_n 0, 1) := by decide +kernel
theorem dX6_cut_6 : decode cX6_cut 6 = .ok (.getfield 10, 3) := by decide +kernel
theorem dX6_cut_9 : decode cX6_cut 9 = .ok (.getfield 121, 3) := by decide +kernel
theorem dX6_cut_12 : decode cX6_cut 12 = .ok (.if_icmp .le 5, 3) := by decide +kernel
theorem dX6_cut_15 : decode cX6_cut 15 = .ok (.iconst (-1), 1) := by decide +kernel
theorem dX6_cut_16 : decode cX6_cut 16 = .ok (.ireturn, 1) := by decide +kernel
theorem dX6_cut_17 : decode cX6_cut 17 = .ok (.iload_n 1, 1) := by decide +kernel
theorem dX6_cut_18 : decode cX6_cut 18 = .ok (.ifCond .ne 13, 3) := by decide +kernel
theorem dX6_cut_21 : decode cX6_cut 21 = .ok (.aload_n 0, 1) := by decide +kernel
theorem dX6_cut_22 : decode cX6_cut 22 = .ok (.getfield 28, 3) := by decide +kernel
theorem dX6_cut_25 : decode cX6_cut 25 = .ok (.invokevirtual 171, 3) := by decide +kernel
theorem dX6_cut_28 : decode cX6_cut 28 = .ok (.goto 11, 3) := by decide +kernel
theorem dX6_cut_31 : decode cX6_cut 31 = .ok (.aload_n 0, 1) := by decide +kernel
theorem dX6_cut_32 : decode cX6_cut 32 = .ok (.getfield 28, 3) := by decide +kernel
theorem dX6_cut_35 : decode cX6_cut 35 = .ok (.iload_n 1, 1) := by decide +kernel
theorem dX6_cut_36 : decode cX6_cut 36 = .ok (.invokevirtual 174, 3) := by decide +kernel
theorem dX6_cut_39 : decode cX6_cut 39 = .ok (.ireturn, 1) := by decide +kernel
theorem dX6_width_0 : decode cX6_width 0 = .ok (.aload_n 0, 1) := by decide +kernel
theorem dX6_width_1 : decode cX6_width 1 = .ok (.getfield 10, 3) := by decide +kernel
theorem dX6_width_4 : decode cX6_width 4 = .ok (.getfield 121, 3) := by decide +kernel
theorem dX6_width_7 : decode cX6_width 7 = .ok (.ifCond .ne 5, 3) := by decide +kernel
theorem dX6_width_10 : decode cX6_width 10 = .ok (.iconst (-1), 1) := by decide +kernel
theorem dX6_width_11 : decode cX6_width 11 = .ok (.ireturn, 1) := by decide +kernel
theorem dX6_width_12 : decode cX6_width 12 = .ok (.aload_n 0, 1) := by decide +kernel
theorem dX6_width_13 : decode cX6_width 13 = .ok (.getfield 28, 3) := by decide +kernel
theorem dX6_width_16 : decode cX6_width 16 = .ok (.invokevirtual 177, 3) := by decide +kernel
theorem dX6_width_19 : decode cX6_width 19 = .ok (.ireturn, 1) := by decide +kernel
theorem dX6_forgetSearchAndPlan_0 : decode cX6_forgetSearchAndPlan 0 = .ok (.aload_n 0, 1) := by decide +kernel
theorem dX6_forgetSearchAndPlan_1 : decode cX6_forgetSearchAndPlan 1 = .ok (.getfield 21, 3) := by decide +kernel
theorem dX6_forgetSearchAndPlan_4 : decode cX6_forgetSearchAndPlan 4 = .ok (.invokevirtual 97, 3) := by decide +kernel
theorem dX6_forgetSearchAndPlan_7 : decode cX6_forgetSearchAndPlan 7 = .ok (.aload_n 0, 1) := by decide +kernel
theorem dX6_forgetSearchAndPlan_8 : decode cX6_forgetSearchAndPlan 8 = .ok (.aconst_null, 1) := by decide +kernel
theorem dX6_forgetSearchAndPlan_9 : decode cX6_forgetSearchAndPlan 9 = .ok (.putfield 46, 3) := by decide +kernel
theorem dX6_forgetSearchAndPlan_12 : decode cX6_forgetSearchAndPlan 12 = .ok (.return_, 1) := by decide +kernel
theorem dX6_lookAtCave_0 : decode cX6_lookAtCave 0 = .ok (.iload_n 2, 1) := by decide +kernel
theorem dX6_lookAtCave_1 : decode cX6_lookAtCave 1 = .ok (.tableswitch 81 0 3 #[31, 44, 59, 72], 31) := by decide +kernel
theorem dX6_lookAtCave_32 : decode cX6_lookAtCave 32 = .ok (.aload_n 0, 1) := by decide +kernel
theorem dX6_lookAtCave_33 : decode cX6_lookAtCave 33 = .ok (.getfield 21, 3) := by decide +kernel
theorem dX6_lookAtCave_36 : decode cX6_lookAtCave 36 = .ok (.getfield 100, 3) := by decide +kernel
theorem dX6_lookAtCave_39 : decode cX6_lookAtCave 39 = .ok (.getfield 180, 3) := by decide +kernel
theorem dX6_lookAtCave_42 : decode cX6_lookAtCave 42 = .ok (.iload_n 1, 1) := by decide +kernel
theorem dX6_lookAtCave_43 : decode cX6_lookAtCave 43 = .ok (.iaload, 1) := by decide +kernel
theorem dX6_lookAtCave_44 : decode cX6_lookAtCave 44 = .ok (.ireturn, 1) := by decide +kernel
theorem dX6_lookAtCave_45 : decode cX6_lookAtCave 45 = .ok (.aload_n 0, 1) := by decide +kernel
theorem dX6_lookAtCave_46 : decode cX6_lookAtCave 46 = .ok (.getfield 21, 3) := by decide +kernel
theorem dX6_lookAtCave_49 : decode cX6_lookAtCave 49 = .ok (.getfield 100, 3) := by decide +kernel
theorem dX6_lookAtCave_52 : decode cX6_lookAtCave 52 = .ok (.getfield 109, 3) := by decide +kernel
theorem dX6_lookAtCave_55 : decode cX6_lookAtCave 55 = .ok (.iload_n 1, 1) := by decide +kernel
theorem dX6_lookAtCave_56 : decode cX6_lookAtCave 56 = .ok (.ishr, 1) := by decide +kernel
theorem dX6_lookAtCave_57 : decode cX6_lookAtCave 57 = .ok (.iconst 1, 1) := by decide +kernel
theorem dX6_lookAtCave_58 : decode cX6_lookAtCave 58 = .ok (.iand, 1) := by decide +kernel
theorem dX6_lookAtCave_59 : decode cX6_lookAtCave 59 = .ok (.ireturn, 1) := by decide +kernel
theorem dX6_lookAtCave_60 : decode cX6_lookAtCave 60 = .ok (.aload_n 0, 1) := by decide +kernel
theorem dX6_lookAtCave_61 : decode cX6_lookAtCave 61 = .ok (.getfield 10, 3) := by decide +kernel
theorem dX6_lookAtCave_64 : decode cX6_lookAtCave 64 = .ok (.getfield 184, 3) := by decide +kernel
theorem dX6_lookAtCave_67 : decode cX6_lookAtCave 67 = .ok (.iload_n 1, 1) := by decide +kernel
theorem dX6_lookAtCave_68 : decode cX6_lookAtCave 68 = .ok (.iaload, 1) := by decide +kernel
theorem dX6_lookAtCave_69 : decode cX6_lookAtCave 69 = .ok (.invokestatic 112, 3) := by decide +kernel
theorem dX6_lookAtCave_72 : decode cX6_lookAtCave 72 = .ok (.ireturn, 1) := by decide +kernel
theorem dX6_lookAtCave_73 : decode cX6_lookAtCave 73 = .ok (.aload_n 0, 1) := by decide +kernel
theorem dX6_lookAtCave_74 : decode cX6_lookAtCave 74 = .ok (.getfield 28, 3) := by decide +kernel
theorem dX6_lookAtCave_77 : decode cX6_lookAtCave 77 = .ok (.iload_n 1, 1) := by decide +kernel
theorem dX6_lookAtCave_78 : decode cX6_lookAtCave 78 = .ok (.invokevirtual 187, 3) := by decide +kernel
theorem dX6_lookAtCave_81 : decode cX6_lookAtCave 81 = .ok (.ireturn, 1) := by decide +kernel
theorem dX6_lookAtCave_82 : decode cX6_lookAtCave 82 = .ok (.iconst (-1), 1) := by decide +kernel
theorem dX6_lookAtCave_83 : decode cX6_lookAtCave 83 = .ok (.ireturn, 1) := by decide +kernel
theorem dX6_lookAtPassage_0 : decode cX6_lookAtPassage 0 = .ok (.iload_n 2, 1) := by decide +kernel
theorem dX6_lookAtPassage_1 : decode cX6_lookAtPassage 1 = .ok (.tableswitch 85 4 7 #[31, 41, 51, 73], 31) := by decide +kernel
theorem dX6_lookAtPassage_32 : decode cX6_lookAtPassage 32 = .ok (.aload_n 0, 1) := by decide +kernel
theorem dX6_lookAtPassage_33 : decode cX6_lookAtPassage 33 = .ok (.getfield 10, 3) := by decide +kernel
theorem dX6_lookAtPassage_36 : decode cX6_lookAtPassage 36 = .ok (.getfield 190, 3) := by decide +kernel
theorem dX6_lookAtPassage_39 : decode cX6_lookAtPassage 39 = .ok (.iload_n 1, 1) := by decide +kernel
theorem dX6_lookAtPassage_40 : decode cX6_lookAtPassage 40 = .ok (.iaload, 1) := by decide +kernel
theorem dX6_lookAtPassage_41 : decode cX6_lookAtPassage 41 = .ok (.ireturn, 1) := by decide +kernel
theorem dX6_lookAtPassage_42 : decode cX6_lookAtPassage 42 = .ok (.aload_n 0, 1) := by decide +kernel
theorem dX6_lookAtPassage_43 : decode cX6_lookAtPassage 43 = .ok (.getfield 10, 3) := by decide +kernel
theorem dX6_lookAtPassage_46 : decode cX6_lookAtPassage 46 = .ok (.getfield 193, 3) := by decide +kernel
theorem dX6_lookAtPassage_49 : decode cX6_lookAtPassage 49 = .ok (.iload_n 1, 1) := by decide +kernel
theorem dX6_lookAtPassage_50 : decode cX6_lookAtPassage 50 = .ok (.iaload, 1) := by decide +kernel
theorem dX6_lookAtPassage_51 : decode cX6_lookAtPassage 51 = .ok (.ireturn, 1) := by decide +kernel
theorem dX6_lookAtPassage_52 : decode cX6_lookAtPassage 52 = .ok (.aload_n 0, 1) := by decide +kernel
theorem dX6_lookAtPassage_53 : decode cX6_lookAtPassage 53 = .ok (.getfield 10, 3) := by decide +kernel
theorem dX6_lookAtPassage_56 : decode cX6_lookAtPassage 56 = .ok (.aload_n 0, 1) := by decide +kernel
theorem dX6_lookAtPassage_57 : decode cX6_lookAtPassage 57 = .ok (.getfield 21, 3) := by decide +kernel
theorem dX6_lookAtPassage_60 : decode cX6_lookAtPassage 60 = .ok (.getfield 100, 3) := by decide +kernel
theorem dX6_lookAtPassage_63 : decode cX6_lookAtPassage 63 = .ok (.getfield 109, 3) := by decide +kernel
theorem dX6_lookAtPassage_66 : decode cX6_lookAtPassage 66 = .ok (.invokevirtual 118, 3) := by decide +kernel
theorem dX6_lookAtPassage_69 : decode cX6_lookAtPassage 69 = .ok (.iload_n 1, 1) := by decide +kernel
theorem dX6_lookAtPassage_70 : decode cX6_lookAtPassage 70 = .ok (.ishr, 1) := by decide +kernel
theorem dX6_lookAtPassage_71 : decode cX6_lookAtPassage 71 = .ok (.iconst 1, 1) := by decide +kernel
theorem dX6_lookAtPassage_72 : decode cX6_lookAtPassage 72 = .ok (.iand, 1) := by decide +kernel
theorem dX6_lookAtPassage_73 : decode cX6_lookAtPassage 73 = .ok (.ireturn, 1) := by decide +kernel
theorem dX6_lookAtPassage_74 : decode cX6_lookAtPassage 74 = .ok (.aload_n 0, 1) := by decide +kernel
theorem dX6_lookAtPassage_75 : decode cX6_lookAtPassage 75 = .ok (.getfield 21, 3) := by decide +kernel
theorem dX6_lookAtPassage_78 : decode cX6_lookAtPassage 78 = .ok (.invokevirtual 196, 3) := by decide +kernel
theorem dX6_lookAtPassage_81 : decode cX6_lookAtPassage 81 = .ok (.iload_n 1, 1) := by decide +kernel
theorem dX6_lookAtPassage_82 : decode cX6_lookAtPassage 82 = .ok (.ishr, 1) := by decide +kernel
theorem dX6_lookAtPassage_83 : decode cX6_lookAtPassage 83 = .ok (.iconst 1, 1) := by decide +kernel
theorem dX6_lookAtPassage_84 : decode cX6_lookAtPassage 84 = .ok (.iand, 1) := by decide +kernel
theorem dX6_lookAtPassage_85 : decode cX6_lookAtPassage 85 = .ok (.ireturn, 1) := by decide +kernel
theorem dX6_lookAtPassage_86 : decode cX6_lookAtPassage 86 = .ok (.iconst (-1), 1) := by decide +kernel
theorem dX6_lookAtPassage_87 : decode cX6_lookAtPassage 87 = .ok (.ireturn, 1) := by decide +kernel
theorem dX6_canBeSolved_0 : decode cX6_canBeSolved 0 = .ok (.iload_n 1, 1) := by decide +kernel
theorem dX6_canBeSolved_1 : decode cX6_canBeSolved 1 = .ok (.invokestatic 161, 3) := by decide +kernel
theorem dX6_canBeSolved_4 : decode cX6_canBeSolved 4 = .ok (.ifCond .eq 44, 3) := by decide +kernel
theorem dX6_canBeSolved_7 : decode cX6_canBeSolved 7 = .ok (.aload_n 0, 1) := by decide +kernel
theorem dX6_canBeSolved_8 : decode cX6_canBeSolved 8 = .ok (.getfield 10, 3) := by decide +kernel
theorem dX6_canBeSolved_11 : decode cX6_canBeSolved 11 = .ok (.getfield 121, 3) := by decide +kernel
theorem dX6_canBeSolved_14 : decode cX6_canBeSolved 14 = .ok (.ifCond .le 34, 3) := by decide +kernel
theorem dX6_canBeSolved_17 : decode cX6_canBeSolved 17 = .ok (.aload_n 0, 1) := by decide +kernel
theorem dX6_canBeSolved_18 : decode cX6_canBeSolved 18 = .ok (.getfield 10, 3) := by decide +kernel
theorem dX6_canBeSolved_21 : decode cX6_canBeSolved 21 = .ok (.getfield 121, 3) := by decide +kernel
theorem dX6_canBeSolved_24 : decode cX6_canBeSolved 24 = .ok (.bipush 6, 2) := by decide +kernel
theorem dX6_canBeSolved_26 : decode cX6_canBeSolved 26 = .ok (.if_icmp .gt 22, 3) := by decide +kernel
theorem dX6_canBeSolved_29 : decode cX6_canBeSolved 29 = .ok (.aload_n 0, 1) := by decide +kernel
theorem dX6_canBeSolved_30 : decode cX6_canBeSolved 30 = .ok (.getfield 10, 3) := by decide +kernel
theorem dX6_canBeSolved_33 : decode cX6_canBeSolved 33 = .ok (.getfield 124, 3) := by decide +kernel
theorem dX6_canBeSolved_36 : decode cX6_canBeSolved 36 = .ok (.invokestatic 112, 3) := by decide +kernel
theorem dX6_canBeSolved_39 : decode cX6_canBeSolved 39 = .ok (.bipush 8, 2) := by decide +kernel
theorem dX6_canBeSolved_41 : decode cX6_canBeSolved 41 = .ok (.if_icmp .gt 7, 3) := by decide +kernel
theorem dX6_canBeSolved_44 : decode cX6_canBeSolved 44 = .ok (.iconst 1, 1) := by decide +kernel
theorem dX6_canBeSolved_45 : decode cX6_canBeSolved 45 = .ok (.goto 4, 3) := by decide +kernel
theorem dX6_canBeSolved_48 : decode cX6_canBeSolved 48 = .ok (.iconst 0, 1) := by decide +kernel
theorem dX6_canBeSolved_49 : decode cX6_canBeSolved 49 = .ok (.ireturn, 1) := by decide +kernel
theorem dX6_isPlanBy_0 : decode cX6_isPlanBy 0 = .ok (.iconst 0, 1) := by decide +kernel
theorem dX6_isPlanBy_1 : decode cX6_isPlanBy 1 = .ok (.istore_n 2, 1) := by decide +kernel
theorem dX6_isPlanBy_2 : decode cX6_isPlanBy 2 = .ok (.aload_n 0, 1) := by decide +kernel
theorem dX6_isPlanBy_3 : decode cX6_isPlanBy 3 = .ok (.getfield 42, 3) := by decide +kernel
theorem dX6_isPlanBy_6 : decode cX6_isPlanBy 6 = .ok (.aload_n 0, 1) := by decide +kernel
theorem dX6_isPlanBy_7 : decode cX6_isPlanBy 7 = .ok (.getfield 10, 3) := by decide +kernel
theorem dX6_isPlanBy_10 : decode cX6_isPlanBy 10 = .ok (.invokevirtual 199, 3) := by decide +kernel
theorem dX6_isPlanBy_13 : decode cX6_isPlanBy 13 = .ok (.iconst 0, 1) := by decide +kernel
theorem dX6_isPlanBy_14 : decode cX6_isPlanBy 14 = .ok (.istore_n 3, 1) := by decide +kernel
theorem dX6_isPlanBy_15 : decode cX6_isPlanBy 15 = .ok (.iload_n 3, 1) := by decide +kernel
theorem dX6_isPlanBy_16 : decode cX6_isPlanBy 16 = .ok (.aload_n 0, 1) := by decide +kernel
theorem dX6_isPlanBy_17 : decode cX6_isPlanBy 17 = .ok (.getfield 21, 3) := by decide +kernel
theorem dX6_isPlanBy_20 : decode cX6_isPlanBy 20 = .ok (.getfield 86, 3) := by decide +kernel
theorem dX6_isPlanBy_23 : decode cX6_isPlanBy 23 = .ok (.if_icmp .ge 137, 3) := by decide +kernel
theorem dX6_isPlanBy_26 : decode cX6_isPlanBy 26 = .ok (.iload_n 3, 1) := by decide +kernel
theorem dX6_isPlanBy_27 : decode cX6_isPlanBy 27 = .ok (.sipush 200, 3) := by decide +kernel
theorem dX6_isPlanBy_30 : decode cX6_isPlanBy 30 = .ok (.if_icmp .ge 130, 3) := by decide +kernel
theorem dX6_isPlanBy_33 : decode cX6_isPlanBy 33 = .ok (.aload_n 0, 1) := by decide +kernel
theorem dX6_isPlanBy_34 : decode cX6_isPlanBy 34 = .ok (.getfield 21, 3) := by decide +kernel
theorem dX6_isPlanBy_37 : decode cX6_isPlanBy 37 = .ok (.getfield 201, 3) := by decide +kernel
theorem dX6_isPlanBy_40 : decode cX6_isPlanBy 40 = .ok (.iload_n 3, 1) := by decide +kernel
theorem dX6_isPlanBy_41 : decode cX6_isPlanBy 41 = .ok (.iaload, 1) := by decide +kernel
theorem dX6_isPlanBy_42 : decode cX6_isPlanBy 42 = .ok (.istore 4, 2) := by decide +kernel
theorem dX6_isPlanBy_44 : decode cX6_isPlanBy 44 = .ok (.aload_n 0, 1) := by decide +kernel
theorem dX6_isPlanBy_45 : decode cX6_isPlanBy 45 = .ok (.getfield 21, 3) := by decide +kernel
theorem dX6_isPlanBy_48 : decode cX6_isPlanBy 48 = .ok (.getfield 204, 3) := by decide +kernel
theorem dX6_isPlanBy_51 : decode cX6_isPlanBy 51 = .ok (.iload_n 3, 1) := by decide +kernel
theorem dX6_isPlanBy_52 : decode cX6_isPlanBy 52 = .ok (.iaload, 1) := by decide +kernel
theorem dX6_isPlanBy_53 : decode cX6_isPlanBy 53 = .ok (.istore 5, 2) := by decide +kernel
theorem dX6_isPlanBy_55 : decode cX6_isPlanBy 55 = .ok (.aload_n 0, 1) := by decide +kernel
theorem dX6_isPlanBy_56 : decode cX6_isPlanBy 56 = .ok (.getfield 42, 3) := by decide +kernel
theorem dX6_isPlanBy_59 : decode cX6_isPlanBy 59 = .ok (.getfield 109, 3) := by decide +kernel
theorem dX6_isPlanBy_62 : decode cX6_isPlanBy 62 = .ok (.ifCond .eq 19, 3) := by decide +kernel
theorem dX6_isPlanBy_65 : decode cX6_isPlanBy 65 = .ok (.aload_n 0, 1) := by decide +kernel
theorem dX6_isPlanBy_66 : decode cX6_isPlanBy 66 = .ok (.getfield 10, 3) := by decide +kernel
theorem dX6_isPlanBy_69 : decode cX6_isPlanBy 69 = .ok (.iload_n 1, 1) := by decide +kernel
theorem dX6_isPlanBy_70 : decode cX6_isPlanBy 70 = .ok (.iload 4, 2) := by decide +kernel
theorem dX6_isPlanBy_72 : decode cX6_isPlanBy 72 = .ok (.iload 5, 2) := by decide +kernel
theorem dX6_isPlanBy_74 : decode cX6_isPlanBy 74 = .ok (.iload_n 2, 1) := by decide +kernel
theorem dX6_isPlanBy_75 : decode cX6_isPlanBy 75 = .ok (.invokevirtual 207, 3) := by decide +kernel
theorem dX6_isPlanBy_78 : decode cX6_isPlanBy 78 = .ok (.ifCond .ne 5, 3) := by decide +kernel
theorem dX6_isPlanBy_81 : decode cX6_isPlanBy 81 = .ok (.iconst 0, 1) := by decide +kernel
theorem dX6_isPlanBy_82 : decode cX6_isPlanBy 82 = .ok (.ireturn, 1) := by decide +kernel
theorem dX6_isPlanBy_83 : decode cX6_isPlanBy 83 = .ok (.aload_n 0, 1) := by decide +kernel
theorem dX6_isPlanBy_84 : decode cX6_isPlanBy 84 = .ok (.getfield 42, 3) := by decide +kernel
theorem dX6_isPlanBy_87 : decode cX6_isPlanBy 87 = .ok (.aload_n 0, 1) := by decide +kernel
theorem dX6_isPlanBy_88 : decode cX6_isPlanBy 88 = .ok (.getfield 10, 3) := by decide +kernel
theorem dX6_isPlanBy_91 : decode cX6_isPlanBy 91 = .ok (.iload 4, 2) := by decide +kernel
theorem dX6_isPlanBy_93 : decode cX6_isPlanBy 93 = .ok (.iload 5, 2) := by decide +kernel
theorem dX6_isPlanBy_95 : decode cX6_isPlanBy 95 = .ok (.aload_n 0, 1) := by decide +kernel
theorem dX6_isPlanBy_96 : decode cX6_isPlanBy 96 = .ok (.getfield 21, 3) := by decide +kernel
theorem dX6_isPlanBy_99 : decode cX6_isPlanBy 99 = .ok (.getfield 211, 3) := by decide +kernel
theorem dX6_isPlanBy_102 : decode cX6_isPlanBy 102 = .ok (.iload_n 3, 1) := by decide +kernel
theorem dX6_isPlanBy_103 : decode cX6_isPlanBy 103 = .ok (.iaload, 1) := by decide +kernel
theorem dX6_isPlanBy_104 : decode cX6_isPlanBy 104 = .ok (.invokevirtual 214, 3) := by decide +kernel
theorem dX6_isPlanBy_107 : decode cX6_isPlanBy 107 = .ok (.iload_n 2, 1) := by decide +kernel
theorem dX6_isPlanBy_108 : decode cX6_isPlanBy 108 = .ok (.ifCond .ne 9, 3) := by decide +kernel
theorem dX6_isPlanBy_111 : decode cX6_isPlanBy 111 = .ok (.iload 4, 2) := by decide +kernel
theorem dX6_isPlanBy_113 : decode cX6_isPlanBy 113 = .ok (.iconst 2, 1) := by decide +kernel
theorem dX6_isPlanBy_114 : decode cX6_isPlanBy 114 = .ok (.if_icmp .lt 7, 3) := by decide +kernel
theorem dX6_isPlanBy_117 : decode cX6_isPlanBy 117 = .ok (.iconst 1, 1) := by decide +kernel
theorem dX6_isPlanBy_118 : decode cX6_isPlanBy 118 = .ok (.goto 4, 3) := by decide +kernel
theorem dX6_isPlanBy_121 : decode cX6_isPlanBy 121 = .ok (.iconst 0, 1) := by decide +kernel
theorem dX6_isPlanBy_122 : decode cX6_isPlanBy 122 = .ok (.istore_n 2, 1) := by decide +kernel
theorem dX6_isPlanBy_123 : decode cX6_isPlanBy 123 = .ok (.iload_n 1, 1) := by decide +kernel
theorem dX6_isPlanBy_124 : decode cX6_isPlanBy 124 = .ok (.iconst 2, 1) := by decide +kernel
theorem dX6_isPlanBy_125 : decode cX6_isPlanBy 125 = .ok (.if_icmp .ne 29, 3) := by decide +kernel
theorem dX6_isPlanBy_128 : decode cX6_isPlanBy 128 = .ok (.aload_n 0, 1) := by decide +kernel
theorem dX6_isPlanBy_129 : decode cX6_isPlanBy 129 = .ok (.getfield 10, 3) := by decide +kernel
theorem dX6_isPlanBy_132 : decode cX6_isPlanBy 132 = .ok (.aload_n 0, 1) := by decide +kernel
theorem dX6_isPlanBy_133 : decode cX6_isPlanBy 133 = .ok (.getfield 42, 3) := by decide +kernel
theorem dX6_isPlanBy_136 : decode cX6_isPlanBy 136 = .ok (.getfield 109, 3) := by decide +kernel
theorem dX6_isPlanBy_139 : decode cX6_isPlanBy 139 = .ok (.aload_n 0, 1) := by decide +kernel
theorem dX6_isPlanBy_140 : decode cX6_isPlanBy 140 = .ok (.getfield 42, 3) := by decide +kernel
theorem dX6_isPlanBy_143 : decode cX6_isPlanBy 143 = .ok (.getfield 218, 3) := by decide +kernel
theorem dX6_isPlanBy_146 : decode cX6_isPlanBy 146 = .ok (.invokevirtual 221, 3) := by decide +kernel
theorem dX6_isPlanBy_149 : decode cX6_isPlanBy 149 = .ok (.ifCond .ne 5, 3) := by decide +kernel
theorem dX6_isPlanBy_152 : decode cX6_isPlanBy 152 = .ok (.iconst 0, 1) := by decide +kernel
theorem dX6_isPlanBy_153 : decode cX6_isPlanBy 153 = .ok (.ireturn, 1) := by decide +kernel
theorem dX6_isPlanBy_154 : decode cX6_isPlanBy 154 = .ok (.iinc 3 1, 3) := by decide +kernel
theorem dX6_isPlanBy_157 : decode cX6_isPlanBy 157 = .ok (.goto (-142), 3) := by decide +kernel
theorem dX6_isPlanBy_160 : decode cX6_isPlanBy 160 = .ok (.aload_n 0, 1) := by decide +kernel
theorem dX6_isPlanBy_161 : decode cX6_isPlanBy 161 = .ok (.getfield 42, 3) := by decide +kernel
theorem dX6_isPlanBy_164 : decode cX6_isPlanBy 164 = .ok (.getfield 109, 3) := by decide +kernel
theorem dX6_isPlanBy_167 : decode cX6_isPlanBy 167 = .ok (.ifCond .ne 7, 3) := by decide +kernel
theorem dX6_isPlanBy_170 : decode cX6_isPlanBy 170 = .ok (.iconst 1, 1) := by decide +kernel
theorem dX6_isPlanBy_171 : decode cX6_isPlanBy 171 = .ok (.goto 4, 3) := by decide +kernel
theorem dX6_isPlanBy_174 : decode cX6_isPlanBy 174 = .ok (.iconst 0, 1) := by decide +kernel
theorem dX6_isPlanBy_175 : decode cX6_isPlanBy 175 = .ok (.ireturn, 1) := by decide +kernel
theorem dX6_isLaw_0 : decode cX6_isLaw 0 = .ok (.iload_n 0, 1) := by decide +kernel
theorem dX6_isLaw_1 : decode cX6_isLaw 1 = .ok (.ifCond .lt 12, 3) := by decide +kernel
theorem dX6_isLaw_4 : decode cX6_isLaw 4 = .ok (.iload_n 0, 1) := by decide +kernel
theorem dX6_isLaw_5 : decode cX6_isLaw 5 = .ok (.iconst 2, 1) := by decide +kernel
theorem dX6_isLaw_6 : decode cX6_isLaw 6 = .ok (.if_icmp .gt 7, 3) := by decide +kernel
theorem dX6_isLaw_9 : decode cX6_isLaw 9 = .ok (.iconst 1, 1) := by decide +kernel
theorem dX6_isLaw_10 : decode cX6_isLaw 10 = .ok (.goto 4, 3) := by decide +kernel
theorem dX6_isLaw_13 : decode cX6_isLaw 13 = .ok (.iconst 0, 1) := by decide +kernel
theorem dX6_isLaw_14 : decode cX6_isLaw 14 = .ok (.ireturn, 1) := by decide +kernel
theorem dX7_init_0 : decode cX7_init 0 = .ok (.aload_n 0, 1) := by decide +kernel
theorem dX7_init_1 : decode cX7_init 1 = .ok (.invokespecial 1, 3) := by decide +kernel
theorem dX7_init_4 : decode cX7_init 4 = .ok (.aload_n 0, 1) := by decide +kernel
theorem dX7_init_5 : decode cX7_init 5 = .ok (.bipush 18, 2) := by decide +kernel
theorem dX7_init_7 : decode cX7_init 7 = .ok (.newarray .int, 2) := by decide +kernel
theorem dX7_init_9 : decode cX7_init 9 = .ok (.putfield 7, 3) := by decide +kernel
theorem dX7_init_12 : decode cX7_init 12 = .ok (.aload_n 0, 1) := by decide +kernel
theorem dX7_init_13 : decode cX7_init 13 = .ok (.bipush 18, 2) := by decide +kernel
theorem dX7_init_15 : decode cX7_init 15 = .ok (.newarray .int, 2) := by decide +kernel
theorem dX7_init_17 : decode cX7_init 17 = .ok (.putfield 13, 3) := by decide +kernel
theorem dX7_init_20 : decode cX7_init 20 = .ok (.aload_n 0, 1) := by decide +kernel
theorem dX7_init_21 : decode cX7_init 21 = .ok (.bipush 18, 2) := by decide +kernel
theorem dX7_init_23 : decode cX7_init 23 = .ok (.newarray .boolean, 2) := by decide +kernel
theorem dX7_init_25 : decode cX7_init 25 = .ok (.putfield 16, 3) := by decide +kernel
theorem dX7_init_28 : decode cX7_init 28 = .ok (.aload_n 0, 1) := by decide +kernel
theorem dX7_init_29 : decode cX7_init 29 = .ok (.bipush 12, 2) := by decide +kernel
theorem dX7_init_31 : decode cX7_init 31 = .ok (.newarray .int, 2) := by decide +kernel
theorem dX7_init_33 : decode cX7_init 33 = .ok (.putfield 20, 3) := by decide +kernel
theorem dX7_init_36 : decode cX7_init 36 = .ok (.aload_n 0, 1) := by decide +kernel
theorem dX7_init_37 : decode cX7_init 37 = .ok (.bipush 12, 2) := by decide +kernel
theorem dX7_init_39 : decode cX7_init 39 = .ok (.newarray .int, 2) := by decide +kernel
theorem dX7_init_41 : decode cX7_init 41 = .ok (.putfield 23, 3) := by decide +kernel
theorem dX7_init_44 : decode cX7_init 44 = .ok (.aload_n 0, 1) := by decide +kernel
theorem dX7_init_45 : decode cX7_init 45 = .ok (.sipush 201, 3) := by decide +kernel
theorem dX7_init_48 : decode cX7_init 48 = .ok (.newarray .int, 2) := by decide +kernel
theorem dX7_init_50 : decode cX7_init 50 = .ok (.putfield 26, 3) := by decide +kernel
theorem dX7_init_53 : decode cX7_init 53 = .ok (.aload_n 0, 1) := by decide +kernel
theorem dX7_init_54 : decode cX7_init 54 = .ok (.sipush 201, 3) := by decide +kernel
theorem dX7_init_57 : decode cX7_init 57 = .ok (.newarray .int, 2) := by decide +kernel
theorem dX7_init_59 : decode cX7_init 59 = .ok (.putfield 29, 3) := by decide +kernel
theorem dX7_init_62 : decode cX7_init 62 = .ok (.aload_n 0, 1) := by decide +kernel
theorem dX7_init_63 : decode cX7_init 63 = .ok (.sipush 201, 3) := by decide +kernel
theorem dX7_init_66 : decode cX7_init 66 = .ok (.newarray .int, 2) := by decide +kernel
theorem dX7_init_68 : decode cX7_init 68 = .ok (.putfield 32, 3) := by decide +kernel
theorem dX7_init_71 : decode cX7_init 71 = .ok (.aload_n 0, 1) := by decide +kernel
theorem dX7_init_72 : decode cX7_init 72 = .ok (.sipush 2412, 3) := by decide +kernel
theorem dX7_init_75 : decode cX7_init 75 = .ok (.newarray .int, 2) := by decide +kernel
theorem dX7_init_77 : decode cX7_init 77 = .ok (.putfield 35, 3) := by decide +kernel
theorem dX7_init_80 : decode cX7_init 80 = .ok (.aload_n 0, 1) := by decide +kernel
theorem dX7_init_81 : decode cX7_init 81 = .ok (.sipush 201, 3) := by decide +kernel
theorem dX7_init_84 : decode cX7_init 84 = .ok (.newarray .int, 2) := by decide +kernel
theorem dX7_init_86 : decode cX7_init 86 = .ok (.putfield 38, 3) := by decide +kernel
theorem dX7_init_89 : decode cX7_init 89 = .ok (.aload_n 0, 1) := by decide +kernel
theorem dX7_init_90 : decode cX7_init 90 = .ok (.sipush 201, 3) := by decide +kernel
theorem dX7_init_93 : decode cX7_init 93 = .ok (.newarray .int, 2) := by decide +kernel
theorem dX7_init_95 : decode cX7_init 95 = .ok (.putfield 41, 3) := by decide +kernel
theorem dX7_init_98 : decode cX7_init 98 = .ok (.aload_n 0, 1) := by decide +kernel
theorem dX7_init_99 : decode cX7_init 99 = .ok (.ldc 44, 2) := by decide +kernel
theorem dX7_init_101 : decode cX7_init 101 = .ok (.newarray .int, 2) := by decide +kernel
theorem dX7_init_103 : decode cX7_init 103 = .ok (.putfield 45, 3) := by decide +kernel
theorem dX7_init_106 : decode cX7_init 106 = .ok (.aload_n 0, 1) := by decide +kernel
theorem dX7_init_107 : decode cX7_init 107 = .ok (.ldc 48, 2) := by decide +kernel
theorem dX7_init_109 : decode cX7_init 109 = .ok (.newarray .int, 2) := by decide +kernel
theorem dX7_init_111 : decode cX7_init 111 = .ok (.putfield 49, 3) := by decide +kernel
theorem dX7_init_114 : decode cX7_init 114 = .ok (.aload_n 0, 1) := by decide +kernel
theorem dX7_init_115 : decode cX7_init 115 = .ok (.ldc 48, 2) := by decide +kernel
theorem dX7_init_117 : decode cX7_init 117 = .ok (.newarray .int, 2) := by decide +kernel
theorem dX7_init_119 : decode cX7_init 119 = .ok (.putfield 52, 3) := by decide +kernel
theorem dX7_init_122 : decode cX7_init 122 = .ok (.aload_n 0, 1) := by decide +kernel
theorem dX7_init_123 : decode cX7_init 123 = .ok (.ldc 48, 2) := by decide +kernel
theorem dX7_init_125 : decode cX7_init 125 = .ok (.newarray .int, 2) := by decide +kernel
theorem dX7_init_127 : decode cX7_init 127 = .ok (.putfield 55, 3) := by decide +kernel
theorem dX7_init_130 : decode cX7_init 130 = .ok (.aload_n 0, 1) := by decide +kernel
theorem dX7_init_131 : decode cX7_init 131 = .ok (.iconst (-1), 1) := by decide +kernel
theorem dX7_init_132 : decode cX7_init 132 = .ok (.putfield 58, 3) := by decide +kernel
theorem dX7_init_135 : decode cX7_init 135 = .ok (.aload_n 0, 1) := by decide +kernel
theorem dX7_init_136 : decode cX7_init 136 = .ok (.sipush 600, 3) := by decide +kernel
theorem dX7_init_139 : decode cX7_init 139 = .ok (.newarray .int, 2) := by decide +kernel
theorem dX7_init_141 : decode cX7_init 141 = .ok (.putfield 62, 3) := by decide +kernel
theorem dX7_init_144 : decode cX7_init 144 = .ok (.aload_n 0, 1) := by decide +kernel
theorem dX7_init_145 : decode cX7_init 145 = .ok (.sipush 4096, 3) := by decide +kernel
theorem dX7_init_148 : decode cX7_init 148 = .ok (.newarray .int, 2) := by decide +kernel
theorem dX7_init_150 : decode cX7_init 150 = .ok (.putfield 65, 3) := by decide +kernel
theorem dX7_init_153 : decode cX7_init 153 = .ok (.return_, 1) := by decide +kernel
theorem dX7_isCave_0 : decode cX7_isCave 0 = .ok (.iload_n 1, 1) := by decide +kernel
theorem dX7_isCave_1 : decode cX7_isCave 1 = .ok (.ifCond .lt 15, 3) := by decide +kernel
theorem dX7_isCave_4 : decode cX7_isCave 4 = .ok (.iload_n 1, 1) := by decide +kernel
theorem dX7_isCave_5 : decode cX7_isCave 5 = .ok (.aload_n 0, 1) := by decide +kernel
theorem dX7_isCave_6 : decode cX7_isCave 6 = .ok (.getfield 68, 3) := by decide +kernel
theorem dX7_isCave_9 : decode cX7_isCave 9 = .ok (.if_icmp .ge 7, 3) := by decide +kernel
theorem dX7_isCave_12 : decode cX7_isCave 12 = .ok (.iconst 1, 1) := by decide +kernel
theorem dX7_isCave_13 : decode cX7_isCave 13 = .ok (.goto 4, 3) := by decide +kernel
theorem dX7_isCave_16 : decode cX7_isCave 16 = .ok (.iconst 0, 1) := by decide +kernel
theorem dX7_isCave_17 : decode cX7_isCave 17 = .ok (.ireturn, 1) := by decide +kernel
theorem dX7_isPassage_0 : decode cX7_isPassage 0 = .ok (.iload_n 1, 1) := by decide +kernel
theorem dX7_isPassage_1 : decode cX7_isPassage 1 = .ok (.ifCond .lt 22, 3) := by decide +kernel
theorem dX7_isPassage_4 : decode cX7_isPassage 4 = .ok (.iload_n 1, 1) := by decide +kernel
theorem dX7_isPassage_5 : decode cX7_isPassage 5 = .ok (.bipush 18, 2) := by decide +kernel
theorem dX7_isPassage_7 : decode cX7_isPassage 7 = .ok (.if_icmp .ge 16, 3) := by decide +kernel
theorem dX7_isPassage_10 : decode cX7_isPassage 10 = .ok (.aload_n 0, 1) := by decide +kernel
theorem dX7_isPassage_11 : decode cX7_isPassage 11 = .ok (.getfield 16, 3) := by decide +kernel
theorem dX7_isPassage_14 : decode cX7_isPassage 14 = .ok (.iload_n 1, 1) := by decide +kernel
theorem dX7_isPassage_15 : decode cX7_isPassage 15 = .ok (.baload, 1) := by decide +kernel
theorem dX7_isPassage_16 : decode cX7_isPassage 16 = .ok (.ifCond .eq 7, 3) := by decide +kernel
theorem dX7_isPassage_19 : decode cX7_isPassage 19 = .ok (.iconst 1, 1) := by decide +kernel
theorem dX7_isPassage_20 : decode cX7_isPassage 20 = .ok (.goto 4, 3) := by decide +kernel
theorem dX7_isPassage_23 : decode cX7_isPassage 23 = .ok (.iconst 0, 1) := by decide +kernel
theorem dX7_isPassage_24 : decode cX7_isPassage 24 = .ok (.ireturn, 1) := by decide +kernel
theorem dX7_isAt_0 : decode cX7_isAt 0 = .ok (.aload_n 0, 1) := by decide +kernel
theorem dX7_isAt_1 : decode cX7_isAt 1 = .ok (.getfield 16, 3) := by decide +kernel
theorem dX7_isAt_4 : decode cX7_isAt 4 = .ok (.iload_n 1, 1) := by decide +kernel
theorem dX7_isAt_5 : decode cX7_isAt 5 = .ok (.baload, 1) := by decide +kernel
theorem dX7_isAt_6 : decode cX7_isAt 6 = .ok (.ifCond .eq 27, 3) := by decide +kernel
theorem dX7_isAt_9 : decode cX7_isAt 9 = .ok (.aload_n 0, 1) := by decide +kernel
theorem dX7_isAt_10 : decode cX7_isAt 10 = .ok (.getfield 7, 3) := by decide +kernel
theorem dX7_isAt_13 : decode cX7_isAt 13 = .ok (.iload_n 1, 1) := by decide +kernel
theorem dX7_isAt_14 : decode cX7_isAt 14 = .ok (.iaload, 1) := by decide +kernel
theorem dX7_isAt_15 : decode cX7_isAt 15 = .ok (.iload_n 2, 1) := by decide +kernel
theorem dX7_isAt_16 : decode cX7_isAt 16 = .ok (.if_icmp .eq 13, 3) := by decide +kernel
theorem dX7_isAt_19 : decode cX7_isAt 19 = .ok (.aload_n 0, 1) := by decide +kernel
theorem dX7_isAt_20 : decode cX7_isAt 20 = .ok (.getfield 13, 3) := by decide +kernel
theorem dX7_isAt_23 : decode cX7_isAt 23 = .ok (.iload_n 1, 1) := by decide +kernel
theorem dX7_isAt_24 : decode cX7_isAt 24 = .ok (.iaload, 1) := by decide +kernel
theorem dX7_isAt_25 : decode cX7_isAt 25 = .ok (.iload_n 2, 1) := by decide +kernel
theorem dX7_isAt_26 : decode cX7_isAt 26 = .ok (.if_icmp .ne 7, 3) := by decide +kernel
theorem dX7_isAt_29 : decode cX7_isAt 29 = .ok (.iconst 1, 1) := by decide +kernel
theorem dX7_isAt_30 : decode cX7_isAt 30 = .ok (.goto 4, 3) := by decide +kernel
theorem dX7_isAt_33 : decode cX7_isAt 33 = .ok (.iconst 0, 1) := by decide +kernel
theorem dX7_isAt_34 : decode cX7_isAt 34 = .ok (.ireturn, 1) := by decide +kernel
theorem dX7_other_0 : decode cX7_other 0 = .ok (.aload_n 0, 1) := by decide +kernel
theorem dX7_other_1 : decode cX7_other 1 = .ok (.getfield 7, 3) := by decide +kernel
theorem dX7_other_4 : decode cX7_other 4 = .ok (.iload_n 1, 1) := by decide +kernel
theorem dX7_other_5 : decode cX7_other 5 = .ok (.iaload, 1) := by decide +kernel
theorem dX7_other_6 : decode cX7_other 6 = .ok (.iload_n 2, 1) := by decide +kernel
theorem dX7_other_7 : decode cX7_other 7 = .ok (.if_icmp .ne 12, 3) := by decide +kernel
theorem dX7_other_10 : decode cX7_other 10 = .ok (.aload_n 0, 1) := by decide +kernel
theorem dX7_other_11 : decode cX7_other 11 = .ok (.getfield 13, 3) := by decide +kernel
theorem dX7_other_14 : decode cX7_other 14 = .ok (.iload_n 1, 1) := by decide +kernel
theorem dX7_other_15 : decode cX7_other 15 = .ok (.iaload, 1) := by decide +kernel
theorem dX7_other_16 : decode cX7_other 16 = .ok (.goto 9, 3) := by decide +kernel
theorem dX7_other_19 : decode cX7_other 19 = .ok (.aload_n 0, 1) := by decide +kernel
theorem dX7_other_20 : decode cX7_other 20 = .ok (.getfield 7, 3) := by decide +kernel
theorem dX7_other_23 : decode cX7_other 23 = .ok (.iload_n 1, 1) := by decide +kernel
theorem dX7_other_24 : decode cX7_other 24 = .ok (.iaload, 1) := by decide +kernel
theorem dX7_other_25 : decode cX7_other 25 = .ok (.ireturn, 1) := by decide +kernel
theorem dX7_passages_0 : decode cX7_passages 0 = .ok (.iconst 0, 1) := by decide +kernel
theorem dX7_passages_1 : decode cX7_passages 1 = .ok (.istore_n 1, 1) := by decide +kernel
theorem dX7_passages_2 : decode cX7_passages 2 = .ok (.iconst 0, 1) := by decide +kernel
theorem dX7_passages_3 : decode cX7_passages 3 = .ok (.istore_n 2, 1) := by decide +kernel
theorem dX7_passages_4 : decode cX7_passages 4 = .ok (.iload_n 2, 1) := by decide +kernel
theorem dX7_passages_5 : decode cX7_passages 5 = .ok (.bipush 18, 2) := by decide +kernel
theorem dX7_passages_7 : decode cX7_passages 7 = .ok (.if_icmp .ge 26, 3) := by decide +kernel
theorem dX7_passages_10 : decode cX7_passages 10 = .ok (.iload_n 1, 1) := by decide +kernel
theorem dX7_passages_11 : decode cX7_passages 11 = .ok (.aload_n 0, 1) := by decide +kernel
theorem dX7_passages_12 : decode cX7_passages 12 = .ok (.getfield 16, 3) := by decide +kernel
theorem dX7_passages_15 : decode cX7_passages 15 = .ok (.iload_n 2, 1) := by decide +kernel
theorem dX7_passages_16 : decode cX7_passages 16 = .ok (.baload, 1) := by decide +kernel
theorem dX7_passages_17 : decode cX7_passages 17 = .ok (.ifCond .eq 7, 3) := by decide +kernel
theorem dX7_passages_20 : decode cX7_passages 20 = .ok (.iconst 1, 1) := by decide +kernel
theorem dX7_passages_21 : decode cX7_passages 21 = .ok (.goto 4, 3) := by decide +kernel
theorem dX7_passages_24 : decode cX7_passages 24 = .ok (.iconst 0, 1) := by decide +kernel
theorem dX7_passages_25 : decode cX7_passages 25 = .ok (.iadd, 1) := by decide +kernel
theorem dX7_passages_26 : decode cX7_passages 26 = .ok (.istore_n 1, 1) := by decide +kernel
theorem dX7_passages_27 : decode cX7_passages 27 = .ok (.iinc 2 1, 3) := by decide +kernel
theorem dX7_passages_30 : decode cX7_passages 30 = .ok (.goto (-26), 3) := by decide +kernel
theorem dX7_passages_33 : decode cX7_passages 33 = .ok (.iload_n 1, 1) := by decide +kernel
theorem dX7_passages_34 : decode cX7_passages 34 = .ok (.ireturn, 1) := by decide +kernel
theorem dX7_changes_0 : decode cX7_changes 0 = .ok (.aload_n 0, 1) := by decide +kernel
theorem dX7_changes_1 : decode cX7_changes 1 = .ok (.iconst (-1), 1) := by decide +kernel
theorem dX7_changes_2 : decode cX7_changes 2 = .ok (.putfield 58, 3) := by decide +kernel
theorem dX7_changes_5 : decode cX7_changes 5 = .ok (.aload_n 0, 1) := by decide +kernel
theorem dX7_changes_6 : decode cX7_changes 6 = .ok (.invokevirtual 71, 3) := by decide +kernel
theorem dX7_changes_9 : decode cX7_changes 9 = .ok (.return_, 1) := by decide +kernel
theorem dX7_caves_0 : decode cX7_caves 0 = .ok (.iload_n 1, 1) := by decide +kernel
theorem dX7_caves_1 : decode cX7_caves 1 = .ok (.ifCond .lt 9, 3) := by decide +kernel
theorem dX7_caves_4 : decode cX7_caves 4 = .ok (.iload_n 1, 1) := by decide +kernel
theorem dX7_caves_5 : decode cX7_caves 5 = .ok (.bipush 12, 2) := by decide +kernel
theorem dX7_caves_7 : decode cX7_caves 7 = .ok (.if_icmp .le 5, 3) := by decide +kernel
theorem dX7_caves_10 : decode cX7_caves 10 = .ok (.iconst 0, 1) := by decide +kernel
theorem dX7_caves_11 : decode cX7_caves 11 = .ok (.ireturn, 1) := by decide +kernel
theorem dX7_caves_12 : decode cX7_caves 12 = .ok (.aload_n 0, 1) := by decide +kernel
theorem dX7_caves_13 : decode cX7_caves 13 = .ok (.iload_n 1, 1) := by decide +kernel
theorem dX7_caves_14 : decode cX7_caves 14 = .ok (.putfield 68, 3) := by decide +kernel
theorem dX7_caves_17 : decode cX7_caves 17 = .ok (.aload_n 0, 1) := by decide +kernel
theorem dX7_caves_18 : decode cX7_caves 18 = .ok (.iconst 0, 1) := by decide +kernel
theorem dX7_caves_19 : decode cX7_caves 19 = .ok (.putfield 74, 3) := by decide +kernel
theorem dX7_caves_22 : decode cX7_caves 22 = .ok (.iconst 0, 1) := by decide +kernel
theorem dX7_caves_23 : decode cX7_caves 23 = .ok (.istore_n 2, 1) := by decide +kernel
theorem dX7_caves_24 : decode cX7_caves 24 = .ok (.iload_n 2, 1) := by decide +kernel
theorem dX7_caves_25 : decode cX7_caves 25 = .ok (.bipush 18, 2) := by decide +kernel
theorem dX7_caves_27 : decode cX7_caves 27 = .ok (.if_icmp .ge 16, 3) := by decide +kernel
theorem dX7_caves_30 : decode cX7_caves 30 = .ok (.aload_n 0, 1) := by decide +kernel
theorem dX7_caves_31 : decode cX7_caves 31 = .ok (.getfield 16, 3) := by decide +kernel
theorem dX7_caves_34 : decode cX7_caves 34 = .ok (.iload_n 2, 1) := by decide +kernel
theorem dX7_caves_35 : decode cX7_caves 35 = .ok (.iconst 0, 1) := by decide +kernel
theorem dX7_caves_36 : decode cX7_caves 36 = .ok (.bastore, 1) := by decide +kernel
theorem dX7_caves_37 : decode cX7_caves 37 = .ok (.iinc 2 1, 3) := by decide +kernel
theorem dX7_caves_40 : decode cX7_caves 40 = .ok (.goto (-16), 3) := by decide +kernel
theorem dX7_caves_43 : decode cX7_caves 43 = .ok (.iconst 0, 1) := by decide +kernel
theorem dX7_caves_44 : decode cX7_caves 44 = .ok (.istore_n 2, 1) := by decide +kernel
theorem dX7_caves_45 : decode cX7_caves 45 = .ok (.iload_n 2, 1) := by decide +kernel
theorem dX7_caves_46 : decode cX7_caves 46 = .ok (.bipush 12, 2) := by decide +kernel
theorem dX7_caves_48 : decode cX7_caves 48 = .ok (.if_icmp .ge 16, 3) := by decide +kernel
theorem dX7_caves_51 : decode cX7_caves 51 = .ok (.aload_n 0, 1) := by decide +kernel
theorem dX7_caves_52 : decode cX7_caves 52 = .ok (.getfield 20, 3) := by decide +kernel
theorem dX7_caves_55 : decode cX7_caves 55 = .ok (.iload_n 2, 1) := by decide +kernel
theorem dX7_caves_56 : decode cX7_caves 56 = .ok (.iload_n 2, 1) := by decide +kernel
theorem dX7_caves_57 : decode cX7_caves 57 = .ok (.iastore, 1) := by decide +kernel
theorem dX7_caves_58 : decode cX7_caves 58 = .ok (.iinc 2 1, 3) := by decide +kernel
theorem dX7_caves_61 : decode cX7_caves 61 = .ok (.goto (-16), 3) := by decide +kernel
theorem dX7_caves_64 : decode cX7_caves 64 = .ok (.aload_n 0, 1) := by decide +kernel
theorem dX7_caves_65 : decode cX7_caves 65 = .ok (.invokevirtual 77, 3) := by decide +kernel
theorem dX7_caves_68 : decode cX7_caves 68 = .ok (.iconst 1, 1) := by decide +kernel
theorem dX7_caves_69 : decode cX7_caves 69 = .ok (.ireturn, 1) := by decide +kernel
theorem dX7_passage_0 : decode cX7_passage 0 = .ok (.aload_n 0, 1) := by decide +kernel
theorem dX7_passage_1 : decode cX7_passage 1 = .ok (.iload_n 1, 1) := by decide +kernel
theorem dX7_passage_2 : decode cX7_passage 2 = .ok (.invokevirtual 80, 3) := by decide +kernel
theorem dX7_passage_5 : decode cX7_passage 5 = .ok (.ifCond .eq 16, 3) := by decide +kernel
theorem dX7_passage_8 : decode cX7_passage 8 = .ok (.aload_n 0, 1) := by decide +kernel
theorem dX7_passage_9 : decode cX7_passage 9 = .ok (.iload_n 2, 1) := by decide +kernel
theorem dX7_passage_10 : decode cX7_passage 10 = .ok (.invokevirtual 80, 3) := by decide +kernel
theorem dX7_passage_13 : decode cX7_passage 13 = .ok (.ifCond .eq 8, 3) := by decide +kernel
theorem dX7_passage_16 : decode cX7_passage 16 = .ok (.iload_n 1, 1) := by decide +kernel
theorem dX7_passage_17 : decode cX7_passage 17 = .ok (.iload_n 2, 1) := by decide +kernel
theorem dX7_passage_18 : decode cX7_passage 18 = .ok (.if_icmp .ne 5, 3) := by decide +kernel
theorem dX7_passage_21 : decode cX7_passage 21 = .ok (.iconst (-1), 1) := by decide +kernel
theorem dX7_passage_22 : decode cX7_passage 22 = .ok (.ireturn, 1) := by decide +kernel
theorem dX7_passage_23 : decode cX7_passage 23 = .ok (.iconst 0, 1) := by decide +kernel
theorem dX7_passage_24 : decode cX7_passage 24 = .ok (.istore_n 3, 1) := by decide +kernel
theorem dX7_passage_25 : decode cX7_passage 25 = .ok (.iload_n 3, 1) := by decide +kernel
theorem dX7_passage_26 : decode cX7_passage 26 = .ok (.bipush 18, 2) := by decide +kernel
theorem dX7_passage_28 : decode cX7_passage 28 = .ok (.if_icmp .ge 19, 3) := by decide +kernel
theorem dX7_passage_31 : decode cX7_passage 31 = .ok (.aload_n 0, 1) := by decide +kernel
theorem dX7_passage_32 : decode cX7_passage 32 = .ok (.getfield 16, 3) := by decide +kernel
theorem dX7_passage_35 : decode cX7_passage 35 = .ok (.iload_n 3, 1) := by decide +kernel
theorem dX7_passage_36 : decode cX7_passage 36 = .ok (.baload, 1) := by decide +kernel
theorem dX7_passage_37 : decode cX7_passage 37 = .ok (.ifCond .eq 10, 3) := by decide +kernel
theorem dX7_passage_40 : decode cX7_passage 40 = .ok (.iload_n 3, 1) := by decide +kernel
theorem dX7_passage_41 : decode cX7_passage 41 = .ok (.iconst 1, 1) := by decide +kernel
theorem dX7_passage_42 : decode cX7_passage 42 = .ok (.iadd, 1) := by decide +kernel
end
section
theorem dX7_passage_43 : decode cX7_passage 43 = .ok (.istore_n 3, 1) := by decide +kernel
theorem dX7_passage_44 : decode cX7_passage 44 = .ok (.goto (-19), 3) := by decide +kernel
theorem dX7_passage_47 : decode cX7_passage 47 = .ok (.iload_n 3, 1) := by decide +kernel
theorem dX7_passage_48 : decode cX7_passage 48 = .ok (.bipush 18, 2) := by decide +kernel
theorem dX7_passage_50 : decode cX7_passage 50 = .ok (.if_icmp .ne 5, 3) := by decide +kernel
theorem dX7_passage_53 : decode cX7_passage 53 = .ok (.iconst (-1), 1) := by decide +kernel
theorem dX7_passage_54 : decode cX7_passage 54 = .ok (.ireturn, 1) := by decide +kernel
theorem dX7_passage_55 : decode cX7_passage 55 = .ok (.aload_n 0, 1) := by decide +kernel
theorem dX7_passage_56 : decode cX7_passage 56 = .ok (.getfield 16, 3) := by decide +kernel
theorem dX7_passage_59 : decode cX7_passage 59 = .ok (.iload_n 3, 1) := by decide +kernel
theorem dX7_passage_60 : decode cX7_passage 60 = .ok (.iconst 1, 1) := by decide +kernel
theorem dX7_passage_61 : decode cX7_passage 61 = .ok (.bastore, 1) := by decide +kernel
theorem dX7_passage_62 : decode cX7_passage 62 = .ok (.aload_n 0, 1) := by decide +kernel
theorem dX7_passage_63 : decode cX7_passage 63 = .ok (.getfield 7, 3) := by decide +kernel
theorem dX7_passage_66 : decode cX7_passage 66 = .ok (.iload_n 3, 1) := by decide +kernel
theorem dX7_passage_67 : decode cX7_passage 67 = .ok (.iload_n 1, 1) := by decide +kernel
theorem dX7_passage_68 : decode cX7_passage 68 = .ok (.iload_n 2, 1) := by decide +kernel
theorem dX7_passage_69 : decode cX7_passage 69 = .ok (.if_icmp .ge 7, 3) := by decide +kernel
theorem dX7_passage_72 : decode cX7_passage 72 = .ok (.iload_n 1, 1) := by decide +kernel
theorem dX7_passage_73 : decode cX7_passage 73 = .ok (.goto 4, 3) := by decide +kernel
theorem dX7_passage_76 : decode cX7_passage 76 = .ok (.iload_n 2, 1) := by decide +kernel
theorem dX7_passage_77 : decode cX7_passage 77 = .ok (.iastore, 1) := by decide +kernel
theorem dX7_passage_78 : decode cX7_passage 78 = .ok (.aload_n 0, 1) := by decide +kernel
theorem dX7_passage_79 : decode cX7_passage 79 = .ok (.getfield 13, 3) := by decide +kernel
theorem dX7_passage_82 : decode cX7_passage 82 = .ok (.iload_n 3, 1) := by decide +kernel
theorem dX7_passage_83 : decode cX7_passage 83 = .ok (.iload_n 1, 1) := by decide +kernel
theorem dX7_passage_84 : decode cX7_passage 84 = .ok (.iload_n 2, 1) := by decide +kernel
theorem dX7_passage_85 : decode cX7_passage 85 = .ok (.if_icmp .ge 7, 3) := by decide +kernel
theorem dX7_passage_88 : decode cX7_passage 88 = .ok (.iload_n 2, 1) := by decide +kernel
theorem dX7_passage_89 : decode cX7_passage 89 = .ok (.goto 4, 3) := by decide +kernel
theorem dX7_passage_92 : decode cX7_passage 92 = .ok (.iload_n 1, 1) := by decide +kernel
theorem dX7_passage_93 : decode cX7_passage 93 = .ok (.iastore, 1) := by decide +kernel
theorem dX7_passage_94 : decode cX7_passage 94 = .ok (.aload_n 0, 1) := by decide +kernel
theorem dX7_passage_95 : decode cX7_passage 95 = .ok (.invokevirtual 77, 3) := by decide +kernel
theorem dX7_passage_98 : decode cX7_passage 98 = .ok (.iload_n 3, 1) := by decide +kernel
theorem dX7_passage_99 : decode cX7_passage 99 = .ok (.ireturn, 1) := by decide +kernel
theorem dX7_drop_0 : decode cX7_drop 0 = .ok (.aload_n 0, 1) := by decide +kernel
theorem dX7_drop_1 : decode cX7_drop 1 = .ok (.iload_n 1, 1) := by decide +kernel
theorem dX7_drop_2 : decode cX7_drop 2 = .ok (.invokevirtual 84, 3) := by decide +kernel
theorem dX7_drop_5 : decode cX7_drop 5 = .ok (.ifCond .ne 5, 3) := by decide +kernel
theorem dX7_drop_8 : decode cX7_drop 8 = .ok (.iconst 0, 1) := by decide +kernel
theorem dX7_drop_9 : decode cX7_drop 9 = .ok (.ireturn, 1) := by decide +kernel
theorem dX7_drop_10 : decode cX7_drop 10 = .ok (.aload_n 0, 1) := by decide +kernel
theorem dX7_drop_11 : decode cX7_drop 11 = .ok (.getfield 16, 3) := by decide +kernel
theorem dX7_drop_14 : decode cX7_drop 14 = .ok (.iload_n 1, 1) := by decide +kernel
theorem dX7_drop_15 : decode cX7_drop 15 = .ok (.iconst 0, 1) := by decide +kernel
theorem dX7_drop_16 : decode cX7_drop 16 = .ok (.bastore, 1) := by decide +kernel
theorem dX7_drop_17 : decode cX7_drop 17 = .ok (.aload_n 0, 1) := by decide +kernel
theorem dX7_drop_18 : decode cX7_drop 18 = .ok (.invokevirtual 77, 3) := by decide +kernel
theorem dX7_drop_21 : decode cX7_drop 21 = .ok (.iconst 1, 1) := by decide +kernel
theorem dX7_drop_22 : decode cX7_drop 22 = .ok (.ireturn, 1) := by decide +kernel
theorem dX7_mouth_0 : decode cX7_mouth 0 = .ok (.aload_n 0, 1) := by decide +kernel
theorem dX7_mouth_1 : decode cX7_mouth 1 = .ok (.iload_n 1, 1) := by decide +kernel
theorem dX7_mouth_2 : decode cX7_mouth 2 = .ok (.invokevirtual 80, 3) := by decide +kernel
theorem dX7_mouth_5 : decode cX7_mouth 5 = .ok (.ifCond .ne 5, 3) := by decide +kernel
theorem dX7_mouth_8 : decode cX7_mouth 8 = .ok (.iconst 0, 1) := by decide +kernel
theorem dX7_mouth_9 : decode cX7_mouth 9 = .ok (.ireturn, 1) := by decide +kernel
theorem dX7_mouth_10 : decode cX7_mouth 10 = .ok (.aload_n 0, 1) := by decide +kernel
theorem dX7_mouth_11 : decode cX7_mouth 11 = .ok (.iload_n 1, 1) := by decide +kernel
theorem dX7_mouth_12 : decode cX7_mouth 12 = .ok (.putfield 74, 3) := by decide +kernel
theorem dX7_mouth_15 : decode cX7_mouth 15 = .ok (.iconst 1, 1) := by decide +kernel
theorem dX7_mouth_16 : decode cX7_mouth 16 = .ok (.ireturn, 1) := by decide +kernel
theorem dX7_pieces_0 : decode cX7_pieces 0 = .ok (.iconst 1, 1) := by decide +kernel
theorem dX7_pieces_1 : decode cX7_pieces 1 = .ok (.aload_n 0, 1) := by decide +kernel
theorem dX7_pieces_2 : decode cX7_pieces 2 = .ok (.getfield 68, 3) := by decide +kernel
theorem dX7_pieces_5 : decode cX7_pieces 5 = .ok (.ishl, 1) := by decide +kernel
theorem dX7_pieces_6 : decode cX7_pieces 6 = .ok (.iconst 1, 1) := by decide +kernel
theorem dX7_pieces_7 : decode cX7_pieces 7 = .ok (.isub, 1) := by decide +kernel
theorem dX7_pieces_8 : decode cX7_pieces 8 = .ok (.istore_n 1, 1) := by decide +kernel
theorem dX7_pieces_9 : decode cX7_pieces 9 = .ok (.iconst 0, 1) := by decide +kernel
theorem dX7_pieces_10 : decode cX7_pieces 10 = .ok (.istore_n 2, 1) := by decide +kernel
theorem dX7_pieces_11 : decode cX7_pieces 11 = .ok (.iload_n 1, 1) := by decide +kernel
theorem dX7_pieces_12 : decode cX7_pieces 12 = .ok (.ifCond .eq 40, 3) := by decide +kernel
theorem dX7_pieces_15 : decode cX7_pieces 15 = .ok (.iconst 0, 1) := by decide +kernel
theorem dX7_pieces_16 : decode cX7_pieces 16 = .ok (.istore_n 3, 1) := by decide +kernel
theorem dX7_pieces_17 : decode cX7_pieces 17 = .ok (.iload_n 1, 1) := by decide +kernel
theorem dX7_pieces_18 : decode cX7_pieces 18 = .ok (.iload_n 3, 1) := by decide +kernel
theorem dX7_pieces_19 : decode cX7_pieces 19 = .ok (.ishr, 1) := by decide +kernel
theorem dX7_pieces_20 : decode cX7_pieces 20 = .ok (.iconst 1, 1) := by decide +kernel
theorem dX7_pieces_21 : decode cX7_pieces 21 = .ok (.iand, 1) := by decide +kernel
theorem dX7_pieces_22 : decode cX7_pieces 22 = .ok (.ifCond .ne 10, 3) := by decide +kernel
theorem dX7_pieces_25 : decode cX7_pieces 25 = .ok (.iload_n 3, 1) := by decide +kernel
theorem dX7_pieces_26 : decode cX7_pieces 26 = .ok (.iconst 1, 1) := by decide +kernel
theorem dX7_pieces_27 : decode cX7_pieces 27 = .ok (.iadd, 1) := by decide +kernel
theorem dX7_pieces_28 : decode cX7_pieces 28 = .ok (.istore_n 3, 1) := by decide +kernel
theorem dX7_pieces_29 : decode cX7_pieces 29 = .ok (.goto (-12), 3) := by decide +kernel
theorem dX7_pieces_32 : decode cX7_pieces 32 = .ok (.iload_n 1, 1) := by decide +kernel
theorem dX7_pieces_33 : decode cX7_pieces 33 = .ok (.aload_n 0, 1) := by decide +kernel
theorem dX7_pieces_34 : decode cX7_pieces 34 = .ok (.iconst 1, 1) := by decide +kernel
theorem dX7_pieces_35 : decode cX7_pieces 35 = .ok (.iload_n 3, 1) := by decide +kernel
theorem dX7_pieces_36 : decode cX7_pieces 36 = .ok (.ishl, 1) := by decide +kernel
theorem dX7_pieces_37 : decode cX7_pieces 37 = .ok (.iconst (-1), 1) := by decide +kernel
theorem dX7_pieces_38 : decode cX7_pieces 38 = .ok (.invokevirtual 87, 3) := by decide +kernel
theorem dX7_pieces_41 : decode cX7_pieces 41 = .ok (.iconst (-1), 1) := by decide +kernel
theorem dX7_pieces_42 : decode cX7_pieces 42 = .ok (.ixor, 1) := by decide +kernel
theorem dX7_pieces_43 : decode cX7_pieces 43 = .ok (.iand, 1) := by decide +kernel
theorem dX7_pieces_44 : decode cX7_pieces 44 = .ok (.istore_n 1, 1) := by decide +kernel
theorem dX7_pieces_45 : decode cX7_pieces 45 = .ok (.iload_n 2, 1) := by decide +kernel
theorem dX7_pieces_46 : decode cX7_pieces 46 = .ok (.iconst 1, 1) := by decide +kernel
theorem dX7_pieces_47 : decode cX7_pieces 47 = .ok (.iadd, 1) := by decide +kernel
theorem dX7_pieces_48 : decode cX7_pieces 48 = .ok (.istore_n 2, 1) := by decide +kernel
theorem dX7_pieces_49 : decode cX7_pieces 49 = .ok (.goto (-38), 3) := by decide +kernel
theorem dX7_pieces_52 : decode cX7_pieces 52 = .ok (.iload_n 2, 1) := by decide +kernel
theorem dX7_pieces_53 : decode cX7_pieces 53 = .ok (.ireturn, 1) := by decide +kernel
theorem dX7_reached_0 : decode cX7_reached 0 = .ok (.iload_n 1, 1) := by decide +kernel
theorem dX7_reached_1 : decode cX7_reached 1 = .ok (.istore_n 3, 1) := by decide +kernel
theorem dX7_reached_2 : decode cX7_reached 2 = .ok (.iconst 1, 1) := by decide +kernel
theorem dX7_reached_3 : decode cX7_reached 3 = .ok (.istore 4, 2) := by decide +kernel
theorem dX7_reached_5 : decode cX7_reached 5 = .ok (.iload 4, 2) := by decide +kernel
theorem dX7_reached_7 : decode cX7_reached 7 = .ok (.ifCond .eq 112, 3) := by decide +kernel
theorem dX7_reached_10 : decode cX7_reached 10 = .ok (.iload_n 3, 1) := by decide +kernel
theorem dX7_reached_11 : decode cX7_reached 11 = .ok (.istore 5, 2) := by decide +kernel
theorem dX7_reached_13 : decode cX7_reached 13 = .ok (.iconst 0, 1) := by decide +kernel
theorem dX7_reached_14 : decode cX7_reached 14 = .ok (.istore 6, 2) := by decide +kernel
theorem dX7_reached_16 : decode cX7_reached 16 = .ok (.iload 6, 2) := by decide +kernel
theorem dX7_reached_18 : decode cX7_reached 18 = .ok (.bipush 18, 2) := by decide +kernel
theorem dX7_reached_20 : decode cX7_reached 20 = .ok (.if_icmp .ge 83, 3) := by decide +kernel
theorem dX7_reached_23 : decode cX7_reached 23 = .ok (.aload_n 0, 1) := by decide +kernel
theorem dX7_reached_24 : decode cX7_reached 24 = .ok (.getfield 16, 3) := by decide +kernel
theorem dX7_reached_27 : decode cX7_reached 27 = .ok (.iload 6, 2) := by decide +kernel
theorem dX7_reached_29 : decode cX7_reached 29 = .ok (.baload, 1) := by decide +kernel
theorem dX7_reached_30 : decode cX7_reached 30 = .ok (.ifCond .eq 67, 3) := by decide +kernel
theorem dX7_reached_33 : decode cX7_reached 33 = .ok (.iload_n 2, 1) := by decide +kernel
theorem dX7_reached_34 : decode cX7_reached 34 = .ok (.iload 6, 2) := by decide +kernel
theorem dX7_reached_36 : decode cX7_reached 36 = .ok (.ishr, 1) := by decide +kernel
theorem dX7_reached_37 : decode cX7_reached 37 = .ok (.iconst 1, 1) := by decide +kernel
theorem dX7_reached_38 : decode cX7_reached 38 = .ok (.iand, 1) := by decide +kernel
theorem dX7_reached_39 : decode cX7_reached 39 = .ok (.ifCond .ne 6, 3) := by decide +kernel
theorem dX7_reached_42 : decode cX7_reached 42 = .ok (.goto 55, 3) := by decide +kernel
theorem dX7_reached_45 : decode cX7_reached 45 = .ok (.iload_n 3, 1) := by decide +kernel
theorem dX7_reached_46 : decode cX7_reached 46 = .ok (.aload_n 0, 1) := by decide +kernel
theorem dX7_reached_47 : decode cX7_reached 47 = .ok (.getfield 7, 3) := by decide +kernel
theorem dX7_reached_50 : decode cX7_reached 50 = .ok (.iload 6, 2) := by decide +kernel
theorem dX7_reached_52 : decode cX7_reached 52 = .ok (.iaload, 1) := by decide +kernel
theorem dX7_reached_53 : decode cX7_reached 53 = .ok (.ishr, 1) := by decide +kernel
theorem dX7_reached_54 : decode cX7_reached 54 = .ok (.iconst 1, 1) := by decide +kernel
theorem dX7_reached_55 : decode cX7_reached 55 = .ok (.iand, 1) := by decide +kernel
theorem dX7_reached_56 : decode cX7_reached 56 = .ok (.iconst 1, 1) := by decide +kernel
theorem dX7_reached_57 : decode cX7_reached 57 = .ok (.if_icmp .eq 18, 3) := by decide +kernel
theorem dX7_reached_60 : decode cX7_reached 60 = .ok (.iload_n 3, 1) := by decide +kernel
theorem dX7_reached_61 : decode cX7_reached 61 = .ok (.aload_n 0, 1) := by decide +kernel
theorem dX7_reached_62 : decode cX7_reached 62 = .ok (.getfield 13, 3) := by decide +kernel
theorem dX7_reached_65 : decode cX7_reached 65 = .ok (.iload 6, 2) := by decide +kernel
theorem dX7_reached_67 : decode cX7_reached 67 = .ok (.iaload, 1) := by decide +kernel
theorem dX7_reached_68 : decode cX7_reached 68 = .ok (.ishr, 1) := by decide +kernel
theorem dX7_reached_69 : decode cX7_reached 69 = .ok (.iconst 1, 1) := by decide +kernel
theorem dX7_reached_70 : decode cX7_reached 70 = .ok (.iand, 1) := by decide +kernel
theorem dX7_reached_71 : decode cX7_reached 71 = .ok (.iconst 1, 1) := by decide +kernel
theorem dX7_reached_72 : decode cX7_reached 72 = .ok (.if_icmp .ne 25, 3) := by decide +kernel
theorem dX7_reached_75 : decode cX7_reached 75 = .ok (.iload_n 3, 1) := by decide +kernel
theorem dX7_reached_76 : decode cX7_reached 76 = .ok (.iconst 1, 1) := by decide +kernel
theorem dX7_reached_77 : decode cX7_reached 77 = .ok (.aload_n 0, 1) := by decide +kernel
theorem dX7_reached_78 : decode cX7_reached 78 = .ok (.getfield 7, 3) := by decide +kernel
theorem dX7_reached_81 : decode cX7_reached 81 = .ok (.iload 6, 2) := by decide +kernel
theorem dX7_reached_83 : decode cX7_reached 83 = .ok (.iaload, 1) := by decide +kernel
theorem dX7_reached_84 : decode cX7_reached 84 = .ok (.ishl, 1) := by decide +kernel
theorem dX7_reached_85 : decode cX7_reached 85 = .ok (.ior, 1) := by decide +kernel
theorem dX7_reached_86 : decode cX7_reached 86 = .ok (.iconst 1, 1) := by decide +kernel
theorem dX7_reached_87 : decode cX7_reached 87 = .ok (.aload_n 0, 1) := by decide +kernel
theorem dX7_reached_88 : decode cX7_reached 88 = .ok (.getfield 13, 3) := by decide +kernel
theorem dX7_reached_91 : decode cX7_reached 91 = .ok (.iload 6, 2) := by decide +kernel
theorem dX7_reached_93 : decode cX7_reached 93 = .ok (.iaload, 1) := by decide +kernel
theorem dX7_reached_94 : decode cX7_reached 94 = .ok (.ishl, 1) := by decide +kernel
theorem dX7_reached_95 : decode cX7_reached 95 = .ok (.ior, 1) := by decide +kernel
theorem dX7_reached_96 : decode cX7_reached 96 = .ok (.istore_n 3, 1) := by decide +kernel
theorem dX7_reached_97 : decode cX7_reached 97 = .ok (.iinc 6 1, 3) := by decide +kernel
theorem dX7_reached_100 : decode cX7_reached 100 = .ok (.goto (-84), 3) := by decide +kernel
theorem dX7_reached_103 : decode cX7_reached 103 = .ok (.iload_n 3, 1) := by decide +kernel
theorem dX7_reached_104 : decode cX7_reached 104 = .ok (.iload 5, 2) := by decide +kernel
theorem dX7_reached_106 : decode cX7_reached 106 = .ok (.if_icmp .eq 7, 3) := by decide +kernel
theorem dX7_reached_109 : decode cX7_reached 109 = .ok (.iconst 1, 1) := by decide +kernel
theorem dX7_reached_110 : decode cX7_reached 110 = .ok (.goto 4, 3) := by decide +kernel
theorem dX7_reached_113 : decode cX7_reached 113 = .ok (.iconst 0, 1) := by decide +kernel
theorem dX7_reached_114 : decode cX7_reached 114 = .ok (.istore 4, 2) := by decide +kernel
theorem dX7_reached_116 : decode cX7_reached 116 = .ok (.goto (-111), 3) := by decide +kernel
theorem dX7_reached_119 : decode cX7_reached 119 = .ok (.iload_n 3, 1) := by decide +kernel
theorem dX7_reached_120 : decode cX7_reached 120 = .ok (.ireturn, 1) := by decide +kernel
theorem dX7_begins_0 : decode cX7_begins 0 = .ok (.iconst 0, 1) := by decide +kernel
theorem dX7_begins_1 : decode cX7_begins 1 = .ok (.istore_n 1, 1) := by decide +kernel
theorem dX7_begins_2 : decode cX7_begins 2 = .ok (.iload_n 1, 1) := by decide +kernel
theorem dX7_begins_3 : decode cX7_begins 3 = .ok (.bipush 12, 2) := by decide +kernel
theorem dX7_begins_5 : decode cX7_begins 5 = .ok (.if_icmp .ge 16, 3) := by decide +kernel
theorem dX7_begins_8 : decode cX7_begins 8 = .ok (.aload_n 0, 1) := by decide +kernel
theorem dX7_begins_9 : decode cX7_begins 9 = .ok (.getfield 23, 3) := by decide +kernel
theorem dX7_begins_12 : decode cX7_begins 12 = .ok (.iload_n 1, 1) := by decide +kernel
theorem dX7_begins_13 : decode cX7_begins 13 = .ok (.iconst 0, 1) := by decide +kernel
theorem dX7_begins_14 : decode cX7_begins 14 = .ok (.iastore, 1) := by decide +kernel
theorem dX7_begins_15 : decode cX7_begins 15 = .ok (.iinc 1 1, 3) := by decide +kernel
theorem dX7_begins_18 : decode cX7_begins 18 = .ok (.goto (-16), 3) := by decide +kernel
theorem dX7_begins_21 : decode cX7_begins 21 = .ok (.aload_n 0, 1) := by decide +kernel
theorem dX7_begins_22 : decode cX7_begins 22 = .ok (.iconst 1, 1) := by decide +kernel
theorem dX7_begins_23 : decode cX7_begins 23 = .ok (.aload_n 0, 1) := by decide +kernel
theorem dX7_begins_24 : decode cX7_begins 24 = .ok (.getfield 68, 3) := by decide +kernel
theorem dX7_begins_27 : decode cX7_begins 27 = .ok (.ishl, 1) := by decide +kernel
theorem dX7_begins_28 : decode cX7_begins 28 = .ok (.iconst 1, 1) := by decide +kernel
theorem dX7_begins_29 : decode cX7_begins 29 = .ok (.isub, 1) := by decide +kernel
theorem dX7_begins_30 : decode cX7_begins 30 = .ok (.putfield 91, 3) := by decide +kernel
theorem dX7_begins_33 : decode cX7_begins 33 = .ok (.aload_n 0, 1) := by decide +kernel
theorem dX7_begins_34 : decode cX7_begins 34 = .ok (.iconst 0, 1) := by decide +kernel
theorem dX7_begins_35 : decode cX7_begins 35 = .ok (.putfield 94, 3) := by decide +kernel
theorem dX7_begins_38 : decode cX7_begins 38 = .ok (.iconst 0, 1) := by decide +kernel
theorem dX7_begins_39 : decode cX7_begins 39 = .ok (.istore_n 1, 1) := by decide +kernel
theorem dX7_begins_40 : decode cX7_begins 40 = .ok (.iload_n 1, 1) := by decide +kernel
theorem dX7_begins_41 : decode cX7_begins 41 = .ok (.bipush 18, 2) := by decide +kernel
theorem dX7_begins_43 : decode cX7_begins 43 = .ok (.if_icmp .ge 30, 3) := by decide +kernel
theorem dX7_begins_46 : decode cX7_begins 46 = .ok (.aload_n 0, 1) := by decide +kernel
theorem dX7_begins_47 : decode cX7_begins 47 = .ok (.getfield 16, 3) := by decide +kernel
theorem dX7_begins_50 : decode cX7_begins 50 = .ok (.iload_n 1, 1) := by decide +kernel
theorem dX7_begins_51 : decode cX7_begins 51 = .ok (.baload, 1) := by decide +kernel
theorem dX7_begins_52 : decode cX7_begins 52 = .ok (.ifCond .eq 15, 3) := by decide +kernel
theorem dX7_begins_55 : decode cX7_begins 55 = .ok (.aload_n 0, 1) := by decide +kernel
theorem dX7_begins_56 : decode cX7_begins 56 = .ok (.aload_n 0, 1) := by decide +kernel
theorem dX7_begins_57 : decode cX7_begins 57 = .ok (.getfield 94, 3) := by decide +kernel
theorem dX7_begins_60 : decode cX7_begins 60 = .ok (.iconst 1, 1) := by decide +kernel
theorem dX7_begins_61 : decode cX7_begins 61 = .ok (.iload_n 1, 1) := by decide +kernel
theorem dX7_begins_62 : decode cX7_begins 62 = .ok (.ishl, 1) := by decide +kernel
theorem dX7_begins_63 : decode cX7_begins 63 = .ok (.ior, 1) := by decide +kernel
theorem dX7_begins_64 : decode cX7_begins 64 = .ok (.putfield 94, 3) := by decide +kernel
theorem dX7_begins_67 : decode cX7_begins 67 = .ok (.iinc 1 1, 3) := by decide +kernel
theorem dX7_begins_70 : decode cX7_begins 70 = .ok (.goto (-30), 3) := by decide +kernel
theorem dX7_begins_73 : decode cX7_begins 73 = .ok (.return_, 1) := by decide +kernel
theorem dX7_below_0 : decode cX7_below 0 = .ok (.iconst 0, 1) := by decide +kernel
theorem dX7_below_1 : decode cX7_below 1 = .ok (.istore_n 1, 1) := by decide +kernel
theorem dX7_below_2 : decode cX7_below 2 = .ok (.iconst 0, 1) := by decide +kernel
theorem dX7_below_3 : decode cX7_below 3 = .ok (.istore_n 2, 1) := by decide +kernel
theorem dX7_below_4 : decode cX7_below 4 = .ok (.iload_n 2, 1) := by decide +kernel
theorem dX7_below_5 : decode cX7_below 5 = .ok (.aload_n 0, 1) := by decide +kernel
theorem dX7_below_6 : decode cX7_below 6 = .ok (.getfield 68, 3) := by decide +kernel
theorem dX7_below_9 : decode cX7_below 9 = .ok (.if_icmp .ge 18, 3) := by decide +kernel
theorem dX7_below_12 : decode cX7_below 12 = .ok (.iload_n 1, 1) := by decide +kernel
theorem dX7_below_13 : decode cX7_below 13 = .ok (.aload_n 0, 1) := by decide +kernel
theorem dX7_below_14 : decode cX7_below 14 = .ok (.getfield 23, 3) := by decide +kernel
theorem dX7_below_17 : decode cX7_below 17 = .ok (.iload_n 2, 1) := by decide +kernel
theorem dX7_below_18 : decode cX7_below 18 = .ok (.iaload, 1) := by decide +kernel
theorem dX7_below_19 : decode cX7_below 19 = .ok (.iadd, 1) := by decide +kernel
theorem dX7_below_20 : decode cX7_below 20 = .ok (.istore_n 1, 1) := by decide +kernel
theorem dX7_below_21 : decode cX7_below 21 = .ok (.iinc 2 1, 3) := by decide +kernel
theorem dX7_below_24 : decode cX7_below 24 = .ok (.goto (-20), 3) := by decide +kernel
theorem dX7_below_27 : decode cX7_below 27 = .ok (.iload_n 1, 1) := by decide +kernel
theorem dX7_below_28 : decode cX7_below 28 = .ok (.ireturn, 1) := by decide +kernel
theorem dX7_spreads_0 : decode cX7_spreads 0 = .ok (.iconst 1, 1) := by decide +kernel
theorem dX7_spreads_1 : decode cX7_spreads 1 = .ok (.istore_n 1, 1) := by decide +kernel
theorem dX7_spreads_2 : decode cX7_spreads 2 = .ok (.iload_n 1, 1) := by decide +kernel
theorem dX7_spreads_3 : decode cX7_spreads 3 = .ok (.ifCond .eq 255, 3) := by decide +kernel
theorem dX7_spreads_6 : decode cX7_spreads 6 = .ok (.aload_n 0, 1) := by decide +kernel
theorem dX7_spreads_7 : decode cX7_spreads 7 = .ok (.getfield 94, 3) := by decide +kernel
theorem dX7_spreads_10 : decode cX7_spreads 10 = .ok (.istore_n 2, 1) := by decide +kernel
theorem dX7_spreads_11 : decode cX7_spreads 11 = .ok (.aload_n 0, 1) := by decide +kernel
theorem dX7_spreads_12 : decode cX7_spreads 12 = .ok (.getfield 91, 3) := by decide +kernel
theorem dX7_spreads_15 : decode cX7_spreads 15 = .ok (.istore_n 3, 1) := by decide +kernel
theorem dX7_spreads_16 : decode cX7_spreads 16 = .ok (.iconst 0, 1) := by decide +kernel
theorem dX7_spreads_17 : decode cX7_spreads 17 = .ok (.istore 4, 2) := by decide +kernel
theorem dX7_spreads_19 : decode cX7_spreads 19 = .ok (.iload 4, 2) := by decide +kernel
theorem dX7_spreads_21 : decode cX7_spreads 21 = .ok (.aload_n 0, 1) := by decide +kernel
theorem dX7_spreads_22 : decode cX7_spreads 22 = .ok (.getfield 68, 3) := by decide +kernel
theorem dX7_spreads_25 : decode cX7_spreads 25 = .ok (.if_icmp .ge 34, 3) := by decide +kernel
theorem dX7_spreads_28 : decode cX7_spreads 28 = .ok (.aload_n 0, 1) := by decide +kernel
theorem dX7_spreads_29 : decode cX7_spreads 29 = .ok (.getfield 23, 3) := by decide +kernel
theorem dX7_spreads_32 : decode cX7_spreads 32 = .ok (.iload 4, 2) := by decide +kernel
theorem dX7_spreads_34 : decode cX7_spreads 34 = .ok (.iaload, 1) := by decide +kernel
theorem dX7_spreads_35 : decode cX7_spreads 35 = .ok (.ifCond .le 18, 3) := by decide +kernel
theorem dX7_spreads_38 : decode cX7_spreads 38 = .ok (.aload_n 0, 1) := by decide +kernel
theorem dX7_spreads_39 : decode cX7_spreads 39 = .ok (.aload_n 0, 1) := by decide +kernel
theorem dX7_spreads_40 : decode cX7_spreads 40 = .ok (.getfield 91, 3) := by decide +kernel
theorem dX7_spreads_43 : decode cX7_spreads 43 = .ok (.iconst 1, 1) := by decide +kernel
theorem dX7_spreads_44 : decode cX7_spreads 44 = .ok (.iload 4, 2) := by decide +kernel
theorem dX7_spreads_46 : decode cX7_spreads 46 = .ok (.ishl, 1) := by decide +kernel
theorem dX7_spreads_47 : decode cX7_spreads 47 = .ok (.iconst (-1), 1) := by decide +kernel
theorem dX7_spreads_48 : decode cX7_spreads 48 = .ok (.ixor, 1) := by decide +kernel
theorem dX7_spreads_49 : decode cX7_spreads 49 = .ok (.iand, 1) := by decide +kernel
theorem dX7_spreads_50 : decode cX7_spreads 50 = .ok (.putfield 91, 3) := by decide +kernel
theorem dX7_spreads_53 : decode cX7_spreads 53 = .ok (.iinc 4 1, 3) := by decide +kernel
theorem dX7_spreads_56 : decode cX7_spreads 56 = .ok (.goto (-37), 3) := by decide +kernel
theorem dX7_spreads_59 : decode cX7_spreads 59 = .ok (.iconst 0, 1) := by decide +kernel
theorem dX7_spreads_60 : decode cX7_spreads 60 = .ok (.istore 4, 2) := by decide +kernel
theorem dX7_spreads_62 : decode cX7_spreads 62 = .ok (.iload 4, 2) := by decide +kernel
theorem dX7_spreads_64 : decode cX7_spreads 64 = .ok (.bipush 18, 2) := by decide +kernel
theorem dX7_spreads_66 : decode cX7_spreads 66 = .ok (.if_icmp .ge 167, 3) := by decide +kernel
theorem dX7_spreads_69 : decode cX7_spreads 69 = .ok (.aload_n 0, 1) := by decide +kernel
theorem dX7_spreads_70 : decode cX7_spreads 70 = .ok (.getfield 16, 3) := by decide +kernel
theorem dX7_spreads_73 : decode cX7_spreads 73 = .ok (.iload 4, 2) := by decide +kernel
theorem dX7_spreads_75 : decode cX7_spreads 75 = .ok (.baload, 1) := by decide +kernel
theorem dX7_spreads_76 : decode cX7_spreads 76 = .ok (.ifCond .ne 6, 3) := by decide +kernel
theorem dX7_spreads_79 : decode cX7_spreads 79 = .ok (.goto 148, 3) := by decide +kernel
theorem dX7_spreads_82 : decode cX7_spreads 82 = .ok (.aload_n 0, 1) := by decide +kernel
theorem dX7_spreads_83 : decode cX7_spreads 83 = .ok (.getfield 94, 3) := by decide +kernel
theorem dX7_spreads_86 : decode cX7_spreads 86 = .ok (.iload 4, 2) := by decide +kernel
theorem dX7_spreads_88 : decode cX7_spreads 88 = .ok (.ishr, 1) := by decide +kernel
theorem dX7_spreads_89 : decode cX7_spreads 89 = .ok (.iconst 1, 1) := by decide +kernel
theorem dX7_spreads_90 : decode cX7_spreads 90 = .ok (.iand, 1) := by decide +kernel
theorem dX7_spreads_91 : decode cX7_spreads 91 = .ok (.iconst 1, 1) := by decide +kernel
theorem dX7_spreads_92 : decode cX7_spreads 92 = .ok (.if_icmp .ne 7, 3) := by decide +kernel
theorem dX7_spreads_95 : decode cX7_spreads 95 = .ok (.iconst 1, 1) := by decide +kernel
theorem dX7_spreads_96 : decode cX7_spreads 96 = .ok (.goto 4, 3) := by decide +kernel
theorem dX7_spreads_99 : decode cX7_spreads 99 = .ok (.iconst 0, 1) := by decide +kernel
theorem dX7_spreads_100 : decode cX7_spreads 100 = .ok (.istore 5, 2) := by decide +kernel
theorem dX7_spreads_102 : decode cX7_spreads 102 = .ok (.iload 5, 2) := by decide +kernel
theorem dX7_spreads_104 : decode cX7_spreads 104 = .ok (.ifCond .eq 36, 3) := by decide +kernel
theorem dX7_spreads_107 : decode cX7_spreads 107 = .ok (.aload_n 0, 1) := by decide +kernel
theorem dX7_spreads_108 : decode cX7_spreads 108 = .ok (.getfield 23, 3) := by decide +kernel
theorem dX7_spreads_111 : decode cX7_spreads 111 = .ok (.aload_n 0, 1) := by decide +kernel
theorem dX7_spreads_112 : decode cX7_spreads 112 = .ok (.getfield 7, 3) := by decide +kernel
theorem dX7_spreads_115 : decode cX7_spreads 115 = .ok (.iload 4, 2) := by decide +kernel
theorem dX7_spreads_117 : decode cX7_spreads 117 = .ok (.iaload, 1) := by decide +kernel
theorem dX7_spreads_118 : decode cX7_spreads 118 = .ok (.iaload, 1) := by decide +kernel
theorem dX7_spreads_119 : decode cX7_spreads 119 = .ok (.ifCond .ne 21, 3) := by decide +kernel
theorem dX7_spreads_122 : decode cX7_spreads 122 = .ok (.aload_n 0, 1) := by decide +kernel
theorem dX7_spreads_123 : decode cX7_spreads 123 = .ok (.aload_n 0, 1) := by decide +kernel
theorem dX7_spreads_124 : decode cX7_spreads 124 = .ok (.getfield 91, 3) := by decide +kernel
theorem dX7_spreads_127 : decode cX7_spreads 127 = .ok (.iconst 1, 1) := by decide +kernel
theorem dX7_spreads_128 : decode cX7_spreads 128 = .ok (.aload_n 0, 1) := by decide +kernel
theorem dX7_spreads_129 : decode cX7_spreads 129 = .ok (.getfield 7, 3) := by decide +kernel
theorem dX7_spreads_132 : decode cX7_spreads 132 = .ok (.iload 4, 2) := by decide +kernel
theorem dX7_spreads_134 : decode cX7_spreads 134 = .ok (.iaload, 1) := by decide +kernel
theorem dX7_spreads_135 : decode cX7_spreads 135 = .ok (.ishl, 1) := by decide +kernel
theorem dX7_spreads_136 : decode cX7_spreads 136 = .ok (.ior, 1) := by decide +kernel
theorem dX7_spreads_137 : decode cX7_spreads 137 = .ok (.putfield 91, 3) := by decide +kernel
theorem dX7_spreads_140 : decode cX7_spreads 140 = .ok (.iload 5, 2) := by decide +kernel
theorem dX7_spreads_142 : decode cX7_spreads 142 = .ok (.ifCond .eq 36, 3) := by decide +kernel
theorem dX7_spreads_145 : decode cX7_spreads 145 = .ok (.aload_n 0, 1) := by decide +kernel
theorem dX7_spreads_146 : decode cX7_spreads 146 = .ok (.getfield 23, 3) := by decide +kernel
theorem dX7_spreads_149 : decode cX7_spreads 149 = .ok (.aload_n 0, 1) := by decide +kernel
theorem dX7_spreads_150 : decode cX7_spreads 150 = .ok (.getfield 13, 3) := by decide +kernel
theorem dX7_spreads_153 : decode cX7_spreads 153 = .ok (.iload 4, 2) := by decide +kernel
theorem dX7_spreads_155 : decode cX7_spreads 155 = .ok (.iaload, 1) := by decide +kernel
theorem dX7_spreads_156 : decode cX7_spreads 156 = .ok (.iaload, 1) := by decide +kernel
theorem dX7_spreads_157 : decode cX7_spreads 157 = .ok (.ifCond .ne 21, 3) := by decide +kernel
theorem dX7_spreads_160 : decode cX7_spreads 160 = .ok (.aload_n 0, 1) := by decide +kernel
theorem dX7_spreads_161 : decode cX7_spreads 161 = .ok (.aload_n 0, 1) := by decide +kernel
theorem dX7_spreads_162 : decode cX7_spreads 162 = .ok (.getfield 91, 3) := by decide +kernel
theorem dX7_spreads_165 : decode cX7_spreads 165 = .ok (.iconst 1, 1) := by decide +kernel
theorem dX7_spreads_166 : decode cX7_spreads 166 = .ok (.aload_n 0, 1) := by decide +kernel
theorem dX7_spreads_167 : decode cX7_spreads 167 = .ok (.getfield 13, 3) := by decide +kernel
theorem dX7_spreads_170 : decode cX7_spreads 170 = .ok (.iload 4, 2) := by decide +kernel
theorem dX7_spreads_172 : decode cX7_spreads 172 = .ok (.iaload, 1) := by decide +kernel
theorem dX7_spreads_173 : decode cX7_spreads 173 = .ok (.ishl, 1) := by decide +kernel
theorem dX7_spreads_174 : decode cX7_spreads 174 = .ok (.ior, 1) := by decide +kernel
theorem dX7_spreads_175 : decode cX7_spreads 175 = .ok (.putfield 91, 3) := by decide +kernel
theorem dX7_spreads_178 : decode cX7_spreads 178 = .ok (.aload_n 0, 1) := by decide +kernel
theorem dX7_spreads_179 : decode cX7_spreads 179 = .ok (.getfield 91, 3) := by decide +kernel
theorem dX7_spreads_182 : decode cX7_spreads 182 = .ok (.aload_n 0, 1) := by decide +kernel
theorem dX7_spreads_183 : decode cX7_spreads 183 = .ok (.getfield 7, 3) := by decide +kernel
theorem dX7_spreads_186 : decode cX7_spreads 186 = .ok (.iload 4, 2) := by decide +kernel
theorem dX7_spreads_188 : decode cX7_spreads 188 = .ok (.iaload, 1) := by decide +kernel
theorem dX7_spreads_189 : decode cX7_spreads 189 = .ok (.ishr, 1) := by decide +kernel
theorem dX7_spreads_190 : decode cX7_spreads 190 = .ok (.iconst 1, 1) := by decide +kernel
theorem dX7_spreads_191 : decode cX7_spreads 191 = .ok (.iand, 1) := by decide +kernel
theorem dX7_spreads_192 : decode cX7_spreads 192 = .ok (.iconst 1, 1) := by decide +kernel
theorem dX7_spreads_193 : decode cX7_spreads 193 = .ok (.if_icmp .eq 21, 3) := by decide +kernel
theorem dX7_spreads_196 : decode cX7_spreads 196 = .ok (.aload_n 0, 1) := by decide +kernel
theorem dX7_spreads_197 : decode cX7_spreads 197 = .ok (.getfield 91, 3) := by decide +kernel
theorem dX7_spreads_200 : decode cX7_spreads 200 = .ok (.aload_n 0, 1) := by decide +kernel
theorem dX7_spreads_201 : decode cX7_spreads 201 = .ok (.getfield 13, 3) := by decide +kernel
theorem dX7_spreads_204 : decode cX7_spreads 204 = .ok (.iload 4, 2) := by decide +kernel
theorem dX7_spreads_206 : decode cX7_spreads 206 = .ok (.iaload, 1) := by decide +kernel
theorem dX7_spreads_207 : decode cX7_spreads 207 = .ok (.ishr, 1) := by decide +kernel
theorem dX7_spreads_208 : decode cX7_spreads 208 = .ok (.iconst 1, 1) := by decide +kernel
theorem dX7_spreads_209 : decode cX7_spreads 209 = .ok (.iand, 1) := by decide +kernel
theorem dX7_spreads_210 : decode cX7_spreads 210 = .ok (.iconst 1, 1) := by decide +kernel
theorem dX7_spreads_211 : decode cX7_spreads 211 = .ok (.if_icmp .ne 16, 3) := by decide +kernel
theorem dX7_spreads_214 : decode cX7_spreads 214 = .ok (.aload_n 0, 1) := by decide +kernel
theorem dX7_spreads_215 : decode cX7_spreads 215 = .ok (.aload_n 0, 1) := by decide +kernel
theorem dX7_spreads_216 : decode cX7_spreads 216 = .ok (.getfield 94, 3) := by decide +kernel
theorem dX7_spreads_219 : decode cX7_spreads 219 = .ok (.iconst 1, 1) := by decide +kernel
theorem dX7_spreads_220 : decode cX7_spreads 220 = .ok (.iload 4, 2) := by decide +kernel
theorem dX7_spreads_222 : decode cX7_spreads 222 = .ok (.ishl, 1) := by decide +kernel
theorem dX7_spreads_223 : decode cX7_spreads 223 = .ok (.ior, 1) := by decide +kernel
theorem dX7_spreads_224 : decode cX7_spreads 224 = .ok (.putfield 94, 3) := by decide +kernel
theorem dX7_spreads_227 : decode cX7_spreads 227 = .ok (.iinc 4 1, 3) := by decide +kernel
theorem dX7_spreads_230 : decode cX7_spreads 230 = .ok (.goto (-168), 3) := by decide +kernel
theorem dX7_spreads_233 : decode cX7_spreads 233 = .ok (.iload_n 2, 1) := by decide +kernel
theorem dX7_spreads_234 : decode cX7_spreads 234 = .ok (.aload_n 0, 1) := by decide +kernel
theorem dX7_spreads_235 : decode cX7_spreads 235 = .ok (.getfield 94, 3) := by decide +kernel
theorem dX7_spreads_238 : decode cX7_spreads 238 = .ok (.if_icmp .ne 11, 3) := by decide +kernel
theorem dX7_spreads_241 : decode cX7_spreads 241 = .ok (.iload_n 3, 1) := by decide +kernel
theorem dX7_spreads_242 : decode cX7_spreads 242 = .ok (.aload_n 0, 1) := by decide +kernel
theorem dX7_spreads_243 : decode cX7_spreads 243 = .ok (.getfield 91, 3) := by decide +kernel
theorem dX7_spreads_246 : decode cX7_spreads 246 = .ok (.if_icmp .eq 7, 3) := by decide +kernel
theorem dX7_spreads_249 : decode cX7_spreads 249 = .ok (.iconst 1, 1) := by decide +kernel
theorem dX7_spreads_250 : decode cX7_spreads 250 = .ok (.goto 4, 3) := by decide +kernel
theorem dX7_spreads_253 : decode cX7_spreads 253 = .ok (.iconst 0, 1) := by decide +kernel
theorem dX7_spreads_254 : decode cX7_spreads 254 = .ok (.istore_n 1, 1) := by decide +kernel
theorem dX7_spreads_255 : decode cX7_spreads 255 = .ok (.goto (-253), 3) := by decide +kernel
theorem dX7_spreads_258 : decode cX7_spreads 258 = .ok (.return_, 1) := by decide +kernel
theorem dX7_settles_0 : decode cX7_settles 0 = .ok (.iconst 0, 1) := by decide +kernel
theorem dX7_settles_1 : decode cX7_settles 1 = .ok (.istore_n 2, 1) := by decide +kernel
theorem dX7_settles_2 : decode cX7_settles 2 = .ok (.iload_n 2, 1) := by decide +kernel
theorem dX7_settles_3 : decode cX7_settles 3 = .ok (.bipush 18, 2) := by decide +kernel
theorem dX7_settles_5 : decode cX7_settles 5 = .ok (.if_icmp .ge 68, 3) := by decide +kernel
theorem dX7_settles_8 : decode cX7_settles 8 = .ok (.aload_n 0, 1) := by decide +kernel
theorem dX7_settles_9 : decode cX7_settles 9 = .ok (.getfield 16, 3) := by decide +kernel
theorem dX7_settles_12 : decode cX7_settles 12 = .ok (.iload_n 2, 1) := by decide +kernel
theorem dX7_settles_13 : decode cX7_settles 13 = .ok (.baload, 1) := by decide +kernel
theorem dX7_settles_14 : decode cX7_settles 14 = .ok (.ifCond .ne 6, 3) := by decide +kernel
theorem dX7_settles_17 : decode cX7_settles 17 = .ok (.goto 50, 3) := by decide +kernel
theorem dX7_settles_20 : decode cX7_settles 20 = .ok (.iload_n 2, 1) := by decide +kernel
theorem dX7_settles_21 : decode cX7_settles 21 = .ok (.iload_n 1, 1) := by decide +kernel
theorem dX7_settles_22 : decode cX7_settles 22 = .ok (.if_icmp .eq 31, 3) := by decide +kernel
theorem dX7_settles_25 : decode cX7_settles 25 = .ok (.aload_n 0, 1) := by decide +kernel
theorem dX7_settles_26 : decode cX7_settles 26 = .ok (.getfield 23, 3) := by decide +kernel
theorem dX7_settles_29 : decode cX7_settles 29 = .ok (.aload_n 0, 1) := by decide +kernel
theorem dX7_settles_30 : decode cX7_settles 30 = .ok (.getfield 7, 3) := by decide +kernel
theorem dX7_settles_33 : decode cX7_settles 33 = .ok (.iload_n 2, 1) := by decide +kernel
theorem dX7_settles_34 : decode cX7_settles 34 = .ok (.iaload, 1) := by decide +kernel
theorem dX7_settles_35 : decode cX7_settles 35 = .ok (.iaload, 1) := by decide +kernel
theorem dX7_settles_36 : decode cX7_settles 36 = .ok (.ifCond .le 31, 3) := by decide +kernel
theorem dX7_settles_39 : decode cX7_settles 39 = .ok (.aload_n 0, 1) := by decide +kernel
theorem dX7_settles_40 : decode cX7_settles 40 = .ok (.getfield 23, 3) := by decide +kernel
theorem dX7_settles_43 : decode cX7_settles 43 = .ok (.aload_n 0, 1) := by decide +kernel
theorem dX7_settles_44 : decode cX7_settles 44 = .ok (.getfield 13, 3) := by decide +kernel
theorem dX7_settles_47 : decode cX7_settles 47 = .ok (.iload_n 2, 1) := by decide +kernel
theorem dX7_settles_48 : decode cX7_settles 48 = .ok (.iaload, 1) := by decide +kernel
theorem dX7_settles_49 : decode cX7_settles 49 = .ok (.iaload, 1) := by decide +kernel
theorem dX7_settles_50 : decode cX7_settles 50 = .ok (.ifCond .le 17, 3) := by decide +kernel
theorem dX7_settles_53 : decode cX7_settles 53 = .ok (.aload_n 0, 1) := by decide +kernel
theorem dX7_settles_54 : decode cX7_settles 54 = .ok (.aload_n 0, 1) := by decide +kernel
theorem dX7_settles_55 : decode cX7_settles 55 = .ok (.getfield 94, 3) := by decide +kernel
theorem dX7_settles_58 : decode cX7_settles 58 = .ok (.iconst 1, 1) := by decide +kernel
theorem dX7_settles_59 : decode cX7_settles 59 = .ok (.iload_n 2, 1) := by decide +kernel
theorem dX7_settles_60 : decode cX7_settles 60 = .ok (.ishl, 1) := by decide +kernel
theorem dX7_settles_61 : decode cX7_settles 61 = .ok (.iconst (-1), 1) := by decide +kernel
theorem dX7_settles_62 : decode cX7_settles 62 = .ok (.ixor, 1) := by decide +kernel
theorem dX7_settles_63 : decode cX7_settles 63 = .ok (.iand, 1) := by decide +kernel
theorem dX7_settles_64 : decode cX7_settles 64 = .ok (.putfield 94, 3) := by decide +kernel
theorem dX7_settles_67 : decode cX7_settles 67 = .ok (.iinc 2 1, 3) := by decide +kernel
theorem dX7_settles_70 : decode cX7_settles 70 = .ok (.goto (-68), 3) := by decide +kernel
theorem dX7_settles_73 : decode cX7_settles 73 = .ok (.iconst 0, 1) := by decide +kernel
theorem dX7_settles_74 : decode cX7_settles 74 = .ok (.istore_n 2, 1) := by decide +kernel
theorem dX7_settles_75 : decode cX7_settles 75 = .ok (.iload_n 2, 1) := by decide +kernel
theorem dX7_settles_76 : decode cX7_settles 76 = .ok (.aload_n 0, 1) := by decide +kernel
theorem dX7_settles_77 : decode cX7_settles 77 = .ok (.getfield 68, 3) := by decide +kernel
theorem dX7_settles_80 : decode cX7_settles 80 = .ok (.if_icmp .ge 32, 3) := by decide +kernel
theorem dX7_settles_83 : decode cX7_settles 83 = .ok (.aload_n 0, 1) := by decide +kernel
theorem dX7_settles_84 : decode cX7_settles 84 = .ok (.getfield 23, 3) := by decide +kernel
theorem dX7_settles_87 : decode cX7_settles 87 = .ok (.iload_n 2, 1) := by decide +kernel
theorem dX7_settles_88 : decode cX7_settles 88 = .ok (.iaload, 1) := by decide +kernel
theorem dX7_settles_89 : decode cX7_settles 89 = .ok (.ifCond .le 17, 3) := by decide +kernel
theorem dX7_settles_92 : decode cX7_settles 92 = .ok (.aload_n 0, 1) := by decide +kernel
theorem dX7_settles_93 : decode cX7_settles 93 = .ok (.aload_n 0, 1) := by decide +kernel
theorem dX7_settles_94 : decode cX7_settles 94 = .ok (.getfield 91, 3) := by decide +kernel
theorem dX7_settles_97 : decode cX7_settles 97 = .ok (.iconst 1, 1) := by decide +kernel
theorem dX7_settles_98 : decode cX7_settles 98 = .ok (.iload_n 2, 1) := by decide +kernel
theorem dX7_settles_99 : decode cX7_settles 99 = .ok (.ishl, 1) := by decide +kernel
theorem dX7_settles_100 : decode cX7_settles 100 = .ok (.iconst (-1), 1) := by decide +kernel
theorem dX7_settles_101 : decode cX7_settles 101 = .ok (.ixor, 1) := by decide +kernel
theorem dX7_settles_102 : decode cX7_settles 102 = .ok (.iand, 1) := by decide +kernel
theorem dX7_settles_103 : decode cX7_settles 103 = .ok (.putfield 91, 3) := by decide +kernel
theorem dX7_settles_106 : decode cX7_settles 106 = .ok (.iinc 2 1, 3) := by decide +kernel
theorem dX7_settles_109 : decode cX7_settles 109 = .ok (.goto (-34), 3) := by decide +kernel
theorem dX7_settles_112 : decode cX7_settles 112 = .ok (.aload_n 0, 1) := by decide +kernel
theorem dX7_settles_113 : decode cX7_settles 113 = .ok (.invokevirtual 97, 3) := by decide +kernel
theorem dX7_settles_116 : decode cX7_settles 116 = .ok (.return_, 1) := by decide +kernel
theorem dX7_does_0 : decode cX7_does 0 = .ok (.iload_n 1, 1) := by decide +kernel
theorem dX7_does_1 : decode cX7_does 1 = .ok (.ifCond .ne 17, 3) := by decide +kernel
theorem dX7_does_4 : decode cX7_does 4 = .ok (.aload_n 0, 1) := by decide +kernel
theorem dX7_does_5 : decode cX7_does 5 = .ok (.getfield 23, 3) := by decide +kernel
theorem dX7_does_8 : decode cX7_does 8 = .ok (.iload_n 2, 1) := by decide +kernel
theorem dX7_does_9 : decode cX7_does 9 = .ok (.aload_n 0, 1) := by decide +kernel
theorem dX7_does_10 : decode cX7_does 10 = .ok (.getfield 23, 3) := by decide +kernel
theorem dX7_does_13 : decode cX7_does 13 = .ok (.iload_n 2, 1) := by decide +kernel
theorem dX7_does_14 : decode cX7_does 14 = .ok (.iaload, 1) := by decide +kernel
theorem dX7_does_15 : decode cX7_does 15 = .ok (.iconst 1, 1) := by decide +kernel
theorem dX7_does_16 : decode cX7_does 16 = .ok (.iadd, 1) := by decide +kernel
theorem dX7_does_17 : decode cX7_does 17 = .ok (.iastore, 1) := by decide +kernel
theorem dX7_does_18 : decode cX7_does 18 = .ok (.iload_n 1, 1) := by decide +kernel
theorem dX7_does_19 : decode cX7_does 19 = .ok (.iconst 1, 1) := by decide +kernel
theorem dX7_does_20 : decode cX7_does 20 = .ok (.if_icmp .ne 17, 3) := by decide +kernel
theorem dX7_does_23 : decode cX7_does 23 = .ok (.aload_n 0, 1) := by decide +kernel
theorem dX7_does_24 : decode cX7_does 24 = .ok (.getfield 23, 3) := by decide +kernel
theorem dX7_does_27 : decode cX7_does 27 = .ok (.iload_n 2, 1) := by decide +kernel
theorem dX7_does_28 : decode cX7_does 28 = .ok (.aload_n 0, 1) := by decide +kernel
theorem dX7_does_29 : decode cX7_does 29 = .ok (.getfield 23, 3) := by decide +kernel
theorem dX7_does_32 : decode cX7_does 32 = .ok (.iload_n 2, 1) := by decide +kernel
theorem dX7_does_33 : decode cX7_does 33 = .ok (.iaload, 1) := by decide +kernel
theorem dX7_does_34 : decode cX7_does 34 = .ok (.iconst 1, 1) := by decide +kernel
theorem dX7_does_35 : decode cX7_does 35 = .ok (.isub, 1) := by decide +kernel
theorem dX7_does_36 : decode cX7_does 36 = .ok (.iastore, 1) := by decide +kernel
theorem dX7_does_37 : decode cX7_does 37 = .ok (.iload_n 1, 1) := by decide +kernel
theorem dX7_does_38 : decode cX7_does 38 = .ok (.iconst 2, 1) := by decide +kernel
theorem dX7_does_39 : decode cX7_does 39 = .ok (.if_icmp .ne 41, 3) := by decide +kernel
theorem dX7_does_42 : decode cX7_does 42 = .ok (.aload_n 0, 1) := by decide +kernel
theorem dX7_does_43 : decode cX7_does 43 = .ok (.getfield 23, 3) := by decide +kernel
theorem dX7_does_46 : decode cX7_does 46 = .ok (.iload_n 2, 1) := by decide +kernel
theorem dX7_does_47 : decode cX7_does 47 = .ok (.aload_n 0, 1) := by decide +kernel
theorem dX7_does_48 : decode cX7_does 48 = .ok (.getfield 23, 3) := by decide +kernel
theorem dX7_does_51 : decode cX7_does 51 = .ok (.iload_n 2, 1) := by decide +kernel
theorem dX7_does_52 : decode cX7_does 52 = .ok (.iaload, 1) := by decide +kernel
theorem dX7_does_53 : decode cX7_does 53 = .ok (.iconst 1, 1) := by decide +kernel
theorem dX7_does_54 : decode cX7_does 54 = .ok (.isub, 1) := by decide +kernel
theorem dX7_does_55 : decode cX7_does 55 = .ok (.iastore, 1) := by decide +kernel
theorem dX7_does_56 : decode cX7_does 56 = .ok (.aload_n 0, 1) := by decide +kernel
theorem dX7_does_57 : decode cX7_does 57 = .ok (.getfield 23, 3) := by decide +kernel
theorem dX7_does_60 : decode cX7_does 60 = .ok (.aload_n 0, 1) := by decide +kernel
theorem dX7_does_61 : decode cX7_does 61 = .ok (.iload_n 3, 1) := by decide +kernel
theorem dX7_does_62 : decode cX7_does 62 = .ok (.iload_n 2, 1) := by decide +kernel
theorem dX7_does_63 : decode cX7_does 63 = .ok (.invokevirtual 100, 3) := by decide +kernel
theorem dX7_does_66 : decode cX7_does 66 = .ok (.aload_n 0, 1) := by decide +kernel
theorem dX7_does_67 : decode cX7_does 67 = .ok (.getfield 23, 3) := by decide +kernel
theorem dX7_does_70 : decode cX7_does 70 = .ok (.aload_n 0, 1) := by decide +kernel
theorem dX7_does_71 : decode cX7_does 71 = .ok (.iload_n 3, 1) := by decide +kernel
theorem dX7_does_72 : decode cX7_does 72 = .ok (.iload_n 2, 1) := by decide +kernel
theorem dX7_does_73 : decode cX7_does 73 = .ok (.invokevirtual 100, 3) := by decide +kernel
theorem dX7_does_76 : decode cX7_does 76 = .ok (.iaload, 1) := by decide +kernel
theorem dX7_does_77 : decode cX7_does 77 = .ok (.iconst 1, 1) := by decide +kernel
theorem dX7_does_78 : decode cX7_does 78 = .ok (.iadd, 1) := by decide +kernel
theorem dX7_does_79 : decode cX7_does 79 = .ok (.iastore, 1) := by decide +kernel
theorem dX7_does_80 : decode cX7_does 80 = .ok (.aload_n 0, 1) := by decide +kernel
theorem dX7_does_81 : decode cX7_does 81 = .ok (.iload_n 1, 1) := by decide +kernel
theorem dX7_does_82 : decode cX7_does 82 = .ok (.iconst 2, 1) := by decide +kernel
theorem dX7_does_83 : decode cX7_does 83 = .ok (.if_icmp .ne 7, 3) := by decide +kernel
theorem dX7_does_86 : decode cX7_does 86 = .ok (.iload_n 3, 1) := by decide +kernel
theorem dX7_does_87 : decode cX7_does 87 = .ok (.goto 4, 3) := by decide +kernel
theorem dX7_does_90 : decode cX7_does 90 = .ok (.iconst (-1), 1) := by decide +kernel
theorem dX7_does_91 : decode cX7_does 91 = .ok (.invokevirtual 103, 3) := by decide +kernel
theorem dX7_does_94 : decode cX7_does 94 = .ok (.return_, 1) := by decide +kernel
theorem dX7_isSearched_0 : decode cX7_isSearched 0 = .ok (.aload_n 0, 1) := by decide +kernel
theorem dX7_isSearched_1 : decode cX7_isSearched 1 = .ok (.getfield 91, 3) := by decide +kernel
theorem dX7_isSearched_4 : decode cX7_isSearched 4 = .ok (.ifCond .ne 14, 3) := by decide +kernel
theorem dX7_isSearched_7 : decode cX7_isSearched 7 = .ok (.aload_n 0, 1) := by decide +kernel
theorem dX7_isSearched_8 : decode cX7_isSearched 8 = .ok (.getfield 94, 3) := by decide +kernel
theorem dX7_isSearched_11 : decode cX7_isSearched 11 = .ok (.ifCond .ne 7, 3) := by decide +kernel
theorem dX7_isSearched_14 : decode cX7_isSearched 14 = .ok (.iconst 1, 1) := by decide +kernel
theorem dX7_isSearched_15 : decode cX7_isSearched 15 = .ok (.goto 4, 3) := by decide +kernel
theorem dX7_isSearched_18 : decode cX7_isSearched 18 = .ok (.iconst 0, 1) := by decide +kernel
theorem dX7_isSearched_19 : decode cX7_isSearched 19 = .ok (.ireturn, 1) := by decide +kernel
theorem dX7_hangs_0 : decode cX7_hangs 0 = .ok (.iconst 0, 1) := by decide +kernel
theorem dX7_hangs_1 : decode cX7_hangs 1 = .ok (.istore_n 2, 1) := by decide +kernel
theorem dX7_hangs_2 : decode cX7_hangs 2 = .ok (.iconst 0, 1) := by decide +kernel
theorem dX7_hangs_3 : decode cX7_hangs 3 = .ok (.istore_n 3, 1) := by decide +kernel
theorem dX7_hangs_4 : decode cX7_hangs 4 = .ok (.iload_n 3, 1) := by decide +kernel
theorem dX7_hangs_5 : decode cX7_hangs 5 = .ok (.bipush 18, 2) := by decide +kernel
theorem dX7_hangs_7 : decode cX7_hangs 7 = .ok (.if_icmp .ge 35, 3) := by decide +kernel
theorem dX7_hangs_10 : decode cX7_hangs 10 = .ok (.aload_n 0, 1) := by decide +kernel
theorem dX7_hangs_11 : decode cX7_hangs 11 = .ok (.getfield 16, 3) := by decide +kernel
theorem dX7_hangs_14 : decode cX7_hangs 14 = .ok (.iload_n 3, 1) := by decide +kernel
theorem dX7_hangs_15 : decode cX7_hangs 15 = .ok (.baload, 1) := by decide +kernel
theorem dX7_hangs_16 : decode cX7_hangs 16 = .ok (.ifCond .eq 20, 3) := by decide +kernel
theorem dX7_hangs_19 : decode cX7_hangs 19 = .ok (.aload_n 0, 1) := by decide +kernel
theorem dX7_hangs_20 : decode cX7_hangs 20 = .ok (.getfield 94, 3) := by decide +kernel
theorem dX7_hangs_23 : decode cX7_hangs 23 = .ok (.iload_n 3, 1) := by decide +kernel
theorem dX7_hangs_24 : decode cX7_hangs 24 = .ok (.ishr, 1) := by decide +kernel
theorem dX7_hangs_25 : decode cX7_hangs 25 = .ok (.iconst 1, 1) := by decide +kernel
theorem dX7_hangs_26 : decode cX7_hangs 26 = .ok (.iand, 1) := by decide +kernel
theorem dX7_hangs_27 : decode cX7_hangs 27 = .ok (.ifCond .ne 9, 3) := by decide +kernel
theorem dX7_hangs_30 : decode cX7_hangs 30 = .ok (.iload_n 2, 1) := by decide +kernel
theorem dX7_hangs_31 : decode cX7_hangs 31 = .ok (.iconst 1, 1) := by decide +kernel
theorem dX7_hangs_32 : decode cX7_hangs 32 = .ok (.iload_n 3, 1) := by decide +kernel
theorem dX7_hangs_33 : decode cX7_hangs 33 = .ok (.ishl, 1) := by decide +kernel
theorem dX7_hangs_34 : decode cX7_hangs 34 = .ok (.ior, 1) := by decide +kernel
theorem dX7_hangs_35 : decode cX7_hangs 35 = .ok (.istore_n 2, 1) := by decide +kernel
theorem dX7_hangs_36 : decode cX7_hangs 36 = .ok (.iinc 3 1, 3) := by decide +kernel
theorem dX7_hangs_39 : decode cX7_hangs 39 = .ok (.goto (-35), 3) := by decide +kernel
theorem dX7_hangs_42 : decode cX7_hangs 42 = .ok (.aload_n 0, 1) := by decide +kernel
theorem dX7_hangs_43 : decode cX7_hangs 43 = .ok (.iconst 1, 1) := by decide +kernel
theorem dX7_hangs_44 : decode cX7_hangs 44 = .ok (.iload_n 1, 1) := by decide +kernel
theorem dX7_hangs_45 : decode cX7_hangs 45 = .ok (.ishl, 1) := by decide +kernel
theorem dX7_hangs_46 : decode cX7_hangs 46 = .ok (.iload_n 2, 1) := by decide +kernel
theorem dX7_hangs_47 : decode cX7_hangs 47 = .ok (.invokevirtual 87, 3) := by decide +kernel
theorem dX7_hangs_50 : decode cX7_hangs 50 = .ok (.istore_n 3, 1) := by decide +kernel
theorem dX7_hangs_51 : decode cX7_hangs 51 = .ok (.iconst 1, 1) := by decide +kernel
theorem dX7_hangs_52 : decode cX7_hangs 52 = .ok (.istore 4, 2) := by decide +kernel
theorem dX7_hangs_54 : decode cX7_hangs 54 = .ok (.iconst 0, 1) := by decide +kernel
theorem dX7_hangs_55 : decode cX7_hangs 55 = .ok (.istore 5, 2) := by decide +kernel
theorem dX7_hangs_57 : decode cX7_hangs 57 = .ok (.iload 5, 2) := by decide +kernel
theorem dX7_hangs_59 : decode cX7_hangs 59 = .ok (.aload_n 0, 1) := by decide +kernel
theorem dX7_hangs_60 : decode cX7_hangs 60 = .ok (.getfield 68, 3) := by decide +kernel
theorem dX7_hangs_63 : decode cX7_hangs 63 = .ok (.if_icmp .ge 41, 3) := by decide +kernel
theorem dX7_hangs_66 : decode cX7_hangs 66 = .ok (.iload 4, 2) := by decide +kernel
theorem dX7_hangs_68 : decode cX7_hangs 68 = .ok (.ifCond .eq 27, 3) := by decide +kernel
theorem dX7_hangs_71 : decode cX7_hangs 71 = .ok (.aload_n 0, 1) := by decide +kernel
theorem dX7_hangs_72 : decode cX7_hangs 72 = .ok (.getfield 23, 3) := by decide +kernel
theorem dX7_hangs_75 : decode cX7_hangs 75 = .ok (.iload 5, 2) := by decide +kernel
theorem dX7_hangs_77 : decode cX7_hangs 77 = .ok (.iaload, 1) := by decide +kernel
theorem dX7_hangs_78 : decode cX7_hangs 78 = .ok (.ifCond .eq 13, 3) := by decide +kernel
theorem dX7_hangs_81 : decode cX7_hangs 81 = .ok (.iload_n 3, 1) := by decide +kernel
theorem dX7_hangs_82 : decode cX7_hangs 82 = .ok (.iload 5, 2) := by decide +kernel
theorem dX7_hangs_84 : decode cX7_hangs 84 = .ok (.ishr, 1) := by decide +kernel
theorem dX7_hangs_85 : decode cX7_hangs 85 = .ok (.iconst 1, 1) := by decide +kernel
theorem dX7_hangs_86 : decode cX7_hangs 86 = .ok (.iand, 1) := by decide +kernel
theorem dX7_hangs_87 : decode cX7_hangs 87 = .ok (.iconst 1, 1) := by decide +kernel
theorem dX7_hangs_88 : decode cX7_hangs 88 = .ok (.if_icmp .ne 7, 3) := by decide +kernel
theorem dX7_hangs_91 : decode cX7_hangs 91 = .ok (.iconst 1, 1) := by decide +kernel
theorem dX7_hangs_92 : decode cX7_hangs 92 = .ok (.goto 4, 3) := by decide +kernel
theorem dX7_hangs_95 : decode cX7_hangs 95 = .ok (.iconst 0, 1) := by decide +kernel
theorem dX7_hangs_96 : decode cX7_hangs 96 = .ok (.istore 4, 2) := by decide +kernel
theorem dX7_hangs_98 : decode cX7_hangs 98 = .ok (.iinc 5 1, 3) := by decide +kernel
theorem dX7_hangs_101 : decode cX7_hangs 101 = .ok (.goto (-44), 3) := by decide +kernel
theorem dX7_hangs_104 : decode cX7_hangs 104 = .ok (.iconst 0, 1) := by decide +kernel
theorem dX7_hangs_105 : decode cX7_hangs 105 = .ok (.istore 5, 2) := by decide +kernel
theorem dX7_hangs_107 : decode cX7_hangs 107 = .ok (.iload 5, 2) := by decide +kernel
theorem dX7_hangs_109 : decode cX7_hangs 109 = .ok (.bipush 18, 2) := by decide +kernel
theorem dX7_hangs_111 : decode cX7_hangs 111 = .ok (.if_icmp .ge 45, 3) := by decide +kernel
theorem dX7_hangs_114 : decode cX7_hangs 114 = .ok (.iload 4, 2) := by decide +kernel
theorem dX7_hangs_116 : decode cX7_hangs 116 = .ok (.ifCond .eq 31, 3) := by decide +kernel
theorem dX7_hangs_119 : decode cX7_hangs 119 = .ok (.iload_n 2, 1) := by decide +kernel
theorem dX7_hangs_120 : decode cX7_hangs 120 = .ok (.iload 5, 2) := by decide +kernel
theorem dX7_hangs_122 : decode cX7_hangs 122 = .ok (.ishr, 1) := by decide +kernel
theorem dX7_hangs_123 : decode cX7_hangs 123 = .ok (.iconst 1, 1) := by decide +kernel
theorem dX7_hangs_124 : decode cX7_hangs 124 = .ok (.iand, 1) := by decide +kernel
theorem dX7_hangs_125 : decode cX7_hangs 125 = .ok (.ifCond .eq 18, 3) := by decide +kernel
theorem dX7_hangs_128 : decode cX7_hangs 128 = .ok (.iload_n 3, 1) := by decide +kernel
theorem dX7_hangs_129 : decode cX7_hangs 129 = .ok (.aload_n 0, 1) := by decide +kernel
theorem dX7_hangs_130 : decode cX7_hangs 130 = .ok (.getfield 7, 3) := by decide +kernel
theorem dX7_hangs_133 : decode cX7_hangs 133 = .ok (.iload 5, 2) := by decide +kernel
theorem dX7_hangs_135 : decode cX7_hangs 135 = .ok (.iaload, 1) := by decide +kernel
theorem dX7_hangs_136 : decode cX7_hangs 136 = .ok (.ishr, 1) := by decide +kernel
theorem dX7_hangs_137 : decode cX7_hangs 137 = .ok (.iconst 1, 1) := by decide +kernel
theorem dX7_hangs_138 : decode cX7_hangs 138 = .ok (.iand, 1) := by decide +kernel
theorem dX7_hangs_139 : decode cX7_hangs 139 = .ok (.iconst 1, 1) := by decide +kernel
theorem dX7_hangs_140 : decode cX7_hangs 140 = .ok (.if_icmp .ne 7, 3) := by decide +kernel
theorem dX7_hangs_143 : decode cX7_hangs 143 = .ok (.iconst 1, 1) := by decide +kernel
theorem dX7_hangs_144 : decode cX7_hangs 144 = .ok (.goto 4, 3) := by decide +kernel
theorem dX7_hangs_147 : decode cX7_hangs 147 = .ok (.iconst 0, 1) := by decide +kernel
theorem dX7_hangs_148 : decode cX7_hangs 148 = .ok (.istore 4, 2) := by decide +kernel
theorem dX7_hangs_150 : decode cX7_hangs 150 = .ok (.iinc 5 1, 3) := by decide +kernel
theorem dX7_hangs_153 : decode cX7_hangs 153 = .ok (.goto (-46), 3) := by decide +kernel
theorem dX7_hangs_156 : decode cX7_hangs 156 = .ok (.iload 4, 2) := by decide +kernel
theorem dX7_hangs_158 : decode cX7_hangs 158 = .ok (.ireturn, 1) := by decide +kernel
theorem dX7_keeps_0 : decode cX7_keeps 0 = .ok (.iconst 0, 1) := by decide +kernel
theorem dX7_keeps_1 : decode cX7_keeps 1 = .ok (.istore_n 1, 1) := by decide +kernel
theorem dX7_keeps_2 : decode cX7_keeps 2 = .ok (.iload_n 1, 1) := by decide +kernel
theorem dX7_keeps_3 : decode cX7_keeps 3 = .ok (.bipush 12, 2) := by decide +kernel
theorem dX7_keeps_5 : decode cX7_keeps 5 = .ok (.if_icmp .ge 29, 3) := by decide +kernel
theorem dX7_keeps_8 : decode cX7_keeps 8 = .ok (.aload_n 0, 1) := by decide +kernel
theorem dX7_keeps_9 : decode cX7_keeps 9 = .ok (.getfield 35, 3) := by decide +kernel
theorem dX7_keeps_12 : decode cX7_keeps 12 = .ok (.bipush 12, 2) := by decide +kernel
theorem dX7_keeps_14 : decode cX7_keeps 14 = .ok (.aload_n 0, 1) := by decide +kernel
theorem dX7_keeps_15 : decode cX7_keeps 15 = .ok (.getfield 107, 3) := by decide +kernel
theorem dX7_keeps_18 : decode cX7_keeps 18 = .ok (.imul, 1) := by decide +kernel
theorem dX7_keeps_19 : decode cX7_keeps 19 = .ok (.iload_n 1, 1) := by decide +kernel
theorem dX7_keeps_20 : decode cX7_keeps 20 = .ok (.iadd, 1) := by decide +kernel
theorem dX7_keeps_21 : decode cX7_keeps 21 = .ok (.aload_n 0, 1) := by decide +kernel
theorem dX7_keeps_22 : decode cX7_keeps 22 = .ok (.getfield 23, 3) := by decide +kernel
theorem dX7_keeps_25 : decode cX7_keeps 25 = .ok (.iload_n 1, 1) := by decide +kernel
theorem dX7_keeps_26 : decode cX7_keeps 26 = .ok (.iaload, 1) := by decide +kernel
theorem dX7_keeps_27 : decode cX7_keeps 27 = .ok (.iastore, 1) := by decide +kernel
theorem dX7_keeps_28 : decode cX7_keeps 28 = .ok (.iinc 1 1, 3) := by decide +kernel
theorem dX7_keeps_31 : decode cX7_keeps 31 = .ok (.goto (-29), 3) := by decide +kernel
theorem dX7_keeps_34 : decode cX7_keeps 34 = .ok (.aload_n 0, 1) := by decide +kernel
theorem dX7_keeps_35 : decode cX7_keeps 35 = .ok (.getfield 38, 3) := by decide +kernel
theorem dX7_keeps_38 : decode cX7_keeps 38 = .ok (.aload_n 0, 1) := by decide +kernel
theorem dX7_keeps_39 : decode cX7_keeps 39 = .ok (.getfield 107, 3) := by decide +kernel
theorem dX7_keeps_42 : decode cX7_keeps 42 = .ok (.aload_n 0, 1) := by decide +kernel
theorem dX7_keeps_43 : decode cX7_keeps 43 = .ok (.getfield 91, 3) := by decide +kernel
theorem dX7_keeps_46 : decode cX7_keeps 46 = .ok (.iastore, 1) := by decide +kernel
theorem dX7_keeps_47 : decode cX7_keeps 47 = .ok (.aload_n 0, 1) := by decide +kernel
theorem dX7_keeps_48 : decode cX7_keeps 48 = .ok (.getfield 41, 3) := by decide +kernel
theorem dX7_keeps_51 : decode cX7_keeps 51 = .ok (.aload_n 0, 1) := by decide +kernel
theorem dX7_keeps_52 : decode cX7_keeps 52 = .ok (.getfield 107, 3) := by decide +kernel
theorem dX7_keeps_55 : decode cX7_keeps 55 = .ok (.aload_n 0, 1) := by decide +kernel
theorem dX7_keeps_56 : decode cX7_keeps 56 = .ok (.getfield 94, 3) := by decide +kernel
theorem dX7_keeps_59 : decode cX7_keeps 59 = .ok (.iastore, 1) := by decide +kernel
theorem dX7_keeps_60 : decode cX7_keeps 60 = .ok (.return_, 1) := by decide +kernel
theorem dX7_comes_0 : decode cX7_comes 0 = .ok (.iconst 0, 1) := by decide +kernel
theorem dX7_comes_1 : decode cX7_comes 1 = .ok (.istore_n 2, 1) := by decide +kernel
theorem dX7_comes_2 : decode cX7_comes 2 = .ok (.iload_n 2, 1) := by decide +kernel
theorem dX7_comes_3 : decode cX7_comes 3 = .ok (.bipush 12, 2) := by decide +kernel
theorem dX7_comes_5 : decode cX7_comes 5 = .ok (.if_icmp .ge 26, 3) := by decide +kernel
theorem dX7_comes_8 : decode cX7_comes 8 = .ok (.aload_n 0, 1) := by decide +kernel
theorem dX7_comes_9 : decode cX7_comes 9 = .ok (.getfield 23, 3) := by decide +kernel
theorem dX7_comes_12 : decode cX7_comes 12 = .ok (.iload_n 2, 1) := by decide +kernel
theorem dX7_comes_13 : decode cX7_comes 13 = .ok (.aload_n 0, 1) := by decide +kernel
theorem dX7_comes_14 : decode cX7_comes 14 = .ok (.getfield 35, 3) := by decide +kernel
theorem dX7_comes_17 : decode cX7_comes 17 = .ok (.bipush 12, 2) := by decide +kernel
theorem dX7_comes_19 : decode cX7_comes 19 = .ok (.iload_n 1, 1) := by decide +kernel
theorem dX7_comes_20 : decode cX7_comes 20 = .ok (.imul, 1) := by decide +kernel
theorem dX7_comes_21 : decode cX7_comes 21 = .ok (.iload_n 2, 1) := by decide +kernel
theorem dX7_comes_22 : decode cX7_comes 22 = .ok (.iadd, 1) := by decide +kernel
theorem dX7_comes_23 : decode cX7_comes 23 = .ok (.iaload, 1) := by decide +kernel
theorem dX7_comes_24 : decode cX7_comes 24 = .ok (.iastore, 1) := by decide +kernel
theorem dX7_comes_25 : decode cX7_comes 25 = .ok (.iinc 2 1, 3) := by decide +kernel
theorem dX7_comes_28 : decode cX7_comes 28 = .ok (.goto (-26), 3) := by decide +kernel
theorem dX7_comes_31 : decode cX7_comes 31 = .ok (.aload_n 0, 1) := by decide +kernel
theorem dX7_comes_32 : decode cX7_comes 32 = .ok (.aload_n 0, 1) := by decide +kernel
theorem dX7_comes_33 : decode cX7_comes 33 = .ok (.getfield 38, 3) := by decide +kernel
theorem dX7_comes_36 : decode cX7_comes 36 = .ok (.iload_n 1, 1) := by decide +kernel
theorem dX7_comes_37 : decode cX7_comes 37 = .ok (.iaload, 1) := by decide +kernel
theorem dX7_comes_38 : decode cX7_comes 38 = .ok (.putfield 91, 3) := by decide +kernel
theorem dX7_comes_41 : decode cX7_comes 41 = .ok (.aload_n 0, 1) := by decide +kernel
theorem dX7_comes_42 : decode cX7_comes 42 = .ok (.aload_n 0, 1) := by decide +kernel
theorem dX7_comes_43 : decode cX7_comes 43 = .ok (.getfield 41, 3) := by decide +kernel
theorem dX7_comes_46 : decode cX7_comes 46 = .ok (.iload_n 1, 1) := by decide +kernel
theorem dX7_comes_47 : decode cX7_comes 47 = .ok (.iaload, 1) := by decide +kernel
theorem dX7_comes_48 : decode cX7_comes 48 = .ok (.putfield 94, 3) := by decide +kernel
theorem dX7_comes_51 : decode cX7_comes 51 = .ok (.return_, 1) := by decide +kernel
theorem dX7_anew_0 : decode cX7_anew 0 = .ok (.aload_n 0, 1) := by decide +kernel
theorem dX7_anew_1 : decode cX7_anew 1 = .ok (.iconst 0, 1) := by decide +kernel
theorem dX7_anew_2 : decode cX7_anew 2 = .ok (.putfield 107, 3) := by decide +kernel
theorem dX7_anew_5 : decode cX7_anew 5 = .ok (.aload_n 0, 1) := by decide +kernel
theorem dX7_anew_6 : decode cX7_anew 6 = .ok (.invokevirtual 110, 3) := by decide +kernel
theorem dX7_anew_9 : decode cX7_anew 9 = .ok (.aload_n 0, 1) := by decide +kernel
theorem dX7_anew_10 : decode cX7_anew 10 = .ok (.invokevirtual 113, 3) := by decide +kernel
theorem dX7_anew_13 : decode cX7_anew 13 = .ok (.return_, 1) := by decide +kernel
theorem dX7_order_0 : decode cX7_order 0 = .ok (.iload_n 1, 1) := by decide +kernel
theorem dX7_order_1 : decode cX7_order 1 = .ok (.ifCond .lt 50, 3) := by decide +kernel
theorem dX7_order_4 : decode cX7_order 4 = .ok (.iload_n 1, 1) := by decide +kernel
theorem dX7_order_5 : decode cX7_order 5 = .ok (.iconst 3, 1) := by decide +kernel
theorem dX7_order_6 : decode cX7_order 6 = .ok (.if_icmp .gt 45, 3) := by decide +kernel
theorem dX7_order_9 : decode cX7_order 9 = .ok (.aload_n 0, 1) := by decide +kernel
theorem dX7_order_10 : decode cX7_order 10 = .ok (.iload_n 2, 1) := by decide +kernel
theorem dX7_order_11 : decode cX7_order 11 = .ok (.invokevirtual 80, 3) := by decide +kernel
theorem dX7_order_14 : decode cX7_order 14 = .ok (.ifCond .eq 37, 3) := by decide +kernel
theorem dX7_order_17 : decode cX7_order 17 = .ok (.iload_n 1, 1) := by decide +kernel
theorem dX7_order_18 : decode cX7_order 18 = .ok (.iconst 2, 1) := by decide +kernel
theorem dX7_order_19 : decode cX7_order 19 = .ok (.if_icmp .lt 22, 3) := by decide +kernel
theorem dX7_order_22 : decode cX7_order 22 = .ok (.iload_n 3, 1) := by decide +kernel
theorem dX7_order_23 : decode cX7_order 23 = .ok (.ifCond .lt 28, 3) := by decide +kernel
theorem dX7_order_26 : decode cX7_order 26 = .ok (.iload_n 3, 1) := by decide +kernel
theorem dX7_order_27 : decode cX7_order 27 = .ok (.bipush 18, 2) := by decide +kernel
theorem dX7_order_29 : decode cX7_order 29 = .ok (.if_icmp .ge 22, 3) := by decide +kernel
theorem dX7_order_32 : decode cX7_order 32 = .ok (.aload_n 0, 1) := by decide +kernel
theorem dX7_order_33 : decode cX7_order 33 = .ok (.iload_n 3, 1) := by decide +kernel
theorem dX7_order_34 : decode cX7_order 34 = .ok (.iload_n 2, 1) := by decide +kernel
theorem dX7_order_35 : decode cX7_order 35 = .ok (.invokevirtual 116, 3) := by decide +kernel
theorem dX7_order_38 : decode cX7_order 38 = .ok (.ifCond .eq 13, 3) := by decide +kernel
theorem dX7_order_41 : decode cX7_order 41 = .ok (.aload_n 0, 1) := by decide +kernel
theorem dX7_order_42 : decode cX7_order 42 = .ok (.getfield 107, 3) := by decide +kernel
theorem dX7_order_45 : decode cX7_order 45 = .ok (.sipush 200, 3) := by decide +kernel
theorem dX7_order_48 : decode cX7_order 48 = .ok (.if_icmp .ne 5, 3) := by decide +kernel
theorem dX7_order_51 : decode cX7_order 51 = .ok (.iconst (-1), 1) := by decide +kernel
theorem dX7_order_52 : decode cX7_order 52 = .ok (.ireturn, 1) := by decide +kernel
theorem dX7_order_53 : decode cX7_order 53 = .ok (.aload_n 0, 1) := by decide +kernel
theorem dX7_order_54 : decode cX7_order 54 = .ok (.aload_n 0, 1) := by decide +kernel
theorem dX7_order_55 : decode cX7_order 55 = .ok (.getfield 107, 3) := by decide +kernel
theorem dX7_order_58 : decode cX7_order 58 = .ok (.invokevirtual 120, 3) := by decide +kernel
theorem dX7_order_61 : decode cX7_order 61 = .ok (.iload_n 1, 1) := by decide +kernel
theorem dX7_order_62 : decode cX7_order 62 = .ok (.ifCond .ne 15, 3) := by decide +kernel
theorem dX7_order_65 : decode cX7_order 65 = .ok (.aload_n 0, 1) := by decide +kernel
theorem dX7_order_66 : decode cX7_order 66 = .ok (.invokevirtual 123, 3) := by decide +kernel
theorem dX7_order_69 : decode cX7_order 69 = .ok (.bipush 9, 2) := by decide +kernel
theorem dX7_order_71 : decode cX7_order 71 = .ok (.if_icmp .ne 17, 3) := by decide +kernel
theorem dX7_order_74 : decode cX7_order 74 = .ok (.goto 12, 3) := by decide +kernel
theorem dX7_order_77 : decode cX7_order 77 = .ok (.aload_n 0, 1) := by decide +kernel
theorem dX7_order_78 : decode cX7_order 78 = .ok (.getfield 23, 3) := by decide +kernel
theorem dX7_order_81 : decode cX7_order 81 = .ok (.iload_n 2, 1) := by decide +kernel
theorem dX7_order_82 : decode cX7_order 82 = .ok (.iaload, 1) := by decide +kernel
theorem dX7_order_83 : decode cX7_order 83 = .ok (.ifCond .ne 5, 3) := by decide +kernel
theorem dX7_order_86 : decode cX7_order 86 = .ok (.iconst 0, 1) := by decide +kernel
theorem dX7_order_87 : decode cX7_order 87 = .ok (.ireturn, 1) := by decide +kernel
theorem dX7_order_88 : decode cX7_order 88 = .ok (.aload_n 0, 1) := by decide +kernel
theorem dX7_order_89 : decode cX7_order 89 = .ok (.iload_n 1, 1) := by decide +kernel
theorem dX7_order_90 : decode cX7_order 90 = .ok (.iconst 3, 1) := by decide +kernel
theorem dX7_order_91 : decode cX7_order 91 = .ok (.if_icmp .ne 7, 3) := by decide +kernel
theorem dX7_order_94 : decode cX7_order 94 = .ok (.iconst 2, 1) := by decide +kernel
theorem dX7_order_95 : decode cX7_order 95 = .ok (.goto 4, 3) := by decide +kernel
theorem dX7_order_98 : decode cX7_order 98 = .ok (.iload_n 1, 1) := by decide +kernel
theorem dX7_order_99 : decode cX7_order 99 = .ok (.iload_n 2, 1) := by decide +kernel
theorem dX7_order_100 : decode cX7_order 100 = .ok (.iload_n 3, 1) := by decide +kernel
theorem dX7_order_101 : decode cX7_order 101 = .ok (.invokevirtual 127, 3) := by decide +kernel
theorem dX7_order_104 : decode cX7_order 104 = .ok (.aload_n 0, 1) := by decide +kernel
theorem dX7_order_105 : decode cX7_order 105 = .ok (.getfield 91, 3) := by decide +kernel
theorem dX7_order_108 : decode cX7_order 108 = .ok (.aload_n 0, 1) := by decide +kernel
theorem dX7_order_109 : decode cX7_order 109 = .ok (.getfield 38, 3) := by decide +kernel
theorem dX7_order_112 : decode cX7_order 112 = .ok (.aload_n 0, 1) := by decide +kernel
theorem dX7_order_113 : decode cX7_order 113 = .ok (.getfield 107, 3) := by decide +kernel
theorem dX7_order_116 : decode cX7_order 116 = .ok (.iaload, 1) := by decide +kernel
theorem dX7_order_117 : decode cX7_order 117 = .ok (.iconst (-1), 1) := by decide +kernel
theorem dX7_order_118 : decode cX7_order 118 = .ok (.ixor, 1) := by decide +kernel
theorem dX7_order_119 : decode cX7_order 119 = .ok (.iand, 1) := by decide +kernel
theorem dX7_order_120 : decode cX7_order 120 = .ok (.ifCond .ne 22, 3) := by decide +kernel
theorem dX7_order_123 : decode cX7_order 123 = .ok (.aload_n 0, 1) := by decide +kernel
theorem dX7_order_124 : decode cX7_order 124 = .ok (.getfield 94, 3) := by decide +kernel
theorem dX7_order_127 : decode cX7_order 127 = .ok (.aload_n 0, 1) := by decide +kernel
theorem dX7_order_128 : decode cX7_order 128 = .ok (.getfield 41, 3) := by decide +kernel
theorem dX7_order_131 : decode cX7_order 131 = .ok (.aload_n 0, 1) := by decide +kernel
theorem dX7_order_132 : decode cX7_order 132 = .ok (.getfield 107, 3) := by decide +kernel
theorem dX7_order_135 : decode cX7_order 135 = .ok (.iaload, 1) := by decide +kernel
theorem dX7_order_136 : decode cX7_order 136 = .ok (.iconst (-1), 1) := by decide +kernel
theorem dX7_order_137 : decode cX7_order 137 = .ok (.ixor, 1) := by decide +kernel
theorem dX7_order_138 : decode cX7_order 138 = .ok (.iand, 1) := by decide +kernel
theorem dX7_order_139 : decode cX7_order 139 = .ok (.ifCond .eq 7, 3) := by decide +kernel
theorem dX7_order_142 : decode cX7_order 142 = .ok (.iconst 1, 1) := by decide +kernel
theorem dX7_order_143 : decode cX7_order 143 = .ok (.goto 4, 3) := by decide +kernel
theorem dX7_order_146 : decode cX7_order 146 = .ok (.iconst 0, 1) := by decide +kernel
theorem dX7_order_147 : decode cX7_order 147 = .ok (.istore 4, 2) := by decide +kernel
theorem dX7_order_149 : decode cX7_order 149 = .ok (.iload_n 1, 1) := by decide +kernel
theorem dX7_order_150 : decode cX7_order 150 = .ok (.iconst 3, 1) := by decide +kernel
theorem dX7_order_151 : decode cX7_order 151 = .ok (.if_icmp .ne 10, 3) := by decide +kernel
theorem dX7_order_154 : decode cX7_order 154 = .ok (.iload 4, 2) := by decide +kernel
theorem dX7_order_156 : decode cX7_order 156 = .ok (.ifCond .eq 5, 3) := by decide +kernel
theorem dX7_order_159 : decode cX7_order 159 = .ok (.iconst 0, 1) := by decide +kernel
theorem dX7_order_160 : decode cX7_order 160 = .ok (.ireturn, 1) := by decide +kernel
theorem dX7_order_161 : decode cX7_order 161 = .ok (.aload_n 0, 1) := by decide +kernel
theorem dX7_order_162 : decode cX7_order 162 = .ok (.getfield 26, 3) := by decide +kernel
theorem dX7_order_165 : decode cX7_order 165 = .ok (.aload_n 0, 1) := by decide +kernel
theorem dX7_order_166 : decode cX7_order 166 = .ok (.getfield 107, 3) := by decide +kernel
theorem dX7_order_169 : decode cX7_order 169 = .ok (.iload_n 1, 1) := by decide +kernel
theorem dX7_order_170 : decode cX7_order 170 = .ok (.iconst 3, 1) := by decide +kernel
theorem dX7_order_171 : decode cX7_order 171 = .ok (.if_icmp .ne 7, 3) := by decide +kernel
theorem dX7_order_174 : decode cX7_order 174 = .ok (.iconst 2, 1) := by decide +kernel
theorem dX7_order_175 : decode cX7_order 175 = .ok (.goto 4, 3) := by decide +kernel
theorem dX7_order_178 : decode cX7_order 178 = .ok (.iload_n 1, 1) := by decide +kernel
theorem dX7_order_179 : decode cX7_order 179 = .ok (.iastore, 1) := by decide +kernel
theorem dX7_order_180 : decode cX7_order 180 = .ok (.aload_n 0, 1) := by decide +kernel
theorem dX7_order_181 : decode cX7_order 181 = .ok (.getfield 29, 3) := by decide +kernel
theorem dX7_order_184 : decode cX7_order 184 = .ok (.aload_n 0, 1) := by decide +kernel
theorem dX7_order_185 : decode cX7_order 185 = .ok (.getfield 107, 3) := by decide +kernel
theorem dX7_order_188 : decode cX7_order 188 = .ok (.iload_n 2, 1) := by decide +kernel
theorem dX7_order_189 : decode cX7_order 189 = .ok (.iastore, 1) := by decide +kernel
theorem dX7_order_190 : decode cX7_order 190 = .ok (.aload_n 0, 1) := by decide +kernel
theorem dX7_order_191 : decode cX7_order 191 = .ok (.getfield 32, 3) := by decide +kernel
theorem dX7_order_194 : decode cX7_order 194 = .ok (.aload_n 0, 1) := by decide +kernel
theorem dX7_order_195 : decode cX7_order 195 = .ok (.getfield 107, 3) := by decide +kernel
theorem dX7_order_198 : decode cX7_order 198 = .ok (.iload_n 1, 1) := by decide +kernel
theorem dX7_order_199 : decode cX7_order 199 = .ok (.iconst 2, 1) := by decide +kernel
theorem dX7_order_200 : decode cX7_order 200 = .ok (.if_icmp .lt 7, 3) := by decide +kernel
theorem dX7_order_203 : decode cX7_order 203 = .ok (.iload_n 3, 1) := by decide +kernel
theorem dX7_order_204 : decode cX7_order 204 = .ok (.goto 4, 3) := by decide +kernel
theorem dX7_order_207 : decode cX7_order 207 = .ok (.iconst (-1), 1) := by decide +kernel
theorem dX7_order_208 : decode cX7_order 208 = .ok (.iastore, 1) := by decide +kernel
theorem dX7_order_209 : decode cX7_order 209 = .ok (.aload_n 0, 1) := by decide +kernel
theorem dX7_order_210 : decode cX7_order 210 = .ok (.aload_n 0, 1) := by decide +kernel
theorem dX7_order_211 : decode cX7_order 211 = .ok (.getfield 107, 3) := by decide +kernel
theorem dX7_order_214 : decode cX7_order 214 = .ok (.iconst 1, 1) := by decide +kernel
theorem dX7_order_215 : decode cX7_order 215 = .ok (.iadd, 1) := by decide +kernel
theorem dX7_order_216 : decode cX7_order 216 = .ok (.putfield 107, 3) := by decide +kernel
theorem dX7_order_219 : decode cX7_order 219 = .ok (.aload_n 0, 1) := by decide +kernel
theorem dX7_order_220 : decode cX7_order 220 = .ok (.invokevirtual 113, 3) := by decide +kernel
theorem dX7_order_223 : decode cX7_order 223 = .ok (.iconst 1, 1) := by decide +kernel
theorem dX7_order_224 : decode cX7_order 224 = .ok (.ireturn, 1) := by decide +kernel
theorem dX7_undo_0 : decode cX7_undo 0 = .ok (.aload_n 0, 1) := by decide +kernel
theorem dX7_undo_1 : decode cX7_undo 1 = .ok (.getfield 107, 3) := by decide +kernel
theorem dX7_undo_4 : decode cX7_undo 4 = .ok (.ifCond .ne 5, 3) := by decide +kernel
theorem dX7_undo_7 : decode cX7_undo 7 = .ok (.iconst 0, 1) := by decide +kernel
theorem dX7_undo_8 : decode cX7_undo 8 = .ok (.ireturn, 1) := by decide +kernel
theorem dX7_undo_9 : decode cX7_undo 9 = .ok (.aload_n 0, 1) := by decide +kernel
theorem dX7_undo_10 : decode cX7_undo 10 = .ok (.aload_n 0, 1) := by decide +kernel
theorem dX7_undo_11 : decode cX7_undo 11 = .ok (.getfield 107, 3) := by decide +kernel
theorem dX7_undo_14 : decode cX7_undo 14 = .ok (.iconst 1, 1) := by decide +kernel
theorem dX7_undo_15 : decode cX7_undo 15 = .ok (.isub, 1) := by decide +kernel
theorem dX7_undo_16 : decode cX7_undo 16 = .ok (.putfield 107, 3) := by decide +kernel
theorem dX7_undo_19 : decode cX7_undo 19 = .ok (.iconst 1, 1) := by decide +kernel
theorem dX7_undo_20 : decode cX7_undo 20 = .ok (.ireturn, 1) := by decide +kernel
theorem dX7_bits_0 : decode cX7_bits 0 = .ok (.iconst 0, 1) := by decide +kernel
theorem dX7_bits_1 : decode cX7_bits 1 = .ok (.istore_n 1, 1) := by decide +kernel
theorem dX7_bits_2 : decode cX7_bits 2 = .ok (.iconst 0, 1) := by decide +kernel
theorem dX7_bits_3 : decode cX7_bits 3 = .ok (.istore_n 2, 1) := by decide +kernel
theorem dX7_bits_4 : decode cX7_bits 4 = .ok (.iload_n 2, 1) := by decide +kernel
theorem dX7_bits_5 : decode cX7_bits 5 = .ok (.bipush 18, 2) := by decide +kernel
theorem dX7_bits_7 : decode cX7_bits 7 = .ok (.if_icmp .ge 17, 3) := by decide +kernel
theorem dX7_bits_10 : decode cX7_bits 10 = .ok (.iload_n 1, 1) := by decide +kernel
theorem dX7_bits_11 : decode cX7_bits 11 = .ok (.iload_n 0, 1) := by decide +kernel
theorem dX7_bits_12 : decode cX7_bits 12 = .ok (.iload_n 2, 1) := by decide +kernel
theorem dX7_bits_13 : decode cX7_bits 13 = .ok (.ishr, 1) := by decide +kernel
theorem dX7_bits_14 : decode cX7_bits 14 = .ok (.iconst 1, 1) := by decide +kernel
theorem dX7_bits_15 : decode cX7_bits 15 = .ok (.iand, 1) := by decide +kernel
theorem dX7_bits_16 : decode cX7_bits 16 = .ok (.iadd, 1) := by decide +kernel
theorem dX7_bits_17 : decode cX7_bits 17 = .ok (.istore_n 1, 1) := by decide +kernel
theorem dX7_bits_18 : decode cX7_bits 18 = .ok (.iinc 2 1, 3) := by decide +kernel
theorem dX7_bits_21 : decode cX7_bits 21 = .ok (.goto (-17), 3) := by decide +kernel
end
section
theorem dX7_bits_24 : decode cX7_bits 24 = .ok (.iload_n 1, 1) := by decide +kernel
theorem dX7_bits_25 : decode cX7_bits 25 = .ok (.ireturn, 1) := by decide +kernel
theorem dX7_party_0 : decode cX7_party 0 = .ok (.iconst 0, 1) := by decide +kernel
theorem dX7_party_1 : decode cX7_party 1 = .ok (.istore_n 1, 1) := by decide +kernel
theorem dX7_party_2 : decode cX7_party 2 = .ok (.iconst 0, 1) := by decide +kernel
theorem dX7_party_3 : decode cX7_party 3 = .ok (.istore_n 2, 1) := by decide +kernel
theorem dX7_party_4 : decode cX7_party 4 = .ok (.iload_n 2, 1) := by decide +kernel
theorem dX7_party_5 : decode cX7_party 5 = .ok (.aload_n 0, 1) := by decide +kernel
theorem dX7_party_6 : decode cX7_party 6 = .ok (.getfield 107, 3) := by decide +kernel
theorem dX7_party_9 : decode cX7_party 9 = .ok (.if_icmp .gt 27, 3) := by decide +kernel
theorem dX7_party_12 : decode cX7_party 12 = .ok (.aload_n 0, 1) := by decide +kernel
theorem dX7_party_13 : decode cX7_party 13 = .ok (.iload_n 2, 1) := by decide +kernel
theorem dX7_party_14 : decode cX7_party 14 = .ok (.invokevirtual 120, 3) := by decide +kernel
theorem dX7_party_17 : decode cX7_party 17 = .ok (.aload_n 0, 1) := by decide +kernel
theorem dX7_party_18 : decode cX7_party 18 = .ok (.invokevirtual 123, 3) := by decide +kernel
theorem dX7_party_21 : decode cX7_party 21 = .ok (.iload_n 1, 1) := by decide +kernel
theorem dX7_party_22 : decode cX7_party 22 = .ok (.if_icmp .le 8, 3) := by decide +kernel
theorem dX7_party_25 : decode cX7_party 25 = .ok (.aload_n 0, 1) := by decide +kernel
theorem dX7_party_26 : decode cX7_party 26 = .ok (.invokevirtual 123, 3) := by decide +kernel
theorem dX7_party_29 : decode cX7_party 29 = .ok (.istore_n 1, 1) := by decide +kernel
theorem dX7_party_30 : decode cX7_party 30 = .ok (.iinc 2 1, 3) := by decide +kernel
theorem dX7_party_33 : decode cX7_party 33 = .ok (.goto (-29), 3) := by decide +kernel
theorem dX7_party_36 : decode cX7_party 36 = .ok (.iload_n 1, 1) := by decide +kernel
theorem dX7_party_37 : decode cX7_party 37 = .ok (.ireturn, 1) := by decide +kernel
theorem dX7_count_0 : decode cX7_count 0 = .ok (.iload_n 1, 1) := by decide +kernel
theorem dX7_count_1 : decode cX7_count 1 = .ok (.tableswitch 185 0 10 #[59, 64, 77, 82, 95, 108, 138, 143, 148, 153, 158], 59) := by decide +kernel
theorem dX7_count_60 : decode cX7_count 60 = .ok (.aload_n 0, 1) := by decide +kernel
theorem dX7_count_61 : decode cX7_count 61 = .ok (.getfield 107, 3) := by decide +kernel
theorem dX7_count_64 : decode cX7_count 64 = .ok (.ireturn, 1) := by decide +kernel
theorem dX7_count_65 : decode cX7_count 65 = .ok (.aload_n 0, 1) := by decide +kernel
theorem dX7_count_66 : decode cX7_count 66 = .ok (.aload_n 0, 1) := by decide +kernel
theorem dX7_count_67 : decode cX7_count 67 = .ok (.getfield 107, 3) := by decide +kernel
theorem dX7_count_70 : decode cX7_count 70 = .ok (.invokevirtual 120, 3) := by decide +kernel
theorem dX7_count_73 : decode cX7_count 73 = .ok (.aload_n 0, 1) := by decide +kernel
theorem dX7_count_74 : decode cX7_count 74 = .ok (.invokevirtual 123, 3) := by decide +kernel
theorem dX7_count_77 : decode cX7_count 77 = .ok (.ireturn, 1) := by decide +kernel
theorem dX7_count_78 : decode cX7_count 78 = .ok (.aload_n 0, 1) := by decide +kernel
theorem dX7_count_79 : decode cX7_count 79 = .ok (.invokevirtual 131, 3) := by decide +kernel
theorem dX7_count_82 : decode cX7_count 82 = .ok (.ireturn, 1) := by decide +kernel
theorem dX7_count_83 : decode cX7_count 83 = .ok (.aload_n 0, 1) := by decide +kernel
theorem dX7_count_84 : decode cX7_count 84 = .ok (.getfield 38, 3) := by decide +kernel
theorem dX7_count_87 : decode cX7_count 87 = .ok (.aload_n 0, 1) := by decide +kernel
theorem dX7_count_88 : decode cX7_count 88 = .ok (.getfield 107, 3) := by decide +kernel
theorem dX7_count_91 : decode cX7_count 91 = .ok (.iaload, 1) := by decide +kernel
theorem dX7_count_92 : decode cX7_count 92 = .ok (.invokestatic 134, 3) := by decide +kernel
theorem dX7_count_95 : decode cX7_count 95 = .ok (.ireturn, 1) := by decide +kernel
theorem dX7_count_96 : decode cX7_count 96 = .ok (.aload_n 0, 1) := by decide +kernel
theorem dX7_count_97 : decode cX7_count 97 = .ok (.getfield 41, 3) := by decide +kernel
theorem dX7_count_100 : decode cX7_count 100 = .ok (.aload_n 0, 1) := by decide +kernel
theorem dX7_count_101 : decode cX7_count 101 = .ok (.getfield 107, 3) := by decide +kernel
theorem dX7_count_104 : decode cX7_count 104 = .ok (.iaload, 1) := by decide +kernel
theorem dX7_count_105 : decode cX7_count 105 = .ok (.invokestatic 134, 3) := by decide +kernel
theorem dX7_count_108 : decode cX7_count 108 = .ok (.ireturn, 1) := by decide +kernel
theorem dX7_count_109 : decode cX7_count 109 = .ok (.aload_n 0, 1) := by decide +kernel
theorem dX7_count_110 : decode cX7_count 110 = .ok (.getfield 38, 3) := by decide +kernel
theorem dX7_count_113 : decode cX7_count 113 = .ok (.aload_n 0, 1) := by decide +kernel
theorem dX7_count_114 : decode cX7_count 114 = .ok (.getfield 107, 3) := by decide +kernel
theorem dX7_count_117 : decode cX7_count 117 = .ok (.iaload, 1) := by decide +kernel
theorem dX7_count_118 : decode cX7_count 118 = .ok (.ifCond .ne 19, 3) := by decide +kernel
theorem dX7_count_121 : decode cX7_count 121 = .ok (.aload_n 0, 1) := by decide +kernel
theorem dX7_count_122 : decode cX7_count 122 = .ok (.getfield 41, 3) := by decide +kernel
theorem dX7_count_125 : decode cX7_count 125 = .ok (.aload_n 0, 1) := by decide +kernel
theorem dX7_count_126 : decode cX7_count 126 = .ok (.getfield 107, 3) := by decide +kernel
theorem dX7_count_129 : decode cX7_count 129 = .ok (.iaload, 1) := by decide +kernel
theorem dX7_count_130 : decode cX7_count 130 = .ok (.ifCond .ne 7, 3) := by decide +kernel
theorem dX7_count_133 : decode cX7_count 133 = .ok (.iconst 1, 1) := by decide +kernel
theorem dX7_count_134 : decode cX7_count 134 = .ok (.goto 4, 3) := by decide +kernel
theorem dX7_count_137 : decode cX7_count 137 = .ok (.iconst 0, 1) := by decide +kernel
theorem dX7_count_138 : decode cX7_count 138 = .ok (.ireturn, 1) := by decide +kernel
theorem dX7_count_139 : decode cX7_count 139 = .ok (.aload_n 0, 1) := by decide +kernel
theorem dX7_count_140 : decode cX7_count 140 = .ok (.getfield 68, 3) := by decide +kernel
theorem dX7_count_143 : decode cX7_count 143 = .ok (.ireturn, 1) := by decide +kernel
theorem dX7_count_144 : decode cX7_count 144 = .ok (.aload_n 0, 1) := by decide +kernel
theorem dX7_count_145 : decode cX7_count 145 = .ok (.invokevirtual 138, 3) := by decide +kernel
theorem dX7_count_148 : decode cX7_count 148 = .ok (.ireturn, 1) := by decide +kernel
theorem dX7_count_149 : decode cX7_count 149 = .ok (.aload_n 0, 1) := by decide +kernel
theorem dX7_count_150 : decode cX7_count 150 = .ok (.getfield 74, 3) := by decide +kernel
theorem dX7_count_153 : decode cX7_count 153 = .ok (.ireturn, 1) := by decide +kernel
theorem dX7_count_154 : decode cX7_count 154 = .ok (.aload_n 0, 1) := by decide +kernel
theorem dX7_count_155 : decode cX7_count 155 = .ok (.invokevirtual 141, 3) := by decide +kernel
theorem dX7_count_158 : decode cX7_count 158 = .ok (.ireturn, 1) := by decide +kernel
theorem dX7_count_159 : decode cX7_count 159 = .ok (.aload_n 0, 1) := by decide +kernel
theorem dX7_count_160 : decode cX7_count 160 = .ok (.invokevirtual 141, 3) := by decide +kernel
theorem dX7_count_163 : decode cX7_count 163 = .ok (.iconst 1, 1) := by decide +kernel
theorem dX7_count_164 : decode cX7_count 164 = .ok (.if_icmp .ne 20, 3) := by decide +kernel
theorem dX7_count_167 : decode cX7_count 167 = .ok (.aload_n 0, 1) := by decide +kernel
theorem dX7_count_168 : decode cX7_count 168 = .ok (.invokevirtual 138, 3) := by decide +kernel
theorem dX7_count_171 : decode cX7_count 171 = .ok (.aload_n 0, 1) := by decide +kernel
theorem dX7_count_172 : decode cX7_count 172 = .ok (.getfield 68, 3) := by decide +kernel
theorem dX7_count_175 : decode cX7_count 175 = .ok (.iconst 1, 1) := by decide +kernel
theorem dX7_count_176 : decode cX7_count 176 = .ok (.isub, 1) := by decide +kernel
theorem dX7_count_177 : decode cX7_count 177 = .ok (.if_icmp .ne 7, 3) := by decide +kernel
theorem dX7_count_180 : decode cX7_count 180 = .ok (.iconst 1, 1) := by decide +kernel
theorem dX7_count_181 : decode cX7_count 181 = .ok (.goto 4, 3) := by decide +kernel
theorem dX7_count_184 : decode cX7_count 184 = .ok (.iconst 0, 1) := by decide +kernel
theorem dX7_count_185 : decode cX7_count 185 = .ok (.ireturn, 1) := by decide +kernel
theorem dX7_count_186 : decode cX7_count 186 = .ok (.iconst (-1), 1) := by decide +kernel
theorem dX7_count_187 : decode cX7_count 187 = .ok (.ireturn, 1) := by decide +kernel
theorem dX7_placeOf_0 : decode cX7_placeOf 0 = .ok (.iconst 0, 1) := by decide +kernel
theorem dX7_placeOf_1 : decode cX7_placeOf 1 = .ok (.istore_n 2, 1) := by decide +kernel
theorem dX7_placeOf_2 : decode cX7_placeOf 2 = .ok (.aload_n 0, 1) := by decide +kernel
theorem dX7_placeOf_3 : decode cX7_placeOf 3 = .ok (.getfield 20, 3) := by decide +kernel
theorem dX7_placeOf_6 : decode cX7_placeOf 6 = .ok (.iload_n 2, 1) := by decide +kernel
theorem dX7_placeOf_7 : decode cX7_placeOf 7 = .ok (.iaload, 1) := by decide +kernel
theorem dX7_placeOf_8 : decode cX7_placeOf 8 = .ok (.iload_n 1, 1) := by decide +kernel
theorem dX7_placeOf_9 : decode cX7_placeOf 9 = .ok (.if_icmp .eq 10, 3) := by decide +kernel
theorem dX7_placeOf_12 : decode cX7_placeOf 12 = .ok (.iload_n 2, 1) := by decide +kernel
theorem dX7_placeOf_13 : decode cX7_placeOf 13 = .ok (.iconst 1, 1) := by decide +kernel
theorem dX7_placeOf_14 : decode cX7_placeOf 14 = .ok (.iadd, 1) := by decide +kernel
theorem dX7_placeOf_15 : decode cX7_placeOf 15 = .ok (.istore_n 2, 1) := by decide +kernel
theorem dX7_placeOf_16 : decode cX7_placeOf 16 = .ok (.goto (-14), 3) := by decide +kernel
theorem dX7_placeOf_19 : decode cX7_placeOf 19 = .ok (.iload_n 2, 1) := by decide +kernel
theorem dX7_placeOf_20 : decode cX7_placeOf 20 = .ok (.ireturn, 1) := by decide +kernel
theorem dX7_degree_0 : decode cX7_degree 0 = .ok (.iconst 0, 1) := by decide +kernel
theorem dX7_degree_1 : decode cX7_degree 1 = .ok (.istore_n 2, 1) := by decide +kernel
theorem dX7_degree_2 : decode cX7_degree 2 = .ok (.iconst 0, 1) := by decide +kernel
theorem dX7_degree_3 : decode cX7_degree 3 = .ok (.istore_n 3, 1) := by decide +kernel
theorem dX7_degree_4 : decode cX7_degree 4 = .ok (.iload_n 3, 1) := by decide +kernel
theorem dX7_degree_5 : decode cX7_degree 5 = .ok (.bipush 18, 2) := by decide +kernel
theorem dX7_degree_7 : decode cX7_degree 7 = .ok (.if_icmp .ge 26, 3) := by decide +kernel
theorem dX7_degree_10 : decode cX7_degree 10 = .ok (.iload_n 2, 1) := by decide +kernel
theorem dX7_degree_11 : decode cX7_degree 11 = .ok (.aload_n 0, 1) := by decide +kernel
theorem dX7_degree_12 : decode cX7_degree 12 = .ok (.iload_n 3, 1) := by decide +kernel
theorem dX7_degree_13 : decode cX7_degree 13 = .ok (.iload_n 1, 1) := by decide +kernel
theorem dX7_degree_14 : decode cX7_degree 14 = .ok (.invokevirtual 116, 3) := by decide +kernel
theorem dX7_degree_17 : decode cX7_degree 17 = .ok (.ifCond .eq 7, 3) := by decide +kernel
theorem dX7_degree_20 : decode cX7_degree 20 = .ok (.iconst 1, 1) := by decide +kernel
theorem dX7_degree_21 : decode cX7_degree 21 = .ok (.goto 4, 3) := by decide +kernel
theorem dX7_degree_24 : decode cX7_degree 24 = .ok (.iconst 0, 1) := by decide +kernel
theorem dX7_degree_25 : decode cX7_degree 25 = .ok (.iadd, 1) := by decide +kernel
theorem dX7_degree_26 : decode cX7_degree 26 = .ok (.istore_n 2, 1) := by decide +kernel
theorem dX7_degree_27 : decode cX7_degree 27 = .ok (.iinc 3 1, 3) := by decide +kernel
theorem dX7_degree_30 : decode cX7_degree 30 = .ok (.goto (-26), 3) := by decide +kernel
theorem dX7_degree_33 : decode cX7_degree 33 = .ok (.iload_n 2, 1) := by decide +kernel
theorem dX7_degree_34 : decode cX7_degree 34 = .ok (.ireturn, 1) := by decide +kernel
theorem dX7_look_0 : decode cX7_look 0 = .ok (.iload_n 2, 1) := by decide +kernel
theorem dX7_look_1 : decode cX7_look 1 = .ok (.ifCond .lt 75, 3) := by decide +kernel
theorem dX7_look_4 : decode cX7_look 4 = .ok (.iload_n 2, 1) := by decide +kernel
theorem dX7_look_5 : decode cX7_look 5 = .ok (.iconst 4, 1) := by decide +kernel
theorem dX7_look_6 : decode cX7_look 6 = .ok (.if_icmp .ge 70, 3) := by decide +kernel
theorem dX7_look_9 : decode cX7_look 9 = .ok (.aload_n 0, 1) := by decide +kernel
theorem dX7_look_10 : decode cX7_look 10 = .ok (.iload_n 1, 1) := by decide +kernel
theorem dX7_look_11 : decode cX7_look 11 = .ok (.invokevirtual 80, 3) := by decide +kernel
theorem dX7_look_14 : decode cX7_look 14 = .ok (.ifCond .ne 5, 3) := by decide +kernel
theorem dX7_look_17 : decode cX7_look 17 = .ok (.iconst (-1), 1) := by decide +kernel
theorem dX7_look_18 : decode cX7_look 18 = .ok (.ireturn, 1) := by decide +kernel
theorem dX7_look_19 : decode cX7_look 19 = .ok (.iload_n 2, 1) := by decide +kernel
theorem dX7_look_20 : decode cX7_look 20 = .ok (.ifCond .ne 18, 3) := by decide +kernel
theorem dX7_look_23 : decode cX7_look 23 = .ok (.aload_n 0, 1) := by decide +kernel
theorem dX7_look_24 : decode cX7_look 24 = .ok (.getfield 35, 3) := by decide +kernel
theorem dX7_look_27 : decode cX7_look 27 = .ok (.bipush 12, 2) := by decide +kernel
theorem dX7_look_29 : decode cX7_look 29 = .ok (.aload_n 0, 1) := by decide +kernel
theorem dX7_look_30 : decode cX7_look 30 = .ok (.getfield 107, 3) := by decide +kernel
theorem dX7_look_33 : decode cX7_look 33 = .ok (.imul, 1) := by decide +kernel
theorem dX7_look_34 : decode cX7_look 34 = .ok (.iload_n 1, 1) := by decide +kernel
theorem dX7_look_35 : decode cX7_look 35 = .ok (.iadd, 1) := by decide +kernel
theorem dX7_look_36 : decode cX7_look 36 = .ok (.iaload, 1) := by decide +kernel
theorem dX7_look_37 : decode cX7_look 37 = .ok (.ireturn, 1) := by decide +kernel
theorem dX7_look_38 : decode cX7_look 38 = .ok (.iload_n 2, 1) := by decide +kernel
theorem dX7_look_39 : decode cX7_look 39 = .ok (.iconst 1, 1) := by decide +kernel
theorem dX7_look_40 : decode cX7_look 40 = .ok (.if_icmp .ne 17, 3) := by decide +kernel
theorem dX7_look_43 : decode cX7_look 43 = .ok (.aload_n 0, 1) := by decide +kernel
theorem dX7_look_44 : decode cX7_look 44 = .ok (.getfield 38, 3) := by decide +kernel
theorem dX7_look_47 : decode cX7_look 47 = .ok (.aload_n 0, 1) := by decide +kernel
theorem dX7_look_48 : decode cX7_look 48 = .ok (.getfield 107, 3) := by decide +kernel
theorem dX7_look_51 : decode cX7_look 51 = .ok (.iaload, 1) := by decide +kernel
theorem dX7_look_52 : decode cX7_look 52 = .ok (.iload_n 1, 1) := by decide +kernel
theorem dX7_look_53 : decode cX7_look 53 = .ok (.ishr, 1) := by decide +kernel
theorem dX7_look_54 : decode cX7_look 54 = .ok (.iconst 1, 1) := by decide +kernel
theorem dX7_look_55 : decode cX7_look 55 = .ok (.iand, 1) := by decide +kernel
theorem dX7_look_56 : decode cX7_look 56 = .ok (.ireturn, 1) := by decide +kernel
theorem dX7_look_57 : decode cX7_look 57 = .ok (.iload_n 2, 1) := by decide +kernel
theorem dX7_look_58 : decode cX7_look 58 = .ok (.iconst 2, 1) := by decide +kernel
theorem dX7_look_59 : decode cX7_look 59 = .ok (.if_icmp .ne 11, 3) := by decide +kernel
theorem dX7_look_62 : decode cX7_look 62 = .ok (.aload_n 0, 1) := by decide +kernel
theorem dX7_look_63 : decode cX7_look 63 = .ok (.iload_n 1, 1) := by decide +kernel
theorem dX7_look_64 : decode cX7_look 64 = .ok (.invokevirtual 144, 3) := by decide +kernel
theorem dX7_look_67 : decode cX7_look 67 = .ok (.goto 8, 3) := by decide +kernel
theorem dX7_look_70 : decode cX7_look 70 = .ok (.aload_n 0, 1) := by decide +kernel
theorem dX7_look_71 : decode cX7_look 71 = .ok (.iload_n 1, 1) := by decide +kernel
theorem dX7_look_72 : decode cX7_look 72 = .ok (.invokevirtual 147, 3) := by decide +kernel
theorem dX7_look_75 : decode cX7_look 75 = .ok (.ireturn, 1) := by decide +kernel
theorem dX7_look_76 : decode cX7_look 76 = .ok (.iload_n 2, 1) := by decide +kernel
theorem dX7_look_77 : decode cX7_look 77 = .ok (.iconst 4, 1) := by decide +kernel
theorem dX7_look_78 : decode cX7_look 78 = .ok (.if_icmp .lt 17, 3) := by decide +kernel
theorem dX7_look_81 : decode cX7_look 81 = .ok (.iload_n 2, 1) := by decide +kernel
theorem dX7_look_82 : decode cX7_look 82 = .ok (.bipush 7, 2) := by decide +kernel
theorem dX7_look_84 : decode cX7_look 84 = .ok (.if_icmp .gt 11, 3) := by decide +kernel
theorem dX7_look_87 : decode cX7_look 87 = .ok (.aload_n 0, 1) := by decide +kernel
theorem dX7_look_88 : decode cX7_look 88 = .ok (.iload_n 1, 1) := by decide +kernel
theorem dX7_look_89 : decode cX7_look 89 = .ok (.invokevirtual 84, 3) := by decide +kernel
theorem dX7_look_92 : decode cX7_look 92 = .ok (.ifCond .ne 5, 3) := by decide +kernel
theorem dX7_look_95 : decode cX7_look 95 = .ok (.iconst (-1), 1) := by decide +kernel
theorem dX7_look_96 : decode cX7_look 96 = .ok (.ireturn, 1) := by decide +kernel
theorem dX7_look_97 : decode cX7_look 97 = .ok (.iload_n 2, 1) := by decide +kernel
theorem dX7_look_98 : decode cX7_look 98 = .ok (.iconst 4, 1) := by decide +kernel
theorem dX7_look_99 : decode cX7_look 99 = .ok (.if_icmp .ne 10, 3) := by decide +kernel
theorem dX7_look_102 : decode cX7_look 102 = .ok (.aload_n 0, 1) := by decide +kernel
theorem dX7_look_103 : decode cX7_look 103 = .ok (.getfield 7, 3) := by decide +kernel
theorem dX7_look_106 : decode cX7_look 106 = .ok (.iload_n 1, 1) := by decide +kernel
theorem dX7_look_107 : decode cX7_look 107 = .ok (.iaload, 1) := by decide +kernel
theorem dX7_look_108 : decode cX7_look 108 = .ok (.ireturn, 1) := by decide +kernel
theorem dX7_look_109 : decode cX7_look 109 = .ok (.iload_n 2, 1) := by decide +kernel
theorem dX7_look_110 : decode cX7_look 110 = .ok (.iconst 5, 1) := by decide +kernel
theorem dX7_look_111 : decode cX7_look 111 = .ok (.if_icmp .ne 10, 3) := by decide +kernel
theorem dX7_look_114 : decode cX7_look 114 = .ok (.aload_n 0, 1) := by decide +kernel
theorem dX7_look_115 : decode cX7_look 115 = .ok (.getfield 13, 3) := by decide +kernel
theorem dX7_look_118 : decode cX7_look 118 = .ok (.iload_n 1, 1) := by decide +kernel
theorem dX7_look_119 : decode cX7_look 119 = .ok (.iaload, 1) := by decide +kernel
theorem dX7_look_120 : decode cX7_look 120 = .ok (.ireturn, 1) := by decide +kernel
theorem dX7_look_121 : decode cX7_look 121 = .ok (.iload_n 2, 1) := by decide +kernel
theorem dX7_look_122 : decode cX7_look 122 = .ok (.bipush 6, 2) := by decide +kernel
theorem dX7_look_124 : decode cX7_look 124 = .ok (.if_icmp .ne 17, 3) := by decide +kernel
theorem dX7_look_127 : decode cX7_look 127 = .ok (.aload_n 0, 1) := by decide +kernel
theorem dX7_look_128 : decode cX7_look 128 = .ok (.getfield 41, 3) := by decide +kernel
theorem dX7_look_131 : decode cX7_look 131 = .ok (.aload_n 0, 1) := by decide +kernel
theorem dX7_look_132 : decode cX7_look 132 = .ok (.getfield 107, 3) := by decide +kernel
theorem dX7_look_135 : decode cX7_look 135 = .ok (.iaload, 1) := by decide +kernel
theorem dX7_look_136 : decode cX7_look 136 = .ok (.iload_n 1, 1) := by decide +kernel
theorem dX7_look_137 : decode cX7_look 137 = .ok (.ishr, 1) := by decide +kernel
theorem dX7_look_138 : decode cX7_look 138 = .ok (.iconst 1, 1) := by decide +kernel
theorem dX7_look_139 : decode cX7_look 139 = .ok (.iand, 1) := by decide +kernel
theorem dX7_look_140 : decode cX7_look 140 = .ok (.ireturn, 1) := by decide +kernel
theorem dX7_look_141 : decode cX7_look 141 = .ok (.aload_n 0, 1) := by decide +kernel
theorem dX7_look_142 : decode cX7_look 142 = .ok (.getfield 107, 3) := by decide +kernel
theorem dX7_look_145 : decode cX7_look 145 = .ok (.ifCond .le 42, 3) := by decide +kernel
theorem dX7_look_148 : decode cX7_look 148 = .ok (.aload_n 0, 1) := by decide +kernel
theorem dX7_look_149 : decode cX7_look 149 = .ok (.getfield 41, 3) := by decide +kernel
theorem dX7_look_152 : decode cX7_look 152 = .ok (.aload_n 0, 1) := by decide +kernel
theorem dX7_look_153 : decode cX7_look 153 = .ok (.getfield 107, 3) := by decide +kernel
theorem dX7_look_156 : decode cX7_look 156 = .ok (.iaload, 1) := by decide +kernel
theorem dX7_look_157 : decode cX7_look 157 = .ok (.iload_n 1, 1) := by decide +kernel
theorem dX7_look_158 : decode cX7_look 158 = .ok (.ishr, 1) := by decide +kernel
theorem dX7_look_159 : decode cX7_look 159 = .ok (.iconst 1, 1) := by decide +kernel
theorem dX7_look_160 : decode cX7_look 160 = .ok (.iand, 1) := by decide +kernel
theorem dX7_look_161 : decode cX7_look 161 = .ok (.iconst 1, 1) := by decide +kernel
theorem dX7_look_162 : decode cX7_look 162 = .ok (.if_icmp .ne 25, 3) := by decide +kernel
theorem dX7_look_165 : decode cX7_look 165 = .ok (.aload_n 0, 1) := by decide +kernel
theorem dX7_look_166 : decode cX7_look 166 = .ok (.getfield 41, 3) := by decide +kernel
theorem dX7_look_169 : decode cX7_look 169 = .ok (.aload_n 0, 1) := by decide +kernel
theorem dX7_look_170 : decode cX7_look 170 = .ok (.getfield 107, 3) := by decide +kernel
theorem dX7_look_173 : decode cX7_look 173 = .ok (.iconst 1, 1) := by decide +kernel
theorem dX7_look_174 : decode cX7_look 174 = .ok (.isub, 1) := by decide +kernel
theorem dX7_look_175 : decode cX7_look 175 = .ok (.iaload, 1) := by decide +kernel
theorem dX7_look_176 : decode cX7_look 176 = .ok (.iload_n 1, 1) := by decide +kernel
theorem dX7_look_177 : decode cX7_look 177 = .ok (.ishr, 1) := by decide +kernel
theorem dX7_look_178 : decode cX7_look 178 = .ok (.iconst 1, 1) := by decide +kernel
theorem dX7_look_179 : decode cX7_look 179 = .ok (.iand, 1) := by decide +kernel
theorem dX7_look_180 : decode cX7_look 180 = .ok (.ifCond .ne 7, 3) := by decide +kernel
theorem dX7_look_183 : decode cX7_look 183 = .ok (.iconst 1, 1) := by decide +kernel
theorem dX7_look_184 : decode cX7_look 184 = .ok (.goto 4, 3) := by decide +kernel
theorem dX7_look_187 : decode cX7_look 187 = .ok (.iconst 0, 1) := by decide +kernel
theorem dX7_look_188 : decode cX7_look 188 = .ok (.ireturn, 1) := by decide +kernel
theorem dX7_number_0 : decode cX7_number 0 = .ok (.iconst 0, 1) := by decide +kernel
theorem dX7_number_1 : decode cX7_number 1 = .ok (.istore_n 2, 1) := by decide +kernel
theorem dX7_number_2 : decode cX7_number 2 = .ok (.iconst 0, 1) := by decide +kernel
theorem dX7_number_3 : decode cX7_number 3 = .ok (.istore_n 3, 1) := by decide +kernel
theorem dX7_number_4 : decode cX7_number 4 = .ok (.iload_n 3, 1) := by decide +kernel
theorem dX7_number_5 : decode cX7_number 5 = .ok (.bipush 6, 2) := by decide +kernel
theorem dX7_number_7 : decode cX7_number 7 = .ok (.if_icmp .ge 20, 3) := by decide +kernel
theorem dX7_number_10 : decode cX7_number 10 = .ok (.iload_n 2, 1) := by decide +kernel
theorem dX7_number_11 : decode cX7_number 11 = .ok (.iconst 2, 1) := by decide +kernel
theorem dX7_number_12 : decode cX7_number 12 = .ok (.ishl, 1) := by decide +kernel
theorem dX7_number_13 : decode cX7_number 13 = .ok (.aload_n 0, 1) := by decide +kernel
theorem dX7_number_14 : decode cX7_number 14 = .ok (.getfield 23, 3) := by decide +kernel
theorem dX7_number_17 : decode cX7_number 17 = .ok (.iload_n 3, 1) := by decide +kernel
theorem dX7_number_18 : decode cX7_number 18 = .ok (.iaload, 1) := by decide +kernel
theorem dX7_number_19 : decode cX7_number 19 = .ok (.ior, 1) := by decide +kernel
theorem dX7_number_20 : decode cX7_number 20 = .ok (.istore_n 2, 1) := by decide +kernel
theorem dX7_number_21 : decode cX7_number 21 = .ok (.iinc 3 1, 3) := by decide +kernel
theorem dX7_number_24 : decode cX7_number 24 = .ok (.goto (-20), 3) := by decide +kernel
theorem dX7_number_27 : decode cX7_number 27 = .ok (.iconst 0, 1) := by decide +kernel
theorem dX7_number_28 : decode cX7_number 28 = .ok (.istore_n 3, 1) := by decide +kernel
theorem dX7_number_29 : decode cX7_number 29 = .ok (.iconst 0, 1) := by decide +kernel
theorem dX7_number_30 : decode cX7_number 30 = .ok (.istore 4, 2) := by decide +kernel
theorem dX7_number_32 : decode cX7_number 32 = .ok (.iload 4, 2) := by decide +kernel
theorem dX7_number_34 : decode cX7_number 34 = .ok (.bipush 18, 2) := by decide +kernel
theorem dX7_number_36 : decode cX7_number 36 = .ok (.if_icmp .ge 40, 3) := by decide +kernel
theorem dX7_number_39 : decode cX7_number 39 = .ok (.aload_n 0, 1) := by decide +kernel
theorem dX7_number_40 : decode cX7_number 40 = .ok (.getfield 16, 3) := by decide +kernel
theorem dX7_number_43 : decode cX7_number 43 = .ok (.iload 4, 2) := by decide +kernel
theorem dX7_number_45 : decode cX7_number 45 = .ok (.baload, 1) := by decide +kernel
theorem dX7_number_46 : decode cX7_number 46 = .ok (.ifCond .ne 6, 3) := by decide +kernel
theorem dX7_number_49 : decode cX7_number 49 = .ok (.goto 21, 3) := by decide +kernel
theorem dX7_number_52 : decode cX7_number 52 = .ok (.iload_n 2, 1) := by decide +kernel
theorem dX7_number_53 : decode cX7_number 53 = .ok (.iconst 1, 1) := by decide +kernel
theorem dX7_number_54 : decode cX7_number 54 = .ok (.ishl, 1) := by decide +kernel
theorem dX7_number_55 : decode cX7_number 55 = .ok (.aload_n 0, 1) := by decide +kernel
theorem dX7_number_56 : decode cX7_number 56 = .ok (.getfield 94, 3) := by decide +kernel
theorem dX7_number_59 : decode cX7_number 59 = .ok (.iload 4, 2) := by decide +kernel
theorem dX7_number_61 : decode cX7_number 61 = .ok (.ishr, 1) := by decide +kernel
theorem dX7_number_62 : decode cX7_number 62 = .ok (.iconst 1, 1) := by decide +kernel
theorem dX7_number_63 : decode cX7_number 63 = .ok (.iand, 1) := by decide +kernel
theorem dX7_number_64 : decode cX7_number 64 = .ok (.ior, 1) := by decide +kernel
theorem dX7_number_65 : decode cX7_number 65 = .ok (.istore_n 2, 1) := by decide +kernel
theorem dX7_number_66 : decode cX7_number 66 = .ok (.iload_n 3, 1) := by decide +kernel
theorem dX7_number_67 : decode cX7_number 67 = .ok (.iconst 1, 1) := by decide +kernel
theorem dX7_number_68 : decode cX7_number 68 = .ok (.iadd, 1) := by decide +kernel
theorem dX7_number_69 : decode cX7_number 69 = .ok (.istore_n 3, 1) := by decide +kernel
theorem dX7_number_70 : decode cX7_number 70 = .ok (.iinc 4 1, 3) := by decide +kernel
theorem dX7_number_73 : decode cX7_number 73 = .ok (.goto (-41), 3) := by decide +kernel
theorem dX7_number_76 : decode cX7_number 76 = .ok (.iload_n 2, 1) := by decide +kernel
theorem dX7_number_77 : decode cX7_number 77 = .ok (.bipush 6, 2) := by decide +kernel
theorem dX7_number_79 : decode cX7_number 79 = .ok (.ishl, 1) := by decide +kernel
theorem dX7_number_80 : decode cX7_number 80 = .ok (.aload_n 0, 1) := by decide +kernel
theorem dX7_number_81 : decode cX7_number 81 = .ok (.getfield 91, 3) := by decide +kernel
theorem dX7_number_84 : decode cX7_number 84 = .ok (.ior, 1) := by decide +kernel
theorem dX7_number_85 : decode cX7_number 85 = .ok (.iconst 1, 1) := by decide +kernel
theorem dX7_number_86 : decode cX7_number 86 = .ok (.ishl, 1) := by decide +kernel
theorem dX7_number_87 : decode cX7_number 87 = .ok (.iload_n 1, 1) := by decide +kernel
theorem dX7_number_88 : decode cX7_number 88 = .ok (.iconst 1, 1) := by decide +kernel
theorem dX7_number_89 : decode cX7_number 89 = .ok (.if_icmp .ne 14, 3) := by decide +kernel
theorem dX7_number_92 : decode cX7_number 92 = .ok (.aload_n 0, 1) := by decide +kernel
theorem dX7_number_93 : decode cX7_number 93 = .ok (.getfield 150, 3) := by decide +kernel
theorem dX7_number_96 : decode cX7_number 96 = .ok (.ifCond .eq 7, 3) := by decide +kernel
theorem dX7_number_99 : decode cX7_number 99 = .ok (.iconst 1, 1) := by decide +kernel
theorem dX7_number_100 : decode cX7_number 100 = .ok (.goto 4, 3) := by decide +kernel
theorem dX7_number_103 : decode cX7_number 103 = .ok (.iconst 0, 1) := by decide +kernel
theorem dX7_number_104 : decode cX7_number 104 = .ok (.ior, 1) := by decide +kernel
theorem dX7_number_105 : decode cX7_number 105 = .ok (.ireturn, 1) := by decide +kernel
theorem dX7_shows_0 : decode cX7_shows 0 = .ok (.aload_n 0, 1) := by decide +kernel
theorem dX7_shows_1 : decode cX7_shows 1 = .ok (.iload_n 1, 1) := by decide +kernel
theorem dX7_shows_2 : decode cX7_shows 2 = .ok (.iconst 1, 1) := by decide +kernel
theorem dX7_shows_3 : decode cX7_shows 3 = .ok (.iand, 1) := by decide +kernel
theorem dX7_shows_4 : decode cX7_shows 4 = .ok (.iconst 1, 1) := by decide +kernel
theorem dX7_shows_5 : decode cX7_shows 5 = .ok (.if_icmp .ne 7, 3) := by decide +kernel
theorem dX7_shows_8 : decode cX7_shows 8 = .ok (.iconst 1, 1) := by decide +kernel
theorem dX7_shows_9 : decode cX7_shows 9 = .ok (.goto 4, 3) := by decide +kernel
theorem dX7_shows_12 : decode cX7_shows 12 = .ok (.iconst 0, 1) := by decide +kernel
theorem dX7_shows_13 : decode cX7_shows 13 = .ok (.putfield 150, 3) := by decide +kernel
theorem dX7_shows_16 : decode cX7_shows 16 = .ok (.aload_n 0, 1) := by decide +kernel
theorem dX7_shows_17 : decode cX7_shows 17 = .ok (.iload_n 1, 1) := by decide +kernel
theorem dX7_shows_18 : decode cX7_shows 18 = .ok (.iconst 1, 1) := by decide +kernel
theorem dX7_shows_19 : decode cX7_shows 19 = .ok (.ishr, 1) := by decide +kernel
theorem dX7_shows_20 : decode cX7_shows 20 = .ok (.bipush 63, 2) := by decide +kernel
theorem dX7_shows_22 : decode cX7_shows 22 = .ok (.iand, 1) := by decide +kernel
theorem dX7_shows_23 : decode cX7_shows 23 = .ok (.putfield 91, 3) := by decide +kernel
theorem dX7_shows_26 : decode cX7_shows 26 = .ok (.iload_n 1, 1) := by decide +kernel
theorem dX7_shows_27 : decode cX7_shows 27 = .ok (.bipush 7, 2) := by decide +kernel
theorem dX7_shows_29 : decode cX7_shows 29 = .ok (.ishr, 1) := by decide +kernel
theorem dX7_shows_30 : decode cX7_shows 30 = .ok (.istore_n 3, 1) := by decide +kernel
theorem dX7_shows_31 : decode cX7_shows 31 = .ok (.aload_n 0, 1) := by decide +kernel
theorem dX7_shows_32 : decode cX7_shows 32 = .ok (.iconst 0, 1) := by decide +kernel
theorem dX7_shows_33 : decode cX7_shows 33 = .ok (.putfield 94, 3) := by decide +kernel
theorem dX7_shows_36 : decode cX7_shows 36 = .ok (.bipush 17, 2) := by decide +kernel
theorem dX7_shows_38 : decode cX7_shows 38 = .ok (.istore 4, 2) := by decide +kernel
theorem dX7_shows_40 : decode cX7_shows 40 = .ok (.iload 4, 2) := by decide +kernel
theorem dX7_shows_42 : decode cX7_shows 42 = .ok (.ifCond .lt 41, 3) := by decide +kernel
theorem dX7_shows_45 : decode cX7_shows 45 = .ok (.aload_n 0, 1) := by decide +kernel
theorem dX7_shows_46 : decode cX7_shows 46 = .ok (.getfield 16, 3) := by decide +kernel
theorem dX7_shows_49 : decode cX7_shows 49 = .ok (.iload 4, 2) := by decide +kernel
theorem dX7_shows_51 : decode cX7_shows 51 = .ok (.baload, 1) := by decide +kernel
theorem dX7_shows_52 : decode cX7_shows 52 = .ok (.ifCond .ne 6, 3) := by decide +kernel
theorem dX7_shows_55 : decode cX7_shows 55 = .ok (.goto 22, 3) := by decide +kernel
theorem dX7_shows_58 : decode cX7_shows 58 = .ok (.aload_n 0, 1) := by decide +kernel
theorem dX7_shows_59 : decode cX7_shows 59 = .ok (.aload_n 0, 1) := by decide +kernel
theorem dX7_shows_60 : decode cX7_shows 60 = .ok (.getfield 94, 3) := by decide +kernel
theorem dX7_shows_63 : decode cX7_shows 63 = .ok (.iload_n 3, 1) := by decide +kernel
theorem dX7_shows_64 : decode cX7_shows 64 = .ok (.iconst 1, 1) := by decide +kernel
theorem dX7_shows_65 : decode cX7_shows 65 = .ok (.iand, 1) := by decide +kernel
theorem dX7_shows_66 : decode cX7_shows 66 = .ok (.iload 4, 2) := by decide +kernel
theorem dX7_shows_68 : decode cX7_shows 68 = .ok (.ishl, 1) := by decide +kernel
theorem dX7_shows_69 : decode cX7_shows 69 = .ok (.ior, 1) := by decide +kernel
theorem dX7_shows_70 : decode cX7_shows 70 = .ok (.putfield 94, 3) := by decide +kernel
theorem dX7_shows_73 : decode cX7_shows 73 = .ok (.iload_n 3, 1) := by decide +kernel
theorem dX7_shows_74 : decode cX7_shows 74 = .ok (.iconst 1, 1) := by decide +kernel
theorem dX7_shows_75 : decode cX7_shows 75 = .ok (.ishr, 1) := by decide +kernel
theorem dX7_shows_76 : decode cX7_shows 76 = .ok (.istore_n 3, 1) := by decide +kernel
theorem dX7_shows_77 : decode cX7_shows 77 = .ok (.iinc 4 (-1), 3) := by decide +kernel
theorem dX7_shows_80 : decode cX7_shows 80 = .ok (.goto (-40), 3) := by decide +kernel
theorem dX7_shows_83 : decode cX7_shows 83 = .ok (.iconst 5, 1) := by decide +kernel
theorem dX7_shows_84 : decode cX7_shows 84 = .ok (.istore 4, 2) := by decide +kernel
theorem dX7_shows_86 : decode cX7_shows 86 = .ok (.iload 4, 2) := by decide +kernel
theorem dX7_shows_88 : decode cX7_shows 88 = .ok (.ifCond .lt 23, 3) := by decide +kernel
theorem dX7_shows_91 : decode cX7_shows 91 = .ok (.aload_n 0, 1) := by decide +kernel
theorem dX7_shows_92 : decode cX7_shows 92 = .ok (.getfield 23, 3) := by decide +kernel
theorem dX7_shows_95 : decode cX7_shows 95 = .ok (.iload 4, 2) := by decide +kernel
theorem dX7_shows_97 : decode cX7_shows 97 = .ok (.iload_n 3, 1) := by decide +kernel
theorem dX7_shows_98 : decode cX7_shows 98 = .ok (.iconst 3, 1) := by decide +kernel
theorem dX7_shows_99 : decode cX7_shows 99 = .ok (.iand, 1) := by decide +kernel
theorem dX7_shows_100 : decode cX7_shows 100 = .ok (.iastore, 1) := by decide +kernel
theorem dX7_shows_101 : decode cX7_shows 101 = .ok (.iload_n 3, 1) := by decide +kernel
theorem dX7_shows_102 : decode cX7_shows 102 = .ok (.iconst 2, 1) := by decide +kernel
theorem dX7_shows_103 : decode cX7_shows 103 = .ok (.ishr, 1) := by decide +kernel
theorem dX7_shows_104 : decode cX7_shows 104 = .ok (.istore_n 3, 1) := by decide +kernel
theorem dX7_shows_105 : decode cX7_shows 105 = .ok (.iinc 4 (-1), 3) := by decide +kernel
theorem dX7_shows_108 : decode cX7_shows 108 = .ok (.goto (-22), 3) := by decide +kernel
theorem dX7_shows_111 : decode cX7_shows 111 = .ok (.bipush 6, 2) := by decide +kernel
theorem dX7_shows_113 : decode cX7_shows 113 = .ok (.istore 4, 2) := by decide +kernel
theorem dX7_shows_115 : decode cX7_shows 115 = .ok (.iload 4, 2) := by decide +kernel
theorem dX7_shows_117 : decode cX7_shows 117 = .ok (.bipush 12, 2) := by decide +kernel
theorem dX7_shows_119 : decode cX7_shows 119 = .ok (.if_icmp .ge 17, 3) := by decide +kernel
theorem dX7_shows_122 : decode cX7_shows 122 = .ok (.aload_n 0, 1) := by decide +kernel
theorem dX7_shows_123 : decode cX7_shows 123 = .ok (.getfield 23, 3) := by decide +kernel
theorem dX7_shows_126 : decode cX7_shows 126 = .ok (.iload 4, 2) := by decide +kernel
theorem dX7_shows_128 : decode cX7_shows 128 = .ok (.iconst 0, 1) := by decide +kernel
theorem dX7_shows_129 : decode cX7_shows 129 = .ok (.iastore, 1) := by decide +kernel
theorem dX7_shows_130 : decode cX7_shows 130 = .ok (.iinc 4 1, 3) := by decide +kernel
theorem dX7_shows_133 : decode cX7_shows 133 = .ok (.goto (-18), 3) := by decide +kernel
theorem dX7_shows_136 : decode cX7_shows 136 = .ok (.return_, 1) := by decide +kernel
theorem dX7_meets_0 : decode cX7_meets 0 = .ok (.aload_n 0, 1) := by decide +kernel
theorem dX7_meets_1 : decode cX7_meets 1 = .ok (.iload_n 1, 1) := by decide +kernel
theorem dX7_meets_2 : decode cX7_meets 2 = .ok (.invokevirtual 154, 3) := by decide +kernel
theorem dX7_meets_5 : decode cX7_meets 5 = .ok (.istore 4, 2) := by decide +kernel
theorem dX7_meets_7 : decode cX7_meets 7 = .ok (.iload 4, 2) := by decide +kernel
theorem dX7_meets_9 : decode cX7_meets 9 = .ok (.ldc 157, 2) := by decide +kernel
theorem dX7_meets_11 : decode cX7_meets 11 = .ok (.imul, 1) := by decide +kernel
theorem dX7_meets_12 : decode cX7_meets 12 = .ok (.bipush 13, 2) := by decide +kernel
theorem dX7_meets_14 : decode cX7_meets 14 = .ok (.iushr, 1) := by decide +kernel
theorem dX7_meets_15 : decode cX7_meets 15 = .ok (.ldc 158, 2) := by decide +kernel
theorem dX7_meets_17 : decode cX7_meets 17 = .ok (.iand, 1) := by decide +kernel
theorem dX7_meets_18 : decode cX7_meets 18 = .ok (.istore 5, 2) := by decide +kernel
theorem dX7_meets_20 : decode cX7_meets 20 = .ok (.aload_n 0, 1) := by decide +kernel
theorem dX7_meets_21 : decode cX7_meets 21 = .ok (.getfield 45, 3) := by decide +kernel
theorem dX7_meets_24 : decode cX7_meets 24 = .ok (.iload 5, 2) := by decide +kernel
theorem dX7_meets_26 : decode cX7_meets 26 = .ok (.iaload, 1) := by decide +kernel
theorem dX7_meets_27 : decode cX7_meets 27 = .ok (.ifCond .eq 36, 3) := by decide +kernel
theorem dX7_meets_30 : decode cX7_meets 30 = .ok (.aload_n 0, 1) := by decide +kernel
theorem dX7_meets_31 : decode cX7_meets 31 = .ok (.getfield 49, 3) := by decide +kernel
theorem dX7_meets_34 : decode cX7_meets 34 = .ok (.aload_n 0, 1) := by decide +kernel
theorem dX7_meets_35 : decode cX7_meets 35 = .ok (.getfield 45, 3) := by decide +kernel
theorem dX7_meets_38 : decode cX7_meets 38 = .ok (.iload 5, 2) := by decide +kernel
theorem dX7_meets_40 : decode cX7_meets 40 = .ok (.iaload, 1) := by decide +kernel
theorem dX7_meets_41 : decode cX7_meets 41 = .ok (.iconst 1, 1) := by decide +kernel
theorem dX7_meets_42 : decode cX7_meets 42 = .ok (.isub, 1) := by decide +kernel
theorem dX7_meets_43 : decode cX7_meets 43 = .ok (.iaload, 1) := by decide +kernel
theorem dX7_meets_44 : decode cX7_meets 44 = .ok (.iload 4, 2) := by decide +kernel
theorem dX7_meets_46 : decode cX7_meets 46 = .ok (.if_icmp .ne 5, 3) := by decide +kernel
theorem dX7_meets_49 : decode cX7_meets 49 = .ok (.iconst 0, 1) := by decide +kernel
theorem dX7_meets_50 : decode cX7_meets 50 = .ok (.ireturn, 1) := by decide +kernel
theorem dX7_meets_51 : decode cX7_meets 51 = .ok (.iload 5, 2) := by decide +kernel
theorem dX7_meets_53 : decode cX7_meets 53 = .ok (.iconst 1, 1) := by decide +kernel
theorem dX7_meets_54 : decode cX7_meets 54 = .ok (.iadd, 1) := by decide +kernel
theorem dX7_meets_55 : decode cX7_meets 55 = .ok (.ldc 158, 2) := by decide +kernel
theorem dX7_meets_57 : decode cX7_meets 57 = .ok (.iand, 1) := by decide +kernel
theorem dX7_meets_58 : decode cX7_meets 58 = .ok (.istore 5, 2) := by decide +kernel
theorem dX7_meets_60 : decode cX7_meets 60 = .ok (.goto (-40), 3) := by decide +kernel
theorem dX7_meets_63 : decode cX7_meets 63 = .ok (.aload_n 0, 1) := by decide +kernel
theorem dX7_meets_64 : decode cX7_meets 64 = .ok (.getfield 49, 3) := by decide +kernel
theorem dX7_meets_67 : decode cX7_meets 67 = .ok (.aload_n 0, 1) := by decide +kernel
theorem dX7_meets_68 : decode cX7_meets 68 = .ok (.getfield 159, 3) := by decide +kernel
theorem dX7_meets_71 : decode cX7_meets 71 = .ok (.iload 4, 2) := by decide +kernel
theorem dX7_meets_73 : decode cX7_meets 73 = .ok (.iastore, 1) := by decide +kernel
theorem dX7_meets_74 : decode cX7_meets 74 = .ok (.aload_n 0, 1) := by decide +kernel
theorem dX7_meets_75 : decode cX7_meets 75 = .ok (.getfield 52, 3) := by decide +kernel
theorem dX7_meets_78 : decode cX7_meets 78 = .ok (.aload_n 0, 1) := by decide +kernel
theorem dX7_meets_79 : decode cX7_meets 79 = .ok (.getfield 159, 3) := by decide +kernel
theorem dX7_meets_82 : decode cX7_meets 82 = .ok (.iload_n 2, 1) := by decide +kernel
theorem dX7_meets_83 : decode cX7_meets 83 = .ok (.iastore, 1) := by decide +kernel
theorem dX7_meets_84 : decode cX7_meets 84 = .ok (.aload_n 0, 1) := by decide +kernel
theorem dX7_meets_85 : decode cX7_meets 85 = .ok (.getfield 55, 3) := by decide +kernel
theorem dX7_meets_88 : decode cX7_meets 88 = .ok (.aload_n 0, 1) := by decide +kernel
theorem dX7_meets_89 : decode cX7_meets 89 = .ok (.getfield 159, 3) := by decide +kernel
theorem dX7_meets_92 : decode cX7_meets 92 = .ok (.iload_n 3, 1) := by decide +kernel
theorem dX7_meets_93 : decode cX7_meets 93 = .ok (.iastore, 1) := by decide +kernel
theorem dX7_meets_94 : decode cX7_meets 94 = .ok (.aload_n 0, 1) := by decide +kernel
theorem dX7_meets_95 : decode cX7_meets 95 = .ok (.aload_n 0, 1) := by decide +kernel
theorem dX7_meets_96 : decode cX7_meets 96 = .ok (.getfield 159, 3) := by decide +kernel
theorem dX7_meets_99 : decode cX7_meets 99 = .ok (.iconst 1, 1) := by decide +kernel
theorem dX7_meets_100 : decode cX7_meets 100 = .ok (.iadd, 1) := by decide +kernel
theorem dX7_meets_101 : decode cX7_meets 101 = .ok (.putfield 159, 3) := by decide +kernel
theorem dX7_meets_104 : decode cX7_meets 104 = .ok (.aload_n 0, 1) := by decide +kernel
theorem dX7_meets_105 : decode cX7_meets 105 = .ok (.getfield 45, 3) := by decide +kernel
theorem dX7_meets_108 : decode cX7_meets 108 = .ok (.iload 5, 2) := by decide +kernel
theorem dX7_meets_110 : decode cX7_meets 110 = .ok (.aload_n 0, 1) := by decide +kernel
theorem dX7_meets_111 : decode cX7_meets 111 = .ok (.getfield 159, 3) := by decide +kernel
theorem dX7_meets_114 : decode cX7_meets 114 = .ok (.iastore, 1) := by decide +kernel
theorem dX7_meets_115 : decode cX7_meets 115 = .ok (.iconst 1, 1) := by decide +kernel
theorem dX7_meets_116 : decode cX7_meets 116 = .ok (.ireturn, 1) := by decide +kernel
theorem dX7_may_0 : decode cX7_may 0 = .ok (.iload_n 2, 1) := by decide +kernel
theorem dX7_may_1 : decode cX7_may 1 = .ok (.ifCond .ne 43, 3) := by decide +kernel
theorem dX7_may_4 : decode cX7_may 4 = .ok (.aload_n 0, 1) := by decide +kernel
theorem dX7_may_5 : decode cX7_may 5 = .ok (.invokevirtual 123, 3) := by decide +kernel
theorem dX7_may_8 : decode cX7_may 8 = .ok (.iload 4, 2) := by decide +kernel
theorem dX7_may_10 : decode cX7_may 10 = .ok (.if_icmp .ge 32, 3) := by decide +kernel
theorem dX7_may_13 : decode cX7_may 13 = .ok (.iload_n 1, 1) := by decide +kernel
theorem dX7_may_14 : decode cX7_may 14 = .ok (.iconst 1, 1) := by decide +kernel
theorem dX7_may_15 : decode cX7_may 15 = .ok (.if_icmp .ne 10, 3) := by decide +kernel
theorem dX7_may_18 : decode cX7_may 18 = .ok (.aload_n 0, 1) := by decide +kernel
theorem dX7_may_19 : decode cX7_may 19 = .ok (.getfield 150, 3) := by decide +kernel
theorem dX7_may_22 : decode cX7_may 22 = .ok (.ifCond .ne 20, 3) := by decide +kernel
theorem dX7_may_25 : decode cX7_may 25 = .ok (.iload_n 1, 1) := by decide +kernel
theorem dX7_may_26 : decode cX7_may 26 = .ok (.iconst 2, 1) := by decide +kernel
theorem dX7_may_27 : decode cX7_may 27 = .ok (.if_icmp .ne 11, 3) := by decide +kernel
theorem dX7_may_30 : decode cX7_may 30 = .ok (.iload_n 3, 1) := by decide +kernel
theorem dX7_may_31 : decode cX7_may 31 = .ok (.aload_n 0, 1) := by decide +kernel
theorem dX7_may_32 : decode cX7_may 32 = .ok (.getfield 74, 3) := by decide +kernel
theorem dX7_may_35 : decode cX7_may 35 = .ok (.if_icmp .ne 7, 3) := by decide +kernel
theorem dX7_may_38 : decode cX7_may 38 = .ok (.iconst 1, 1) := by decide +kernel
theorem dX7_may_39 : decode cX7_may 39 = .ok (.goto 4, 3) := by decide +kernel
theorem dX7_may_42 : decode cX7_may 42 = .ok (.iconst 0, 1) := by decide +kernel
theorem dX7_may_43 : decode cX7_may 43 = .ok (.ireturn, 1) := by decide +kernel
theorem dX7_may_44 : decode cX7_may 44 = .ok (.aload_n 0, 1) := by decide +kernel
theorem dX7_may_45 : decode cX7_may 45 = .ok (.getfield 23, 3) := by decide +kernel
theorem dX7_may_48 : decode cX7_may 48 = .ok (.iload_n 3, 1) := by decide +kernel
theorem dX7_may_49 : decode cX7_may 49 = .ok (.iaload, 1) := by decide +kernel
theorem dX7_may_50 : decode cX7_may 50 = .ok (.ifCond .le 16, 3) := by decide +kernel
theorem dX7_may_53 : decode cX7_may 53 = .ok (.iload_n 2, 1) := by decide +kernel
theorem dX7_may_54 : decode cX7_may 54 = .ok (.iconst 1, 1) := by decide +kernel
theorem dX7_may_55 : decode cX7_may 55 = .ok (.if_icmp .ne 7, 3) := by decide +kernel
theorem dX7_may_58 : decode cX7_may 58 = .ok (.iload_n 1, 1) := by decide +kernel
theorem dX7_may_59 : decode cX7_may 59 = .ok (.ifCond .ne 7, 3) := by decide +kernel
theorem dX7_may_62 : decode cX7_may 62 = .ok (.iconst 1, 1) := by decide +kernel
theorem dX7_may_63 : decode cX7_may 63 = .ok (.goto 4, 3) := by decide +kernel
theorem dX7_may_66 : decode cX7_may 66 = .ok (.iconst 0, 1) := by decide +kernel
theorem dX7_may_67 : decode cX7_may 67 = .ok (.ireturn, 1) := by decide +kernel
theorem dX7_finds_0 : decode cX7_finds 0 = .ok (.iconst 0, 1) := by decide +kernel
theorem dX7_finds_1 : decode cX7_finds 1 = .ok (.istore_n 3, 1) := by decide +kernel
theorem dX7_finds_2 : decode cX7_finds 2 = .ok (.iload_n 3, 1) := by decide +kernel
theorem dX7_finds_3 : decode cX7_finds 3 = .ok (.ldc 44, 2) := by decide +kernel
theorem dX7_finds_5 : decode cX7_finds 5 = .ok (.if_icmp .ge 16, 3) := by decide +kernel
theorem dX7_finds_8 : decode cX7_finds 8 = .ok (.aload_n 0, 1) := by decide +kernel
theorem dX7_finds_9 : decode cX7_finds 9 = .ok (.getfield 45, 3) := by decide +kernel
theorem dX7_finds_12 : decode cX7_finds 12 = .ok (.iload_n 3, 1) := by decide +kernel
theorem dX7_finds_13 : decode cX7_finds 13 = .ok (.iconst 0, 1) := by decide +kernel
theorem dX7_finds_14 : decode cX7_finds 14 = .ok (.iastore, 1) := by decide +kernel
theorem dX7_finds_15 : decode cX7_finds 15 = .ok (.iinc 3 1, 3) := by decide +kernel
theorem dX7_finds_18 : decode cX7_finds 18 = .ok (.goto (-16), 3) := by decide +kernel
theorem dX7_finds_21 : decode cX7_finds 21 = .ok (.aload_n 0, 1) := by decide +kernel
theorem dX7_finds_22 : decode cX7_finds 22 = .ok (.iconst 0, 1) := by decide +kernel
theorem dX7_finds_23 : decode cX7_finds 23 = .ok (.putfield 159, 3) := by decide +kernel
theorem dX7_finds_26 : decode cX7_finds 26 = .ok (.aload_n 0, 1) := by decide +kernel
theorem dX7_finds_27 : decode cX7_finds 27 = .ok (.invokevirtual 110, 3) := by decide +kernel
theorem dX7_finds_30 : decode cX7_finds 30 = .ok (.aload_n 0, 1) := by decide +kernel
theorem dX7_finds_31 : decode cX7_finds 31 = .ok (.iconst 0, 1) := by decide +kernel
theorem dX7_finds_32 : decode cX7_finds 32 = .ok (.putfield 150, 3) := by decide +kernel
theorem dX7_finds_35 : decode cX7_finds 35 = .ok (.aload_n 0, 1) := by decide +kernel
theorem dX7_finds_36 : decode cX7_finds 36 = .ok (.iload_n 1, 1) := by decide +kernel
theorem dX7_finds_37 : decode cX7_finds 37 = .ok (.iconst (-1), 1) := by decide +kernel
theorem dX7_finds_38 : decode cX7_finds 38 = .ok (.iconst 0, 1) := by decide +kernel
theorem dX7_finds_39 : decode cX7_finds 39 = .ok (.invokevirtual 162, 3) := by decide +kernel
theorem dX7_finds_42 : decode cX7_finds 42 = .ok (.pop, 1) := by decide +kernel
theorem dX7_finds_43 : decode cX7_finds 43 = .ok (.iconst 0, 1) := by decide +kernel
theorem dX7_finds_44 : decode cX7_finds 44 = .ok (.istore_n 3, 1) := by decide +kernel
theorem dX7_finds_45 : decode cX7_finds 45 = .ok (.iload_n 3, 1) := by decide +kernel
theorem dX7_finds_46 : decode cX7_finds 46 = .ok (.aload_n 0, 1) := by decide +kernel
theorem dX7_finds_47 : decode cX7_finds 47 = .ok (.getfield 159, 3) := by decide +kernel
theorem dX7_finds_50 : decode cX7_finds 50 = .ok (.if_icmp .ge 211, 3) := by decide +kernel
theorem dX7_finds_53 : decode cX7_finds 53 = .ok (.iconst 0, 1) := by decide +kernel
theorem dX7_finds_54 : decode cX7_finds 54 = .ok (.istore 4, 2) := by decide +kernel
theorem dX7_finds_56 : decode cX7_finds 56 = .ok (.iload 4, 2) := by decide +kernel
theorem dX7_finds_58 : decode cX7_finds 58 = .ok (.iconst 2, 1) := by decide +kernel
theorem dX7_finds_59 : decode cX7_finds 59 = .ok (.if_icmp .gt 196, 3) := by decide +kernel
theorem dX7_finds_62 : decode cX7_finds 62 = .ok (.iconst 0, 1) := by decide +kernel
theorem dX7_finds_63 : decode cX7_finds 63 = .ok (.istore 5, 2) := by decide +kernel
theorem dX7_finds_65 : decode cX7_finds 65 = .ok (.iload 5, 2) := by decide +kernel
theorem dX7_finds_67 : decode cX7_finds 67 = .ok (.aload_n 0, 1) := by decide +kernel
theorem dX7_finds_68 : decode cX7_finds 68 = .ok (.getfield 68, 3) := by decide +kernel
theorem dX7_finds_71 : decode cX7_finds 71 = .ok (.if_icmp .ge 178, 3) := by decide +kernel
theorem dX7_finds_74 : decode cX7_finds 74 = .ok (.iconst 0, 1) := by decide +kernel
theorem dX7_finds_75 : decode cX7_finds 75 = .ok (.istore 6, 2) := by decide +kernel
theorem dX7_finds_77 : decode cX7_finds 77 = .ok (.iload 6, 2) := by decide +kernel
theorem dX7_finds_79 : decode cX7_finds 79 = .ok (.iload 4, 2) := by decide +kernel
theorem dX7_finds_81 : decode cX7_finds 81 = .ok (.iconst 2, 1) := by decide +kernel
theorem dX7_finds_82 : decode cX7_finds 82 = .ok (.if_icmp .ne 8, 3) := by decide +kernel
theorem dX7_finds_85 : decode cX7_finds 85 = .ok (.bipush 18, 2) := by decide +kernel
theorem dX7_finds_87 : decode cX7_finds 87 = .ok (.goto 4, 3) := by decide +kernel
theorem dX7_finds_90 : decode cX7_finds 90 = .ok (.iconst 1, 1) := by decide +kernel
theorem dX7_finds_91 : decode cX7_finds 91 = .ok (.if_icmp .ge 152, 3) := by decide +kernel
theorem dX7_finds_94 : decode cX7_finds 94 = .ok (.aload_n 0, 1) := by decide +kernel
theorem dX7_finds_95 : decode cX7_finds 95 = .ok (.aload_n 0, 1) := by decide +kernel
theorem dX7_finds_96 : decode cX7_finds 96 = .ok (.getfield 49, 3) := by decide +kernel
theorem dX7_finds_99 : decode cX7_finds 99 = .ok (.iload_n 3, 1) := by decide +kernel
theorem dX7_finds_100 : decode cX7_finds 100 = .ok (.iaload, 1) := by decide +kernel
theorem dX7_finds_101 : decode cX7_finds 101 = .ok (.iload_n 1, 1) := by decide +kernel
theorem dX7_finds_102 : decode cX7_finds 102 = .ok (.invokevirtual 166, 3) := by decide +kernel
theorem dX7_finds_105 : decode cX7_finds 105 = .ok (.iload 4, 2) := by decide +kernel
theorem dX7_finds_107 : decode cX7_finds 107 = .ok (.iconst 2, 1) := by decide +kernel
theorem dX7_finds_108 : decode cX7_finds 108 = .ok (.if_icmp .ne 14, 3) := by decide +kernel
theorem dX7_finds_111 : decode cX7_finds 111 = .ok (.aload_n 0, 1) := by decide +kernel
theorem dX7_finds_112 : decode cX7_finds 112 = .ok (.iload 6, 2) := by decide +kernel
theorem dX7_finds_114 : decode cX7_finds 114 = .ok (.iload 5, 2) := by decide +kernel
theorem dX7_finds_116 : decode cX7_finds 116 = .ok (.invokevirtual 116, 3) := by decide +kernel
theorem dX7_finds_119 : decode cX7_finds 119 = .ok (.ifCond .eq 118, 3) := by decide +kernel
theorem dX7_finds_122 : decode cX7_finds 122 = .ok (.aload_n 0, 1) := by decide +kernel
theorem dX7_finds_123 : decode cX7_finds 123 = .ok (.iload_n 1, 1) := by decide +kernel
theorem dX7_finds_124 : decode cX7_finds 124 = .ok (.iload 4, 2) := by decide +kernel
theorem dX7_finds_126 : decode cX7_finds 126 = .ok (.iload 5, 2) := by decide +kernel
theorem dX7_finds_128 : decode cX7_finds 128 = .ok (.iload_n 2, 1) := by decide +kernel
theorem dX7_finds_129 : decode cX7_finds 129 = .ok (.invokevirtual 170, 3) := by decide +kernel
theorem dX7_finds_132 : decode cX7_finds 132 = .ok (.ifCond .ne 6, 3) := by decide +kernel
theorem dX7_finds_135 : decode cX7_finds 135 = .ok (.goto 102, 3) := by decide +kernel
theorem dX7_finds_138 : decode cX7_finds 138 = .ok (.aload_n 0, 1) := by decide +kernel
theorem dX7_finds_139 : decode cX7_finds 139 = .ok (.iload 4, 2) := by decide +kernel
theorem dX7_finds_141 : decode cX7_finds 141 = .ok (.iload 5, 2) := by decide +kernel
theorem dX7_finds_143 : decode cX7_finds 143 = .ok (.iload 6, 2) := by decide +kernel
theorem dX7_finds_145 : decode cX7_finds 145 = .ok (.invokevirtual 127, 3) := by decide +kernel
theorem dX7_finds_148 : decode cX7_finds 148 = .ok (.aload_n 0, 1) := by decide +kernel
theorem dX7_finds_149 : decode cX7_finds 149 = .ok (.aload_n 0, 1) := by decide +kernel
theorem dX7_finds_150 : decode cX7_finds 150 = .ok (.getfield 150, 3) := by decide +kernel
theorem dX7_finds_153 : decode cX7_finds 153 = .ok (.ifCond .ne 9, 3) := by decide +kernel
theorem dX7_finds_156 : decode cX7_finds 156 = .ok (.iload 4, 2) := by decide +kernel
theorem dX7_finds_158 : decode cX7_finds 158 = .ok (.iconst 2, 1) := by decide +kernel
theorem dX7_finds_159 : decode cX7_finds 159 = .ok (.if_icmp .ne 7, 3) := by decide +kernel
theorem dX7_finds_162 : decode cX7_finds 162 = .ok (.iconst 1, 1) := by decide +kernel
theorem dX7_finds_163 : decode cX7_finds 163 = .ok (.goto 4, 3) := by decide +kernel
theorem dX7_finds_166 : decode cX7_finds 166 = .ok (.iconst 0, 1) := by decide +kernel
theorem dX7_finds_167 : decode cX7_finds 167 = .ok (.putfield 150, 3) := by decide +kernel
theorem dX7_finds_170 : decode cX7_finds 170 = .ok (.iload_n 1, 1) := by decide +kernel
theorem dX7_finds_171 : decode cX7_finds 171 = .ok (.iconst 2, 1) := by decide +kernel
theorem dX7_finds_172 : decode cX7_finds 172 = .ok (.if_icmp .ne 17, 3) := by decide +kernel
theorem dX7_finds_175 : decode cX7_finds 175 = .ok (.aload_n 0, 1) := by decide +kernel
theorem dX7_finds_176 : decode cX7_finds 176 = .ok (.aload_n 0, 1) := by decide +kernel
theorem dX7_finds_177 : decode cX7_finds 177 = .ok (.getfield 74, 3) := by decide +kernel
theorem dX7_finds_180 : decode cX7_finds 180 = .ok (.invokevirtual 174, 3) := by decide +kernel
theorem dX7_finds_183 : decode cX7_finds 183 = .ok (.ifCond .ne 6, 3) := by decide +kernel
theorem dX7_finds_186 : decode cX7_finds 186 = .ok (.goto 51, 3) := by decide +kernel
theorem dX7_finds_189 : decode cX7_finds 189 = .ok (.aload_n 0, 1) := by decide +kernel
theorem dX7_finds_190 : decode cX7_finds 190 = .ok (.iload_n 1, 1) := by decide +kernel
theorem dX7_finds_191 : decode cX7_finds 191 = .ok (.iload_n 3, 1) := by decide +kernel
theorem dX7_finds_192 : decode cX7_finds 192 = .ok (.iload 4, 2) := by decide +kernel
theorem dX7_finds_194 : decode cX7_finds 194 = .ok (.bipush 16, 2) := by decide +kernel
theorem dX7_finds_196 : decode cX7_finds 196 = .ok (.imul, 1) := by decide +kernel
theorem dX7_finds_197 : decode cX7_finds 197 = .ok (.iload 5, 2) := by decide +kernel
theorem dX7_finds_199 : decode cX7_finds 199 = .ok (.iadd, 1) := by decide +kernel
theorem dX7_finds_200 : decode cX7_finds 200 = .ok (.bipush 32, 2) := by decide +kernel
theorem dX7_finds_202 : decode cX7_finds 202 = .ok (.imul, 1) := by decide +kernel
theorem dX7_finds_203 : decode cX7_finds 203 = .ok (.iload 4, 2) := by decide +kernel
theorem dX7_finds_205 : decode cX7_finds 205 = .ok (.iconst 2, 1) := by decide +kernel
theorem dX7_finds_206 : decode cX7_finds 206 = .ok (.if_icmp .ne 8, 3) := by decide +kernel
theorem dX7_finds_209 : decode cX7_finds 209 = .ok (.iload 6, 2) := by decide +kernel
theorem dX7_finds_211 : decode cX7_finds 211 = .ok (.goto 5, 3) := by decide +kernel
theorem dX7_finds_214 : decode cX7_finds 214 = .ok (.bipush 31, 2) := by decide +kernel
theorem dX7_finds_216 : decode cX7_finds 216 = .ok (.iadd, 1) := by decide +kernel
theorem dX7_finds_217 : decode cX7_finds 217 = .ok (.invokevirtual 162, 3) := by decide +kernel
theorem dX7_finds_220 : decode cX7_finds 220 = .ok (.ifCond .eq 17, 3) := by decide +kernel
theorem dX7_finds_223 : decode cX7_finds 223 = .ok (.aload_n 0, 1) := by decide +kernel
theorem dX7_finds_224 : decode cX7_finds 224 = .ok (.invokevirtual 177, 3) := by decide +kernel
theorem dX7_finds_227 : decode cX7_finds 227 = .ok (.ifCond .eq 10, 3) := by decide +kernel
theorem dX7_finds_230 : decode cX7_finds 230 = .ok (.aload_n 0, 1) := by decide +kernel
theorem dX7_finds_231 : decode cX7_finds 231 = .ok (.getfield 159, 3) := by decide +kernel
theorem dX7_finds_234 : decode cX7_finds 234 = .ok (.iconst 1, 1) := by decide +kernel
theorem dX7_finds_235 : decode cX7_finds 235 = .ok (.isub, 1) := by decide +kernel
theorem dX7_finds_236 : decode cX7_finds 236 = .ok (.ireturn, 1) := by decide +kernel
theorem dX7_finds_237 : decode cX7_finds 237 = .ok (.iinc 6 1, 3) := by decide +kernel
theorem dX7_finds_240 : decode cX7_finds 240 = .ok (.goto (-163), 3) := by decide +kernel
theorem dX7_finds_243 : decode cX7_finds 243 = .ok (.iinc 5 1, 3) := by decide +kernel
theorem dX7_finds_246 : decode cX7_finds 246 = .ok (.goto (-181), 3) := by decide +kernel
theorem dX7_finds_249 : decode cX7_finds 249 = .ok (.iinc 4 1, 3) := by decide +kernel
theorem dX7_finds_252 : decode cX7_finds 252 = .ok (.goto (-196), 3) := by decide +kernel
theorem dX7_finds_255 : decode cX7_finds 255 = .ok (.iinc 3 1, 3) := by decide +kernel
theorem dX7_finds_258 : decode cX7_finds 258 = .ok (.goto (-213), 3) := by decide +kernel
theorem dX7_finds_261 : decode cX7_finds 261 = .ok (.iconst (-1), 1) := by decide +kernel
theorem dX7_finds_262 : decode cX7_finds 262 = .ok (.ireturn, 1) := by decide +kernel
theorem dX7_isSmall_0 : decode cX7_isSmall 0 = .ok (.iload_n 1, 1) := by decide +kernel
theorem dX7_isSmall_1 : decode cX7_isSmall 1 = .ok (.ifCond .lt 37, 3) := by decide +kernel
theorem dX7_isSmall_4 : decode cX7_isSmall 4 = .ok (.iload_n 1, 1) := by decide +kernel
theorem dX7_isSmall_5 : decode cX7_isSmall 5 = .ok (.iconst 2, 1) := by decide +kernel
theorem dX7_isSmall_6 : decode cX7_isSmall 6 = .ok (.if_icmp .gt 32, 3) := by decide +kernel
theorem dX7_isSmall_9 : decode cX7_isSmall 9 = .ok (.aload_n 0, 1) := by decide +kernel
theorem dX7_isSmall_10 : decode cX7_isSmall 10 = .ok (.getfield 68, 3) := by decide +kernel
theorem dX7_isSmall_13 : decode cX7_isSmall 13 = .ok (.ifCond .le 25, 3) := by decide +kernel
theorem dX7_isSmall_16 : decode cX7_isSmall 16 = .ok (.aload_n 0, 1) := by decide +kernel
theorem dX7_isSmall_17 : decode cX7_isSmall 17 = .ok (.getfield 68, 3) := by decide +kernel
theorem dX7_isSmall_20 : decode cX7_isSmall 20 = .ok (.bipush 6, 2) := by decide +kernel
theorem dX7_isSmall_22 : decode cX7_isSmall 22 = .ok (.if_icmp .gt 16, 3) := by decide +kernel
theorem dX7_isSmall_25 : decode cX7_isSmall 25 = .ok (.aload_n 0, 1) := by decide +kernel
theorem dX7_isSmall_26 : decode cX7_isSmall 26 = .ok (.invokevirtual 138, 3) := by decide +kernel
theorem dX7_isSmall_29 : decode cX7_isSmall 29 = .ok (.bipush 8, 2) := by decide +kernel
theorem dX7_isSmall_31 : decode cX7_isSmall 31 = .ok (.if_icmp .gt 7, 3) := by decide +kernel
theorem dX7_isSmall_34 : decode cX7_isSmall 34 = .ok (.iconst 1, 1) := by decide +kernel
theorem dX7_isSmall_35 : decode cX7_isSmall 35 = .ok (.goto 4, 3) := by decide +kernel
theorem dX7_isSmall_38 : decode cX7_isSmall 38 = .ok (.iconst 0, 1) := by decide +kernel
theorem dX7_isSmall_39 : decode cX7_isSmall 39 = .ok (.ireturn, 1) := by decide +kernel
theorem dX7_fewest_0 : decode cX7_fewest 0 = .ok (.aload_n 0, 1) := by decide +kernel
theorem dX7_fewest_1 : decode cX7_fewest 1 = .ok (.iconst (-1), 1) := by decide +kernel
theorem dX7_fewest_2 : decode cX7_fewest 2 = .ok (.putfield 58, 3) := by decide +kernel
theorem dX7_fewest_5 : decode cX7_fewest 5 = .ok (.aload_n 0, 1) := by decide +kernel
theorem dX7_fewest_6 : decode cX7_fewest 6 = .ok (.iload_n 1, 1) := by decide +kernel
theorem dX7_fewest_7 : decode cX7_fewest 7 = .ok (.invokevirtual 181, 3) := by decide +kernel
theorem dX7_fewest_10 : decode cX7_fewest 10 = .ok (.ifCond .ne 5, 3) := by decide +kernel
theorem dX7_fewest_13 : decode cX7_fewest 13 = .ok (.iconst (-1), 1) := by decide +kernel
theorem dX7_fewest_14 : decode cX7_fewest 14 = .ok (.ireturn, 1) := by decide +kernel
theorem dX7_fewest_15 : decode cX7_fewest 15 = .ok (.iconst 1, 1) := by decide +kernel
theorem dX7_fewest_16 : decode cX7_fewest 16 = .ok (.istore_n 2, 1) := by decide +kernel
theorem dX7_fewest_17 : decode cX7_fewest 17 = .ok (.iload_n 2, 1) := by decide +kernel
theorem dX7_fewest_18 : decode cX7_fewest 18 = .ok (.iconst 3, 1) := by decide +kernel
theorem dX7_fewest_19 : decode cX7_fewest 19 = .ok (.if_icmp .gt 119, 3) := by decide +kernel
theorem dX7_fewest_22 : decode cX7_fewest 22 = .ok (.aload_n 0, 1) := by decide +kernel
theorem dX7_fewest_23 : decode cX7_fewest 23 = .ok (.iload_n 1, 1) := by decide +kernel
theorem dX7_fewest_24 : decode cX7_fewest 24 = .ok (.iload_n 2, 1) := by decide +kernel
theorem dX7_fewest_25 : decode cX7_fewest 25 = .ok (.invokevirtual 184, 3) := by decide +kernel
theorem dX7_fewest_28 : decode cX7_fewest 28 = .ok (.istore_n 3, 1) := by decide +kernel
theorem dX7_fewest_29 : decode cX7_fewest 29 = .ok (.iload_n 3, 1) := by decide +kernel
theorem dX7_fewest_30 : decode cX7_fewest 30 = .ok (.iconst (-1), 1) := by decide +kernel
theorem dX7_fewest_31 : decode cX7_fewest 31 = .ok (.if_icmp .ne 6, 3) := by decide +kernel
theorem dX7_fewest_34 : decode cX7_fewest 34 = .ok (.goto 98, 3) := by decide +kernel
theorem dX7_fewest_37 : decode cX7_fewest 37 = .ok (.aload_n 0, 1) := by decide +kernel
theorem dX7_fewest_38 : decode cX7_fewest 38 = .ok (.iconst 0, 1) := by decide +kernel
theorem dX7_fewest_39 : decode cX7_fewest 39 = .ok (.putfield 58, 3) := by decide +kernel
theorem dX7_fewest_42 : decode cX7_fewest 42 = .ok (.iload_n 3, 1) := by decide +kernel
theorem dX7_fewest_43 : decode cX7_fewest 43 = .ok (.istore 4, 2) := by decide +kernel
theorem dX7_fewest_45 : decode cX7_fewest 45 = .ok (.aload_n 0, 1) := by decide +kernel
theorem dX7_fewest_46 : decode cX7_fewest 46 = .ok (.getfield 52, 3) := by decide +kernel
theorem dX7_fewest_49 : decode cX7_fewest 49 = .ok (.iload 4, 2) := by decide +kernel
theorem dX7_fewest_51 : decode cX7_fewest 51 = .ok (.iaload, 1) := by decide +kernel
theorem dX7_fewest_52 : decode cX7_fewest 52 = .ok (.iconst (-1), 1) := by decide +kernel
theorem dX7_fewest_53 : decode cX7_fewest 53 = .ok (.if_icmp .eq 25, 3) := by decide +kernel
theorem dX7_fewest_56 : decode cX7_fewest 56 = .ok (.aload_n 0, 1) := by decide +kernel
theorem dX7_fewest_57 : decode cX7_fewest 57 = .ok (.aload_n 0, 1) := by decide +kernel
theorem dX7_fewest_58 : decode cX7_fewest 58 = .ok (.getfield 58, 3) := by decide +kernel
theorem dX7_fewest_61 : decode cX7_fewest 61 = .ok (.iconst 1, 1) := by decide +kernel
theorem dX7_fewest_62 : decode cX7_fewest 62 = .ok (.iadd, 1) := by decide +kernel
theorem dX7_fewest_63 : decode cX7_fewest 63 = .ok (.putfield 58, 3) := by decide +kernel
theorem dX7_fewest_66 : decode cX7_fewest 66 = .ok (.aload_n 0, 1) := by decide +kernel
theorem dX7_fewest_67 : decode cX7_fewest 67 = .ok (.getfield 52, 3) := by decide +kernel
theorem dX7_fewest_70 : decode cX7_fewest 70 = .ok (.iload 4, 2) := by decide +kernel
theorem dX7_fewest_72 : decode cX7_fewest 72 = .ok (.iaload, 1) := by decide +kernel
theorem dX7_fewest_73 : decode cX7_fewest 73 = .ok (.istore 4, 2) := by decide +kernel
theorem dX7_fewest_75 : decode cX7_fewest 75 = .ok (.goto (-30), 3) := by decide +kernel
theorem dX7_fewest_78 : decode cX7_fewest 78 = .ok (.aload_n 0, 1) := by decide +kernel
theorem dX7_fewest_79 : decode cX7_fewest 79 = .ok (.getfield 58, 3) := by decide +kernel
theorem dX7_fewest_82 : decode cX7_fewest 82 = .ok (.istore 4, 2) := by decide +kernel
theorem dX7_fewest_84 : decode cX7_fewest 84 = .ok (.iload_n 3, 1) := by decide +kernel
theorem dX7_fewest_85 : decode cX7_fewest 85 = .ok (.istore 5, 2) := by decide +kernel
theorem dX7_fewest_87 : decode cX7_fewest 87 = .ok (.aload_n 0, 1) := by decide +kernel
theorem dX7_fewest_88 : decode cX7_fewest 88 = .ok (.getfield 52, 3) := by decide +kernel
theorem dX7_fewest_91 : decode cX7_fewest 91 = .ok (.iload 5, 2) := by decide +kernel
theorem dX7_fewest_93 : decode cX7_fewest 93 = .ok (.iaload, 1) := by decide +kernel
theorem dX7_fewest_94 : decode cX7_fewest 94 = .ok (.iconst (-1), 1) := by decide +kernel
theorem dX7_fewest_95 : decode cX7_fewest 95 = .ok (.if_icmp .eq 35, 3) := by decide +kernel
theorem dX7_fewest_98 : decode cX7_fewest 98 = .ok (.iload 4, 2) := by decide +kernel
theorem dX7_fewest_100 : decode cX7_fewest 100 = .ok (.iconst 1, 1) := by decide +kernel
theorem dX7_fewest_101 : decode cX7_fewest 101 = .ok (.isub, 1) := by decide +kernel
theorem dX7_fewest_102 : decode cX7_fewest 102 = .ok (.istore 4, 2) := by decide +kernel
theorem dX7_fewest_104 : decode cX7_fewest 104 = .ok (.aload_n 0, 1) := by decide +kernel
theorem dX7_fewest_105 : decode cX7_fewest 105 = .ok (.getfield 62, 3) := by decide +kernel
theorem dX7_fewest_108 : decode cX7_fewest 108 = .ok (.iload 4, 2) := by decide +kernel
theorem dX7_fewest_110 : decode cX7_fewest 110 = .ok (.aload_n 0, 1) := by decide +kernel
theorem dX7_fewest_111 : decode cX7_fewest 111 = .ok (.getfield 55, 3) := by decide +kernel
theorem dX7_fewest_114 : decode cX7_fewest 114 = .ok (.iload 5, 2) := by decide +kernel
theorem dX7_fewest_116 : decode cX7_fewest 116 = .ok (.iaload, 1) := by decide +kernel
theorem dX7_fewest_117 : decode cX7_fewest 117 = .ok (.iastore, 1) := by decide +kernel
theorem dX7_fewest_118 : decode cX7_fewest 118 = .ok (.aload_n 0, 1) := by decide +kernel
theorem dX7_fewest_119 : decode cX7_fewest 119 = .ok (.getfield 52, 3) := by decide +kernel
theorem dX7_fewest_122 : decode cX7_fewest 122 = .ok (.iload 5, 2) := by decide +kernel
theorem dX7_fewest_124 : decode cX7_fewest 124 = .ok (.iaload, 1) := by decide +kernel
theorem dX7_fewest_125 : decode cX7_fewest 125 = .ok (.istore 5, 2) := by decide +kernel
theorem dX7_fewest_127 : decode cX7_fewest 127 = .ok (.goto (-40), 3) := by decide +kernel
theorem dX7_fewest_130 : decode cX7_fewest 130 = .ok (.iload_n 2, 1) := by decide +kernel
theorem dX7_fewest_131 : decode cX7_fewest 131 = .ok (.ireturn, 1) := by decide +kernel
theorem dX7_fewest_132 : decode cX7_fewest 132 = .ok (.iinc 2 1, 3) := by decide +kernel
theorem dX7_fewest_135 : decode cX7_fewest 135 = .ok (.goto (-118), 3) := by decide +kernel
theorem dX7_fewest_138 : decode cX7_fewest 138 = .ok (.iconst 4, 1) := by decide +kernel
theorem dX7_fewest_139 : decode cX7_fewest 139 = .ok (.ireturn, 1) := by decide +kernel
theorem dX7_plan_0 : decode cX7_plan 0 = .ok (.iload_n 1, 1) := by decide +kernel
theorem dX7_plan_1 : decode cX7_plan 1 = .ok (.iconst (-1), 1) := by decide +kernel
theorem dX7_plan_2 : decode cX7_plan 2 = .ok (.if_icmp .ne 12, 3) := by decide +kernel
theorem dX7_plan_5 : decode cX7_plan 5 = .ok (.iload_n 2, 1) := by decide +kernel
theorem dX7_plan_6 : decode cX7_plan 6 = .ok (.ifCond .ne 8, 3) := by decide +kernel
theorem dX7_plan_9 : decode cX7_plan 9 = .ok (.aload_n 0, 1) := by decide +kernel
theorem dX7_plan_10 : decode cX7_plan 10 = .ok (.getfield 58, 3) := by decide +kernel
theorem dX7_plan_13 : decode cX7_plan 13 = .ok (.ireturn, 1) := by decide +kernel
theorem dX7_plan_14 : decode cX7_plan 14 = .ok (.iload_n 1, 1) := by decide +kernel
theorem dX7_plan_15 : decode cX7_plan 15 = .ok (.ifCond .lt 11, 3) := by decide +kernel
theorem dX7_plan_18 : decode cX7_plan 18 = .ok (.iload_n 1, 1) := by decide +kernel
theorem dX7_plan_19 : decode cX7_plan 19 = .ok (.aload_n 0, 1) := by decide +kernel
theorem dX7_plan_20 : decode cX7_plan 20 = .ok (.getfield 58, 3) := by decide +kernel
theorem dX7_plan_23 : decode cX7_plan 23 = .ok (.if_icmp .lt 5, 3) := by decide +kernel
theorem dX7_plan_26 : decode cX7_plan 26 = .ok (.iconst (-1), 1) := by decide +kernel
theorem dX7_plan_27 : decode cX7_plan 27 = .ok (.ireturn, 1) := by decide +kernel
theorem dX7_plan_28 : decode cX7_plan 28 = .ok (.iload_n 2, 1) := by decide +kernel
theorem dX7_plan_29 : decode cX7_plan 29 = .ok (.ifCond .ne 14, 3) := by decide +kernel
theorem dX7_plan_32 : decode cX7_plan 32 = .ok (.aload_n 0, 1) := by decide +kernel
theorem dX7_plan_33 : decode cX7_plan 33 = .ok (.getfield 62, 3) := by decide +kernel
theorem dX7_plan_36 : decode cX7_plan 36 = .ok (.iload_n 1, 1) := by decide +kernel
theorem dX7_plan_37 : decode cX7_plan 37 = .ok (.iaload, 1) := by decide +kernel
theorem dX7_plan_38 : decode cX7_plan 38 = .ok (.sipush 512, 3) := by decide +kernel
theorem dX7_plan_41 : decode cX7_plan 41 = .ok (.idiv, 1) := by decide +kernel
theorem dX7_plan_42 : decode cX7_plan 42 = .ok (.ireturn, 1) := by decide +kernel
theorem dX7_plan_43 : decode cX7_plan 43 = .ok (.iload_n 2, 1) := by decide +kernel
theorem dX7_plan_44 : decode cX7_plan 44 = .ok (.iconst 1, 1) := by decide +kernel
theorem dX7_plan_45 : decode cX7_plan 45 = .ok (.if_icmp .ne 16, 3) := by decide +kernel
theorem dX7_plan_48 : decode cX7_plan 48 = .ok (.aload_n 0, 1) := by decide +kernel
theorem dX7_plan_49 : decode cX7_plan 49 = .ok (.getfield 62, 3) := by decide +kernel
theorem dX7_plan_52 : decode cX7_plan 52 = .ok (.iload_n 1, 1) := by decide +kernel
theorem dX7_plan_53 : decode cX7_plan 53 = .ok (.iaload, 1) := by decide +kernel
theorem dX7_plan_54 : decode cX7_plan 54 = .ok (.bipush 32, 2) := by decide +kernel
theorem dX7_plan_56 : decode cX7_plan 56 = .ok (.idiv, 1) := by decide +kernel
theorem dX7_plan_57 : decode cX7_plan 57 = .ok (.bipush 16, 2) := by decide +kernel
theorem dX7_plan_59 : decode cX7_plan 59 = .ok (.irem, 1) := by decide +kernel
theorem dX7_plan_60 : decode cX7_plan 60 = .ok (.ireturn, 1) := by decide +kernel
theorem dX7_plan_61 : decode cX7_plan 61 = .ok (.iload_n 2, 1) := by decide +kernel
theorem dX7_plan_62 : decode cX7_plan 62 = .ok (.iconst 2, 1) := by decide +kernel
theorem dX7_plan_63 : decode cX7_plan 63 = .ok (.if_icmp .ne 29, 3) := by decide +kernel
theorem dX7_plan_66 : decode cX7_plan 66 = .ok (.aload_n 0, 1) := by decide +kernel
theorem dX7_plan_67 : decode cX7_plan 67 = .ok (.getfield 62, 3) := by decide +kernel
theorem dX7_plan_70 : decode cX7_plan 70 = .ok (.iload_n 1, 1) := by decide +kernel
theorem dX7_plan_71 : decode cX7_plan 71 = .ok (.iaload, 1) := by decide +kernel
theorem dX7_plan_72 : decode cX7_plan 72 = .ok (.bipush 32, 2) := by decide +kernel
theorem dX7_plan_74 : decode cX7_plan 74 = .ok (.irem, 1) := by decide +kernel
theorem dX7_plan_75 : decode cX7_plan 75 = .ok (.bipush 31, 2) := by decide +kernel
theorem dX7_plan_77 : decode cX7_plan 77 = .ok (.if_icmp .eq 15, 3) := by decide +kernel
theorem dX7_plan_80 : decode cX7_plan 80 = .ok (.aload_n 0, 1) := by decide +kernel
theorem dX7_plan_81 : decode cX7_plan 81 = .ok (.getfield 62, 3) := by decide +kernel
theorem dX7_plan_84 : decode cX7_plan 84 = .ok (.iload_n 1, 1) := by decide +kernel
theorem dX7_plan_85 : decode cX7_plan 85 = .ok (.iaload, 1) := by decide +kernel
theorem dX7_plan_86 : decode cX7_plan 86 = .ok (.bipush 32, 2) := by decide +kernel
theorem dX7_plan_88 : decode cX7_plan 88 = .ok (.irem, 1) := by decide +kernel
theorem dX7_plan_89 : decode cX7_plan 89 = .ok (.goto 4, 3) := by decide +kernel
theorem dX7_plan_92 : decode cX7_plan 92 = .ok (.iconst (-1), 1) := by decide +kernel
theorem dX7_plan_93 : decode cX7_plan 93 = .ok (.ireturn, 1) := by decide +kernel
theorem dX7_witness_0 : decode cX7_witness 0 = .ok (.aload_n 0, 1) := by decide +kernel
theorem dX7_witness_1 : decode cX7_witness 1 = .ok (.iload_n 1, 1) := by decide +kernel
theorem dX7_witness_2 : decode cX7_witness 2 = .ok (.invokevirtual 181, 3) := by decide +kernel
theorem dX7_witness_5 : decode cX7_witness 5 = .ok (.ifCond .eq 13, 3) := by decide +kernel
theorem dX7_witness_8 : decode cX7_witness 8 = .ok (.iload_n 2, 1) := by decide +kernel
theorem dX7_witness_9 : decode cX7_witness 9 = .ok (.iconst 1, 1) := by decide +kernel
theorem dX7_witness_10 : decode cX7_witness 10 = .ok (.if_icmp .lt 8, 3) := by decide +kernel
theorem dX7_witness_13 : decode cX7_witness 13 = .ok (.iload_n 2, 1) := by decide +kernel
theorem dX7_witness_14 : decode cX7_witness 14 = .ok (.iconst 3, 1) := by decide +kernel
theorem dX7_witness_15 : decode cX7_witness 15 = .ok (.if_icmp .le 5, 3) := by decide +kernel
theorem dX7_witness_18 : decode cX7_witness 18 = .ok (.iconst (-1), 1) := by decide +kernel
theorem dX7_witness_19 : decode cX7_witness 19 = .ok (.ireturn, 1) := by decide +kernel
theorem dX7_witness_20 : decode cX7_witness 20 = .ok (.aload_n 0, 1) := by decide +kernel
theorem dX7_witness_21 : decode cX7_witness 21 = .ok (.iload_n 1, 1) := by decide +kernel
theorem dX7_witness_22 : decode cX7_witness 22 = .ok (.iload_n 2, 1) := by decide +kernel
theorem dX7_witness_23 : decode cX7_witness 23 = .ok (.invokevirtual 184, 3) := by decide +kernel
theorem dX7_witness_26 : decode cX7_witness 26 = .ok (.iconst (-1), 1) := by decide +kernel
theorem dX7_witness_27 : decode cX7_witness 27 = .ok (.if_icmp .ne 10, 3) := by decide +kernel
theorem dX7_witness_30 : decode cX7_witness 30 = .ok (.aload_n 0, 1) := by decide +kernel
theorem dX7_witness_31 : decode cX7_witness 31 = .ok (.getfield 159, 3) := by decide +kernel
theorem dX7_witness_34 : decode cX7_witness 34 = .ok (.goto 5, 3) := by decide +kernel
theorem dX7_witness_37 : decode cX7_witness 37 = .ok (.bipush (-2), 2) := by decide +kernel
theorem dX7_witness_39 : decode cX7_witness 39 = .ok (.ireturn, 1) := by decide +kernel
theorem dX7_judge_0 : decode cX7_judge 0 = .ok (.iload_n 1, 1) := by decide +kernel
theorem dX7_judge_1 : decode cX7_judge 1 = .ok (.ifCond .lt 15, 3) := by decide +kernel
theorem dX7_judge_4 : decode cX7_judge 4 = .ok (.iload_n 1, 1) := by decide +kernel
theorem dX7_judge_5 : decode cX7_judge 5 = .ok (.iconst 2, 1) := by decide +kernel
theorem dX7_judge_6 : decode cX7_judge 6 = .ok (.if_icmp .gt 10, 3) := by decide +kernel
theorem dX7_judge_9 : decode cX7_judge 9 = .ok (.aload_n 0, 1) := by decide +kernel
theorem dX7_judge_10 : decode cX7_judge 10 = .ok (.getfield 68, 3) := by decide +kernel
theorem dX7_judge_13 : decode cX7_judge 13 = .ok (.ifCond .ne 5, 3) := by decide +kernel
theorem dX7_judge_16 : decode cX7_judge 16 = .ok (.iconst (-1), 1) := by decide +kernel
theorem dX7_judge_17 : decode cX7_judge 17 = .ok (.ireturn, 1) := by decide +kernel
theorem dX7_judge_18 : decode cX7_judge 18 = .ok (.aload_n 0, 1) := by decide +kernel
theorem dX7_judge_19 : decode cX7_judge 19 = .ok (.getfield 107, 3) := by decide +kernel
theorem dX7_judge_22 : decode cX7_judge 22 = .ok (.ifCond .eq 27, 3) := by decide +kernel
theorem dX7_judge_25 : decode cX7_judge 25 = .ok (.aload_n 0, 1) := by decide +kernel
theorem dX7_judge_26 : decode cX7_judge 26 = .ok (.getfield 38, 3) := by decide +kernel
theorem dX7_judge_29 : decode cX7_judge 29 = .ok (.aload_n 0, 1) := by decide +kernel
theorem dX7_judge_30 : decode cX7_judge 30 = .ok (.getfield 107, 3) := by decide +kernel
theorem dX7_judge_33 : decode cX7_judge 33 = .ok (.iaload, 1) := by decide +kernel
theorem dX7_judge_34 : decode cX7_judge 34 = .ok (.ifCond .ne 15, 3) := by decide +kernel
theorem dX7_judge_37 : decode cX7_judge 37 = .ok (.aload_n 0, 1) := by decide +kernel
theorem dX7_judge_38 : decode cX7_judge 38 = .ok (.getfield 41, 3) := by decide +kernel
theorem dX7_judge_41 : decode cX7_judge 41 = .ok (.aload_n 0, 1) := by decide +kernel
theorem dX7_judge_42 : decode cX7_judge 42 = .ok (.getfield 107, 3) := by decide +kernel
theorem dX7_judge_45 : decode cX7_judge 45 = .ok (.iaload, 1) := by decide +kernel
theorem dX7_judge_46 : decode cX7_judge 46 = .ok (.ifCond .eq 5, 3) := by decide +kernel
end
section
theorem dX7_judge_49 : decode cX7_judge 49 = .ok (.iconst 0, 1) := by decide +kernel
theorem dX7_judge_50 : decode cX7_judge 50 = .ok (.ireturn, 1) := by decide +kernel
theorem dX7_judge_51 : decode cX7_judge 51 = .ok (.iconst 0, 1) := by decide +kernel
theorem dX7_judge_52 : decode cX7_judge 52 = .ok (.istore_n 2, 1) := by decide +kernel
theorem dX7_judge_53 : decode cX7_judge 53 = .ok (.iconst 1, 1) := by decide +kernel
theorem dX7_judge_54 : decode cX7_judge 54 = .ok (.istore_n 3, 1) := by decide +kernel
theorem dX7_judge_55 : decode cX7_judge 55 = .ok (.iconst 0, 1) := by decide +kernel
theorem dX7_judge_56 : decode cX7_judge 56 = .ok (.istore 4, 2) := by decide +kernel
theorem dX7_judge_58 : decode cX7_judge 58 = .ok (.iload 4, 2) := by decide +kernel
theorem dX7_judge_60 : decode cX7_judge 60 = .ok (.aload_n 0, 1) := by decide +kernel
theorem dX7_judge_61 : decode cX7_judge 61 = .ok (.getfield 107, 3) := by decide +kernel
theorem dX7_judge_64 : decode cX7_judge 64 = .ok (.if_icmp .ge 172, 3) := by decide +kernel
theorem dX7_judge_67 : decode cX7_judge 67 = .ok (.iload_n 3, 1) := by decide +kernel
theorem dX7_judge_68 : decode cX7_judge 68 = .ok (.ifCond .eq 32, 3) := by decide +kernel
theorem dX7_judge_71 : decode cX7_judge 71 = .ok (.iload 4, 2) := by decide +kernel
theorem dX7_judge_73 : decode cX7_judge 73 = .ok (.ifCond .eq 23, 3) := by decide +kernel
theorem dX7_judge_76 : decode cX7_judge 76 = .ok (.aload_n 0, 1) := by decide +kernel
theorem dX7_judge_77 : decode cX7_judge 77 = .ok (.getfield 38, 3) := by decide +kernel
theorem dX7_judge_80 : decode cX7_judge 80 = .ok (.iload 4, 2) := by decide +kernel
theorem dX7_judge_82 : decode cX7_judge 82 = .ok (.iaload, 1) := by decide +kernel
theorem dX7_judge_83 : decode cX7_judge 83 = .ok (.ifCond .ne 13, 3) := by decide +kernel
theorem dX7_judge_86 : decode cX7_judge 86 = .ok (.aload_n 0, 1) := by decide +kernel
theorem dX7_judge_87 : decode cX7_judge 87 = .ok (.getfield 41, 3) := by decide +kernel
theorem dX7_judge_90 : decode cX7_judge 90 = .ok (.iload 4, 2) := by decide +kernel
theorem dX7_judge_92 : decode cX7_judge 92 = .ok (.iaload, 1) := by decide +kernel
theorem dX7_judge_93 : decode cX7_judge 93 = .ok (.ifCond .eq 7, 3) := by decide +kernel
theorem dX7_judge_96 : decode cX7_judge 96 = .ok (.iconst 1, 1) := by decide +kernel
theorem dX7_judge_97 : decode cX7_judge 97 = .ok (.goto 4, 3) := by decide +kernel
theorem dX7_judge_100 : decode cX7_judge 100 = .ok (.iconst 0, 1) := by decide +kernel
theorem dX7_judge_101 : decode cX7_judge 101 = .ok (.istore_n 3, 1) := by decide +kernel
theorem dX7_judge_102 : decode cX7_judge 102 = .ok (.aload_n 0, 1) := by decide +kernel
theorem dX7_judge_103 : decode cX7_judge 103 = .ok (.getfield 26, 3) := by decide +kernel
theorem dX7_judge_106 : decode cX7_judge 106 = .ok (.iload 4, 2) := by decide +kernel
theorem dX7_judge_108 : decode cX7_judge 108 = .ok (.iaload, 1) := by decide +kernel
theorem dX7_judge_109 : decode cX7_judge 109 = .ok (.iconst 1, 1) := by decide +kernel
theorem dX7_judge_110 : decode cX7_judge 110 = .ok (.if_icmp .ne 17, 3) := by decide +kernel
theorem dX7_judge_113 : decode cX7_judge 113 = .ok (.iload_n 3, 1) := by decide +kernel
theorem dX7_judge_114 : decode cX7_judge 114 = .ok (.ifCond .eq 11, 3) := by decide +kernel
theorem dX7_judge_117 : decode cX7_judge 117 = .ok (.iload_n 1, 1) := by decide +kernel
theorem dX7_judge_118 : decode cX7_judge 118 = .ok (.ifCond .ne 7, 3) := by decide +kernel
theorem dX7_judge_121 : decode cX7_judge 121 = .ok (.iconst 1, 1) := by decide +kernel
theorem dX7_judge_122 : decode cX7_judge 122 = .ok (.goto 4, 3) := by decide +kernel
theorem dX7_judge_125 : decode cX7_judge 125 = .ok (.iconst 0, 1) := by decide +kernel
theorem dX7_judge_126 : decode cX7_judge 126 = .ok (.istore_n 3, 1) := by decide +kernel
theorem dX7_judge_127 : decode cX7_judge 127 = .ok (.aload_n 0, 1) := by decide +kernel
theorem dX7_judge_128 : decode cX7_judge 128 = .ok (.getfield 26, 3) := by decide +kernel
theorem dX7_judge_131 : decode cX7_judge 131 = .ok (.iload 4, 2) := by decide +kernel
theorem dX7_judge_133 : decode cX7_judge 133 = .ok (.iaload, 1) := by decide +kernel
theorem dX7_judge_134 : decode cX7_judge 134 = .ok (.ifCond .ne 41, 3) := by decide +kernel
theorem dX7_judge_137 : decode cX7_judge 137 = .ok (.iload_n 3, 1) := by decide +kernel
theorem dX7_judge_138 : decode cX7_judge 138 = .ok (.ifCond .eq 35, 3) := by decide +kernel
theorem dX7_judge_141 : decode cX7_judge 141 = .ok (.iload_n 1, 1) := by decide +kernel
theorem dX7_judge_142 : decode cX7_judge 142 = .ok (.iconst 1, 1) := by decide +kernel
theorem dX7_judge_143 : decode cX7_judge 143 = .ok (.if_icmp .ne 7, 3) := by decide +kernel
theorem dX7_judge_146 : decode cX7_judge 146 = .ok (.iload_n 2, 1) := by decide +kernel
theorem dX7_judge_147 : decode cX7_judge 147 = .ok (.ifCond .ne 26, 3) := by decide +kernel
theorem dX7_judge_150 : decode cX7_judge 150 = .ok (.iload_n 1, 1) := by decide +kernel
theorem dX7_judge_151 : decode cX7_judge 151 = .ok (.iconst 2, 1) := by decide +kernel
theorem dX7_judge_152 : decode cX7_judge 152 = .ok (.if_icmp .ne 17, 3) := by decide +kernel
theorem dX7_judge_155 : decode cX7_judge 155 = .ok (.aload_n 0, 1) := by decide +kernel
theorem dX7_judge_156 : decode cX7_judge 156 = .ok (.getfield 29, 3) := by decide +kernel
theorem dX7_judge_159 : decode cX7_judge 159 = .ok (.iload 4, 2) := by decide +kernel
theorem dX7_judge_161 : decode cX7_judge 161 = .ok (.iaload, 1) := by decide +kernel
theorem dX7_judge_162 : decode cX7_judge 162 = .ok (.aload_n 0, 1) := by decide +kernel
theorem dX7_judge_163 : decode cX7_judge 163 = .ok (.getfield 74, 3) := by decide +kernel
theorem dX7_judge_166 : decode cX7_judge 166 = .ok (.if_icmp .ne 7, 3) := by decide +kernel
theorem dX7_judge_169 : decode cX7_judge 169 = .ok (.iconst 1, 1) := by decide +kernel
theorem dX7_judge_170 : decode cX7_judge 170 = .ok (.goto 4, 3) := by decide +kernel
theorem dX7_judge_173 : decode cX7_judge 173 = .ok (.iconst 0, 1) := by decide +kernel
theorem dX7_judge_174 : decode cX7_judge 174 = .ok (.istore_n 3, 1) := by decide +kernel
theorem dX7_judge_175 : decode cX7_judge 175 = .ok (.iload_n 2, 1) := by decide +kernel
theorem dX7_judge_176 : decode cX7_judge 176 = .ok (.ifCond .ne 14, 3) := by decide +kernel
theorem dX7_judge_179 : decode cX7_judge 179 = .ok (.aload_n 0, 1) := by decide +kernel
theorem dX7_judge_180 : decode cX7_judge 180 = .ok (.getfield 26, 3) := by decide +kernel
theorem dX7_judge_183 : decode cX7_judge 183 = .ok (.iload 4, 2) := by decide +kernel
theorem dX7_judge_185 : decode cX7_judge 185 = .ok (.iaload, 1) := by decide +kernel
theorem dX7_judge_186 : decode cX7_judge 186 = .ok (.iconst 2, 1) := by decide +kernel
theorem dX7_judge_187 : decode cX7_judge 187 = .ok (.if_icmp .ne 7, 3) := by decide +kernel
theorem dX7_judge_190 : decode cX7_judge 190 = .ok (.iconst 1, 1) := by decide +kernel
theorem dX7_judge_191 : decode cX7_judge 191 = .ok (.goto 4, 3) := by decide +kernel
theorem dX7_judge_194 : decode cX7_judge 194 = .ok (.iconst 0, 1) := by decide +kernel
theorem dX7_judge_195 : decode cX7_judge 195 = .ok (.istore_n 2, 1) := by decide +kernel
theorem dX7_judge_196 : decode cX7_judge 196 = .ok (.aload_n 0, 1) := by decide +kernel
theorem dX7_judge_197 : decode cX7_judge 197 = .ok (.iload 4, 2) := by decide +kernel
theorem dX7_judge_199 : decode cX7_judge 199 = .ok (.iconst 1, 1) := by decide +kernel
theorem dX7_judge_200 : decode cX7_judge 200 = .ok (.iadd, 1) := by decide +kernel
theorem dX7_judge_201 : decode cX7_judge 201 = .ok (.invokevirtual 120, 3) := by decide +kernel
theorem dX7_judge_204 : decode cX7_judge 204 = .ok (.iload_n 3, 1) := by decide +kernel
theorem dX7_judge_205 : decode cX7_judge 205 = .ok (.ifCond .eq 23, 3) := by decide +kernel
theorem dX7_judge_208 : decode cX7_judge 208 = .ok (.iload_n 1, 1) := by decide +kernel
theorem dX7_judge_209 : decode cX7_judge 209 = .ok (.iconst 2, 1) := by decide +kernel
theorem dX7_judge_210 : decode cX7_judge 210 = .ok (.if_icmp .ne 14, 3) := by decide +kernel
theorem dX7_judge_213 : decode cX7_judge 213 = .ok (.aload_n 0, 1) := by decide +kernel
theorem dX7_judge_214 : decode cX7_judge 214 = .ok (.aload_n 0, 1) := by decide +kernel
theorem dX7_judge_215 : decode cX7_judge 215 = .ok (.getfield 74, 3) := by decide +kernel
theorem dX7_judge_218 : decode cX7_judge 218 = .ok (.invokevirtual 174, 3) := by decide +kernel
theorem dX7_judge_221 : decode cX7_judge 221 = .ok (.ifCond .eq 7, 3) := by decide +kernel
theorem dX7_judge_224 : decode cX7_judge 224 = .ok (.iconst 1, 1) := by decide +kernel
theorem dX7_judge_225 : decode cX7_judge 225 = .ok (.goto 4, 3) := by decide +kernel
theorem dX7_judge_228 : decode cX7_judge 228 = .ok (.iconst 0, 1) := by decide +kernel
theorem dX7_judge_229 : decode cX7_judge 229 = .ok (.istore_n 3, 1) := by decide +kernel
theorem dX7_judge_230 : decode cX7_judge 230 = .ok (.iinc 4 1, 3) := by decide +kernel
theorem dX7_judge_233 : decode cX7_judge 233 = .ok (.goto (-175), 3) := by decide +kernel
theorem dX7_judge_236 : decode cX7_judge 236 = .ok (.iload_n 3, 1) := by decide +kernel
theorem dX7_judge_237 : decode cX7_judge 237 = .ok (.ifCond .eq 7, 3) := by decide +kernel
theorem dX7_judge_240 : decode cX7_judge 240 = .ok (.iconst 1, 1) := by decide +kernel
theorem dX7_judge_241 : decode cX7_judge 241 = .ok (.goto 4, 3) := by decide +kernel
theorem dX7_judge_244 : decode cX7_judge 244 = .ok (.iconst 0, 1) := by decide +kernel
theorem dX7_judge_245 : decode cX7_judge 245 = .ok (.ireturn, 1) := by decide +kernel
theorem dX7_cutOf_0 : decode cX7_cutOf 0 = .ok (.iconst 0, 1) := by decide +kernel
theorem dX7_cutOf_1 : decode cX7_cutOf 1 = .ok (.istore_n 2, 1) := by decide +kernel
theorem dX7_cutOf_2 : decode cX7_cutOf 2 = .ok (.iconst 0, 1) := by decide +kernel
theorem dX7_cutOf_3 : decode cX7_cutOf 3 = .ok (.istore_n 3, 1) := by decide +kernel
theorem dX7_cutOf_4 : decode cX7_cutOf 4 = .ok (.iload_n 3, 1) := by decide +kernel
theorem dX7_cutOf_5 : decode cX7_cutOf 5 = .ok (.bipush 18, 2) := by decide +kernel
theorem dX7_cutOf_7 : decode cX7_cutOf 7 = .ok (.if_icmp .ge 105, 3) := by decide +kernel
theorem dX7_cutOf_10 : decode cX7_cutOf 10 = .ok (.aload_n 0, 1) := by decide +kernel
theorem dX7_cutOf_11 : decode cX7_cutOf 11 = .ok (.getfield 16, 3) := by decide +kernel
theorem dX7_cutOf_14 : decode cX7_cutOf 14 = .ok (.iload_n 3, 1) := by decide +kernel
theorem dX7_cutOf_15 : decode cX7_cutOf 15 = .ok (.baload, 1) := by decide +kernel
theorem dX7_cutOf_16 : decode cX7_cutOf 16 = .ok (.ifCond .ne 6, 3) := by decide +kernel
theorem dX7_cutOf_19 : decode cX7_cutOf 19 = .ok (.goto 87, 3) := by decide +kernel
theorem dX7_cutOf_22 : decode cX7_cutOf 22 = .ok (.iload_n 1, 1) := by decide +kernel
theorem dX7_cutOf_23 : decode cX7_cutOf 23 = .ok (.aload_n 0, 1) := by decide +kernel
theorem dX7_cutOf_24 : decode cX7_cutOf 24 = .ok (.getfield 7, 3) := by decide +kernel
theorem dX7_cutOf_27 : decode cX7_cutOf 27 = .ok (.iload_n 3, 1) := by decide +kernel
theorem dX7_cutOf_28 : decode cX7_cutOf 28 = .ok (.iaload, 1) := by decide +kernel
theorem dX7_cutOf_29 : decode cX7_cutOf 29 = .ok (.ishr, 1) := by decide +kernel
theorem dX7_cutOf_30 : decode cX7_cutOf 30 = .ok (.iconst 1, 1) := by decide +kernel
theorem dX7_cutOf_31 : decode cX7_cutOf 31 = .ok (.iand, 1) := by decide +kernel
theorem dX7_cutOf_32 : decode cX7_cutOf 32 = .ok (.iconst 1, 1) := by decide +kernel
theorem dX7_cutOf_33 : decode cX7_cutOf 33 = .ok (.if_icmp .ne 7, 3) := by decide +kernel
theorem dX7_cutOf_36 : decode cX7_cutOf 36 = .ok (.iconst 1, 1) := by decide +kernel
theorem dX7_cutOf_37 : decode cX7_cutOf 37 = .ok (.goto 4, 3) := by decide +kernel
theorem dX7_cutOf_40 : decode cX7_cutOf 40 = .ok (.iconst 0, 1) := by decide +kernel
theorem dX7_cutOf_41 : decode cX7_cutOf 41 = .ok (.istore 4, 2) := by decide +kernel
theorem dX7_cutOf_43 : decode cX7_cutOf 43 = .ok (.iload_n 1, 1) := by decide +kernel
theorem dX7_cutOf_44 : decode cX7_cutOf 44 = .ok (.aload_n 0, 1) := by decide +kernel
theorem dX7_cutOf_45 : decode cX7_cutOf 45 = .ok (.getfield 13, 3) := by decide +kernel
theorem dX7_cutOf_48 : decode cX7_cutOf 48 = .ok (.iload_n 3, 1) := by decide +kernel
theorem dX7_cutOf_49 : decode cX7_cutOf 49 = .ok (.iaload, 1) := by decide +kernel
theorem dX7_cutOf_50 : decode cX7_cutOf 50 = .ok (.ishr, 1) := by decide +kernel
theorem dX7_cutOf_51 : decode cX7_cutOf 51 = .ok (.iconst 1, 1) := by decide +kernel
theorem dX7_cutOf_52 : decode cX7_cutOf 52 = .ok (.iand, 1) := by decide +kernel
theorem dX7_cutOf_53 : decode cX7_cutOf 53 = .ok (.iconst 1, 1) := by decide +kernel
theorem dX7_cutOf_54 : decode cX7_cutOf 54 = .ok (.if_icmp .ne 7, 3) := by decide +kernel
theorem dX7_cutOf_57 : decode cX7_cutOf 57 = .ok (.iconst 1, 1) := by decide +kernel
theorem dX7_cutOf_58 : decode cX7_cutOf 58 = .ok (.goto 4, 3) := by decide +kernel
theorem dX7_cutOf_61 : decode cX7_cutOf 61 = .ok (.iconst 0, 1) := by decide +kernel
theorem dX7_cutOf_62 : decode cX7_cutOf 62 = .ok (.istore 5, 2) := by decide +kernel
theorem dX7_cutOf_64 : decode cX7_cutOf 64 = .ok (.iload 4, 2) := by decide +kernel
theorem dX7_cutOf_66 : decode cX7_cutOf 66 = .ok (.ifCond .eq 19, 3) := by decide +kernel
theorem dX7_cutOf_69 : decode cX7_cutOf 69 = .ok (.iload 5, 2) := by decide +kernel
theorem dX7_cutOf_71 : decode cX7_cutOf 71 = .ok (.ifCond .ne 14, 3) := by decide +kernel
theorem dX7_cutOf_74 : decode cX7_cutOf 74 = .ok (.iload_n 2, 1) := by decide +kernel
theorem dX7_cutOf_75 : decode cX7_cutOf 75 = .ok (.iconst 1, 1) := by decide +kernel
theorem dX7_cutOf_76 : decode cX7_cutOf 76 = .ok (.aload_n 0, 1) := by decide +kernel
theorem dX7_cutOf_77 : decode cX7_cutOf 77 = .ok (.getfield 7, 3) := by decide +kernel
theorem dX7_cutOf_80 : decode cX7_cutOf 80 = .ok (.iload_n 3, 1) := by decide +kernel
theorem dX7_cutOf_81 : decode cX7_cutOf 81 = .ok (.iaload, 1) := by decide +kernel
theorem dX7_cutOf_82 : decode cX7_cutOf 82 = .ok (.ishl, 1) := by decide +kernel
theorem dX7_cutOf_83 : decode cX7_cutOf 83 = .ok (.ior, 1) := by decide +kernel
theorem dX7_cutOf_84 : decode cX7_cutOf 84 = .ok (.istore_n 2, 1) := by decide +kernel
theorem dX7_cutOf_85 : decode cX7_cutOf 85 = .ok (.iload 5, 2) := by decide +kernel
theorem dX7_cutOf_87 : decode cX7_cutOf 87 = .ok (.ifCond .eq 19, 3) := by decide +kernel
theorem dX7_cutOf_90 : decode cX7_cutOf 90 = .ok (.iload 4, 2) := by decide +kernel
theorem dX7_cutOf_92 : decode cX7_cutOf 92 = .ok (.ifCond .ne 14, 3) := by decide +kernel
theorem dX7_cutOf_95 : decode cX7_cutOf 95 = .ok (.iload_n 2, 1) := by decide +kernel
theorem dX7_cutOf_96 : decode cX7_cutOf 96 = .ok (.iconst 1, 1) := by decide +kernel
theorem dX7_cutOf_97 : decode cX7_cutOf 97 = .ok (.aload_n 0, 1) := by decide +kernel
theorem dX7_cutOf_98 : decode cX7_cutOf 98 = .ok (.getfield 13, 3) := by decide +kernel
theorem dX7_cutOf_101 : decode cX7_cutOf 101 = .ok (.iload_n 3, 1) := by decide +kernel
theorem dX7_cutOf_102 : decode cX7_cutOf 102 = .ok (.iaload, 1) := by decide +kernel
theorem dX7_cutOf_103 : decode cX7_cutOf 103 = .ok (.ishl, 1) := by decide +kernel
theorem dX7_cutOf_104 : decode cX7_cutOf 104 = .ok (.ior, 1) := by decide +kernel
theorem dX7_cutOf_105 : decode cX7_cutOf 105 = .ok (.istore_n 2, 1) := by decide +kernel
theorem dX7_cutOf_106 : decode cX7_cutOf 106 = .ok (.iinc 3 1, 3) := by decide +kernel
theorem dX7_cutOf_109 : decode cX7_cutOf 109 = .ok (.goto (-105), 3) := by decide +kernel
theorem dX7_cutOf_112 : decode cX7_cutOf 112 = .ok (.iload_n 2, 1) := by decide +kernel
theorem dX7_cutOf_113 : decode cX7_cutOf 113 = .ok (.invokestatic 134, 3) := by decide +kernel
theorem dX7_cutOf_116 : decode cX7_cutOf 116 = .ok (.ireturn, 1) := by decide +kernel
theorem dX7_place_0 : decode cX7_place 0 = .ok (.iload_n 1, 1) := by decide +kernel
theorem dX7_place_1 : decode cX7_place 1 = .ok (.ifCond .lt 19, 3) := by decide +kernel
theorem dX7_place_4 : decode cX7_place 4 = .ok (.iload_n 1, 1) := by decide +kernel
theorem dX7_place_5 : decode cX7_place 5 = .ok (.aload_n 0, 1) := by decide +kernel
theorem dX7_place_6 : decode cX7_place 6 = .ok (.getfield 68, 3) := by decide +kernel
theorem dX7_place_9 : decode cX7_place 9 = .ok (.if_icmp .ge 11, 3) := by decide +kernel
theorem dX7_place_12 : decode cX7_place 12 = .ok (.aload_n 0, 1) := by decide +kernel
theorem dX7_place_13 : decode cX7_place 13 = .ok (.iload_n 2, 1) := by decide +kernel
theorem dX7_place_14 : decode cX7_place 14 = .ok (.invokevirtual 80, 3) := by decide +kernel
theorem dX7_place_17 : decode cX7_place 17 = .ok (.ifCond .ne 5, 3) := by decide +kernel
theorem dX7_place_20 : decode cX7_place 20 = .ok (.iconst 0, 1) := by decide +kernel
theorem dX7_place_21 : decode cX7_place 21 = .ok (.ireturn, 1) := by decide +kernel
theorem dX7_place_22 : decode cX7_place 22 = .ok (.aload_n 0, 1) := by decide +kernel
theorem dX7_place_23 : decode cX7_place 23 = .ok (.iload_n 2, 1) := by decide +kernel
theorem dX7_place_24 : decode cX7_place 24 = .ok (.invokevirtual 147, 3) := by decide +kernel
theorem dX7_place_27 : decode cX7_place 27 = .ok (.istore_n 3, 1) := by decide +kernel
theorem dX7_place_28 : decode cX7_place 28 = .ok (.aload_n 0, 1) := by decide +kernel
theorem dX7_place_29 : decode cX7_place 29 = .ok (.getfield 20, 3) := by decide +kernel
theorem dX7_place_32 : decode cX7_place 32 = .ok (.iload_n 3, 1) := by decide +kernel
theorem dX7_place_33 : decode cX7_place 33 = .ok (.aload_n 0, 1) := by decide +kernel
theorem dX7_place_34 : decode cX7_place 34 = .ok (.getfield 20, 3) := by decide +kernel
theorem dX7_place_37 : decode cX7_place 37 = .ok (.iload_n 1, 1) := by decide +kernel
theorem dX7_place_38 : decode cX7_place 38 = .ok (.iaload, 1) := by decide +kernel
theorem dX7_place_39 : decode cX7_place 39 = .ok (.iastore, 1) := by decide +kernel
theorem dX7_place_40 : decode cX7_place 40 = .ok (.aload_n 0, 1) := by decide +kernel
theorem dX7_place_41 : decode cX7_place 41 = .ok (.getfield 20, 3) := by decide +kernel
theorem dX7_place_44 : decode cX7_place 44 = .ok (.iload_n 1, 1) := by decide +kernel
theorem dX7_place_45 : decode cX7_place 45 = .ok (.iload_n 2, 1) := by decide +kernel
theorem dX7_place_46 : decode cX7_place 46 = .ok (.iastore, 1) := by decide +kernel
theorem dX7_place_47 : decode cX7_place 47 = .ok (.iconst 1, 1) := by decide +kernel
theorem dX7_place_48 : decode cX7_place 48 = .ok (.ireturn, 1) := by decide +kernel
theorem dX7_cutBehind_0 : decode cX7_cutBehind 0 = .ok (.iconst 0, 1) := by decide +kernel
theorem dX7_cutBehind_1 : decode cX7_cutBehind 1 = .ok (.istore_n 2, 1) := by decide +kernel
theorem dX7_cutBehind_2 : decode cX7_cutBehind 2 = .ok (.iconst 0, 1) := by decide +kernel
theorem dX7_cutBehind_3 : decode cX7_cutBehind 3 = .ok (.istore_n 3, 1) := by decide +kernel
theorem dX7_cutBehind_4 : decode cX7_cutBehind 4 = .ok (.iload_n 3, 1) := by decide +kernel
theorem dX7_cutBehind_5 : decode cX7_cutBehind 5 = .ok (.iload_n 1, 1) := by decide +kernel
theorem dX7_cutBehind_6 : decode cX7_cutBehind 6 = .ok (.if_icmp .ge 20, 3) := by decide +kernel
theorem dX7_cutBehind_9 : decode cX7_cutBehind 9 = .ok (.iload_n 2, 1) := by decide +kernel
theorem dX7_cutBehind_10 : decode cX7_cutBehind 10 = .ok (.iconst 1, 1) := by decide +kernel
theorem dX7_cutBehind_11 : decode cX7_cutBehind 11 = .ok (.aload_n 0, 1) := by decide +kernel
theorem dX7_cutBehind_12 : decode cX7_cutBehind 12 = .ok (.getfield 20, 3) := by decide +kernel
theorem dX7_cutBehind_15 : decode cX7_cutBehind 15 = .ok (.iload_n 3, 1) := by decide +kernel
theorem dX7_cutBehind_16 : decode cX7_cutBehind 16 = .ok (.iaload, 1) := by decide +kernel
theorem dX7_cutBehind_17 : decode cX7_cutBehind 17 = .ok (.ishl, 1) := by decide +kernel
theorem dX7_cutBehind_18 : decode cX7_cutBehind 18 = .ok (.ior, 1) := by decide +kernel
theorem dX7_cutBehind_19 : decode cX7_cutBehind 19 = .ok (.istore_n 2, 1) := by decide +kernel
theorem dX7_cutBehind_20 : decode cX7_cutBehind 20 = .ok (.iinc 3 1, 3) := by decide +kernel
theorem dX7_cutBehind_23 : decode cX7_cutBehind 23 = .ok (.goto (-19), 3) := by decide +kernel
theorem dX7_cutBehind_26 : decode cX7_cutBehind 26 = .ok (.aload_n 0, 1) := by decide +kernel
theorem dX7_cutBehind_27 : decode cX7_cutBehind 27 = .ok (.iload_n 2, 1) := by decide +kernel
theorem dX7_cutBehind_28 : decode cX7_cutBehind 28 = .ok (.invokevirtual 187, 3) := by decide +kernel
theorem dX7_cutBehind_31 : decode cX7_cutBehind 31 = .ok (.ireturn, 1) := by decide +kernel
theorem dX7_cut_0 : decode cX7_cut 0 = .ok (.iload_n 1, 1) := by decide +kernel
theorem dX7_cut_1 : decode cX7_cut 1 = .ok (.ifCond .lt 18, 3) := by decide +kernel
theorem dX7_cut_4 : decode cX7_cut 4 = .ok (.iload_n 1, 1) := by decide +kernel
theorem dX7_cut_5 : decode cX7_cut 5 = .ok (.aload_n 0, 1) := by decide +kernel
theorem dX7_cut_6 : decode cX7_cut 6 = .ok (.getfield 68, 3) := by decide +kernel
theorem dX7_cut_9 : decode cX7_cut 9 = .ok (.if_icmp .gt 10, 3) := by decide +kernel
theorem dX7_cut_12 : decode cX7_cut 12 = .ok (.aload_n 0, 1) := by decide +kernel
theorem dX7_cut_13 : decode cX7_cut 13 = .ok (.getfield 68, 3) := by decide +kernel
theorem dX7_cut_16 : decode cX7_cut 16 = .ok (.ifCond .ne 5, 3) := by decide +kernel
theorem dX7_cut_19 : decode cX7_cut 19 = .ok (.iconst (-1), 1) := by decide +kernel
theorem dX7_cut_20 : decode cX7_cut 20 = .ok (.ireturn, 1) := by decide +kernel
theorem dX7_cut_21 : decode cX7_cut 21 = .ok (.iload_n 1, 1) := by decide +kernel
theorem dX7_cut_22 : decode cX7_cut 22 = .ok (.ifCond .le 9, 3) := by decide +kernel
theorem dX7_cut_25 : decode cX7_cut 25 = .ok (.aload_n 0, 1) := by decide +kernel
theorem dX7_cut_26 : decode cX7_cut 26 = .ok (.iload_n 1, 1) := by decide +kernel
theorem dX7_cut_27 : decode cX7_cut 27 = .ok (.invokevirtual 190, 3) := by decide +kernel
theorem dX7_cut_30 : decode cX7_cut 30 = .ok (.ireturn, 1) := by decide +kernel
theorem dX7_cut_31 : decode cX7_cut 31 = .ok (.iconst 0, 1) := by decide +kernel
theorem dX7_cut_32 : decode cX7_cut 32 = .ok (.istore_n 2, 1) := by decide +kernel
theorem dX7_cut_33 : decode cX7_cut 33 = .ok (.iconst 1, 1) := by decide +kernel
theorem dX7_cut_34 : decode cX7_cut 34 = .ok (.istore_n 3, 1) := by decide +kernel
theorem dX7_cut_35 : decode cX7_cut 35 = .ok (.iload_n 3, 1) := by decide +kernel
theorem dX7_cut_36 : decode cX7_cut 36 = .ok (.aload_n 0, 1) := by decide +kernel
theorem dX7_cut_37 : decode cX7_cut 37 = .ok (.getfield 68, 3) := by decide +kernel
theorem dX7_cut_40 : decode cX7_cut 40 = .ok (.if_icmp .gt 24, 3) := by decide +kernel
theorem dX7_cut_43 : decode cX7_cut 43 = .ok (.aload_n 0, 1) := by decide +kernel
theorem dX7_cut_44 : decode cX7_cut 44 = .ok (.iload_n 3, 1) := by decide +kernel
theorem dX7_cut_45 : decode cX7_cut 45 = .ok (.invokevirtual 190, 3) := by decide +kernel
theorem dX7_cut_48 : decode cX7_cut 48 = .ok (.iload_n 2, 1) := by decide +kernel
theorem dX7_cut_49 : decode cX7_cut 49 = .ok (.if_icmp .le 9, 3) := by decide +kernel
theorem dX7_cut_52 : decode cX7_cut 52 = .ok (.aload_n 0, 1) := by decide +kernel
theorem dX7_cut_53 : decode cX7_cut 53 = .ok (.iload_n 3, 1) := by decide +kernel
theorem dX7_cut_54 : decode cX7_cut 54 = .ok (.invokevirtual 190, 3) := by decide +kernel
theorem dX7_cut_57 : decode cX7_cut 57 = .ok (.istore_n 2, 1) := by decide +kernel
theorem dX7_cut_58 : decode cX7_cut 58 = .ok (.iinc 3 1, 3) := by decide +kernel
theorem dX7_cut_61 : decode cX7_cut 61 = .ok (.goto (-26), 3) := by decide +kernel
theorem dX7_cut_64 : decode cX7_cut 64 = .ok (.iload_n 2, 1) := by decide +kernel
theorem dX7_cut_65 : decode cX7_cut 65 = .ok (.ireturn, 1) := by decide +kernel
theorem dX7_width_0 : decode cX7_width 0 = .ok (.aload_n 0, 1) := by decide +kernel
theorem dX7_width_1 : decode cX7_width 1 = .ok (.getfield 68, 3) := by decide +kernel
theorem dX7_width_4 : decode cX7_width 4 = .ok (.ifCond .ne 5, 3) := by decide +kernel
theorem dX7_width_7 : decode cX7_width 7 = .ok (.iconst (-1), 1) := by decide +kernel
theorem dX7_width_8 : decode cX7_width 8 = .ok (.ireturn, 1) := by decide +kernel
theorem dX7_width_9 : decode cX7_width 9 = .ok (.iconst 1, 1) := by decide +kernel
theorem dX7_width_10 : decode cX7_width 10 = .ok (.aload_n 0, 1) := by decide +kernel
theorem dX7_width_11 : decode cX7_width 11 = .ok (.getfield 68, 3) := by decide +kernel
theorem dX7_width_14 : decode cX7_width 14 = .ok (.ishl, 1) := by decide +kernel
theorem dX7_width_15 : decode cX7_width 15 = .ok (.iconst 1, 1) := by decide +kernel
theorem dX7_width_16 : decode cX7_width 16 = .ok (.isub, 1) := by decide +kernel
theorem dX7_width_17 : decode cX7_width 17 = .ok (.istore_n 1, 1) := by decide +kernel
theorem dX7_width_18 : decode cX7_width 18 = .ok (.aload_n 0, 1) := by decide +kernel
theorem dX7_width_19 : decode cX7_width 19 = .ok (.getfield 65, 3) := by decide +kernel
theorem dX7_width_22 : decode cX7_width 22 = .ok (.iload_n 1, 1) := by decide +kernel
theorem dX7_width_23 : decode cX7_width 23 = .ok (.iconst 0, 1) := by decide +kernel
theorem dX7_width_24 : decode cX7_width 24 = .ok (.iastore, 1) := by decide +kernel
theorem dX7_width_25 : decode cX7_width 25 = .ok (.iload_n 1, 1) := by decide +kernel
theorem dX7_width_26 : decode cX7_width 26 = .ok (.iconst 1, 1) := by decide +kernel
theorem dX7_width_27 : decode cX7_width 27 = .ok (.isub, 1) := by decide +kernel
theorem dX7_width_28 : decode cX7_width 28 = .ok (.istore_n 2, 1) := by decide +kernel
theorem dX7_width_29 : decode cX7_width 29 = .ok (.iload_n 2, 1) := by decide +kernel
theorem dX7_width_30 : decode cX7_width 30 = .ok (.ifCond .lt 71, 3) := by decide +kernel
theorem dX7_width_33 : decode cX7_width 33 = .ok (.bipush 13, 2) := by decide +kernel
theorem dX7_width_35 : decode cX7_width 35 = .ok (.istore_n 3, 1) := by decide +kernel
theorem dX7_width_36 : decode cX7_width 36 = .ok (.iconst 0, 1) := by decide +kernel
theorem dX7_width_37 : decode cX7_width 37 = .ok (.istore 4, 2) := by decide +kernel
theorem dX7_width_39 : decode cX7_width 39 = .ok (.iload 4, 2) := by decide +kernel
theorem dX7_width_41 : decode cX7_width 41 = .ok (.aload_n 0, 1) := by decide +kernel
theorem dX7_width_42 : decode cX7_width 42 = .ok (.getfield 68, 3) := by decide +kernel
theorem dX7_width_45 : decode cX7_width 45 = .ok (.if_icmp .ge 43, 3) := by decide +kernel
theorem dX7_width_48 : decode cX7_width 48 = .ok (.iload_n 2, 1) := by decide +kernel
theorem dX7_width_49 : decode cX7_width 49 = .ok (.iload 4, 2) := by decide +kernel
theorem dX7_width_51 : decode cX7_width 51 = .ok (.ishr, 1) := by decide +kernel
theorem dX7_width_52 : decode cX7_width 52 = .ok (.iconst 1, 1) := by decide +kernel
theorem dX7_width_53 : decode cX7_width 53 = .ok (.iand, 1) := by decide +kernel
theorem dX7_width_54 : decode cX7_width 54 = .ok (.iconst 1, 1) := by decide +kernel
theorem dX7_width_55 : decode cX7_width 55 = .ok (.if_icmp .ne 6, 3) := by decide +kernel
theorem dX7_width_58 : decode cX7_width 58 = .ok (.goto 24, 3) := by decide +kernel
theorem dX7_width_61 : decode cX7_width 61 = .ok (.aload_n 0, 1) := by decide +kernel
theorem dX7_width_62 : decode cX7_width 62 = .ok (.iload_n 2, 1) := by decide +kernel
theorem dX7_width_63 : decode cX7_width 63 = .ok (.iconst 1, 1) := by decide +kernel
theorem dX7_width_64 : decode cX7_width 64 = .ok (.iload 4, 2) := by decide +kernel
theorem dX7_width_66 : decode cX7_width 66 = .ok (.ishl, 1) := by decide +kernel
theorem dX7_width_67 : decode cX7_width 67 = .ok (.ior, 1) := by decide +kernel
theorem dX7_width_68 : decode cX7_width 68 = .ok (.invokevirtual 193, 3) := by decide +kernel
theorem dX7_width_71 : decode cX7_width 71 = .ok (.istore 5, 2) := by decide +kernel
theorem dX7_width_73 : decode cX7_width 73 = .ok (.iload 5, 2) := by decide +kernel
theorem dX7_width_75 : decode cX7_width 75 = .ok (.iload_n 3, 1) := by decide +kernel
theorem dX7_width_76 : decode cX7_width 76 = .ok (.if_icmp .ge 6, 3) := by decide +kernel
theorem dX7_width_79 : decode cX7_width 79 = .ok (.iload 5, 2) := by decide +kernel
theorem dX7_width_81 : decode cX7_width 81 = .ok (.istore_n 3, 1) := by decide +kernel
theorem dX7_width_82 : decode cX7_width 82 = .ok (.iinc 4 1, 3) := by decide +kernel
theorem dX7_width_85 : decode cX7_width 85 = .ok (.goto (-46), 3) := by decide +kernel
theorem dX7_width_88 : decode cX7_width 88 = .ok (.aload_n 0, 1) := by decide +kernel
theorem dX7_width_89 : decode cX7_width 89 = .ok (.getfield 65, 3) := by decide +kernel
theorem dX7_width_92 : decode cX7_width 92 = .ok (.iload_n 2, 1) := by decide +kernel
theorem dX7_width_93 : decode cX7_width 93 = .ok (.iload_n 3, 1) := by decide +kernel
theorem dX7_width_94 : decode cX7_width 94 = .ok (.iastore, 1) := by decide +kernel
theorem dX7_width_95 : decode cX7_width 95 = .ok (.iinc 2 (-1), 3) := by decide +kernel
theorem dX7_width_98 : decode cX7_width 98 = .ok (.goto (-69), 3) := by decide +kernel
theorem dX7_width_101 : decode cX7_width 101 = .ok (.iconst 0, 1) := by decide +kernel
theorem dX7_width_102 : decode cX7_width 102 = .ok (.istore_n 2, 1) := by decide +kernel
theorem dX7_width_103 : decode cX7_width 103 = .ok (.iconst 0, 1) := by decide +kernel
theorem dX7_width_104 : decode cX7_width 104 = .ok (.istore_n 3, 1) := by decide +kernel
theorem dX7_width_105 : decode cX7_width 105 = .ok (.iload_n 3, 1) := by decide +kernel
theorem dX7_width_106 : decode cX7_width 106 = .ok (.aload_n 0, 1) := by decide +kernel
theorem dX7_width_107 : decode cX7_width 107 = .ok (.getfield 68, 3) := by decide +kernel
theorem dX7_width_110 : decode cX7_width 110 = .ok (.if_icmp .ge 65, 3) := by decide +kernel
theorem dX7_width_113 : decode cX7_width 113 = .ok (.iconst 0, 1) := by decide +kernel
theorem dX7_width_114 : decode cX7_width 114 = .ok (.istore 4, 2) := by decide +kernel
theorem dX7_width_116 : decode cX7_width 116 = .ok (.iload_n 2, 1) := by decide +kernel
theorem dX7_width_117 : decode cX7_width 117 = .ok (.iload 4, 2) := by decide +kernel
theorem dX7_width_119 : decode cX7_width 119 = .ok (.ishr, 1) := by decide +kernel
theorem dX7_width_120 : decode cX7_width 120 = .ok (.iconst 1, 1) := by decide +kernel
theorem dX7_width_121 : decode cX7_width 121 = .ok (.iand, 1) := by decide +kernel
theorem dX7_width_122 : decode cX7_width 122 = .ok (.iconst 1, 1) := by decide +kernel
theorem dX7_width_123 : decode cX7_width 123 = .ok (.if_icmp .eq 22, 3) := by decide +kernel
theorem dX7_width_126 : decode cX7_width 126 = .ok (.aload_n 0, 1) := by decide +kernel
theorem dX7_width_127 : decode cX7_width 127 = .ok (.iload_n 2, 1) := by decide +kernel
theorem dX7_width_128 : decode cX7_width 128 = .ok (.iconst 1, 1) := by decide +kernel
theorem dX7_width_129 : decode cX7_width 129 = .ok (.iload 4, 2) := by decide +kernel
theorem dX7_width_131 : decode cX7_width 131 = .ok (.ishl, 1) := by decide +kernel
theorem dX7_width_132 : decode cX7_width 132 = .ok (.ior, 1) := by decide +kernel
theorem dX7_width_133 : decode cX7_width 133 = .ok (.invokevirtual 193, 3) := by decide +kernel
theorem dX7_width_136 : decode cX7_width 136 = .ok (.aload_n 0, 1) := by decide +kernel
theorem dX7_width_137 : decode cX7_width 137 = .ok (.getfield 65, 3) := by decide +kernel
theorem dX7_width_140 : decode cX7_width 140 = .ok (.iconst 0, 1) := by decide +kernel
theorem dX7_width_141 : decode cX7_width 141 = .ok (.iaload, 1) := by decide +kernel
theorem dX7_width_142 : decode cX7_width 142 = .ok (.if_icmp .le 12, 3) := by decide +kernel
theorem dX7_width_145 : decode cX7_width 145 = .ok (.iload 4, 2) := by decide +kernel
theorem dX7_width_147 : decode cX7_width 147 = .ok (.iconst 1, 1) := by decide +kernel
theorem dX7_width_148 : decode cX7_width 148 = .ok (.iadd, 1) := by decide +kernel
theorem dX7_width_149 : decode cX7_width 149 = .ok (.istore 4, 2) := by decide +kernel
theorem dX7_width_151 : decode cX7_width 151 = .ok (.goto (-35), 3) := by decide +kernel
theorem dX7_width_154 : decode cX7_width 154 = .ok (.aload_n 0, 1) := by decide +kernel
theorem dX7_width_155 : decode cX7_width 155 = .ok (.getfield 20, 3) := by decide +kernel
theorem dX7_width_158 : decode cX7_width 158 = .ok (.iload_n 3, 1) := by decide +kernel
theorem dX7_width_159 : decode cX7_width 159 = .ok (.iload 4, 2) := by decide +kernel
theorem dX7_width_161 : decode cX7_width 161 = .ok (.iastore, 1) := by decide +kernel
theorem dX7_width_162 : decode cX7_width 162 = .ok (.iload_n 2, 1) := by decide +kernel
theorem dX7_width_163 : decode cX7_width 163 = .ok (.iconst 1, 1) := by decide +kernel
theorem dX7_width_164 : decode cX7_width 164 = .ok (.iload 4, 2) := by decide +kernel
theorem dX7_width_166 : decode cX7_width 166 = .ok (.ishl, 1) := by decide +kernel
theorem dX7_width_167 : decode cX7_width 167 = .ok (.ior, 1) := by decide +kernel
theorem dX7_width_168 : decode cX7_width 168 = .ok (.istore_n 2, 1) := by decide +kernel
theorem dX7_width_169 : decode cX7_width 169 = .ok (.iinc 3 1, 3) := by decide +kernel
theorem dX7_width_172 : decode cX7_width 172 = .ok (.goto (-67), 3) := by decide +kernel
theorem dX7_width_175 : decode cX7_width 175 = .ok (.aload_n 0, 1) := by decide +kernel
theorem dX7_width_176 : decode cX7_width 176 = .ok (.getfield 65, 3) := by decide +kernel
theorem dX7_width_179 : decode cX7_width 179 = .ok (.iconst 0, 1) := by decide +kernel
theorem dX7_width_180 : decode cX7_width 180 = .ok (.iaload, 1) := by decide +kernel
theorem dX7_width_181 : decode cX7_width 181 = .ok (.ireturn, 1) := by decide +kernel
theorem dX7_worst_0 : decode cX7_worst 0 = .ok (.aload_n 0, 1) := by decide +kernel
theorem dX7_worst_1 : decode cX7_worst 1 = .ok (.iload_n 1, 1) := by decide +kernel
theorem dX7_worst_2 : decode cX7_worst 2 = .ok (.invokevirtual 187, 3) := by decide +kernel
theorem dX7_worst_5 : decode cX7_worst 5 = .ok (.istore_n 2, 1) := by decide +kernel
theorem dX7_worst_6 : decode cX7_worst 6 = .ok (.iload_n 2, 1) := by decide +kernel
theorem dX7_worst_7 : decode cX7_worst 7 = .ok (.aload_n 0, 1) := by decide +kernel
theorem dX7_worst_8 : decode cX7_worst 8 = .ok (.getfield 65, 3) := by decide +kernel
theorem dX7_worst_11 : decode cX7_worst 11 = .ok (.iload_n 1, 1) := by decide +kernel
theorem dX7_worst_12 : decode cX7_worst 12 = .ok (.iaload, 1) := by decide +kernel
theorem dX7_worst_13 : decode cX7_worst 13 = .ok (.if_icmp .le 7, 3) := by decide +kernel
theorem dX7_worst_16 : decode cX7_worst 16 = .ok (.iload_n 2, 1) := by decide +kernel
theorem dX7_worst_17 : decode cX7_worst 17 = .ok (.goto 9, 3) := by decide +kernel
theorem dX7_worst_20 : decode cX7_worst 20 = .ok (.aload_n 0, 1) := by decide +kernel
theorem dX7_worst_21 : decode cX7_worst 21 = .ok (.getfield 65, 3) := by decide +kernel
theorem dX7_worst_24 : decode cX7_worst 24 = .ok (.iload_n 1, 1) := by decide +kernel
theorem dX7_worst_25 : decode cX7_worst 25 = .ok (.iaload, 1) := by decide +kernel
theorem dX7_worst_26 : decode cX7_worst 26 = .ok (.ireturn, 1) := by decide +kernel
theorem dJ6_bitCount_0f7a4_0 : decode cJ6_bitCount_0f7a4 0 = .ok (.iload_n 0, 1) := by decide +kernel
theorem dJ6_bitCount_0f7a4_1 : decode cJ6_bitCount_0f7a4 1 = .ok (.iload_n 0, 1) := by decide +kernel
theorem dJ6_bitCount_0f7a4_2 : decode cJ6_bitCount_0f7a4 2 = .ok (.iconst 1, 1) := by decide +kernel
theorem dJ6_bitCount_0f7a4_3 : decode cJ6_bitCount_0f7a4 3 = .ok (.iushr, 1) := by decide +kernel
theorem dJ6_bitCount_0f7a4_4 : decode cJ6_bitCount_0f7a4 4 = .ok (.ldc_w 265, 3) := by decide +kernel
theorem dJ6_bitCount_0f7a4_7 : decode cJ6_bitCount_0f7a4 7 = .ok (.iand, 1) := by decide +kernel
theorem dJ6_bitCount_0f7a4_8 : decode cJ6_bitCount_0f7a4 8 = .ok (.isub, 1) := by decide +kernel
theorem dJ6_bitCount_0f7a4_9 : decode cJ6_bitCount_0f7a4 9 = .ok (.istore_n 0, 1) := by decide +kernel
theorem dJ6_bitCount_0f7a4_10 : decode cJ6_bitCount_0f7a4 10 = .ok (.iload_n 0, 1) := by decide +kernel
theorem dJ6_bitCount_0f7a4_11 : decode cJ6_bitCount_0f7a4 11 = .ok (.ldc_w 266, 3) := by decide +kernel
theorem dJ6_bitCount_0f7a4_14 : decode cJ6_bitCount_0f7a4 14 = .ok (.iand, 1) := by decide +kernel
theorem dJ6_bitCount_0f7a4_15 : decode cJ6_bitCount_0f7a4 15 = .ok (.iload_n 0, 1) := by decide +kernel
theorem dJ6_bitCount_0f7a4_16 : decode cJ6_bitCount_0f7a4 16 = .ok (.iconst 2, 1) := by decide +kernel
theorem dJ6_bitCount_0f7a4_17 : decode cJ6_bitCount_0f7a4 17 = .ok (.iushr, 1) := by decide +kernel
theorem dJ6_bitCount_0f7a4_18 : decode cJ6_bitCount_0f7a4 18 = .ok (.ldc_w 266, 3) := by decide +kernel
theorem dJ6_bitCount_0f7a4_21 : decode cJ6_bitCount_0f7a4 21 = .ok (.iand, 1) := by decide +kernel
theorem dJ6_bitCount_0f7a4_22 : decode cJ6_bitCount_0f7a4 22 = .ok (.iadd, 1) := by decide +kernel
theorem dJ6_bitCount_0f7a4_23 : decode cJ6_bitCount_0f7a4 23 = .ok (.istore_n 0, 1) := by decide +kernel
theorem dJ6_bitCount_0f7a4_24 : decode cJ6_bitCount_0f7a4 24 = .ok (.iload_n 0, 1) := by decide +kernel
theorem dJ6_bitCount_0f7a4_25 : decode cJ6_bitCount_0f7a4 25 = .ok (.iload_n 0, 1) := by decide +kernel
theorem dJ6_bitCount_0f7a4_26 : decode cJ6_bitCount_0f7a4 26 = .ok (.iconst 4, 1) := by decide +kernel
theorem dJ6_bitCount_0f7a4_27 : decode cJ6_bitCount_0f7a4 27 = .ok (.iushr, 1) := by decide +kernel
theorem dJ6_bitCount_0f7a4_28 : decode cJ6_bitCount_0f7a4 28 = .ok (.iadd, 1) := by decide +kernel
theorem dJ6_bitCount_0f7a4_29 : decode cJ6_bitCount_0f7a4 29 = .ok (.ldc_w 267, 3) := by decide +kernel
theorem dJ6_bitCount_0f7a4_32 : decode cJ6_bitCount_0f7a4 32 = .ok (.iand, 1) := by decide +kernel
theorem dJ6_bitCount_0f7a4_33 : decode cJ6_bitCount_0f7a4 33 = .ok (.istore_n 0, 1) := by decide +kernel
theorem dJ6_bitCount_0f7a4_34 : decode cJ6_bitCount_0f7a4 34 = .ok (.iload_n 0, 1) := by decide +kernel
theorem dJ6_bitCount_0f7a4_35 : decode cJ6_bitCount_0f7a4 35 = .ok (.iload_n 0, 1) := by decide +kernel
theorem dJ6_bitCount_0f7a4_36 : decode cJ6_bitCount_0f7a4 36 = .ok (.bipush 8, 2) := by decide +kernel
theorem dJ6_bitCount_0f7a4_38 : decode cJ6_bitCount_0f7a4 38 = .ok (.iushr, 1) := by decide +kernel
theorem dJ6_bitCount_0f7a4_39 : decode cJ6_bitCount_0f7a4 39 = .ok (.iadd, 1) := by decide +kernel
theorem dJ6_bitCount_0f7a4_40 : decode cJ6_bitCount_0f7a4 40 = .ok (.istore_n 0, 1) := by decide +kernel
theorem dJ6_bitCount_0f7a4_41 : decode cJ6_bitCount_0f7a4 41 = .ok (.iload_n 0, 1) := by decide +kernel
theorem dJ6_bitCount_0f7a4_42 : decode cJ6_bitCount_0f7a4 42 = .ok (.iload_n 0, 1) := by decide +kernel
theorem dJ6_bitCount_0f7a4_43 : decode cJ6_bitCount_0f7a4 43 = .ok (.bipush 16, 2) := by decide +kernel
theorem dJ6_bitCount_0f7a4_45 : decode cJ6_bitCount_0f7a4 45 = .ok (.iushr, 1) := by decide +kernel
theorem dJ6_bitCount_0f7a4_46 : decode cJ6_bitCount_0f7a4 46 = .ok (.iadd, 1) := by decide +kernel
theorem dJ6_bitCount_0f7a4_47 : decode cJ6_bitCount_0f7a4 47 = .ok (.istore_n 0, 1) := by decide +kernel
theorem dJ6_bitCount_0f7a4_48 : decode cJ6_bitCount_0f7a4 48 = .ok (.iload_n 0, 1) := by decide +kernel
theorem dJ6_bitCount_0f7a4_49 : decode cJ6_bitCount_0f7a4 49 = .ok (.bipush 63, 2) := by decide +kernel
theorem dJ6_bitCount_0f7a4_51 : decode cJ6_bitCount_0f7a4 51 = .ok (.iand, 1) := by decide +kernel
theorem dJ6_bitCount_0f7a4_52 : decode cJ6_bitCount_0f7a4 52 = .ok (.ireturn, 1) := by decide +kernel
theorem dJ9_max_7cf53_0 : decode cJ9_max_7cf53 0 = .ok (.iload_n 0, 1) := by decide +kernel
theorem dJ9_max_7cf53_1 : decode cJ9_max_7cf53 1 = .ok (.iload_n 1, 1) := by decide +kernel
theorem dJ9_max_7cf53_2 : decode cJ9_max_7cf53 2 = .ok (.if_icmp .lt 7, 3) := by decide +kernel
theorem dJ9_max_7cf53_5 : decode cJ9_max_7cf53 5 = .ok (.iload_n 0, 1) := by decide +kernel
theorem dJ9_max_7cf53_6 : decode cJ9_max_7cf53 6 = .ok (.goto 4, 3) := by decide +kernel
theorem dJ9_max_7cf53_9 : decode cJ9_max_7cf53 9 = .ok (.iload_n 1, 1) := by decide +kernel
theorem dJ9_max_7cf53_10 : decode cJ9_max_7cf53 10 = .ok (.ireturn, 1) := by decide +kernel
theorem dJ9_min_7cf53_0 : decode cJ9_min_7cf53 0 = .ok (.iload_n 0, 1) := by decide +kernel
theorem dJ9_min_7cf53_1 : decode cJ9_min_7cf53 1 = .ok (.iload_n 1, 1) := by decide +kernel
theorem dJ9_min_7cf53_2 : decode cJ9_min_7cf53 2 = .ok (.if_icmp .gt 7, 3) := by decide +kernel
theorem dJ9_min_7cf53_5 : decode cJ9_min_7cf53 5 = .ok (.iload_n 0, 1) := by decide +kernel
theorem dJ9_min_7cf53_6 : decode cJ9_min_7cf53 6 = .ok (.goto 4, 3) := by decide +kernel
theorem dJ9_min_7cf53_9 : decode cJ9_min_7cf53 9 = .ok (.iload_n 1, 1) := by decide +kernel
theorem dJ9_min_7cf53_10 : decode cJ9_min_7cf53 10 = .ok (.ireturn, 1) := by decide +kernel
theorem dJ7_fill_53178_0 : decode cJ7_fill_53178 0 = .ok (.iconst 0, 1) := by decide +kernel
theorem dJ7_fill_53178_1 : decode cJ7_fill_53178 1 = .ok (.istore_n 2, 1) := by decide +kernel
theorem dJ7_fill_53178_2 : decode cJ7_fill_53178 2 = .ok (.aload_n 0, 1) := by decide +kernel
theorem dJ7_fill_53178_3 : decode cJ7_fill_53178 3 = .ok (.arraylength, 1) := by decide +kernel
theorem dJ7_fill_53178_4 : decode cJ7_fill_53178 4 = .ok (.istore_n 3, 1) := by decide +kernel
theorem dJ7_fill_53178_5 : decode cJ7_fill_53178 5 = .ok (.iload_n 2, 1) := by decide +kernel
theorem dJ7_fill_53178_6 : decode cJ7_fill_53178 6 = .ok (.iload_n 3, 1) := by decide +kernel
theorem dJ7_fill_53178_7 : decode cJ7_fill_53178 7 = .ok (.if_icmp .ge 13, 3) := by decide +kernel
theorem dJ7_fill_53178_10 : decode cJ7_fill_53178 10 = .ok (.aload_n 0, 1) := by decide +kernel
theorem dJ7_fill_53178_11 : decode cJ7_fill_53178 11 = .ok (.iload_n 2, 1) := by decide +kernel
theorem dJ7_fill_53178_12 : decode cJ7_fill_53178 12 = .ok (.iload_n 1, 1) := by decide +kernel
theorem dJ7_fill_53178_13 : decode cJ7_fill_53178 13 = .ok (.iastore, 1) := by decide +kernel
theorem dJ7_fill_53178_14 : decode cJ7_fill_53178 14 = .ok (.iinc 2 1, 3) := by decide +kernel
theorem dJ7_fill_53178_17 : decode cJ7_fill_53178 17 = .ok (.goto (-12), 3) := by decide +kernel
theorem dJ7_fill_53178_20 : decode cJ7_fill_53178 20 = .ok (.return_, 1) := by decide +kernel
theorem dL_law_0 : decode cL_law 0 = .ok (.new 7, 3) := by decide +kernel
theorem dL_law_3 : decode cL_law 3 = .ok (.dup, 1) := by decide +kernel
theorem dL_law_4 : decode cL_law 4 = .ok (.invokespecial 9, 3) := by decide +kernel
theorem dL_law_7 : decode cL_law 7 = .ok (.astore_n 1, 1) := by decide +kernel
theorem dL_law_8 : decode cL_law 8 = .ok (.new 10, 3) := by decide +kernel
theorem dL_law_11 : decode cL_law 11 = .ok (.dup, 1) := by decide +kernel
theorem dL_law_12 : decode cL_law 12 = .ok (.invokespecial 12, 3) := by decide +kernel
theorem dL_law_15 : decode cL_law 15 = .ok (.astore_n 2, 1) := by decide +kernel
theorem dL_law_16 : decode cL_law 16 = .ok (.iconst 0, 1) := by decide +kernel
theorem dL_law_17 : decode cL_law 17 = .ok (.istore_n 3, 1) := by decide +kernel
theorem dL_law_18 : decode cL_law 18 = .ok (.iload_n 3, 1) := by decide +kernel
theorem dL_law_19 : decode cL_law 19 = .ok (.aload_n 0, 1) := by decide +kernel
theorem dL_law_20 : decode cL_law 20 = .ok (.arraylength, 1) := by decide +kernel
theorem dL_law_21 : decode cL_law 21 = .ok (.iconst 4, 1) := by decide +kernel
theorem dL_law_22 : decode cL_law 22 = .ok (.isub, 1) := by decide +kernel
theorem dL_law_23 : decode cL_law 23 = .ok (.if_icmp .gt 501, 3) := by decide +kernel
theorem dL_law_26 : decode cL_law 26 = .ok (.aload_n 0, 1) := by decide +kernel
theorem dL_law_27 : decode cL_law 27 = .ok (.iload_n 3, 1) := by decide +kernel
theorem dL_law_28 : decode cL_law 28 = .ok (.iaload, 1) := by decide +kernel
theorem dL_law_29 : decode cL_law 29 = .ok (.bipush 15, 2) := by decide +kernel
theorem dL_law_31 : decode cL_law 31 = .ok (.iand, 1) := by decide +kernel
theorem dL_law_32 : decode cL_law 32 = .ok (.tableswitch 486 0 15 #[80, 103, 136, 159, 182, 225, 238, 249, 272, 305, 328, 361, 394, 417, 450, 473], 80) := by decide +kernel
theorem dL_law_112 : decode cL_law 112 = .ok (.aload_n 1, 1) := by decide +kernel
theorem dL_law_113 : decode cL_law 113 = .ok (.aload_n 0, 1) := by decide +kernel
theorem dL_law_114 : decode cL_law 114 = .ok (.iload_n 3, 1) := by decide +kernel
theorem dL_law_115 : decode cL_law 115 = .ok (.iconst 1, 1) := by decide +kernel
theorem dL_law_116 : decode cL_law 116 = .ok (.iadd, 1) := by decide +kernel
theorem dL_law_117 : decode cL_law 117 = .ok (.iaload, 1) := by decide +kernel
theorem dL_law_118 : decode cL_law 118 = .ok (.invokevirtual 13, 3) := by decide +kernel
theorem dL_law_121 : decode cL_law 121 = .ok (.aload_n 2, 1) := by decide +kernel
theorem dL_law_122 : decode cL_law 122 = .ok (.aload_n 0, 1) := by decide +kernel
theorem dL_law_123 : decode cL_law 123 = .ok (.iload_n 3, 1) := by decide +kernel
theorem dL_law_124 : decode cL_law 124 = .ok (.iconst 1, 1) := by decide +kernel
theorem dL_law_125 : decode cL_law 125 = .ok (.iadd, 1) := by decide +kernel
theorem dL_law_126 : decode cL_law 126 = .ok (.iaload, 1) := by decide +kernel
theorem dL_law_127 : decode cL_law 127 = .ok (.invokevirtual 17, 3) := by decide +kernel
theorem dL_law_130 : decode cL_law 130 = .ok (.if_icmp .eq 388, 3) := by decide +kernel
theorem dL_law_133 : decode cL_law 133 = .ok (.iconst 0, 1) := by decide +kernel
theorem dL_law_134 : decode cL_law 134 = .ok (.ireturn, 1) := by decide +kernel
theorem dL_law_135 : decode cL_law 135 = .ok (.aload_n 1, 1) := by decide +kernel
theorem dL_law_136 : decode cL_law 136 = .ok (.aload_n 0, 1) := by decide +kernel
theorem dL_law_137 : decode cL_law 137 = .ok (.iload_n 3, 1) := by decide +kernel
theorem dL_law_138 : decode cL_law 138 = .ok (.iconst 1, 1) := by decide +kernel
theorem dL_law_139 : decode cL_law 139 = .ok (.iadd, 1) := by decide +kernel
theorem dL_law_140 : decode cL_law 140 = .ok (.iaload, 1) := by decide +kernel
theorem dL_law_141 : decode cL_law 141 = .ok (.aload_n 0, 1) := by decide +kernel
theorem dL_law_142 : decode cL_law 142 = .ok (.iload_n 3, 1) := by decide +kernel
theorem dL_law_143 : decode cL_law 143 = .ok (.iconst 2, 1) := by decide +kernel
theorem dL_law_144 : decode cL_law 144 = .ok (.iadd, 1) := by decide +kernel
theorem dL_law_145 : decode cL_law 145 = .ok (.iaload, 1) := by decide +kernel
theorem dL_law_146 : decode cL_law 146 = .ok (.invokevirtual 18, 3) := by decide +kernel
theorem dL_law_149 : decode cL_law 149 = .ok (.aload_n 2, 1) := by decide +kernel
theorem dL_law_150 : decode cL_law 150 = .ok (.aload_n 0, 1) := by decide +kernel
theorem dL_law_151 : decode cL_law 151 = .ok (.iload_n 3, 1) := by decide +kernel
theorem dL_law_152 : decode cL_law 152 = .ok (.iconst 1, 1) := by decide +kernel
theorem dL_law_153 : decode cL_law 153 = .ok (.iadd, 1) := by decide +kernel
theorem dL_law_154 : decode cL_law 154 = .ok (.iaload, 1) := by decide +kernel
theorem dL_law_155 : decode cL_law 155 = .ok (.aload_n 0, 1) := by decide +kernel
theorem dL_law_156 : decode cL_law 156 = .ok (.iload_n 3, 1) := by decide +kernel
theorem dL_law_157 : decode cL_law 157 = .ok (.iconst 2, 1) := by decide +kernel
theorem dL_law_158 : decode cL_law 158 = .ok (.iadd, 1) := by decide +kernel
theorem dL_law_159 : decode cL_law 159 = .ok (.iaload, 1) := by decide +kernel
theorem dL_law_160 : decode cL_law 160 = .ok (.invokevirtual 22, 3) := by decide +kernel
theorem dL_law_163 : decode cL_law 163 = .ok (.if_icmp .eq 355, 3) := by decide +kernel
theorem dL_law_166 : decode cL_law 166 = .ok (.iconst 0, 1) := by decide +kernel
theorem dL_law_167 : decode cL_law 167 = .ok (.ireturn, 1) := by decide +kernel
theorem dL_law_168 : decode cL_law 168 = .ok (.aload_n 1, 1) := by decide +kernel
theorem dL_law_169 : decode cL_law 169 = .ok (.aload_n 0, 1) := by decide +kernel
theorem dL_law_170 : decode cL_law 170 = .ok (.iload_n 3, 1) := by decide +kernel
theorem dL_law_171 : decode cL_law 171 = .ok (.iconst 1, 1) := by decide +kernel
theorem dL_law_172 : decode cL_law 172 = .ok (.iadd, 1) := by decide +kernel
theorem dL_law_173 : decode cL_law 173 = .ok (.iaload, 1) := by decide +kernel
theorem dL_law_174 : decode cL_law 174 = .ok (.invokevirtual 23, 3) := by decide +kernel
theorem dL_law_177 : decode cL_law 177 = .ok (.aload_n 2, 1) := by decide +kernel
theorem dL_law_178 : decode cL_law 178 = .ok (.aload_n 0, 1) := by decide +kernel
theorem dL_law_179 : decode cL_law 179 = .ok (.iload_n 3, 1) := by decide +kernel
theorem dL_law_180 : decode cL_law 180 = .ok (.iconst 1, 1) := by decide +kernel
theorem dL_law_181 : decode cL_law 181 = .ok (.iadd, 1) := by decide +kernel
theorem dL_law_182 : decode cL_law 182 = .ok (.iaload, 1) := by decide +kernel
theorem dL_law_183 : decode cL_law 183 = .ok (.invokevirtual 26, 3) := by decide +kernel
theorem dL_law_186 : decode cL_law 186 = .ok (.if_icmp .eq 332, 3) := by decide +kernel
theorem dL_law_189 : decode cL_law 189 = .ok (.iconst 0, 1) := by decide +kernel
theorem dL_law_190 : decode cL_law 190 = .ok (.ireturn, 1) := by decide +kernel
theorem dL_law_191 : decode cL_law 191 = .ok (.aload_n 1, 1) := by decide +kernel
theorem dL_law_192 : decode cL_law 192 = .ok (.aload_n 0, 1) := by decide +kernel
theorem dL_law_193 : decode cL_law 193 = .ok (.iload_n 3, 1) := by decide +kernel
theorem dL_law_194 : decode cL_law 194 = .ok (.iconst 1, 1) := by decide +kernel
theorem dL_law_195 : decode cL_law 195 = .ok (.iadd, 1) := by decide +kernel
theorem dL_law_196 : decode cL_law 196 = .ok (.iaload, 1) := by decide +kernel
theorem dL_law_197 : decode cL_law 197 = .ok (.invokevirtual 27, 3) := by decide +kernel
theorem dL_law_200 : decode cL_law 200 = .ok (.aload_n 2, 1) := by decide +kernel
theorem dL_law_201 : decode cL_law 201 = .ok (.aload_n 0, 1) := by decide +kernel
theorem dL_law_202 : decode cL_law 202 = .ok (.iload_n 3, 1) := by decide +kernel
theorem dL_law_203 : decode cL_law 203 = .ok (.iconst 1, 1) := by decide +kernel
theorem dL_law_204 : decode cL_law 204 = .ok (.iadd, 1) := by decide +kernel
theorem dL_law_205 : decode cL_law 205 = .ok (.iaload, 1) := by decide +kernel
theorem dL_law_206 : decode cL_law 206 = .ok (.invokevirtual 30, 3) := by decide +kernel
theorem dL_law_209 : decode cL_law 209 = .ok (.if_icmp .eq 309, 3) := by decide +kernel
theorem dL_law_212 : decode cL_law 212 = .ok (.iconst 0, 1) := by decide +kernel
theorem dL_law_213 : decode cL_law 213 = .ok (.ireturn, 1) := by decide +kernel
theorem dL_law_214 : decode cL_law 214 = .ok (.aload_n 1, 1) := by decide +kernel
theorem dL_law_215 : decode cL_law 215 = .ok (.aload_n 0, 1) := by decide +kernel
theorem dL_law_216 : decode cL_law 216 = .ok (.iload_n 3, 1) := by decide +kernel
theorem dL_law_217 : decode cL_law 217 = .ok (.iconst 1, 1) := by decide +kernel
theorem dL_law_218 : decode cL_law 218 = .ok (.iadd, 1) := by decide +kernel
theorem dL_law_219 : decode cL_law 219 = .ok (.iaload, 1) := by decide +kernel
theorem dL_law_220 : decode cL_law 220 = .ok (.aload_n 0, 1) := by decide +kernel
theorem dL_law_221 : decode cL_law 221 = .ok (.iload_n 3, 1) := by decide +kernel
theorem dL_law_222 : decode cL_law 222 = .ok (.iconst 2, 1) := by decide +kernel
theorem dL_law_223 : decode cL_law 223 = .ok (.iadd, 1) := by decide +kernel
theorem dL_law_224 : decode cL_law 224 = .ok (.iaload, 1) := by decide +kernel
theorem dL_law_225 : decode cL_law 225 = .ok (.aload_n 0, 1) := by decide +kernel
theorem dL_law_226 : decode cL_law 226 = .ok (.iload_n 3, 1) := by decide +kernel
theorem dL_law_227 : decode cL_law 227 = .ok (.iconst 3, 1) := by decide +kernel
theorem dL_law_228 : decode cL_law 228 = .ok (.iadd, 1) := by decide +kernel
theorem dL_law_229 : decode cL_law 229 = .ok (.iaload, 1) := by decide +kernel
theorem dL_law_230 : decode cL_law 230 = .ok (.invokevirtual 31, 3) := by decide +kernel
theorem dL_law_233 : decode cL_law 233 = .ok (.aload_n 2, 1) := by decide +kernel
theorem dL_law_234 : decode cL_law 234 = .ok (.aload_n 0, 1) := by decide +kernel
theorem dL_law_235 : decode cL_law 235 = .ok (.iload_n 3, 1) := by decide +kernel
theorem dL_law_236 : decode cL_law 236 = .ok (.iconst 1, 1) := by decide +kernel
theorem dL_law_237 : decode cL_law 237 = .ok (.iadd, 1) := by decide +kernel
theorem dL_law_238 : decode cL_law 238 = .ok (.iaload, 1) := by decide +kernel
theorem dL_law_239 : decode cL_law 239 = .ok (.aload_n 0, 1) := by decide +kernel
theorem dL_law_240 : decode cL_law 240 = .ok (.iload_n 3, 1) := by decide +kernel
theorem dL_law_241 : decode cL_law 241 = .ok (.iconst 2, 1) := by decide +kernel
theorem dL_law_242 : decode cL_law 242 = .ok (.iadd, 1) := by decide +kernel
theorem dL_law_243 : decode cL_law 243 = .ok (.iaload, 1) := by decide +kernel
theorem dL_law_244 : decode cL_law 244 = .ok (.aload_n 0, 1) := by decide +kernel
theorem dL_law_245 : decode cL_law 245 = .ok (.iload_n 3, 1) := by decide +kernel
theorem dL_law_246 : decode cL_law 246 = .ok (.iconst 3, 1) := by decide +kernel
theorem dL_law_247 : decode cL_law 247 = .ok (.iadd, 1) := by decide +kernel
theorem dL_law_248 : decode cL_law 248 = .ok (.iaload, 1) := by decide +kernel
theorem dL_law_249 : decode cL_law 249 = .ok (.invokevirtual 35, 3) := by decide +kernel
theorem dL_law_252 : decode cL_law 252 = .ok (.if_icmp .eq 266, 3) := by decide +kernel
theorem dL_law_255 : decode cL_law 255 = .ok (.iconst 0, 1) := by decide +kernel
theorem dL_law_256 : decode cL_law 256 = .ok (.ireturn, 1) := by decide +kernel
theorem dL_law_257 : decode cL_law 257 = .ok (.aload_n 1, 1) := by decide +kernel
theorem dL_law_258 : decode cL_law 258 = .ok (.invokevirtual 36, 3) := by decide +kernel
theorem dL_law_261 : decode cL_law 261 = .ok (.aload_n 2, 1) := by decide +kernel
theorem dL_law_262 : decode cL_law 262 = .ok (.invokevirtual 40, 3) := by decide +kernel
theorem dL_law_265 : decode cL_law 265 = .ok (.if_icmp .eq 253, 3) := by decide +kernel
theorem dL_law_268 : decode cL_law 268 = .ok (.iconst 0, 1) := by decide +kernel
theorem dL_law_269 : decode cL_law 269 = .ok (.ireturn, 1) := by decide +kernel
theorem dL_law_270 : decode cL_law 270 = .ok (.aload_n 1, 1) := by decide +kernel
theorem dL_law_271 : decode cL_law 271 = .ok (.invokevirtual 41, 3) := by decide +kernel
theorem dL_law_274 : decode cL_law 274 = .ok (.aload_n 2, 1) := by decide +kernel
theorem dL_law_275 : decode cL_law 275 = .ok (.invokevirtual 44, 3) := by decide +kernel
theorem dL_law_278 : decode cL_law 278 = .ok (.goto 240, 3) := by decide +kernel
theorem dL_law_281 : decode cL_law 281 = .ok (.aload_n 1, 1) := by decide +kernel
theorem dL_law_282 : decode cL_law 282 = .ok (.aload_n 0, 1) := by decide +kernel
theorem dL_law_283 : decode cL_law 283 = .ok (.iload_n 3, 1) := by decide +kernel
theorem dL_law_284 : decode cL_law 284 = .ok (.iconst 1, 1) := by decide +kernel
theorem dL_law_285 : decode cL_law 285 = .ok (.iadd, 1) := by decide +kernel
theorem dL_law_286 : decode cL_law 286 = .ok (.iaload, 1) := by decide +kernel
theorem dL_law_287 : decode cL_law 287 = .ok (.invokevirtual 45, 3) := by decide +kernel
theorem dL_law_290 : decode cL_law 290 = .ok (.aload_n 2, 1) := by decide +kernel
theorem dL_law_291 : decode cL_law 291 = .ok (.aload_n 0, 1) := by decide +kernel
theorem dL_law_292 : decode cL_law 292 = .ok (.iload_n 3, 1) := by decide +kernel
theorem dL_law_293 : decode cL_law 293 = .ok (.iconst 1, 1) := by decide +kernel
theorem dL_law_294 : decode cL_law 294 = .ok (.iadd, 1) := by decide +kernel
theorem dL_law_295 : decode cL_law 295 = .ok (.iaload, 1) := by decide +kernel
theorem dL_law_296 : decode cL_law 296 = .ok (.invokevirtual 49, 3) := by decide +kernel
theorem dL_law_299 : decode cL_law 299 = .ok (.if_icmp .eq 219, 3) := by decide +kernel
theorem dL_law_302 : decode cL_law 302 = .ok (.iconst 0, 1) := by decide +kernel
theorem dL_law_303 : decode cL_law 303 = .ok (.ireturn, 1) := by decide +kernel
theorem dL_law_304 : decode cL_law 304 = .ok (.aload_n 1, 1) := by decide +kernel
theorem dL_law_305 : decode cL_law 305 = .ok (.aload_n 0, 1) := by decide +kernel
theorem dL_law_306 : decode cL_law 306 = .ok (.iload_n 3, 1) := by decide +kernel
theorem dL_law_307 : decode cL_law 307 = .ok (.iconst 1, 1) := by decide +kernel
theorem dL_law_308 : decode cL_law 308 = .ok (.iadd, 1) := by decide +kernel
theorem dL_law_309 : decode cL_law 309 = .ok (.iaload, 1) := by decide +kernel
theorem dL_law_310 : decode cL_law 310 = .ok (.aload_n 0, 1) := by decide +kernel
theorem dL_law_311 : decode cL_law 311 = .ok (.iload_n 3, 1) := by decide +kernel
theorem dL_law_312 : decode cL_law 312 = .ok (.iconst 2, 1) := by decide +kernel
theorem dL_law_313 : decode cL_law 313 = .ok (.iadd, 1) := by decide +kernel
theorem dL_law_314 : decode cL_law 314 = .ok (.iaload, 1) := by decide +kernel
theorem dL_law_315 : decode cL_law 315 = .ok (.invokevirtual 50, 3) := by decide +kernel
theorem dL_law_318 : decode cL_law 318 = .ok (.aload_n 2, 1) := by decide +kernel
theorem dL_law_319 : decode cL_law 319 = .ok (.aload_n 0, 1) := by decide +kernel
theorem dL_law_320 : decode cL_law 320 = .ok (.iload_n 3, 1) := by decide +kernel
theorem dL_law_321 : decode cL_law 321 = .ok (.iconst 1, 1) := by decide +kernel
theorem dL_law_322 : decode cL_law 322 = .ok (.iadd, 1) := by decide +kernel
theorem dL_law_323 : decode cL_law 323 = .ok (.iaload, 1) := by decide +kernel
theorem dL_law_324 : decode cL_law 324 = .ok (.aload_n 0, 1) := by decide +kernel
theorem dL_law_325 : decode cL_law 325 = .ok (.iload_n 3, 1) := by decide +kernel
theorem dL_law_326 : decode cL_law 326 = .ok (.iconst 2, 1) := by decide +kernel
theorem dL_law_327 : decode cL_law 327 = .ok (.iadd, 1) := by decide +kernel
theorem dL_law_328 : decode cL_law 328 = .ok (.iaload, 1) := by decide +kernel
theorem dL_law_329 : decode cL_law 329 = .ok (.invokevirtual 53, 3) := by decide +kernel
theorem dL_law_332 : decode cL_law 332 = .ok (.if_icmp .eq 186, 3) := by decide +kernel
theorem dL_law_335 : decode cL_law 335 = .ok (.iconst 0, 1) := by decide +kernel
theorem dL_law_336 : decode cL_law 336 = .ok (.ireturn, 1) := by decide +kernel
theorem dL_law_337 : decode cL_law 337 = .ok (.aload_n 1, 1) := by decide +kernel
theorem dL_law_338 : decode cL_law 338 = .ok (.aload_n 0, 1) := by decide +kernel
theorem dL_law_339 : decode cL_law 339 = .ok (.iload_n 3, 1) := by decide +kernel
theorem dL_law_340 : decode cL_law 340 = .ok (.iconst 1, 1) := by decide +kernel
theorem dL_law_341 : decode cL_law 341 = .ok (.iadd, 1) := by decide +kernel
theorem dL_law_342 : decode cL_law 342 = .ok (.iaload, 1) := by decide +kernel
theorem dL_law_343 : decode cL_law 343 = .ok (.invokevirtual 54, 3) := by decide +kernel
theorem dL_law_346 : decode cL_law 346 = .ok (.aload_n 2, 1) := by decide +kernel
theorem dL_law_347 : decode cL_law 347 = .ok (.aload_n 0, 1) := by decide +kernel
theorem dL_law_348 : decode cL_law 348 = .ok (.iload_n 3, 1) := by decide +kernel
theorem dL_law_349 : decode cL_law 349 = .ok (.iconst 1, 1) := by decide +kernel
theorem dL_law_350 : decode cL_law 350 = .ok (.iadd, 1) := by decide +kernel
theorem dL_law_351 : decode cL_law 351 = .ok (.iaload, 1) := by decide +kernel
theorem dL_law_352 : decode cL_law 352 = .ok (.invokevirtual 57, 3) := by decide +kernel
theorem dL_law_355 : decode cL_law 355 = .ok (.if_icmp .eq 163, 3) := by decide +kernel
theorem dL_law_358 : decode cL_law 358 = .ok (.iconst 0, 1) := by decide +kernel
theorem dL_law_359 : decode cL_law 359 = .ok (.ireturn, 1) := by decide +kernel
theorem dL_law_360 : decode cL_law 360 = .ok (.aload_n 1, 1) := by decide +kernel
theorem dL_law_361 : decode cL_law 361 = .ok (.aload_n 0, 1) := by decide +kernel
theorem dL_law_362 : decode cL_law 362 = .ok (.iload_n 3, 1) := by decide +kernel
theorem dL_law_363 : decode cL_law 363 = .ok (.iconst 1, 1) := by decide +kernel
theorem dL_law_364 : decode cL_law 364 = .ok (.iadd, 1) := by decide +kernel
theorem dL_law_365 : decode cL_law 365 = .ok (.iaload, 1) := by decide +kernel
theorem dL_law_366 : decode cL_law 366 = .ok (.aload_n 0, 1) := by decide +kernel
theorem dL_law_367 : decode cL_law 367 = .ok (.iload_n 3, 1) := by decide +kernel
theorem dL_law_368 : decode cL_law 368 = .ok (.iconst 2, 1) := by decide +kernel
theorem dL_law_369 : decode cL_law 369 = .ok (.iadd, 1) := by decide +kernel
theorem dL_law_370 : decode cL_law 370 = .ok (.iaload, 1) := by decide +kernel
theorem dL_law_371 : decode cL_law 371 = .ok (.invokevirtual 58, 3) := by decide +kernel
theorem dL_law_374 : decode cL_law 374 = .ok (.aload_n 2, 1) := by decide +kernel
theorem dL_law_375 : decode cL_law 375 = .ok (.aload_n 0, 1) := by decide +kernel
theorem dL_law_376 : decode cL_law 376 = .ok (.iload_n 3, 1) := by decide +kernel
theorem dL_law_377 : decode cL_law 377 = .ok (.iconst 1, 1) := by decide +kernel
theorem dL_law_378 : decode cL_law 378 = .ok (.iadd, 1) := by decide +kernel
theorem dL_law_379 : decode cL_law 379 = .ok (.iaload, 1) := by decide +kernel
theorem dL_law_380 : decode cL_law 380 = .ok (.aload_n 0, 1) := by decide +kernel
theorem dL_law_381 : decode cL_law 381 = .ok (.iload_n 3, 1) := by decide +kernel
theorem dL_law_382 : decode cL_law 382 = .ok (.iconst 2, 1) := by decide +kernel
theorem dL_law_383 : decode cL_law 383 = .ok (.iadd, 1) := by decide +kernel
theorem dL_law_384 : decode cL_law 384 = .ok (.iaload, 1) := by decide +kernel
theorem dL_law_385 : decode cL_law 385 = .ok (.invokevirtual 61, 3) := by decide +kernel
theorem dL_law_388 : decode cL_law 388 = .ok (.if_icmp .eq 130, 3) := by decide +kernel
theorem dL_law_391 : decode cL_law 391 = .ok (.iconst 0, 1) := by decide +kernel
theorem dL_law_392 : decode cL_law 392 = .ok (.ireturn, 1) := by decide +kernel
theorem dL_law_393 : decode cL_law 393 = .ok (.aload_n 1, 1) := by decide +kernel
theorem dL_law_394 : decode cL_law 394 = .ok (.aload_n 0, 1) := by decide +kernel
theorem dL_law_395 : decode cL_law 395 = .ok (.iload_n 3, 1) := by decide +kernel
theorem dL_law_396 : decode cL_law 396 = .ok (.iconst 1, 1) := by decide +kernel
theorem dL_law_397 : decode cL_law 397 = .ok (.iadd, 1) := by decide +kernel
theorem dL_law_398 : decode cL_law 398 = .ok (.iaload, 1) := by decide +kernel
theorem dL_law_399 : decode cL_law 399 = .ok (.aload_n 0, 1) := by decide +kernel
theorem dL_law_400 : decode cL_law 400 = .ok (.iload_n 3, 1) := by decide +kernel
theorem dL_law_401 : decode cL_law 401 = .ok (.iconst 2, 1) := by decide +kernel
theorem dL_law_402 : decode cL_law 402 = .ok (.iadd, 1) := by decide +kernel
theorem dL_law_403 : decode cL_law 403 = .ok (.iaload, 1) := by decide +kernel
theorem dL_law_404 : decode cL_law 404 = .ok (.invokevirtual 62, 3) := by decide +kernel
theorem dL_law_407 : decode cL_law 407 = .ok (.aload_n 2, 1) := by decide +kernel
theorem dL_law_408 : decode cL_law 408 = .ok (.aload_n 0, 1) := by decide +kernel
theorem dL_law_409 : decode cL_law 409 = .ok (.iload_n 3, 1) := by decide +kernel
theorem dL_law_410 : decode cL_law 410 = .ok (.iconst 1, 1) := by decide +kernel
theorem dL_law_411 : decode cL_law 411 = .ok (.iadd, 1) := by decide +kernel
theorem dL_law_412 : decode cL_law 412 = .ok (.iaload, 1) := by decide +kernel
theorem dL_law_413 : decode cL_law 413 = .ok (.aload_n 0, 1) := by decide +kernel
theorem dL_law_414 : decode cL_law 414 = .ok (.iload_n 3, 1) := by decide +kernel
theorem dL_law_415 : decode cL_law 415 = .ok (.iconst 2, 1) := by decide +kernel
theorem dL_law_416 : decode cL_law 416 = .ok (.iadd, 1) := by decide +kernel
theorem dL_law_417 : decode cL_law 417 = .ok (.iaload, 1) := by decide +kernel
theorem dL_law_418 : decode cL_law 418 = .ok (.invokevirtual 65, 3) := by decide +kernel
theorem dL_law_421 : decode cL_law 421 = .ok (.if_icmp .eq 97, 3) := by decide +kernel
theorem dL_law_424 : decode cL_law 424 = .ok (.iconst 0, 1) := by decide +kernel
theorem dL_law_425 : decode cL_law 425 = .ok (.ireturn, 1) := by decide +kernel
theorem dL_law_426 : decode cL_law 426 = .ok (.aload_n 1, 1) := by decide +kernel
theorem dL_law_427 : decode cL_law 427 = .ok (.aload_n 0, 1) := by decide +kernel
theorem dL_law_428 : decode cL_law 428 = .ok (.iload_n 3, 1) := by decide +kernel
theorem dL_law_429 : decode cL_law 429 = .ok (.iconst 1, 1) := by decide +kernel
theorem dL_law_430 : decode cL_law 430 = .ok (.iadd, 1) := by decide +kernel
theorem dL_law_431 : decode cL_law 431 = .ok (.iaload, 1) := by decide +kernel
theorem dL_law_432 : decode cL_law 432 = .ok (.invokevirtual 66, 3) := by decide +kernel
theorem dL_law_435 : decode cL_law 435 = .ok (.aload_n 2, 1) := by decide +kernel
theorem dL_law_436 : decode cL_law 436 = .ok (.aload_n 0, 1) := by decide +kernel
theorem dL_law_437 : decode cL_law 437 = .ok (.iload_n 3, 1) := by decide +kernel
theorem dL_law_438 : decode cL_law 438 = .ok (.iconst 1, 1) := by decide +kernel
theorem dL_law_439 : decode cL_law 439 = .ok (.iadd, 1) := by decide +kernel
theorem dL_law_440 : decode cL_law 440 = .ok (.iaload, 1) := by decide +kernel
theorem dL_law_441 : decode cL_law 441 = .ok (.invokevirtual 69, 3) := by decide +kernel
theorem dL_law_444 : decode cL_law 444 = .ok (.if_icmp .eq 74, 3) := by decide +kernel
theorem dL_law_447 : decode cL_law 447 = .ok (.iconst 0, 1) := by decide +kernel
theorem dL_law_448 : decode cL_law 448 = .ok (.ireturn, 1) := by decide +kernel
theorem dL_law_449 : decode cL_law 449 = .ok (.aload_n 1, 1) := by decide +kernel
theorem dL_law_450 : decode cL_law 450 = .ok (.aload_n 0, 1) := by decide +kernel
theorem dL_law_451 : decode cL_law 451 = .ok (.iload_n 3, 1) := by decide +kernel
theorem dL_law_452 : decode cL_law 452 = .ok (.iconst 1, 1) := by decide +kernel
theorem dL_law_453 : decode cL_law 453 = .ok (.iadd, 1) := by decide +kernel
theorem dL_law_454 : decode cL_law 454 = .ok (.iaload, 1) := by decide +kernel
theorem dL_law_455 : decode cL_law 455 = .ok (.aload_n 0, 1) := by decide +kernel
theorem dL_law_456 : decode cL_law 456 = .ok (.iload_n 3, 1) := by decide +kernel
theorem dL_law_457 : decode cL_law 457 = .ok (.iconst 2, 1) := by decide +kernel
theorem dL_law_458 : decode cL_law 458 = .ok (.iadd, 1) := by decide +kernel
theorem dL_law_459 : decode cL_law 459 = .ok (.iaload, 1) := by decide +kernel
theorem dL_law_460 : decode cL_law 460 = .ok (.invokevirtual 70, 3) := by decide +kernel
theorem dL_law_463 : decode cL_law 463 = .ok (.aload_n 2, 1) := by decide +kernel
theorem dL_law_464 : decode cL_law 464 = .ok (.aload_n 0, 1) := by decide +kernel
theorem dL_law_465 : decode cL_law 465 = .ok (.iload_n 3, 1) := by decide +kernel
theorem dL_law_466 : decode cL_law 466 = .ok (.iconst 1, 1) := by decide +kernel
theorem dL_law_467 : decode cL_law 467 = .ok (.iadd, 1) := by decide +kernel
theorem dL_law_468 : decode cL_law 468 = .ok (.iaload, 1) := by decide +kernel
theorem dL_law_469 : decode cL_law 469 = .ok (.aload_n 0, 1) := by decide +kernel
theorem dL_law_470 : decode cL_law 470 = .ok (.iload_n 3, 1) := by decide +kernel
theorem dL_law_471 : decode cL_law 471 = .ok (.iconst 2, 1) := by decide +kernel
theorem dL_law_472 : decode cL_law 472 = .ok (.iadd, 1) := by decide +kernel
theorem dL_law_473 : decode cL_law 473 = .ok (.iaload, 1) := by decide +kernel
theorem dL_law_474 : decode cL_law 474 = .ok (.invokevirtual 74, 3) := by decide +kernel
theorem dL_law_477 : decode cL_law 477 = .ok (.if_icmp .eq 41, 3) := by decide +kernel
theorem dL_law_480 : decode cL_law 480 = .ok (.iconst 0, 1) := by decide +kernel
theorem dL_law_481 : decode cL_law 481 = .ok (.ireturn, 1) := by decide +kernel
theorem dL_law_482 : decode cL_law 482 = .ok (.aload_n 1, 1) := by decide +kernel
theorem dL_law_483 : decode cL_law 483 = .ok (.aload_n 0, 1) := by decide +kernel
theorem dL_law_484 : decode cL_law 484 = .ok (.iload_n 3, 1) := by decide +kernel
theorem dL_law_485 : decode cL_law 485 = .ok (.iconst 1, 1) := by decide +kernel
theorem dL_law_486 : decode cL_law 486 = .ok (.iadd, 1) := by decide +kernel
theorem dL_law_487 : decode cL_law 487 = .ok (.iaload, 1) := by decide +kernel
theorem dL_law_488 : decode cL_law 488 = .ok (.invokevirtual 75, 3) := by decide +kernel
theorem dL_law_491 : decode cL_law 491 = .ok (.aload_n 2, 1) := by decide +kernel
theorem dL_law_492 : decode cL_law 492 = .ok (.aload_n 0, 1) := by decide +kernel
theorem dL_law_493 : decode cL_law 493 = .ok (.iload_n 3, 1) := by decide +kernel
theorem dL_law_494 : decode cL_law 494 = .ok (.iconst 1, 1) := by decide +kernel
theorem dL_law_495 : decode cL_law 495 = .ok (.iadd, 1) := by decide +kernel
theorem dL_law_496 : decode cL_law 496 = .ok (.iaload, 1) := by decide +kernel
theorem dL_law_497 : decode cL_law 497 = .ok (.invokevirtual 78, 3) := by decide +kernel
theorem dL_law_500 : decode cL_law 500 = .ok (.if_icmp .eq 18, 3) := by decide +kernel
theorem dL_law_503 : decode cL_law 503 = .ok (.iconst 0, 1) := by decide +kernel
theorem dL_law_504 : decode cL_law 504 = .ok (.ireturn, 1) := by decide +kernel
theorem dL_law_505 : decode cL_law 505 = .ok (.aload_n 1, 1) := by decide +kernel
theorem dL_law_506 : decode cL_law 506 = .ok (.invokevirtual 79, 3) := by decide +kernel
theorem dL_law_509 : decode cL_law 509 = .ok (.aload_n 2, 1) := by decide +kernel
theorem dL_law_510 : decode cL_law 510 = .ok (.invokevirtual 83, 3) := by decide +kernel
theorem dL_law_513 : decode cL_law 513 = .ok (.if_icmp .eq 5, 3) := by decide +kernel
theorem dL_law_516 : decode cL_law 516 = .ok (.iconst 0, 1) := by decide +kernel
theorem dL_law_517 : decode cL_law 517 = .ok (.ireturn, 1) := by decide +kernel
theorem dL_law_518 : decode cL_law 518 = .ok (.iinc 3 4, 3) := by decide +kernel
theorem dL_law_521 : decode cL_law 521 = .ok (.goto (-503), 3) := by decide +kernel
theorem dL_law_524 : decode cL_law 524 = .ok (.iconst 1, 1) := by decide +kernel
theorem dL_law_525 : decode cL_law 525 = .ok (.ireturn, 1) := by decide +kernel
end
section
/-! the state: numbers of the scalar fields (σ.1), arrays by their cell (σ.2.1), the way (σ.2.2)
  cell 0 x (class X6): ground=cell 1, search=cell 6, layout=cell 14, finder=cell 17, replay=cell 22, way=way
  cell 1 ground (class X1): caves=0, dug=1, mouth=2, lesser=cell 2, greater=cell 3, at=cell 4, next=cell 5
  cell 2 ground.lesser [18]
  cell 3 ground.greater [18]
  cell 4 ground.at [12]
  cell 5 ground.next [12]
  cell 6 search (class X3): ground=cell 1, now=cell 12, done=3, party=4, what=cell 7, cave=cell 8, passage=cell 9, lostBefore=cell 10, partyBefore=cell 11
  cell 7 search.what [200]
  cell 8 search.cave [200]
  cell 9 search.passage [200]
  cell 10 search.lostBefore [200]
  cell 11 search.partyBefore [200]
  cell 12 now (class X4): below=cell 13, total=5, guarded=6, lost=7
  cell 13 now.below [12]
  cell 14 layout (class X2): ground=cell 1, row=cell 15, worst=cell 16
  cell 15 layout.row [12]
  cell 16 layout.worst [4096]
  cell 17 finder (class X0): ground=cell 1, slots=cell 18, stands=cell 19, from=cell 20, orders=cell 21, met=8, goal=9, law=10, most=11, head=12, below=13, lost=14, slid=15, guarded=16, total=17
  cell 18 finder.slots [2048]
  cell 19 finder.stands [1604]
  cell 20 finder.from [1604]
  cell 21 finder.orders [1604]
  cell 22 replay (class X4): below=cell 23, total=18, guarded=19, lost=20
  cell 23 replay.below [12]
  cell 24 model (class X7): caves=21, mouth=22, one=cell 25, two=cell 26, isThere=cell 27, layout=cell 28, men=cell 29, lostCaves=23, lostPassages=24, done=25, what=cell 30, where=cell 31, along=cell 32, stood=cell 33, caveBits=cell 34, passageBits=cell 35, table=cell 36, met=cell 37, cameFrom=cell 38, cameBy=cell 39, metMany=26, hasSlid=27, planMany=28, plan=cell 40, ahead=cell 41
  cell 25 model.one [18]
  cell 26 model.two [18]
  cell 27 model.isThere [18]
  cell 28 model.layout [12]
  cell 29 model.men [12]
  cell 30 model.what [201]
  cell 31 model.where [201]
  cell 32 model.along [201]
  cell 33 model.stood [2412]
  cell 34 model.caveBits [201]
  cell 35 model.passageBits [201]
  cell 36 model.table [524288]
  cell 37 model.met [262144]
  cell 38 model.cameFrom [262144]
  cell 39 model.cameBy [262144]
  cell 40 model.plan [600]
  cell 41 model.ahead [4096]
-/
abbrev Sg : Type := (Nat → Int32) × (Nat → Nat → Int32) × Value
def upA (f : Nat → Nat → Int32) (k : Nat) (x : Nat → Int32) : Nat → Nat → Int32 := fun j => if j = k then x else f j
/-- a scalar set; a place of an array set; the way set -/
def sv (σ : Sg) (i : Nat) (x : Int32) : Sg := (upd σ.1 i x, σ.2.1, σ.2.2)
def sa (σ : Sg) (k i : Nat) (x : Int32) : Sg := (σ.1, upA σ.2.1 k (upd (σ.2.1 k) i x), σ.2.2)
def sw (σ : Sg) (x : Value) : Sg := (σ.1, σ.2.1, x)
def HH (g : GX) (ad : Nat → Nat) (σ : Sg) : va_W := [
  (ad 0, .inr (6, [.ref (ad 1), .ref (ad 6), .ref (ad 14), .ref (ad 17), .ref (ad 22), σ.2.2])),
  (ad 1, .inr (1, [.int (σ.1 0), .int (σ.1 1), .int (σ.1 2), .ref (ad 2), .ref (ad 3), .ref (ad 4), .ref (ad 5)])),
  (ad 2, .inl (g.2.1, 18, .inl (σ.2.1 2))),
  (ad 3, .inl (g.2.1, 18, .inl (σ.2.1 3))),
  (ad 4, .inl (g.2.1, 12, .inl (σ.2.1 4))),
  (ad 5, .inl (g.2.1, 12, .inl (σ.2.1 5))),
  (ad 6, .inr (3, [.ref (ad 1), .ref (ad 12), .int (σ.1 3), .int (σ.1 4), .ref (ad 7), .ref (ad 8), .ref (ad 9), .ref (ad 10), .ref (ad 11)])),
  (ad 7, .inl (g.2.1, 200, .inl (σ.2.1 7))),
  (ad 8, .inl (g.2.1, 200, .inl (σ.2.1 8))),
  (ad 9, .inl (g.2.1, 200, .inl (σ.2.1 9))),
  (ad 10, .inl (g.2.1, 200, .inl (σ.2.1 10))),
  (ad 11, .inl (g.2.1, 200, .inl (σ.2.1 11))),
  (ad 12, .inr (4, [.ref (ad 13), .int (σ.1 5), .int (σ.1 6), .int (σ.1 7)])),
  (ad 13, .inl (g.2.1, 12, .inl (σ.2.1 13))),
  (ad 14, .inr (2, [.ref (ad 1), .ref (ad 15), .ref (ad 16)])),
  (ad 15, .inl (g.2.1, 12, .inl (σ.2.1 15))),
  (ad 16, .inl (g.2.1, 4096, .inl (σ.2.1 16))),
  (ad 17, .inr (0, [.ref (ad 1), .ref (ad 18), .ref (ad 19), .ref (ad 20), .ref (ad 21), .int (σ.1 8), .int (σ.1 9), .int (σ.1 10), .int (σ.1 11), .int (σ.1 12), .int (σ.1 13), .int (σ.1 14), .int (σ.1 15), .int (σ.1 16), .int (σ.1 17)])),
  (ad 18, .inl (g.2.1, 2048, .inl (σ.2.1 18))),
  (ad 19, .inl (g.2.1, 1604, .inl (σ.2.1 19))),
  (ad 20, .inl (g.2.1, 1604, .inl (σ.2.1 20))),
  (ad 21, .inl (g.2.1, 1604, .inl (σ.2.1 21))),
  (ad 22, .inr (4, [.ref (ad 23), .int (σ.1 18), .int (σ.1 19), .int (σ.1 20)])),
  (ad 23, .inl (g.2.1, 12, .inl (σ.2.1 23))),
  (ad 24, .inr (7, [.int (σ.1 21), .int (σ.1 22), .ref (ad 25), .ref (ad 26), .ref (ad 27), .ref (ad 28), .ref (ad 29), .int (σ.1 23), .int (σ.1 24), .int (σ.1 25), .ref (ad 30), .ref (ad 31), .ref (ad 32), .ref (ad 33), .ref (ad 34), .ref (ad 35), .ref (ad 36), .ref (ad 37), .ref (ad 38), .ref (ad 39), .int (σ.1 26), .int (σ.1 27), .int (σ.1 28), .ref (ad 40), .ref (ad 41)])),
  (ad 25, .inl (g.2.1, 18, .inl (σ.2.1 25))),
  (ad 26, .inl (g.2.1, 18, .inl (σ.2.1 26))),
  (ad 27, .inl (g.2.2, 18, .inl (σ.2.1 27))),
  (ad 28, .inl (g.2.1, 12, .inl (σ.2.1 28))),
  (ad 29, .inl (g.2.1, 12, .inl (σ.2.1 29))),
  (ad 30, .inl (g.2.1, 201, .inl (σ.2.1 30))),
  (ad 31, .inl (g.2.1, 201, .inl (σ.2.1 31))),
  (ad 32, .inl (g.2.1, 201, .inl (σ.2.1 32))),
  (ad 33, .inl (g.2.1, 2412, .inl (σ.2.1 33))),
  (ad 34, .inl (g.2.1, 201, .inl (σ.2.1 34))),
  (ad 35, .inl (g.2.1, 201, .inl (σ.2.1 35))),
  (ad 36, .inl (g.2.1, 524288, .inl (σ.2.1 36))),
  (ad 37, .inl (g.2.1, 262144, .inl (σ.2.1 37))),
  (ad 38, .inl (g.2.1, 262144, .inl (σ.2.1 38))),
  (ad 39, .inl (g.2.1, 262144, .inl (σ.2.1 39))),
  (ad 40, .inl (g.2.1, 600, .inl (σ.2.1 40))),
  (ad 41, .inl (g.2.1, 4096, .inl (σ.2.1 41)))]
section HHs
variable {g : GX} {ad : Nat → Nat} {σ : Sg} {ex : va_W}
theorem hc0 : (HH g ad σ ++ ex)[0]? = some (ad 0, .inr (6, [.ref (ad 1), .ref (ad 6), .ref (ad 14), .ref (ad 17), .ref (ad 22), σ.2.2])) := rfl
theorem hc1 : (HH g ad σ ++ ex)[1]? = some (ad 1, .inr (1, [.int (σ.1 0), .int (σ.1 1), .int (σ.1 2), .ref (ad 2), .ref (ad 3), .ref (ad 4), .ref (ad 5)])) := rfl
theorem hc2 : (HH g ad σ ++ ex)[2]? = some (ad 2, .inl (g.2.1, 18, .inl (σ.2.1 2))) := rfl
theorem hc3 : (HH g ad σ ++ ex)[3]? = some (ad 3, .inl (g.2.1, 18, .inl (σ.2.1 3))) := rfl
theorem hc4 : (HH g ad σ ++ ex)[4]? = some (ad 4, .inl (g.2.1, 12, .inl (σ.2.1 4))) := rfl
theorem hc5 : (HH g ad σ ++ ex)[5]? = some (ad 5, .inl (g.2.1, 12, .inl (σ.2.1 5))) := rfl
theorem hc6 : (HH g ad σ ++ ex)[6]? = some (ad 6, .inr (3, [.ref (ad 1), .ref (ad 12), .int (σ.1 3), .int (σ.1 4), .ref (ad 7), .ref (ad 8), .ref (ad 9), .ref (ad 10), .ref (ad 11)])) := rfl
theorem hc7 : (HH g ad σ ++ ex)[7]? = some (ad 7, .inl (g.2.1, 200, .inl (σ.2.1 7))) := rfl
theorem hc8 : (HH g ad σ ++ ex)[8]? = some (ad 8, .inl (g.2.1, 200, .inl (σ.2.1 8))) := rfl
theorem hc9 : (HH g ad σ ++ ex)[9]? = some (ad 9, .inl (g.2.1, 200, .inl (σ.2.1 9))) := rfl
theorem hc10 : (HH g ad σ ++ ex)[10]? = some (ad 10, .inl (g.2.1, 200, .inl (σ.2.1 10))) := rfl
theorem hc11 : (HH g ad σ ++ ex)[11]? = some (ad 11, .inl (g.2.1, 200, .inl (σ.2.1 11))) := rfl
theorem hc12 : (HH g ad σ ++ ex)[12]? = some (ad 12, .inr (4, [.ref (ad 13), .int (σ.1 5), .int (σ.1 6), .int (σ.1 7)])) := rfl
theorem hc13 : (HH g ad σ ++ ex)[13]? = some (ad 13, .inl (g.2.1, 12, .inl (σ.2.1 13))) := rfl
theorem hc14 : (HH g ad σ ++ ex)[14]? = some (ad 14, .inr (2, [.ref (ad 1), .ref (ad 15), .ref (ad 16)])) := rfl
theorem hc15 : (HH g ad σ ++ ex)[15]? = some (ad 15, .inl (g.2.1, 12, .inl (σ.2.1 15))) := rfl
theorem hc16 : (HH g ad σ ++ ex)[16]? = some (ad 16, .inl (g.2.1, 4096, .inl (σ.2.1 16))) := rfl
theorem hc17 : (HH g ad σ ++ ex)[17]? = some (ad 17, .inr (0, [.ref (ad 1), .ref (ad 18), .ref (ad 19), .ref (ad 20), .ref (ad 21), .int (σ.1 8), .int (σ.1 9), .int (σ.1 10), .int (σ.1 11), .int (σ.1 12), .int (σ.1 13), .int (σ.1 14), .int (σ.1 15), .int (σ.1 16), .int (σ.1 17)])) := rfl
theorem hc18 : (HH g ad σ ++ ex)[18]? = some (ad 18, .inl (g.2.1, 2048, .inl (σ.2.1 18))) := rfl
theorem hc19 : (HH g ad σ ++ ex)[19]? = some (ad 19, .inl (g.2.1, 1604, .inl (σ.2.1 19))) := rfl
theorem hc20 : (HH g ad σ ++ ex)[20]? = some (ad 20, .inl (g.2.1, 1604, .inl (σ.2.1 20))) := rfl
theorem hc21 : (HH g ad σ ++ ex)[21]? = some (ad 21, .inl (g.2.1, 1604, .inl (σ.2.1 21))) := rfl
theorem hc22 : (HH g ad σ ++ ex)[22]? = some (ad 22, .inr (4, [.ref (ad 23), .int (σ.1 18), .int (σ.1 19), .int (σ.1 20)])) := rfl
theorem hc23 : (HH g ad σ ++ ex)[23]? = some (ad 23, .inl (g.2.1, 12, .inl (σ.2.1 23))) := rfl
theorem hc24 : (HH g ad σ ++ ex)[24]? = some (ad 24, .inr (7, [.int (σ.1 21), .int (σ.1 22), .ref (ad 25), .ref (ad 26), .ref (ad 27), .ref (ad 28), .ref (ad 29), .int (σ.1 23), .int (σ.1 24), .int (σ.1 25), .ref (ad 30), .ref (ad 31), .ref (ad 32), .ref (ad 33), .ref (ad 34), .ref (ad 35), .ref (ad 36), .ref (ad 37), .ref (ad 38), .ref (ad 39), .int (σ.1 26), .int (σ.1 27), .int (σ.1 28), .ref (ad 40), .ref (ad 41)])) := rfl
theorem hc25 : (HH g ad σ ++ ex)[25]? = some (ad 25, .inl (g.2.1, 18, .inl (σ.2.1 25))) := rfl
theorem hc26 : (HH g ad σ ++ ex)[26]? = some (ad 26, .inl (g.2.1, 18, .inl (σ.2.1 26))) := rfl
theorem hc27 : (HH g ad σ ++ ex)[27]? = some (ad 27, .inl (g.2.2, 18, .inl (σ.2.1 27))) := rfl
theorem hc28 : (HH g ad σ ++ ex)[28]? = some (ad 28, .inl (g.2.1, 12, .inl (σ.2.1 28))) := rfl
theorem hc29 : (HH g ad σ ++ ex)[29]? = some (ad 29, .inl (g.2.1, 12, .inl (σ.2.1 29))) := rfl
theorem hc30 : (HH g ad σ ++ ex)[30]? = some (ad 30, .inl (g.2.1, 201, .inl (σ.2.1 30))) := rfl
theorem hc31 : (HH g ad σ ++ ex)[31]? = some (ad 31, .inl (g.2.1, 201, .inl (σ.2.1 31))) := rfl
theorem hc32 : (HH g ad σ ++ ex)[32]? = some (ad 32, .inl (g.2.1, 201, .inl (σ.2.1 32))) := rfl
theorem hc33 : (HH g ad σ ++ ex)[33]? = some (ad 33, .inl (g.2.1, 2412, .inl (σ.2.1 33))) := rfl
theorem hc34 : (HH g ad σ ++ ex)[34]? = some (ad 34, .inl (g.2.1, 201, .inl (σ.2.1 34))) := rfl
theorem hc35 : (HH g ad σ ++ ex)[35]? = some (ad 35, .inl (g.2.1, 201, .inl (σ.2.1 35))) := rfl
theorem hc36 : (HH g ad σ ++ ex)[36]? = some (ad 36, .inl (g.2.1, 524288, .inl (σ.2.1 36))) := rfl
theorem hc37 : (HH g ad σ ++ ex)[37]? = some (ad 37, .inl (g.2.1, 262144, .inl (σ.2.1 37))) := rfl
theorem hc38 : (HH g ad σ ++ ex)[38]? = some (ad 38, .inl (g.2.1, 262144, .inl (σ.2.1 38))) := rfl
theorem hc39 : (HH g ad σ ++ ex)[39]? = some (ad 39, .inl (g.2.1, 262144, .inl (σ.2.1 39))) := rfl
theorem hc40 : (HH g ad σ ++ ex)[40]? = some (ad 40, .inl (g.2.1, 600, .inl (σ.2.1 40))) := rfl
theorem hc41 : (HH g ad σ ++ ex)[41]? = some (ad 41, .inl (g.2.1, 4096, .inl (σ.2.1 41))) := rfl
theorem hsw {y : Value} : (HH g ad σ ++ ex).set 0 (ad 0, .inr (6, ([.ref (ad 1), .ref (ad 6), .ref (ad 14), .ref (ad 17), .ref (ad 22), σ.2.2] : List Value).set 5 y)) = HH g ad (sw σ y) ++ ex := rfl
theorem hs0 {y : Int32} : (HH g ad σ ++ ex).set 1 (ad 1, .inr (1, ([.int (σ.1 0), .int (σ.1 1), .int (σ.1 2), .ref (ad 2), .ref (ad 3), .ref (ad 4), .ref (ad 5)] : List Value).set 0 (.int y))) = HH g ad (sv σ 0 y) ++ ex := rfl
theorem hs1 {y : Int32} : (HH g ad σ ++ ex).set 1 (ad 1, .inr (1, ([.int (σ.1 0), .int (σ.1 1), .int (σ.1 2), .ref (ad 2), .ref (ad 3), .ref (ad 4), .ref (ad 5)] : List Value).set 1 (.int y))) = HH g ad (sv σ 1 y) ++ ex := rfl
theorem hs2 {y : Int32} : (HH g ad σ ++ ex).set 1 (ad 1, .inr (1, ([.int (σ.1 0), .int (σ.1 1), .int (σ.1 2), .ref (ad 2), .ref (ad 3), .ref (ad 4), .ref (ad 5)] : List Value).set 2 (.int y))) = HH g ad (sv σ 2 y) ++ ex := rfl
theorem ha2 {i : Nat} {y : Int32} : (HH g ad σ ++ ex).set 2 (ad 2, .inl (g.2.1, 18, .inl (upd (σ.2.1 2) i y))) = HH g ad (sa σ 2 i y) ++ ex := rfl
theorem ha3 {i : Nat} {y : Int32} : (HH g ad σ ++ ex).set 3 (ad 3, .inl (g.2.1, 18, .inl (upd (σ.2.1 3) i y))) = HH g ad (sa σ 3 i y) ++ ex := rfl
theorem ha4 {i : Nat} {y : Int32} : (HH g ad σ ++ ex).set 4 (ad 4, .inl (g.2.1, 12, .inl (upd (σ.2.1 4) i y))) = HH g ad (sa σ 4 i y) ++ ex := rfl
theorem ha5 {i : Nat} {y : Int32} : (HH g ad σ ++ ex).set 5 (ad 5, .inl (g.2.1, 12, .inl (upd (σ.2.1 5) i y))) = HH g ad (sa σ 5 i y) ++ ex := rfl
theorem hs3 {y : Int32} : (HH g ad σ ++ ex).set 6 (ad 6, .inr (3, ([.ref (ad 1), .ref (ad 12), .int (σ.1 3), .int (σ.1 4), .ref (ad 7), .ref (ad 8), .ref (ad 9), .ref (ad 10), .ref (ad 11)] : List Value).set 2 (.int y))) = HH g ad (sv σ 3 y) ++ ex := rfl
theorem hs4 {y : Int32} : (HH g ad σ ++ ex).set 6 (ad 6, .inr (3, ([.ref (ad 1), .ref (ad 12), .int (σ.1 3), .int (σ.1 4), .ref (ad 7), .ref (ad 8), .ref (ad 9), .ref (ad 10), .ref (ad 11)] : List Value).set 3 (.int y))) = HH g ad (sv σ 4 y) ++ ex := rfl
theorem ha7 {i : Nat} {y : Int32} : (HH g ad σ ++ ex).set 7 (ad 7, .inl (g.2.1, 200, .inl (upd (σ.2.1 7) i y))) = HH g ad (sa σ 7 i y) ++ ex := rfl
theorem ha8 {i : Nat} {y : Int32} : (HH g ad σ ++ ex).set 8 (ad 8, .inl (g.2.1, 200, .inl (upd (σ.2.1 8) i y))) = HH g ad (sa σ 8 i y) ++ ex := rfl
theorem ha9 {i : Nat} {y : Int32} : (HH g ad σ ++ ex).set 9 (ad 9, .inl (g.2.1, 200, .inl (upd (σ.2.1 9) i y))) = HH g ad (sa σ 9 i y) ++ ex := rfl
theorem ha10 {i : Nat} {y : Int32} : (HH g ad σ ++ ex).set 10 (ad 10, .inl (g.2.1, 200, .inl (upd (σ.2.1 10) i y))) = HH g ad (sa σ 10 i y) ++ ex := rfl
theorem ha11 {i : Nat} {y : Int32} : (HH g ad σ ++ ex).set 11 (ad 11, .inl (g.2.1, 200, .inl (upd (σ.2.1 11) i y))) = HH g ad (sa σ 11 i y) ++ ex := rfl
theorem hs5 {y : Int32} : (HH g ad σ ++ ex).set 12 (ad 12, .inr (4, ([.ref (ad 13), .int (σ.1 5), .int (σ.1 6), .int (σ.1 7)] : List Value).set 1 (.int y))) = HH g ad (sv σ 5 y) ++ ex := rfl
theorem hs6 {y : Int32} : (HH g ad σ ++ ex).set 12 (ad 12, .inr (4, ([.ref (ad 13), .int (σ.1 5), .int (σ.1 6), .int (σ.1 7)] : List Value).set 2 (.int y))) = HH g ad (sv σ 6 y) ++ ex := rfl
theorem hs7 {y : Int32} : (HH g ad σ ++ ex).set 12 (ad 12, .inr (4, ([.ref (ad 13), .int (σ.1 5), .int (σ.1 6), .int (σ.1 7)] : List Value).set 3 (.int y))) = HH g ad (sv σ 7 y) ++ ex := rfl
theorem ha13 {i : Nat} {y : Int32} : (HH g ad σ ++ ex).set 13 (ad 13, .inl (g.2.1, 12, .inl (upd (σ.2.1 13) i y))) = HH g ad (sa σ 13 i y) ++ ex := rfl
theorem ha15 {i : Nat} {y : Int32} : (HH g ad σ ++ ex).set 15 (ad 15, .inl (g.2.1, 12, .inl (upd (σ.2.1 15) i y))) = HH g ad (sa σ 15 i y) ++ ex := rfl
theorem ha16 {i : Nat} {y : Int32} : (HH g ad σ ++ ex).set 16 (ad 16, .inl (g.2.1, 4096, .inl (upd (σ.2.1 16) i y))) = HH g ad (sa σ 16 i y) ++ ex := rfl
theorem hs8 {y : Int32} : (HH g ad σ ++ ex).set 17 (ad 17, .inr (0, ([.ref (ad 1), .ref (ad 18), .ref (ad 19), .ref (ad 20), .ref (ad 21), .int (σ.1 8), .int (σ.1 9), .int (σ.1 10), .int (σ.1 11), .int (σ.1 12), .int (σ.1 13), .int (σ.1 14), .int (σ.1 15), .int (σ.1 16), .int (σ.1 17)] : List Value).set 5 (.int y))) = HH g ad (sv σ 8 y) ++ ex := rfl
theorem hs9 {y : Int32} : (HH g ad σ ++ ex).set 17 (ad 17, .inr (0, ([.ref (ad 1), .ref (ad 18), .ref (ad 19), .ref (ad 20), .ref (ad 21), .int (σ.1 8), .int (σ.1 9), .int (σ.1 10), .int (σ.1 11), .int (σ.1 12), .int (σ.1 13), .int (σ.1 14), .int (σ.1 15), .int (σ.1 16), .int (σ.1 17)] : List Value).set 6 (.int y))) = HH g ad (sv σ 9 y) ++ ex := rfl
theorem hs10 {y : Int32} : (HH g ad σ ++ ex).set 17 (ad 17, .inr (0, ([.ref (ad 1), .ref (ad 18), .ref (ad 19), .ref (ad 20), .ref (ad 21), .int (σ.1 8), .int (σ.1 9), .int (σ.1 10), .int (σ.1 11), .int (σ.1 12), .int (σ.1 13), .int (σ.1 14), .int (σ.1 15), .int (σ.1 16), .int (σ.1 17)] : List Value).set 7 (.int y))) = HH g ad (sv σ 10 y) ++ ex := rfl
theorem hs11 {y : Int32} : (HH g ad σ ++ ex).set 17 (ad 17, .inr (0, ([.ref (ad 1), .ref (ad 18), .ref (ad 19), .ref (ad 20), .ref (ad 21), .int (σ.1 8), .int (σ.1 9), .int (σ.1 10), .int (σ.1 11), .int (σ.1 12), .int (σ.1 13), .int (σ.1 14), .int (σ.1 15), .int (σ.1 16), .int (σ.1 17)] : List Value).set 8 (.int y))) = HH g ad (sv σ 11 y) ++ ex := rfl
theorem hs12 {y : Int32} : (HH g ad σ ++ ex).set 17 (ad 17, .inr (0, ([.ref (ad 1), .ref (ad 18), .ref (ad 19), .ref (ad 20), .ref (ad 21), .int (σ.1 8), .int (σ.1 9), .int (σ.1 10), .int (σ.1 11), .int (σ.1 12), .int (σ.1 13), .int (σ.1 14), .int (σ.1 15), .int (σ.1 16), .int (σ.1 17)] : List Value).set 9 (.int y))) = HH g ad (sv σ 12 y) ++ ex := rfl
theorem hs13 {y : Int32} : (HH g ad σ ++ ex).set 17 (ad 17, .inr (0, ([.ref (ad 1), .ref (ad 18), .ref (ad 19), .ref (ad 20), .ref (ad 21), .int (σ.1 8), .int (σ.1 9), .int (σ.1 10), .int (σ.1 11), .int (σ.1 12), .int (σ.1 13), .int (σ.1 14), .int (σ.1 15), .int (σ.1 16), .int (σ.1 17)] : List Value).set 10 (.int y))) = HH g ad (sv σ 13 y) ++ ex := rfl
theorem hs14 {y : Int32} : (HH g ad σ ++ ex).set 17 (ad 17, .inr (0, ([.ref (ad 1), .ref (ad 18), .ref (ad 19), .ref (ad 20), .ref (ad 21), .int (σ.1 8), .int (σ.1 9), .int (σ.1 10), .int (σ.1 11), .int (σ.1 12), .int (σ.1 13), .int (σ.1 14), .int (σ.1 15), .int (σ.1 16), .int (σ.1 17)] : List Value).set 11 (.int y))) = HH g ad (sv σ 14 y) ++ ex := rfl
theorem hs15 {y : Int32} : (HH g ad σ ++ ex).set 17 (ad 17, .inr (0, ([.ref (ad 1), .ref (ad 18), .ref (ad 19), .ref (ad 20), .ref (ad 21), .int (σ.1 8), .int (σ.1 9), .int (σ.1 10), .int (σ.1 11), .int (σ.1 12), .int (σ.1 13), .int (σ.1 14), .int (σ.1 15), .int (σ.1 16), .int (σ.1 17)] : List Value).set 12 (.int y))) = HH g ad (sv σ 15 y) ++ ex := rfl
theorem hs16 {y : Int32} : (HH g ad σ ++ ex).set 17 (ad 17, .inr (0, ([.ref (ad 1), .ref (ad 18), .ref (ad 19), .ref (ad 20), .ref (ad 21), .int (σ.1 8), .int (σ.1 9), .int (σ.1 10), .int (σ.1 11), .int (σ.1 12), .int (σ.1 13), .int (σ.1 14), .int (σ.1 15), .int (σ.1 16), .int (σ.1 17)] : List Value).set 13 (.int y))) = HH g ad (sv σ 16 y) ++ ex := rfl
theorem hs17 {y : Int32} : (HH g ad σ ++ ex).set 17 (ad 17, .inr (0, ([.ref (ad 1), .ref (ad 18), .ref (ad 19), .ref (ad 20), .ref (ad 21), .int (σ.1 8), .int (σ.1 9), .int (σ.1 10), .int (σ.1 11), .int (σ.1 12), .int (σ.1 13), .int (σ.1 14), .int (σ.1 15), .int (σ.1 16), .int (σ.1 17)] : List Value).set 14 (.int y))) = HH g ad (sv σ 17 y) ++ ex := rfl
theorem ha18 {i : Nat} {y : Int32} : (HH g ad σ ++ ex).set 18 (ad 18, .inl (g.2.1, 2048, .inl (upd (σ.2.1 18) i y))) = HH g ad (sa σ 18 i y) ++ ex := rfl
theorem ha19 {i : Nat} {y : Int32} : (HH g ad σ ++ ex).set 19 (ad 19, .inl (g.2.1, 1604, .inl (upd (σ.2.1 19) i y))) = HH g ad (sa σ 19 i y) ++ ex := rfl
theorem ha20 {i : Nat} {y : Int32} : (HH g ad σ ++ ex).set 20 (ad 20, .inl (g.2.1, 1604, .inl (upd (σ.2.1 20) i y))) = HH g ad (sa σ 20 i y) ++ ex := rfl
theorem ha21 {i : Nat} {y : Int32} : (HH g ad σ ++ ex).set 21 (ad 21, .inl (g.2.1, 1604, .inl (upd (σ.2.1 21) i y))) = HH g ad (sa σ 21 i y) ++ ex := rfl
theorem hs18 {y : Int32} : (HH g ad σ ++ ex).set 22 (ad 22, .inr (4, ([.ref (ad 23), .int (σ.1 18), .int (σ.1 19), .int (σ.1 20)] : List Value).set 1 (.int y))) = HH g ad (sv σ 18 y) ++ ex := rfl
theorem hs19 {y : Int32} : (HH g ad σ ++ ex).set 22 (ad 22, .inr (4, ([.ref (ad 23), .int (σ.1 18), .int (σ.1 19), .int (σ.1 20)] : List Value).set 2 (.int y))) = HH g ad (sv σ 19 y) ++ ex := rfl
theorem hs20 {y : Int32} : (HH g ad σ ++ ex).set 22 (ad 22, .inr (4, ([.ref (ad 23), .int (σ.1 18), .int (σ.1 19), .int (σ.1 20)] : List Value).set 3 (.int y))) = HH g ad (sv σ 20 y) ++ ex := rfl
theorem ha23 {i : Nat} {y : Int32} : (HH g ad σ ++ ex).set 23 (ad 23, .inl (g.2.1, 12, .inl (upd (σ.2.1 23) i y))) = HH g ad (sa σ 23 i y) ++ ex := rfl
theorem hs21 {y : Int32} : (HH g ad σ ++ ex).set 24 (ad 24, .inr (7, ([.int (σ.1 21), .int (σ.1 22), .ref (ad 25), .ref (ad 26), .ref (ad 27), .ref (ad 28), .ref (ad 29), .int (σ.1 23), .int (σ.1 24), .int (σ.1 25), .ref (ad 30), .ref (ad 31), .ref (ad 32), .ref (ad 33), .ref (ad 34), .ref (ad 35), .ref (ad 36), .ref (ad 37), .ref (ad 38), .ref (ad 39), .int (σ.1 26), .int (σ.1 27), .int (σ.1 28), .ref (ad 40), .ref (ad 41)] : List Value).set 0 (.int y))) = HH g ad (sv σ 21 y) ++ ex := rfl
theorem hs22 {y : Int32} : (HH g ad σ ++ ex).set 24 (ad 24, .inr (7, ([.int (σ.1 21), .int (σ.1 22), .ref (ad 25), .ref (ad 26), .ref (ad 27), .ref (ad 28), .ref (ad 29), .int (σ.1 23), .int (σ.1 24), .int (σ.1 25), .ref (ad 30), .ref (ad 31), .ref (ad 32), .ref (ad 33), .ref (ad 34), .ref (ad 35), .ref (ad 36), .ref (ad 37), .ref (ad 38), .ref (ad 39), .int (σ.1 26), .int (σ.1 27), .int (σ.1 28), .ref (ad 40), .ref (ad 41)] : List Value).set 1 (.int y))) = HH g ad (sv σ 22 y) ++ ex := rfl
theorem hs23 {y : Int32} : (HH g ad σ ++ ex).set 24 (ad 24, .inr (7, ([.int (σ.1 21), .int (σ.1 22), .ref (ad 25), .ref (ad 26), .ref (ad 27), .ref (ad 28), .ref (ad 29), .int (σ.1 23), .int (σ.1 24), .int (σ.1 25), .ref (ad 30), .ref (ad 31), .ref (ad 32), .ref (ad 33), .ref (ad 34), .ref (ad 35), .ref (ad 36), .ref (ad 37), .ref (ad 38), .ref (ad 39), .int (σ.1 26), .int (σ.1 27), .int (σ.1 28), .ref (ad 40), .ref (ad 41)] : List Value).set 7 (.int y))) = HH g ad (sv σ 23 y) ++ ex := rfl
theorem hs24 {y : Int32} : (HH g ad σ ++ ex).set 24 (ad 24, .inr (7, ([.int (σ.1 21), .int (σ.1 22), .ref (ad 25), .ref (ad 26), .ref (ad 27), .ref (ad 28), .ref (ad 29), .int (σ.1 23), .int (σ.1 24), .int (σ.1 25), .ref (ad 30), .ref (ad 31), .ref (ad 32), .ref (ad 33), .ref (ad 34), .ref (ad 35), .ref (ad 36), .ref (ad 37), .ref (ad 38), .ref (ad 39), .int (σ.1 26), .int (σ.1 27), .int (σ.1 28), .ref (ad 40), .ref (ad 41)] : List Value).set 8 (.int y))) = HH g ad (sv σ 24 y) ++ ex := rfl
theorem hs25 {y : Int32} : (HH g ad σ ++ ex).set 24 (ad 24, .inr (7, ([.int (σ.1 21), .int (σ.1 22), .ref (ad 25), .ref (ad 26), .ref (ad 27), .ref (ad 28), .ref (ad 29), .int (σ.1 23), .int (σ.1 24), .int (σ.1 25), .ref (ad 30), .ref (ad 31), .ref (ad 32), .ref (ad 33), .ref (ad 34), .ref (ad 35), .ref (ad 36), .ref (ad 37), .ref (ad 38), .ref (ad 39), .int (σ.1 26), .int (σ.1 27), .int (σ.1 28), .ref (ad 40), .ref (ad 41)] : List Value).set 9 (.int y))) = HH g ad (sv σ 25 y) ++ ex := rfl
theorem hs26 {y : Int32} : (HH g ad σ ++ ex).set 24 (ad 24, .inr (7, ([.int (σ.1 21), .int (σ.1 22), .ref (ad 25), .ref (ad 26), .ref (ad 27), .ref (ad 28), .ref (ad 29), .int (σ.1 23), .int (σ.1 24), .int (σ.1 25), .ref (ad 30), .ref (ad 31), .ref (ad 32), .ref (ad 33), .ref (ad 34), .ref (ad 35), .ref (ad 36), .ref (ad 37), .ref (ad 38), .ref (ad 39), .int (σ.1 26), .int (σ.1 27), .int (σ.1 28), .ref (ad 40), .ref (ad 41)] : List Value).set 20 (.int y))) = HH g ad (sv σ 26 y) ++ ex := rfl
theorem hs27 {y : Int32} : (HH g ad σ ++ ex).set 24 (ad 24, .inr (7, ([.int (σ.1 21), .int (σ.1 22), .ref (ad 25), .ref (ad 26), .ref (ad 27), .ref (ad 28), .ref (ad 29), .int (σ.1 23), .int (σ.1 24), .int (σ.1 25), .ref (ad 30), .ref (ad 31), .ref (ad 32), .ref (ad 33), .ref (ad 34), .ref (ad 35), .ref (ad 36), .ref (ad 37), .ref (ad 38), .ref (ad 39), .int (σ.1 26), .int (σ.1 27), .int (σ.1 28), .ref (ad 40), .ref (ad 41)] : List Value).set 21 (.int y))) = HH g ad (sv σ 27 y) ++ ex := rfl
theorem hs28 {y : Int32} : (HH g ad σ ++ ex).set 24 (ad 24, .inr (7, ([.int (σ.1 21), .int (σ.1 22), .ref (ad 25), .ref (ad 26), .ref (ad 27), .ref (ad 28), .ref (ad 29), .int (σ.1 23), .int (σ.1 24), .int (σ.1 25), .ref (ad 30), .ref (ad 31), .ref (ad 32), .ref (ad 33), .ref (ad 34), .ref (ad 35), .ref (ad 36), .ref (ad 37), .ref (ad 38), .ref (ad 39), .int (σ.1 26), .int (σ.1 27), .int (σ.1 28), .ref (ad 40), .ref (ad 41)] : List Value).set 22 (.int y))) = HH g ad (sv σ 28 y) ++ ex := rfl
theorem ha25 {i : Nat} {y : Int32} : (HH g ad σ ++ ex).set 25 (ad 25, .inl (g.2.1, 18, .inl (upd (σ.2.1 25) i y))) = HH g ad (sa σ 25 i y) ++ ex := rfl
theorem ha26 {i : Nat} {y : Int32} : (HH g ad σ ++ ex).set 26 (ad 26, .inl (g.2.1, 18, .inl (upd (σ.2.1 26) i y))) = HH g ad (sa σ 26 i y) ++ ex := rfl
theorem ha27 {i : Nat} {y : Int32} : (HH g ad σ ++ ex).set 27 (ad 27, .inl (g.2.2, 18, .inl (upd (σ.2.1 27) i y))) = HH g ad (sa σ 27 i y) ++ ex := rfl
theorem ha28 {i : Nat} {y : Int32} : (HH g ad σ ++ ex).set 28 (ad 28, .inl (g.2.1, 12, .inl (upd (σ.2.1 28) i y))) = HH g ad (sa σ 28 i y) ++ ex := rfl
theorem ha29 {i : Nat} {y : Int32} : (HH g ad σ ++ ex).set 29 (ad 29, .inl (g.2.1, 12, .inl (upd (σ.2.1 29) i y))) = HH g ad (sa σ 29 i y) ++ ex := rfl
theorem ha30 {i : Nat} {y : Int32} : (HH g ad σ ++ ex).set 30 (ad 30, .inl (g.2.1, 201, .inl (upd (σ.2.1 30) i y))) = HH g ad (sa σ 30 i y) ++ ex := rfl
theorem ha31 {i : Nat} {y : Int32} : (HH g ad σ ++ ex).set 31 (ad 31, .inl (g.2.1, 201, .inl (upd (σ.2.1 31) i y))) = HH g ad (sa σ 31 i y) ++ ex := rfl
theorem ha32 {i : Nat} {y : Int32} : (HH g ad σ ++ ex).set 32 (ad 32, .inl (g.2.1, 201, .inl (upd (σ.2.1 32) i y))) = HH g ad (sa σ 32 i y) ++ ex := rfl
theorem ha33 {i : Nat} {y : Int32} : (HH g ad σ ++ ex).set 33 (ad 33, .inl (g.2.1, 2412, .inl (upd (σ.2.1 33) i y))) = HH g ad (sa σ 33 i y) ++ ex := rfl
theorem ha34 {i : Nat} {y : Int32} : (HH g ad σ ++ ex).set 34 (ad 34, .inl (g.2.1, 201, .inl (upd (σ.2.1 34) i y))) = HH g ad (sa σ 34 i y) ++ ex := rfl
theorem ha35 {i : Nat} {y : Int32} : (HH g ad σ ++ ex).set 35 (ad 35, .inl (g.2.1, 201, .inl (upd (σ.2.1 35) i y))) = HH g ad (sa σ 35 i y) ++ ex := rfl
theorem ha36 {i : Nat} {y : Int32} : (HH g ad σ ++ ex).set 36 (ad 36, .inl (g.2.1, 524288, .inl (upd (σ.2.1 36) i y))) = HH g ad (sa σ 36 i y) ++ ex := rfl
theorem ha37 {i : Nat} {y : Int32} : (HH g ad σ ++ ex).set 37 (ad 37, .inl (g.2.1, 262144, .inl (upd (σ.2.1 37) i y))) = HH g ad (sa σ 37 i y) ++ ex := rfl
theorem ha38 {i : Nat} {y : Int32} : (HH g ad σ ++ ex).set 38 (ad 38, .inl (g.2.1, 262144, .inl (upd (σ.2.1 38) i y))) = HH g ad (sa σ 38 i y) ++ ex := rfl
theorem ha39 {i : Nat} {y : Int32} : (HH g ad σ ++ ex).set 39 (ad 39, .inl (g.2.1, 262144, .inl (upd (σ.2.1 39) i y))) = HH g ad (sa σ 39 i y) ++ ex := rfl
theorem ha40 {i : Nat} {y : Int32} : (HH g ad σ ++ ex).set 40 (ad 40, .inl (g.2.1, 600, .inl (upd (σ.2.1 40) i y))) = HH g ad (sa σ 40 i y) ++ ex := rfl
theorem ha41 {i : Nat} {y : Int32} : (HH g ad σ ++ ex).set 41 (ad 41, .inl (g.2.1, 4096, .inl (upd (σ.2.1 41) i y))) = HH g ad (sa σ 41 i y) ++ ex := rfl
end HHs
/-- answers: an int, and the cells; nothing, and the cells -/
def Pi_ (r : Int32) (M : va_W) : Option Value → va_W → Prop := fun rv M' => rv = some (.int r) ∧ M' = M
def Pv_ (M : va_W) : Option Value → va_W → Prop := fun rv M' => rv = none ∧ M' = M
abbrev Rs : Type := Option (Int32 × Sg)
theorem of_chk {c : Prop} [Decidable c] {a : Rs} {b : Int32 × Sg} (h : (if c then a else none) = some b) : c ∧ a = some b := by
  by_cases hc : c
  · exact ⟨hc, (if_pos hc).symm.trans h⟩
  · exact absurd ((if_neg hc).symm.trans h) (fun z => by cases z)
theorem of_bnd {a : Rs} {k : Int32 × Sg → Rs} {b : Int32 × Sg} (h : a.bind k = some b) : ∃ (r : Int32) (τ : Sg), a = some (r, τ) ∧ k (r, τ) = some b := by
  cases a with
  | none => cases h
  | some q => exact ⟨q.1, q.2, rfl, h⟩
end
section
section PRE
variable {g : GX} {ad : Nat → Nat} {ex : va_W}
theorem piOk {v r : Int32} {σ τ : Sg} (H : (some (v, σ) : Rs) = some (r, τ)) : Pi_ r (HH g ad τ ++ ex) (some (.int v)) (HH g ad σ ++ ex) := by
  cases H
  exact ⟨rfl, rfl⟩
theorem pvOk {v r : Int32} {σ τ : Sg} (H : (some (v, σ) : Rs) = some (r, τ)) : Pv_ (HH g ad τ ++ ex) none (HH g ad σ ++ ex) := by
  cases H
  exact ⟨rfl, rfl⟩
theorem nar_b {v : Int32} (h : v = 0 ∨ v = 1) : narrow .boolean (.int v) = .int v := by
  rcases h with rfl | rfl <;> rfl
end PRE
end
section
def bX1_lowestFree_2 (F : Nat) (k2 : Sg → Int32 → Rs) (σ : Sg) (l1 : Int32) : Rs := if (18 : Int32) ≤ l1 then (some ((-1 : Int32), σ)) else (if (((σ.1 1) >>> (l1 &&& 31)) &&& (1 : Int32)) = (0 : Int32) then (some (l1, σ)) else (k2 σ (l1 + 1)))
set_option maxRecDepth 100000 in
set_option maxHeartbeats 4000000 in
theorem wbX1_lowestFree_2 {x : FX} {g : GX} {ad : Nat → Nat} {ex M0 : va_W} {r : Int32} {τ : Sg} {F : Nat} (hX : RX x g M0 (Pi_ r (HH g ad τ ++ ex)) 0 0) {k2 : Sg → Int32 → Rs} (h2 : ∀ (σ : Sg) (l1 : Int32), k2 σ l1 = some (r, τ) → Go x { frames := 0, cells := 0, slots := 0, locals := 0 } tX1_lowestFree g 2 [.ref (ad 1), .int l1] [] (HH g ad σ ++ ex) 0 0) (σ : Sg) (l1 : Int32) (H : bX1_lowestFree_2 F k2 σ l1 = some (r, τ)) : Go x { frames := 0, cells := 0, slots := 0, locals := 0 } tX1_lowestFree g 2 [.ref (ad 1), .int l1] [] (HH g ad σ ++ ex) 0 0 := by
  unfold bX1_lowestFree_2 at H
  refine g_iload_n (q := 3) (i := 1) dX1_lowestFree_2 rfl rfl rfl ?_
  refine g_bipush (q := 5) (v := 18) dX1_lowestFree_3 rfl (by decide) ?_
  refine g_icmp_ge (q := 8) (r := 27) dX1_lowestFree_5 (by decide) rfl (fun c5 => ?_) (fun c5 => ?_)
  · replace H := (if_pos c5).symm.trans H
    refine g_iconst (q := 28) (v := -1) dX1_lowestFree_27 rfl (by decide) ?_
    exact g_iret hX dX1_lowestFree_28 rfl rfl (Nat.le_refl _) (Nat.le_refl _) (piOk H)
  · replace H := (if_neg c5).symm.trans H
    refine g_aload_n (q := 9) (i := 0) dX1_lowestFree_8 rfl rfl rfl ?_
    refine g_get (q := 12) dX1_lowestFree_9 rfl foX1_28 1 hc1 rfl ?_
    refine g_iload_n (q := 13) (i := 1) dX1_lowestFree_12 rfl rfl rfl ?_
    refine g_ishr (q := 14) dX1_lowestFree_13 rfl ?_
    refine g_iconst (q := 15) (v := 1) dX1_lowestFree_14 rfl (by decide) ?_
    refine g_iand (q := 16) dX1_lowestFree_15 rfl ?_
    refine g_if_ne (q := 19) (r := 21) dX1_lowestFree_16 (by decide) rfl (fun c16 => ?_) (fun c16 => ?_)
    · replace H := (if_neg c16).symm.trans H
      refine g_iinc (q := 24) (b := l1 + 1) (L' := [.ref (ad 1), .int (l1 + 1)]) dX1_lowestFree_21 rfl rfl rfl (Nat.le_of_ble_eq_true rfl) rfl ?_
      refine g_goto (q := 2) dX1_lowestFree_24 (by decide) ?_
      exact g_weak (L' := [.ref (ad 1), .int (l1 + 1)]) ⟨Or.inr rfl, Or.inr rfl, trivial⟩ (h2 _ _ H)
    · replace H := (if_pos c16).symm.trans H
      refine g_iload_n (q := 20) (i := 1) dX1_lowestFree_19 rfl rfl rfl ?_
      exact g_iret hX dX1_lowestFree_20 rfl rfl (Nat.le_refl _) (Nat.le_refl _) (piOk H)
def fX1_lowestFree_2 (F : Nat)  : Nat → Sg → Int32 → Rs
  | 0 => fun _ _ => none
  | n + 1 => fun σ l1 => bX1_lowestFree_2 F  (fX1_lowestFree_2 F  n) σ l1
theorem wfX1_lowestFree_2 {x : FX} {g : GX} {ad : Nat → Nat} {ex M0 : va_W} {r : Int32} {τ : Sg} {F : Nat} (hX : RX x g M0 (Pi_ r (HH g ad τ ++ ex)) 0 0)   : ∀ (n : Nat) (σ : Sg) (l1 : Int32), fX1_lowestFree_2 F  n σ l1 = some (r, τ) → Go x { frames := 0, cells := 0, slots := 0, locals := 0 } tX1_lowestFree g 2 [.ref (ad 1), .int l1] [] (HH g ad σ ++ ex) 0 0
  | 0, _, _, H => nomatch (show (none : Rs) = some _ from H)
  | n + 1, σ, l1, H => wbX1_lowestFree_2 (F := F) hX  (fun σ2 z1 H2 => wfX1_lowestFree_2 (F := F) hX  n σ2 z1 H2) σ l1 H
def fX1_lowestFree (F : Nat) (σ : Sg)  : Rs := fX1_lowestFree_2 F F σ ((0 : Int32))
set_option maxRecDepth 100000 in
set_option maxHeartbeats 4000000 in
theorem ctX1_lowestFree {l : Launch} {g : GX} {ad : Nat → Nat} {ex : va_W} {r : Int32} {τ σ : Sg} {F : Nat}  (H : fX1_lowestFree F σ  = some (r, τ)) : Ct l g yX1_lowestFree tX1_lowestFree 0 0 0 0 [.ref (ad 1)] (HH g ad σ ++ ex) (Pi_ r (HH g ad τ ++ ex)) := by
  refine Ct.of (L := [.ref (ad 1), un_]) (by decide +kernel) rfl rfl rfl (Nat.le_of_ble_eq_true rfl) rfl (fun x _ hX => ?_)
  unfold fX1_lowestFree at H
  refine g_iconst (q := 1) (v := 0) dX1_lowestFree_0 rfl (by decide) ?_
  refine g_istore_n (q := 2) (L' := [.ref (ad 1), .int ((0 : Int32))]) (i := 1) dX1_lowestFree_1 rfl rfl (Nat.le_of_ble_eq_true rfl) rfl ?_
  exact g_weak (L' := [.ref (ad 1), .int ((0 : Int32))]) ⟨Or.inr rfl, Or.inr rfl, trivial⟩ (wfX1_lowestFree_2 (F := F) hX  F _ _ H)
def fX1_hasCave (F : Nat) (σ : Sg) (l1 : Int32) : Rs := if l1 < (0 : Int32) then (some ((0 : Int32), σ)) else (if (σ.1 0) ≤ l1 then (some ((0 : Int32), σ)) else (some ((1 : Int32), σ)))
set_option maxRecDepth 100000 in
set_option maxHeartbeats 4000000 in
theorem ctX1_hasCave {l : Launch} {g : GX} {ad : Nat → Nat} {ex : va_W} {r : Int32} {τ σ : Sg} {F : Nat} {l1 : Int32} (H : fX1_hasCave F σ l1 = some (r, τ)) : Ct l g yX1_hasCave tX1_hasCave 0 0 0 0 [.ref (ad 1), .int l1] (HH g ad σ ++ ex) (Pi_ r (HH g ad τ ++ ex)) := by
  refine Ct.of (L := [.ref (ad 1), .int l1]) (by decide +kernel) rfl rfl rfl (Nat.le_of_ble_eq_true rfl) rfl (fun x _ hX => ?_)
  unfold fX1_hasCave at H
  refine g_iload_n (q := 1) (i := 1) dX1_hasCave_0 rfl rfl rfl ?_
  refine g_if_lt (q := 4) (r := 16) dX1_hasCave_1 (by decide) rfl (fun c1 => ?_) (fun c1 => ?_)
  · replace H := (if_pos c1).symm.trans H
    refine g_iconst (q := 17) (v := 0) dX1_hasCave_16 rfl (by decide) ?_
    exact g_iret hX dX1_hasCave_17 rfl rfl (Nat.le_refl _) (Nat.le_refl _) (piOk H)
  · replace H := (if_neg c1).symm.trans H
    refine g_iload_n (q := 5) (i := 1) dX1_hasCave_4 rfl rfl rfl ?_
    refine g_aload_n (q := 6) (i := 0) dX1_hasCave_5 rfl rfl rfl ?_
    refine g_get (q := 9) dX1_hasCave_6 rfl foX1_24 1 hc1 rfl ?_
    refine g_icmp_ge (q := 12) (r := 16) dX1_hasCave_9 (by decide) rfl (fun c9 => ?_) (fun c9 => ?_)
    · replace H := (if_pos c9).symm.trans H
      refine g_iconst (q := 17) (v := 0) dX1_hasCave_16 rfl (by decide) ?_
      exact g_iret hX dX1_hasCave_17 rfl rfl (Nat.le_refl _) (Nat.le_refl _) (piOk H)
    · replace H := (if_neg c9).symm.trans H
      refine g_iconst (q := 13) (v := 1) dX1_hasCave_12 rfl (by decide) ?_
      refine g_goto (q := 17) dX1_hasCave_13 (by decide) ?_
      exact g_iret hX dX1_hasCave_17 rfl rfl (Nat.le_refl _) (Nat.le_refl _) (piOk H)
def fX1_hasPassage (F : Nat) (σ : Sg) (l1 : Int32) : Rs := if l1 < (0 : Int32) then (some ((0 : Int32), σ)) else (if (18 : Int32) ≤ l1 then (some ((0 : Int32), σ)) else (if (((σ.1 1) >>> (l1 &&& 31)) &&& (1 : Int32)) = (0 : Int32) then (some ((0 : Int32), σ)) else (some ((1 : Int32), σ))))
set_option maxRecDepth 100000 in
set_option maxHeartbeats 4000000 in
theorem ctX1_hasPassage {l : Launch} {g : GX} {ad : Nat → Nat} {ex : va_W} {r : Int32} {τ σ : Sg} {F : Nat} {l1 : Int32} (H : fX1_hasPassage F σ l1 = some (r, τ)) : Ct l g yX1_hasPassage tX1_hasPassage 0 0 0 0 [.ref (ad 1), .int l1] (HH g ad σ ++ ex) (Pi_ r (HH g ad τ ++ ex)) := by
  refine Ct.of (L := [.ref (ad 1), .int l1]) (by decide +kernel) rfl rfl rfl (Nat.le_of_ble_eq_true rfl) rfl (fun x _ hX => ?_)
  unfold fX1_hasPassage at H
  refine g_iload_n (q := 1) (i := 1) dX1_hasPassage_0 rfl rfl rfl ?_
  refine g_if_lt (q := 4) (r := 25) dX1_hasPassage_1 (by decide) rfl (fun c1 => ?_) (fun c1 => ?_)
  · replace H := (if_pos c1).symm.trans H
    refine g_iconst (q := 26) (v := 0) dX1_hasPassage_25 rfl (by decide) ?_
    exact g_iret hX dX1_hasPassage_26 rfl rfl (Nat.le_refl _) (Nat.le_refl _) (piOk H)
  · replace H := (if_neg c1).symm.trans H
    refine g_iload_n (q := 5) (i := 1) dX1_hasPassage_4 rfl rfl rfl ?_
    refine g_bipush (q := 7) (v := 18) dX1_hasPassage_5 rfl (by decide) ?_
    refine g_icmp_ge (q := 10) (r := 25) dX1_hasPassage_7 (by decide) rfl (fun c7 => ?_) (fun c7 => ?_)
    · replace H := (if_pos c7).symm.trans H
      refine g_iconst (q := 26) (v := 0) dX1_hasPassage_25 rfl (by decide) ?_
      exact g_iret hX dX1_hasPassage_26 rfl rfl (Nat.le_refl _) (Nat.le_refl _) (piOk H)
    · replace H := (if_neg c7).symm.trans H
      refine g_aload_n (q := 11) (i := 0) dX1_hasPassage_10 rfl rfl rfl ?_
      refine g_get (q := 14) dX1_hasPassage_11 rfl foX1_28 1 hc1 rfl ?_
      refine g_iload_n (q := 15) (i := 1) dX1_hasPassage_14 rfl rfl rfl ?_
      refine g_ishr (q := 16) dX1_hasPassage_15 rfl ?_
      refine g_iconst (q := 17) (v := 1) dX1_hasPassage_16 rfl (by decide) ?_
      refine g_iand (q := 18) dX1_hasPassage_17 rfl ?_
      refine g_if_eq (q := 21) (r := 25) dX1_hasPassage_18 (by decide) rfl (fun c18 => ?_) (fun c18 => ?_)
      · replace H := (if_pos c18).symm.trans H
        refine g_iconst (q := 26) (v := 0) dX1_hasPassage_25 rfl (by decide) ?_
        exact g_iret hX dX1_hasPassage_26 rfl rfl (Nat.le_refl _) (Nat.le_refl _) (piOk H)
      · replace H := (if_neg c18).symm.trans H
        refine g_iconst (q := 22) (v := 1) dX1_hasPassage_21 rfl (by decide) ?_
        refine g_goto (q := 26) dX1_hasPassage_22 (by decide) ?_
        exact g_iret hX dX1_hasPassage_26 rfl rfl (Nat.le_refl _) (Nat.le_refl _) (piOk H)
def fX1_leadsFrom (F : Nat) (σ : Sg) (l1 : Int32) (l2 : Int32) : Rs := (fX1_hasPassage F σ l1).bind fun q1 => (fun (r1 : Int32) (σ1 : Sg) => if r1 = (0 : Int32) then (some ((0 : Int32), σ1)) else (if ib l1 18 then (if (σ1.2.1 2 l1.toNatClampNeg) = l2 then (some ((1 : Int32), σ1)) else (if ib l1 18 then (if (σ1.2.1 3 l1.toNatClampNeg) = l2 then (some ((1 : Int32), σ1)) else (some ((0 : Int32), σ1))) else none)) else none)) q1.1 q1.2
set_option maxRecDepth 100000 in
set_option maxHeartbeats 4000000 in
theorem ctX1_leadsFrom {l : Launch} {g : GX} {ad : Nat → Nat} {ex : va_W} {r : Int32} {τ σ : Sg} {F : Nat} {l1 : Int32} {l2 : Int32} (H : fX1_leadsFrom F σ l1 l2 = some (r, τ)) : Ct l g yX1_leadsFrom tX1_leadsFrom 1 21 0 0 [.ref (ad 1), .int l1, .int l2] (HH g ad σ ++ ex) (Pi_ r (HH g ad τ ++ ex)) := by
  refine Ct.of (L := [.ref (ad 1), .int l1, .int l2]) (by decide +kernel) rfl rfl rfl (Nat.le_of_ble_eq_true rfl) rfl (fun x _ hX => ?_)
  unfold fX1_leadsFrom at H
  refine g_aload_n (q := 1) (i := 0) dX1_leadsFrom_0 rfl rfl rfl ?_
  refine g_iload_n (q := 2) (i := 1) dX1_leadsFrom_1 rfl rfl rfl ?_
  obtain ⟨r1, σ1, e1, H⟩ := of_bnd H
  refine g_callV (q := 5) (rest := []) dX1_leadsFrom_2 rfl cvX1_37 (ctX1_hasPassage e1) rfl rfl ⟨Nat.le_of_ble_eq_true rfl, Nat.le_of_ble_eq_true rfl⟩ ⟨Nat.le_refl _, Nat.le_refl _⟩ (Nat.le_of_ble_eq_true rfl) 1 hc1 rfl (fun r0 M9 hp => ?_)
  obtain ⟨rfl, rfl⟩ := hp
  show Go x _ _ g 5 [.ref (ad 1), .int l1, .int l2] [.int r1] (HH g ad σ1 ++ ex) 0 0
  refine g_if_eq (q := 8) (r := 32) dX1_leadsFrom_5 (by decide) rfl (fun c5 => ?_) (fun c5 => ?_)
  · replace H := (if_pos c5).symm.trans H
    refine g_iconst (q := 33) (v := 0) dX1_leadsFrom_32 rfl (by decide) ?_
    exact g_iret hX dX1_leadsFrom_33 rfl rfl (Nat.le_refl _) (Nat.le_refl _) (piOk H)
  · replace H := (if_neg c5).symm.trans H
    refine g_aload_n (q := 9) (i := 0) dX1_leadsFrom_8 rfl rfl rfl ?_
    refine g_get (q := 12) dX1_leadsFrom_9 rfl foX1_9 1 hc1 rfl ?_
    refine g_iload_n (q := 13) (i := 1) dX1_leadsFrom_12 rfl rfl rfl ?_
    obtain ⟨b13, H⟩ := of_chk H
    refine g_iald (q := 14) dX1_leadsFrom_13 rfl 2 hc2 b13 ?_
    refine g_iload_n (q := 15) (i := 2) dX1_leadsFrom_14 rfl rfl rfl ?_
    refine g_icmp_eq (q := 18) (r := 28) dX1_leadsFrom_15 (by decide) rfl (fun c15 => ?_) (fun c15 => ?_)
    · replace H := (if_pos c15).symm.trans H
      refine g_iconst (q := 29) (v := 1) dX1_leadsFrom_28 rfl (by decide) ?_
      refine g_goto (q := 33) dX1_leadsFrom_29 (by decide) ?_
      exact g_iret hX dX1_leadsFrom_33 rfl rfl (Nat.le_refl _) (Nat.le_refl _) (piOk H)
    · replace H := (if_neg c15).symm.trans H
      refine g_aload_n (q := 19) (i := 0) dX1_leadsFrom_18 rfl rfl rfl ?_
      refine g_get (q := 22) dX1_leadsFrom_19 rfl foX1_15 1 hc1 rfl ?_
      refine g_iload_n (q := 23) (i := 1) dX1_leadsFrom_22 rfl rfl rfl ?_
      obtain ⟨b23, H⟩ := of_chk H
      refine g_iald (q := 24) dX1_leadsFrom_23 rfl 3 hc3 b23 ?_
      refine g_iload_n (q := 25) (i := 2) dX1_leadsFrom_24 rfl rfl rfl ?_
      refine g_icmp_ne (q := 28) (r := 32) dX1_leadsFrom_25 (by decide) rfl (fun c25 => ?_) (fun c25 => ?_)
      · replace H := (if_neg c25).symm.trans H
        refine g_iconst (q := 33) (v := 0) dX1_leadsFrom_32 rfl (by decide) ?_
        exact g_iret hX dX1_leadsFrom_33 rfl rfl (Nat.le_refl _) (Nat.le_refl _) (piOk H)
      · replace H := (if_pos c25).symm.trans H
        refine g_iconst (q := 29) (v := 1) dX1_leadsFrom_28 rfl (by decide) ?_
        refine g_goto (q := 33) dX1_leadsFrom_29 (by decide) ?_
        exact g_iret hX dX1_leadsFrom_33 rfl rfl (Nat.le_refl _) (Nat.le_refl _) (piOk H)
def bX1_passagesAt_4 (F : Nat) (k4 : Sg → Int32 → Int32 → Int32 → Rs) (σ : Sg) (l1 : Int32) (l2 : Int32) (l3 : Int32) : Rs := if (σ.1 0) ≤ l3 then (some (l2, σ)) else (if ((l1 >>> (l3 &&& 31)) &&& (1 : Int32)) = (0 : Int32) then (k4 σ (l1) (l2) (l3 + 1)) else (if ib l3 12 then (k4 σ (l1) (l2 ||| (σ.2.1 4 l3.toNatClampNeg)) (l3 + 1)) else none))
set_option maxRecDepth 100000 in
set_option maxHeartbeats 4000000 in
theorem wbX1_passagesAt_4 {x : FX} {g : GX} {ad : Nat → Nat} {ex M0 : va_W} {r : Int32} {τ : Sg} {F : Nat} (hX : RX x g M0 (Pi_ r (HH g ad τ ++ ex)) 0 0) {k4 : Sg → Int32 → Int32 → Int32 → Rs} (h4 : ∀ (σ : Sg) (l1 : Int32) (l2 : Int32) (l3 : Int32), k4 σ l1 l2 l3 = some (r, τ) → Go x { frames := 0, cells := 0, slots := 0, locals := 0 } tX1_passagesAt g 4 [.ref (ad 1), .int l1, .int l2, .int l3] [] (HH g ad σ ++ ex) 0 0) (σ : Sg) (l1 : Int32) (l2 : Int32) (l3 : Int32) (H : bX1_passagesAt_4 F k4 σ l1 l2 l3 = some (r, τ)) : Go x { frames := 0, cells := 0, slots := 0, locals := 0 } tX1_passagesAt g 4 [.ref (ad 1), .int l1, .int l2, .int l3] [] (HH g ad σ ++ ex) 0 0 := by
  unfold bX1_passagesAt_4 at H
  refine g_iload_n (q := 5) (i := 3) dX1_passagesAt_4 rfl rfl rfl ?_
  refine g_aload_n (q := 6) (i := 0) dX1_passagesAt_5 rfl rfl rfl ?_
  refine g_get (q := 9) dX1_passagesAt_6 rfl foX1_24 1 hc1 rfl ?_
  refine g_icmp_ge (q := 12) (r := 35) dX1_passagesAt_9 (by decide) rfl (fun c9 => ?_) (fun c9 => ?_)
  · replace H := (if_pos c9).symm.trans H
    refine g_iload_n (q := 36) (i := 2) dX1_passagesAt_35 rfl rfl rfl ?_
    exact g_iret hX dX1_passagesAt_36 rfl rfl (Nat.le_refl _) (Nat.le_refl _) (piOk H)
  · replace H := (if_neg c9).symm.trans H
    refine g_iload_n (q := 13) (i := 1) dX1_passagesAt_12 rfl rfl rfl ?_
    refine g_iload_n (q := 14) (i := 3) dX1_passagesAt_13 rfl rfl rfl ?_
    refine g_ishr (q := 15) dX1_passagesAt_14 rfl ?_
    refine g_iconst (q := 16) (v := 1) dX1_passagesAt_15 rfl (by decide) ?_
    refine g_iand (q := 17) dX1_passagesAt_16 rfl ?_
    refine g_if_eq (q := 20) (r := 29) dX1_passagesAt_17 (by decide) rfl (fun c17 => ?_) (fun c17 => ?_)
    · replace H := (if_pos c17).symm.trans H
      refine g_iinc (q := 32) (b := l3 + 1) (L' := [.ref (ad 1), .int l1, .int l2, .int (l3 + 1)]) dX1_passagesAt_29 rfl rfl rfl (Nat.le_of_ble_eq_true rfl) rfl ?_
      refine g_goto (q := 4) dX1_passagesAt_32 (by decide) ?_
      exact g_weak (L' := [.ref (ad 1), .int l1, .int l2, .int (l3 + 1)]) ⟨Or.inr rfl, Or.inr rfl, Or.inr rfl, Or.inr rfl, trivial⟩ (h4 _ _ _ _ H)
    · replace H := (if_neg c17).symm.trans H
      refine g_iload_n (q := 21) (i := 2) dX1_passagesAt_20 rfl rfl rfl ?_
      refine g_aload_n (q := 22) (i := 0) dX1_passagesAt_21 rfl rfl rfl ?_
      refine g_get (q := 25) dX1_passagesAt_22 rfl foX1_18 1 hc1 rfl ?_
      refine g_iload_n (q := 26) (i := 3) dX1_passagesAt_25 rfl rfl rfl ?_
      obtain ⟨b26, H⟩ := of_chk H
      refine g_iald (q := 27) dX1_passagesAt_26 rfl 4 hc4 b26 ?_
      refine g_ior (q := 28) dX1_passagesAt_27 rfl ?_
      refine g_istore_n (q := 29) (L' := [.ref (ad 1), .int l1, .int (l2 ||| (σ.2.1 4 l3.toNatClampNeg)), .int l3]) (i := 2) dX1_passagesAt_28 rfl rfl (Nat.le_of_ble_eq_true rfl) rfl ?_
      refine g_iinc (q := 32) (b := l3 + 1) (L' := [.ref (ad 1), .int l1, .int (l2 ||| (σ.2.1 4 l3.toNatClampNeg)), .int (l3 + 1)]) dX1_passagesAt_29 rfl rfl rfl (Nat.le_of_ble_eq_true rfl) rfl ?_
      refine g_goto (q := 4) dX1_passagesAt_32 (by decide) ?_
      exact g_weak (L' := [.ref (ad 1), .int l1, .int (l2 ||| (σ.2.1 4 l3.toNatClampNeg)), .int (l3 + 1)]) ⟨Or.inr rfl, Or.inr rfl, Or.inr rfl, Or.inr rfl, trivial⟩ (h4 _ _ _ _ H)
def fX1_passagesAt_4 (F : Nat)  : Nat → Sg → Int32 → Int32 → Int32 → Rs
  | 0 => fun _ _ _ _ => none
  | n + 1 => fun σ l1 l2 l3 => bX1_passagesAt_4 F  (fX1_passagesAt_4 F  n) σ l1 l2 l3
theorem wfX1_passagesAt_4 {x : FX} {g : GX} {ad : Nat → Nat} {ex M0 : va_W} {r : Int32} {τ : Sg} {F : Nat} (hX : RX x g M0 (Pi_ r (HH g ad τ ++ ex)) 0 0)   : ∀ (n : Nat) (σ : Sg) (l1 : Int32) (l2 : Int32) (l3 : Int32), fX1_passagesAt_4 F  n σ l1 l2 l3 = some (r, τ) → Go x { frames := 0, cells := 0, slots := 0, locals := 0 } tX1_passagesAt g 4 [.ref (ad 1), .int l1, .int l2, .int l3] [] (HH g ad σ ++ ex) 0 0
  | 0, _, _, _, _, H => nomatch (show (none : Rs) = some _ from H)
  | n + 1, σ, l1, l2, l3, H => wbX1_passagesAt_4 (F := F) hX  (fun σ2 z1 z2 z3 H2 => wfX1_passagesAt_4 (F := F) hX  n σ2 z1 z2 z3 H2) σ l1 l2 l3 H
def fX1_passagesAt (F : Nat) (σ : Sg) (l1 : Int32) : Rs := fX1_passagesAt_4 F F σ (l1) ((0 : Int32)) ((0 : Int32))
set_option maxRecDepth 100000 in
set_option maxHeartbeats 4000000 in
theorem ctX1_passagesAt {l : Launch} {g : GX} {ad : Nat → Nat} {ex : va_W} {r : Int32} {τ σ : Sg} {F : Nat} {l1 : Int32} (H : fX1_passagesAt F σ l1 = some (r, τ)) : Ct l g yX1_passagesAt tX1_passagesAt 0 0 0 0 [.ref (ad 1), .int l1] (HH g ad σ ++ ex) (Pi_ r (HH g ad τ ++ ex)) := by
  refine Ct.of (L := [.ref (ad 1), .int l1, un_, un_]) (by decide +kernel) rfl rfl rfl (Nat.le_of_ble_eq_true rfl) rfl (fun x _ hX => ?_)
  unfold fX1_passagesAt at H
  refine g_iconst (q := 1) (v := 0) dX1_passagesAt_0 rfl (by decide) ?_
  refine g_istore_n (q := 2) (L' := [.ref (ad 1), .int l1, .int ((0 : Int32)), un_]) (i := 2) dX1_passagesAt_1 rfl rfl (Nat.le_of_ble_eq_true rfl) rfl ?_
  refine g_iconst (q := 3) (v := 0) dX1_passagesAt_2 rfl (by decide) ?_
  refine g_istore_n (q := 4) (L' := [.ref (ad 1), .int l1, .int ((0 : Int32)), .int ((0 : Int32))]) (i := 3) dX1_passagesAt_3 rfl rfl (Nat.le_of_ble_eq_true rfl) rfl ?_
  exact g_weak (L' := [.ref (ad 1), .int l1, .int ((0 : Int32)), .int ((0 : Int32))]) ⟨Or.inr rfl, Or.inr rfl, Or.inr rfl, Or.inr rfl, trivial⟩ (wfX1_passagesAt_4 (F := F) hX  F _ _ _ _ H)
def bX1_spread_28 (F : Nat) (k8 : Sg → Int32 → Int32 → Int32 → Int32 → Rs) (k28 : Sg → Int32 → Int32 → Int32 → Int32 → Int32 → Int32 → Rs) (σ : Sg) (l2 : Int32) (l3 : Int32) (l4 : Int32) (l5 : Int32) (l6 : Int32) (l7 : Int32) : Rs := if (σ.1 0) ≤ l7 then (k8 σ (l2) (l3 ||| ((l6 &&& (l2 ^^^ (-1 : Int32))) &&& (l3 ^^^ (-1 : Int32)))) ((l6 &&& (l2 ^^^ (-1 : Int32))) &&& (l3 ^^^ (-1 : Int32))) (l5 + 1)) else (if ((l4 >>> (l7 &&& 31)) &&& (1 : Int32)) = (0 : Int32) then (k28 σ (l2) (l3) (l4) (l5) (l6) (l7 + 1)) else (if ib l7 12 then (k28 σ (l2) (l3) (l4) (l5) (l6 ||| (σ.2.1 5 l7.toNatClampNeg)) (l7 + 1)) else none))
set_option maxRecDepth 100000 in
set_option maxHeartbeats 4000000 in
theorem wbX1_spread_28 {x : FX} {g : GX} {ad : Nat → Nat} {ex M0 : va_W} {r : Int32} {τ : Sg} {F : Nat} (hX : RX x g M0 (Pi_ r (HH g ad τ ++ ex)) 0 0) {k8 : Sg → Int32 → Int32 → Int32 → Int32 → Rs} {k28 : Sg → Int32 → Int32 → Int32 → Int32 → Int32 → Int32 → Rs} (h8 : ∀ (σ : Sg) (l2 : Int32) (l3 : Int32) (l4 : Int32) (l5 : Int32), k8 σ l2 l3 l4 l5 = some (r, τ) → Go x { frames := 0, cells := 0, slots := 0, locals := 0 } tX1_spread g 8 [.ref (ad 1), un_, .int l2, .int l3, .int l4, .int l5, un_, un_] [] (HH g ad σ ++ ex) 0 0) (h28 : ∀ (σ : Sg) (l2 : Int32) (l3 : Int32) (l4 : Int32) (l5 : Int32) (l6 : Int32) (l7 : Int32), k28 σ l2 l3 l4 l5 l6 l7 = some (r, τ) → Go x { frames := 0, cells := 0, slots := 0, locals := 0 } tX1_spread g 28 [.ref (ad 1), un_, .int l2, .int l3, .int l4, .int l5, .int l6, .int l7] [] (HH g ad σ ++ ex) 0 0) (σ : Sg) (l2 : Int32) (l3 : Int32) (l4 : Int32) (l5 : Int32) (l6 : Int32) (l7 : Int32) (H : bX1_spread_28 F k8 k28 σ l2 l3 l4 l5 l6 l7 = some (r, τ)) : Go x { frames := 0, cells := 0, slots := 0, locals := 0 } tX1_spread g 28 [.ref (ad 1), un_, .int l2, .int l3, .int l4, .int l5, .int l6, .int l7] [] (HH g ad σ ++ ex) 0 0 := by
  unfold bX1_spread_28 at H
  refine g_iload (q := 30) dX1_spread_28 rfl rfl ?_
  refine g_aload_n (q := 31) (i := 0) dX1_spread_30 rfl rfl rfl ?_
  refine g_get (q := 34) dX1_spread_31 rfl foX1_24 1 hc1 rfl ?_
  refine g_icmp_ge (q := 37) (r := 65) dX1_spread_34 (by decide) rfl (fun c34 => ?_) (fun c34 => ?_)
  · replace H := (if_pos c34).symm.trans H
    refine g_iload (q := 67) dX1_spread_65 rfl rfl ?_
    refine g_iload_n (q := 68) (i := 2) dX1_spread_67 rfl rfl rfl ?_
    refine g_iconst (q := 69) (v := -1) dX1_spread_68 rfl (by decide) ?_
    refine g_ixor (q := 70) dX1_spread_69 rfl ?_
    refine g_iand (q := 71) dX1_spread_70 rfl ?_
    refine g_iload_n (q := 72) (i := 3) dX1_spread_71 rfl rfl rfl ?_
    refine g_iconst (q := 73) (v := -1) dX1_spread_72 rfl (by decide) ?_
    refine g_ixor (q := 74) dX1_spread_73 rfl ?_
    refine g_iand (q := 75) dX1_spread_74 rfl ?_
    refine g_istore (q := 77) (L' := [.ref (ad 1), un_, .int l2, .int l3, .int ((l6 &&& (l2 ^^^ (-1 : Int32))) &&& (l3 ^^^ (-1 : Int32))), .int l5, .int l6, .int l7]) dX1_spread_75 rfl (Nat.le_of_ble_eq_true rfl) rfl ?_
    refine g_iload_n (q := 78) (i := 3) dX1_spread_77 rfl rfl rfl ?_
    refine g_iload (q := 80) dX1_spread_78 rfl rfl ?_
    refine g_ior (q := 81) dX1_spread_80 rfl ?_
    refine g_istore_n (q := 82) (L' := [.ref (ad 1), un_, .int l2, .int (l3 ||| ((l6 &&& (l2 ^^^ (-1 : Int32))) &&& (l3 ^^^ (-1 : Int32)))), .int ((l6 &&& (l2 ^^^ (-1 : Int32))) &&& (l3 ^^^ (-1 : Int32))), .int l5, .int l6, .int l7]) (i := 3) dX1_spread_81 rfl rfl (Nat.le_of_ble_eq_true rfl) rfl ?_
    refine g_iinc (q := 85) (b := l5 + 1) (L' := [.ref (ad 1), un_, .int l2, .int (l3 ||| ((l6 &&& (l2 ^^^ (-1 : Int32))) &&& (l3 ^^^ (-1 : Int32)))), .int ((l6 &&& (l2 ^^^ (-1 : Int32))) &&& (l3 ^^^ (-1 : Int32))), .int (l5 + 1), .int l6, .int l7]) dX1_spread_82 rfl rfl rfl (Nat.le_of_ble_eq_true rfl) rfl ?_
    refine g_goto (q := 8) dX1_spread_85 (by decide) ?_
    exact g_weak (L' := [.ref (ad 1), un_, .int l2, .int (l3 ||| ((l6 &&& (l2 ^^^ (-1 : Int32))) &&& (l3 ^^^ (-1 : Int32)))), .int ((l6 &&& (l2 ^^^ (-1 : Int32))) &&& (l3 ^^^ (-1 : Int32))), .int (l5 + 1), un_, un_]) ⟨Or.inr rfl, Or.inl rfl, Or.inr rfl, Or.inr rfl, Or.inr rfl, Or.inr rfl, Or.inl rfl, Or.inl rfl, trivial⟩ (h8 _ _ _ _ _ H)
  · replace H := (if_neg c34).symm.trans H
    refine g_iload (q := 39) dX1_spread_37 rfl rfl ?_
    refine g_iload (q := 41) dX1_spread_39 rfl rfl ?_
    refine g_ishr (q := 42) dX1_spread_41 rfl ?_
    refine g_iconst (q := 43) (v := 1) dX1_spread_42 rfl (by decide) ?_
    refine g_iand (q := 44) dX1_spread_43 rfl ?_
    refine g_if_eq (q := 47) (r := 59) dX1_spread_44 (by decide) rfl (fun c44 => ?_) (fun c44 => ?_)
    · replace H := (if_pos c44).symm.trans H
      refine g_iinc (q := 62) (b := l7 + 1) (L' := [.ref (ad 1), un_, .int l2, .int l3, .int l4, .int l5, .int l6, .int (l7 + 1)]) dX1_spread_59 rfl rfl rfl (Nat.le_of_ble_eq_true rfl) rfl ?_
      refine g_goto (q := 28) dX1_spread_62 (by decide) ?_
      exact g_weak (L' := [.ref (ad 1), un_, .int l2, .int l3, .int l4, .int l5, .int l6, .int (l7 + 1)]) ⟨Or.inr rfl, Or.inl rfl, Or.inr rfl, Or.inr rfl, Or.inr rfl, Or.inr rfl, Or.inr rfl, Or.inr rfl, trivial⟩ (h28 _ _ _ _ _ _ _ H)
    · replace H := (if_neg c44).symm.trans H
      refine g_iload (q := 49) dX1_spread_47 rfl rfl ?_
      refine g_aload_n (q := 50) (i := 0) dX1_spread_49 rfl rfl rfl ?_
      refine g_get (q := 53) dX1_spread_50 rfl foX1_21 1 hc1 rfl ?_
      refine g_iload (q := 55) dX1_spread_53 rfl rfl ?_
      obtain ⟨b55, H⟩ := of_chk H
      refine g_iald (q := 56) dX1_spread_55 rfl 5 hc5 b55 ?_
      refine g_ior (q := 57) dX1_spread_56 rfl ?_
      refine g_istore (q := 59) (L' := [.ref (ad 1), un_, .int l2, .int l3, .int l4, .int l5, .int (l6 ||| (σ.2.1 5 l7.toNatClampNeg)), .int l7]) dX1_spread_57 rfl (Nat.le_of_ble_eq_true rfl) rfl ?_
      refine g_iinc (q := 62) (b := l7 + 1) (L' := [.ref (ad 1), un_, .int l2, .int l3, .int l4, .int l5, .int (l6 ||| (σ.2.1 5 l7.toNatClampNeg)), .int (l7 + 1)]) dX1_spread_59 rfl rfl rfl (Nat.le_of_ble_eq_true rfl) rfl ?_
      refine g_goto (q := 28) dX1_spread_62 (by decide) ?_
      exact g_weak (L' := [.ref (ad 1), un_, .int l2, .int l3, .int l4, .int l5, .int (l6 ||| (σ.2.1 5 l7.toNatClampNeg)), .int (l7 + 1)]) ⟨Or.inr rfl, Or.inl rfl, Or.inr rfl, Or.inr rfl, Or.inr rfl, Or.inr rfl, Or.inr rfl, Or.inr rfl, trivial⟩ (h28 _ _ _ _ _ _ _ H)
def fX1_spread_28 (F : Nat) (k8 : Sg → Int32 → Int32 → Int32 → Int32 → Rs) : Nat → Sg → Int32 → Int32 → Int32 → Int32 → Int32 → Int32 → Rs
  | 0 => fun _ _ _ _ _ _ _ => none
  | n + 1 => fun σ l2 l3 l4 l5 l6 l7 => bX1_spread_28 F k8 (fX1_spread_28 F k8 n) σ l2 l3 l4 l5 l6 l7
theorem wfX1_spread_28 {x : FX} {g : GX} {ad : Nat → Nat} {ex M0 : va_W} {r : Int32} {τ : Sg} {F : Nat} (hX : RX x g M0 (Pi_ r (HH g ad τ ++ ex)) 0 0) {k8 : Sg → Int32 → Int32 → Int32 → Int32 → Rs} (h8 : ∀ (σ : Sg) (l2 : Int32) (l3 : Int32) (l4 : Int32) (l5 : Int32), k8 σ l2 l3 l4 l5 = some (r, τ) → Go x { frames := 0, cells := 0, slots := 0, locals := 0 } tX1_spread g 8 [.ref (ad 1), un_, .int l2, .int l3, .int l4, .int l5, un_, un_] [] (HH g ad σ ++ ex) 0 0) : ∀ (n : Nat) (σ : Sg) (l2 : Int32) (l3 : Int32) (l4 : Int32) (l5 : Int32) (l6 : Int32) (l7 : Int32), fX1_spread_28 F k8 n σ l2 l3 l4 l5 l6 l7 = some (r, τ) → Go x { frames := 0, cells := 0, slots := 0, locals := 0 } tX1_spread g 28 [.ref (ad 1), un_, .int l2, .int l3, .int l4, .int l5, .int l6, .int l7] [] (HH g ad σ ++ ex) 0 0
  | 0, _, _, _, _, _, _, _, H => nomatch (show (none : Rs) = some _ from H)
  | n + 1, σ, l2, l3, l4, l5, l6, l7, H => wbX1_spread_28 (F := F) hX h8 (fun σ2 z2 z3 z4 z5 z6 z7 H2 => wfX1_spread_28 (F := F) hX h8 n σ2 z2 z3 z4 z5 z6 z7 H2) σ l2 l3 l4 l5 l6 l7 H
def bX1_spread_8 (F : Nat) (k8 : Sg → Int32 → Int32 → Int32 → Int32 → Rs) (σ : Sg) (l2 : Int32) (l3 : Int32) (l4 : Int32) (l5 : Int32) : Rs := if (σ.1 0) ≤ l5 then (some (l3, σ)) else (if l4 = (0 : Int32) then (some (l3, σ)) else (fX1_spread_28 F k8 F σ (l2) (l3) (l4) (l5) ((0 : Int32)) ((0 : Int32))))
set_option maxRecDepth 100000 in
set_option maxHeartbeats 4000000 in
theorem wbX1_spread_8 {x : FX} {g : GX} {ad : Nat → Nat} {ex M0 : va_W} {r : Int32} {τ : Sg} {F : Nat} (hX : RX x g M0 (Pi_ r (HH g ad τ ++ ex)) 0 0) {k8 : Sg → Int32 → Int32 → Int32 → Int32 → Rs} (h8 : ∀ (σ : Sg) (l2 : Int32) (l3 : Int32) (l4 : Int32) (l5 : Int32), k8 σ l2 l3 l4 l5 = some (r, τ) → Go x { frames := 0, cells := 0, slots := 0, locals := 0 } tX1_spread g 8 [.ref (ad 1), un_, .int l2, .int l3, .int l4, .int l5, un_, un_] [] (HH g ad σ ++ ex) 0 0) (σ : Sg) (l2 : Int32) (l3 : Int32) (l4 : Int32) (l5 : Int32) (H : bX1_spread_8 F k8 σ l2 l3 l4 l5 = some (r, τ)) : Go x { frames := 0, cells := 0, slots := 0, locals := 0 } tX1_spread g 8 [.ref (ad 1), un_, .int l2, .int l3, .int l4, .int l5, un_, un_] [] (HH g ad σ ++ ex) 0 0 := by
  unfold bX1_spread_8 at H
  refine g_iload (q := 10) dX1_spread_8 rfl rfl ?_
  refine g_aload_n (q := 11) (i := 0) dX1_spread_10 rfl rfl rfl ?_
  refine g_get (q := 14) dX1_spread_11 rfl foX1_24 1 hc1 rfl ?_
  refine g_icmp_ge (q := 17) (r := 88) dX1_spread_14 (by decide) rfl (fun c14 => ?_) (fun c14 => ?_)
  · replace H := (if_pos c14).symm.trans H
    refine g_iload_n (q := 89) (i := 3) dX1_spread_88 rfl rfl rfl ?_
    exact g_iret hX dX1_spread_89 rfl rfl (Nat.le_refl _) (Nat.le_refl _) (piOk H)
  · replace H := (if_neg c14).symm.trans H
    refine g_iload (q := 19) dX1_spread_17 rfl rfl ?_
    refine g_if_eq (q := 22) (r := 88) dX1_spread_19 (by decide) rfl (fun c19 => ?_) (fun c19 => ?_)
    · replace H := (if_pos c19).symm.trans H
      refine g_iload_n (q := 89) (i := 3) dX1_spread_88 rfl rfl rfl ?_
      exact g_iret hX dX1_spread_89 rfl rfl (Nat.le_refl _) (Nat.le_refl _) (piOk H)
    · replace H := (if_neg c19).symm.trans H
      refine g_iconst (q := 23) (v := 0) dX1_spread_22 rfl (by decide) ?_
      refine g_istore (q := 25) (L' := [.ref (ad 1), un_, .int l2, .int l3, .int l4, .int l5, .int ((0 : Int32)), un_]) dX1_spread_23 rfl (Nat.le_of_ble_eq_true rfl) rfl ?_
      refine g_iconst (q := 26) (v := 0) dX1_spread_25 rfl (by decide) ?_
      refine g_istore (q := 28) (L' := [.ref (ad 1), un_, .int l2, .int l3, .int l4, .int l5, .int ((0 : Int32)), .int ((0 : Int32))]) dX1_spread_26 rfl (Nat.le_of_ble_eq_true rfl) rfl ?_
      exact g_weak (L' := [.ref (ad 1), un_, .int l2, .int l3, .int l4, .int l5, .int ((0 : Int32)), .int ((0 : Int32))]) ⟨Or.inr rfl, Or.inl rfl, Or.inr rfl, Or.inr rfl, Or.inr rfl, Or.inr rfl, Or.inr rfl, Or.inr rfl, trivial⟩ (wfX1_spread_28 (F := F) hX h8 F _ _ _ _ _ _ _ H)
def fX1_spread_8 (F : Nat)  : Nat → Sg → Int32 → Int32 → Int32 → Int32 → Rs
  | 0 => fun _ _ _ _ _ => none
  | n + 1 => fun σ l2 l3 l4 l5 => bX1_spread_8 F  (fX1_spread_8 F  n) σ l2 l3 l4 l5
theorem wfX1_spread_8 {x : FX} {g : GX} {ad : Nat → Nat} {ex M0 : va_W} {r : Int32} {τ : Sg} {F : Nat} (hX : RX x g M0 (Pi_ r (HH g ad τ ++ ex)) 0 0)   : ∀ (n : Nat) (σ : Sg) (l2 : Int32) (l3 : Int32) (l4 : Int32) (l5 : Int32), fX1_spread_8 F  n σ l2 l3 l4 l5 = some (r, τ) → Go x { frames := 0, cells := 0, slots := 0, locals := 0 } tX1_spread g 8 [.ref (ad 1), un_, .int l2, .int l3, .int l4, .int l5, un_, un_] [] (HH g ad σ ++ ex) 0 0
  | 0, _, _, _, _, _, H => nomatch (show (none : Rs) = some _ from H)
  | n + 1, σ, l2, l3, l4, l5, H => wbX1_spread_8 (F := F) hX  (fun σ2 z2 z3 z4 z5 H2 => wfX1_spread_8 (F := F) hX  n σ2 z2 z3 z4 z5 H2) σ l2 l3 l4 l5 H
def fX1_spread (F : Nat) (σ : Sg) (l1 : Int32) (l2 : Int32) : Rs := fX1_spread_8 F F σ (l2) (l1) (l1) ((0 : Int32))
set_option maxRecDepth 100000 in
set_option maxHeartbeats 4000000 in
theorem ctX1_spread {l : Launch} {g : GX} {ad : Nat → Nat} {ex : va_W} {r : Int32} {τ σ : Sg} {F : Nat} {l1 : Int32} {l2 : Int32} (H : fX1_spread F σ l1 l2 = some (r, τ)) : Ct l g yX1_spread tX1_spread 0 0 0 0 [.ref (ad 1), .int l1, .int l2] (HH g ad σ ++ ex) (Pi_ r (HH g ad τ ++ ex)) := by
  refine Ct.of (L := [.ref (ad 1), .int l1, .int l2, un_, un_, un_, un_, un_]) (by decide +kernel) rfl rfl rfl (Nat.le_of_ble_eq_true rfl) rfl (fun x _ hX => ?_)
  unfold fX1_spread at H
  refine g_iload_n (q := 1) (i := 1) dX1_spread_0 rfl rfl rfl ?_
  refine g_istore_n (q := 2) (L' := [.ref (ad 1), .int l1, .int l2, .int l1, un_, un_, un_, un_]) (i := 3) dX1_spread_1 rfl rfl (Nat.le_of_ble_eq_true rfl) rfl ?_
  refine g_iload_n (q := 3) (i := 1) dX1_spread_2 rfl rfl rfl ?_
  refine g_istore (q := 5) (L' := [.ref (ad 1), .int l1, .int l2, .int l1, .int l1, un_, un_, un_]) dX1_spread_3 rfl (Nat.le_of_ble_eq_true rfl) rfl ?_
  refine g_iconst (q := 6) (v := 0) dX1_spread_5 rfl (by decide) ?_
  refine g_istore (q := 8) (L' := [.ref (ad 1), .int l1, .int l2, .int l1, .int l1, .int ((0 : Int32)), un_, un_]) dX1_spread_6 rfl (Nat.le_of_ble_eq_true rfl) rfl ?_
  exact g_weak (L' := [.ref (ad 1), un_, .int l2, .int l1, .int l1, .int ((0 : Int32)), un_, un_]) ⟨Or.inr rfl, Or.inl rfl, Or.inr rfl, Or.inr rfl, Or.inr rfl, Or.inr rfl, Or.inl rfl, Or.inl rfl, trivial⟩ (wfX1_spread_8 (F := F) hX  F _ _ _ _ _ H)
def fX1_lostBehind (F : Nat) (σ : Sg) (l1 : Int32) (l2 : Int32) (l3 : Int32) (l4 : Int32) : Rs := if ((l2 >>> (l3 &&& 31)) &&& (1 : Int32)) = (0 : Int32) then (if ib l3 12 then ((fX1_passagesAt F σ l1).bind fun q1 => (fun (r1 : Int32) (σ1 : Sg) => if (((σ.2.1 4 l3.toNatClampNeg) &&& r1) &&& (l4 ^^^ (-1 : Int32))) = (0 : Int32) then (some (l1 &&& (l2 ^^^ (-1 : Int32)), σ1)) else ((fX1_spread F σ1 ((l1 &&& (l2 ^^^ (-1 : Int32))) ||| ((1 : Int32) <<< (l3 &&& 31))) l2).bind fun q2 => (fun (r2 : Int32) (σ2 : Sg) => some (r2, σ2)) q2.1 q2.2)) q1.1 q1.2) else none) else (some (l1 &&& (l2 ^^^ (-1 : Int32)), σ))
set_option maxRecDepth 100000 in
set_option maxHeartbeats 4000000 in
theorem ctX1_lostBehind {l : Launch} {g : GX} {ad : Nat → Nat} {ex : va_W} {r : Int32} {τ σ : Sg} {F : Nat} {l1 : Int32} {l2 : Int32} {l3 : Int32} {l4 : Int32} (H : fX1_lostBehind F σ l1 l2 l3 l4 = some (r, τ)) : Ct l g yX1_lostBehind tX1_lostBehind 1 27 0 0 [.ref (ad 1), .int l1, .int l2, .int l3, .int l4] (HH g ad σ ++ ex) (Pi_ r (HH g ad τ ++ ex)) := by
  refine Ct.of (L := [.ref (ad 1), .int l1, .int l2, .int l3, .int l4, un_, un_]) (by decide +kernel) rfl rfl rfl (Nat.le_of_ble_eq_true rfl) rfl (fun x _ hX => ?_)
  unfold fX1_lostBehind at H
  refine g_iload_n (q := 1) (i := 1) dX1_lostBehind_0 rfl rfl rfl ?_
  refine g_iload_n (q := 2) (i := 2) dX1_lostBehind_1 rfl rfl rfl ?_
  refine g_iconst (q := 3) (v := -1) dX1_lostBehind_2 rfl (by decide) ?_
  refine g_ixor (q := 4) dX1_lostBehind_3 rfl ?_
  refine g_iand (q := 5) dX1_lostBehind_4 rfl ?_
  refine g_istore (q := 7) (L' := [.ref (ad 1), .int l1, .int l2, .int l3, .int l4, .int (l1 &&& (l2 ^^^ (-1 : Int32))), un_]) dX1_lostBehind_5 rfl (Nat.le_of_ble_eq_true rfl) rfl ?_
  refine g_iload_n (q := 8) (i := 2) dX1_lostBehind_7 rfl rfl rfl ?_
  refine g_iload_n (q := 9) (i := 3) dX1_lostBehind_8 rfl rfl rfl ?_
  refine g_ishr (q := 10) dX1_lostBehind_9 rfl ?_
  refine g_iconst (q := 11) (v := 1) dX1_lostBehind_10 rfl (by decide) ?_
  refine g_iand (q := 12) dX1_lostBehind_11 rfl ?_
  refine g_if_eq (q := 15) (r := 18) dX1_lostBehind_12 (by decide) rfl (fun c12 => ?_) (fun c12 => ?_)
  · replace H := (if_pos c12).symm.trans H
    refine g_aload_n (q := 19) (i := 0) dX1_lostBehind_18 rfl rfl rfl ?_
    refine g_get (q := 22) dX1_lostBehind_19 rfl foX1_18 1 hc1 rfl ?_
    refine g_iload_n (q := 23) (i := 3) dX1_lostBehind_22 rfl rfl rfl ?_
    obtain ⟨b23, H⟩ := of_chk H
    refine g_iald (q := 24) dX1_lostBehind_23 rfl 4 hc4 b23 ?_
    refine g_aload_n (q := 25) (i := 0) dX1_lostBehind_24 rfl rfl rfl ?_
    refine g_iload_n (q := 26) (i := 1) dX1_lostBehind_25 rfl rfl rfl ?_
    obtain ⟨r1, σ1, e1, H⟩ := of_bnd H
    refine g_callV (q := 29) (rest := [.int (σ.2.1 4 l3.toNatClampNeg)]) dX1_lostBehind_26 rfl cvX1_56 (ctX1_passagesAt e1) rfl rfl ⟨Nat.le_of_ble_eq_true rfl, Nat.le_of_ble_eq_true rfl⟩ ⟨Nat.le_refl _, Nat.le_refl _⟩ (Nat.le_of_ble_eq_true rfl) 1 hc1 rfl (fun r0 M9 hp => ?_)
    obtain ⟨rfl, rfl⟩ := hp
    show Go x _ _ g 29 [.ref (ad 1), .int l1, .int l2, .int l3, .int l4, .int (l1 &&& (l2 ^^^ (-1 : Int32))), un_] [.int r1, .int (σ.2.1 4 l3.toNatClampNeg)] (HH g ad σ1 ++ ex) 0 0
    refine g_iand (q := 30) dX1_lostBehind_29 rfl ?_
    refine g_iload (q := 32) dX1_lostBehind_30 rfl rfl ?_
    refine g_iconst (q := 33) (v := -1) dX1_lostBehind_32 rfl (by decide) ?_
    refine g_ixor (q := 34) dX1_lostBehind_33 rfl ?_
    refine g_iand (q := 35) dX1_lostBehind_34 rfl ?_
    refine g_istore (q := 37) (L' := [.ref (ad 1), .int l1, .int l2, .int l3, .int l4, .int (l1 &&& (l2 ^^^ (-1 : Int32))), .int (((σ.2.1 4 l3.toNatClampNeg) &&& r1) &&& (l4 ^^^ (-1 : Int32)))]) dX1_lostBehind_35 rfl (Nat.le_of_ble_eq_true rfl) rfl ?_
    refine g_iload (q := 39) dX1_lostBehind_37 rfl rfl ?_
    refine g_if_ne (q := 42) (r := 47) dX1_lostBehind_39 (by decide) rfl (fun c39 => ?_) (fun c39 => ?_)
    · replace H := (if_neg c39).symm.trans H
      refine g_aload_n (q := 48) (i := 0) dX1_lostBehind_47 rfl rfl rfl ?_
      refine g_iload (q := 50) dX1_lostBehind_48 rfl rfl ?_
      refine g_iconst (q := 51) (v := 1) dX1_lostBehind_50 rfl (by decide) ?_
      refine g_iload_n (q := 52) (i := 3) dX1_lostBehind_51 rfl rfl rfl ?_
      refine g_ishl (q := 53) dX1_lostBehind_52 rfl ?_
      refine g_ior (q := 54) dX1_lostBehind_53 rfl ?_
      refine g_iload_n (q := 55) (i := 2) dX1_lostBehind_54 rfl rfl rfl ?_
      obtain ⟨r2, σ2, e2, H⟩ := of_bnd H
      refine g_callV (q := 58) (rest := []) dX1_lostBehind_55 rfl cvX1_60 (ctX1_spread e2) rfl rfl ⟨Nat.le_of_ble_eq_true rfl, Nat.le_of_ble_eq_true rfl⟩ ⟨Nat.le_refl _, Nat.le_refl _⟩ (Nat.le_of_ble_eq_true rfl) 1 hc1 rfl (fun r0 M9 hp => ?_)
      obtain ⟨rfl, rfl⟩ := hp
      show Go x _ _ g 58 [.ref (ad 1), .int l1, .int l2, .int l3, .int l4, .int (l1 &&& (l2 ^^^ (-1 : Int32))), .int (((σ.2.1 4 l3.toNatClampNeg) &&& r1) &&& (l4 ^^^ (-1 : Int32)))] [.int r2] (HH g ad σ2 ++ ex) 0 0
      exact g_iret hX dX1_lostBehind_58 rfl rfl (Nat.le_refl _) (Nat.le_refl _) (piOk H)
    · replace H := (if_pos c39).symm.trans H
      refine g_iload (q := 44) dX1_lostBehind_42 rfl rfl ?_
      refine g_goto (q := 58) dX1_lostBehind_44 (by decide) ?_
      exact g_iret hX dX1_lostBehind_58 rfl rfl (Nat.le_refl _) (Nat.le_refl _) (piOk H)
  · replace H := (if_neg c12).symm.trans H
    refine g_iload (q := 17) dX1_lostBehind_15 rfl rfl ?_
    exact g_iret hX dX1_lostBehind_17 rfl rfl (Nat.le_refl _) (Nat.le_refl _) (piOk H)
end
