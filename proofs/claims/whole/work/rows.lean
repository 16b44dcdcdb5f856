section
-- ===== PART A: goes FIRST, ahead of the names: the tables' words, and 'selects' of the private methods out of them =====
/-- a private method of a class that the tables say can be made, by its rows of tables_1 -/
def lw_okq (q : MethodName × Nat) : Prop := (q.1.cls ≠ "java/lang/invoke/MethodHandle" ∧ q.1.cls ≠ "java/lang/invoke/VarHandle") ∧ Cond.instantiable q.1.cls q.2 ∈ tables_1 ∧ Cond.privateMethod q.1 ∈ tables_1 ∧ Cond.instanceMethod q.1 ∈ tables_1
theorem lw_p0 : lw_okq (⟨"CaveParty$Ground", "linkCaves", "()V"⟩, 7) := ⟨⟨by decide +kernel, by decide +kernel⟩, List.mem_of_getElem? (i := 21) (by decide +kernel), List.mem_of_getElem? (i := 223) (by decide +kernel), List.mem_of_getElem? (i := 224) (by decide +kernel)⟩
theorem lw_p1 : lw_okq (⟨"CaveParty", "forgetSearchAndPlan", "()V"⟩, 6) := ⟨⟨by decide +kernel, by decide +kernel⟩, List.mem_of_getElem? (i := 13) (by decide +kernel), List.mem_of_getElem? (i := 238) (by decide +kernel), List.mem_of_getElem? (i := 239) (by decide +kernel)⟩
theorem lw_p2 : lw_okq (⟨"CaveParty$Search", "canBeDone", "(II)Z"⟩, 9) := ⟨⟨by decide +kernel, by decide +kernel⟩, List.mem_of_getElem? (i := 59) (by decide +kernel), List.mem_of_getElem? (i := 302) (by decide +kernel), List.mem_of_getElem? (i := 303) (by decide +kernel)⟩
theorem lw_p3 : lw_okq (⟨"CaveParty$Stand", "leave", "(I)V"⟩, 4) := ⟨⟨by decide +kernel, by decide +kernel⟩, List.mem_of_getElem? (i := 65) (by decide +kernel), List.mem_of_getElem? (i := 310) (by decide +kernel), List.mem_of_getElem? (i := 311) (by decide +kernel)⟩
theorem lw_p4 : lw_okq (⟨"CaveParty$Stand", "come", "(I)V"⟩, 4) := ⟨⟨by decide +kernel, by decide +kernel⟩, List.mem_of_getElem? (i := 65) (by decide +kernel), List.mem_of_getElem? (i := 314) (by decide +kernel), List.mem_of_getElem? (i := 315) (by decide +kernel)⟩
theorem lw_p5 : lw_okq (⟨"CaveParty", "lookAtCave", "(II)I"⟩, 6) := ⟨⟨by decide +kernel, by decide +kernel⟩, List.mem_of_getElem? (i := 13) (by decide +kernel), List.mem_of_getElem? (i := 376) (by decide +kernel), List.mem_of_getElem? (i := 377) (by decide +kernel)⟩
theorem lw_p6 : lw_okq (⟨"CaveParty", "lookAtPassage", "(II)I"⟩, 6) := ⟨⟨by decide +kernel, by decide +kernel⟩, List.mem_of_getElem? (i := 13) (by decide +kernel), List.mem_of_getElem? (i := 384) (by decide +kernel), List.mem_of_getElem? (i := 385) (by decide +kernel)⟩
theorem lw_p7 : lw_okq (⟨"CaveParty", "canBeSolved", "(I)Z"⟩, 6) := ⟨⟨by decide +kernel, by decide +kernel⟩, List.mem_of_getElem? (i := 13) (by decide +kernel), List.mem_of_getElem? (i := 397) (by decide +kernel), List.mem_of_getElem? (i := 398) (by decide +kernel)⟩
theorem lw_p8 : lw_okq (⟨"CaveParty$Finder", "meet", "(IIIIII)V"⟩, 15) := ⟨⟨by decide +kernel, by decide +kernel⟩, List.mem_of_getElem? (i := 141) (by decide +kernel), List.mem_of_getElem? (i := 410) (by decide +kernel), List.mem_of_getElem? (i := 411) (by decide +kernel)⟩
theorem lw_p9 : lw_okq (⟨"CaveParty$Finder", "slotOf", "(I)I"⟩, 15) := ⟨⟨by decide +kernel, by decide +kernel⟩, List.mem_of_getElem? (i := 141) (by decide +kernel), List.mem_of_getElem? (i := 419) (by decide +kernel), List.mem_of_getElem? (i := 420) (by decide +kernel)⟩
theorem lw_p10 : lw_okq (⟨"CaveParty$Finder", "takeUp", "(I)V"⟩, 15) := ⟨⟨by decide +kernel, by decide +kernel⟩, List.mem_of_getElem? (i := 141) (by decide +kernel), List.mem_of_getElem? (i := 427) (by decide +kernel), List.mem_of_getElem? (i := 428) (by decide +kernel)⟩
theorem lw_p11 : lw_okq (⟨"CaveParty$Finder", "tryPuts", "()V"⟩, 15) := ⟨⟨by decide +kernel, by decide +kernel⟩, List.mem_of_getElem? (i := 141) (by decide +kernel), List.mem_of_getElem? (i := 431) (by decide +kernel), List.mem_of_getElem? (i := 432) (by decide +kernel)⟩
theorem lw_p12 : lw_okq (⟨"CaveParty$Finder", "tryLifts", "()V"⟩, 15) := ⟨⟨by decide +kernel, by decide +kernel⟩, List.mem_of_getElem? (i := 141) (by decide +kernel), List.mem_of_getElem? (i := 442) (by decide +kernel), List.mem_of_getElem? (i := 443) (by decide +kernel)⟩
theorem lw_p13 : lw_okq (⟨"CaveParty$Finder", "guardedWithout", "(I)I"⟩, 15) := ⟨⟨by decide +kernel, by decide +kernel⟩, List.mem_of_getElem? (i := 141) (by decide +kernel), List.mem_of_getElem? (i := 446) (by decide +kernel), List.mem_of_getElem? (i := 447) (by decide +kernel)⟩
theorem lw_p14 : lw_okq (⟨"CaveParty$Finder", "trySlides", "()V"⟩, 15) := ⟨⟨by decide +kernel, by decide +kernel⟩, List.mem_of_getElem? (i := 141) (by decide +kernel), List.mem_of_getElem? (i := 451) (by decide +kernel), List.mem_of_getElem? (i := 452) (by decide +kernel)⟩
theorem lw_p15 : lw_okq (⟨"CaveParty$Finder", "trySlidesFrom", "(I)V"⟩, 15) := ⟨⟨by decide +kernel, by decide +kernel⟩, List.mem_of_getElem? (i := 141) (by decide +kernel), List.mem_of_getElem? (i := 455) (by decide +kernel), List.mem_of_getElem? (i := 456) (by decide +kernel)⟩
def lw_privs_1 : List (MethodName × Nat) := [(⟨"CaveParty$Ground", "linkCaves", "()V"⟩, 7), (⟨"CaveParty", "forgetSearchAndPlan", "()V"⟩, 6), (⟨"CaveParty$Search", "canBeDone", "(II)Z"⟩, 9), (⟨"CaveParty$Stand", "leave", "(I)V"⟩, 4), (⟨"CaveParty$Stand", "come", "(I)V"⟩, 4), (⟨"CaveParty", "lookAtCave", "(II)I"⟩, 6), (⟨"CaveParty", "lookAtPassage", "(II)I"⟩, 6), (⟨"CaveParty", "canBeSolved", "(I)Z"⟩, 6), (⟨"CaveParty$Finder", "meet", "(IIIIII)V"⟩, 15), (⟨"CaveParty$Finder", "slotOf", "(I)I"⟩, 15), (⟨"CaveParty$Finder", "takeUp", "(I)V"⟩, 15), (⟨"CaveParty$Finder", "tryPuts", "()V"⟩, 15), (⟨"CaveParty$Finder", "tryLifts", "()V"⟩, 15), (⟨"CaveParty$Finder", "guardedWithout", "(I)I"⟩, 15), (⟨"CaveParty$Finder", "trySlides", "()V"⟩, 15), (⟨"CaveParty$Finder", "trySlidesFrom", "(I)V"⟩, 15)]
theorem lw_r1 : ∀ q ∈ lw_privs_1, lw_okq q := List.forall_mem_cons.mpr ⟨lw_p0, List.forall_mem_cons.mpr ⟨lw_p1, List.forall_mem_cons.mpr ⟨lw_p2, List.forall_mem_cons.mpr ⟨lw_p3, List.forall_mem_cons.mpr ⟨lw_p4, List.forall_mem_cons.mpr ⟨lw_p5, List.forall_mem_cons.mpr ⟨lw_p6, List.forall_mem_cons.mpr ⟨lw_p7, List.forall_mem_cons.mpr ⟨lw_p8, List.forall_mem_cons.mpr ⟨lw_p9, List.forall_mem_cons.mpr ⟨lw_p10, List.forall_mem_cons.mpr ⟨lw_p11, List.forall_mem_cons.mpr ⟨lw_p12, List.forall_mem_cons.mpr ⟨lw_p13, List.forall_mem_cons.mpr ⟨lw_p14, List.forall_mem_cons.mpr ⟨lw_p15, fun _ h => absurd h List.not_mem_nil⟩⟩⟩⟩⟩⟩⟩⟩⟩⟩⟩⟩⟩⟩⟩⟩
theorem lw_p16 : lw_okq (⟨"CaveParty", "isPlanBy", "(I)Z"⟩, 6) := ⟨⟨by decide +kernel, by decide +kernel⟩, List.mem_of_getElem? (i := 13) (by decide +kernel), List.mem_of_getElem? (i := 499) (by decide +kernel), List.mem_of_getElem? (i := 500) (by decide +kernel)⟩
theorem lw_p17 : lw_okq (⟨"CaveParty$Layout", "leastWorstBehind", "(I)I"⟩, 3) := ⟨⟨by decide +kernel, by decide +kernel⟩, List.mem_of_getElem? (i := 125) (by decide +kernel), List.mem_of_getElem? (i := 543) (by decide +kernel), List.mem_of_getElem? (i := 544) (by decide +kernel)⟩
theorem lw_p18 : lw_okq (⟨"CaveParty$Layout", "firstWithin", "(II)I"⟩, 3) := ⟨⟨by decide +kernel, by decide +kernel⟩, List.mem_of_getElem? (i := 125) (by decide +kernel), List.mem_of_getElem? (i := 548) (by decide +kernel), List.mem_of_getElem? (i := 549) (by decide +kernel)⟩
theorem lw_p19 : lw_okq (⟨"CavePartyModel", "changes", "()V"⟩, 25) := ⟨⟨by decide +kernel, by decide +kernel⟩, List.mem_of_getElem? (i := 552) (by decide +kernel), List.mem_of_getElem? (i := 641) (by decide +kernel), List.mem_of_getElem? (i := 642) (by decide +kernel)⟩
theorem lw_p20 : lw_okq (⟨"CavePartyModel", "begins", "()V"⟩, 25) := ⟨⟨by decide +kernel, by decide +kernel⟩, List.mem_of_getElem? (i := 552) (by decide +kernel), List.mem_of_getElem? (i := 649) (by decide +kernel), List.mem_of_getElem? (i := 650) (by decide +kernel)⟩
theorem lw_p21 : lw_okq (⟨"CavePartyModel", "keeps", "()V"⟩, 25) := ⟨⟨by decide +kernel, by decide +kernel⟩, List.mem_of_getElem? (i := 552) (by decide +kernel), List.mem_of_getElem? (i := 653) (by decide +kernel), List.mem_of_getElem? (i := 654) (by decide +kernel)⟩
theorem lw_p22 : lw_okq (⟨"CavePartyModel", "isCave", "(I)Z"⟩, 25) := ⟨⟨by decide +kernel, by decide +kernel⟩, List.mem_of_getElem? (i := 552) (by decide +kernel), List.mem_of_getElem? (i := 661) (by decide +kernel), List.mem_of_getElem? (i := 662) (by decide +kernel)⟩
theorem lw_p23 : lw_okq (⟨"CavePartyModel", "isPassage", "(I)Z"⟩, 25) := ⟨⟨by decide +kernel, by decide +kernel⟩, List.mem_of_getElem? (i := 552) (by decide +kernel), List.mem_of_getElem? (i := 669) (by decide +kernel), List.mem_of_getElem? (i := 670) (by decide +kernel)⟩
theorem lw_p24 : lw_okq (⟨"CavePartyModel", "isAt", "(II)Z"⟩, 25) := ⟨⟨by decide +kernel, by decide +kernel⟩, List.mem_of_getElem? (i := 552) (by decide +kernel), List.mem_of_getElem? (i := 682) (by decide +kernel), List.mem_of_getElem? (i := 683) (by decide +kernel)⟩
theorem lw_p25 : lw_okq (⟨"CavePartyModel", "comes", "(I)V"⟩, 25) := ⟨⟨by decide +kernel, by decide +kernel⟩, List.mem_of_getElem? (i := 552) (by decide +kernel), List.mem_of_getElem? (i := 686) (by decide +kernel), List.mem_of_getElem? (i := 687) (by decide +kernel)⟩
theorem lw_p26 : lw_okq (⟨"CavePartyModel", "below", "()I"⟩, 25) := ⟨⟨by decide +kernel, by decide +kernel⟩, List.mem_of_getElem? (i := 552) (by decide +kernel), List.mem_of_getElem? (i := 690) (by decide +kernel), List.mem_of_getElem? (i := 691) (by decide +kernel)⟩
theorem lw_p27 : lw_okq (⟨"CavePartyModel", "does", "(III)V"⟩, 25) := ⟨⟨by decide +kernel, by decide +kernel⟩, List.mem_of_getElem? (i := 552) (by decide +kernel), List.mem_of_getElem? (i := 694) (by decide +kernel), List.mem_of_getElem? (i := 695) (by decide +kernel)⟩
theorem lw_p28 : lw_okq (⟨"CavePartyModel", "other", "(II)I"⟩, 25) := ⟨⟨by decide +kernel, by decide +kernel⟩, List.mem_of_getElem? (i := 552) (by decide +kernel), List.mem_of_getElem? (i := 698) (by decide +kernel), List.mem_of_getElem? (i := 699) (by decide +kernel)⟩
theorem lw_p29 : lw_okq (⟨"CavePartyModel", "settles", "(I)V"⟩, 25) := ⟨⟨by decide +kernel, by decide +kernel⟩, List.mem_of_getElem? (i := 552) (by decide +kernel), List.mem_of_getElem? (i := 702) (by decide +kernel), List.mem_of_getElem? (i := 703) (by decide +kernel)⟩
theorem lw_p30 : lw_okq (⟨"CavePartyModel", "spreads", "()V"⟩, 25) := ⟨⟨by decide +kernel, by decide +kernel⟩, List.mem_of_getElem? (i := 552) (by decide +kernel), List.mem_of_getElem? (i := 706) (by decide +kernel), List.mem_of_getElem? (i := 707) (by decide +kernel)⟩
theorem lw_p31 : lw_okq (⟨"CavePartyModel", "party", "()I"⟩, 25) := ⟨⟨by decide +kernel, by decide +kernel⟩, List.mem_of_getElem? (i := 552) (by decide +kernel), List.mem_of_getElem? (i := 718) (by decide +kernel), List.mem_of_getElem? (i := 719) (by decide +kernel)⟩
def lw_privs_2 : List (MethodName × Nat) := [(⟨"CaveParty", "isPlanBy", "(I)Z"⟩, 6), (⟨"CaveParty$Layout", "leastWorstBehind", "(I)I"⟩, 3), (⟨"CaveParty$Layout", "firstWithin", "(II)I"⟩, 3), (⟨"CavePartyModel", "changes", "()V"⟩, 25), (⟨"CavePartyModel", "begins", "()V"⟩, 25), (⟨"CavePartyModel", "keeps", "()V"⟩, 25), (⟨"CavePartyModel", "isCave", "(I)Z"⟩, 25), (⟨"CavePartyModel", "isPassage", "(I)Z"⟩, 25), (⟨"CavePartyModel", "isAt", "(II)Z"⟩, 25), (⟨"CavePartyModel", "comes", "(I)V"⟩, 25), (⟨"CavePartyModel", "below", "()I"⟩, 25), (⟨"CavePartyModel", "does", "(III)V"⟩, 25), (⟨"CavePartyModel", "other", "(II)I"⟩, 25), (⟨"CavePartyModel", "settles", "(I)V"⟩, 25), (⟨"CavePartyModel", "spreads", "()V"⟩, 25), (⟨"CavePartyModel", "party", "()I"⟩, 25)]
theorem lw_r2 : ∀ q ∈ lw_privs_2, lw_okq q := List.forall_mem_cons.mpr ⟨lw_p16, List.forall_mem_cons.mpr ⟨lw_p17, List.forall_mem_cons.mpr ⟨lw_p18, List.forall_mem_cons.mpr ⟨lw_p19, List.forall_mem_cons.mpr ⟨lw_p20, List.forall_mem_cons.mpr ⟨lw_p21, List.forall_mem_cons.mpr ⟨lw_p22, List.forall_mem_cons.mpr ⟨lw_p23, List.forall_mem_cons.mpr ⟨lw_p24, List.forall_mem_cons.mpr ⟨lw_p25, List.forall_mem_cons.mpr ⟨lw_p26, List.forall_mem_cons.mpr ⟨lw_p27, List.forall_mem_cons.mpr ⟨lw_p28, List.forall_mem_cons.mpr ⟨lw_p29, List.forall_mem_cons.mpr ⟨lw_p30, List.forall_mem_cons.mpr ⟨lw_p31, fun _ h => absurd h List.not_mem_nil⟩⟩⟩⟩⟩⟩⟩⟩⟩⟩⟩⟩⟩⟩⟩⟩
theorem lw_p32 : lw_okq (⟨"CavePartyModel", "passages", "()I"⟩, 25) := ⟨⟨by decide +kernel, by decide +kernel⟩, List.mem_of_getElem? (i := 552) (by decide +kernel), List.mem_of_getElem? (i := 725) (by decide +kernel), List.mem_of_getElem? (i := 726) (by decide +kernel)⟩
theorem lw_p33 : lw_okq (⟨"CavePartyModel", "pieces", "()I"⟩, 25) := ⟨⟨by decide +kernel, by decide +kernel⟩, List.mem_of_getElem? (i := 552) (by decide +kernel), List.mem_of_getElem? (i := 729) (by decide +kernel), List.mem_of_getElem? (i := 730) (by decide +kernel)⟩
theorem lw_p34 : lw_okq (⟨"CavePartyModel", "reached", "(II)I"⟩, 25) := ⟨⟨by decide +kernel, by decide +kernel⟩, List.mem_of_getElem? (i := 552) (by decide +kernel), List.mem_of_getElem? (i := 733) (by decide +kernel), List.mem_of_getElem? (i := 734) (by decide +kernel)⟩
theorem lw_p35 : lw_okq (⟨"CavePartyModel", "degree", "(I)I"⟩, 25) := ⟨⟨by decide +kernel, by decide +kernel⟩, List.mem_of_getElem? (i := 552) (by decide +kernel), List.mem_of_getElem? (i := 741) (by decide +kernel), List.mem_of_getElem? (i := 742) (by decide +kernel)⟩
theorem lw_p36 : lw_okq (⟨"CavePartyModel", "placeOf", "(I)I"⟩, 25) := ⟨⟨by decide +kernel, by decide +kernel⟩, List.mem_of_getElem? (i := 552) (by decide +kernel), List.mem_of_getElem? (i := 745) (by decide +kernel), List.mem_of_getElem? (i := 746) (by decide +kernel)⟩
theorem lw_p37 : lw_okq (⟨"CavePartyModel", "isSmall", "(I)Z"⟩, 25) := ⟨⟨by decide +kernel, by decide +kernel⟩, List.mem_of_getElem? (i := 552) (by decide +kernel), List.mem_of_getElem? (i := 753) (by decide +kernel), List.mem_of_getElem? (i := 754) (by decide +kernel)⟩
theorem lw_p38 : lw_okq (⟨"CavePartyModel", "finds", "(II)I"⟩, 25) := ⟨⟨by decide +kernel, by decide +kernel⟩, List.mem_of_getElem? (i := 552) (by decide +kernel), List.mem_of_getElem? (i := 757) (by decide +kernel), List.mem_of_getElem? (i := 758) (by decide +kernel)⟩
theorem lw_p39 : lw_okq (⟨"CavePartyModel", "meets", "(III)Z"⟩, 25) := ⟨⟨by decide +kernel, by decide +kernel⟩, List.mem_of_getElem? (i := 552) (by decide +kernel), List.mem_of_getElem? (i := 761) (by decide +kernel), List.mem_of_getElem? (i := 762) (by decide +kernel)⟩
theorem lw_p40 : lw_okq (⟨"CavePartyModel", "number", "(I)I"⟩, 25) := ⟨⟨by decide +kernel, by decide +kernel⟩, List.mem_of_getElem? (i := 552) (by decide +kernel), List.mem_of_getElem? (i := 765) (by decide +kernel), List.mem_of_getElem? (i := 766) (by decide +kernel)⟩
theorem lw_p41 : lw_okq (⟨"CavePartyModel", "shows", "(II)V"⟩, 25) := ⟨⟨by decide +kernel, by decide +kernel⟩, List.mem_of_getElem? (i := 552) (by decide +kernel), List.mem_of_getElem? (i := 771) (by decide +kernel), List.mem_of_getElem? (i := 772) (by decide +kernel)⟩
theorem lw_p42 : lw_okq (⟨"CavePartyModel", "may", "(IIII)Z"⟩, 25) := ⟨⟨by decide +kernel, by decide +kernel⟩, List.mem_of_getElem? (i := 552) (by decide +kernel), List.mem_of_getElem? (i := 775) (by decide +kernel), List.mem_of_getElem? (i := 776) (by decide +kernel)⟩
theorem lw_p43 : lw_okq (⟨"CavePartyModel", "hangs", "(I)Z"⟩, 25) := ⟨⟨by decide +kernel, by decide +kernel⟩, List.mem_of_getElem? (i := 552) (by decide +kernel), List.mem_of_getElem? (i := 779) (by decide +kernel), List.mem_of_getElem? (i := 780) (by decide +kernel)⟩
theorem lw_p44 : lw_okq (⟨"CavePartyModel", "isSearched", "()Z"⟩, 25) := ⟨⟨by decide +kernel, by decide +kernel⟩, List.mem_of_getElem? (i := 552) (by decide +kernel), List.mem_of_getElem? (i := 783) (by decide +kernel), List.mem_of_getElem? (i := 784) (by decide +kernel)⟩
theorem lw_p45 : lw_okq (⟨"CavePartyModel", "cutBehind", "(I)I"⟩, 25) := ⟨⟨by decide +kernel, by decide +kernel⟩, List.mem_of_getElem? (i := 552) (by decide +kernel), List.mem_of_getElem? (i := 807) (by decide +kernel), List.mem_of_getElem? (i := 808) (by decide +kernel)⟩
theorem lw_p46 : lw_okq (⟨"CavePartyModel", "cutOf", "(I)I"⟩, 25) := ⟨⟨by decide +kernel, by decide +kernel⟩, List.mem_of_getElem? (i := 552) (by decide +kernel), List.mem_of_getElem? (i := 811) (by decide +kernel), List.mem_of_getElem? (i := 812) (by decide +kernel)⟩
theorem lw_p47 : lw_okq (⟨"CavePartyModel", "worst", "(I)I"⟩, 25) := ⟨⟨by decide +kernel, by decide +kernel⟩, List.mem_of_getElem? (i := 552) (by decide +kernel), List.mem_of_getElem? (i := 819) (by decide +kernel), List.mem_of_getElem? (i := 820) (by decide +kernel)⟩
def lw_privs_3 : List (MethodName × Nat) := [(⟨"CavePartyModel", "passages", "()I"⟩, 25), (⟨"CavePartyModel", "pieces", "()I"⟩, 25), (⟨"CavePartyModel", "reached", "(II)I"⟩, 25), (⟨"CavePartyModel", "degree", "(I)I"⟩, 25), (⟨"CavePartyModel", "placeOf", "(I)I"⟩, 25), (⟨"CavePartyModel", "isSmall", "(I)Z"⟩, 25), (⟨"CavePartyModel", "finds", "(II)I"⟩, 25), (⟨"CavePartyModel", "meets", "(III)Z"⟩, 25), (⟨"CavePartyModel", "number", "(I)I"⟩, 25), (⟨"CavePartyModel", "shows", "(II)V"⟩, 25), (⟨"CavePartyModel", "may", "(IIII)Z"⟩, 25), (⟨"CavePartyModel", "hangs", "(I)Z"⟩, 25), (⟨"CavePartyModel", "isSearched", "()Z"⟩, 25), (⟨"CavePartyModel", "cutBehind", "(I)I"⟩, 25), (⟨"CavePartyModel", "cutOf", "(I)I"⟩, 25), (⟨"CavePartyModel", "worst", "(I)I"⟩, 25)]
theorem lw_r3 : ∀ q ∈ lw_privs_3, lw_okq q := List.forall_mem_cons.mpr ⟨lw_p32, List.forall_mem_cons.mpr ⟨lw_p33, List.forall_mem_cons.mpr ⟨lw_p34, List.forall_mem_cons.mpr ⟨lw_p35, List.forall_mem_cons.mpr ⟨lw_p36, List.forall_mem_cons.mpr ⟨lw_p37, List.forall_mem_cons.mpr ⟨lw_p38, List.forall_mem_cons.mpr ⟨lw_p39, List.forall_mem_cons.mpr ⟨lw_p40, List.forall_mem_cons.mpr ⟨lw_p41, List.forall_mem_cons.mpr ⟨lw_p42, List.forall_mem_cons.mpr ⟨lw_p43, List.forall_mem_cons.mpr ⟨lw_p44, List.forall_mem_cons.mpr ⟨lw_p45, List.forall_mem_cons.mpr ⟨lw_p46, List.forall_mem_cons.mpr ⟨lw_p47, fun _ h => absurd h List.not_mem_nil⟩⟩⟩⟩⟩⟩⟩⟩⟩⟩⟩⟩⟩⟩⟩⟩
def lw_privs : List (MethodName × Nat) := lw_privs_1 ++ (lw_privs_2 ++ (lw_privs_3))
def lw_tbl : List Cond := k2_sels lw_privs ++ tables_1
theorem lw_privs_ok : ∀ q ∈ lw_privs, lw_okq q := by
  show ∀ q ∈ lw_privs_1 ++ (lw_privs_2 ++ (lw_privs_3)), lw_okq q
  exact List.forall_mem_append.mpr ⟨lw_r1, List.forall_mem_append.mpr ⟨lw_r2, lw_r3⟩⟩
def RX0 : String := "CaveParty$Finder"
def TX0 : u_T := fun k => match k with
  | 0 => ("CaveParty$Finder", "ground", "LCaveParty$Ground;", true)
  | 1 => ("CaveParty$Finder", "slots", "[I", true)
  | 2 => ("CaveParty$Finder", "stands", "[I", true)
  | 3 => ("CaveParty$Finder", "from", "[I", true)
  | 4 => ("CaveParty$Finder", "orders", "[I", true)
  | 5 => ("CaveParty$Finder", "met", "I", false)
  | 6 => ("CaveParty$Finder", "goal", "I", false)
  | 7 => ("CaveParty$Finder", "law", "I", false)
  | 8 => ("CaveParty$Finder", "most", "I", false)
  | 9 => ("CaveParty$Finder", "head", "I", false)
  | 10 => ("CaveParty$Finder", "below", "I", false)
  | 11 => ("CaveParty$Finder", "lost", "I", false)
  | 12 => ("CaveParty$Finder", "slid", "Z", false)
  | 13 => ("CaveParty$Finder", "guarded", "I", false)
  | _ => ("CaveParty$Finder", "total", "I", false)
def tyX0 : Nat → FieldType := fun k => match k with
  | 0 => .object "CaveParty$Ground"
  | 1 => .array .int
  | 2 => .array .int
  | 3 => .array .int
  | 4 => .array .int
  | 5 => .int
  | 6 => .int
  | 7 => .int
  | 8 => .int
  | 9 => .int
  | 10 => .int
  | 11 => .int
  | 12 => .boolean
  | 13 => .int
  | _ => .int
abbrev wsX00 : List Cond := u_ws RX0 TX0 15
theorem nmX0 : ∀ a, a < 15 → ∀ b, b < 15 → a ≠ b → (TX0 a).2.1 ≠ (TX0 b).2.1 := by decide +kernel
theorem tyX0_ok : ∀ k, k < 15 → parseFieldDescriptor (TX0 k).2.2.1 = some (tyX0 k) := by decide +kernel
abbrev cX0_init : ByteArray := prog_2_method_1_code
def yX0_init : MethodName := ⟨RX0, "<init>", "(LCaveParty$Ground;)V"⟩
abbrev cX0_finds : ByteArray := prog_2_method_2_code
def yX0_finds : MethodName := ⟨RX0, "finds", "(II)Z"⟩
abbrev cX0_wayToGoal : ByteArray := prog_2_method_3_code
def yX0_wayToGoal : MethodName := ⟨RX0, "wayToGoal", "()LCaveParty$Way;"⟩
abbrev cX0_takeUp : ByteArray := prog_2_method_4_code
def yX0_takeUp : MethodName := ⟨RX0, "takeUp", "(I)V"⟩
abbrev cX0_tryPuts : ByteArray := prog_2_method_5_code
def yX0_tryPuts : MethodName := ⟨RX0, "tryPuts", "()V"⟩
abbrev cX0_tryLifts : ByteArray := prog_2_method_6_code
def yX0_tryLifts : MethodName := ⟨RX0, "tryLifts", "()V"⟩
abbrev cX0_trySlides : ByteArray := prog_2_method_7_code
def yX0_trySlides : MethodName := ⟨RX0, "trySlides", "()V"⟩
abbrev cX0_trySlidesFrom : ByteArray := prog_2_method_8_code
def yX0_trySlidesFrom : MethodName := ⟨RX0, "trySlidesFrom", "(I)V"⟩
abbrev cX0_one : ByteArray := prog_2_method_9_code
def yX0_one : MethodName := ⟨RX0, "one", "(I)I"⟩
abbrev cX0_guardedWithout : ByteArray := prog_2_method_10_code
def yX0_guardedWithout : MethodName := ⟨RX0, "guardedWithout", "(I)I"⟩
abbrev cX0_meet : ByteArray := prog_2_method_11_code
def yX0_meet : MethodName := ⟨RX0, "meet", "(IIIIII)V"⟩
abbrev cX0_slotOf : ByteArray := prog_2_method_12_code
def yX0_slotOf : MethodName := ⟨RX0, "slotOf", "(I)I"⟩
def RX1 : String := "CaveParty$Ground"
def TX1 : u_T := fun k => match k with
  | 0 => ("CaveParty$Ground", "caves", "I", false)
  | 1 => ("CaveParty$Ground", "dug", "I", false)
  | 2 => ("CaveParty$Ground", "mouth", "I", false)
  | 3 => ("CaveParty$Ground", "lesser", "[I", true)
  | 4 => ("CaveParty$Ground", "greater", "[I", true)
  | 5 => ("CaveParty$Ground", "at", "[I", true)
  | _ => ("CaveParty$Ground", "next", "[I", true)
def tyX1 : Nat → FieldType := fun k => match k with
  | 0 => .int
  | 1 => .int
  | 2 => .int
  | 3 => .array .int
  | 4 => .array .int
  | 5 => .array .int
  | _ => .array .int
abbrev wsX10 : List Cond := u_ws RX1 TX1 7
theorem nmX1 : ∀ a, a < 7 → ∀ b, b < 7 → a ≠ b → (TX1 a).2.1 ≠ (TX1 b).2.1 := by decide +kernel
theorem tyX1_ok : ∀ k, k < 7 → parseFieldDescriptor (TX1 k).2.2.1 = some (tyX1 k) := by decide +kernel
abbrev cX1_init : ByteArray := prog_3_method_1_code
def yX1_init : MethodName := ⟨RX1, "<init>", "()V"⟩
abbrev cX1_clear : ByteArray := prog_3_method_2_code
def yX1_clear : MethodName := ⟨RX1, "clear", "(I)V"⟩
abbrev cX1_hasCave : ByteArray := prog_3_method_3_code
def yX1_hasCave : MethodName := ⟨RX1, "hasCave", "(I)Z"⟩
abbrev cX1_hasPassage : ByteArray := prog_3_method_4_code
def yX1_hasPassage : MethodName := ⟨RX1, "hasPassage", "(I)Z"⟩
abbrev cX1_leadsFrom : ByteArray := prog_3_method_5_code
def yX1_leadsFrom : MethodName := ⟨RX1, "leadsFrom", "(II)Z"⟩
abbrev cX1_lowestFree : ByteArray := prog_3_method_6_code
def yX1_lowestFree : MethodName := ⟨RX1, "lowestFree", "()I"⟩
abbrev cX1_dig : ByteArray := prog_3_method_7_code
def yX1_dig : MethodName := ⟨RX1, "dig", "(III)V"⟩
abbrev cX1_fillUp : ByteArray := prog_3_method_8_code
def yX1_fillUp : MethodName := ⟨RX1, "fillUp", "(I)V"⟩
abbrev cX1_linkCaves : ByteArray := prog_3_method_9_code
def yX1_linkCaves : MethodName := ⟨RX1, "linkCaves", "()V"⟩
abbrev cX1_allCaves : ByteArray := prog_3_method_10_code
def yX1_allCaves : MethodName := ⟨RX1, "allCaves", "()I"⟩
abbrev cX1_otherEnd : ByteArray := prog_3_method_11_code
def yX1_otherEnd : MethodName := ⟨RX1, "otherEnd", "(II)I"⟩
abbrev cX1_passagesAt : ByteArray := prog_3_method_12_code
def yX1_passagesAt : MethodName := ⟨RX1, "passagesAt", "(I)I"⟩
abbrev cX1_spread : ByteArray := prog_3_method_13_code
def yX1_spread : MethodName := ⟨RX1, "spread", "(II)I"⟩
abbrev cX1_lostBehind : ByteArray := prog_3_method_14_code
def yX1_lostBehind : MethodName := ⟨RX1, "lostBehind", "(IIII)I"⟩
abbrev cX1_allows : ByteArray := prog_3_method_15_code
def yX1_allows : MethodName := ⟨RX1, "allows", "(IIIZ)Z"⟩
abbrev cX1_hangsTogether : ByteArray := prog_3_method_16_code
def yX1_hangsTogether : MethodName := ⟨RX1, "hangsTogether", "(II)Z"⟩
abbrev cX1_parts : ByteArray := prog_3_method_17_code
def yX1_parts : MethodName := ⟨RX1, "parts", "()I"⟩
abbrev cX1_isTree : ByteArray := prog_3_method_18_code
def yX1_isTree : MethodName := ⟨RX1, "isTree", "()Z"⟩
abbrev cX1_cutBetween : ByteArray := prog_3_method_19_code
def yX1_cutBetween : MethodName := ⟨RX1, "cutBetween", "(I)I"⟩
def RX2 : String := "CaveParty$Layout"
def TX2 : u_T := fun k => match k with
  | 0 => ("CaveParty$Layout", "ground", "LCaveParty$Ground;", true)
  | 1 => ("CaveParty$Layout", "row", "[I", true)
  | _ => ("CaveParty$Layout", "worst", "[I", true)
def tyX2 : Nat → FieldType := fun k => match k with
  | 0 => .object "CaveParty$Ground"
  | 1 => .array .int
  | _ => .array .int
abbrev wsX20 : List Cond := u_ws RX2 TX2 3
theorem nmX2 : ∀ a, a < 3 → ∀ b, b < 3 → a ≠ b → (TX2 a).2.1 ≠ (TX2 b).2.1 := by decide +kernel
theorem tyX2_ok : ∀ k, k < 3 → parseFieldDescriptor (TX2 k).2.2.1 = some (tyX2 k) := by decide +kernel
abbrev cX2_init : ByteArray := prog_4_method_1_code
def yX2_init : MethodName := ⟨RX2, "<init>", "(LCaveParty$Ground;)V"⟩
abbrev cX2_reset : ByteArray := prog_4_method_2_code
def yX2_reset : MethodName := ⟨RX2, "reset", "()V"⟩
abbrev cX2_placeOf : ByteArray := prog_4_method_3_code
def yX2_placeOf : MethodName := ⟨RX2, "placeOf", "(I)I"⟩
abbrev cX2_swapIn : ByteArray := prog_4_method_4_code
def yX2_swapIn : MethodName := ⟨RX2, "swapIn", "(II)V"⟩
abbrev cX2_cutBehind : ByteArray := prog_4_method_5_code
def yX2_cutBehind : MethodName := ⟨RX2, "cutBehind", "(I)I"⟩
abbrev cX2_greatestCut : ByteArray := prog_4_method_6_code
def yX2_greatestCut : MethodName := ⟨RX2, "greatestCut", "()I"⟩
abbrev cX2_becomeTheLeast : ByteArray := prog_4_method_7_code
def yX2_becomeTheLeast : MethodName := ⟨RX2, "becomeTheLeast", "()I"⟩
abbrev cX2_leastWorstBehind : ByteArray := prog_4_method_8_code
def yX2_leastWorstBehind : MethodName := ⟨RX2, "leastWorstBehind", "(I)I"⟩
abbrev cX2_firstWithin : ByteArray := prog_4_method_9_code
def yX2_firstWithin : MethodName := ⟨RX2, "firstWithin", "(II)I"⟩
def RX3 : String := "CaveParty$Search"
def TX3 : u_T := fun k => match k with
  | 0 => ("CaveParty$Search", "ground", "LCaveParty$Ground;", true)
  | 1 => ("CaveParty$Search", "now", "LCaveParty$Stand;", true)
  | 2 => ("CaveParty$Search", "done", "I", false)
  | 3 => ("CaveParty$Search", "party", "I", false)
  | 4 => ("CaveParty$Search", "what", "[I", true)
  | 5 => ("CaveParty$Search", "cave", "[I", true)
  | 6 => ("CaveParty$Search", "passage", "[I", true)
  | 7 => ("CaveParty$Search", "lostBefore", "[I", true)
  | _ => ("CaveParty$Search", "partyBefore", "[I", true)
def tyX3 : Nat → FieldType := fun k => match k with
  | 0 => .object "CaveParty$Ground"
  | 1 => .object "CaveParty$Stand"
  | 2 => .int
  | 3 => .int
  | 4 => .array .int
  | 5 => .array .int
  | 6 => .array .int
  | 7 => .array .int
  | _ => .array .int
abbrev wsX30 : List Cond := u_ws RX3 TX3 9
theorem nmX3 : ∀ a, a < 9 → ∀ b, b < 9 → a ≠ b → (TX3 a).2.1 ≠ (TX3 b).2.1 := by decide +kernel
theorem tyX3_ok : ∀ k, k < 9 → parseFieldDescriptor (TX3 k).2.2.1 = some (tyX3 k) := by decide +kernel
abbrev cX3_init : ByteArray := prog_5_method_1_code
def yX3_init : MethodName := ⟨RX3, "<init>", "(LCaveParty$Ground;)V"⟩
abbrev cX3_begin : ByteArray := prog_5_method_2_code
def yX3_begin : MethodName := ⟨RX3, "begin", "()V"⟩
abbrev cX3_carryOut : ByteArray := prog_5_method_3_code
def yX3_carryOut : MethodName := ⟨RX3, "carryOut", "(III)Z"⟩
abbrev cX3_canBeDone : ByteArray := prog_5_method_4_code
def yX3_canBeDone : MethodName := ⟨RX3, "canBeDone", "(II)Z"⟩
abbrev cX3_takeBack : ByteArray := prog_5_method_5_code
def yX3_takeBack : MethodName := ⟨RX3, "takeBack", "()Z"⟩
abbrev cX3_passagesJustLost : ByteArray := prog_5_method_6_code
def yX3_passagesJustLost : MethodName := ⟨RX3, "passagesJustLost", "()I"⟩
def RX4 : String := "CaveParty$Stand"
def TX4 : u_T := fun k => match k with
  | 0 => ("CaveParty$Stand", "below", "[I", true)
  | 1 => ("CaveParty$Stand", "total", "I", false)
  | 2 => ("CaveParty$Stand", "guarded", "I", false)
  | _ => ("CaveParty$Stand", "lost", "I", false)
def tyX4 : Nat → FieldType := fun k => match k with
  | 0 => .array .int
  | 1 => .int
  | 2 => .int
  | _ => .int
abbrev wsX40 : List Cond := u_ws RX4 TX4 4
theorem nmX4 : ∀ a, a < 4 → ∀ b, b < 4 → a ≠ b → (TX4 a).2.1 ≠ (TX4 b).2.1 := by decide +kernel
theorem tyX4_ok : ∀ k, k < 4 → parseFieldDescriptor (TX4 k).2.2.1 = some (tyX4 k) := by decide +kernel
abbrev cX4_init : ByteArray := prog_6_method_1_code
def yX4_init : MethodName := ⟨RX4, "<init>", "()V"⟩
abbrev cX4_begin : ByteArray := prog_6_method_2_code
def yX4_begin : MethodName := ⟨RX4, "begin", "(LCaveParty$Ground;)V"⟩
abbrev cX4_follow : ByteArray := prog_6_method_3_code
def yX4_follow : MethodName := ⟨RX4, "follow", "(LCaveParty$Ground;III)V"⟩
abbrev cX4_goBack : ByteArray := prog_6_method_4_code
def yX4_goBack : MethodName := ⟨RX4, "goBack", "(LCaveParty$Ground;IIII)V"⟩
abbrev cX4_come : ByteArray := prog_6_method_5_code
def yX4_come : MethodName := ⟨RX4, "come", "(I)V"⟩
abbrev cX4_leave : ByteArray := prog_6_method_6_code
def yX4_leave : MethodName := ⟨RX4, "leave", "(I)V"⟩
def RX5 : String := "CaveParty$Way"
def TX5 : u_T := fun k => match k with
  | _ => ("CaveParty$Way", "orders", "[I", true)
def tyX5 : Nat → FieldType := fun k => match k with
  | _ => .array .int
abbrev wsX50 : List Cond := u_ws RX5 TX5 1
theorem nmX5 : ∀ a, a < 1 → ∀ b, b < 1 → a ≠ b → (TX5 a).2.1 ≠ (TX5 b).2.1 := by decide +kernel
theorem tyX5_ok : ∀ k, k < 1 → parseFieldDescriptor (TX5 k).2.2.1 = some (tyX5 k) := by decide +kernel
abbrev cX5_init : ByteArray := prog_7_method_1_code
def yX5_init : MethodName := ⟨RX5, "<init>", "(I)V"⟩
abbrev cX5_packed : ByteArray := prog_7_method_2_code
def yX5_packed : MethodName := ⟨RX5, "packed", "(III)I"⟩
abbrev cX5_length : ByteArray := prog_7_method_3_code
def yX5_length : MethodName := ⟨RX5, "length", "()I"⟩
abbrev cX5_put : ByteArray := prog_7_method_4_code
def yX5_put : MethodName := ⟨RX5, "put", "(II)V"⟩
abbrev cX5_tell : ByteArray := prog_7_method_5_code
def yX5_tell : MethodName := ⟨RX5, "tell", "(II)I"⟩
def RX6 : String := "CaveParty"
def TX6 : u_T := fun k => match k with
  | 0 => ("CaveParty", "ground", "LCaveParty$Ground;", true)
  | 1 => ("CaveParty", "search", "LCaveParty$Search;", true)
  | 2 => ("CaveParty", "layout", "LCaveParty$Layout;", true)
  | 3 => ("CaveParty", "finder", "LCaveParty$Finder;", true)
  | 4 => ("CaveParty", "replay", "LCaveParty$Stand;", true)
  | _ => ("CaveParty", "way", "LCaveParty$Way;", false)
def tyX6 : Nat → FieldType := fun k => match k with
  | 0 => .object "CaveParty$Ground"
  | 1 => .object "CaveParty$Search"
  | 2 => .object "CaveParty$Layout"
  | 3 => .object "CaveParty$Finder"
  | 4 => .object "CaveParty$Stand"
  | _ => .object "CaveParty$Way"
abbrev wsX60 : List Cond := u_ws RX6 TX6 6
theorem nmX6 : ∀ a, a < 6 → ∀ b, b < 6 → a ≠ b → (TX6 a).2.1 ≠ (TX6 b).2.1 := by decide +kernel
theorem tyX6_ok : ∀ k, k < 6 → parseFieldDescriptor (TX6 k).2.2.1 = some (tyX6 k) := by decide +kernel
abbrev cX6_init : ByteArray := prog_1_method_1_code
def yX6_init : MethodName := ⟨RX6, "<init>", "()V"⟩
abbrev cX6_caves : ByteArray := prog_1_method_2_code
def yX6_caves : MethodName := ⟨RX6, "caves", "(I)Z"⟩
abbrev cX6_passage : ByteArray := prog_1_method_3_code
def yX6_passage : MethodName := ⟨RX6, "passage", "(II)I"⟩
abbrev cX6_drop : ByteArray := prog_1_method_4_code
def yX6_drop : MethodName := ⟨RX6, "drop", "(I)Z"⟩
abbrev cX6_mouth : ByteArray := prog_1_method_5_code
def yX6_mouth : MethodName := ⟨RX6, "mouth", "(I)Z"⟩
abbrev cX6_order : ByteArray := prog_1_method_6_code
def yX6_order : MethodName := ⟨RX6, "order", "(III)I"⟩
abbrev cX6_undo : ByteArray := prog_1_method_7_code
def yX6_undo : MethodName := ⟨RX6, "undo", "()Z"⟩
abbrev cX6_anew : ByteArray := prog_1_method_8_code
def yX6_anew : MethodName := ⟨RX6, "anew", "()V"⟩
abbrev cX6_count : ByteArray := prog_1_method_9_code
def yX6_count : MethodName := ⟨RX6, "count", "(I)I"⟩
abbrev cX6_look : ByteArray := prog_1_method_10_code
def yX6_look : MethodName := ⟨RX6, "look", "(II)I"⟩
abbrev cX6_fewest : ByteArray := prog_1_method_11_code
def yX6_fewest : MethodName := ⟨RX6, "fewest", "(I)I"⟩
abbrev cX6_plan : ByteArray := prog_1_method_12_code
def yX6_plan : MethodName := ⟨RX6, "plan", "(II)I"⟩
abbrev cX6_witness : ByteArray := prog_1_method_13_code
def yX6_witness : MethodName := ⟨RX6, "witness", "(II)I"⟩
abbrev cX6_judge : ByteArray := prog_1_method_14_code
def yX6_judge : MethodName := ⟨RX6, "judge", "(I)I"⟩
abbrev cX6_place : ByteArray := prog_1_method_15_code
def yX6_place : MethodName := ⟨RX6, "place", "(II)Z"⟩
abbrev cX6_cut : ByteArray := prog_1_method_16_code
def yX6_cut : MethodName := ⟨RX6, "cut", "(I)I"⟩
abbrev cX6_width : ByteArray := prog_1_method_17_code
def yX6_width : MethodName := ⟨RX6, "width", "()I"⟩
abbrev cX6_forgetSearchAndPlan : ByteArray := prog_1_method_18_code
def yX6_forgetSearchAndPlan : MethodName := ⟨RX6, "forgetSearchAndPlan", "()V"⟩
abbrev cX6_lookAtCave : ByteArray := prog_1_method_19_code
def yX6_lookAtCave : MethodName := ⟨RX6, "lookAtCave", "(II)I"⟩
abbrev cX6_lookAtPassage : ByteArray := prog_1_method_20_code
def yX6_lookAtPassage : MethodName := ⟨RX6, "lookAtPassage", "(II)I"⟩
abbrev cX6_canBeSolved : ByteArray := prog_1_method_21_code
def yX6_canBeSolved : MethodName := ⟨RX6, "canBeSolved", "(I)Z"⟩
abbrev cX6_isPlanBy : ByteArray := prog_1_method_22_code
def yX6_isPlanBy : MethodName := ⟨RX6, "isPlanBy", "(I)Z"⟩
abbrev cX6_isLaw : ByteArray := prog_1_method_23_code
def yX6_isLaw : MethodName := ⟨RX6, "isLaw", "(I)Z"⟩
def RX7 : String := "CavePartyModel"
def TX7 : u_T := fun k => match k with
  | 0 => ("CavePartyModel", "caves", "I", false)
  | 1 => ("CavePartyModel", "mouth", "I", false)
  | 2 => ("CavePartyModel", "one", "[I", true)
  | 3 => ("CavePartyModel", "two", "[I", true)
  | 4 => ("CavePartyModel", "isThere", "[Z", true)
  | 5 => ("CavePartyModel", "layout", "[I", true)
  | 6 => ("CavePartyModel", "men", "[I", true)
  | 7 => ("CavePartyModel", "lostCaves", "I", false)
  | 8 => ("CavePartyModel", "lostPassages", "I", false)
  | 9 => ("CavePartyModel", "done", "I", false)
  | 10 => ("CavePartyModel", "what", "[I", true)
  | 11 => ("CavePartyModel", "where", "[I", true)
  | 12 => ("CavePartyModel", "along", "[I", true)
  | 13 => ("CavePartyModel", "stood", "[I", true)
  | 14 => ("CavePartyModel", "caveBits", "[I", true)
  | 15 => ("CavePartyModel", "passageBits", "[I", true)
  | 16 => ("CavePartyModel", "table", "[I", true)
  | 17 => ("CavePartyModel", "met", "[I", true)
  | 18 => ("CavePartyModel", "cameFrom", "[I", true)
  | 19 => ("CavePartyModel", "cameBy", "[I", true)
  | 20 => ("CavePartyModel", "metMany", "I", false)
  | 21 => ("CavePartyModel", "hasSlid", "Z", false)
  | 22 => ("CavePartyModel", "planMany", "I", false)
  | 23 => ("CavePartyModel", "plan", "[I", true)
  | _ => ("CavePartyModel", "ahead", "[I", true)
def tyX7 : Nat → FieldType := fun k => match k with
  | 0 => .int
  | 1 => .int
  | 2 => .array .int
  | 3 => .array .int
  | 4 => .array .boolean
  | 5 => .array .int
  | 6 => .array .int
  | 7 => .int
  | 8 => .int
  | 9 => .int
  | 10 => .array .int
  | 11 => .array .int
  | 12 => .array .int
  | 13 => .array .int
  | 14 => .array .int
  | 15 => .array .int
  | 16 => .array .int
  | 17 => .array .int
  | 18 => .array .int
  | 19 => .array .int
  | 20 => .int
  | 21 => .boolean
  | 22 => .int
  | 23 => .array .int
  | _ => .array .int
abbrev wsX70 : List Cond := u_ws RX7 TX7 25
theorem nmX7 : ∀ a, a < 25 → ∀ b, b < 25 → a ≠ b → (TX7 a).2.1 ≠ (TX7 b).2.1 := by decide +kernel
theorem tyX7_ok : ∀ k, k < 25 → parseFieldDescriptor (TX7 k).2.2.1 = some (tyX7 k) := by decide +kernel
abbrev cX7_init : ByteArray := prog_9_method_1_code
def yX7_init : MethodName := ⟨RX7, "<init>", "()V"⟩
abbrev cX7_isCave : ByteArray := prog_9_method_2_code
def yX7_isCave : MethodName := ⟨RX7, "isCave", "(I)Z"⟩
abbrev cX7_isPassage : ByteArray := prog_9_method_3_code
def yX7_isPassage : MethodName := ⟨RX7, "isPassage", "(I)Z"⟩
abbrev cX7_isAt : ByteArray := prog_9_method_4_code
def yX7_isAt : MethodName := ⟨RX7, "isAt", "(II)Z"⟩
abbrev cX7_other : ByteArray := prog_9_method_5_code
def yX7_other : MethodName := ⟨RX7, "other", "(II)I"⟩
abbrev cX7_passages : ByteArray := prog_9_method_6_code
def yX7_passages : MethodName := ⟨RX7, "passages", "()I"⟩
abbrev cX7_changes : ByteArray := prog_9_method_7_code
def yX7_changes : MethodName := ⟨RX7, "changes", "()V"⟩
abbrev cX7_caves : ByteArray := prog_9_method_8_code
def yX7_caves : MethodName := ⟨RX7, "caves", "(I)Z"⟩
abbrev cX7_passage : ByteArray := prog_9_method_9_code
def yX7_passage : MethodName := ⟨RX7, "passage", "(II)I"⟩
abbrev cX7_drop : ByteArray := prog_9_method_10_code
def yX7_drop : MethodName := ⟨RX7, "drop", "(I)Z"⟩
abbrev cX7_mouth : ByteArray := prog_9_method_11_code
def yX7_mouth : MethodName := ⟨RX7, "mouth", "(I)Z"⟩
abbrev cX7_pieces : ByteArray := prog_9_method_12_code
def yX7_pieces : MethodName := ⟨RX7, "pieces", "()I"⟩
abbrev cX7_reached : ByteArray := prog_9_method_13_code
def yX7_reached : MethodName := ⟨RX7, "reached", "(II)I"⟩
abbrev cX7_begins : ByteArray := prog_9_method_14_code
def yX7_begins : MethodName := ⟨RX7, "begins", "()V"⟩
abbrev cX7_below : ByteArray := prog_9_method_15_code
def yX7_below : MethodName := ⟨RX7, "below", "()I"⟩
abbrev cX7_spreads : ByteArray := prog_9_method_16_code
def yX7_spreads : MethodName := ⟨RX7, "spreads", "()V"⟩
abbrev cX7_settles : ByteArray := prog_9_method_17_code
def yX7_settles : MethodName := ⟨RX7, "settles", "(I)V"⟩
abbrev cX7_does : ByteArray := prog_9_method_18_code
def yX7_does : MethodName := ⟨RX7, "does", "(III)V"⟩
abbrev cX7_isSearched : ByteArray := prog_9_method_19_code
def yX7_isSearched : MethodName := ⟨RX7, "isSearched", "()Z"⟩
abbrev cX7_hangs : ByteArray := prog_9_method_20_code
def yX7_hangs : MethodName := ⟨RX7, "hangs", "(I)Z"⟩
abbrev cX7_keeps : ByteArray := prog_9_method_21_code
def yX7_keeps : MethodName := ⟨RX7, "keeps", "()V"⟩
abbrev cX7_comes : ByteArray := prog_9_method_22_code
def yX7_comes : MethodName := ⟨RX7, "comes", "(I)V"⟩
abbrev cX7_anew : ByteArray := prog_9_method_23_code
def yX7_anew : MethodName := ⟨RX7, "anew", "()V"⟩
abbrev cX7_order : ByteArray := prog_9_method_24_code
def yX7_order : MethodName := ⟨RX7, "order", "(III)I"⟩
abbrev cX7_undo : ByteArray := prog_9_method_25_code
def yX7_undo : MethodName := ⟨RX7, "undo", "()Z"⟩
abbrev cX7_bits : ByteArray := prog_9_method_26_code
def yX7_bits : MethodName := ⟨RX7, "bits", "(I)I"⟩
abbrev cX7_party : ByteArray := prog_9_method_27_code
def yX7_party : MethodName := ⟨RX7, "party", "()I"⟩
abbrev cX7_count : ByteArray := prog_9_method_28_code
def yX7_count : MethodName := ⟨RX7, "count", "(I)I"⟩
abbrev cX7_placeOf : ByteArray := prog_9_method_29_code
def yX7_placeOf : MethodName := ⟨RX7, "placeOf", "(I)I"⟩
abbrev cX7_degree : ByteArray := prog_9_method_30_code
def yX7_degree : MethodName := ⟨RX7, "degree", "(I)I"⟩
abbrev cX7_look : ByteArray := prog_9_method_31_code
def yX7_look : MethodName := ⟨RX7, "look", "(II)I"⟩
abbrev cX7_number : ByteArray := prog_9_method_32_code
def yX7_number : MethodName := ⟨RX7, "number", "(I)I"⟩
abbrev cX7_shows : ByteArray := prog_9_method_33_code
def yX7_shows : MethodName := ⟨RX7, "shows", "(II)V"⟩
abbrev cX7_meets : ByteArray := prog_9_method_34_code
def yX7_meets : MethodName := ⟨RX7, "meets", "(III)Z"⟩
abbrev cX7_may : ByteArray := prog_9_method_35_code
def yX7_may : MethodName := ⟨RX7, "may", "(IIII)Z"⟩
abbrev cX7_finds : ByteArray := prog_9_method_36_code
def yX7_finds : MethodName := ⟨RX7, "finds", "(II)I"⟩
abbrev cX7_isSmall : ByteArray := prog_9_method_37_code
def yX7_isSmall : MethodName := ⟨RX7, "isSmall", "(I)Z"⟩
abbrev cX7_fewest : ByteArray := prog_9_method_38_code
def yX7_fewest : MethodName := ⟨RX7, "fewest", "(I)I"⟩
abbrev cX7_plan : ByteArray := prog_9_method_39_code
def yX7_plan : MethodName := ⟨RX7, "plan", "(II)I"⟩
abbrev cX7_witness : ByteArray := prog_9_method_40_code
def yX7_witness : MethodName := ⟨RX7, "witness", "(II)I"⟩
abbrev cX7_judge : ByteArray := prog_9_method_41_code
def yX7_judge : MethodName := ⟨RX7, "judge", "(I)I"⟩
abbrev cX7_cutOf : ByteArray := prog_9_method_42_code
def yX7_cutOf : MethodName := ⟨RX7, "cutOf", "(I)I"⟩
abbrev cX7_place : ByteArray := prog_9_method_43_code
def yX7_place : MethodName := ⟨RX7, "place", "(II)Z"⟩
abbrev cX7_cutBehind : ByteArray := prog_9_method_44_code
def yX7_cutBehind : MethodName := ⟨RX7, "cutBehind", "(I)I"⟩
abbrev cX7_cut : ByteArray := prog_9_method_45_code
def yX7_cut : MethodName := ⟨RX7, "cut", "(I)I"⟩
abbrev cX7_width : ByteArray := prog_9_method_46_code
def yX7_width : MethodName := ⟨RX7, "width", "()I"⟩
abbrev cX7_worst : ByteArray := prog_9_method_47_code
def yX7_worst : MethodName := ⟨RX7, "worst", "(I)I"⟩
def RJ6 : String := "java/lang/Integer"
abbrev cJ6_bitCount_0f7a4 : ByteArray := prog_10_method_49_code
def yJ6_bitCount_0f7a4 : MethodName := ⟨RJ6, "bitCount", "(I)I"⟩
def RJ9 : String := "java/lang/Math"
abbrev cJ9_max_7cf53 : ByteArray := prog_11_method_65_code
def yJ9_max_7cf53 : MethodName := ⟨RJ9, "max", "(II)I"⟩
abbrev cJ9_min_7cf53 : ByteArray := prog_11_method_69_code
def yJ9_min_7cf53 : MethodName := ⟨RJ9, "min", "(II)I"⟩
def RJ7 : String := "java/util/Arrays"
abbrev cJ7_fill_53178 : ByteArray := prog_12_method_103_code
def yJ7_fill_53178 : MethodName := ⟨RJ7, "fill", "([II)V"⟩
def RL : String := "CavePartyLaw"
abbrev cL_law : ByteArray := code
def yL_law : MethodName := ⟨RL, "law", "([I)Z"⟩
abbrev vwCl : List vw_C := [(RX0, TX0, 15), (RX1, TX1, 7), (RX2, TX2, 3), (RX3, TX3, 9), (RX4, TX4, 4), (RX5, TX5, 1), (RX6, TX6, 6), (RX7, TX7, 25)]
end
section
def nestW : Jvm.Cond → Bool
  | .fieldLinkNest .. => true
  | .methodLinkNest .. => true
  | _ => false
/-- the tables' words that a call hands on -/
def tb_ : List Jvm.Cond := lw_tbl.filter (fun w => goodWord w || nestW w)
abbrev GX : Type := va_G × ClassId × ClassId
abbrev gt_ (g : GX) : List (ClassId × FieldType) := [(g.2.1, .int), (g.2.2, .boolean)]
/-- an unset local -/
abbrev un_ : Value := .float 0
/-- what is known of the locals -/
def LH (nL : Nat) (L : List Value) (ls : Array Slot) : Prop := lv_has ls nL [] ∧ ∀ (i : Nat) (v : Value), L[i]? = some v → v ≠ un_ → v.category = 1 ∧ ls[i]? = some (.val v)
abbrev FX : Type := Program × Launch × Env × State × MethodId × Array Value × List Frame × Method × Code × (Nat → Prop) × (State → Prop)
/-- a method: code, locals, class, answer, name -/
abbrev MT : Type := ByteArray × Nat × String × Option FieldType × String
def Fix (x : FX) (t : MT) (g : GX) : Prop := match x with
  | (p, _, _, s, m, args, _, meth, c, A, _) => p.tables.exec = Jvm.exec ∧ c.code = t.1 ∧ c.maxLocals = t.2.1 ∧ s.vm.findClass t.2.2.1 = some m.cls ∧ (∀ w ∈ tb_, w.before args s = true) ∧ va_K g.1 vwCl (gt_ g) s ∧ (∀ q, s.heap.size ≤ q → A q) ∧ meth.locks = false ∧ meth.sig.returnType = t.2.2.2.1 ∧ meth.name = t.2.2.2.2
/-- from pc, with these locals, this stack, these cells, the frame comes to its end -/
def Go (x : FX) (R : Room) (t : MT) (g : GX) (pc : Nat) (L st : List Value) (M : va_W) (ce sl : Nat) : Prop := match x with
  | (p, l, e, s, m, args, below, meth, c, A, Q) => ∀ (H : Heap) (locs : List Loc) (ls : Array Slot), Fix (p, l, e, s, m, args, below, meth, c, A, Q) t g → LH t.2.1 L ls → va_P g.1 vwCl M H → va_D A M → va_S A s.heap H locs → W p l e R s m args below meth c H locs ce sl Q (F0 m pc ls st)
/-- the locals as the kit's list -/
def prL (L : List Value) : List (Nat × Value) := (List.range L.length).filterMap fun i => match L[i]? with
  | some v => if v = un_ then none else some (i, v)
  | none => none
theorem prL_mem {L : List Value} {q : Nat × Value} : q ∈ prL L ↔ L[q.1]? = some q.2 ∧ q.2 ≠ un_ := by
  obtain ⟨i, v⟩ := q
  unfold prL
  rw [List.mem_filterMap]
  constructor
  · rintro ⟨j, hj, h⟩
    cases hL : L[j]? with
    | none => rw [hL] at h; cases h
    | some w =>
      rw [hL] at h
      dsimp only at h
      by_cases hw : w = un_
      · rw [if_pos hw] at h; cases h
      · rw [if_neg hw] at h
        cases h
        exact ⟨hL, hw⟩
  · rintro ⟨h1, h2⟩
    refine ⟨i, List.mem_range.mpr (List.getElem?_eq_some_iff.mp h1).1, ?_⟩
    dsimp only at h1 h2
    rw [h1]
    dsimp only
    rw [if_neg h2]
theorem LH.has {nL : Nat} {L : List Value} {ls : Array Slot} (h : LH nL L ls) : lv_has ls nL (prL L) := by
  obtain ⟨⟨h1, h2, -⟩, h3⟩ := h
  refine ⟨h1, h2, fun q hq => ?_⟩
  obtain ⟨a, b⟩ := prL_mem.mp hq
  exact (h3 q.1 q.2 a b).2
theorem LH.put {nL : Nat} {L : List Value} {ls ls' : Array Slot} {i : Nat} {v : Value} (h : LH nL L ls) (hc : v.category = 1) (h' : lv_has ls' nL ((i, v) :: (prL L).filter (fun q => !(q.1 == i) && !(q.1 + 1 == i && q.2.category == 2)))) : LH nL (L.set i v) ls' := by
  obtain ⟨g1, g2, g3⟩ := h'
  refine ⟨⟨g1, g2, fun q hq => by cases hq⟩, fun j w hj hw => ?_⟩
  by_cases hji : j = i
  · subst hji
    have hlt : j < L.length := by
      have := (List.getElem?_eq_some_iff.mp hj).1
      rwa [List.length_set] at this
    rw [List.getElem?_set_self hlt] at hj
    cases hj
    exact ⟨hc, g3 (j, v) List.mem_cons_self⟩
  · rw [List.getElem?_set_ne (Ne.symm hji)] at hj
    have hcw := (h.2 j w hj hw).1
    refine ⟨hcw, g3 (j, w) (List.mem_cons_of_mem _ (List.mem_filter.mpr ⟨prL_mem.mpr ⟨hj, hw⟩, ?_⟩))⟩
    simp [hji, hcw]
/-- fewer locals known -/
def LSb : List Value → List Value → Prop
  | [], _ => True
  | a :: l, b :: m => (a = un_ ∨ a = b) ∧ LSb l m
  | a :: l, [] => a = un_ ∧ LSb l []
theorem LSb.at : ∀ {L' L : List Value}, LSb L' L → ∀ (i : Nat) (v : Value), L'[i]? = some v → v ≠ un_ → L[i]? = some v
  | [], _, _, i, v, h, _ => by simp at h
  | a :: l, b :: m, h, 0, v, hv, hne => by
    rw [List.getElem?_cons_zero] at hv ⊢
    cases hv
    rcases h.1 with z | z
    · exact absurd z hne
    · rw [z]
  | a :: l, b :: m, h, i + 1, v, hv, hne => by
    rw [List.getElem?_cons_succ] at hv ⊢
    exact LSb.at h.2 i v hv hne
  | a :: l, [], h, 0, v, hv, hne => by
    rw [List.getElem?_cons_zero] at hv
    cases hv
    exact absurd h.1 hne
  | a :: l, [], h, i + 1, v, hv, hne => by
    rw [List.getElem?_cons_succ] at hv
    exact absurd (LSb.at h.2 i v hv hne) (by rw [List.getElem?_nil]; exact fun z => by cases z)
section G1
variable {x : FX} {R : Room} {t : MT} {g : GX} {pc q : Nat} {L st : List Value} {M : va_W} {ce sl : Nat}
theorem g_weak {L' : List Value} (h : LSb L' L) (k : Go x R t g pc L' st M ce sl) : Go x R t g pc L st M ce sl := by
  obtain ⟨p, l, e, s, m, args, below, meth, c, A, Q⟩ := x
  intro H locs ls F hl hP hD hS
  exact k H locs ls F ⟨hl.1, fun i v hv hne => hl.2 i v (h.at i v hv hne) hne⟩ hP hD hS
theorem g_widen {ce' sl' : Nat} (h1 : ce ≤ ce') (h2 : sl ≤ sl') (k : Go x R t g pc L st M ce' sl') : Go x R t g pc L st M ce sl := by
  obtain ⟨p, l, e, s, m, args, below, meth, c, A, Q⟩ := x
  intro H locs ls F hl hP hD hS
  exact W.widen h1 h2 (k H locs ls F hl hP hD hS)
/-- fewer cells known -/
theorem g_sub {M' : va_W} (is : List Nat) (hn : va_nd is = true) (hs : is.map (fun i => M[i]?) = M'.map some) (k : Go x R t g pc L st M' ce sl) : Go x R t g pc L st M ce sl := by
  obtain ⟨p, l, e, s, m, args, below, meth, c, A, Q⟩ := x
  intro H locs ls F hl hP hD hS
  refine k H locs ls F hl (fun k0 q0 hk => ?_) (hD.sub is hn hs) hS
  have h1 : (is.map (fun i => M[i]?))[k0]? = some (some q0) := by rw [hs, List.getElem?_map, hk]; rfl
  rw [List.getElem?_map] at h1
  cases hi : is[k0]? with
  | none => rw [hi] at h1; cases h1
  | some i => rw [hi] at h1; exact hP i q0 (Option.some.inj h1)
theorem g_iadd {a b : Int32} (hd : decode t.1 pc = .ok (.iadd, 1)) (hq : pc + 1 = q) (k : Go x R t g q L (.int (a + b) :: st) M ce sl) : Go x R t g pc L (.int b :: .int a :: st) M ce sl := by
  subst hq
  obtain ⟨p, l, e, s, m, args, below, meth, c, A, Q⟩ := x
  intro H locs ls F hl hP hD hS
  exact lv_iadd F.1 F.2.1 hd (k H locs ls F hl hP hD hS)
theorem g_isub {a b : Int32} (hd : decode t.1 pc = .ok (.isub, 1)) (hq : pc + 1 = q) (k : Go x R t g q L (.int (a - b) :: st) M ce sl) : Go x R t g pc L (.int b :: .int a :: st) M ce sl := by
  subst hq
  obtain ⟨p, l, e, s, m, args, below, meth, c, A, Q⟩ := x
  intro H locs ls F hl hP hD hS
  exact lv_isub F.1 F.2.1 hd (k H locs ls F hl hP hD hS)
theorem g_imul {a b : Int32} (hd : decode t.1 pc = .ok (.imul, 1)) (hq : pc + 1 = q) (k : Go x R t g q L (.int (a * b) :: st) M ce sl) : Go x R t g pc L (.int b :: .int a :: st) M ce sl := by
  subst hq
  obtain ⟨p, l, e, s, m, args, below, meth, c, A, Q⟩ := x
  intro H locs ls F hl hP hD hS
  exact lv_imul F.1 F.2.1 hd (k H locs ls F hl hP hD hS)
theorem g_iand {a b : Int32} (hd : decode t.1 pc = .ok (.iand, 1)) (hq : pc + 1 = q) (k : Go x R t g q L (.int (a &&& b) :: st) M ce sl) : Go x R t g pc L (.int b :: .int a :: st) M ce sl := by
  subst hq
  obtain ⟨p, l, e, s, m, args, below, meth, c, A, Q⟩ := x
  intro H locs ls F hl hP hD hS
  exact lv_iand F.1 F.2.1 hd (k H locs ls F hl hP hD hS)
theorem g_ior {a b : Int32} (hd : decode t.1 pc = .ok (.ior, 1)) (hq : pc + 1 = q) (k : Go x R t g q L (.int (a ||| b) :: st) M ce sl) : Go x R t g pc L (.int b :: .int a :: st) M ce sl := by
  subst hq
  obtain ⟨p, l, e, s, m, args, below, meth, c, A, Q⟩ := x
  intro H locs ls F hl hP hD hS
  exact lv_ior F.1 F.2.1 hd (k H locs ls F hl hP hD hS)
theorem g_ixor {a b : Int32} (hd : decode t.1 pc = .ok (.ixor, 1)) (hq : pc + 1 = q) (k : Go x R t g q L (.int (a ^^^ b) :: st) M ce sl) : Go x R t g pc L (.int b :: .int a :: st) M ce sl := by
  subst hq
  obtain ⟨p, l, e, s, m, args, below, meth, c, A, Q⟩ := x
  intro H locs ls F hl hP hD hS
  exact lv_ixor F.1 F.2.1 hd (k H locs ls F hl hP hD hS)
theorem g_ishl {a b : Int32} (hd : decode t.1 pc = .ok (.ishl, 1)) (hq : pc + 1 = q) (k : Go x R t g q L (.int (a <<< (b &&& 31)) :: st) M ce sl) : Go x R t g pc L (.int b :: .int a :: st) M ce sl := by
  subst hq
  obtain ⟨p, l, e, s, m, args, below, meth, c, A, Q⟩ := x
  intro H locs ls F hl hP hD hS
  exact lv_ishl F.1 F.2.1 hd (k H locs ls F hl hP hD hS)
theorem g_ishr {a b : Int32} (hd : decode t.1 pc = .ok (.ishr, 1)) (hq : pc + 1 = q) (k : Go x R t g q L (.int (a >>> (b &&& 31)) :: st) M ce sl) : Go x R t g pc L (.int b :: .int a :: st) M ce sl := by
  subst hq
  obtain ⟨p, l, e, s, m, args, below, meth, c, A, Q⟩ := x
  intro H locs ls F hl hP hD hS
  exact lv_ishr F.1 F.2.1 hd (k H locs ls F hl hP hD hS)
theorem g_iushr {a b : Int32} (hd : decode t.1 pc = .ok (.iushr, 1)) (hq : pc + 1 = q) (k : Go x R t g q L (.int (a.toUInt32 >>> (b.toUInt32 &&& Int32.toUInt32 31)).toInt32 :: st) M ce sl) : Go x R t g pc L (.int b :: .int a :: st) M ce sl := by
  subst hq
  obtain ⟨p, l, e, s, m, args, below, meth, c, A, Q⟩ := x
  intro H locs ls F hl hP hD hS
  exact lv_iushr F.1 F.2.1 hd rfl (k H locs ls F hl hP hD hS)
theorem g_idiv {a b : Int32} (hd : decode t.1 pc = .ok (.idiv, 1)) (hq : pc + 1 = q) (hne : ¬ b = 0) (k : Go x R t g q L (.int (a / b) :: st) M ce sl) : Go x R t g pc L (.int b :: .int a :: st) M ce sl := by
  subst hq
  obtain ⟨p, l, e, s, m, args, below, meth, c, A, Q⟩ := x
  intro H locs ls F hl hP hD hS
  exact lv_idiv F.1 F.2.1 hd hne (k H locs ls F hl hP hD hS)
theorem g_irem {a b : Int32} (hd : decode t.1 pc = .ok (.irem, 1)) (hq : pc + 1 = q) (hne : ¬ b = 0) (k : Go x R t g q L (.int (a - a / b * b) :: st) M ce sl) : Go x R t g pc L (.int b :: .int a :: st) M ce sl := by
  subst hq
  obtain ⟨p, l, e, s, m, args, below, meth, c, A, Q⟩ := x
  intro H locs ls F hl hP hD hS
  exact lv_irem F.1 F.2.1 hd hne (k H locs ls F hl hP hD hS)
theorem g_iconst {n : Int} {v : Int32} (hd : decode t.1 pc = .ok (.iconst n, 1)) (hq : pc + 1 = q) (hv : Int32.ofInt n = v) (k : Go x R t g q L (.int v :: st) M ce sl) : Go x R t g pc L (st) M ce sl := by
  subst hq
  obtain ⟨p, l, e, s, m, args, below, meth, c, A, Q⟩ := x
  intro H locs ls F hl hP hD hS
  exact lv_iconst F.1 F.2.1 hd hv (k H locs ls F hl hP hD hS)
theorem g_bipush {n : Int} {v : Int32} (hd : decode t.1 pc = .ok (.bipush n, 2)) (hq : pc + 2 = q) (hv : (Int8.ofInt n).toInt32 = v) (k : Go x R t g q L (.int v :: st) M ce sl) : Go x R t g pc L (st) M ce sl := by
  subst hq
  obtain ⟨p, l, e, s, m, args, below, meth, c, A, Q⟩ := x
  intro H locs ls F hl hP hD hS
  exact lv_bipush F.1 F.2.1 hd hv (k H locs ls F hl hP hD hS)
theorem g_sipush {n : Int} {v : Int32} (hd : decode t.1 pc = .ok (.sipush n, 3)) (hq : pc + 3 = q) (hv : (Int16.ofInt n).toInt32 = v) (k : Go x R t g q L (.int v :: st) M ce sl) : Go x R t g pc L (st) M ce sl := by
  subst hq
  obtain ⟨p, l, e, s, m, args, below, meth, c, A, Q⟩ := x
  intro H locs ls F hl hP hD hS
  exact lv_sipush F.1 F.2.1 hd hv (k H locs ls F hl hP hD hS)
theorem g_ldc {i : Nat} {v : Int32} (hd : decode t.1 pc = .ok (.ldc i, 2)) (hq : pc + 2 = q) (hw : Jvm.Cond.constant t.2.2.1 i v ∈ tb_) (k : Go x R t g q L (.int v :: st) M ce sl) : Go x R t g pc L (st) M ce sl := by
  subst hq
  obtain ⟨p, l, e, s, m, args, below, meth, c, A, Q⟩ := x
  intro H locs ls F hl hP hD hS
  exact lv_ldc F.1 F.2.1 F.2.2.2.1 (F.2.2.2.2.1 _ hw) hd (k H locs ls F hl hP hD hS)
theorem g_ldcw {i : Nat} {v : Int32} (hd : decode t.1 pc = .ok (.ldc_w i, 3)) (hq : pc + 3 = q) (hw : Jvm.Cond.constant t.2.2.1 i v ∈ tb_) (k : Go x R t g q L (.int v :: st) M ce sl) : Go x R t g pc L (st) M ce sl := by
  subst hq
  obtain ⟨p, l, e, s, m, args, below, meth, c, A, Q⟩ := x
  intro H locs ls F hl hP hD hS
  exact lv_ldcw F.1 F.2.1 F.2.2.2.1 (F.2.2.2.2.1 _ hw) hd (k H locs ls F hl hP hD hS)
theorem g_iload_n {n : Fin 4} {i : Nat} {a : Int32} (hd : decode t.1 pc = .ok (.iload_n n, 1)) (hq : pc + 1 = q) (hi : (n : Nat) = i) (hv : L[i]? = some (.int a)) (k : Go x R t g q L (.int a :: st) M ce sl) : Go x R t g pc L (st) M ce sl := by
  subst hq
  obtain ⟨p, l, e, s, m, args, below, meth, c, A, Q⟩ := x
  intro H locs ls F hl hP hD hS
  exact lv_iload_n F.1 F.2.1 hd hi (hl.2 _ _ hv (fun z => by cases z)).2 (k H locs ls F hl hP hD hS)
theorem g_iload {i : Nat} {a : Int32} (hd : decode t.1 pc = .ok (.iload i, 2)) (hq : pc + 2 = q) (hv : L[i]? = some (.int a)) (k : Go x R t g q L (.int a :: st) M ce sl) : Go x R t g pc L (st) M ce sl := by
  subst hq
  obtain ⟨p, l, e, s, m, args, below, meth, c, A, Q⟩ := x
  intro H locs ls F hl hP hD hS
  exact lv_iload F.1 F.2.1 hd (hl.2 _ _ hv (fun z => by cases z)).2 (k H locs ls F hl hP hD hS)
theorem g_aload_n {n : Fin 4} {i : Nat} {a : Nat} (hd : decode t.1 pc = .ok (.aload_n n, 1)) (hq : pc + 1 = q) (hi : (n : Nat) = i) (hv : L[i]? = some (.ref a)) (k : Go x R t g q L (.ref a :: st) M ce sl) : Go x R t g pc L (st) M ce sl := by
  subst hq
  obtain ⟨p, l, e, s, m, args, below, meth, c, A, Q⟩ := x
  intro H locs ls F hl hP hD hS
  exact lv_aload_n F.1 F.2.1 hd hi (hl.2 _ _ hv (fun z => by cases z)).2 (k H locs ls F hl hP hD hS)
theorem g_aload {i : Nat} {a : Nat} (hd : decode t.1 pc = .ok (.aload i, 2)) (hq : pc + 2 = q) (hv : L[i]? = some (.ref a)) (k : Go x R t g q L (.ref a :: st) M ce sl) : Go x R t g pc L (st) M ce sl := by
  subst hq
  obtain ⟨p, l, e, s, m, args, below, meth, c, A, Q⟩ := x
  intro H locs ls F hl hP hD hS
  exact lv_aload F.1 F.2.1 hd (hl.2 _ _ hv (fun z => by cases z)).2 (k H locs ls F hl hP hD hS)
theorem g_dup {v : Value} (hd : decode t.1 pc = .ok (.dup, 1)) (hq : pc + 1 = q) (hc : v.category = 1) (k : Go x R t g q L (v :: v :: st) M ce sl) : Go x R t g pc L (v :: st) M ce sl := by
  subst hq
  obtain ⟨p, l, e, s, m, args, below, meth, c, A, Q⟩ := x
  intro H locs ls F hl hP hD hS
  exact lv_dup F.1 F.2.1 hd hc (k H locs ls F hl hP hD hS)
theorem g_dup2 {v w : Value} (hd : decode t.1 pc = .ok (.dup2, 1)) (hq : pc + 1 = q) (hc : v.category = 1) (hc2 : w.category = 1) (k : Go x R t g q L (v :: w :: v :: w :: st) M ce sl) : Go x R t g pc L (v :: w :: st) M ce sl := by
  subst hq
  obtain ⟨p, l, e, s, m, args, below, meth, c, A, Q⟩ := x
  intro H locs ls F hl hP hD hS
  exact lv_dup2_11 F.1 F.2.1 hd hc hc2 (k H locs ls F hl hP hD hS)
theorem g_pop {v : Value} (hd : decode t.1 pc = .ok (.pop, 1)) (hq : pc + 1 = q) (hc : v.category = 1) (k : Go x R t g q L (st) M ce sl) : Go x R t g pc L (v :: st) M ce sl := by
  subst hq
  obtain ⟨p, l, e, s, m, args, below, meth, c, A, Q⟩ := x
  intro H locs ls F hl hP hD hS
  exact lv_pop F.1 F.2.1 hd hc (k H locs ls F hl hP hD hS)
theorem g_null  (hd : decode t.1 pc = .ok (.aconst_null, 1)) (hq : pc + 1 = q) (k : Go x R t g q L (.null :: st) M ce sl) : Go x R t g pc L (st) M ce sl := by
  subst hq
  obtain ⟨p, l, e, s, m, args, below, meth, c, A, Q⟩ := x
  intro H locs ls F hl hP hD hS
  exact lv_null F.1 F.2.1 hd (k H locs ls F hl hP hD hS)
theorem g_istore_n {n : Fin 4} {i : Nat} {a : Int32} {L' : List Value} (hd : decode t.1 pc = .ok (.istore_n n, 1)) (hq : pc + 1 = q) (hi : (n : Nat) = i) (hn : i < t.2.1) (hL : L.set i (.int a) = L') (k : Go x R t g q L' st M ce sl) : Go x R t g pc L (.int a :: st) M ce sl := by
  subst hq
  subst hL
  obtain ⟨p, l, e, s, m, args, below, meth, c, A, Q⟩ := x
  intro H locs ls F hl hP hD hS
  exact lv_istore_n F.1 F.2.1 hd hi hl.has hn rfl (fun ls2 h2 => k H locs ls2 F (hl.put rfl h2) hP hD hS)
theorem g_istore {i : Nat} {a : Int32} {L' : List Value} (hd : decode t.1 pc = .ok (.istore i, 2)) (hq : pc + 2 = q) (hn : i < t.2.1) (hL : L.set i (.int a) = L') (k : Go x R t g q L' st M ce sl) : Go x R t g pc L (.int a :: st) M ce sl := by
  subst hq
  subst hL
  obtain ⟨p, l, e, s, m, args, below, meth, c, A, Q⟩ := x
  intro H locs ls F hl hP hD hS
  exact lv_istore F.1 F.2.1 hd hl.has hn rfl (fun ls2 h2 => k H locs ls2 F (hl.put rfl h2) hP hD hS)
theorem g_astore_n {n : Fin 4} {i : Nat} {a : Nat} {L' : List Value} (hd : decode t.1 pc = .ok (.astore_n n, 1)) (hq : pc + 1 = q) (hi : (n : Nat) = i) (hn : i < t.2.1) (hL : L.set i (.ref a) = L') (k : Go x R t g q L' st M ce sl) : Go x R t g pc L (.ref a :: st) M ce sl := by
  subst hq
  subst hL
  obtain ⟨p, l, e, s, m, args, below, meth, c, A, Q⟩ := x
  intro H locs ls F hl hP hD hS
  exact lv_astore_n F.1 F.2.1 hd hi hl.has hn rfl (fun ls2 h2 => k H locs ls2 F (hl.put rfl h2) hP hD hS)
theorem g_iinc {i : Nat} {n : Int} {a b : Int32} {L' : List Value} (hd : decode t.1 pc = .ok (.iinc i n, 3)) (hq : pc + 3 = q) (hv : L[i]? = some (.int a)) (hb : a + Int32.ofInt n = b) (hn : i < t.2.1) (hL : L.set i (.int b) = L') (k : Go x R t g q L' st M ce sl) : Go x R t g pc L st M ce sl := by
  subst hq
  subst hL
  obtain ⟨p, l, e, s, m, args, below, meth, c, A, Q⟩ := x
  intro H locs ls F hl hP hD hS
  obtain ⟨k0, hk0⟩ := List.getElem?_of_mem (prL_mem.mpr (⟨hv, fun z => by cases z⟩ : L[((i, Value.int a) : Nat × Value).1]? = some (i, Value.int a).2 ∧ (i, Value.int a).2 ≠ un_))
  exact lv_iinc F.1 F.2.1 hd hl.has hk0 hb hn rfl (fun ls2 h2 => k H locs ls2 F (hl.put rfl h2) hP hD hS)
theorem g_goto {o : Int} (hd : decode t.1 pc = .ok (.goto o, 3)) (hq : (pc : Int) + o = (q : Int)) (k : Go x R t g q L st M ce sl) : Go x R t g pc L st M ce sl := by
  obtain ⟨p, l, e, s, m, args, below, meth, c, A, Q⟩ := x
  intro H locs ls F hl hP hD hS
  exact lv_goto F.1 F.2.1 hd hq (k H locs ls F hl hP hD hS)
theorem g_if_eq {a : Int32} {o : Int} {r : Nat} (hd : decode t.1 pc = .ok (.ifCond .eq o, 3)) (hr : (pc : Int) + o = (r : Int)) (hq : pc + 3 = q) (kt : a = 0 → Go x R t g r L st M ce sl) (kf : ¬ a = 0 → Go x R t g q L st M ce sl) : Go x R t g pc L (.int a :: st) M ce sl := by
  subst hq
  obtain ⟨p, l, e, s, m, args, below, meth, c, A, Q⟩ := x
  intro H locs ls F hl hP hD hS
  exact lv_if_eq F.1 F.2.1 hd hr (fun z => kt z H locs ls F hl hP hD hS) (fun z => kf z H locs ls F hl hP hD hS)
theorem g_icmp_eq {a b : Int32} {o : Int} {r : Nat} (hd : decode t.1 pc = .ok (.if_icmp .eq o, 3)) (hr : (pc : Int) + o = (r : Int)) (hq : pc + 3 = q) (kt : a = b → Go x R t g r L st M ce sl) (kf : ¬ a = b → Go x R t g q L st M ce sl) : Go x R t g pc L (.int b :: .int a :: st) M ce sl := by
  subst hq
  obtain ⟨p, l, e, s, m, args, below, meth, c, A, Q⟩ := x
  intro H locs ls F hl hP hD hS
  exact lv_icmp_eq F.1 F.2.1 hd hr (fun z => kt z H locs ls F hl hP hD hS) (fun z => kf z H locs ls F hl hP hD hS)
theorem g_if_ne {a : Int32} {o : Int} {r : Nat} (hd : decode t.1 pc = .ok (.ifCond .ne o, 3)) (hr : (pc : Int) + o = (r : Int)) (hq : pc + 3 = q) (kt : ¬ a = 0 → Go x R t g r L st M ce sl) (kf : a = 0 → Go x R t g q L st M ce sl) : Go x R t g pc L (.int a :: st) M ce sl := by
  subst hq
  obtain ⟨p, l, e, s, m, args, below, meth, c, A, Q⟩ := x
  intro H locs ls F hl hP hD hS
  exact lv_if_ne F.1 F.2.1 hd hr (fun z => kt z H locs ls F hl hP hD hS) (fun z => kf z H locs ls F hl hP hD hS)
theorem g_icmp_ne {a b : Int32} {o : Int} {r : Nat} (hd : decode t.1 pc = .ok (.if_icmp .ne o, 3)) (hr : (pc : Int) + o = (r : Int)) (hq : pc + 3 = q) (kt : ¬ a = b → Go x R t g r L st M ce sl) (kf : a = b → Go x R t g q L st M ce sl) : Go x R t g pc L (.int b :: .int a :: st) M ce sl := by
  subst hq
  obtain ⟨p, l, e, s, m, args, below, meth, c, A, Q⟩ := x
  intro H locs ls F hl hP hD hS
  exact lv_icmp_ne F.1 F.2.1 hd hr (fun z => kt z H locs ls F hl hP hD hS) (fun z => kf z H locs ls F hl hP hD hS)
theorem g_if_lt {a : Int32} {o : Int} {r : Nat} (hd : decode t.1 pc = .ok (.ifCond .lt o, 3)) (hr : (pc : Int) + o = (r : Int)) (hq : pc + 3 = q) (kt : a < 0 → Go x R t g r L st M ce sl) (kf : ¬ a < 0 → Go x R t g q L st M ce sl) : Go x R t g pc L (.int a :: st) M ce sl := by
  subst hq
  obtain ⟨p, l, e, s, m, args, below, meth, c, A, Q⟩ := x
  intro H locs ls F hl hP hD hS
  exact lv_if_lt F.1 F.2.1 hd hr (fun z => kt z H locs ls F hl hP hD hS) (fun z => kf z H locs ls F hl hP hD hS)
theorem g_icmp_lt {a b : Int32} {o : Int} {r : Nat} (hd : decode t.1 pc = .ok (.if_icmp .lt o, 3)) (hr : (pc : Int) + o = (r : Int)) (hq : pc + 3 = q) (kt : a < b → Go x R t g r L st M ce sl) (kf : ¬ a < b → Go x R t g q L st M ce sl) : Go x R t g pc L (.int b :: .int a :: st) M ce sl := by
  subst hq
  obtain ⟨p, l, e, s, m, args, below, meth, c, A, Q⟩ := x
  intro H locs ls F hl hP hD hS
  exact lv_icmp_lt F.1 F.2.1 hd hr (fun z => kt z H locs ls F hl hP hD hS) (fun z => kf z H locs ls F hl hP hD hS)
theorem g_if_ge {a : Int32} {o : Int} {r : Nat} (hd : decode t.1 pc = .ok (.ifCond .ge o, 3)) (hr : (pc : Int) + o = (r : Int)) (hq : pc + 3 = q) (kt : 0 ≤ a → Go x R t g r L st M ce sl) (kf : ¬ 0 ≤ a → Go x R t g q L st M ce sl) : Go x R t g pc L (.int a :: st) M ce sl := by
  subst hq
  obtain ⟨p, l, e, s, m, args, below, meth, c, A, Q⟩ := x
  intro H locs ls F hl hP hD hS
  exact lv_if_ge F.1 F.2.1 hd hr (fun z => kt z H locs ls F hl hP hD hS) (fun z => kf z H locs ls F hl hP hD hS)
theorem g_icmp_ge {a b : Int32} {o : Int} {r : Nat} (hd : decode t.1 pc = .ok (.if_icmp .ge o, 3)) (hr : (pc : Int) + o = (r : Int)) (hq : pc + 3 = q) (kt : b ≤ a → Go x R t g r L st M ce sl) (kf : ¬ b ≤ a → Go x R t g q L st M ce sl) : Go x R t g pc L (.int b :: .int a :: st) M ce sl := by
  subst hq
  obtain ⟨p, l, e, s, m, args, below, meth, c, A, Q⟩ := x
  intro H locs ls F hl hP hD hS
  exact lv_icmp_ge F.1 F.2.1 hd hr (fun z => kt z H locs ls F hl hP hD hS) (fun z => kf z H locs ls F hl hP hD hS)
theorem g_if_gt {a : Int32} {o : Int} {r : Nat} (hd : decode t.1 pc = .ok (.ifCond .gt o, 3)) (hr : (pc : Int) + o = (r : Int)) (hq : pc + 3 = q) (kt : 0 < a → Go x R t g r L st M ce sl) (kf : ¬ 0 < a → Go x R t g q L st M ce sl) : Go x R t g pc L (.int a :: st) M ce sl := by
  subst hq
  obtain ⟨p, l, e, s, m, args, below, meth, c, A, Q⟩ := x
  intro H locs ls F hl hP hD hS
  exact lv_if_gt F.1 F.2.1 hd hr (fun z => kt z H locs ls F hl hP hD hS) (fun z => kf z H locs ls F hl hP hD hS)
theorem g_icmp_gt {a b : Int32} {o : Int} {r : Nat} (hd : decode t.1 pc = .ok (.if_icmp .gt o, 3)) (hr : (pc : Int) + o = (r : Int)) (hq : pc + 3 = q) (kt : b < a → Go x R t g r L st M ce sl) (kf : ¬ b < a → Go x R t g q L st M ce sl) : Go x R t g pc L (.int b :: .int a :: st) M ce sl := by
  subst hq
  obtain ⟨p, l, e, s, m, args, below, meth, c, A, Q⟩ := x
  intro H locs ls F hl hP hD hS
  exact lv_icmp_gt F.1 F.2.1 hd hr (fun z => kt z H locs ls F hl hP hD hS) (fun z => kf z H locs ls F hl hP hD hS)
theorem g_if_le {a : Int32} {o : Int} {r : Nat} (hd : decode t.1 pc = .ok (.ifCond .le o, 3)) (hr : (pc : Int) + o = (r : Int)) (hq : pc + 3 = q) (kt : a ≤ 0 → Go x R t g r L st M ce sl) (kf : ¬ a ≤ 0 → Go x R t g q L st M ce sl) : Go x R t g pc L (.int a :: st) M ce sl := by
  subst hq
  obtain ⟨p, l, e, s, m, args, below, meth, c, A, Q⟩ := x
  intro H locs ls F hl hP hD hS
  exact lv_if_le F.1 F.2.1 hd hr (fun z => kt z H locs ls F hl hP hD hS) (fun z => kf z H locs ls F hl hP hD hS)
theorem g_icmp_le {a b : Int32} {o : Int} {r : Nat} (hd : decode t.1 pc = .ok (.if_icmp .le o, 3)) (hr : (pc : Int) + o = (r : Int)) (hq : pc + 3 = q) (kt : a ≤ b → Go x R t g r L st M ce sl) (kf : ¬ a ≤ b → Go x R t g q L st M ce sl) : Go x R t g pc L (.int b :: .int a :: st) M ce sl := by
  subst hq
  obtain ⟨p, l, e, s, m, args, below, meth, c, A, Q⟩ := x
  intro H locs ls F hl hP hD hS
  exact lv_icmp_le F.1 F.2.1 hd hr (fun z => kt z H locs ls F hl hP hD hS) (fun z => kf z H locs ls F hl hP hD hS)
theorem g_nonnull {a : Nat} {o : Int} (hd : decode t.1 pc = .ok (.ifnonnull o, 3)) (hq : (pc : Int) + o = (q : Int)) (k : Go x R t g q L st M ce sl) : Go x R t g pc L (.ref a :: st) M ce sl := by
  obtain ⟨p, l, e, s, m, args, below, meth, c, A, Q⟩ := x
  intro H locs ls F hl hP hD hS
  exact lv_ifnonnull F.1 F.2.1 hd hq (k H locs ls F hl hP hD hS)
theorem g_nonnullN {o : Int} (hd : decode t.1 pc = .ok (.ifnonnull o, 3)) (hq : pc + 3 = q) (k : Go x R t g q L st M ce sl) : Go x R t g pc L (.null :: st) M ce sl := by
  subst hq
  obtain ⟨p, l, e, s, m, args, below, meth, c, A, Q⟩ := x
  intro H locs ls F hl hP hD hS
  exact lv_ifnonnullN F.1 F.2.1 hd (k H locs ls F hl hP hD hS)
theorem g_swOut {d lo hi : Int} {offs : Array Int} {len : Nat} {a : Int32} (hd : decode t.1 pc = .ok (.tableswitch d lo hi offs, len)) (h : a.toInt < lo ∨ hi < a.toInt) (hq : (pc : Int) + d = (q : Int)) (k : Go x R t g q L st M ce sl) : Go x R t g pc L (.int a :: st) M ce sl := by
  obtain ⟨p, l, e, s, m, args, below, meth, c, A, Q⟩ := x
  intro H locs ls F hl hP hD hS
  exact lv_tableOut F.1 F.2.1 hd h hq (k H locs ls F hl hP hD hS)
theorem g_swIn {d lo hi off : Int} {offs : Array Int} {len : Nat} {a : Int32} (hd : decode t.1 pc = .ok (.tableswitch d lo hi offs, len)) (h1 : ¬ a.toInt < lo) (h2 : ¬ hi < a.toInt) (ho : offs[(a.toInt - lo).toNat]? = some off) (hq : (pc : Int) + off = (q : Int)) (k : Go x R t g q L st M ce sl) : Go x R t g pc L (.int a :: st) M ce sl := by
  obtain ⟨p, l, e, s, m, args, below, meth, c, A, Q⟩ := x
  intro H locs ls F hl hP hD hS
  exact lv_tableIn F.1 F.2.1 hd h1 h2 ho hq (k H locs ls F hl hP hD hS)
/-- a field by its link: class ci, place fi -/
def FO (own : String) (i ci fi : Nat) : Prop := ∃ (C : String) (T : u_T) (N : Nat), vwCl[ci]? = some (C, T, N) ∧ fi < N ∧ (∀ w ∈ u_ws C T N, w ∈ tb_) ∧ (Jvm.Cond.fieldLink own i (T fi).1 (T fi).2.1 (T fi).2.2.1 ∈ tb_ ∨ ∃ host, Jvm.Cond.fieldLinkNest own i (T fi).1 (T fi).2.1 (T fi).2.2.1 host ∈ tb_)
/-- the same, to write it: its type; fin: final, in its class's own constructor -/
def FP (own nm : String) (i ci fi : Nat) (ty : FieldType) : Prop := ∃ (C : String) (T : u_T) (N : Nat) (ty0 : Nat → FieldType), vwCl[ci]? = some (C, T, N) ∧ fi < N ∧ (∀ w ∈ u_ws C T N, w ∈ tb_) ∧ (∀ k, k < N → parseFieldDescriptor (T k).2.2.1 = some (ty0 k)) ∧ (∀ a, a < N → ∀ b, b < N → a ≠ b → (T a).2.1 ≠ (T b).2.1) ∧ parseFieldDescriptor (T fi).2.2.1 = some ty ∧
  (((T fi).2.2.2 = false ∧ (Jvm.Cond.fieldLink own i (T fi).1 (T fi).2.1 (T fi).2.2.1 ∈ tb_ ∨ ∃ host, Jvm.Cond.fieldLinkNest own i (T fi).1 (T fi).2.1 (T fi).2.2.1 host ∈ tb_)) ∨ ((T fi).2.2.2 = true ∧ nm = "<init>" ∧ (T fi).1 = own ∧ Jvm.Cond.fieldLink own i (T fi).1 (T fi).2.1 (T fi).2.2.1 ∈ tb_))
theorem g_get {i ci fi a : Nat} {fs : List Value} {v : Value} (hd : decode t.1 pc = .ok (.getfield i, 3)) (hq : pc + 3 = q) (hw : FO t.2.2.1 i ci fi) (k0 : Nat) (hM : M[k0]? = some (a, .inr (ci, fs))) (hv : fs[fi]? = some v) (k : Go x R t g q L (v :: st) M ce sl) : Go x R t g pc L (.ref a :: st) M ce sl := by
  subst hq
  obtain ⟨p, l, e, s, m, args, below, meth, c, A, Q⟩ := x
  intro H locs ls F hl hP hD hS
  obtain ⟨C, T, N, h1, h2, h3, h4⟩ := hw
  obtain ⟨f1, f2, f3, f4, f5, f6, f7, f8⟩ := id F
  rcases h4 with h4 | ⟨host, h4⟩
  · exact va_get f1 f2 f5 h3 f4 f6 hP k0 hM h1 fi h2 (f5 _ h4) (fun _ h => h) hv hd (k H locs ls F hl hP hD hS)
  · exact va_getN f1 f2 f5 h3 f4 f6 hP k0 hM h1 fi h2 (f5 _ h4) (fun _ h => h) hv hd (k H locs ls F hl hP hD hS)
theorem g_put {i ci fi a : Nat} {fs : List Value} {v : Value} {ty : FieldType} {M' : va_W} (hd : decode t.1 pc = .ok (.putfield i, 3)) (hq : pc + 3 = q) (hw : FP t.2.2.1 t.2.2.2.2 i ci fi ty) (k0 : Nat) (hM : M[k0]? = some (a, .inr (ci, fs))) (hn : narrow ty v = v) (hf : fits ty v = true) (hlen : fi < fs.length) (hM' : M.set k0 (a, .inr (ci, fs.set fi v)) = M') (k : Go x R t g q L st M' ce sl) : Go x R t g pc L (v :: .ref a :: st) M ce sl := by
  subst hq
  subst hM'
  obtain ⟨p, l, e, s, m, args, below, meth, c, A, Q⟩ := x
  intro H locs ls F hl hP hD hS
  obtain ⟨C, T, N, ty0, h1, h2, h3, h4, h5, h6, h7⟩ := hw
  obtain ⟨f1, f2, f3, f4, f5, f6, f7, f8, f9, f10⟩ := id F
  rcases h7 with ⟨h7, h8 | ⟨host, h8⟩⟩ | ⟨h7, h9, h10, h8⟩
  · exact va_put f1 f2 f5 h3 ty0 h4 h5 f4 f6 hP hD hS k0 hM h1 fi h2 (f5 _ h8) (fun _ h => h) h7 h6 hn hf hlen hd (fun H2 locs2 hP2 hD2 hS2 => k H2 locs2 ls F hl hP2 hD2 hS2)
  · exact va_putN f1 f2 f5 h3 ty0 h4 h5 f4 f6 hP hD hS k0 hM h1 fi h2 (f5 _ h8) (fun _ h => h) h7 h6 hn hf hlen hd (fun H2 locs2 hP2 hD2 hS2 => k H2 locs2 ls F hl hP2 hD2 hS2)
  · exact va_putF f1 f2 f5 h3 ty0 h4 h5 f4 f6 hP hD hS k0 hM h1 fi h2 (f5 _ h8) (fun _ h => h) h7 (f10.trans h9) h10 h6 hn hf hlen hd (fun H2 locs2 hP2 hD2 hS2 => k H2 locs2 ls F hl hP2 hD2 hS2)
/-- a place of an array -/
abbrev ib (i : Int32) (n : Nat) : Prop := ¬ (i < 0 ∨ n ≤ i.toNatClampNeg)
theorem g_iald {a n : Nat} {f : Nat → Int32} {i : Int32} (hd : decode t.1 pc = .ok (.iaload, 1)) (hq : pc + 1 = q) (k0 : Nat) (hM : M[k0]? = some (a, .inl (g.2.1, n, .inl f))) (hin : ib i n) (k : Go x R t g q L (.int (f i.toNatClampNeg) :: st) M ce sl) : Go x R t g pc L (.int i :: .ref a :: st) M ce sl := by
  subst hq
  obtain ⟨p, l, e, s, m, args, below, meth, c, A, Q⟩ := x
  intro H locs ls F hl hP hD hS
  exact va_iald F.1 F.2.1 F.2.2.2.2.2.1 hP k0 0 hM rfl hin hd (k H locs ls F hl hP hD hS)
theorem g_zald {a n : Nat} {f : Nat → Int32} {i : Int32} (hd : decode t.1 pc = .ok (.baload, 1)) (hq : pc + 1 = q) (k0 : Nat) (hM : M[k0]? = some (a, .inl (g.2.2, n, .inl f))) (hin : ib i n) (k : Go x R t g q L (.int (f i.toNatClampNeg) :: st) M ce sl) : Go x R t g pc L (.int i :: .ref a :: st) M ce sl := by
  subst hq
  obtain ⟨p, l, e, s, m, args, below, meth, c, A, Q⟩ := x
  intro H locs ls F hl hP hD hS
  exact va_zald F.1 F.2.1 F.2.2.2.2.2.1 hP k0 1 hM rfl hin hd (k H locs ls F hl hP hD hS)
theorem g_iast {a n : Nat} {f : Nat → Int32} {i v : Int32} {M' : va_W} (hd : decode t.1 pc = .ok (.iastore, 1)) (hq : pc + 1 = q) (k0 : Nat) (hM : M[k0]? = some (a, .inl (g.2.1, n, .inl f))) (hin : ib i n) (hM' : M.set k0 (a, .inl (g.2.1, n, .inl (upd f i.toNatClampNeg v))) = M') (k : Go x R t g q L st M' ce sl) : Go x R t g pc L (.int v :: .int i :: .ref a :: st) M ce sl := by
  subst hq
  subst hM'
  obtain ⟨p, l, e, s, m, args, below, meth, c, A, Q⟩ := x
  intro H locs ls F hl hP hD hS
  exact va_iast F.1 F.2.1 F.2.2.2.2.2.1 hP hD hS k0 0 hM rfl hin hd (fun H2 locs2 hP2 hD2 hS2 => k H2 locs2 ls F hl hP2 hD2 hS2)
theorem g_zast {a n : Nat} {f : Nat → Int32} {i v w : Int32} {M' : va_W} (hd : decode t.1 pc = .ok (.bastore, 1)) (hq : pc + 1 = q) (k0 : Nat) (hM : M[k0]? = some (a, .inl (g.2.2, n, .inl f))) (hin : ib i n) (hw : vp_nar .boolean v = w) (hM' : M.set k0 (a, .inl (g.2.2, n, .inl (upd f i.toNatClampNeg w))) = M') (k : Go x R t g q L st M' ce sl) : Go x R t g pc L (.int v :: .int i :: .ref a :: st) M ce sl := by
  subst hq
  subst hM'
  subst hw
  obtain ⟨p, l, e, s, m, args, below, meth, c, A, Q⟩ := x
  intro H locs ls F hl hP hD hS
  exact va_zast F.1 F.2.1 F.2.2.2.2.2.1 hP hD hS k0 1 hM rfl hin hd (fun H2 locs2 hP2 hD2 hS2 => k H2 locs2 ls F hl hP2 hD2 hS2)
theorem g_alen {a n : Nat} {f : Nat → Int32} {v : Int32} (hd : decode t.1 pc = .ok (.arraylength, 1)) (hq : pc + 1 = q) (k0 : Nat) (hM : M[k0]? = some (a, .inl (g.2.1, n, .inl f))) (hv : Int32.ofNat n = v) (k : Go x R t g q L (.int v :: st) M ce sl) : Go x R t g pc L (.ref a :: st) M ce sl := by
  subst hq
  obtain ⟨p, l, e, s, m, args, below, meth, c, A, Q⟩ := x
  intro H locs ls F hl hP hD hS
  exact va_alen F.1 F.2.1 F.2.2.2.2.2.1 hP k0 0 hM rfl hv hd (k H locs ls F hl hP hD hS)
end G1
end
section
theorem wm_all {s : State} {args : Array Value} (hts : ∀ w ∈ tb_, w.before args s = true) : ∀ w ∈ tb_, ∀ (a' : Array Value) (U : State), s.WarmedH U.vm → w.before a' U = true := by
  intro w hw a' U hW
  have h1 := (List.mem_filter.mp hw).2
  rw [Bool.or_eq_true] at h1
  rcases h1 with h1 | h1
  · exact word_at hW (good_of_word h1) (hts w hw)
  · cases w <;> first
      | (simp [nestW] at h1; done)
      | exact va_Nw.use rfl (va_Nw.warmF hW (va_Nw.of rfl (hts _ hw)))
      | exact va_Nw.use rfl (va_Nw.warmM hW (va_Nw.of rfl (hts _ hw)))
/-- the end of a method: its answer and its cells as Post says, nothing else changed -/
def CQ (g : GX) (M : va_W) (Post : Option Value → va_W → Prop) : Array Value → State → Outcome → State → Prop := fun _ st oc t =>
  (∃ (r : Option Value) (M' : va_W), oc = .returned r ∧ Post r M' ∧ va_P g.1 vwCl M' t.heap ∧ va_D (va_A M st.heap.size) M') ∧ va_F (va_A M st.heap.size) st t
abbrev wsC (y : MethodName) (t : MT) : List Jvm.Cond := Jvm.Cond.code y t.1 t.2.1 t.2.2.2.1 :: tb_
/-- a method's contract: from the cells M, with these arguments, it comes to Post -/
def Ct (l : Launch) (g : GX) (y : MethodName) (t : MT) (fr lo nc ns : Nat) (as : List Value) (M : va_W) (Post : Option Value → va_W → Prop) : Prop :=
  ∀ sz : Nat, Met l y (wsC y t) ({ frames := fr, cells := nc, slots := ns, locals := lo }) (va_Pc as (fun U => U.heap.size = sz ∧ va_P g.1 vwCl M U.heap ∧ va_K g.1 vwCl (gt_ g) U ∧ va_D (fun _ => True) M)) (CQ g M Post) nc ns (va_A M sz)
/-- a frame whose end is a contract's -/
def RX (x : FX) (g : GX) (M0 : va_W) (Post : Option Value → va_W → Prop) (nc ns : Nat) : Prop := match x with
  | (_, _, _, s, _, args, below, _, _, A, Q) => A = va_A M0 s.heap.size ∧ Q = MQ below (CQ g M0 Post) args s nc ns (va_A M0 s.heap.size)
theorem argsIn : ∀ (as : List Value) (i0 : Nat), (∀ v ∈ as, v.category = 1) → ∀ (i : Nat) (v : Value), as[i]? = some v → (i0 + i, v) ∈ lv_args i0 as
  | [], _, _, i, v, h => by simp at h
  | a :: as, i0, hc, 0, v, h => by
    rw [List.getElem?_cons_zero] at h
    cases h
    unfold lv_args
    first | exact List.mem_cons_self | (simp)
  | a :: as, i0, hc, i + 1, v, h => by
    rw [List.getElem?_cons_succ] at h
    have ha : a.category = 1 := hc a List.mem_cons_self
    have h1 := argsIn as (i0 + 1) (fun w hw => hc w (List.mem_cons_of_mem _ hw)) i v h
    rw [show i0 + 1 + i = i0 + (i + 1) by omega] at h1
    unfold lv_args
    simp only [ha]
    exact List.mem_cons_of_mem _ h1
theorem lenSl (as : List Value) (hc : ∀ v ∈ as, v.category = 1) : (lg_sl as).length = as.length := by
  induction as with
  | nil => rfl
  | cons a as ih =>
    have ha : a.category = 1 := hc a List.mem_cons_self
    have h2 := ih (fun w hw => hc w (List.mem_cons_of_mem _ hw))
    simp only [lg_sl, List.flatMap_cons, ha] at h2 ⊢
    simp only [List.length_append, List.length_cons]
    simp [h2, Nat.add_comm]
theorem Ct.of {l : Launch} {g : GX} {y : MethodName} {t : MT} {fr lo nc ns : Nat} {as : List Value} {M : va_W} {Post : Option Value → va_W → Prop} (hy : plainName y.cls = true) (ho : t.2.2.1 = y.cls) (hm : t.2.2.2.2 = y.name) (hc : as.all (fun v => v.category == 1) = true) (hle : as.length ≤ t.2.1) {L : List Value} (hL : as ++ List.replicate (t.2.1 - as.length) un_ = L)
    (h : ∀ x : FX, x.2.1 = l → RX x g M Post nc ns → Go x { frames := fr, cells := nc, slots := ns, locals := lo } t g 0 L [] M 0 0) : Ct l g y t fr lo nc ns as M Post := by
  intro sz
  have hc' : ∀ v ∈ as, v.category = 1 := fun v hv => by simpa using List.all_eq_true.mp hc v hv
  refine Met.ofW (cc := t.1) (maxL := t.2.1) (ret := t.2.2.2.1) hy rfl ?_
  intro p e s m args below meth c s₁ B hml hv
  obtain ⟨rfl, hsz, hP, hK, hD0⟩ := hv
  have hts := atoms_spec (ws := wsC y t) B.pre
  have hown : s.vm.findClass y.cls = some m.cls := findClass_of_methodNamed B.named
  have hin : meth.name = y.name := (name_of_methodNamed B.named B.method).1
  subst hsz
  have hD := hD0.self (sz := s.heap.size)
  have hl := lv_entry as (n := t.2.1) (by rw [lenSl as hc']; exact hle)
  rw [lg_entry_eq]
  refine h (p, l, e, s, m, as.toArray, below, meth, c, va_A M s.heap.size, MQ below (CQ g M Post) as.toArray s nc ns (va_A M s.heap.size)) rfl ⟨rfl, rfl⟩ s.heap [] _ ⟨B.exec, B.bytes, hml, by rw [ho]; exact hown, fun w hw => hts w (List.mem_cons_of_mem _ hw), hK, fun q hq => Or.inr hq, B.notSynchronized, B.returns, by rw [hin, hm]⟩ ?_ hP hD va_S.rf
  refine ⟨⟨hl.1, hl.2.1, fun q hq => by cases hq⟩, fun i v hi hne => ?_⟩
  subst hL
  by_cases hlt : i < as.length
  · rw [List.getElem?_append_left hlt] at hi
    refine ⟨hc' v (List.mem_of_getElem? hi), ?_⟩
    have h2 := argsIn as 0 hc' i v hi
    rw [Nat.zero_add] at h2
    exact hl.2.2 (i, v) h2
  · rw [List.getElem?_append_right (by omega)] at hi
    exact absurd (List.eq_of_mem_replicate (List.mem_of_getElem? hi)) hne
section G2
variable {x : FX} {R : Room} {t : MT} {g : GX} {pc q : Nat} {L st : List Value} {M M0 : va_W} {ce sl nc ns : Nat} {Post : Option Value → va_W → Prop}
theorem g_iret {v : Int32} {ty : FieldType} (hX : RX x g M0 Post nc ns) (hd : decode t.1 pc = .ok (.ireturn, 1)) (ht : t.2.2.2.1 = some ty) (hn : narrow ty (.int v) = .int v) (h1 : ce ≤ nc) (h2 : sl ≤ ns) (hPo : Post (some (.int v)) M) : Go x R t g pc L [.int v] M ce sl := by
  obtain ⟨p, l, e, s, m, args, below, meth, c, A, Q⟩ := x
  intro H locs ls F hl hP hD hS
  obtain ⟨rfl, rfl⟩ := hX
  obtain ⟨f1, f2, f3, f4, f5, f6, f7, f8, f9, f10⟩ := F
  refine W.widen h1 h2 ?_
  exact W.zret f1 f2 (f9.trans ht) hn (fun u hu hW => ⟨⟨_, M, rfl, hPo, by rw [hu]; exact hP, hD⟩, hS.F hu⟩) hS.2.2 hd f8
theorem g_vret (hX : RX x g M0 Post nc ns) (hd : decode t.1 pc = .ok (.return_, 1)) (ht : t.2.2.2.1 = none) (h1 : ce ≤ nc) (h2 : sl ≤ ns) (hPo : Post none M) : Go x R t g pc L [] M ce sl := by
  obtain ⟨p, l, e, s, m, args, below, meth, c, A, Q⟩ := x
  intro H locs ls F hl hP hD hS
  obtain ⟨rfl, rfl⟩ := hX
  obtain ⟨f1, f2, f3, f4, f5, f6, f7, f8, f9, f10⟩ := F
  refine W.widen h1 h2 ?_
  exact W.vret f1 f2 (f9.trans ht) (fun u hu hW => ⟨⟨_, M, rfl, hPo, by rw [hu]; exact hP, hD⟩, hS.F hu⟩) hS.2.2 hd f8
theorem g_aret {a : Nat} {C : String} (hX : RX x g M0 Post nc ns) (hd : decode t.1 pc = .ok (.areturn, 1)) (ht : t.2.2.2.1 = some (.object C)) (h1 : ce ≤ nc) (h2 : sl ≤ ns) (hPo : Post (some (.ref a)) M) : Go x R t g pc L [.ref a] M ce sl := by
  obtain ⟨p, l, e, s, m, args, below, meth, c, A, Q⟩ := x
  intro H locs ls F hl hP hD hS
  obtain ⟨rfl, rfl⟩ := hX
  obtain ⟨f1, f2, f3, f4, f5, f6, f7, f8, f9, f10⟩ := F
  refine W.widen h1 h2 ?_
  exact W.aret f1 f2 (f9.trans ht) (Or.inl ⟨_, rfl⟩) (Or.inr ⟨_, rfl⟩) (fun u hu hW => ⟨⟨_, M, rfl, hPo, by rw [hu]; exact hP, hD⟩, hS.F hu⟩) hS.2.2 hd f8
end G2
/-- behind a call -/
theorem callC {p : Program} {l : Launch} {e : Env} {R : Room} {s : State} {m : MethodId} {args : Array Value} {below : List Frame} {meth : Method} {c : Code} {H : Heap} {locs : List Loc} {ce sl : Nat} {Q : State → Prop} {pc : Nat} {ls : Array Slot} {rest st0 : List Value} {a : Array Value} {A : Nat → Prop} {H0 : Heap} {mc ms : Nat} {g : GX} {M : va_W} {Post : Option Value → va_W → Prop}
    (hr : va_Run p l e R s m args below meth c H locs ce sl mc ms (F0 m pc ls st0) rest (CQ g M Post a) (va_A M H.size)) (hS : va_S A H0 H locs) (hD : va_D A M) (hA : ∀ q, H0.size ≤ q → A q)
    (kk : ∀ (r : Option Value) (M' : va_W) (H1 : Heap) (locs1 : List Loc), Post r M' → va_P g.1 vwCl M' H1 → va_D A M' → va_S A H0 H1 locs1 → W p l e R s m args below meth c H1 locs1 (ce + mc) (sl + ms) Q (F0 m (pc + 3) ls (r.toList ++ rest))) : W p l e R s m args below meth c H locs ce sl Q (F0 m pc ls st0) := by
  have hAA : ∀ q, va_A M H.size q → A q := by
    intro q h
    rcases h with ⟨k, e, h⟩ | h
    · exact hD.2 k (q, e) h
    · exact hA q (Nat.le_trans hS.1 h)
  intro T hT X
  obtain ⟨v, st₀, t, T', L, h0, X', hL, e1, e2, ⟨⟨r, M', hv, hp, hP1, hD1⟩, hz, hk⟩, st⟩ := hr T hT X
  cases hv
  rw [h0] at hz hk hD1
  obtain ⟨t2, a1, b1⟩ := kk v M' T'.heap (locs ++ L) hp (by rw [e1]; exact hP1) (hD1.weaken (fun _ z _ h => hAA z.1 h))
    ⟨Nat.le_trans hS.1 (by rw [e1]; exact hz), fun q h1 h2 => by rw [e1, hk q (Nat.lt_of_lt_of_le h1 hS.1) (fun z => h2 (hAA q z))]; exact hS.2.1 q h1 h2, fun q hq => by
      rcases List.mem_append.mp hq with h | h
      · exact hS.2.2 q h
      · exact hAA _ (hL q h)⟩ T' rfl X'
  exact ⟨t2, st t2 a1, b1⟩
theorem preOk {g : GX} {M : va_W} {s : State} {H : Heap} {as : List Value} {A : Nat → Prop} (hP : va_P g.1 vwCl M H) (hD : va_D A M) (hK : va_K g.1 vwCl (gt_ g) s) : PreS s H (va_Pc as (fun U => U.heap.size = H.size ∧ va_P g.1 vwCl M U.heap ∧ va_K g.1 vwCl (gt_ g) U ∧ va_D (fun _ => True) M)) as :=
  ⟨fun a U gg mk q => by obtain ⟨q0, q1, qP, qK, qD⟩ := q; exact ⟨q0, q1, qP, va_K.moved (u := U) (U := U.calling gg mk a) (Vm.Alike.refl U.vm) qK, qD⟩, fun U hU hW => ⟨rfl, by rw [hU], by rw [hU]; exact hP, va_K.moved hW.alike hK, hD.weaken (fun _ _ _ _ => trivial)⟩⟩
/-- what a call needs of the tables: the method's own words -/
def MW (y : MethodName) (t : MT) (n : Nat) : Prop := (Jvm.Cond.code y t.1 t.2.1 t.2.2.2.1 ∈ tb_ ∧ Jvm.Cond.initialized y.cls ∈ tb_) ∧ (y.cls ≠ "java/lang/invoke/MethodHandle" ∧ y.cls ≠ "java/lang/invoke/VarHandle" ∧ (parseMethodDescriptor y.desc).map (fun d => d.parameters.length) = some n)
theorem mwB {R : Room} {s : State} {args : Array Value} {own : String} {i : Nat} {y : MethodName} {t : MT} {n fr lo nc ns : Nat} (hts : ∀ w ∈ tb_, w.before args s = true) (hm : MW y t n) (hl : Jvm.Cond.methodLink own i y ∈ tb_) (hR : fr + 1 ≤ R.frames ∧ 8 + (t.2.1 + 11) + lo ≤ R.locals) :
    CallB R s args own i y t.1 t.2.1 t.2.2.2.1 (wsC y t) { frames := fr, cells := nc, slots := ns, locals := lo } nc ns n := by
  obtain ⟨⟨h1, h2⟩, h3, h4, h5⟩ := hm
  refine ⟨rfl, rfl, hR.1, hR.2, fun w hw => ?_, List.mem_cons_self, hts _ h1, hts _ h2, ⟨h3, h4⟩, fun sig h => ?_, hts _ hl⟩
  · rcases List.mem_cons.mp hw with rfl | hw
    · exact wm_all hts _ h1
    · exact wm_all hts _ hw
  · rw [h] at h5
    exact (Option.some.inj h5).symm
theorem mwN {R : Room} {s : State} {args : Array Value} {own host : String} {i : Nat} {y : MethodName} {t : MT} {n fr lo nc ns : Nat} (hts : ∀ w ∈ tb_, w.before args s = true) (hm : MW y t n) (hl : Jvm.Cond.methodLinkNest own i y host ∈ tb_) (hR : fr + 1 ≤ R.frames ∧ 8 + (t.2.1 + 11) + lo ≤ R.locals) :
    va_CN R s args own i y host t.1 t.2.1 t.2.2.2.1 (wsC y t) { frames := fr, cells := nc, slots := ns, locals := lo } nc ns n := by
  obtain ⟨⟨h1, h2⟩, h3, h4, h5⟩ := hm
  refine ⟨⟨rfl, rfl, hR.1, hR.2, fun w hw => ?_, List.mem_cons_self⟩, hts _ h1, hts _ h2, ⟨h3, h4⟩, fun sig h => ?_, hts _ hl⟩
  · rcases List.mem_cons.mp hw with rfl | hw
    · exact wm_all hts _ h1
    · exact wm_all hts _ hw
  · rw [h] at h5
    exact (Option.some.inj h5).symm
section G3
variable {x : FX} {R : Room} {t : MT} {g : GX} {pc q : Nat} {L st : List Value} {M : va_W} {ce sl : Nat} {Post' : Option Value → va_W → Prop} {y : MethodName} {t' : MT} {fr' lo' nc' ns' n i b ci : Nat} {as rest : List Value} {fs : List Value}
/-- a virtual call's words -/
def CV (own : String) (i : Nat) (y : MethodName) (t : MT) (n : Nat) : Prop := MW y t n ∧ Jvm.Cond.methodLink own i y ∈ tb_ ∧ Jvm.Cond.instanceMethod y ∈ tb_ ∧ Jvm.Cond.selects y.cls y y ∈ tb_
theorem g_callV (hd : decode t.1 pc = .ok (.invokevirtual i, 3)) (hq : pc + 3 = q) (hw : CV t.2.2.1 i y t' n) (hC : Ct x.2.1 g y t' fr' lo' nc' ns' (.ref b :: as) M Post') (hst : as.reverse ++ .ref b :: rest = st) (hn : as.length = n) (hR : fr' + 1 ≤ R.frames ∧ 8 + (t'.2.1 + 11) + lo' ≤ R.locals) (hcs : ce + nc' ≤ R.cells ∧ sl + ns' ≤ R.slots) (hcat : (rest.map fun v => v.category).sum ≤ 8) (k0 : Nat) (hM : M[k0]? = some (b, .inr (ci, fs))) (hci : (vwCl[ci]?).map (fun z => z.1) = some y.cls)
    (k : ∀ (r : Option Value) (M' : va_W), Post' r M' → Go x R t g q L (r.toList ++ rest) M' (ce + nc') (sl + ns')) : Go x R t g pc L st M ce sl := by
  subst hq
  subst hst
  obtain ⟨p, l, e, s, m, args, below, meth, c, A, Q⟩ := x
  intro H locs ls F hl hP hD hS
  obtain ⟨f1, f2, f3, f4, f5, f6, f7, f8, f9, f10⟩ := id F
  obtain ⟨w1, w2, w3, w4⟩ := hw
  obtain ⟨z, hz⟩ : ∃ z, vwCl[ci]? = some z := by
    cases hz : vwCl[ci]? with
    | none => rw [hz] at hci; cases hci
    | some z => exact ⟨z, rfl⟩
  have hzc : z.1 = y.cls := by rw [hz] at hci; exact Option.some.inj hci
  have hpr := preOk (as := .ref b :: as) hP hD f6
  refine callC (va_runV ⟨f1, f2, f3, f4, f5⟩ (hC H.size) ⟨mwB f5 w1 w2 hR, f5 _ w3, f5 _ w4⟩ ⟨hpr.1, hzc ▸ va_recv f6 hP hz hM, hpr.2⟩ rfl hn hl.1.1 rfl (lv_room hcat) hd hcs) hS hD f7 (fun r M' H1 locs1 hPo hP1 hD1 hS1 => ?_)
  exact k r M' hPo H1 locs1 ls F hl hP1 hD1 hS1
/-- a static call's words -/
def CS (own : String) (i : Nat) (y : MethodName) (t : MT) (n : Nat) : Prop := MW y t n ∧ Jvm.Cond.methodLink own i y ∈ tb_ ∧ Jvm.Cond.static y ∈ tb_
theorem g_callS (hd : decode t.1 pc = .ok (.invokestatic i, 3)) (hq : pc + 3 = q) (hw : CS t.2.2.1 i y t' n) (hC : Ct x.2.1 g y t' fr' lo' nc' ns' as M Post') (hst : as.reverse ++ rest = st) (hn : as.length = n) (hR : fr' + 1 ≤ R.frames ∧ 8 + (t'.2.1 + 11) + lo' ≤ R.locals) (hcs : ce + nc' ≤ R.cells ∧ sl + ns' ≤ R.slots) (hcat : (rest.map fun v => v.category).sum ≤ 8)
    (k : ∀ (r : Option Value) (M' : va_W), Post' r M' → Go x R t g q L (r.toList ++ rest) M' (ce + nc') (sl + ns')) : Go x R t g pc L st M ce sl := by
  subst hq
  subst hst
  obtain ⟨p, l, e, s, m, args, below, meth, c, A, Q⟩ := x
  intro H locs ls F hl hP hD hS
  obtain ⟨f1, f2, f3, f4, f5, f6, f7, f8, f9, f10⟩ := id F
  obtain ⟨w1, w2, w3⟩ := hw
  have hpr := preOk (as := as) hP hD f6
  refine callC (va_runS ⟨f1, f2, f3, f4, f5⟩ (hC H.size) ⟨mwB f5 w1 w2 hR, f5 _ w3⟩ hpr rfl hn hl.1.1 rfl (lv_room hcat) hd hcs) hS hD f7 (fun r M' H1 locs1 hPo hP1 hD1 hS1 => ?_)
  exact k r M' hPo H1 locs1 ls F hl hP1 hD1 hS1
/-- a constructor's words -/
def CI (own : String) (i : Nat) (y : MethodName) (t : MT) (n : Nat) : Prop := MW y t n ∧ (Jvm.Cond.methodLink own i y ∈ tb_ ∨ ∃ host, Jvm.Cond.methodLinkNest own i y host ∈ tb_) ∧ y.name = "<init>" ∧ Jvm.Cond.instanceMethod y ∈ tb_ ∧ t.2.2.2.1 = none
theorem g_callI (hd : decode t.1 pc = .ok (.invokespecial i, 3)) (hq : pc + 3 = q) (hw : CI t.2.2.1 i y t' n) (hC : Ct x.2.1 g y t' fr' lo' nc' ns' (.ref b :: as) M Post') (hst : as.reverse ++ .ref b :: rest = st) (hn : as.length = n) (hR : fr' + 1 ≤ R.frames ∧ 8 + (t'.2.1 + 11) + lo' ≤ R.locals) (hcs : ce + nc' ≤ R.cells ∧ sl + ns' ≤ R.slots) (hcat : (rest.map fun v => v.category).sum ≤ 8)
    (k : ∀ (r : Option Value) (M' : va_W), Post' r M' → Go x R t g q L (r.toList ++ rest) M' (ce + nc') (sl + ns')) : Go x R t g pc L st M ce sl := by
  subst hq
  subst hst
  obtain ⟨p, l, e, s, m, args, below, meth, c, A, Q⟩ := x
  intro H locs ls F hl hP hD hS
  obtain ⟨f1, f2, f3, f4, f5, f6, f7, f8, f9, f10⟩ := id F
  obtain ⟨w1, w2, w3, w4, w5⟩ := hw
  have hpr := preOk (as := .ref b :: as) hP hD f6
  obtain ⟨tc, tn, to, tr, tm⟩ := t'
  dsimp only at w5
  subst w5
  rcases w2 with w2 | ⟨host, w2⟩
  · refine callC (va_runI ⟨f1, f2, f3, f4, f5⟩ (hC H.size) ⟨mwB f5 w1 w2 hR, w3, f5 _ w4⟩ hpr rfl hn hl.1.1 rfl (lv_room hcat) hd hcs) hS hD f7 (fun r M' H1 locs1 hPo hP1 hD1 hS1 => ?_)
    exact k r M' hPo H1 locs1 ls F hl hP1 hD1 hS1
  · refine callC (va_runIN ⟨f1, f2, f3, f4, f5⟩ (hC H.size) ⟨mwN f5 w1 w2 hR, w3, f5 _ w4⟩ hpr rfl hn hl.1.1 rfl (lv_room hcat) hd hcs) hS hD f7 (fun r M' H1 locs1 hPo hP1 hD1 hS1 => ?_)
    exact k r M' hPo H1 locs1 ls F hl hP1 hD1 hS1
theorem g_objInit {a : Nat} (hd : decode t.1 pc = .ok (.invokespecial i, 3)) (hq : pc + 3 = q) (h1 : Jvm.Cond.methodLink t.2.2.1 i objectInit ∈ tb_) (h2 : Jvm.Cond.instanceMethod objectInit ∈ tb_) (h3 : Jvm.Cond.code objectInit ⟨#[0xb1]⟩ 1 none ∈ tb_) (hf : 1 ≤ R.frames) (hlo : (st.map fun v => v.category).sum + 12 ≤ R.locals) (k : Go x R t g q L st M ce sl) : Go x R t g pc L (.ref a :: st) M ce sl := by
  subst hq
  obtain ⟨p, l, e, s, m, args, below, meth, c, A, Q⟩ := x
  intro H locs ls F hl hP hD hS
  obtain ⟨f1, f2, f3, f4, f5, f6, f7, f8, f9, f10⟩ := id F
  refine W.objInit f1 f2 f4 (f5 _ h1) (f5 _ h2) (f5 _ h3) rfl (by rw [f3]; exact hl.1.1) rfl hd hf ?_ (k H locs ls F hl hP hD hS)
  show 2 * 0 + (st.map fun v => v.category).sum + 12 ≤ R.locals
  omega
/-- a class that is made: its words, its fields at birth -/
def NW (own : String) (i ci N : Nat) (fs : List Value) : Prop := ∃ (C : String) (T : u_T) (ty : Nat → FieldType), vwCl[ci]? = some (C, T, N) ∧ (∀ w ∈ u_ws C T N, w ∈ tb_) ∧ (∀ k, k < N → parseFieldDescriptor (T k).2.2.1 = some (ty k)) ∧ Jvm.Cond.classLink own i C ∈ tb_ ∧ Jvm.Cond.instantiable C N ∈ tb_ ∧ Jvm.Cond.initialized C ∈ tb_ ∧ ∀ j, j < N → defaultValue (ty j) = vp_V fs j
theorem g_new {N : Nat} (hd : decode t.1 pc = .ok (.new i, 3)) (hq : pc + 3 = q) (hw : NW t.2.2.1 i ci N fs) (hc : ce + 1 ≤ R.cells) (hs : sl + N ≤ R.slots) (k : ∀ a : Nat, Go x R t g q L (.ref a :: st) (M ++ [(a, .inr (ci, fs))]) (ce + 1) (sl + N)) : Go x R t g pc L st M ce sl := by
  subst hq
  obtain ⟨p, l, e, s, m, args, below, meth, c, A, Q⟩ := x
  intro H locs ls F hl hP hD hS
  obtain ⟨f1, f2, f3, f4, f5, f6, f7, f8, f9, f10⟩ := id F
  obtain ⟨C, T, ty, h1, h2, h3, h4, h5, h6, h7⟩ := hw
  exact va_new f1 f2 f5 h2 ty h3 f4 (f5 _ h4) (f5 _ h5) (f5 _ h6) f6 hP hD hS f7 h1 h7 hc hs hd (fun a H1 hP1 hD1 hS1 => k a H1 locs ls F hl hP1 hD1 hS1)
theorem g_newi {n : Int32} {N : Nat} (hd : decode t.1 pc = .ok (.newarray .int, 2)) (hq : pc + 2 = q) (hw : Jvm.Cond.arrayClass .int ∈ tb_) (hn : ¬ n < 0) (hN : n.toNatClampNeg = N) (hb : N * 4 ≤ 536870912) (hc : ce + 1 ≤ R.cells) (hs : sl + N ≤ R.slots) (k : ∀ a : Nat, Go x R t g q L (.ref a :: st) (M ++ [(a, .inl (g.2.1, N, .inl (fun _ => 0)))]) (ce + 1) (sl + N)) : Go x R t g pc L (.int n :: st) M ce sl := by
  subst hq
  obtain ⟨p, l, e, s, m, args, below, meth, c, A, Q⟩ := x
  intro H locs ls F hl hP hD hS
  obtain ⟨f1, f2, f3, f4, f5, f6, f7, f8, f9, f10⟩ := id F
  refine va_newa (atype := .int) (a0 := (N, .inl (fun _ => 0))) (ty := .int) f1 f2 (f5 _ hw) rfl f6 hP hD hS f7 (fun _ => rfl) hn hN hb hc hs hd (fun a cA H1 hK1 hP1 hD1 hS1 => ?_)
  have e1 : va_RA s cA .int := (hK1.2 2 (cA, .int) rfl).2
  have e2 : va_RA s g.2.1 .int := (hK1.2 0 (g.2.1, .int) rfl).2
  have e3 : cA = g.2.1 := Option.some.inj (e1.symm.trans e2)
  subst e3
  exact k a H1 locs ls F hl hP1 hD1 hS1
theorem g_newz {n : Int32} {N : Nat} (hd : decode t.1 pc = .ok (.newarray .boolean, 2)) (hq : pc + 2 = q) (hw : Jvm.Cond.arrayClass .boolean ∈ tb_) (hn : ¬ n < 0) (hN : n.toNatClampNeg = N) (hb : N * 1 ≤ 536870912) (hc : ce + 1 ≤ R.cells) (hs : sl + N ≤ R.slots) (k : ∀ a : Nat, Go x R t g q L (.ref a :: st) (M ++ [(a, .inl (g.2.2, N, .inl (fun _ => 0)))]) (ce + 1) (sl + N)) : Go x R t g pc L (.int n :: st) M ce sl := by
  subst hq
  obtain ⟨p, l, e, s, m, args, below, meth, c, A, Q⟩ := x
  intro H locs ls F hl hP hD hS
  obtain ⟨f1, f2, f3, f4, f5, f6, f7, f8, f9, f10⟩ := id F
  refine va_newa (atype := .boolean) (a0 := (N, .inl (fun _ => 0))) (ty := .boolean) f1 f2 (f5 _ hw) rfl f6 hP hD hS f7 (fun _ => rfl) hn hN hb hc hs hd (fun a cA H1 hK1 hP1 hD1 hS1 => ?_)
  have e1 : va_RA s cA .boolean := (hK1.2 2 (cA, .boolean) rfl).2
  have e2 : va_RA s g.2.2 .boolean := (hK1.2 1 (g.2.2, .boolean) rfl).2
  have e3 : cA = g.2.2 := Option.some.inj (e1.symm.trans e2)
  subst e3
  exact k a H1 locs ls F hl hP1 hD1 hS1
end G3
end
section
theorem t1_ {w : Jvm.Cond} (i : Nat) (h : tables_1_1[i]? = some w) (hg : (goodWord w || nestW w) = true) : w ∈ tb_ := List.mem_filter.mpr ⟨List.mem_append_right _ (List.mem_append_left _ (List.mem_of_getElem? h)), hg⟩
theorem t2_ {w : Jvm.Cond} (i : Nat) (h : tables_1_2[i]? = some w) (hg : (goodWord w || nestW w) = true) : w ∈ tb_ := List.mem_filter.mpr ⟨List.mem_append_right _ (List.mem_append_right _ (List.mem_append_left _ (List.mem_of_getElem? h))), hg⟩
theorem t3_ {w : Jvm.Cond} (i : Nat) (h : tables_1_3[i]? = some w) (hg : (goodWord w || nestW w) = true) : w ∈ tb_ := List.mem_filter.mpr ⟨List.mem_append_right _ (List.mem_append_right _ (List.mem_append_right _ (List.mem_append_left _ (List.mem_of_getElem? h)))), hg⟩
theorem t4_ {w : Jvm.Cond} (i : Nat) (h : tables_1_4[i]? = some w) (hg : (goodWord w || nestW w) = true) : w ∈ tb_ := List.mem_filter.mpr ⟨List.mem_append_right _ (List.mem_append_right _ (List.mem_append_right _ (List.mem_append_right _ (List.mem_of_getElem? h)))), hg⟩
theorem sm_ {w : Jvm.Cond} (i : Nat) (h : (k2_sels lw_privs)[i]? = some w) (hg : (goodWord w || nestW w) = true) : w ∈ tb_ := List.mem_filter.mpr ⟨List.mem_append_left _ (List.mem_of_getElem? h), hg⟩
theorem inX0 : ∀ w ∈ u_ws RX0 TX0 15, w ∈ tb_ := by
  intro w hw
  obtain ⟨k, hk, rfl⟩ := List.mem_map.mp hw
  have hk := List.mem_range.mp hk
  match k, hk with
  | 0, _ => exact (t1_ 162 rfl rfl)
  | 1, _ => exact (t1_ 164 rfl rfl)
  | 2, _ => exact (t1_ 166 rfl rfl)
  | 3, _ => exact (t1_ 168 rfl rfl)
  | 4, _ => exact (t1_ 170 rfl rfl)
  | 5, _ => exact (t1_ 172 rfl rfl)
  | 6, _ => exact (t1_ 174 rfl rfl)
  | 7, _ => exact (t1_ 176 rfl rfl)
  | 8, _ => exact (t1_ 178 rfl rfl)
  | 9, _ => exact (t1_ 180 rfl rfl)
  | 10, _ => exact (t1_ 182 rfl rfl)
  | 11, _ => exact (t1_ 184 rfl rfl)
  | 12, _ => exact (t1_ 186 rfl rfl)
  | 13, _ => exact (t1_ 188 rfl rfl)
  | 14, _ => exact (t1_ 190 rfl rfl)
  | k + 15, h => exact absurd h (by omega)
theorem inX1 : ∀ w ∈ u_ws RX1 TX1 7, w ∈ tb_ := by
  intro w hw
  obtain ⟨k, hk, rfl⟩ := List.mem_map.mp hw
  have hk := List.mem_range.mp hk
  match k, hk with
  | 0, _ => exact (t1_ 42 rfl rfl)
  | 1, _ => exact (t1_ 44 rfl rfl)
  | 2, _ => exact (t1_ 46 rfl rfl)
  | 3, _ => exact (t1_ 48 rfl rfl)
  | 4, _ => exact (t1_ 50 rfl rfl)
  | 5, _ => exact (t1_ 52 rfl rfl)
  | 6, _ => exact (t1_ 54 rfl rfl)
  | k + 7, h => exact absurd h (by omega)
theorem inX2 : ∀ w ∈ u_ws RX2 TX2 3, w ∈ tb_ := by
  intro w hw
  obtain ⟨k, hk, rfl⟩ := List.mem_map.mp hw
  have hk := List.mem_range.mp hk
  match k, hk with
  | 0, _ => exact (t1_ 133 rfl rfl)
  | 1, _ => exact (t1_ 135 rfl rfl)
  | 2, _ => exact (t1_ 137 rfl rfl)
  | k + 3, h => exact absurd h (by omega)
theorem inX3 : ∀ w ∈ u_ws RX3 TX3 9, w ∈ tb_ := by
  intro w hw
  obtain ⟨k, hk, rfl⟩ := List.mem_map.mp hw
  have hk := List.mem_range.mp hk
  match k, hk with
  | 0, _ => exact (t1_ 105 rfl rfl)
  | 1, _ => exact (t1_ 107 rfl rfl)
  | 2, _ => exact (t1_ 109 rfl rfl)
  | 3, _ => exact (t1_ 111 rfl rfl)
  | 4, _ => exact (t1_ 113 rfl rfl)
  | 5, _ => exact (t1_ 115 rfl rfl)
  | 6, _ => exact (t1_ 117 rfl rfl)
  | 7, _ => exact (t1_ 119 rfl rfl)
  | 8, _ => exact (t1_ 121 rfl rfl)
  | k + 9, h => exact absurd h (by omega)
theorem inX4 : ∀ w ∈ u_ws RX4 TX4 4, w ∈ tb_ := by
  intro w hw
  obtain ⟨k, hk, rfl⟩ := List.mem_map.mp hw
  have hk := List.mem_range.mp hk
  match k, hk with
  | 0, _ => exact (t1_ 81 rfl rfl)
  | 1, _ => exact (t1_ 83 rfl rfl)
  | 2, _ => exact (t1_ 85 rfl rfl)
  | 3, _ => exact (t1_ 87 rfl rfl)
  | k + 4, h => exact absurd h (by omega)
theorem inX5 : ∀ w ∈ u_ws RX5 TX5 1, w ∈ tb_ := by
  intro w hw
  obtain ⟨k, hk, rfl⟩ := List.mem_map.mp hw
  have hk := List.mem_range.mp hk
  match k, hk with
  | 0, _ => exact (t2_ 231 rfl rfl)
  | k + 1, h => exact absurd h (by omega)
theorem inX6 : ∀ w ∈ u_ws RX6 TX6 6, w ∈ tb_ := by
  intro w hw
  obtain ⟨k, hk, rfl⟩ := List.mem_map.mp hw
  have hk := List.mem_range.mp hk
  match k, hk with
  | 0, _ => exact (t1_ 201 rfl rfl)
  | 1, _ => exact (t1_ 203 rfl rfl)
  | 2, _ => exact (t1_ 205 rfl rfl)
  | 3, _ => exact (t1_ 207 rfl rfl)
  | 4, _ => exact (t1_ 209 rfl rfl)
  | 5, _ => exact (t1_ 211 rfl rfl)
  | k + 6, h => exact absurd h (by omega)
theorem inX7 : ∀ w ∈ u_ws RX7 TX7 25, w ∈ tb_ := by
  intro w hw
  obtain ⟨k, hk, rfl⟩ := List.mem_map.mp hw
  have hk := List.mem_range.mp hk
  match k, hk with
  | 0, _ => exact (t3_ 104 rfl rfl)
  | 1, _ => exact (t3_ 106 rfl rfl)
  | 2, _ => exact (t3_ 108 rfl rfl)
  | 3, _ => exact (t3_ 110 rfl rfl)
  | 4, _ => exact (t3_ 112 rfl rfl)
  | 5, _ => exact (t3_ 114 rfl rfl)
  | 6, _ => exact (t3_ 116 rfl rfl)
  | 7, _ => exact (t3_ 118 rfl rfl)
  | 8, _ => exact (t3_ 120 rfl rfl)
  | 9, _ => exact (t3_ 122 rfl rfl)
  | 10, _ => exact (t3_ 124 rfl rfl)
  | 11, _ => exact (t3_ 126 rfl rfl)
  | 12, _ => exact (t3_ 128 rfl rfl)
  | 13, _ => exact (t3_ 130 rfl rfl)
  | 14, _ => exact (t3_ 132 rfl rfl)
  | 15, _ => exact (t3_ 134 rfl rfl)
  | 16, _ => exact (t3_ 136 rfl rfl)
  | 17, _ => exact (t3_ 138 rfl rfl)
  | 18, _ => exact (t3_ 140 rfl rfl)
  | 19, _ => exact (t3_ 142 rfl rfl)
  | 20, _ => exact (t3_ 144 rfl rfl)
  | 21, _ => exact (t3_ 146 rfl rfl)
  | 22, _ => exact (t3_ 148 rfl rfl)
  | 23, _ => exact (t3_ 150 rfl rfl)
  | 24, _ => exact (t3_ 152 rfl rfl)
  | k + 25, h => exact absurd h (by omega)
abbrev tX6_init : MT := (cX6_init, 1, RX6, none, "<init>")
theorem mwX6_init : MW yX6_init tX6_init 0 := ⟨⟨(t1_ 16 rfl rfl), (t1_ 1 rfl rfl)⟩, by decide +kernel⟩
abbrev tX1_init : MT := (cX1_init, 1, RX1, none, "<init>")
theorem mwX1_init : MW yX1_init tX1_init 0 := ⟨⟨(t1_ 24 rfl rfl), (t1_ 2 rfl rfl)⟩, by decide +kernel⟩
abbrev tX3_init : MT := (cX3_init, 2, RX3, none, "<init>")
theorem mwX3_init : MW yX3_init tX3_init 1 := ⟨⟨(t1_ 62 rfl rfl), (t1_ 3 rfl rfl)⟩, by decide +kernel⟩
abbrev tX4_init : MT := (cX4_init, 1, RX4, none, "<init>")
theorem mwX4_init : MW yX4_init tX4_init 0 := ⟨⟨(t1_ 68 rfl rfl), (t1_ 4 rfl rfl)⟩, by decide +kernel⟩
abbrev tX2_init : MT := (cX2_init, 2, RX2, none, "<init>")
theorem mwX2_init : MW yX2_init tX2_init 1 := ⟨⟨(t1_ 128 rfl rfl), (t1_ 5 rfl rfl)⟩, by decide +kernel⟩
abbrev tX0_init : MT := (cX0_init, 2, RX0, none, "<init>")
theorem mwX0_init : MW yX0_init tX0_init 1 := ⟨⟨(t1_ 144 rfl rfl), (t1_ 6 rfl rfl)⟩, by decide +kernel⟩
abbrev tX6_caves : MT := (cX6_caves, 2, RX6, some .boolean, "caves")
theorem mwX6_caves : MW yX6_caves tX6_caves 1 := ⟨⟨(t1_ 217 rfl rfl), (t1_ 1 rfl rfl)⟩, by decide +kernel⟩
abbrev tX1_clear : MT := (cX1_clear, 2, RX1, none, "clear")
theorem mwX1_clear : MW yX1_clear tX1_clear 1 := ⟨⟨(t1_ 221 rfl rfl), (t1_ 2 rfl rfl)⟩, by decide +kernel⟩
abbrev tX1_linkCaves : MT := (cX1_linkCaves, 4, RX1, none, "linkCaves")
theorem mwX1_linkCaves : MW yX1_linkCaves tX1_linkCaves 0 := ⟨⟨(t1_ 225 rfl rfl), (t1_ 2 rfl rfl)⟩, by decide +kernel⟩
abbrev tJ7_fill_53178 : MT := (cJ7_fill_53178, 4, RJ7, none, "fill")
theorem mwJ7_fill_53178 : MW yJ7_fill_53178 tJ7_fill_53178 2 := ⟨⟨(t1_ 228 rfl rfl), (t1_ 8 rfl rfl)⟩, by decide +kernel⟩
abbrev tX1_hasPassage : MT := (cX1_hasPassage, 2, RX1, some .boolean, "hasPassage")
theorem mwX1_hasPassage : MW yX1_hasPassage tX1_hasPassage 1 := ⟨⟨(t1_ 232 rfl rfl), (t1_ 2 rfl rfl)⟩, by decide +kernel⟩
abbrev tX2_reset : MT := (cX2_reset, 2, RX2, none, "reset")
theorem mwX2_reset : MW yX2_reset tX2_reset 0 := ⟨⟨(t1_ 236 rfl rfl), (t1_ 5 rfl rfl)⟩, by decide +kernel⟩
abbrev tX6_forgetSearchAndPlan : MT := (cX6_forgetSearchAndPlan, 1, RX6, none, "forgetSearchAndPlan")
theorem mwX6_forgetSearchAndPlan : MW yX6_forgetSearchAndPlan tX6_forgetSearchAndPlan 0 := ⟨⟨(t2_ 0 rfl rfl), (t1_ 1 rfl rfl)⟩, by decide +kernel⟩
abbrev tX3_begin : MT := (cX3_begin, 1, RX3, none, "begin")
theorem mwX3_begin : MW yX3_begin tX3_begin 0 := ⟨⟨(t2_ 4 rfl rfl), (t1_ 3 rfl rfl)⟩, by decide +kernel⟩
abbrev tX4_begin : MT := (cX4_begin, 2, RX4, none, "begin")
theorem mwX4_begin : MW yX4_begin tX4_begin 1 := ⟨⟨(t2_ 8 rfl rfl), (t1_ 4 rfl rfl)⟩, by decide +kernel⟩
abbrev tX1_allCaves : MT := (cX1_allCaves, 1, RX1, some .int, "allCaves")
theorem mwX1_allCaves : MW yX1_allCaves tX1_allCaves 0 := ⟨⟨(t2_ 13 rfl rfl), (t1_ 2 rfl rfl)⟩, by decide +kernel⟩
abbrev tX6_passage : MT := (cX6_passage, 4, RX6, some .int, "passage")
theorem mwX6_passage : MW yX6_passage tX6_passage 2 := ⟨⟨(t2_ 17 rfl rfl), (t1_ 1 rfl rfl)⟩, by decide +kernel⟩
abbrev tX1_lowestFree : MT := (cX1_lowestFree, 2, RX1, some .int, "lowestFree")
theorem mwX1_lowestFree : MW yX1_lowestFree tX1_lowestFree 0 := ⟨⟨(t2_ 21 rfl rfl), (t1_ 2 rfl rfl)⟩, by decide +kernel⟩
abbrev tX1_hasCave : MT := (cX1_hasCave, 2, RX1, some .boolean, "hasCave")
theorem mwX1_hasCave : MW yX1_hasCave tX1_hasCave 1 := ⟨⟨(t2_ 25 rfl rfl), (t1_ 2 rfl rfl)⟩, by decide +kernel⟩
abbrev tX1_dig : MT := (cX1_dig, 4, RX1, none, "dig")
theorem mwX1_dig : MW yX1_dig tX1_dig 3 := ⟨⟨(t2_ 29 rfl rfl), (t1_ 2 rfl rfl)⟩, by decide +kernel⟩
abbrev tJ9_min_7cf53 : MT := (cJ9_min_7cf53, 2, RJ9, some .int, "min")
theorem mwJ9_min_7cf53 : MW yJ9_min_7cf53 tJ9_min_7cf53 2 := ⟨⟨(t2_ 32 rfl rfl), (t1_ 9 rfl rfl)⟩, by decide +kernel⟩
abbrev tJ9_max_7cf53 : MT := (cJ9_max_7cf53, 2, RJ9, some .int, "max")
theorem mwJ9_max_7cf53 : MW yJ9_max_7cf53 tJ9_max_7cf53 2 := ⟨⟨(t2_ 35 rfl rfl), (t1_ 9 rfl rfl)⟩, by decide +kernel⟩
abbrev tX6_drop : MT := (cX6_drop, 2, RX6, some .boolean, "drop")
theorem mwX6_drop : MW yX6_drop tX6_drop 1 := ⟨⟨(t2_ 39 rfl rfl), (t1_ 1 rfl rfl)⟩, by decide +kernel⟩
abbrev tX1_fillUp : MT := (cX1_fillUp, 2, RX1, none, "fillUp")
theorem mwX1_fillUp : MW yX1_fillUp tX1_fillUp 1 := ⟨⟨(t2_ 44 rfl rfl), (t1_ 2 rfl rfl)⟩, by decide +kernel⟩
abbrev tX6_mouth : MT := (cX6_mouth, 2, RX6, some .boolean, "mouth")
theorem mwX6_mouth : MW yX6_mouth tX6_mouth 1 := ⟨⟨(t2_ 48 rfl rfl), (t1_ 1 rfl rfl)⟩, by decide +kernel⟩
abbrev tX6_order : MT := (cX6_order, 4, RX6, some .int, "order")
theorem mwX6_order : MW yX6_order tX6_order 3 := ⟨⟨(t2_ 52 rfl rfl), (t1_ 1 rfl rfl)⟩, by decide +kernel⟩
abbrev tX1_leadsFrom : MT := (cX1_leadsFrom, 3, RX1, some .boolean, "leadsFrom")
theorem mwX1_leadsFrom : MW yX1_leadsFrom tX1_leadsFrom 2 := ⟨⟨(t2_ 56 rfl rfl), (t1_ 2 rfl rfl)⟩, by decide +kernel⟩
abbrev tX3_carryOut : MT := (cX3_carryOut, 5, RX3, some .boolean, "carryOut")
theorem mwX3_carryOut : MW yX3_carryOut tX3_carryOut 3 := ⟨⟨(t2_ 60 rfl rfl), (t1_ 3 rfl rfl)⟩, by decide +kernel⟩
abbrev tX3_canBeDone : MT := (cX3_canBeDone, 3, RX3, some .boolean, "canBeDone")
theorem mwX3_canBeDone : MW yX3_canBeDone tX3_canBeDone 2 := ⟨⟨(t2_ 64 rfl rfl), (t1_ 3 rfl rfl)⟩, by decide +kernel⟩
abbrev tX4_follow : MT := (cX4_follow, 5, RX4, none, "follow")
theorem mwX4_follow : MW yX4_follow tX4_follow 4 := ⟨⟨(t2_ 68 rfl rfl), (t1_ 4 rfl rfl)⟩, by decide +kernel⟩
abbrev tX4_leave : MT := (cX4_leave, 2, RX4, none, "leave")
theorem mwX4_leave : MW yX4_leave tX4_leave 1 := ⟨⟨(t2_ 72 rfl rfl), (t1_ 4 rfl rfl)⟩, by decide +kernel⟩
abbrev tX4_come : MT := (cX4_come, 2, RX4, none, "come")
theorem mwX4_come : MW yX4_come tX4_come 1 := ⟨⟨(t2_ 76 rfl rfl), (t1_ 4 rfl rfl)⟩, by decide +kernel⟩
abbrev tX1_otherEnd : MT := (cX1_otherEnd, 3, RX1, some .int, "otherEnd")
theorem mwX1_otherEnd : MW yX1_otherEnd tX1_otherEnd 2 := ⟨⟨(t2_ 80 rfl rfl), (t1_ 2 rfl rfl)⟩, by decide +kernel⟩
abbrev tX1_lostBehind : MT := (cX1_lostBehind, 7, RX1, some .int, "lostBehind")
theorem mwX1_lostBehind : MW yX1_lostBehind tX1_lostBehind 4 := ⟨⟨(t2_ 84 rfl rfl), (t1_ 2 rfl rfl)⟩, by decide +kernel⟩
abbrev tX1_passagesAt : MT := (cX1_passagesAt, 4, RX1, some .int, "passagesAt")
theorem mwX1_passagesAt : MW yX1_passagesAt tX1_passagesAt 1 := ⟨⟨(t2_ 88 rfl rfl), (t1_ 2 rfl rfl)⟩, by decide +kernel⟩
abbrev tX1_spread : MT := (cX1_spread, 8, RX1, some .int, "spread")
theorem mwX1_spread : MW yX1_spread tX1_spread 2 := ⟨⟨(t2_ 92 rfl rfl), (t1_ 2 rfl rfl)⟩, by decide +kernel⟩
abbrev tX4_goBack : MT := (cX4_goBack, 6, RX4, none, "goBack")
theorem mwX4_goBack : MW yX4_goBack tX4_goBack 5 := ⟨⟨(t2_ 96 rfl rfl), (t1_ 4 rfl rfl)⟩, by decide +kernel⟩
abbrev tX6_undo : MT := (cX6_undo, 1, RX6, some .boolean, "undo")
theorem mwX6_undo : MW yX6_undo tX6_undo 0 := ⟨⟨(t2_ 101 rfl rfl), (t1_ 1 rfl rfl)⟩, by decide +kernel⟩
abbrev tX3_takeBack : MT := (cX3_takeBack, 2, RX3, some .boolean, "takeBack")
theorem mwX3_takeBack : MW yX3_takeBack tX3_takeBack 0 := ⟨⟨(t2_ 105 rfl rfl), (t1_ 3 rfl rfl)⟩, by decide +kernel⟩
abbrev tX6_anew : MT := (cX6_anew, 1, RX6, none, "anew")
theorem mwX6_anew : MW yX6_anew tX6_anew 0 := ⟨⟨(t2_ 109 rfl rfl), (t1_ 1 rfl rfl)⟩, by decide +kernel⟩
abbrev tX6_count : MT := (cX6_count, 2, RX6, some .int, "count")
theorem mwX6_count : MW yX6_count tX6_count 1 := ⟨⟨(t2_ 113 rfl rfl), (t1_ 1 rfl rfl)⟩, by decide +kernel⟩
abbrev tJ6_bitCount_0f7a4 : MT := (cJ6_bitCount_0f7a4, 1, RJ6, some .int, "bitCount")
theorem mwJ6_bitCount_0f7a4 : MW yJ6_bitCount_0f7a4 tJ6_bitCount_0f7a4 1 := ⟨⟨(t2_ 116 rfl rfl), (t1_ 10 rfl rfl)⟩, by decide +kernel⟩
abbrev tX1_parts : MT := (cX1_parts, 4, RX1, some .int, "parts")
theorem mwX1_parts : MW yX1_parts tX1_parts 0 := ⟨⟨(t2_ 124 rfl rfl), (t1_ 2 rfl rfl)⟩, by decide +kernel⟩
abbrev tX1_isTree : MT := (cX1_isTree, 1, RX1, some .boolean, "isTree")
theorem mwX1_isTree : MW yX1_isTree tX1_isTree 0 := ⟨⟨(t2_ 128 rfl rfl), (t1_ 2 rfl rfl)⟩, by decide +kernel⟩
abbrev tX6_look : MT := (cX6_look, 3, RX6, some .int, "look")
theorem mwX6_look : MW yX6_look tX6_look 2 := ⟨⟨(t2_ 134 rfl rfl), (t1_ 1 rfl rfl)⟩, by decide +kernel⟩
abbrev tX6_lookAtCave : MT := (cX6_lookAtCave, 3, RX6, some .int, "lookAtCave")
theorem mwX6_lookAtCave : MW yX6_lookAtCave tX6_lookAtCave 2 := ⟨⟨(t2_ 138 rfl rfl), (t1_ 1 rfl rfl)⟩, by decide +kernel⟩
abbrev tX2_placeOf : MT := (cX2_placeOf, 3, RX2, some .int, "placeOf")
theorem mwX2_placeOf : MW yX2_placeOf tX2_placeOf 1 := ⟨⟨(t2_ 142 rfl rfl), (t1_ 5 rfl rfl)⟩, by decide +kernel⟩
abbrev tX6_lookAtPassage : MT := (cX6_lookAtPassage, 3, RX6, some .int, "lookAtPassage")
theorem mwX6_lookAtPassage : MW yX6_lookAtPassage tX6_lookAtPassage 2 := ⟨⟨(t2_ 146 rfl rfl), (t1_ 1 rfl rfl)⟩, by decide +kernel⟩
abbrev tX3_passagesJustLost : MT := (cX3_passagesJustLost, 2, RX3, some .int, "passagesJustLost")
theorem mwX3_passagesJustLost : MW yX3_passagesJustLost tX3_passagesJustLost 0 := ⟨⟨(t2_ 150 rfl rfl), (t1_ 3 rfl rfl)⟩, by decide +kernel⟩
abbrev tX6_fewest : MT := (cX6_fewest, 3, RX6, some .int, "fewest")
theorem mwX6_fewest : MW yX6_fewest tX6_fewest 1 := ⟨⟨(t2_ 155 rfl rfl), (t1_ 1 rfl rfl)⟩, by decide +kernel⟩
abbrev tX6_canBeSolved : MT := (cX6_canBeSolved, 2, RX6, some .boolean, "canBeSolved")
theorem mwX6_canBeSolved : MW yX6_canBeSolved tX6_canBeSolved 1 := ⟨⟨(t2_ 159 rfl rfl), (t1_ 1 rfl rfl)⟩, by decide +kernel⟩
abbrev tX6_isLaw : MT := (cX6_isLaw, 1, RX6, some .boolean, "isLaw")
theorem mwX6_isLaw : MW yX6_isLaw tX6_isLaw 1 := ⟨⟨(t2_ 162 rfl rfl), (t1_ 1 rfl rfl)⟩, by decide +kernel⟩
abbrev tX0_finds : MT := (cX0_finds, 4, RX0, some .boolean, "finds")
theorem mwX0_finds : MW yX0_finds tX0_finds 2 := ⟨⟨(t2_ 166 rfl rfl), (t1_ 6 rfl rfl)⟩, by decide +kernel⟩
abbrev tX0_meet : MT := (cX0_meet, 10, RX0, none, "meet")
theorem mwX0_meet : MW yX0_meet tX0_meet 6 := ⟨⟨(t2_ 172 rfl rfl), (t1_ 6 rfl rfl)⟩, by decide +kernel⟩
abbrev tX1_hangsTogether : MT := (cX1_hangsTogether, 6, RX1, some .boolean, "hangsTogether")
theorem mwX1_hangsTogether : MW yX1_hangsTogether tX1_hangsTogether 2 := ⟨⟨(t2_ 176 rfl rfl), (t1_ 2 rfl rfl)⟩, by decide +kernel⟩
abbrev tX0_slotOf : MT := (cX0_slotOf, 5, RX0, some .int, "slotOf")
theorem mwX0_slotOf : MW yX0_slotOf tX0_slotOf 1 := ⟨⟨(t2_ 181 rfl rfl), (t1_ 6 rfl rfl)⟩, by decide +kernel⟩
abbrev tX5_packed : MT := (cX5_packed, 3, RX5, some .int, "packed")
theorem mwX5_packed : MW yX5_packed tX5_packed 3 := ⟨⟨(t2_ 185 rfl rfl), (t1_ 11 rfl rfl)⟩, by decide +kernel⟩
abbrev tX0_takeUp : MT := (cX0_takeUp, 5, RX0, none, "takeUp")
theorem mwX0_takeUp : MW yX0_takeUp tX0_takeUp 1 := ⟨⟨(t2_ 189 rfl rfl), (t1_ 6 rfl rfl)⟩, by decide +kernel⟩
abbrev tX0_tryPuts : MT := (cX0_tryPuts, 3, RX0, none, "tryPuts")
theorem mwX0_tryPuts : MW yX0_tryPuts tX0_tryPuts 0 := ⟨⟨(t2_ 193 rfl rfl), (t1_ 6 rfl rfl)⟩, by decide +kernel⟩
abbrev tX1_allows : MT := (cX1_allows, 5, RX1, some .boolean, "allows")
theorem mwX1_allows : MW yX1_allows tX1_allows 4 := ⟨⟨(t2_ 197 rfl rfl), (t1_ 2 rfl rfl)⟩, by decide +kernel⟩
abbrev tX0_one : MT := (cX0_one, 1, RX0, some .int, "one")
theorem mwX0_one : MW yX0_one tX0_one 1 := ⟨⟨(t2_ 200 rfl rfl), (t1_ 6 rfl rfl)⟩, by decide +kernel⟩
abbrev tX0_tryLifts : MT := (cX0_tryLifts, 3, RX0, none, "tryLifts")
theorem mwX0_tryLifts : MW yX0_tryLifts tX0_tryLifts 0 := ⟨⟨(t2_ 204 rfl rfl), (t1_ 6 rfl rfl)⟩, by decide +kernel⟩
abbrev tX0_guardedWithout : MT := (cX0_guardedWithout, 2, RX0, some .int, "guardedWithout")
theorem mwX0_guardedWithout : MW yX0_guardedWithout tX0_guardedWithout 1 := ⟨⟨(t2_ 208 rfl rfl), (t1_ 6 rfl rfl)⟩, by decide +kernel⟩
abbrev tX0_trySlides : MT := (cX0_trySlides, 2, RX0, none, "trySlides")
theorem mwX0_trySlides : MW yX0_trySlides tX0_trySlides 0 := ⟨⟨(t2_ 213 rfl rfl), (t1_ 6 rfl rfl)⟩, by decide +kernel⟩
abbrev tX0_trySlidesFrom : MT := (cX0_trySlidesFrom, 7, RX0, none, "trySlidesFrom")
theorem mwX0_trySlidesFrom : MW yX0_trySlidesFrom tX0_trySlidesFrom 1 := ⟨⟨(t2_ 217 rfl rfl), (t1_ 6 rfl rfl)⟩, by decide +kernel⟩
abbrev tX0_wayToGoal : MT := (cX0_wayToGoal, 5, RX0, some (.object "CaveParty$Way"), "wayToGoal")
theorem mwX0_wayToGoal : MW yX0_wayToGoal tX0_wayToGoal 0 := ⟨⟨(t2_ 222 rfl rfl), (t1_ 6 rfl rfl)⟩, by decide +kernel⟩
abbrev tX5_init : MT := (cX5_init, 2, RX5, none, "<init>")
theorem mwX5_init : MW yX5_init tX5_init 1 := ⟨⟨(t2_ 227 rfl rfl), (t1_ 11 rfl rfl)⟩, by decide +kernel⟩
abbrev tX5_put : MT := (cX5_put, 3, RX5, none, "put")
theorem mwX5_put : MW yX5_put tX5_put 2 := ⟨⟨(t2_ 237 rfl rfl), (t1_ 11 rfl rfl)⟩, by decide +kernel⟩
abbrev tX6_plan : MT := (cX6_plan, 3, RX6, some .int, "plan")
theorem mwX6_plan : MW yX6_plan tX6_plan 2 := ⟨⟨(t3_ 1 rfl rfl), (t1_ 1 rfl rfl)⟩, by decide +kernel⟩
abbrev tX5_length : MT := (cX5_length, 1, RX5, some .int, "length")
theorem mwX5_length : MW yX5_length tX5_length 0 := ⟨⟨(t3_ 5 rfl rfl), (t1_ 11 rfl rfl)⟩, by decide +kernel⟩
abbrev tX5_tell : MT := (cX5_tell, 3, RX5, some .int, "tell")
theorem mwX5_tell : MW yX5_tell tX5_tell 2 := ⟨⟨(t3_ 9 rfl rfl), (t1_ 11 rfl rfl)⟩, by decide +kernel⟩
abbrev tX6_witness : MT := (cX6_witness, 3, RX6, some .int, "witness")
theorem mwX6_witness : MW yX6_witness tX6_witness 2 := ⟨⟨(t3_ 13 rfl rfl), (t1_ 1 rfl rfl)⟩, by decide +kernel⟩
abbrev tX6_judge : MT := (cX6_judge, 2, RX6, some .int, "judge")
theorem mwX6_judge : MW yX6_judge tX6_judge 1 := ⟨⟨(t3_ 17 rfl rfl), (t1_ 1 rfl rfl)⟩, by decide +kernel⟩
abbrev tX6_isPlanBy : MT := (cX6_isPlanBy, 6, RX6, some .boolean, "isPlanBy")
theorem mwX6_isPlanBy : MW yX6_isPlanBy tX6_isPlanBy 1 := ⟨⟨(t3_ 21 rfl rfl), (t1_ 1 rfl rfl)⟩, by decide +kernel⟩
abbrev tX6_place : MT := (cX6_place, 3, RX6, some .boolean, "place")
theorem mwX6_place : MW yX6_place tX6_place 2 := ⟨⟨(t3_ 29 rfl rfl), (t1_ 1 rfl rfl)⟩, by decide +kernel⟩
abbrev tX2_swapIn : MT := (cX2_swapIn, 4, RX2, none, "swapIn")
theorem mwX2_swapIn : MW yX2_swapIn tX2_swapIn 2 := ⟨⟨(t3_ 33 rfl rfl), (t1_ 5 rfl rfl)⟩, by decide +kernel⟩
abbrev tX6_cut : MT := (cX6_cut, 2, RX6, some .int, "cut")
theorem mwX6_cut : MW yX6_cut tX6_cut 1 := ⟨⟨(t3_ 38 rfl rfl), (t1_ 1 rfl rfl)⟩, by decide +kernel⟩
abbrev tX2_greatestCut : MT := (cX2_greatestCut, 3, RX2, some .int, "greatestCut")
theorem mwX2_greatestCut : MW yX2_greatestCut tX2_greatestCut 0 := ⟨⟨(t3_ 42 rfl rfl), (t1_ 5 rfl rfl)⟩, by decide +kernel⟩
abbrev tX2_cutBehind : MT := (cX2_cutBehind, 4, RX2, some .int, "cutBehind")
theorem mwX2_cutBehind : MW yX2_cutBehind tX2_cutBehind 1 := ⟨⟨(t3_ 46 rfl rfl), (t1_ 5 rfl rfl)⟩, by decide +kernel⟩
abbrev tX1_cutBetween : MT := (cX1_cutBetween, 4, RX1, some .int, "cutBetween")
theorem mwX1_cutBetween : MW yX1_cutBetween tX1_cutBetween 1 := ⟨⟨(t3_ 50 rfl rfl), (t1_ 2 rfl rfl)⟩, by decide +kernel⟩
abbrev tX6_width : MT := (cX6_width, 1, RX6, some .int, "width")
theorem mwX6_width : MW yX6_width tX6_width 0 := ⟨⟨(t3_ 56 rfl rfl), (t1_ 1 rfl rfl)⟩, by decide +kernel⟩
abbrev tX2_becomeTheLeast : MT := (cX2_becomeTheLeast, 5, RX2, some .int, "becomeTheLeast")
theorem mwX2_becomeTheLeast : MW yX2_becomeTheLeast tX2_becomeTheLeast 0 := ⟨⟨(t3_ 60 rfl rfl), (t1_ 5 rfl rfl)⟩, by decide +kernel⟩
abbrev tX2_leastWorstBehind : MT := (cX2_leastWorstBehind, 4, RX2, some .int, "leastWorstBehind")
theorem mwX2_leastWorstBehind : MW yX2_leastWorstBehind tX2_leastWorstBehind 1 := ⟨⟨(t3_ 65 rfl rfl), (t1_ 5 rfl rfl)⟩, by decide +kernel⟩
abbrev tX2_firstWithin : MT := (cX2_firstWithin, 4, RX2, some .int, "firstWithin")
theorem mwX2_firstWithin : MW yX2_firstWithin tX2_firstWithin 2 := ⟨⟨(t3_ 70 rfl rfl), (t1_ 5 rfl rfl)⟩, by decide +kernel⟩
abbrev tX7_init : MT := (cX7_init, 1, RX7, none, "<init>")
theorem mwX7_init : MW yX7_init tX7_init 0 := ⟨⟨(t3_ 75 rfl rfl), (t1_ 7 rfl rfl)⟩, by decide +kernel⟩
abbrev tX7_caves : MT := (cX7_caves, 3, RX7, some .boolean, "caves")
theorem mwX7_caves : MW yX7_caves tX7_caves 1 := ⟨⟨(t3_ 159 rfl rfl), (t1_ 7 rfl rfl)⟩, by decide +kernel⟩
abbrev tX7_changes : MT := (cX7_changes, 1, RX7, none, "changes")
theorem mwX7_changes : MW yX7_changes tX7_changes 0 := ⟨⟨(t3_ 163 rfl rfl), (t1_ 7 rfl rfl)⟩, by decide +kernel⟩
abbrev tX7_anew : MT := (cX7_anew, 1, RX7, none, "anew")
theorem mwX7_anew : MW yX7_anew tX7_anew 0 := ⟨⟨(t3_ 167 rfl rfl), (t1_ 7 rfl rfl)⟩, by decide +kernel⟩
abbrev tX7_begins : MT := (cX7_begins, 2, RX7, none, "begins")
theorem mwX7_begins : MW yX7_begins tX7_begins 0 := ⟨⟨(t3_ 171 rfl rfl), (t1_ 7 rfl rfl)⟩, by decide +kernel⟩
abbrev tX7_keeps : MT := (cX7_keeps, 2, RX7, none, "keeps")
theorem mwX7_keeps : MW yX7_keeps tX7_keeps 0 := ⟨⟨(t3_ 175 rfl rfl), (t1_ 7 rfl rfl)⟩, by decide +kernel⟩
abbrev tX7_passage : MT := (cX7_passage, 4, RX7, some .int, "passage")
theorem mwX7_passage : MW yX7_passage tX7_passage 2 := ⟨⟨(t3_ 179 rfl rfl), (t1_ 7 rfl rfl)⟩, by decide +kernel⟩
abbrev tX7_isCave : MT := (cX7_isCave, 2, RX7, some .boolean, "isCave")
theorem mwX7_isCave : MW yX7_isCave tX7_isCave 1 := ⟨⟨(t3_ 183 rfl rfl), (t1_ 7 rfl rfl)⟩, by decide +kernel⟩
abbrev tX7_drop : MT := (cX7_drop, 2, RX7, some .boolean, "drop")
theorem mwX7_drop : MW yX7_drop tX7_drop 1 := ⟨⟨(t3_ 187 rfl rfl), (t1_ 7 rfl rfl)⟩, by decide +kernel⟩
abbrev tX7_isPassage : MT := (cX7_isPassage, 2, RX7, some .boolean, "isPassage")
theorem mwX7_isPassage : MW yX7_isPassage tX7_isPassage 1 := ⟨⟨(t3_ 191 rfl rfl), (t1_ 7 rfl rfl)⟩, by decide +kernel⟩
abbrev tX7_mouth : MT := (cX7_mouth, 2, RX7, some .boolean, "mouth")
theorem mwX7_mouth : MW yX7_mouth tX7_mouth 1 := ⟨⟨(t3_ 195 rfl rfl), (t1_ 7 rfl rfl)⟩, by decide +kernel⟩
abbrev tX7_order : MT := (cX7_order, 5, RX7, some .int, "order")
theorem mwX7_order : MW yX7_order tX7_order 3 := ⟨⟨(t3_ 200 rfl rfl), (t1_ 7 rfl rfl)⟩, by decide +kernel⟩
abbrev tX7_isAt : MT := (cX7_isAt, 3, RX7, some .boolean, "isAt")
theorem mwX7_isAt : MW yX7_isAt tX7_isAt 2 := ⟨⟨(t3_ 204 rfl rfl), (t1_ 7 rfl rfl)⟩, by decide +kernel⟩
abbrev tX7_comes : MT := (cX7_comes, 3, RX7, none, "comes")
theorem mwX7_comes : MW yX7_comes tX7_comes 1 := ⟨⟨(t3_ 208 rfl rfl), (t1_ 7 rfl rfl)⟩, by decide +kernel⟩
abbrev tX7_below : MT := (cX7_below, 3, RX7, some .int, "below")
theorem mwX7_below : MW yX7_below tX7_below 0 := ⟨⟨(t3_ 212 rfl rfl), (t1_ 7 rfl rfl)⟩, by decide +kernel⟩
abbrev tX7_does : MT := (cX7_does, 4, RX7, none, "does")
theorem mwX7_does : MW yX7_does tX7_does 3 := ⟨⟨(t3_ 216 rfl rfl), (t1_ 7 rfl rfl)⟩, by decide +kernel⟩
abbrev tX7_other : MT := (cX7_other, 3, RX7, some .int, "other")
theorem mwX7_other : MW yX7_other tX7_other 2 := ⟨⟨(t3_ 220 rfl rfl), (t1_ 7 rfl rfl)⟩, by decide +kernel⟩
abbrev tX7_settles : MT := (cX7_settles, 3, RX7, none, "settles")
theorem mwX7_settles : MW yX7_settles tX7_settles 1 := ⟨⟨(t3_ 224 rfl rfl), (t1_ 7 rfl rfl)⟩, by decide +kernel⟩
abbrev tX7_spreads : MT := (cX7_spreads, 6, RX7, none, "spreads")
theorem mwX7_spreads : MW yX7_spreads tX7_spreads 0 := ⟨⟨(t3_ 228 rfl rfl), (t1_ 7 rfl rfl)⟩, by decide +kernel⟩
abbrev tX7_undo : MT := (cX7_undo, 1, RX7, some .boolean, "undo")
theorem mwX7_undo : MW yX7_undo tX7_undo 0 := ⟨⟨(t3_ 232 rfl rfl), (t1_ 7 rfl rfl)⟩, by decide +kernel⟩
abbrev tX7_count : MT := (cX7_count, 2, RX7, some .int, "count")
theorem mwX7_count : MW yX7_count tX7_count 1 := ⟨⟨(t3_ 236 rfl rfl), (t1_ 7 rfl rfl)⟩, by decide +kernel⟩
abbrev tX7_party : MT := (cX7_party, 3, RX7, some .int, "party")
theorem mwX7_party : MW yX7_party tX7_party 0 := ⟨⟨(t4_ 0 rfl rfl), (t1_ 7 rfl rfl)⟩, by decide +kernel⟩
abbrev tX7_bits : MT := (cX7_bits, 3, RX7, some .int, "bits")
theorem mwX7_bits : MW yX7_bits tX7_bits 1 := ⟨⟨(t4_ 3 rfl rfl), (t1_ 7 rfl rfl)⟩, by decide +kernel⟩
abbrev tX7_passages : MT := (cX7_passages, 3, RX7, some .int, "passages")
theorem mwX7_passages : MW yX7_passages tX7_passages 0 := ⟨⟨(t4_ 7 rfl rfl), (t1_ 7 rfl rfl)⟩, by decide +kernel⟩
abbrev tX7_pieces : MT := (cX7_pieces, 4, RX7, some .int, "pieces")
theorem mwX7_pieces : MW yX7_pieces tX7_pieces 0 := ⟨⟨(t4_ 11 rfl rfl), (t1_ 7 rfl rfl)⟩, by decide +kernel⟩
abbrev tX7_reached : MT := (cX7_reached, 7, RX7, some .int, "reached")
theorem mwX7_reached : MW yX7_reached tX7_reached 2 := ⟨⟨(t4_ 15 rfl rfl), (t1_ 7 rfl rfl)⟩, by decide +kernel⟩
abbrev tX7_look : MT := (cX7_look, 3, RX7, some .int, "look")
theorem mwX7_look : MW yX7_look tX7_look 2 := ⟨⟨(t4_ 19 rfl rfl), (t1_ 7 rfl rfl)⟩, by decide +kernel⟩
abbrev tX7_degree : MT := (cX7_degree, 4, RX7, some .int, "degree")
theorem mwX7_degree : MW yX7_degree tX7_degree 1 := ⟨⟨(t4_ 23 rfl rfl), (t1_ 7 rfl rfl)⟩, by decide +kernel⟩
abbrev tX7_placeOf : MT := (cX7_placeOf, 3, RX7, some .int, "placeOf")
theorem mwX7_placeOf : MW yX7_placeOf tX7_placeOf 1 := ⟨⟨(t4_ 27 rfl rfl), (t1_ 7 rfl rfl)⟩, by decide +kernel⟩
abbrev tX7_fewest : MT := (cX7_fewest, 6, RX7, some .int, "fewest")
theorem mwX7_fewest : MW yX7_fewest tX7_fewest 1 := ⟨⟨(t4_ 31 rfl rfl), (t1_ 7 rfl rfl)⟩, by decide +kernel⟩
abbrev tX7_isSmall : MT := (cX7_isSmall, 2, RX7, some .boolean, "isSmall")
theorem mwX7_isSmall : MW yX7_isSmall tX7_isSmall 1 := ⟨⟨(t4_ 35 rfl rfl), (t1_ 7 rfl rfl)⟩, by decide +kernel⟩
abbrev tX7_finds : MT := (cX7_finds, 7, RX7, some .int, "finds")
theorem mwX7_finds : MW yX7_finds tX7_finds 2 := ⟨⟨(t4_ 39 rfl rfl), (t1_ 7 rfl rfl)⟩, by decide +kernel⟩
abbrev tX7_meets : MT := (cX7_meets, 6, RX7, some .boolean, "meets")
theorem mwX7_meets : MW yX7_meets tX7_meets 3 := ⟨⟨(t4_ 43 rfl rfl), (t1_ 7 rfl rfl)⟩, by decide +kernel⟩
abbrev tX7_number : MT := (cX7_number, 5, RX7, some .int, "number")
theorem mwX7_number : MW yX7_number tX7_number 1 := ⟨⟨(t4_ 47 rfl rfl), (t1_ 7 rfl rfl)⟩, by decide +kernel⟩
abbrev tX7_shows : MT := (cX7_shows, 5, RX7, none, "shows")
theorem mwX7_shows : MW yX7_shows tX7_shows 2 := ⟨⟨(t4_ 53 rfl rfl), (t1_ 7 rfl rfl)⟩, by decide +kernel⟩
abbrev tX7_may : MT := (cX7_may, 5, RX7, some .boolean, "may")
theorem mwX7_may : MW yX7_may tX7_may 4 := ⟨⟨(t4_ 57 rfl rfl), (t1_ 7 rfl rfl)⟩, by decide +kernel⟩
abbrev tX7_hangs : MT := (cX7_hangs, 6, RX7, some .boolean, "hangs")
theorem mwX7_hangs : MW yX7_hangs tX7_hangs 1 := ⟨⟨(t4_ 61 rfl rfl), (t1_ 7 rfl rfl)⟩, by decide +kernel⟩
abbrev tX7_isSearched : MT := (cX7_isSearched, 1, RX7, some .boolean, "isSearched")
theorem mwX7_isSearched : MW yX7_isSearched tX7_isSearched 0 := ⟨⟨(t4_ 65 rfl rfl), (t1_ 7 rfl rfl)⟩, by decide +kernel⟩
abbrev tX7_plan : MT := (cX7_plan, 3, RX7, some .int, "plan")
theorem mwX7_plan : MW yX7_plan tX7_plan 2 := ⟨⟨(t4_ 69 rfl rfl), (t1_ 7 rfl rfl)⟩, by decide +kernel⟩
abbrev tX7_witness : MT := (cX7_witness, 3, RX7, some .int, "witness")
theorem mwX7_witness : MW yX7_witness tX7_witness 2 := ⟨⟨(t4_ 73 rfl rfl), (t1_ 7 rfl rfl)⟩, by decide +kernel⟩
abbrev tX7_judge : MT := (cX7_judge, 5, RX7, some .int, "judge")
theorem mwX7_judge : MW yX7_judge tX7_judge 1 := ⟨⟨(t4_ 77 rfl rfl), (t1_ 7 rfl rfl)⟩, by decide +kernel⟩
abbrev tX7_place : MT := (cX7_place, 4, RX7, some .boolean, "place")
theorem mwX7_place : MW yX7_place tX7_place 2 := ⟨⟨(t4_ 81 rfl rfl), (t1_ 7 rfl rfl)⟩, by decide +kernel⟩
abbrev tX7_cut : MT := (cX7_cut, 4, RX7, some .int, "cut")
theorem mwX7_cut : MW yX7_cut tX7_cut 1 := ⟨⟨(t4_ 85 rfl rfl), (t1_ 7 rfl rfl)⟩, by decide +kernel⟩
abbrev tX7_cutBehind : MT := (cX7_cutBehind, 4, RX7, some .int, "cutBehind")
theorem mwX7_cutBehind : MW yX7_cutBehind tX7_cutBehind 1 := ⟨⟨(t4_ 89 rfl rfl), (t1_ 7 rfl rfl)⟩, by decide +kernel⟩
abbrev tX7_cutOf : MT := (cX7_cutOf, 6, RX7, some .int, "cutOf")
theorem mwX7_cutOf : MW yX7_cutOf tX7_cutOf 1 := ⟨⟨(t4_ 93 rfl rfl), (t1_ 7 rfl rfl)⟩, by decide +kernel⟩
abbrev tX7_width : MT := (cX7_width, 6, RX7, some .int, "width")
theorem mwX7_width : MW yX7_width tX7_width 0 := ⟨⟨(t4_ 97 rfl rfl), (t1_ 7 rfl rfl)⟩, by decide +kernel⟩
abbrev tX7_worst : MT := (cX7_worst, 3, RX7, some .int, "worst")
theorem mwX7_worst : MW yX7_worst tX7_worst 1 := ⟨⟨(t4_ 101 rfl rfl), (t1_ 7 rfl rfl)⟩, by decide +kernel⟩
theorem nwL_7 : NW RL 7 6 6 [.null, .null, .null, .null, .null, .null] := ⟨RX6, TX6, tyX6, rfl, inX6, tyX6_ok, (t1_ 12 rfl rfl), (t1_ 13 rfl rfl), (t1_ 1 rfl rfl), fun j hj => by
  match j, hj with
  | 0, _ => rfl
  | 1, _ => rfl
  | 2, _ => rfl
  | 3, _ => rfl
  | 4, _ => rfl
  | 5, _ => rfl
  | j + 6, h => exact absurd h (by omega)⟩
theorem ciL_9 : CI RL 9 yX6_init tX6_init 0 := ⟨mwX6_init, (Or.inl (t1_ 14 rfl rfl)), rfl, (t1_ 15 rfl rfl), rfl⟩
theorem coX6_1 : Jvm.Cond.methodLink RX6 1 objectInit ∈ tb_ := (t1_ 17 rfl rfl)
theorem nwX6_7 : NW RX6 7 1 7 [.int 0, .int 0, .int 0, .null, .null, .null, .null] := ⟨RX1, TX1, tyX1, rfl, inX1, tyX1_ok, (t1_ 20 rfl rfl), (t1_ 21 rfl rfl), (t1_ 2 rfl rfl), fun j hj => by
  match j, hj with
  | 0, _ => rfl
  | 1, _ => rfl
  | 2, _ => rfl
  | 3, _ => rfl
  | 4, _ => rfl
  | 5, _ => rfl
  | 6, _ => rfl
  | j + 7, h => exact absurd h (by omega)⟩
theorem ciX6_9 : CI RX6 9 yX1_init tX1_init 0 := ⟨mwX1_init, (Or.inr ⟨_, (t1_ 22 rfl rfl)⟩), rfl, (t1_ 23 rfl rfl), rfl⟩
theorem coX1_3 : Jvm.Cond.methodLink RX1 3 objectInit ∈ tb_ := (t1_ 25 rfl rfl)
theorem foX1_24 : FO RX1 24 1 0 := ⟨RX1, TX1, 7, rfl, by decide, inX1, (Or.inl (t1_ 26 rfl rfl))⟩
theorem fpX1_24 (nm : String) : FP RX1 nm 24 1 0 (.int) := ⟨RX1, TX1, 7, tyX1, rfl, by decide, inX1, tyX1_ok, nmX1, by decide +kernel, Or.inl ⟨rfl, (Or.inl (t1_ 26 rfl rfl))⟩⟩
theorem foX2_22 : FO RX2 22 1 0 := ⟨RX1, TX1, 7, rfl, by decide, inX1, (Or.inr ⟨_, (t1_ 27 rfl rfl)⟩)⟩
theorem fpX2_22 (nm : String) : FP RX2 nm 22 1 0 (.int) := ⟨RX1, TX1, 7, tyX1, rfl, by decide, inX1, tyX1_ok, nmX1, by decide +kernel, Or.inl ⟨rfl, (Or.inr ⟨_, (t1_ 27 rfl rfl)⟩)⟩⟩
theorem foX0_97 : FO RX0 97 1 0 := ⟨RX1, TX1, 7, rfl, by decide, inX1, (Or.inr ⟨_, (t1_ 28 rfl rfl)⟩)⟩
theorem fpX0_97 (nm : String) : FP RX0 nm 97 1 0 (.int) := ⟨RX1, TX1, 7, tyX1, rfl, by decide, inX1, tyX1_ok, nmX1, by decide +kernel, Or.inl ⟨rfl, (Or.inr ⟨_, (t1_ 28 rfl rfl)⟩)⟩⟩
theorem foX6_121 : FO RX6 121 1 0 := ⟨RX1, TX1, 7, rfl, by decide, inX1, (Or.inr ⟨_, (t1_ 29 rfl rfl)⟩)⟩
theorem fpX6_121 (nm : String) : FP RX6 nm 121 1 0 (.int) := ⟨RX1, TX1, 7, tyX1, rfl, by decide, inX1, tyX1_ok, nmX1, by decide +kernel, Or.inl ⟨rfl, (Or.inr ⟨_, (t1_ 29 rfl rfl)⟩)⟩⟩
theorem foX1_28 : FO RX1 28 1 1 := ⟨RX1, TX1, 7, rfl, by decide, inX1, (Or.inl (t1_ 30 rfl rfl))⟩
theorem fpX1_28 (nm : String) : FP RX1 nm 28 1 1 (.int) := ⟨RX1, TX1, 7, tyX1, rfl, by decide, inX1, tyX1_ok, nmX1, by decide +kernel, Or.inl ⟨rfl, (Or.inl (t1_ 30 rfl rfl))⟩⟩
theorem foX6_124 : FO RX6 124 1 1 := ⟨RX1, TX1, 7, rfl, by decide, inX1, (Or.inr ⟨_, (t1_ 31 rfl rfl)⟩)⟩
theorem fpX6_124 (nm : String) : FP RX6 nm 124 1 1 (.int) := ⟨RX1, TX1, 7, tyX1, rfl, by decide, inX1, tyX1_ok, nmX1, by decide +kernel, Or.inl ⟨rfl, (Or.inr ⟨_, (t1_ 31 rfl rfl)⟩)⟩⟩
theorem foX1_31 : FO RX1 31 1 2 := ⟨RX1, TX1, 7, rfl, by decide, inX1, (Or.inl (t1_ 32 rfl rfl))⟩
theorem fpX1_31 (nm : String) : FP RX1 nm 31 1 2 (.int) := ⟨RX1, TX1, 7, tyX1, rfl, by decide, inX1, tyX1_ok, nmX1, by decide +kernel, Or.inl ⟨rfl, (Or.inl (t1_ 32 rfl rfl))⟩⟩
theorem foX6_78 : FO RX6 78 1 2 := ⟨RX1, TX1, 7, rfl, by decide, inX1, (Or.inr ⟨_, (t1_ 33 rfl rfl)⟩)⟩
theorem fpX6_78 (nm : String) : FP RX6 nm 78 1 2 (.int) := ⟨RX1, TX1, 7, tyX1, rfl, by decide, inX1, tyX1_ok, nmX1, by decide +kernel, Or.inl ⟨rfl, (Or.inr ⟨_, (t1_ 33 rfl rfl)⟩)⟩⟩
theorem foX1_9 : FO RX1 9 1 3 := ⟨RX1, TX1, 7, rfl, by decide, inX1, (Or.inl (t1_ 34 rfl rfl))⟩
theorem fpX1_9 : FP RX1 "<init>" 9 1 3 (.array .int) := ⟨RX1, TX1, 7, tyX1, rfl, by decide, inX1, tyX1_ok, nmX1, by decide +kernel, Or.inr ⟨rfl, rfl, rfl, (t1_ 34 rfl rfl)⟩⟩
theorem foX6_190 : FO RX6 190 1 3 := ⟨RX1, TX1, 7, rfl, by decide, inX1, (Or.inr ⟨_, (t1_ 35 rfl rfl)⟩)⟩
theorem foX1_15 : FO RX1 15 1 4 := ⟨RX1, TX1, 7, rfl, by decide, inX1, (Or.inl (t1_ 36 rfl rfl))⟩
theorem fpX1_15 : FP RX1 "<init>" 15 1 4 (.array .int) := ⟨RX1, TX1, 7, tyX1, rfl, by decide, inX1, tyX1_ok, nmX1, by decide +kernel, Or.inr ⟨rfl, rfl, rfl, (t1_ 36 rfl rfl)⟩⟩
theorem foX6_193 : FO RX6 193 1 4 := ⟨RX1, TX1, 7, rfl, by decide, inX1, (Or.inr ⟨_, (t1_ 37 rfl rfl)⟩)⟩
theorem foX1_18 : FO RX1 18 1 5 := ⟨RX1, TX1, 7, rfl, by decide, inX1, (Or.inl (t1_ 38 rfl rfl))⟩
theorem fpX1_18 : FP RX1 "<init>" 18 1 5 (.array .int) := ⟨RX1, TX1, 7, tyX1, rfl, by decide, inX1, tyX1_ok, nmX1, by decide +kernel, Or.inr ⟨rfl, rfl, rfl, (t1_ 38 rfl rfl)⟩⟩
theorem foX0_118 : FO RX0 118 1 5 := ⟨RX1, TX1, 7, rfl, by decide, inX1, (Or.inr ⟨_, (t1_ 39 rfl rfl)⟩)⟩
theorem foX6_184 : FO RX6 184 1 5 := ⟨RX1, TX1, 7, rfl, by decide, inX1, (Or.inr ⟨_, (t1_ 40 rfl rfl)⟩)⟩
theorem foX1_21 : FO RX1 21 1 6 := ⟨RX1, TX1, 7, rfl, by decide, inX1, (Or.inl (t1_ 41 rfl rfl))⟩
theorem fpX1_21 : FP RX1 "<init>" 21 1 6 (.array .int) := ⟨RX1, TX1, 7, tyX1, rfl, by decide, inX1, tyX1_ok, nmX1, by decide +kernel, Or.inr ⟨rfl, rfl, rfl, (t1_ 41 rfl rfl)⟩⟩
theorem nwX6_16 : NW RX6 16 3 9 [.null, .null, .int 0, .int 0, .null, .null, .null, .null, .null] := ⟨RX3, TX3, tyX3, rfl, inX3, tyX3_ok, (t1_ 58 rfl rfl), (t1_ 59 rfl rfl), (t1_ 3 rfl rfl), fun j hj => by
  match j, hj with
  | 0, _ => rfl
  | 1, _ => rfl
  | 2, _ => rfl
  | 3, _ => rfl
  | 4, _ => rfl
  | 5, _ => rfl
  | 6, _ => rfl
  | 7, _ => rfl
  | 8, _ => rfl
  | j + 9, h => exact absurd h (by omega)⟩
theorem ciX6_18 : CI RX6 18 yX3_init tX3_init 1 := ⟨mwX3_init, (Or.inl (t1_ 60 rfl rfl)), rfl, (t1_ 61 rfl rfl), rfl⟩
theorem coX3_3 : Jvm.Cond.methodLink RX3 3 objectInit ∈ tb_ := (t1_ 63 rfl rfl)
theorem nwX3_9 : NW RX3 9 4 4 [.null, .int 0, .int 0, .int 0] := ⟨RX4, TX4, tyX4, rfl, inX4, tyX4_ok, (t1_ 64 rfl rfl), (t1_ 65 rfl rfl), (t1_ 4 rfl rfl), fun j hj => by
  match j, hj with
  | 0, _ => rfl
  | 1, _ => rfl
  | 2, _ => rfl
  | 3, _ => rfl
  | j + 4, h => exact absurd h (by omega)⟩
theorem ciX3_11 : CI RX3 11 yX4_init tX4_init 0 := ⟨mwX4_init, (Or.inr ⟨_, (t1_ 66 rfl rfl)⟩), rfl, (t1_ 67 rfl rfl), rfl⟩
theorem coX4_3 : Jvm.Cond.methodLink RX4 3 objectInit ∈ tb_ := (t1_ 69 rfl rfl)
theorem foX4_9 : FO RX4 9 4 0 := ⟨RX4, TX4, 4, rfl, by decide, inX4, (Or.inl (t1_ 70 rfl rfl))⟩
theorem fpX4_9 : FP RX4 "<init>" 9 4 0 (.array .int) := ⟨RX4, TX4, 4, tyX4, rfl, by decide, inX4, tyX4_ok, nmX4, by decide +kernel, Or.inr ⟨rfl, rfl, rfl, (t1_ 70 rfl rfl)⟩⟩
theorem foX3_73 : FO RX3 73 4 0 := ⟨RX4, TX4, 4, rfl, by decide, inX4, (Or.inr ⟨_, (t1_ 71 rfl rfl)⟩)⟩
theorem foX6_180 : FO RX6 180 4 0 := ⟨RX4, TX4, 4, rfl, by decide, inX4, (Or.inr ⟨_, (t1_ 72 rfl rfl)⟩)⟩
theorem foX4_21 : FO RX4 21 4 1 := ⟨RX4, TX4, 4, rfl, by decide, inX4, (Or.inl (t1_ 73 rfl rfl))⟩
theorem fpX4_21 (nm : String) : FP RX4 nm 21 4 1 (.int) := ⟨RX4, TX4, 4, tyX4, rfl, by decide, inX4, tyX4_ok, nmX4, by decide +kernel, Or.inl ⟨rfl, (Or.inl (t1_ 73 rfl rfl))⟩⟩
theorem foX3_64 : FO RX3 64 4 1 := ⟨RX4, TX4, 4, rfl, by decide, inX4, (Or.inr ⟨_, (t1_ 74 rfl rfl)⟩)⟩
theorem fpX3_64 (nm : String) : FP RX3 nm 64 4 1 (.int) := ⟨RX4, TX4, 4, tyX4, rfl, by decide, inX4, tyX4_ok, nmX4, by decide +kernel, Or.inl ⟨rfl, (Or.inr ⟨_, (t1_ 74 rfl rfl)⟩)⟩⟩
theorem foX6_103 : FO RX6 103 4 1 := ⟨RX4, TX4, 4, rfl, by decide, inX4, (Or.inr ⟨_, (t1_ 75 rfl rfl)⟩)⟩
theorem fpX6_103 (nm : String) : FP RX6 nm 103 4 1 (.int) := ⟨RX4, TX4, 4, tyX4, rfl, by decide, inX4, tyX4_ok, nmX4, by decide +kernel, Or.inl ⟨rfl, (Or.inr ⟨_, (t1_ 75 rfl rfl)⟩)⟩⟩
theorem foX4_25 : FO RX4 25 4 2 := ⟨RX4, TX4, 4, rfl, by decide, inX4, (Or.inl (t1_ 76 rfl rfl))⟩
theorem fpX4_25 (nm : String) : FP RX4 nm 25 4 2 (.int) := ⟨RX4, TX4, 4, tyX4, rfl, by decide, inX4, tyX4_ok, nmX4, by decide +kernel, Or.inl ⟨rfl, (Or.inl (t1_ 76 rfl rfl))⟩⟩
theorem foX6_218 : FO RX6 218 4 2 := ⟨RX4, TX4, 4, rfl, by decide, inX4, (Or.inr ⟨_, (t1_ 77 rfl rfl)⟩)⟩
theorem fpX6_218 (nm : String) : FP RX6 nm 218 4 2 (.int) := ⟨RX4, TX4, 4, tyX4, rfl, by decide, inX4, tyX4_ok, nmX4, by decide +kernel, Or.inl ⟨rfl, (Or.inr ⟨_, (t1_ 77 rfl rfl)⟩)⟩⟩
theorem foX4_34 : FO RX4 34 4 3 := ⟨RX4, TX4, 4, rfl, by decide, inX4, (Or.inl (t1_ 78 rfl rfl))⟩
theorem fpX4_34 (nm : String) : FP RX4 nm 34 4 3 (.int) := ⟨RX4, TX4, 4, tyX4, rfl, by decide, inX4, tyX4_ok, nmX4, by decide +kernel, Or.inl ⟨rfl, (Or.inl (t1_ 78 rfl rfl))⟩⟩
theorem foX3_53 : FO RX3 53 4 3 := ⟨RX4, TX4, 4, rfl, by decide, inX4, (Or.inr ⟨_, (t1_ 79 rfl rfl)⟩)⟩
theorem fpX3_53 (nm : String) : FP RX3 nm 53 4 3 (.int) := ⟨RX4, TX4, 4, tyX4, rfl, by decide, inX4, tyX4_ok, nmX4, by decide +kernel, Or.inl ⟨rfl, (Or.inr ⟨_, (t1_ 79 rfl rfl)⟩)⟩⟩
theorem foX6_109 : FO RX6 109 4 3 := ⟨RX4, TX4, 4, rfl, by decide, inX4, (Or.inr ⟨_, (t1_ 80 rfl rfl)⟩)⟩
theorem fpX6_109 (nm : String) : FP RX6 nm 109 4 3 (.int) := ⟨RX4, TX4, 4, tyX4, rfl, by decide, inX4, tyX4_ok, nmX4, by decide +kernel, Or.inl ⟨rfl, (Or.inr ⟨_, (t1_ 80 rfl rfl)⟩)⟩⟩
theorem foX3_34 : FO RX3 34 3 0 := ⟨RX3, TX3, 9, rfl, by decide, inX3, (Or.inl (t1_ 90 rfl rfl))⟩
theorem fpX3_34 : FP RX3 "<init>" 34 3 0 (.object "CaveParty$Ground") := ⟨RX3, TX3, 9, tyX3, rfl, by decide, inX3, tyX3_ok, nmX3, by decide +kernel, Or.inr ⟨rfl, rfl, rfl, (t1_ 90 rfl rfl)⟩⟩
theorem foX3_12 : FO RX3 12 3 1 := ⟨RX3, TX3, 9, rfl, by decide, inX3, (Or.inl (t1_ 91 rfl rfl))⟩
theorem fpX3_12 : FP RX3 "<init>" 12 3 1 (.object "CaveParty$Stand") := ⟨RX3, TX3, 9, tyX3, rfl, by decide, inX3, tyX3_ok, nmX3, by decide +kernel, Or.inr ⟨rfl, rfl, rfl, (t1_ 91 rfl rfl)⟩⟩
theorem foX6_100 : FO RX6 100 3 1 := ⟨RX3, TX3, 9, rfl, by decide, inX3, (Or.inr ⟨_, (t1_ 92 rfl rfl)⟩)⟩
theorem foX3_42 : FO RX3 42 3 2 := ⟨RX3, TX3, 9, rfl, by decide, inX3, (Or.inl (t1_ 93 rfl rfl))⟩
theorem fpX3_42 (nm : String) : FP RX3 nm 42 3 2 (.int) := ⟨RX3, TX3, 9, tyX3, rfl, by decide, inX3, tyX3_ok, nmX3, by decide +kernel, Or.inl ⟨rfl, (Or.inl (t1_ 93 rfl rfl))⟩⟩
theorem foX6_86 : FO RX6 86 3 2 := ⟨RX3, TX3, 9, rfl, by decide, inX3, (Or.inr ⟨_, (t1_ 94 rfl rfl)⟩)⟩
theorem fpX6_86 (nm : String) : FP RX6 nm 86 3 2 (.int) := ⟨RX3, TX3, 9, tyX3, rfl, by decide, inX3, tyX3_ok, nmX3, by decide +kernel, Or.inl ⟨rfl, (Or.inr ⟨_, (t1_ 94 rfl rfl)⟩)⟩⟩
theorem foX3_46 : FO RX3 46 3 3 := ⟨RX3, TX3, 9, rfl, by decide, inX3, (Or.inl (t1_ 95 rfl rfl))⟩
theorem fpX3_46 (nm : String) : FP RX3 nm 46 3 3 (.int) := ⟨RX3, TX3, 9, tyX3, rfl, by decide, inX3, tyX3_ok, nmX3, by decide +kernel, Or.inl ⟨rfl, (Or.inl (t1_ 95 rfl rfl))⟩⟩
theorem foX6_106 : FO RX6 106 3 3 := ⟨RX3, TX3, 9, rfl, by decide, inX3, (Or.inr ⟨_, (t1_ 96 rfl rfl)⟩)⟩
theorem fpX6_106 (nm : String) : FP RX6 nm 106 3 3 (.int) := ⟨RX3, TX3, 9, tyX3, rfl, by decide, inX3, tyX3_ok, nmX3, by decide +kernel, Or.inl ⟨rfl, (Or.inr ⟨_, (t1_ 96 rfl rfl)⟩)⟩⟩
theorem foX3_18 : FO RX3 18 3 4 := ⟨RX3, TX3, 9, rfl, by decide, inX3, (Or.inl (t1_ 97 rfl rfl))⟩
theorem fpX3_18 : FP RX3 "<init>" 18 3 4 (.array .int) := ⟨RX3, TX3, 9, tyX3, rfl, by decide, inX3, tyX3_ok, nmX3, by decide +kernel, Or.inr ⟨rfl, rfl, rfl, (t1_ 97 rfl rfl)⟩⟩
theorem foX6_201 : FO RX6 201 3 4 := ⟨RX3, TX3, 9, rfl, by decide, inX3, (Or.inr ⟨_, (t1_ 98 rfl rfl)⟩)⟩
theorem foX3_22 : FO RX3 22 3 5 := ⟨RX3, TX3, 9, rfl, by decide, inX3, (Or.inl (t1_ 99 rfl rfl))⟩
theorem fpX3_22 : FP RX3 "<init>" 22 3 5 (.array .int) := ⟨RX3, TX3, 9, tyX3, rfl, by decide, inX3, tyX3_ok, nmX3, by decide +kernel, Or.inr ⟨rfl, rfl, rfl, (t1_ 99 rfl rfl)⟩⟩
theorem foX6_204 : FO RX6 204 3 5 := ⟨RX3, TX3, 9, rfl, by decide, inX3, (Or.inr ⟨_, (t1_ 100 rfl rfl)⟩)⟩
theorem foX3_25 : FO RX3 25 3 6 := ⟨RX3, TX3, 9, rfl, by decide, inX3, (Or.inl (t1_ 101 rfl rfl))⟩
theorem fpX3_25 : FP RX3 "<init>" 25 3 6 (.array .int) := ⟨RX3, TX3, 9, tyX3, rfl, by decide, inX3, tyX3_ok, nmX3, by decide +kernel, Or.inr ⟨rfl, rfl, rfl, (t1_ 101 rfl rfl)⟩⟩
theorem foX6_211 : FO RX6 211 3 6 := ⟨RX3, TX3, 9, rfl, by decide, inX3, (Or.inr ⟨_, (t1_ 102 rfl rfl)⟩)⟩
theorem foX3_28 : FO RX3 28 3 7 := ⟨RX3, TX3, 9, rfl, by decide, inX3, (Or.inl (t1_ 103 rfl rfl))⟩
theorem fpX3_28 : FP RX3 "<init>" 28 3 7 (.array .int) := ⟨RX3, TX3, 9, tyX3, rfl, by decide, inX3, tyX3_ok, nmX3, by decide +kernel, Or.inr ⟨rfl, rfl, rfl, (t1_ 103 rfl rfl)⟩⟩
theorem foX3_31 : FO RX3 31 3 8 := ⟨RX3, TX3, 9, rfl, by decide, inX3, (Or.inl (t1_ 104 rfl rfl))⟩
theorem fpX3_31 : FP RX3 "<init>" 31 3 8 (.array .int) := ⟨RX3, TX3, 9, tyX3, rfl, by decide, inX3, tyX3_ok, nmX3, by decide +kernel, Or.inr ⟨rfl, rfl, rfl, (t1_ 104 rfl rfl)⟩⟩
theorem nwX6_25 : NW RX6 25 2 3 [.null, .null, .null] := ⟨RX2, TX2, tyX2, rfl, inX2, tyX2_ok, (t1_ 124 rfl rfl), (t1_ 125 rfl rfl), (t1_ 5 rfl rfl), fun j hj => by
  match j, hj with
  | 0, _ => rfl
  | 1, _ => rfl
  | 2, _ => rfl
  | j + 3, h => exact absurd h (by omega)⟩
theorem ciX6_27 : CI RX6 27 yX2_init tX2_init 1 := ⟨mwX2_init, (Or.inl (t1_ 126 rfl rfl)), rfl, (t1_ 127 rfl rfl), rfl⟩
theorem coX2_3 : Jvm.Cond.methodLink RX2 3 objectInit ∈ tb_ := (t1_ 129 rfl rfl)
theorem foX2_18 : FO RX2 18 2 0 := ⟨RX2, TX2, 3, rfl, by decide, inX2, (Or.inl (t1_ 130 rfl rfl))⟩
theorem fpX2_18 : FP RX2 "<init>" 18 2 0 (.object "CaveParty$Ground") := ⟨RX2, TX2, 3, tyX2, rfl, by decide, inX2, tyX2_ok, nmX2, by decide +kernel, Or.inr ⟨rfl, rfl, rfl, (t1_ 130 rfl rfl)⟩⟩
theorem foX2_9 : FO RX2 9 2 1 := ⟨RX2, TX2, 3, rfl, by decide, inX2, (Or.inl (t1_ 131 rfl rfl))⟩
theorem fpX2_9 : FP RX2 "<init>" 9 2 1 (.array .int) := ⟨RX2, TX2, 3, tyX2, rfl, by decide, inX2, tyX2_ok, nmX2, by decide +kernel, Or.inr ⟨rfl, rfl, rfl, (t1_ 131 rfl rfl)⟩⟩
theorem foX2_15 : FO RX2 15 2 2 := ⟨RX2, TX2, 3, rfl, by decide, inX2, (Or.inl (t1_ 132 rfl rfl))⟩
theorem fpX2_15 : FP RX2 "<init>" 15 2 2 (.array .int) := ⟨RX2, TX2, 3, tyX2, rfl, by decide, inX2, tyX2_ok, nmX2, by decide +kernel, Or.inr ⟨rfl, rfl, rfl, (t1_ 132 rfl rfl)⟩⟩
theorem nwX6_32 : NW RX6 32 0 15 [.null, .null, .null, .null, .null, .int 0, .int 0, .int 0, .int 0, .int 0, .int 0, .int 0, .int 0, .int 0, .int 0] := ⟨RX0, TX0, tyX0, rfl, inX0, tyX0_ok, (t1_ 140 rfl rfl), (t1_ 141 rfl rfl), (t1_ 6 rfl rfl), fun j hj => by
  match j, hj with
  | 0, _ => rfl
  | 1, _ => rfl
  | 2, _ => rfl
  | 3, _ => rfl
  | 4, _ => rfl
  | 5, _ => rfl
  | 6, _ => rfl
  | 7, _ => rfl
  | 8, _ => rfl
  | 9, _ => rfl
  | 10, _ => rfl
  | 11, _ => rfl
  | 12, _ => rfl
  | 13, _ => rfl
  | 14, _ => rfl
  | j + 15, h => exact absurd h (by omega)⟩
theorem ciX6_34 : CI RX6 34 yX0_init tX0_init 1 := ⟨mwX0_init, (Or.inl (t1_ 142 rfl rfl)), rfl, (t1_ 143 rfl rfl), rfl⟩
theorem coX0_3 : Jvm.Cond.methodLink RX0 3 objectInit ∈ tb_ := (t1_ 145 rfl rfl)
theorem foX0_24 : FO RX0 24 0 0 := ⟨RX0, TX0, 15, rfl, by decide, inX0, (Or.inl (t1_ 146 rfl rfl))⟩
theorem fpX0_24 : FP RX0 "<init>" 24 0 0 (.object "CaveParty$Ground") := ⟨RX0, TX0, 15, tyX0, rfl, by decide, inX0, tyX0_ok, nmX0, by decide +kernel, Or.inr ⟨rfl, rfl, rfl, (t1_ 146 rfl rfl)⟩⟩
theorem foX0_11 : FO RX0 11 0 1 := ⟨RX0, TX0, 15, rfl, by decide, inX0, (Or.inl (t1_ 147 rfl rfl))⟩
theorem fpX0_11 : FP RX0 "<init>" 11 0 1 (.array .int) := ⟨RX0, TX0, 15, tyX0, rfl, by decide, inX0, tyX0_ok, nmX0, by decide +kernel, Or.inr ⟨rfl, rfl, rfl, (t1_ 147 rfl rfl)⟩⟩
theorem foX0_15 : FO RX0 15 0 2 := ⟨RX0, TX0, 15, rfl, by decide, inX0, (Or.inl (t1_ 148 rfl rfl))⟩
theorem fpX0_15 : FP RX0 "<init>" 15 0 2 (.array .int) := ⟨RX0, TX0, 15, tyX0, rfl, by decide, inX0, tyX0_ok, nmX0, by decide +kernel, Or.inr ⟨rfl, rfl, rfl, (t1_ 148 rfl rfl)⟩⟩
theorem foX0_18 : FO RX0 18 0 3 := ⟨RX0, TX0, 15, rfl, by decide, inX0, (Or.inl (t1_ 149 rfl rfl))⟩
theorem fpX0_18 : FP RX0 "<init>" 18 0 3 (.array .int) := ⟨RX0, TX0, 15, tyX0, rfl, by decide, inX0, tyX0_ok, nmX0, by decide +kernel, Or.inr ⟨rfl, rfl, rfl, (t1_ 149 rfl rfl)⟩⟩
theorem foX0_21 : FO RX0 21 0 4 := ⟨RX0, TX0, 15, rfl, by decide, inX0, (Or.inl (t1_ 150 rfl rfl))⟩
theorem fpX0_21 : FP RX0 "<init>" 21 0 4 (.array .int) := ⟨RX0, TX0, 15, tyX0, rfl, by decide, inX0, tyX0_ok, nmX0, by decide +kernel, Or.inr ⟨rfl, rfl, rfl, (t1_ 150 rfl rfl)⟩⟩
theorem foX0_35 : FO RX0 35 0 5 := ⟨RX0, TX0, 15, rfl, by decide, inX0, (Or.inl (t1_ 151 rfl rfl))⟩
theorem fpX0_35 (nm : String) : FP RX0 nm 35 0 5 (.int) := ⟨RX0, TX0, 15, tyX0, rfl, by decide, inX0, tyX0_ok, nmX0, by decide +kernel, Or.inl ⟨rfl, (Or.inl (t1_ 151 rfl rfl))⟩⟩
theorem foX6_158 : FO RX6 158 0 5 := ⟨RX0, TX0, 15, rfl, by decide, inX0, (Or.inr ⟨_, (t1_ 152 rfl rfl)⟩)⟩
theorem fpX6_158 (nm : String) : FP RX6 nm 158 0 5 (.int) := ⟨RX0, TX0, 15, tyX0, rfl, by decide, inX0, tyX0_ok, nmX0, by decide +kernel, Or.inl ⟨rfl, (Or.inr ⟨_, (t1_ 152 rfl rfl)⟩)⟩⟩
theorem foX0_38 : FO RX0 38 0 6 := ⟨RX0, TX0, 15, rfl, by decide, inX0, (Or.inl (t1_ 153 rfl rfl))⟩
theorem fpX0_38 (nm : String) : FP RX0 nm 38 0 6 (.int) := ⟨RX0, TX0, 15, tyX0, rfl, by decide, inX0, tyX0_ok, nmX0, by decide +kernel, Or.inl ⟨rfl, (Or.inl (t1_ 153 rfl rfl))⟩⟩
theorem foX0_28 : FO RX0 28 0 7 := ⟨RX0, TX0, 15, rfl, by decide, inX0, (Or.inl (t1_ 154 rfl rfl))⟩
theorem fpX0_28 (nm : String) : FP RX0 nm 28 0 7 (.int) := ⟨RX0, TX0, 15, tyX0, rfl, by decide, inX0, tyX0_ok, nmX0, by decide +kernel, Or.inl ⟨rfl, (Or.inl (t1_ 154 rfl rfl))⟩⟩
theorem foX0_32 : FO RX0 32 0 8 := ⟨RX0, TX0, 15, rfl, by decide, inX0, (Or.inl (t1_ 155 rfl rfl))⟩
theorem fpX0_32 (nm : String) : FP RX0 nm 32 0 8 (.int) := ⟨RX0, TX0, 15, tyX0, rfl, by decide, inX0, tyX0_ok, nmX0, by decide +kernel, Or.inl ⟨rfl, (Or.inl (t1_ 155 rfl rfl))⟩⟩
theorem foX0_47 : FO RX0 47 0 9 := ⟨RX0, TX0, 15, rfl, by decide, inX0, (Or.inl (t1_ 156 rfl rfl))⟩
theorem fpX0_47 (nm : String) : FP RX0 nm 47 0 9 (.int) := ⟨RX0, TX0, 15, tyX0, rfl, by decide, inX0, tyX0_ok, nmX0, by decide +kernel, Or.inl ⟨rfl, (Or.inl (t1_ 156 rfl rfl))⟩⟩
theorem foX0_85 : FO RX0 85 0 10 := ⟨RX0, TX0, 15, rfl, by decide, inX0, (Or.inl (t1_ 157 rfl rfl))⟩
theorem fpX0_85 (nm : String) : FP RX0 nm 85 0 10 (.int) := ⟨RX0, TX0, 15, tyX0, rfl, by decide, inX0, tyX0_ok, nmX0, by decide +kernel, Or.inl ⟨rfl, (Or.inl (t1_ 157 rfl rfl))⟩⟩
theorem foX0_88 : FO RX0 88 0 11 := ⟨RX0, TX0, 15, rfl, by decide, inX0, (Or.inl (t1_ 158 rfl rfl))⟩
theorem fpX0_88 (nm : String) : FP RX0 nm 88 0 11 (.int) := ⟨RX0, TX0, 15, tyX0, rfl, by decide, inX0, tyX0_ok, nmX0, by decide +kernel, Or.inl ⟨rfl, (Or.inl (t1_ 158 rfl rfl))⟩⟩
theorem foX0_50 : FO RX0 50 0 12 := ⟨RX0, TX0, 15, rfl, by decide, inX0, (Or.inl (t1_ 159 rfl rfl))⟩
theorem fpX0_50 (nm : String) : FP RX0 nm 50 0 12 (.boolean) := ⟨RX0, TX0, 15, tyX0, rfl, by decide, inX0, tyX0_ok, nmX0, by decide +kernel, Or.inl ⟨rfl, (Or.inl (t1_ 159 rfl rfl))⟩⟩
theorem foX0_91 : FO RX0 91 0 13 := ⟨RX0, TX0, 15, rfl, by decide, inX0, (Or.inl (t1_ 160 rfl rfl))⟩
theorem fpX0_91 (nm : String) : FP RX0 nm 91 0 13 (.int) := ⟨RX0, TX0, 15, tyX0, rfl, by decide, inX0, tyX0_ok, nmX0, by decide +kernel, Or.inl ⟨rfl, (Or.inl (t1_ 160 rfl rfl))⟩⟩
theorem foX0_94 : FO RX0 94 0 14 := ⟨RX0, TX0, 15, rfl, by decide, inX0, (Or.inl (t1_ 161 rfl rfl))⟩
theorem fpX0_94 (nm : String) : FP RX0 nm 94 0 14 (.int) := ⟨RX0, TX0, 15, tyX0, rfl, by decide, inX0, tyX0_ok, nmX0, by decide +kernel, Or.inl ⟨rfl, (Or.inl (t1_ 161 rfl rfl))⟩⟩
theorem nwX6_39 : NW RX6 39 4 4 [.null, .int 0, .int 0, .int 0] := ⟨RX4, TX4, tyX4, rfl, inX4, tyX4_ok, (t1_ 193 rfl rfl), (t1_ 65 rfl rfl), (t1_ 4 rfl rfl), fun j hj => by
  match j, hj with
  | 0, _ => rfl
  | 1, _ => rfl
  | 2, _ => rfl
  | 3, _ => rfl
  | j + 4, h => exact absurd h (by omega)⟩
theorem ciX6_41 : CI RX6 41 yX4_init tX4_init 0 := ⟨mwX4_init, (Or.inr ⟨_, (t1_ 194 rfl rfl)⟩), rfl, (t1_ 67 rfl rfl), rfl⟩
theorem foX6_10 : FO RX6 10 6 0 := ⟨RX6, TX6, 6, rfl, by decide, inX6, (Or.inl (t1_ 195 rfl rfl))⟩
theorem fpX6_10 : FP RX6 "<init>" 10 6 0 (.object "CaveParty$Ground") := ⟨RX6, TX6, 6, tyX6, rfl, by decide, inX6, tyX6_ok, nmX6, by decide +kernel, Or.inr ⟨rfl, rfl, rfl, (t1_ 195 rfl rfl)⟩⟩
theorem foX6_21 : FO RX6 21 6 1 := ⟨RX6, TX6, 6, rfl, by decide, inX6, (Or.inl (t1_ 196 rfl rfl))⟩
theorem fpX6_21 : FP RX6 "<init>" 21 6 1 (.object "CaveParty$Search") := ⟨RX6, TX6, 6, tyX6, rfl, by decide, inX6, tyX6_ok, nmX6, by decide +kernel, Or.inr ⟨rfl, rfl, rfl, (t1_ 196 rfl rfl)⟩⟩
theorem foX6_28 : FO RX6 28 6 2 := ⟨RX6, TX6, 6, rfl, by decide, inX6, (Or.inl (t1_ 197 rfl rfl))⟩
theorem fpX6_28 : FP RX6 "<init>" 28 6 2 (.object "CaveParty$Layout") := ⟨RX6, TX6, 6, tyX6, rfl, by decide, inX6, tyX6_ok, nmX6, by decide +kernel, Or.inr ⟨rfl, rfl, rfl, (t1_ 197 rfl rfl)⟩⟩
theorem foX6_35 : FO RX6 35 6 3 := ⟨RX6, TX6, 6, rfl, by decide, inX6, (Or.inl (t1_ 198 rfl rfl))⟩
theorem fpX6_35 : FP RX6 "<init>" 35 6 3 (.object "CaveParty$Finder") := ⟨RX6, TX6, 6, tyX6, rfl, by decide, inX6, tyX6_ok, nmX6, by decide +kernel, Or.inr ⟨rfl, rfl, rfl, (t1_ 198 rfl rfl)⟩⟩
theorem foX6_42 : FO RX6 42 6 4 := ⟨RX6, TX6, 6, rfl, by decide, inX6, (Or.inl (t1_ 199 rfl rfl))⟩
theorem fpX6_42 : FP RX6 "<init>" 42 6 4 (.object "CaveParty$Stand") := ⟨RX6, TX6, 6, tyX6, rfl, by decide, inX6, tyX6_ok, nmX6, by decide +kernel, Or.inr ⟨rfl, rfl, rfl, (t1_ 199 rfl rfl)⟩⟩
theorem foX6_46 : FO RX6 46 6 5 := ⟨RX6, TX6, 6, rfl, by decide, inX6, (Or.inl (t1_ 200 rfl rfl))⟩
theorem fpX6_46 (nm : String) : FP RX6 nm 46 6 5 (.object "CaveParty$Way") := ⟨RX6, TX6, 6, tyX6, rfl, by decide, inX6, tyX6_ok, nmX6, by decide +kernel, Or.inl ⟨rfl, (Or.inl (t1_ 200 rfl rfl))⟩⟩
theorem cvL_13 : CV RL 13 yX6_caves tX6_caves 1 := ⟨mwX6_caves, (t1_ 214 rfl rfl), (t1_ 215 rfl rfl), (t1_ 216 rfl rfl)⟩
theorem cvX6_50 : CV RX6 50 yX1_clear tX1_clear 1 := ⟨mwX1_clear, (t1_ 218 rfl rfl), (t1_ 219 rfl rfl), (t1_ 220 rfl rfl)⟩
theorem cvX1_34 : CV RX1 34 yX1_linkCaves tX1_linkCaves 0 := ⟨mwX1_linkCaves, (t1_ 222 rfl rfl), (t1_ 224 rfl rfl), (sm_ 0 rfl rfl)⟩
theorem csX1_50 : CS RX1 50 yJ7_fill_53178 tJ7_fill_53178 2 := ⟨mwJ7_fill_53178, (t1_ 226 rfl rfl), (t1_ 227 rfl rfl)⟩
theorem cvX1_37 : CV RX1 37 yX1_hasPassage tX1_hasPassage 1 := ⟨mwX1_hasPassage, (t1_ 229 rfl rfl), (t1_ 230 rfl rfl), (t1_ 231 rfl rfl)⟩
theorem cvX6_54 : CV RX6 54 yX2_reset tX2_reset 0 := ⟨mwX2_reset, (t1_ 233 rfl rfl), (t1_ 234 rfl rfl), (t1_ 235 rfl rfl)⟩
theorem cvX6_57 : CV RX6 57 yX6_forgetSearchAndPlan tX6_forgetSearchAndPlan 0 := ⟨mwX6_forgetSearchAndPlan, (t1_ 237 rfl rfl), (t1_ 239 rfl rfl), (sm_ 1 rfl rfl)⟩
theorem cvX6_97 : CV RX6 97 yX3_begin tX3_begin 0 := ⟨mwX3_begin, (t2_ 1 rfl rfl), (t2_ 2 rfl rfl), (t2_ 3 rfl rfl)⟩
theorem cvX3_38 : CV RX3 38 yX4_begin tX4_begin 1 := ⟨mwX4_begin, (t2_ 5 rfl rfl), (t2_ 6 rfl rfl), (t2_ 7 rfl rfl)⟩
theorem csX4_15 : CS RX4 15 yJ7_fill_53178 tJ7_fill_53178 2 := ⟨mwJ7_fill_53178, (t2_ 9 rfl rfl), (t1_ 227 rfl rfl)⟩
theorem cvX4_28 : CV RX4 28 yX1_allCaves tX1_allCaves 0 := ⟨mwX1_allCaves, (t2_ 10 rfl rfl), (t2_ 11 rfl rfl), (t2_ 12 rfl rfl)⟩
theorem cvL_18 : CV RL 18 yX6_passage tX6_passage 2 := ⟨mwX6_passage, (t2_ 14 rfl rfl), (t2_ 15 rfl rfl), (t2_ 16 rfl rfl)⟩
theorem cvX6_60 : CV RX6 60 yX1_lowestFree tX1_lowestFree 0 := ⟨mwX1_lowestFree, (t2_ 18 rfl rfl), (t2_ 19 rfl rfl), (t2_ 20 rfl rfl)⟩
theorem cvX6_64 : CV RX6 64 yX1_hasCave tX1_hasCave 1 := ⟨mwX1_hasCave, (t2_ 22 rfl rfl), (t2_ 23 rfl rfl), (t2_ 24 rfl rfl)⟩
theorem cvX6_68 : CV RX6 68 yX1_dig tX1_dig 3 := ⟨mwX1_dig, (t2_ 26 rfl rfl), (t2_ 27 rfl rfl), (t2_ 28 rfl rfl)⟩
theorem csX1_41 : CS RX1 41 yJ9_min_7cf53 tJ9_min_7cf53 2 := ⟨mwJ9_min_7cf53, (t2_ 30 rfl rfl), (t2_ 31 rfl rfl)⟩
theorem csX1_47 : CS RX1 47 yJ9_max_7cf53 tJ9_max_7cf53 2 := ⟨mwJ9_max_7cf53, (t2_ 33 rfl rfl), (t2_ 34 rfl rfl)⟩
theorem cvL_23 : CV RL 23 yX6_drop tX6_drop 1 := ⟨mwX6_drop, (t2_ 36 rfl rfl), (t2_ 37 rfl rfl), (t2_ 38 rfl rfl)⟩
theorem cvX6_72 : CV RX6 72 yX1_hasPassage tX1_hasPassage 1 := ⟨mwX1_hasPassage, (t2_ 40 rfl rfl), (t1_ 230 rfl rfl), (t1_ 231 rfl rfl)⟩
theorem cvX6_75 : CV RX6 75 yX1_fillUp tX1_fillUp 1 := ⟨mwX1_fillUp, (t2_ 41 rfl rfl), (t2_ 42 rfl rfl), (t2_ 43 rfl rfl)⟩
theorem cvL_27 : CV RL 27 yX6_mouth tX6_mouth 1 := ⟨mwX6_mouth, (t2_ 45 rfl rfl), (t2_ 46 rfl rfl), (t2_ 47 rfl rfl)⟩
theorem cvL_31 : CV RL 31 yX6_order tX6_order 3 := ⟨mwX6_order, (t2_ 49 rfl rfl), (t2_ 50 rfl rfl), (t2_ 51 rfl rfl)⟩
theorem cvX6_82 : CV RX6 82 yX1_leadsFrom tX1_leadsFrom 2 := ⟨mwX1_leadsFrom, (t2_ 53 rfl rfl), (t2_ 54 rfl rfl), (t2_ 55 rfl rfl)⟩
theorem cvX6_89 : CV RX6 89 yX3_carryOut tX3_carryOut 3 := ⟨mwX3_carryOut, (t2_ 57 rfl rfl), (t2_ 58 rfl rfl), (t2_ 59 rfl rfl)⟩
theorem cvX3_49 : CV RX3 49 yX3_canBeDone tX3_canBeDone 2 := ⟨mwX3_canBeDone, (t2_ 61 rfl rfl), (t2_ 63 rfl rfl), (sm_ 2 rfl rfl)⟩
theorem cvX3_56 : CV RX3 56 yX4_follow tX4_follow 4 := ⟨mwX4_follow, (t2_ 65 rfl rfl), (t2_ 66 rfl rfl), (t2_ 67 rfl rfl)⟩
theorem cvX4_37 : CV RX4 37 yX4_leave tX4_leave 1 := ⟨mwX4_leave, (t2_ 69 rfl rfl), (t2_ 71 rfl rfl), (sm_ 3 rfl rfl)⟩
theorem cvX4_41 : CV RX4 41 yX4_come tX4_come 1 := ⟨mwX4_come, (t2_ 73 rfl rfl), (t2_ 75 rfl rfl), (sm_ 4 rfl rfl)⟩
theorem cvX4_44 : CV RX4 44 yX1_otherEnd tX1_otherEnd 2 := ⟨mwX1_otherEnd, (t2_ 77 rfl rfl), (t2_ 78 rfl rfl), (t2_ 79 rfl rfl)⟩
theorem cvX4_48 : CV RX4 48 yX1_lostBehind tX1_lostBehind 4 := ⟨mwX1_lostBehind, (t2_ 81 rfl rfl), (t2_ 82 rfl rfl), (t2_ 83 rfl rfl)⟩
theorem cvX1_56 : CV RX1 56 yX1_passagesAt tX1_passagesAt 1 := ⟨mwX1_passagesAt, (t2_ 85 rfl rfl), (t2_ 86 rfl rfl), (t2_ 87 rfl rfl)⟩
theorem cvX1_60 : CV RX1 60 yX1_spread tX1_spread 2 := ⟨mwX1_spread, (t2_ 89 rfl rfl), (t2_ 90 rfl rfl), (t2_ 91 rfl rfl)⟩
theorem cvX3_60 : CV RX3 60 yX4_goBack tX4_goBack 5 := ⟨mwX4_goBack, (t2_ 93 rfl rfl), (t2_ 94 rfl rfl), (t2_ 95 rfl rfl)⟩
theorem csX3_67 : CS RX3 67 yJ9_max_7cf53 tJ9_max_7cf53 2 := ⟨mwJ9_max_7cf53, (t2_ 97 rfl rfl), (t2_ 34 rfl rfl)⟩
theorem cvL_36 : CV RL 36 yX6_undo tX6_undo 0 := ⟨mwX6_undo, (t2_ 98 rfl rfl), (t2_ 99 rfl rfl), (t2_ 100 rfl rfl)⟩
theorem cvX6_93 : CV RX6 93 yX3_takeBack tX3_takeBack 0 := ⟨mwX3_takeBack, (t2_ 102 rfl rfl), (t2_ 103 rfl rfl), (t2_ 104 rfl rfl)⟩
theorem cvL_41 : CV RL 41 yX6_anew tX6_anew 0 := ⟨mwX6_anew, (t2_ 106 rfl rfl), (t2_ 107 rfl rfl), (t2_ 108 rfl rfl)⟩
theorem cvL_45 : CV RL 45 yX6_count tX6_count 1 := ⟨mwX6_count, (t2_ 110 rfl rfl), (t2_ 111 rfl rfl), (t2_ 112 rfl rfl)⟩
theorem csX6_112 : CS RX6 112 yJ6_bitCount_0f7a4 tJ6_bitCount_0f7a4 1 := ⟨mwJ6_bitCount_0f7a4, (t2_ 114 rfl rfl), (t2_ 115 rfl rfl)⟩
theorem kcJ6_265 : Jvm.Cond.constant RJ6 265 (1431655765) ∈ tb_ := (t2_ 117 rfl rfl)
theorem kcJ6_266 : Jvm.Cond.constant RJ6 266 (858993459) ∈ tb_ := (t2_ 118 rfl rfl)
theorem kcJ6_267 : Jvm.Cond.constant RJ6 267 (252645135) ∈ tb_ := (t2_ 119 rfl rfl)
theorem cvX6_118 : CV RX6 118 yX1_passagesAt tX1_passagesAt 1 := ⟨mwX1_passagesAt, (t2_ 120 rfl rfl), (t2_ 86 rfl rfl), (t2_ 87 rfl rfl)⟩
theorem cvX6_127 : CV RX6 127 yX1_parts tX1_parts 0 := ⟨mwX1_parts, (t2_ 121 rfl rfl), (t2_ 122 rfl rfl), (t2_ 123 rfl rfl)⟩
theorem cvX6_130 : CV RX6 130 yX1_isTree tX1_isTree 0 := ⟨mwX1_isTree, (t2_ 125 rfl rfl), (t2_ 126 rfl rfl), (t2_ 127 rfl rfl)⟩
theorem cvX1_63 : CV RX1 63 yX1_parts tX1_parts 0 := ⟨mwX1_parts, (t2_ 129 rfl rfl), (t2_ 122 rfl rfl), (t2_ 123 rfl rfl)⟩
theorem csX1_67 : CS RX1 67 yJ6_bitCount_0f7a4 tJ6_bitCount_0f7a4 1 := ⟨mwJ6_bitCount_0f7a4, (t2_ 130 rfl rfl), (t2_ 115 rfl rfl)⟩
theorem cvL_50 : CV RL 50 yX6_look tX6_look 2 := ⟨mwX6_look, (t2_ 131 rfl rfl), (t2_ 132 rfl rfl), (t2_ 133 rfl rfl)⟩
theorem cvX6_133 : CV RX6 133 yX6_lookAtCave tX6_lookAtCave 2 := ⟨mwX6_lookAtCave, (t2_ 135 rfl rfl), (t2_ 137 rfl rfl), (sm_ 5 rfl rfl)⟩
theorem cvX6_187 : CV RX6 187 yX2_placeOf tX2_placeOf 1 := ⟨mwX2_placeOf, (t2_ 139 rfl rfl), (t2_ 140 rfl rfl), (t2_ 141 rfl rfl)⟩
theorem cvX6_137 : CV RX6 137 yX6_lookAtPassage tX6_lookAtPassage 2 := ⟨mwX6_lookAtPassage, (t2_ 143 rfl rfl), (t2_ 145 rfl rfl), (sm_ 6 rfl rfl)⟩
theorem cvX6_196 : CV RX6 196 yX3_passagesJustLost tX3_passagesJustLost 0 := ⟨mwX3_passagesJustLost, (t2_ 147 rfl rfl), (t2_ 148 rfl rfl), (t2_ 149 rfl rfl)⟩
theorem cvX3_76 : CV RX3 76 yX1_passagesAt tX1_passagesAt 1 := ⟨mwX1_passagesAt, (t2_ 151 rfl rfl), (t2_ 86 rfl rfl), (t2_ 87 rfl rfl)⟩
theorem cvL_54 : CV RL 54 yX6_fewest tX6_fewest 1 := ⟨mwX6_fewest, (t2_ 152 rfl rfl), (t2_ 153 rfl rfl), (t2_ 154 rfl rfl)⟩
theorem cvX6_140 : CV RX6 140 yX6_canBeSolved tX6_canBeSolved 1 := ⟨mwX6_canBeSolved, (t2_ 156 rfl rfl), (t2_ 158 rfl rfl), (sm_ 7 rfl rfl)⟩
theorem csX6_161 : CS RX6 161 yX6_isLaw tX6_isLaw 1 := ⟨mwX6_isLaw, (t2_ 160 rfl rfl), (t2_ 161 rfl rfl)⟩
theorem cvX6_143 : CV RX6 143 yX0_finds tX0_finds 2 := ⟨mwX0_finds, (t2_ 163 rfl rfl), (t2_ 164 rfl rfl), (t2_ 165 rfl rfl)⟩
theorem csX0_41 : CS RX0 41 yJ7_fill_53178 tJ7_fill_53178 2 := ⟨mwJ7_fill_53178, (t2_ 167 rfl rfl), (t1_ 227 rfl rfl)⟩
theorem cvX0_54 : CV RX0 54 yX1_allCaves tX1_allCaves 0 := ⟨mwX1_allCaves, (t2_ 168 rfl rfl), (t2_ 11 rfl rfl), (t2_ 12 rfl rfl)⟩
theorem cvX0_60 : CV RX0 60 yX0_meet tX0_meet 6 := ⟨mwX0_meet, (t2_ 169 rfl rfl), (t2_ 171 rfl rfl), (sm_ 8 rfl rfl)⟩
theorem cvX0_125 : CV RX0 125 yX1_hangsTogether tX1_hangsTogether 2 := ⟨mwX1_hangsTogether, (t2_ 173 rfl rfl), (t2_ 174 rfl rfl), (t2_ 175 rfl rfl)⟩
theorem kcX0_129 : Jvm.Cond.constant RX0 129 (262144) ∈ tb_ := (t2_ 177 rfl rfl)
theorem cvX0_130 : CV RX0 130 yX0_slotOf tX0_slotOf 1 := ⟨mwX0_slotOf, (t2_ 178 rfl rfl), (t2_ 180 rfl rfl), (sm_ 9 rfl rfl)⟩
theorem kcX0_137 : Jvm.Cond.constant RX0 137 (-1640531535) ∈ tb_ := (t2_ 182 rfl rfl)
theorem csX0_133 : CS RX0 133 yX5_packed tX5_packed 3 := ⟨mwX5_packed, (t2_ 183 rfl rfl), (t2_ 184 rfl rfl)⟩
theorem cvX0_64 : CV RX0 64 yX0_takeUp tX0_takeUp 1 := ⟨mwX0_takeUp, (t2_ 186 rfl rfl), (t2_ 188 rfl rfl), (sm_ 10 rfl rfl)⟩
theorem cvX0_68 : CV RX0 68 yX0_tryPuts tX0_tryPuts 0 := ⟨mwX0_tryPuts, (t2_ 190 rfl rfl), (t2_ 192 rfl rfl), (sm_ 11 rfl rfl)⟩
theorem cvX0_100 : CV RX0 100 yX1_allows tX1_allows 4 := ⟨mwX1_allows, (t2_ 194 rfl rfl), (t2_ 195 rfl rfl), (t2_ 196 rfl rfl)⟩
theorem csX0_104 : CS RX0 104 yX0_one tX0_one 1 := ⟨mwX0_one, (t2_ 198 rfl rfl), (t2_ 199 rfl rfl)⟩
theorem cvX0_71 : CV RX0 71 yX0_tryLifts tX0_tryLifts 0 := ⟨mwX0_tryLifts, (t2_ 201 rfl rfl), (t2_ 203 rfl rfl), (sm_ 12 rfl rfl)⟩
theorem cvX0_108 : CV RX0 108 yX0_guardedWithout tX0_guardedWithout 1 := ⟨mwX0_guardedWithout, (t2_ 205 rfl rfl), (t2_ 207 rfl rfl), (sm_ 13 rfl rfl)⟩
theorem cvX0_111 : CV RX0 111 yX1_lostBehind tX1_lostBehind 4 := ⟨mwX1_lostBehind, (t2_ 209 rfl rfl), (t2_ 82 rfl rfl), (t2_ 83 rfl rfl)⟩
theorem cvX0_74 : CV RX0 74 yX0_trySlides tX0_trySlides 0 := ⟨mwX0_trySlides, (t2_ 210 rfl rfl), (t2_ 212 rfl rfl), (sm_ 14 rfl rfl)⟩
theorem cvX0_115 : CV RX0 115 yX0_trySlidesFrom tX0_trySlidesFrom 1 := ⟨mwX0_trySlidesFrom, (t2_ 214 rfl rfl), (t2_ 216 rfl rfl), (sm_ 15 rfl rfl)⟩
theorem cvX0_121 : CV RX0 121 yX1_otherEnd tX1_otherEnd 2 := ⟨mwX1_otherEnd, (t2_ 218 rfl rfl), (t2_ 78 rfl rfl), (t2_ 79 rfl rfl)⟩
theorem cvX6_146 : CV RX6 146 yX0_wayToGoal tX0_wayToGoal 0 := ⟨mwX0_wayToGoal, (t2_ 219 rfl rfl), (t2_ 220 rfl rfl), (t2_ 221 rfl rfl)⟩
theorem nwX0_77 : NW RX0 77 5 1 [.null] := ⟨RX5, TX5, tyX5, rfl, inX5, tyX5_ok, (t2_ 223 rfl rfl), (t2_ 224 rfl rfl), (t1_ 11 rfl rfl), fun j hj => by
  match j, hj with
  | 0, _ => rfl
  | j + 1, h => exact absurd h (by omega)⟩
theorem ciX0_79 : CI RX0 79 yX5_init tX5_init 1 := ⟨mwX5_init, (Or.inl (t2_ 225 rfl rfl)), rfl, (t2_ 226 rfl rfl), rfl⟩
theorem coX5_3 : Jvm.Cond.methodLink RX5 3 objectInit ∈ tb_ := (t2_ 228 rfl rfl)
theorem csX5_9 : CS RX5 9 yJ9_max_7cf53 tJ9_max_7cf53 2 := ⟨mwJ9_max_7cf53, (t2_ 229 rfl rfl), (t2_ 34 rfl rfl)⟩
theorem foX5_15 : FO RX5 15 5 0 := ⟨RX5, TX5, 1, rfl, by decide, inX5, (Or.inl (t2_ 230 rfl rfl))⟩
theorem fpX5_15 : FP RX5 "<init>" 15 5 0 (.array .int) := ⟨RX5, TX5, 1, tyX5, rfl, by decide, inX5, tyX5_ok, nmX5, by decide +kernel, Or.inr ⟨rfl, rfl, rfl, (t2_ 230 rfl rfl)⟩⟩
theorem cvX0_81 : CV RX0 81 yX5_put tX5_put 2 := ⟨mwX5_put, (t2_ 234 rfl rfl), (t2_ 235 rfl rfl), (t2_ 236 rfl rfl)⟩
theorem cvL_58 : CV RL 58 yX6_plan tX6_plan 2 := ⟨mwX6_plan, (t2_ 238 rfl rfl), (t2_ 239 rfl rfl), (t3_ 0 rfl rfl)⟩
theorem cvX6_150 : CV RX6 150 yX5_length tX5_length 0 := ⟨mwX5_length, (t3_ 2 rfl rfl), (t3_ 3 rfl rfl), (t3_ 4 rfl rfl)⟩
theorem cvX6_155 : CV RX6 155 yX5_tell tX5_tell 2 := ⟨mwX5_tell, (t3_ 6 rfl rfl), (t3_ 7 rfl rfl), (t3_ 8 rfl rfl)⟩
theorem cvL_62 : CV RL 62 yX6_witness tX6_witness 2 := ⟨mwX6_witness, (t3_ 10 rfl rfl), (t3_ 11 rfl rfl), (t3_ 12 rfl rfl)⟩
theorem cvL_66 : CV RL 66 yX6_judge tX6_judge 1 := ⟨mwX6_judge, (t3_ 14 rfl rfl), (t3_ 15 rfl rfl), (t3_ 16 rfl rfl)⟩
theorem cvX6_164 : CV RX6 164 yX6_isPlanBy tX6_isPlanBy 1 := ⟨mwX6_isPlanBy, (t3_ 18 rfl rfl), (t3_ 20 rfl rfl), (sm_ 16 rfl rfl)⟩
theorem cvX6_199 : CV RX6 199 yX4_begin tX4_begin 1 := ⟨mwX4_begin, (t3_ 22 rfl rfl), (t2_ 6 rfl rfl), (t2_ 7 rfl rfl)⟩
theorem cvX6_207 : CV RX6 207 yX1_allows tX1_allows 4 := ⟨mwX1_allows, (t3_ 23 rfl rfl), (t2_ 195 rfl rfl), (t2_ 196 rfl rfl)⟩
theorem cvX6_214 : CV RX6 214 yX4_follow tX4_follow 4 := ⟨mwX4_follow, (t3_ 24 rfl rfl), (t2_ 66 rfl rfl), (t2_ 67 rfl rfl)⟩
theorem cvX6_221 : CV RX6 221 yX1_hangsTogether tX1_hangsTogether 2 := ⟨mwX1_hangsTogether, (t3_ 25 rfl rfl), (t2_ 174 rfl rfl), (t2_ 175 rfl rfl)⟩
theorem cvL_70 : CV RL 70 yX6_place tX6_place 2 := ⟨mwX6_place, (t3_ 26 rfl rfl), (t3_ 27 rfl rfl), (t3_ 28 rfl rfl)⟩
theorem cvX6_167 : CV RX6 167 yX2_swapIn tX2_swapIn 2 := ⟨mwX2_swapIn, (t3_ 30 rfl rfl), (t3_ 31 rfl rfl), (t3_ 32 rfl rfl)⟩
theorem cvX2_28 : CV RX2 28 yX2_placeOf tX2_placeOf 1 := ⟨mwX2_placeOf, (t3_ 34 rfl rfl), (t2_ 140 rfl rfl), (t2_ 141 rfl rfl)⟩
theorem cvL_75 : CV RL 75 yX6_cut tX6_cut 1 := ⟨mwX6_cut, (t3_ 35 rfl rfl), (t3_ 36 rfl rfl), (t3_ 37 rfl rfl)⟩
theorem cvX6_171 : CV RX6 171 yX2_greatestCut tX2_greatestCut 0 := ⟨mwX2_greatestCut, (t3_ 39 rfl rfl), (t3_ 40 rfl rfl), (t3_ 41 rfl rfl)⟩
theorem cvX2_35 : CV RX2 35 yX2_cutBehind tX2_cutBehind 1 := ⟨mwX2_cutBehind, (t3_ 43 rfl rfl), (t3_ 44 rfl rfl), (t3_ 45 rfl rfl)⟩
theorem cvX2_32 : CV RX2 32 yX1_cutBetween tX1_cutBetween 1 := ⟨mwX1_cutBetween, (t3_ 47 rfl rfl), (t3_ 48 rfl rfl), (t3_ 49 rfl rfl)⟩
theorem csX2_38 : CS RX2 38 yJ9_max_7cf53 tJ9_max_7cf53 2 := ⟨mwJ9_max_7cf53, (t3_ 51 rfl rfl), (t2_ 34 rfl rfl)⟩
theorem cvX6_174 : CV RX6 174 yX2_cutBehind tX2_cutBehind 1 := ⟨mwX2_cutBehind, (t3_ 52 rfl rfl), (t3_ 44 rfl rfl), (t3_ 45 rfl rfl)⟩
theorem cvL_79 : CV RL 79 yX6_width tX6_width 0 := ⟨mwX6_width, (t3_ 53 rfl rfl), (t3_ 54 rfl rfl), (t3_ 55 rfl rfl)⟩
theorem cvX6_177 : CV RX6 177 yX2_becomeTheLeast tX2_becomeTheLeast 0 := ⟨mwX2_becomeTheLeast, (t3_ 57 rfl rfl), (t3_ 58 rfl rfl), (t3_ 59 rfl rfl)⟩
theorem cvX2_44 : CV RX2 44 yX1_allCaves tX1_allCaves 0 := ⟨mwX1_allCaves, (t3_ 61 rfl rfl), (t2_ 11 rfl rfl), (t2_ 12 rfl rfl)⟩
theorem cvX2_48 : CV RX2 48 yX2_leastWorstBehind tX2_leastWorstBehind 1 := ⟨mwX2_leastWorstBehind, (t3_ 62 rfl rfl), (t3_ 64 rfl rfl), (sm_ 17 rfl rfl)⟩
theorem csX2_54 : CS RX2 54 yJ9_min_7cf53 tJ9_min_7cf53 2 := ⟨mwJ9_min_7cf53, (t3_ 66 rfl rfl), (t2_ 31 rfl rfl)⟩
theorem cvX2_51 : CV RX2 51 yX2_firstWithin tX2_firstWithin 2 := ⟨mwX2_firstWithin, (t3_ 67 rfl rfl), (t3_ 69 rfl rfl), (sm_ 18 rfl rfl)⟩
theorem nwL_10 : NW RL 10 7 25 [.int 0, .int 0, .null, .null, .null, .null, .null, .int 0, .int 0, .int 0, .null, .null, .null, .null, .null, .null, .null, .null, .null, .null, .int 0, .int 0, .int 0, .null, .null] := ⟨RX7, TX7, tyX7, rfl, inX7, tyX7_ok, (t3_ 71 rfl rfl), (t3_ 72 rfl rfl), (t1_ 7 rfl rfl), fun j hj => by
  match j, hj with
  | 0, _ => rfl
  | 1, _ => rfl
  | 2, _ => rfl
  | 3, _ => rfl
  | 4, _ => rfl
  | 5, _ => rfl
  | 6, _ => rfl
  | 7, _ => rfl
  | 8, _ => rfl
  | 9, _ => rfl
  | 10, _ => rfl
  | 11, _ => rfl
  | 12, _ => rfl
  | 13, _ => rfl
  | 14, _ => rfl
  | 15, _ => rfl
  | 16, _ => rfl
  | 17, _ => rfl
  | 18, _ => rfl
  | 19, _ => rfl
  | 20, _ => rfl
  | 21, _ => rfl
  | 22, _ => rfl
  | 23, _ => rfl
  | 24, _ => rfl
  | j + 25, h => exact absurd h (by omega)⟩
theorem ciL_12 : CI RL 12 yX7_init tX7_init 0 := ⟨mwX7_init, (Or.inl (t3_ 73 rfl rfl)), rfl, (t3_ 74 rfl rfl), rfl⟩
theorem coX7_1 : Jvm.Cond.methodLink RX7 1 objectInit ∈ tb_ := (t3_ 76 rfl rfl)
theorem kcX7_44 : Jvm.Cond.constant RX7 44 (524288) ∈ tb_ := (t3_ 77 rfl rfl)
theorem kcX7_48 : Jvm.Cond.constant RX7 48 (262144) ∈ tb_ := (t3_ 78 rfl rfl)
theorem foX7_68 : FO RX7 68 7 0 := ⟨RX7, TX7, 25, rfl, by decide, inX7, (Or.inl (t3_ 79 rfl rfl))⟩
theorem fpX7_68 (nm : String) : FP RX7 nm 68 7 0 (.int) := ⟨RX7, TX7, 25, tyX7, rfl, by decide, inX7, tyX7_ok, nmX7, by decide +kernel, Or.inl ⟨rfl, (Or.inl (t3_ 79 rfl rfl))⟩⟩
theorem foX7_74 : FO RX7 74 7 1 := ⟨RX7, TX7, 25, rfl, by decide, inX7, (Or.inl (t3_ 80 rfl rfl))⟩
theorem fpX7_74 (nm : String) : FP RX7 nm 74 7 1 (.int) := ⟨RX7, TX7, 25, tyX7, rfl, by decide, inX7, tyX7_ok, nmX7, by decide +kernel, Or.inl ⟨rfl, (Or.inl (t3_ 80 rfl rfl))⟩⟩
theorem foX7_7 : FO RX7 7 7 2 := ⟨RX7, TX7, 25, rfl, by decide, inX7, (Or.inl (t3_ 81 rfl rfl))⟩
theorem fpX7_7 : FP RX7 "<init>" 7 7 2 (.array .int) := ⟨RX7, TX7, 25, tyX7, rfl, by decide, inX7, tyX7_ok, nmX7, by decide +kernel, Or.inr ⟨rfl, rfl, rfl, (t3_ 81 rfl rfl)⟩⟩
theorem foX7_13 : FO RX7 13 7 3 := ⟨RX7, TX7, 25, rfl, by decide, inX7, (Or.inl (t3_ 82 rfl rfl))⟩
theorem fpX7_13 : FP RX7 "<init>" 13 7 3 (.array .int) := ⟨RX7, TX7, 25, tyX7, rfl, by decide, inX7, tyX7_ok, nmX7, by decide +kernel, Or.inr ⟨rfl, rfl, rfl, (t3_ 82 rfl rfl)⟩⟩
theorem foX7_16 : FO RX7 16 7 4 := ⟨RX7, TX7, 25, rfl, by decide, inX7, (Or.inl (t3_ 83 rfl rfl))⟩
theorem fpX7_16 : FP RX7 "<init>" 16 7 4 (.array .boolean) := ⟨RX7, TX7, 25, tyX7, rfl, by decide, inX7, tyX7_ok, nmX7, by decide +kernel, Or.inr ⟨rfl, rfl, rfl, (t3_ 83 rfl rfl)⟩⟩
theorem foX7_20 : FO RX7 20 7 5 := ⟨RX7, TX7, 25, rfl, by decide, inX7, (Or.inl (t3_ 84 rfl rfl))⟩
theorem fpX7_20 : FP RX7 "<init>" 20 7 5 (.array .int) := ⟨RX7, TX7, 25, tyX7, rfl, by decide, inX7, tyX7_ok, nmX7, by decide +kernel, Or.inr ⟨rfl, rfl, rfl, (t3_ 84 rfl rfl)⟩⟩
theorem foX7_23 : FO RX7 23 7 6 := ⟨RX7, TX7, 25, rfl, by decide, inX7, (Or.inl (t3_ 85 rfl rfl))⟩
theorem fpX7_23 : FP RX7 "<init>" 23 7 6 (.array .int) := ⟨RX7, TX7, 25, tyX7, rfl, by decide, inX7, tyX7_ok, nmX7, by decide +kernel, Or.inr ⟨rfl, rfl, rfl, (t3_ 85 rfl rfl)⟩⟩
theorem foX7_91 : FO RX7 91 7 7 := ⟨RX7, TX7, 25, rfl, by decide, inX7, (Or.inl (t3_ 86 rfl rfl))⟩
theorem fpX7_91 (nm : String) : FP RX7 nm 91 7 7 (.int) := ⟨RX7, TX7, 25, tyX7, rfl, by decide, inX7, tyX7_ok, nmX7, by decide +kernel, Or.inl ⟨rfl, (Or.inl (t3_ 86 rfl rfl))⟩⟩
theorem foX7_94 : FO RX7 94 7 8 := ⟨RX7, TX7, 25, rfl, by decide, inX7, (Or.inl (t3_ 87 rfl rfl))⟩
theorem fpX7_94 (nm : String) : FP RX7 nm 94 7 8 (.int) := ⟨RX7, TX7, 25, tyX7, rfl, by decide, inX7, tyX7_ok, nmX7, by decide +kernel, Or.inl ⟨rfl, (Or.inl (t3_ 87 rfl rfl))⟩⟩
theorem foX7_107 : FO RX7 107 7 9 := ⟨RX7, TX7, 25, rfl, by decide, inX7, (Or.inl (t3_ 88 rfl rfl))⟩
theorem fpX7_107 (nm : String) : FP RX7 nm 107 7 9 (.int) := ⟨RX7, TX7, 25, tyX7, rfl, by decide, inX7, tyX7_ok, nmX7, by decide +kernel, Or.inl ⟨rfl, (Or.inl (t3_ 88 rfl rfl))⟩⟩
theorem foX7_26 : FO RX7 26 7 10 := ⟨RX7, TX7, 25, rfl, by decide, inX7, (Or.inl (t3_ 89 rfl rfl))⟩
theorem fpX7_26 : FP RX7 "<init>" 26 7 10 (.array .int) := ⟨RX7, TX7, 25, tyX7, rfl, by decide, inX7, tyX7_ok, nmX7, by decide +kernel, Or.inr ⟨rfl, rfl, rfl, (t3_ 89 rfl rfl)⟩⟩
theorem foX7_29 : FO RX7 29 7 11 := ⟨RX7, TX7, 25, rfl, by decide, inX7, (Or.inl (t3_ 90 rfl rfl))⟩
theorem fpX7_29 : FP RX7 "<init>" 29 7 11 (.array .int) := ⟨RX7, TX7, 25, tyX7, rfl, by decide, inX7, tyX7_ok, nmX7, by decide +kernel, Or.inr ⟨rfl, rfl, rfl, (t3_ 90 rfl rfl)⟩⟩
theorem foX7_32 : FO RX7 32 7 12 := ⟨RX7, TX7, 25, rfl, by decide, inX7, (Or.inl (t3_ 91 rfl rfl))⟩
theorem fpX7_32 : FP RX7 "<init>" 32 7 12 (.array .int) := ⟨RX7, TX7, 25, tyX7, rfl, by decide, inX7, tyX7_ok, nmX7, by decide +kernel, Or.inr ⟨rfl, rfl, rfl, (t3_ 91 rfl rfl)⟩⟩
theorem foX7_35 : FO RX7 35 7 13 := ⟨RX7, TX7, 25, rfl, by decide, inX7, (Or.inl (t3_ 92 rfl rfl))⟩
theorem fpX7_35 : FP RX7 "<init>" 35 7 13 (.array .int) := ⟨RX7, TX7, 25, tyX7, rfl, by decide, inX7, tyX7_ok, nmX7, by decide +kernel, Or.inr ⟨rfl, rfl, rfl, (t3_ 92 rfl rfl)⟩⟩
theorem foX7_38 : FO RX7 38 7 14 := ⟨RX7, TX7, 25, rfl, by decide, inX7, (Or.inl (t3_ 93 rfl rfl))⟩
theorem fpX7_38 : FP RX7 "<init>" 38 7 14 (.array .int) := ⟨RX7, TX7, 25, tyX7, rfl, by decide, inX7, tyX7_ok, nmX7, by decide +kernel, Or.inr ⟨rfl, rfl, rfl, (t3_ 93 rfl rfl)⟩⟩
theorem foX7_41 : FO RX7 41 7 15 := ⟨RX7, TX7, 25, rfl, by decide, inX7, (Or.inl (t3_ 94 rfl rfl))⟩
theorem fpX7_41 : FP RX7 "<init>" 41 7 15 (.array .int) := ⟨RX7, TX7, 25, tyX7, rfl, by decide, inX7, tyX7_ok, nmX7, by decide +kernel, Or.inr ⟨rfl, rfl, rfl, (t3_ 94 rfl rfl)⟩⟩
theorem foX7_45 : FO RX7 45 7 16 := ⟨RX7, TX7, 25, rfl, by decide, inX7, (Or.inl (t3_ 95 rfl rfl))⟩
theorem fpX7_45 : FP RX7 "<init>" 45 7 16 (.array .int) := ⟨RX7, TX7, 25, tyX7, rfl, by decide, inX7, tyX7_ok, nmX7, by decide +kernel, Or.inr ⟨rfl, rfl, rfl, (t3_ 95 rfl rfl)⟩⟩
theorem foX7_49 : FO RX7 49 7 17 := ⟨RX7, TX7, 25, rfl, by decide, inX7, (Or.inl (t3_ 96 rfl rfl))⟩
theorem fpX7_49 : FP RX7 "<init>" 49 7 17 (.array .int) := ⟨RX7, TX7, 25, tyX7, rfl, by decide, inX7, tyX7_ok, nmX7, by decide +kernel, Or.inr ⟨rfl, rfl, rfl, (t3_ 96 rfl rfl)⟩⟩
theorem foX7_52 : FO RX7 52 7 18 := ⟨RX7, TX7, 25, rfl, by decide, inX7, (Or.inl (t3_ 97 rfl rfl))⟩
theorem fpX7_52 : FP RX7 "<init>" 52 7 18 (.array .int) := ⟨RX7, TX7, 25, tyX7, rfl, by decide, inX7, tyX7_ok, nmX7, by decide +kernel, Or.inr ⟨rfl, rfl, rfl, (t3_ 97 rfl rfl)⟩⟩
theorem foX7_55 : FO RX7 55 7 19 := ⟨RX7, TX7, 25, rfl, by decide, inX7, (Or.inl (t3_ 98 rfl rfl))⟩
theorem fpX7_55 : FP RX7 "<init>" 55 7 19 (.array .int) := ⟨RX7, TX7, 25, tyX7, rfl, by decide, inX7, tyX7_ok, nmX7, by decide +kernel, Or.inr ⟨rfl, rfl, rfl, (t3_ 98 rfl rfl)⟩⟩
theorem foX7_159 : FO RX7 159 7 20 := ⟨RX7, TX7, 25, rfl, by decide, inX7, (Or.inl (t3_ 99 rfl rfl))⟩
theorem fpX7_159 (nm : String) : FP RX7 nm 159 7 20 (.int) := ⟨RX7, TX7, 25, tyX7, rfl, by decide, inX7, tyX7_ok, nmX7, by decide +kernel, Or.inl ⟨rfl, (Or.inl (t3_ 99 rfl rfl))⟩⟩
theorem foX7_150 : FO RX7 150 7 21 := ⟨RX7, TX7, 25, rfl, by decide, inX7, (Or.inl (t3_ 100 rfl rfl))⟩
theorem fpX7_150 (nm : String) : FP RX7 nm 150 7 21 (.boolean) := ⟨RX7, TX7, 25, tyX7, rfl, by decide, inX7, tyX7_ok, nmX7, by decide +kernel, Or.inl ⟨rfl, (Or.inl (t3_ 100 rfl rfl))⟩⟩
theorem foX7_58 : FO RX7 58 7 22 := ⟨RX7, TX7, 25, rfl, by decide, inX7, (Or.inl (t3_ 101 rfl rfl))⟩
theorem fpX7_58 (nm : String) : FP RX7 nm 58 7 22 (.int) := ⟨RX7, TX7, 25, tyX7, rfl, by decide, inX7, tyX7_ok, nmX7, by decide +kernel, Or.inl ⟨rfl, (Or.inl (t3_ 101 rfl rfl))⟩⟩
theorem foX7_62 : FO RX7 62 7 23 := ⟨RX7, TX7, 25, rfl, by decide, inX7, (Or.inl (t3_ 102 rfl rfl))⟩
theorem fpX7_62 : FP RX7 "<init>" 62 7 23 (.array .int) := ⟨RX7, TX7, 25, tyX7, rfl, by decide, inX7, tyX7_ok, nmX7, by decide +kernel, Or.inr ⟨rfl, rfl, rfl, (t3_ 102 rfl rfl)⟩⟩
theorem foX7_65 : FO RX7 65 7 24 := ⟨RX7, TX7, 25, rfl, by decide, inX7, (Or.inl (t3_ 103 rfl rfl))⟩
theorem fpX7_65 : FP RX7 "<init>" 65 7 24 (.array .int) := ⟨RX7, TX7, 25, tyX7, rfl, by decide, inX7, tyX7_ok, nmX7, by decide +kernel, Or.inr ⟨rfl, rfl, rfl, (t3_ 103 rfl rfl)⟩⟩
theorem cvL_17 : CV RL 17 yX7_caves tX7_caves 1 := ⟨mwX7_caves, (t3_ 156 rfl rfl), (t3_ 157 rfl rfl), (t3_ 158 rfl rfl)⟩
theorem cvX7_77 : CV RX7 77 yX7_changes tX7_changes 0 := ⟨mwX7_changes, (t3_ 160 rfl rfl), (t3_ 162 rfl rfl), (sm_ 19 rfl rfl)⟩
theorem cvX7_71 : CV RX7 71 yX7_anew tX7_anew 0 := ⟨mwX7_anew, (t3_ 164 rfl rfl), (t3_ 165 rfl rfl), (t3_ 166 rfl rfl)⟩
theorem cvX7_110 : CV RX7 110 yX7_begins tX7_begins 0 := ⟨mwX7_begins, (t3_ 168 rfl rfl), (t3_ 170 rfl rfl), (sm_ 20 rfl rfl)⟩
theorem cvX7_113 : CV RX7 113 yX7_keeps tX7_keeps 0 := ⟨mwX7_keeps, (t3_ 172 rfl rfl), (t3_ 174 rfl rfl), (sm_ 21 rfl rfl)⟩
theorem cvL_22 : CV RL 22 yX7_passage tX7_passage 2 := ⟨mwX7_passage, (t3_ 176 rfl rfl), (t3_ 177 rfl rfl), (t3_ 178 rfl rfl)⟩
theorem cvX7_80 : CV RX7 80 yX7_isCave tX7_isCave 1 := ⟨mwX7_isCave, (t3_ 180 rfl rfl), (t3_ 182 rfl rfl), (sm_ 22 rfl rfl)⟩
theorem cvL_26 : CV RL 26 yX7_drop tX7_drop 1 := ⟨mwX7_drop, (t3_ 184 rfl rfl), (t3_ 185 rfl rfl), (t3_ 186 rfl rfl)⟩
theorem cvX7_84 : CV RX7 84 yX7_isPassage tX7_isPassage 1 := ⟨mwX7_isPassage, (t3_ 188 rfl rfl), (t3_ 190 rfl rfl), (sm_ 23 rfl rfl)⟩
theorem cvL_30 : CV RL 30 yX7_mouth tX7_mouth 1 := ⟨mwX7_mouth, (t3_ 192 rfl rfl), (t3_ 193 rfl rfl), (t3_ 194 rfl rfl)⟩
theorem cvL_44 : CV RL 44 yX7_anew tX7_anew 0 := ⟨mwX7_anew, (t3_ 196 rfl rfl), (t3_ 165 rfl rfl), (t3_ 166 rfl rfl)⟩
theorem cvL_35 : CV RL 35 yX7_order tX7_order 3 := ⟨mwX7_order, (t3_ 197 rfl rfl), (t3_ 198 rfl rfl), (t3_ 199 rfl rfl)⟩
theorem cvX7_116 : CV RX7 116 yX7_isAt tX7_isAt 2 := ⟨mwX7_isAt, (t3_ 201 rfl rfl), (t3_ 203 rfl rfl), (sm_ 24 rfl rfl)⟩
theorem cvX7_120 : CV RX7 120 yX7_comes tX7_comes 1 := ⟨mwX7_comes, (t3_ 205 rfl rfl), (t3_ 207 rfl rfl), (sm_ 25 rfl rfl)⟩
theorem cvX7_123 : CV RX7 123 yX7_below tX7_below 0 := ⟨mwX7_below, (t3_ 209 rfl rfl), (t3_ 211 rfl rfl), (sm_ 26 rfl rfl)⟩
theorem cvX7_127 : CV RX7 127 yX7_does tX7_does 3 := ⟨mwX7_does, (t3_ 213 rfl rfl), (t3_ 215 rfl rfl), (sm_ 27 rfl rfl)⟩
theorem cvX7_100 : CV RX7 100 yX7_other tX7_other 2 := ⟨mwX7_other, (t3_ 217 rfl rfl), (t3_ 219 rfl rfl), (sm_ 28 rfl rfl)⟩
theorem cvX7_103 : CV RX7 103 yX7_settles tX7_settles 1 := ⟨mwX7_settles, (t3_ 221 rfl rfl), (t3_ 223 rfl rfl), (sm_ 29 rfl rfl)⟩
theorem cvX7_97 : CV RX7 97 yX7_spreads tX7_spreads 0 := ⟨mwX7_spreads, (t3_ 225 rfl rfl), (t3_ 227 rfl rfl), (sm_ 30 rfl rfl)⟩
theorem cvL_40 : CV RL 40 yX7_undo tX7_undo 0 := ⟨mwX7_undo, (t3_ 229 rfl rfl), (t3_ 230 rfl rfl), (t3_ 231 rfl rfl)⟩
theorem cvL_49 : CV RL 49 yX7_count tX7_count 1 := ⟨mwX7_count, (t3_ 233 rfl rfl), (t3_ 234 rfl rfl), (t3_ 235 rfl rfl)⟩
theorem cvX7_131 : CV RX7 131 yX7_party tX7_party 0 := ⟨mwX7_party, (t3_ 237 rfl rfl), (t3_ 239 rfl rfl), (sm_ 31 rfl rfl)⟩
theorem csX7_134 : CS RX7 134 yX7_bits tX7_bits 1 := ⟨mwX7_bits, (t4_ 1 rfl rfl), (t4_ 2 rfl rfl)⟩
theorem cvX7_138 : CV RX7 138 yX7_passages tX7_passages 0 := ⟨mwX7_passages, (t4_ 4 rfl rfl), (t4_ 6 rfl rfl), (sm_ 32 rfl rfl)⟩
theorem cvX7_141 : CV RX7 141 yX7_pieces tX7_pieces 0 := ⟨mwX7_pieces, (t4_ 8 rfl rfl), (t4_ 10 rfl rfl), (sm_ 33 rfl rfl)⟩
theorem cvX7_87 : CV RX7 87 yX7_reached tX7_reached 2 := ⟨mwX7_reached, (t4_ 12 rfl rfl), (t4_ 14 rfl rfl), (sm_ 34 rfl rfl)⟩
theorem cvL_53 : CV RL 53 yX7_look tX7_look 2 := ⟨mwX7_look, (t4_ 16 rfl rfl), (t4_ 17 rfl rfl), (t4_ 18 rfl rfl)⟩
theorem cvX7_144 : CV RX7 144 yX7_degree tX7_degree 1 := ⟨mwX7_degree, (t4_ 20 rfl rfl), (t4_ 22 rfl rfl), (sm_ 35 rfl rfl)⟩
theorem cvX7_147 : CV RX7 147 yX7_placeOf tX7_placeOf 1 := ⟨mwX7_placeOf, (t4_ 24 rfl rfl), (t4_ 26 rfl rfl), (sm_ 36 rfl rfl)⟩
theorem cvL_57 : CV RL 57 yX7_fewest tX7_fewest 1 := ⟨mwX7_fewest, (t4_ 28 rfl rfl), (t4_ 29 rfl rfl), (t4_ 30 rfl rfl)⟩
theorem cvX7_181 : CV RX7 181 yX7_isSmall tX7_isSmall 1 := ⟨mwX7_isSmall, (t4_ 32 rfl rfl), (t4_ 34 rfl rfl), (sm_ 37 rfl rfl)⟩
theorem cvX7_184 : CV RX7 184 yX7_finds tX7_finds 2 := ⟨mwX7_finds, (t4_ 36 rfl rfl), (t4_ 38 rfl rfl), (sm_ 38 rfl rfl)⟩
theorem cvX7_162 : CV RX7 162 yX7_meets tX7_meets 3 := ⟨mwX7_meets, (t4_ 40 rfl rfl), (t4_ 42 rfl rfl), (sm_ 39 rfl rfl)⟩
theorem cvX7_154 : CV RX7 154 yX7_number tX7_number 1 := ⟨mwX7_number, (t4_ 44 rfl rfl), (t4_ 46 rfl rfl), (sm_ 40 rfl rfl)⟩
theorem kcX7_157 : Jvm.Cond.constant RX7 157 (-1640531535) ∈ tb_ := (t4_ 48 rfl rfl)
theorem kcX7_158 : Jvm.Cond.constant RX7 158 (524287) ∈ tb_ := (t4_ 49 rfl rfl)
theorem cvX7_166 : CV RX7 166 yX7_shows tX7_shows 2 := ⟨mwX7_shows, (t4_ 50 rfl rfl), (t4_ 52 rfl rfl), (sm_ 41 rfl rfl)⟩
theorem cvX7_170 : CV RX7 170 yX7_may tX7_may 4 := ⟨mwX7_may, (t4_ 54 rfl rfl), (t4_ 56 rfl rfl), (sm_ 42 rfl rfl)⟩
theorem cvX7_174 : CV RX7 174 yX7_hangs tX7_hangs 1 := ⟨mwX7_hangs, (t4_ 58 rfl rfl), (t4_ 60 rfl rfl), (sm_ 43 rfl rfl)⟩
theorem cvX7_177 : CV RX7 177 yX7_isSearched tX7_isSearched 0 := ⟨mwX7_isSearched, (t4_ 62 rfl rfl), (t4_ 64 rfl rfl), (sm_ 44 rfl rfl)⟩
theorem cvL_61 : CV RL 61 yX7_plan tX7_plan 2 := ⟨mwX7_plan, (t4_ 66 rfl rfl), (t4_ 67 rfl rfl), (t4_ 68 rfl rfl)⟩
theorem cvL_65 : CV RL 65 yX7_witness tX7_witness 2 := ⟨mwX7_witness, (t4_ 70 rfl rfl), (t4_ 71 rfl rfl), (t4_ 72 rfl rfl)⟩
theorem cvL_69 : CV RL 69 yX7_judge tX7_judge 1 := ⟨mwX7_judge, (t4_ 74 rfl rfl), (t4_ 75 rfl rfl), (t4_ 76 rfl rfl)⟩
theorem cvL_74 : CV RL 74 yX7_place tX7_place 2 := ⟨mwX7_place, (t4_ 78 rfl rfl), (t4_ 79 rfl rfl), (t4_ 80 rfl rfl)⟩
theorem cvL_78 : CV RL 78 yX7_cut tX7_cut 1 := ⟨mwX7_cut, (t4_ 82 rfl rfl), (t4_ 83 rfl rfl), (t4_ 84 rfl rfl)⟩
theorem cvX7_190 : CV RX7 190 yX7_cutBehind tX7_cutBehind 1 := ⟨mwX7_cutBehind, (t4_ 86 rfl rfl), (t4_ 88 rfl rfl), (sm_ 45 rfl rfl)⟩
theorem cvX7_187 : CV RX7 187 yX7_cutOf tX7_cutOf 1 := ⟨mwX7_cutOf, (t4_ 90 rfl rfl), (t4_ 92 rfl rfl), (sm_ 46 rfl rfl)⟩
theorem cvL_83 : CV RL 83 yX7_width tX7_width 0 := ⟨mwX7_width, (t4_ 94 rfl rfl), (t4_ 95 rfl rfl), (t4_ 96 rfl rfl)⟩
theorem cvX7_193 : CV RX7 193 yX7_worst tX7_worst 1 := ⟨mwX7_worst, (t4_ 98 rfl rfl), (t4_ 100 rfl rfl), (sm_ 47 rfl rfl)⟩
theorem ob_inst : Jvm.Cond.instanceMethod objectInit ∈ tb_ := (t1_ 18 rfl rfl)
theorem ob_code : Jvm.Cond.code objectInit ⟨#[0xb1]⟩ 1 none ∈ tb_ := (t1_ 19 rfl rfl)
theorem ar_int : Jvm.Cond.arrayClass .int ∈ tb_ := (t1_ 57 rfl rfl)
theorem ar_boolean : Jvm.Cond.arrayClass .boolean ∈ tb_ := (t3_ 155 rfl rfl)
end
