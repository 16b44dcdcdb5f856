section
-- ===== PART A: goes FIRST, ahead of the names: the tables' words, and 'selects' of the private methods out of them =====
/-- a private method of a class that the tables say can be made, by its rows of tables_1 -/
def lw_okq (q : MethodName × Nat) : Prop := (q.1.cls ≠ "java/lang/invoke/MethodHandle" ∧ q.1.cls ≠ "java/lang/invoke/VarHandle") ∧ Cond.instantiable q.1.cls q.2 ∈ tables_1 ∧ Cond.privateMethod q.1 ∈ tables_1 ∧ Cond.instanceMethod q.1 ∈ tables_1
theorem lw_p0 : lw_okq (⟨"CaveParty$Ground", "linkCaves", "()V"⟩, 7) := ⟨⟨by decide +kernel, by decide +kernel⟩, List.mem_of_getElem? (i := 21) (by decide +kernel), List.mem_of_getElem? (i := 223) (by decide +kernel), List.mem_of_getElem? (i := 224) (by decide +kernel)⟩
theorem lw_p1 : lw_okq (⟨"CaveParty", "forgetSearchAndPlan", "()V"⟩, 6) := ⟨⟨by decide +kernel, by decide +kernel⟩, List.mem_of_getElem? (i := 13) (by decide +kernel), List.mem_of_getElem? (i := 238) (by decide +kernel), List.mem_of_getElem? (i := 239) (by decide +kernel)⟩
theorem lw_p2 : lw_okq (⟨"CaveParty$Search", "canBeDone", "(II)Z"⟩, 9) := ⟨⟨by decide +kernel, by decide +kernel⟩, List.mem_of_getElem? (i := 59) (by decide +kernel), List.mem_of_getElem? (i := 302) (by decide +kernel), List.mem_of_getElem? (i := 303) (by decide +kernel)⟩
theorem lw_p3 : lw_okq (⟨"CaveParty$Stand", "leave", "(I)V"⟩, 4) := ⟨⟨by decide +kernel, by decide +kernel⟩, List.mem_of_getElem? (i := 65) (by decide +kernel), List.mem_of_getElem? (i := 310) (by decide +kernel), List.mem_of_getElem? (i := 311) (by decide +kernel)⟩
theorem lw_p4 : lw_okq (⟨"CaveParty$Stand", "come", "(I)V"⟩, 4) := ⟨⟨by decide +kernel, by decide +kernel⟩, List.mem_of_getElem? (i := 65) (by decide +kernel), List.mem_of_getElem? (i := 314) (by decide +kernel), List.mem_of_getElem? (i := 315) (by decide +kernel)⟩
theorem lw_p5 : lw_okq (⟨"CaveParty", "lookAtCave", "(II)I"⟩, 6) := ⟨⟨by decide +kernel, by decide +kernel⟩, List.mem_of_getElem? (i := 13) (by decide +kernel), List.mem_of_getElem? (i := 376) (by decide +kernel), List.mem_of_getElem? (i := 377) (by decide +kernel)⟩
theorem lw_p6 : lw_okq (⟨"CaveParty", "lookAtPassage", "(II)I"⟩, 6) := ⟨⟨by decide +kernel, by decide +kernel⟩, List.mem_of_getElem? (i := 13) (by decide +kernel), List.mem_of_getElem? (i := 384) (by decide +kernel), List.mem_of_getElem? (i := 385) (by decide +kernel)⟩
theorem lw_p7 : lw_okq (⟨"CaveParty", "canBeSolved", "(I)Z"⟩, 6) := ⟨⟨by decide +kernel, by decide +kernel⟩, List.mem_of_getElem? (i := 13) (by decide +kernel), List.mem_of_getElem? (i := 397) (by decide +kernel), List.mem_of_getElem? (i := 398) (by decide +kernel)⟩
theorem lw_p8 : lw_okq (⟨"CaveParty$Finder", "meet", "(IIIIII)V"⟩, 15) := ⟨⟨by decide +kernel, by decide +kernel⟩, List.mem_of_getElem? (i := 141) (by decide +kernel), List.mem_of_getElem? (i := 410) (by decide +kernel), List.mem_of_getElem? (i := 411) (by decide +kernel)⟩
theorem lw_p9 : lw_okq (⟨"CaveParty$Finder", "slotOf", "(I)I"⟩, 15) := ⟨⟨by decide +kernel, by decide +kernel⟩, List.mem_of_getElem? (i := 141) (by decide +kernel), List.mem_of_getElem? (i := 419) (by decide +kernel), List.mem_of_getElem? (i := 420) (by decide +kernel)⟩
theorem lw_p10 : lw_okq (⟨"CaveParty$Finder", "takeUp", "(I)V"⟩, 15) := ⟨⟨by decide +kernel, by decide +kernel⟩, List.mem_of_getElem? (i := 141) (by decide +kernel), List.mem_of_getElem? (i := 427) (by decide +kernel), List.mem_of_getElem? (i := 428) (by decide +kernel)⟩
theorem lw_p11 : lw_okq (⟨"CaveParty$Finder", "tryPuts", "()V"⟩, 15) := ⟨⟨by decide +kernel, by decide +kernel⟩, List.mem_of_getElem? (i := 141) (by decide +kernel), List.mem_of_getElem? (i := 431) (by decide +kernel), List.mem_of_getElem? (i := 432) (by decide +kernel)⟩
theorem lw_p12 : lw_okq (⟨"CaveParty$Finder", "tryLifts", "()V"⟩, 15) := ⟨⟨by decide +kernel, by decide +kernel⟩, List.mem_of_getElem? (i := 141) (by decide +kernel), List.mem_of_getElem? (i := 442) (by decide +kernel), List.mem_of_getElem? (i := 443) (by decide +kernel)⟩
theorem lw_p13 : lw_okq (⟨"CaveParty$Finder", "guardedWithout", "(I)I"⟩, 15) := ⟨⟨by decide +kernel, by decide +kernel⟩, List.mem_of_getElem? (i := 141) (by decide +kernel), List.mem_of_getElem? (i := 446) (by decide +kernel), List.mem_of_getElem? (i := 447) (by decide +kernel)⟩
theorem lw_p14 : lw_okq (⟨"CaveParty$Finder", "trySlides", "()V"⟩, 15) := ⟨⟨by decide +kernel, by decide +kernel⟩, List.mem_of_getElem? (i := 141) (by decide +kernel), List.mem_of_getElem? (i := 451) (by decide +kernel), List.mem_of_getElem? (i := 452) (by decide +kernel)⟩
theorem lw_p15 : lw_okq (⟨"CaveParty$Finder", "trySlidesFrom", "(I)V"⟩, 15) := ⟨⟨by decide +kernel, by decide +kernel⟩, List.mem_of_getElem? (i := 141) (by decide +kernel), List.mem_of_getElem? (i := 455) (by decide +kernel), List.mem_of_getElem? (i := 456) (by decide +kernel)⟩
def lw_privs_1 : List (MethodName × Nat) := [(⟨"CaveParty$Ground", "linkCaves", "()V"⟩, 7), (⟨"CaveParty", "forgetSearchAndPlan", "()V"⟩, 6), (⟨"CaveParty$Search", "canBeDone", "(II)Z"⟩, 9), (⟨"CaveParty$Stand", "leave", "(I)V"⟩, 4), (⟨"CaveParty$Stand", "come", "(I)V"⟩, 4), (⟨"CaveParty", "lookAtCave", "(II)I"⟩, 6), (⟨"CaveParty", "lookAtPassage", "(II)I"⟩, 6), (⟨"CaveParty", "canBeSolved", "(I)Z"⟩, 6), (⟨"CaveParty$Finder", "meet", "(IIIIII)V"⟩, 15), (⟨"CaveParty$Finder", "slotOf", "(I)I"⟩, 15), (⟨"CaveParty$Finder", "takeUp", "(I)V"⟩, 15), (⟨"CaveParty$Finder", "tryPuts", "()V"⟩, 15), (⟨"CaveParty$Finder", "tryLifts", "()V"⟩, 15), (⟨"CaveParty$Finder", "guardedWithout", "(I)I"⟩, 15), (⟨"CaveParty$Finder", "trySlides", "()V"⟩, 15), (⟨"CaveParty$Finder", "trySlidesFrom", "(I)V"⟩, 15)]
theorem lw_r1 : ∀ q ∈ lw_privs_1, lw_okq q := List.forall_mem_cons.mpr ⟨lw_p0, List.forall_mem_cons.mpr ⟨lw_p1, List.forall_mem_cons.mpr ⟨lw_p2, List.forall_mem_cons.mpr ⟨lw_p3, List.forall_mem_cons.mpr ⟨lw_p4, List.forall_mem_cons.mpr ⟨lw_p5, List.forall_mem_cons.mpr ⟨lw_p6, List.forall_mem_cons.mpr ⟨lw_p7, List.forall_mem_cons.mpr ⟨lw_p8, List.forall_mem_cons.mpr ⟨lw_p9, List.forall_mem_cons.mpr ⟨lw_p10, List.forall_mem_cons.mpr ⟨lw_p11, List.forall_mem_cons.mpr ⟨lw_p12, List.forall_mem_cons.mpr ⟨lw_p13, List.forall_mem_cons.mpr ⟨lw_p14, List.forall_mem_cons.mpr ⟨lw_p15, fun _ h => absurd h List.not_mem_nil⟩⟩⟩⟩⟩⟩⟩⟩⟩⟩⟩⟩⟩⟩⟩⟩
theorem lw_p16 : lw_okq (⟨"CaveParty", "isPlanBy", "(I)Z"⟩, 6) := ⟨⟨by decide +kernel, by decide +kernel⟩, List.mem_of_getElem? (i := 13) (by decide +kernel), List.mem_of_getElem? (i := 499) (by decide +kernel), List.mem_of_getElem? (i := 500) (by decide +kernel)⟩
theorem lw_p17 : lw_okq (⟨"CaveParty$Layout", "leastWorstBehind", "(I)I"⟩, 3) := ⟨⟨by decide +kernel, by decide +kernel⟩, List.mem_of_getElem? (i := 125) (by decide +kernel), List.mem_of_getElem? (i := 543) (by decide +kernel), List.mem_of_getElem? (i := 544) (by decide +kernel)⟩
theorem lw_p18 : lw_okq (⟨"CaveParty$Layout", "firstWithin", "(II)I"⟩, 3) := ⟨⟨by decide +kernel, by decide +kernel⟩, List.mem_of_getElem? (i := 125) (by decide +kernel), List.mem_of_getElem? (i := 548) (by decide +kernel), List.mem_of_getElem? (i := 549) (by decide +kernel)⟩
theorem lw_p19 : lw_okq (⟨"CavePartyModel", "changes", "()V"⟩, 25) := ⟨⟨by decide +kernel, by decide +kernel⟩, List.mem_of_getElem? (i := 552) (by decide +kernel), List.mem_of_getElem? (i := 641) (by decide +kernel), List.mem_of_getElem? (i := 642) (by decide +kernel)⟩
theorem lw_p20 : lw_okq (⟨"CavePartyModel", "begins", "()V"⟩, 25) := ⟨⟨by decide +kernel, by decide +kernel⟩, List.mem_of_getElem? (i := 552) (by decide +kernel), List.mem_of_getElem? (i := 649) (by decide +kernel), List.mem_of_getElem? (i := 650) (by decide +kernel)⟩
theorem lw_p21 : lw_okq (⟨"CavePartyModel", "keeps", "()V"⟩, 25) := ⟨⟨by decide +kernel, by decide +kernel⟩, List.mem_of_getElem? (i := 552) (by decide +kernel), List.mem_of_getElem? (i := 653) (by decide +kernel), List.mem_of_getElem? (i := 654) (by decide +kernel)⟩
theorem lw_p22 : lw_okq (⟨"CavePartyModel", "isCave", "(I)Z"⟩, 25) := ⟨⟨by decide +kernel, by decide +kernel⟩, List.mem_of_getElem? (i := 552) (by decide +kernel), List.mem_of_getElem? (i := 661) (by decide +kernel), List.mem_of_getElem? (i := 662) (by decide +kernel)⟩
theorem lw_p23 : lw_okq (⟨"CavePartyModel", "isPassage", "(I)Z"⟩, 25) := ⟨⟨by decide +kernel, by decide +kernel⟩, List.mem_of_getElem? (i := 552) (by decide +kernel), List.mem_of_getElem? (i := 669) (by decide +kernel), List.mem_of_getElem? (i := 670) (by decide +kernel)⟩
theorem lw_p24 : lw_okq (⟨"CavePartyModel", "isAt", "(II)Z"⟩, 25) := ⟨⟨by decide +kernel, by decide +kernel⟩, List.mem_of_getElem? (i := 552) (by decide +kernel), List.mem_of_getElem? (i := 682) (by decide +kernel), List.mem_of_getElem? (i := 683) (by decide +kernel)⟩
theorem lw_p25 : lw_okq (⟨"CavePartyModel", "comes", "(I)V"⟩, 25) := ⟨⟨by decide +kernel, by decide +kernel⟩, List.mem_of_getElem? (i := 552) (by decide +kernel), List.mem_of_getElem? (i := 686) (by decide +kernel), List.mem_of_getElem? (i := 687) (by decide +kernel)⟩
theorem lw_p26 : lw_okq (⟨"CavePartyModel", "below", "()I"⟩, 25) := ⟨⟨by decide +kernel, by decide +kernel⟩, List.mem_of_getElem? (i := 552) (by decide +kernel), List.mem_of_getElem? (i := 690) (by decide +kernel), List.mem_of_getElem? (i := 691) (by decide +kernel)⟩
theorem lw_p27 : lw_okq (⟨"CavePartyModel", "does", "(III)V"⟩, 25) := ⟨⟨by decide +kernel, by decide +kernel⟩, List.mem_of_getElem? (i := 552) (by decide +kernel), List.mem_of_getElem? (i := 694) (by decide +kernel), List.mem_of_getElem? (i := 695) (by decide +kernel)⟩
theorem lw_p28 : lw_okq (⟨"CavePartyModel", "other", "(II)I"⟩, 25) := ⟨⟨by decide +kernel, by decide +kernel⟩, List.mem_of_getElem? (i := 552) (by decide +kernel), List.mem_of_getElem? (i := 698) (by decide +kernel), List.mem_of_getElem? (i := 699) (by decide +kernel)⟩
theorem lw_p29 : lw_okq (⟨"CavePartyModel", "settles", "(I)V"⟩, 25) := ⟨⟨by decide +kernel, by decide +kernel⟩, List.mem_of_getElem? (i := 552) (by decide +kernel), List.mem_of_getElem? (i := 702) (by decide +kernel), List.mem_of_getElem? (i := 703) (by decide +kernel)⟩
theorem lw_p30 : lw_okq (⟨"CavePartyModel", "spreads", "()V"⟩, 25) := ⟨⟨by decide +kernel, by decide +kernel⟩, List.mem_of_getElem? (i := 552) (by decide +kernel), List.mem_of_getElem? (i := 706) (by decide +kernel), List.mem_of_getElem? (i := 707) (by decide +kernel)⟩
theorem lw_p31 : lw_okq (⟨"CavePartyModel", "party", "()I"⟩, 25) := ⟨⟨by decide +kernel, by decide +kernel⟩, List.mem_of_getElem? (i := 552) (by decide +kernel), List.mem_of_getElem? (i := 718) (by decide +kernel), List.mem_of_getElem? (i := 719) (by decide +kernel)⟩
def lw_privs_2 : List (MethodName × Nat) := [(⟨"CaveParty", "isPlanBy", "(I)Z"⟩, 6), (⟨"CaveParty$Layout", "leastWorstBehind", "(I)I"⟩, 3), (⟨"CaveParty$Layout", "firstWithin", "(II)I"⟩, 3), (⟨"CavePartyModel", "changes", "()V"⟩, 25), (⟨"CavePartyModel", "begins", "()V"⟩, 25), (⟨"CavePartyModel", "keeps", "()V"⟩, 25), (⟨"CavePartyModel", "isCave", "(I)Z"⟩, 25), (⟨"CavePartyModel", "isPassage", "(I)Z"⟩, 25), (⟨"CavePartyModel", "isAt", "(II)Z"⟩, 25), (⟨"CavePartyModel", "comes", "(I)V"⟩, 25), (⟨"CavePartyModel", "below", "()I"⟩, 25), (⟨"CavePartyModel", "does", "(III)V"⟩, 25), (⟨"CavePartyModel", "other", "(II)I"⟩, 25), (⟨"CavePartyModel", "settles", "(I)V"⟩, 25), (⟨"CavePartyModel", "spreads", "()V"⟩, 25), (⟨"CavePartyModel", "party", "()I"⟩, 25)]
theorem lw_r2 : ∀ q ∈ lw_privs_2, lw_okq q := List.forall_mem_cons.mpr ⟨lw_p16, List.forall_mem_cons.mpr ⟨lw_p17, List.forall_mem_cons.mpr ⟨lw_p18, List.forall_mem_cons.mpr ⟨lw_p19, List.forall_mem_cons.mpr ⟨lw_p20, List.forall_mem_cons.mpr ⟨lw_p21, List.forall_mem_cons.mpr ⟨lw_p22, List.forall_mem_cons.mpr ⟨lw_p23, List.forall_mem_cons.mpr ⟨lw_p24, List.forall_mem_cons.mpr ⟨lw_p25, List.forall_mem_cons.mpr ⟨lw_p26, List.forall_mem_cons.mpr ⟨lw_p27, List.forall_mem_cons.mpr ⟨lw_p28, List.forall_mem_cons.mpr ⟨lw_p29, List.forall_mem_cons.mpr ⟨lw_p30, List.forall_mem_cons.mpr ⟨lw_p31, fun _ h => absurd h List.not_mem_nil⟩⟩⟩⟩⟩⟩⟩⟩⟩⟩⟩⟩⟩⟩⟩⟩
theorem lw_p32 : lw_okq (⟨"CavePartyModel", "passages", "()I"⟩, 25) := ⟨⟨by decide +kernel, by decide +kernel⟩, List.mem_of_getElem? (i := 552) (by decide +kernel), List.mem_of_getElem? (i := 725) (by decide +kernel), List.mem_of_getElem? (i := 726) (by decide +kernel)⟩
theorem lw_p33 : lw_okq (⟨"CavePartyModel", "pieces", "()I"⟩, 25) := ⟨⟨by decide +kernel, by decide +kernel⟩, List.mem_of_getElem? (i := 552) (by decide +kernel), List.mem_of_getElem? (i := 729) (by decide +kernel), List.mem_of_getElem? (i := 730) (by decide +kernel)⟩
theorem lw_p34 : lw_okq (⟨"CavePartyModel", "reached", "(II)I"⟩, 25) := ⟨⟨by decide +kernel, by decide +kernel⟩, List.mem_of_getElem? (i := 552) (by decide +kernel), List.mem_of_getElem? (i := 733) (by decide +kernel), List.mem_of_getElem? (i := 734) (by decide +kernel)⟩
theorem lw_p35 : lw_okq (⟨"CavePartyModel", "degree", "(I)I"⟩, 25) := ⟨⟨by decide +kernel, by decide +kernel⟩, List.mem_of_getElem? (i := 552) (by decide +kernel), List.mem_of_getElem? (i := 741) (by decide +kernel), List.mem_of_getElem? (i := 742) (by decide +kernel)⟩
theorem lw_p36 : lw_okq (⟨"CavePartyModel", "placeOf", "(I)I"⟩, 25) := ⟨⟨by decide +kernel, by decide +kernel⟩, List.mem_of_getElem? (i := 552) (by decide +kernel), List.mem_of_getElem? (i := 745) (by decide +kernel), List.mem_of_getElem? (i := 746) (by decide +kernel)⟩
theorem lw_p37 : lw_okq (⟨"CavePartyModel", "isSmall", "(I)Z"⟩, 25) := ⟨⟨by decide +kernel, by decide +kernel⟩, List.mem_of_getElem? (i := 552) (by decide +kernel), List.mem_of_getElem? (i := 753) (by decide +kernel), List.mem_of_getElem? (i := 754) (by decide +kernel)⟩
theorem lw_p38 : lw_okq (⟨"CavePartyModel", "finds", "(II)I"⟩, 25) := ⟨⟨by decide +kernel, by decide +kernel⟩, List.mem_of_getElem? (i := 552) (by decide +kernel), List.mem_of_getElem? (i := 757) (by decide +kernel), List.mem_of_getElem? (i := 758) (by decide +kernel)⟩
theorem lw_p39 : lw_okq (⟨"CavePartyModel", "meets", "(III)Z"⟩, 25) := ⟨⟨by decide +kernel, by decide +kernel⟩, List.mem_of_getElem? (i := 552) (by decide +kernel), List.mem_of_getElem? (i := 761) (by decide +kernel), List.mem_of_getElem? (i := 762) (by decide +kernel)⟩
theorem lw_p40 : lw_okq (⟨"CavePartyModel", "number", "(I)I"⟩, 25) := ⟨⟨by decide +kernel, by decide +kernel⟩, List.mem_of_getElem? (i := 552) (by decide +kernel), List.mem_of_getElem? (i := 765) (by decide +kernel), List.mem_of_getElem? (i := 766) (by decide +kernel)⟩
theorem lw_p41 : lw_okq (⟨"CavePartyModel", "shows", "(II)V"⟩, 25) := ⟨⟨by decide +kernel, by decide +kernel⟩, List.mem_of_getElem? (i := 552) (by decide +kernel), List.mem_of_getElem? (i := 771) (by decide +kernel), List.mem_of_getElem? (i := 772) (by decide +kernel)⟩
theorem lw_p42 : lw_okq (⟨"CavePartyModel", "may", "(IIII)Z"⟩, 25) := ⟨⟨by decide +kernel, by decide +kernel⟩, List.mem_of_getElem? (i := 552) (by decide +kernel), List.mem_of_getElem? (i := 775) (by decide +kernel), List.mem_of_getElem? (i := 776) (by decide +kernel)⟩
theorem lw_p43 : lw_okq (⟨"CavePartyModel", "hangs", "(I)Z"⟩, 25) := ⟨⟨by decide +kernel, by decide +kernel⟩, List.mem_of_getElem? (i := 552) (by decide +kernel), List.mem_of_getElem? (i := 779) (by decide +kernel), List.mem_of_getElem? (i := 780) (by decide +kernel)⟩
theorem lw_p44 : lw_okq (⟨"CavePartyModel", "isSearched", "()Z"⟩, 25) := ⟨⟨by decide +kernel, by decide +kernel⟩, List.mem_of_getElem? (i := 552) (by decide +kernel), List.mem_of_getElem? (i := 783) (by decide +kernel), List.mem_of_getElem? (i := 784) (by decide +kernel)⟩
theorem lw_p45 : lw_okq (⟨"CavePartyModel", "cutBehind", "(I)I"⟩, 25) := ⟨⟨by decide +kernel, by decide +kernel⟩, List.mem_of_getElem? (i := 552) (by decide +kernel), List.mem_of_getElem? (i := 807) (by decide +kernel), List.mem_of_getElem? (i := 808) (by decide +kernel)⟩
theorem lw_p46 : lw_okq (⟨"CavePartyModel", "cutOf", "(I)I"⟩, 25) := ⟨⟨by decide +kernel, by decide +kernel⟩, List.mem_of_getElem? (i := 552) (by decide +kernel), List.mem_of_getElem? (i := 811) (by decide +kernel), List.mem_of_getElem? (i := 812) (by decide +kernel)⟩
theorem lw_p47 : lw_okq (⟨"CavePartyModel", "worst", "(I)I"⟩, 25) := ⟨⟨by decide +kernel, by decide +kernel⟩, List.mem_of_getElem? (i := 552) (by decide +kernel), List.mem_of_getElem? (i := 819) (by decide +kernel), List.mem_of_getElem? (i := 820) (by decide +kernel)⟩
def lw_privs_3 : List (MethodName × Nat) := [(⟨"CavePartyModel", "passages", "()I"⟩, 25), (⟨"CavePartyModel", "pieces", "()I"⟩, 25), (⟨"CavePartyModel", "reached", "(II)I"⟩, 25), (⟨"CavePartyModel", "degree", "(I)I"⟩, 25), (⟨"CavePartyModel", "placeOf", "(I)I"⟩, 25), (⟨"CavePartyModel", "isSmall", "(I)Z"⟩, 25), (⟨"CavePartyModel", "finds", "(II)I"⟩, 25), (⟨"CavePartyModel", "meets", "(III)Z"⟩, 25), (⟨"CavePartyModel", "number", "(I)I"⟩, 25), (⟨"CavePartyModel", "shows", "(II)V"⟩, 25), (⟨"CavePartyModel", "may", "(IIII)Z"⟩, 25), (⟨"CavePartyModel", "hangs", "(I)Z"⟩, 25), (⟨"CavePartyModel", "isSearched", "()Z"⟩, 25), (⟨"CavePartyModel", "cutBehind", "(I)I"⟩, 25), (⟨"CavePartyModel", "cutOf", "(I)I"⟩, 25), (⟨"CavePartyModel", "worst", "(I)I"⟩, 25)]
theorem lw_r3 : ∀ q ∈ lw_privs_3, lw_okq q := List.forall_mem_cons.mpr ⟨lw_p32, List.forall_mem_cons.mpr ⟨lw_p33, List.forall_mem_cons.mpr ⟨lw_p34, List.forall_mem_cons.mpr ⟨lw_p35, List.forall_mem_cons.mpr ⟨lw_p36, List.forall_mem_cons.mpr ⟨lw_p37, List.forall_mem_cons.mpr ⟨lw_p38, List.forall_mem_cons.mpr ⟨lw_p39, List.forall_mem_cons.mpr ⟨lw_p40, List.forall_mem_cons.mpr ⟨lw_p41, List.forall_mem_cons.mpr ⟨lw_p42, List.forall_mem_cons.mpr ⟨lw_p43, List.forall_mem_cons.mpr ⟨lw_p44, List.forall_mem_cons.mpr ⟨lw_p45, List.forall_mem_cons.mpr ⟨lw_p46, List.forall_mem_cons.mpr ⟨lw_p47, fun _ h => absurd h List.not_mem_nil⟩⟩⟩⟩⟩⟩⟩⟩⟩⟩⟩⟩⟩⟩⟩⟩
def lw_privs : List (MethodName × Nat) := lw_privs_1 ++ (lw_privs_2 ++ (lw_privs_3))
def lw_tbl : List Cond := k2_sels lw_privs ++ tables_1
theorem lw_privs_ok : ∀ q ∈ lw_privs, lw_okq q := by
  show ∀ q ∈ lw_privs_1 ++ (lw_privs_2 ++ (lw_privs_3)), lw_okq q
  exact List.forall_mem_append.mpr ⟨lw_r1, List.forall_mem_append.mpr ⟨lw_r2, lw_r3⟩⟩
def RX0 : String := "CaveParty$Finder"
def TX0 : u_T := fun k => match k with
  | 0 => ("CaveParty$Finder", "ground", "LCaveParty$Ground;", true)
  | 1 => ("CaveParty$Finder", "slots", "[I", true)
  | 2 => ("CaveParty$Finder", "stands", "[I", true)
  | 3 => ("CaveParty$Finder", "from", "[I", true)
  | 4 => ("CaveParty$Finder", "orders", "[I", true)
  | 5 => ("CaveParty$Finder", "met", "I", false)
  | 6 => ("CaveParty$Finder", "goal", "I", false)
  | 7 => ("CaveParty$Finder", "law", "I", false)
  | 8 => ("CaveParty$Finder", "most", "I", false)
  | 9 => ("CaveParty$Finder", "head", "I", false)
  | 10 => ("CaveParty$Finder", "below", "I", false)
  | 11 => ("CaveParty$Finder", "lost", "I", false)
  | 12 => ("CaveParty$Finder", "slid", "Z", false)
  | 13 => ("CaveParty$Finder", "guarded", "I", false)
  | _ => ("CaveParty$Finder", "total", "I", false)
def tyX0 : Nat → FieldType := fun k => match k with
  | 0 => .object "CaveParty$Ground"
  | 1 => .array .int
  | 2 => .array .int
  | 3 => .array .int
  | 4 => .array .int
  | 5 => .int
  | 6 => .int
  | 7 => .int
  | 8 => .int
  | 9 => .int
  | 10 => .int
  | 11 => .int
  | 12 => .boolean
  | 13 => .int
  | _ => .int
abbrev wsX00 : List Cond := u_ws RX0 TX0 15
theorem nmX0 : ∀ a, a < 15 → ∀ b, b < 15 → a ≠ b → (TX0 a).2.1 ≠ (TX0 b).2.1 := by decide +kernel
theorem tyX0_ok : ∀ k, k < 15 → parseFieldDescriptor (TX0 k).2.2.1 = some (tyX0 k) := by decide +kernel
abbrev cX0_init : ByteArray := prog_2_method_1_code
def yX0_init : MethodName := ⟨RX0, "<init>", "(LCaveParty$Ground;)V"⟩
abbrev cX0_finds : ByteArray := prog_2_method_2_code
def yX0_finds : MethodName := ⟨RX0, "finds", "(II)Z"⟩
abbrev cX0_wayToGoal : ByteArray := prog_2_method_3_code
def yX0_wayToGoal : MethodName := ⟨RX0, "wayToGoal", "()LCaveParty$Way;"⟩
abbrev cX0_takeUp : ByteArray := prog_2_method_4_code
def yX0_takeUp : MethodName := ⟨RX0, "takeUp", "(I)V"⟩
abbrev cX0_tryPuts : ByteArray := prog_2_method_5_code
def yX0_tryPuts : MethodName := ⟨RX0, "tryPuts", "()V"⟩
abbrev cX0_tryLifts : ByteArray := prog_2_method_6_code
def yX0_tryLifts : MethodName := ⟨RX0, "tryLifts", "()V"⟩
abbrev cX0_trySlides : ByteArray := prog_2_method_7_code
def yX0_trySlides : MethodName := ⟨RX0, "trySlides", "()V"⟩
abbrev cX0_trySlidesFrom : ByteArray := prog_2_method_8_code
def yX0_trySlidesFrom : MethodName := ⟨RX0, "trySlidesFrom", "(I)V"⟩
abbrev cX0_one : ByteArray := prog_2_method_9_code
def yX0_one : MethodName := ⟨RX0, "one", "(I)I"⟩
abbrev cX0_guardedWithout : ByteArray := prog_2_method_10_code
def yX0_guardedWithout : MethodName := ⟨RX0, "guardedWithout", "(I)I"⟩
abbrev cX0_meet : ByteArray := prog_2_method_11_code
def yX0_meet : MethodName := ⟨RX0, "meet", "(IIIIII)V"⟩
abbrev cX0_slotOf : ByteArray := prog_2_method_12_code
def yX0_slotOf : MethodName := ⟨RX0, "slotOf", "(I)I"⟩
def RX1 : String := "CaveParty$Ground"
def TX1 : u_T := fun k => match k with
  | 0 => ("CaveParty$Ground", "caves", "I", false)
  | 1 => ("CaveParty$Ground", "dug", "I", false)
  | 2 => ("CaveParty$Ground", "mouth", "I", false)
  | 3 => ("CaveParty$Ground", "lesser", "[I", true)
  | 4 => ("CaveParty$Ground", "greater", "[I", true)
  | 5 => ("CaveParty$Ground", "at", "[I", true)
  | _ => ("CaveParty$Ground", "next", "[I", true)
def tyX1 : Nat → FieldType := fun k => match k with
  | 0 => .int
  | 1 => .int
  | 2 => .int
  | 3 => .array .int
  | 4 => .array .int
  | 5 => .array .int
  | _ => .array .int
abbrev wsX10 : List Cond := u_ws RX1 TX1 7
theorem nmX1 : ∀ a, a < 7 → ∀ b, b < 7 → a ≠ b → (TX1 a).2.1 ≠ (TX1 b).2.1 := by decide +kernel
theorem tyX1_ok : ∀ k, k < 7 → parseFieldDescriptor (TX1 k).2.2.1 = some (tyX1 k) := by decide +kernel
abbrev cX1_init : ByteArray := prog_3_method_1_code
def yX1_init : MethodName := ⟨RX1, "<init>", "()V"⟩
abbrev cX1_clear : ByteArray := prog_3_method_2_code
def yX1_clear : MethodName := ⟨RX1, "clear", "(I)V"⟩
abbrev cX1_hasCave : ByteArray := prog_3_method_3_code
def yX1_hasCave : MethodName := ⟨RX1, "hasCave", "(I)Z"⟩
abbrev cX1_hasPassage : ByteArray := prog_3_method_4_code
def yX1_hasPassage : MethodName := ⟨RX1, "hasPassage", "(I)Z"⟩
abbrev cX1_leadsFrom : ByteArray := prog_3_method_5_code
def yX1_leadsFrom : MethodName := ⟨RX1, "leadsFrom", "(II)Z"⟩
abbrev cX1_lowestFree : ByteArray := prog_3_method_6_code
def yX1_lowestFree : MethodName := ⟨RX1, "lowestFree", "()I"⟩
abbrev cX1_dig : ByteArray := prog_3_method_7_code
def yX1_dig : MethodName := ⟨RX1, "dig", "(III)V"⟩
abbrev cX1_fillUp : ByteArray := prog_3_method_8_code
def yX1_fillUp : MethodName := ⟨RX1, "fillUp", "(I)V"⟩
abbrev cX1_linkCaves : ByteArray := prog_3_method_9_code
def yX1_linkCaves : MethodName := ⟨RX1, "linkCaves", "()V"⟩
abbrev cX1_allCaves : ByteArray := prog_3_method_10_code
def yX1_allCaves : MethodName := ⟨RX1, "allCaves", "()I"⟩
abbrev cX1_otherEnd : ByteArray := prog_3_method_11_code
def yX1_otherEnd : MethodName := ⟨RX1, "otherEnd", "(II)I"⟩
abbrev cX1_passagesAt : ByteArray := prog_3_method_12_code
def yX1_passagesAt : MethodName := ⟨RX1, "passagesAt", "(I)I"⟩
abbrev cX1_spread : ByteArray := prog_3_method_13_code
def yX1_spread : MethodName := ⟨RX1, "spread", "(II)I"⟩
abbrev cX1_lostBehind : ByteArray := prog_3_method_14_code
def yX1_lostBehind : MethodName := ⟨RX1, "lostBehind", "(IIII)I"⟩
abbrev cX1_allows : ByteArray := prog_3_method_15_code
def yX1_allows : MethodName := ⟨RX1, "allows", "(IIIZ)Z"⟩
abbrev cX1_hangsTogether : ByteArray := prog_3_method_16_code
def yX1_hangsTogether : MethodName := ⟨RX1, "hangsTogether", "(II)Z"⟩
abbrev cX1_parts : ByteArray := prog_3_method_17_code
def yX1_parts : MethodName := ⟨RX1, "parts", "()I"⟩
abbrev cX1_isTree : ByteArray := prog_3_method_18_code
def yX1_isTree : MethodName := ⟨RX1, "isTree", "()Z"⟩
abbrev cX1_cutBetween : ByteArray := prog_3_method_19_code
def yX1_cutBetween : MethodName := ⟨RX1, "cutBetween", "(I)I"⟩
def RX2 : String := "CaveParty$Layout"
def TX2 : u_T := fun k => match k with
  | 0 => ("CaveParty$Layout", "ground", "LCaveParty$Ground;", true)
  | 1 => ("CaveParty$Layout", "row", "[I", true)
  | _ => ("CaveParty$Layout", "worst", "[I", true)
def tyX2 : Nat → FieldType := fun k => match k with
  | 0 => .object "CaveParty$Ground"
  | 1 => .array .int
  | _ => .array .int
abbrev wsX20 : List Cond := u_ws RX2 TX2 3
theorem nmX2 : ∀ a, a < 3 → ∀ b, b < 3 → a ≠ b → (TX2 a).2.1 ≠ (TX2 b).2.1 := by decide +kernel
theorem tyX2_ok : ∀ k, k < 3 → parseFieldDescriptor (TX2 k).2.2.1 = some (tyX2 k) := by decide +kernel
abbrev cX2_init : ByteArray := prog_4_method_1_code
def yX2_init : MethodName := ⟨RX2, "<init>", "(LCaveParty$Ground;)V"⟩
abbrev cX2_reset : ByteArray := prog_4_method_2_code
def yX2_reset : MethodName := ⟨RX2, "reset", "()V"⟩
abbrev cX2_placeOf : ByteArray := prog_4_method_3_code
def yX2_placeOf : MethodName := ⟨RX2, "placeOf", "(I)I"⟩
abbrev cX2_swapIn : ByteArray := prog_4_method_4_code
def yX2_swapIn : MethodName := ⟨RX2, "swapIn", "(II)V"⟩
abbrev cX2_cutBehind : ByteArray := prog_4_method_5_code
def yX2_cutBehind : MethodName := ⟨RX2, "cutBehind", "(I)I"⟩
abbrev cX2_greatestCut : ByteArray := prog_4_method_6_code
def yX2_greatestCut : MethodName := ⟨RX2, "greatestCut", "()I"⟩
abbrev cX2_becomeTheLeast : ByteArray := prog_4_method_7_code
def yX2_becomeTheLeast : MethodName := ⟨RX2, "becomeTheLeast", "()I"⟩
abbrev cX2_leastWorstBehind : ByteArray := prog_4_method_8_code
def yX2_leastWorstBehind : MethodName := ⟨RX2, "leastWorstBehind", "(I)I"⟩
abbrev cX2_firstWithin : ByteArray := prog_4_method_9_code
def yX2_firstWithin : MethodName := ⟨RX2, "firstWithin", "(II)I"⟩
def RX3 : String := "CaveParty$Search"
def TX3 : u_T := fun k => match k with
  | 0 => ("CaveParty$Search", "ground", "LCaveParty$Ground;", true)
  | 1 => ("CaveParty$Search", "now", "LCaveParty$Stand;", true)
  | 2 => ("CaveParty$Search", "done", "I", false)
  | 3 => ("CaveParty$Search", "party", "I", false)
  | 4 => ("CaveParty$Search", "what", "[I", true)
  | 5 => ("CaveParty$Search", "cave", "[I", true)
  | 6 => ("CaveParty$Search", "passage", "[I", true)
  | 7 => ("CaveParty$Search", "lostBefore", "[I", true)
  | _ => ("CaveParty$Search", "partyBefore", "[I", true)
def tyX3 : Nat → FieldType := fun k => match k with
  | 0 => .object "CaveParty$Ground"
  | 1 => .object "CaveParty$Stand"
  | 2 => .int
  | 3 => .int
  | 4 => .array .int
  | 5 => .array .int
  | 6 => .array .int
  | 7 => .array .int
  | _ => .array .int
abbrev wsX30 : List Cond := u_ws RX3 TX3 9
theorem nmX3 : ∀ a, a < 9 → ∀ b, b < 9 → a ≠ b → (TX3 a).2.1 ≠ (TX3 b).2.1 := by decide +kernel
theorem tyX3_ok : ∀ k, k < 9 → parseFieldDescriptor (TX3 k).2.2.1 = some (tyX3 k) := by decide +kernel
abbrev cX3_init : ByteArray := prog_5_method_1_code
def yX3_init : MethodName := ⟨RX3, "<init>", "(LCaveParty$Ground;)V"⟩
abbrev cX3_begin : ByteArray := prog_5_method_2_code
def yX3_begin : MethodName := ⟨RX3, "begin", "()V"⟩
abbrev cX3_carryOut : ByteArray := prog_5_method_3_code
def yX3_carryOut : MethodName := ⟨RX3, "carryOut", "(III)Z"⟩
abbrev cX3_canBeDone : ByteArray := prog_5_method_4_code
def yX3_canBeDone : MethodName := ⟨RX3, "canBeDone", "(II)Z"⟩
abbrev cX3_takeBack : ByteArray := prog_5_method_5_code
def yX3_takeBack : MethodName := ⟨RX3, "takeBack", "()Z"⟩
abbrev cX3_passagesJustLost : ByteArray := prog_5_method_6_code
def yX3_passagesJustLost : MethodName := ⟨RX3, "passagesJustLost", "()I"⟩
def RX4 : String := "CaveParty$Stand"
def TX4 : u_T := fun k => match k with
  | 0 => ("CaveParty$Stand", "below", "[I", true)
  | 1 => ("CaveParty$Stand", "total", "I", false)
  | 2 => ("CaveParty$Stand", "guarded", "I", false)
  | _ => ("CaveParty$Stand", "lost", "I", false)
def tyX4 : Nat → FieldType := fun k => match k with
  | 0 => .array .int
  | 1 => .int
  | 2 => .int
  | _ => .int
abbrev wsX40 : List Cond := u_ws RX4 TX4 4
theorem nmX4 : ∀ a, a < 4 → ∀ b, b < 4 → a ≠ b → (TX4 a).2.1 ≠ (TX4 b).2.1 := by decide +kernel
theorem tyX4_ok : ∀ k, k < 4 → parseFieldDescriptor (TX4 k).2.2.1 = some (tyX4 k) := by decide +kernel
abbrev cX4_init : ByteArray := prog_6_method_1_code
def yX4_init : MethodName := ⟨RX4, "<init>", "()V"⟩
abbrev cX4_begin : ByteArray := prog_6_method_2_code
def yX4_begin : MethodName := ⟨RX4, "begin", "(LCaveParty$Ground;)V"⟩
abbrev cX4_follow : ByteArray := prog_6_method_3_code
def yX4_follow : MethodName := ⟨RX4, "follow", "(LCaveParty$Ground;III)V"⟩
abbrev cX4_goBack : ByteArray := prog_6_method_4_code
def yX4_goBack : MethodName := ⟨RX4, "goBack", "(LCaveParty$Ground;IIII)V"⟩
abbrev cX4_come : ByteArray := prog_6_method_5_code
def yX4_come : MethodName := ⟨RX4, "come", "(I)V"⟩
abbrev cX4_leave : ByteArray := prog_6_method_6_code
def yX4_leave : MethodName := ⟨RX4, "leave", "(I)V"⟩
def RX5 : String := "CaveParty$Way"
def TX5 : u_T := fun k => match k with
  | _ => ("CaveParty$Way", "orders", "[I", true)
def tyX5 : Nat → FieldType := fun k => match k with
  | _ => .array .int
abbrev wsX50 : List Cond := u_ws RX5 TX5 1
theorem nmX5 : ∀ a, a < 1 → ∀ b, b < 1 → a ≠ b → (TX5 a).2.1 ≠ (TX5 b).2.1 := by decide +kernel
theorem tyX5_ok : ∀ k, k < 1 → parseFieldDescriptor (TX5 k).2.2.1 = some (tyX5 k) := by decide +kernel
abbrev cX5_init : ByteArray := prog_7_method_1_code
def yX5_init : MethodName := ⟨RX5, "<init>", "(I)V"⟩
abbrev cX5_packed : ByteArray := prog_7_method_2_code
def yX5_packed : MethodName := ⟨RX5, "packed", "(III)I"⟩
abbrev cX5_length : ByteArray := prog_7_method_3_code
def yX5_length : MethodName := ⟨RX5, "length", "()I"⟩
abbrev cX5_put : ByteArray := prog_7_method_4_code
def yX5_put : MethodName := ⟨RX5, "put", "(II)V"⟩
abbrev cX5_tell : ByteArray := prog_7_method_5_code
def yX5_tell : MethodName := ⟨RX5, "tell", "(II)I"⟩
def RX6 : String := "CaveParty"
def TX6 : u_T := fun k => match k with
  | 0 => ("CaveParty", "ground", "LCaveParty$Ground;", true)
  | 1 => ("CaveParty", "search", "LCaveParty$Search;", true)
  | 2 => ("CaveParty", "layout", "LCaveParty$Layout;", true)
  | 3 => ("CaveParty", "finder", "LCaveParty$Finder;", true)
  | 4 => ("CaveParty", "replay", "LCaveParty$Stand;", true)
  | _ => ("CaveParty", "way", "LCaveParty$Way;", false)
def tyX6 : Nat → FieldType := fun k => match k with
  | 0 => .object "CaveParty$Ground"
  | 1 => .object "CaveParty$Search"
  | 2 => .object "CaveParty$Layout"
  | 3 => .object "CaveParty$Finder"
  | 4 => .object "CaveParty$Stand"
  | _ => .object "CaveParty$Way"
abbrev wsX60 : List Cond := u_ws RX6 TX6 6
theorem nmX6 : ∀ a, a < 6 → ∀ b, b < 6 → a ≠ b → (TX6 a).2.1 ≠ (TX6 b).2.1 := by decide +kernel
theorem tyX6_ok : ∀ k, k < 6 → parseFieldDescriptor (TX6 k).2.2.1 = some (tyX6 k) := by decide +kernel
abbrev cX6_init : ByteArray := prog_1_method_1_code
def yX6_init : MethodName := ⟨RX6, "<init>", "()V"⟩
abbrev cX6_caves : ByteArray := prog_1_method_2_code
def yX6_caves : MethodName := ⟨RX6, "caves", "(I)Z"⟩
abbrev cX6_passage : ByteArray := prog_1_method_3_code
def yX6_passage : MethodName := ⟨RX6, "passage", "(II)I"⟩
abbrev cX6_drop : ByteArray := prog_1_method_4_code
def yX6_drop : MethodName := ⟨RX6, "drop", "(I)Z"⟩
abbrev cX6_mouth : ByteArray := prog_1_method_5_code
def yX6_mouth : MethodName := ⟨RX6, "mouth", "(I)Z"⟩
abbrev cX6_order : ByteArray := prog_1_method_6_code
def yX6_order : MethodName := ⟨RX6, "order", "(III)I"⟩
abbrev cX6_undo : ByteArray := prog_1_method_7_code
def yX6_undo : MethodName := ⟨RX6, "undo", "()Z"⟩
abbrev cX6_anew : ByteArray := prog_1_method_8_code
def yX6_anew : MethodName := ⟨RX6, "anew", "()V"⟩
abbrev cX6_count : ByteArray := prog_1_method_9_code
def yX6_count : MethodName := ⟨RX6, "count", "(I)I"⟩
abbrev cX6_look : ByteArray := prog_1_method_10_code
def yX6_look : MethodName := ⟨RX6, "look", "(II)I"⟩
abbrev cX6_fewest : ByteArray := prog_1_method_11_code
def yX6_fewest : MethodName := ⟨RX6, "fewest", "(I)I"⟩
abbrev cX6_plan : ByteArray := prog_1_method_12_code
def yX6_plan : MethodName := ⟨RX6, "plan", "(II)I"⟩
abbrev cX6_witness : ByteArray := prog_1_method_13_code
def yX6_witness : MethodName := ⟨RX6, "witness", "(II)I"⟩
abbrev cX6_judge : ByteArray := prog_1_method_14_code
def yX6_judge : MethodName := ⟨RX6, "judge", "(I)I"⟩
abbrev cX6_place : ByteArray := prog_1_method_15_code
def yX6_place : MethodName := ⟨RX6, "place", "(II)Z"⟩
abbrev cX6_cut : ByteArray := prog_1_method_16_code
def yX6_cut : MethodName := ⟨RX6, "cut", "(I)I"⟩
abbrev cX6_width : ByteArray := prog_1_method_17_code
def yX6_width : MethodName := ⟨RX6, "width", "()I"⟩
abbrev cX6_forgetSearchAndPlan : ByteArray := prog_1_method_18_code
def yX6_forgetSearchAndPlan : MethodName := ⟨RX6, "forgetSearchAndPlan", "()V"⟩
abbrev cX6_lookAtCave : ByteArray := prog_1_method_19_code
def yX6_lookAtCave : MethodName := ⟨RX6, "lookAtCave", "(II)I"⟩
abbrev cX6_lookAtPassage : ByteArray := prog_1_method_20_code
def yX6_lookAtPassage : MethodName := ⟨RX6, "lookAtPassage", "(II)I"⟩
abbrev cX6_canBeSolved : ByteArray := prog_1_method_21_code
def yX6_canBeSolved : MethodName := ⟨RX6, "canBeSolved", "(I)Z"⟩
abbrev cX6_isPlanBy : ByteArray := prog_1_method_22_code
def yX6_isPlanBy : MethodName := ⟨RX6, "isPlanBy", "(I)Z"⟩
abbrev cX6_isLaw : ByteArray := prog_1_method_23_code
def yX6_isLaw : MethodName := ⟨RX6, "isLaw", "(I)Z"⟩
def RX7 : String := "CavePartyModel"
def TX7 : u_T := fun k => match k with
  | 0 => ("CavePartyModel", "caves", "I", false)
  | 1 => ("CavePartyModel", "mouth", "I", false)
  | 2 => ("CavePartyModel", "one", "[I", true)
  | 3 => ("CavePartyModel", "two", "[I", true)
  | 4 => ("CavePartyModel", "isThere", "[Z", true)
  | 5 => ("CavePartyModel", "layout", "[I", true)
  | 6 => ("CavePartyModel", "men", "[I", true)
  | 7 => ("CavePartyModel", "lostCaves", "I", false)
  | 8 => ("CavePartyModel", "lostPassages", "I", false)
  | 9 => ("CavePartyModel", "done", "I", false)
  | 10 => ("CavePartyModel", "what", "[I", true)
  | 11 => ("CavePartyModel", "where", "[I", true)
  | 12 => ("CavePartyModel", "along", "[I", true)
  | 13 => ("CavePartyModel", "stood", "[I", true)
  | 14 => ("CavePartyModel", "caveBits", "[I", true)
  | 15 => ("CavePartyModel", "passageBits", "[I", true)
  | 16 => ("CavePartyModel", "table", "[I", true)
  | 17 => ("CavePartyModel", "met", "[I", true)
  | 18 => ("CavePartyModel", "cameFrom", "[I", true)
  | 19 => ("CavePartyModel", "cameBy", "[I", true)
  | 20 => ("CavePartyModel", "metMany", "I", false)
  | 21 => ("CavePartyModel", "hasSlid", "Z", false)
  | 22 => ("CavePartyModel", "planMany", "I", false)
  | 23 => ("CavePartyModel", "plan", "[I", true)
  | _ => ("CavePartyModel", "ahead", "[I", true)
def tyX7 : Nat → FieldType := fun k => match k with
  | 0 => .int
  | 1 => .int
  | 2 => .array .int
  | 3 => .array .int
  | 4 => .array .boolean
  | 5 => .array .int
  | 6 => .array .int
  | 7 => .int
  | 8 => .int
  | 9 => .int
  | 10 => .array .int
  | 11 => .array .int
  | 12 => .array .int
  | 13 => .array .int
  | 14 => .array .int
  | 15 => .array .int
  | 16 => .array .int
  | 17 => .array .int
  | 18 => .array .int
  | 19 => .array .int
  | 20 => .int
  | 21 => .boolean
  | 22 => .int
  | 23 => .array .int
  | _ => .array .int
abbrev wsX70 : List Cond := u_ws RX7 TX7 25
theorem nmX7 : ∀ a, a < 25 → ∀ b, b < 25 → a ≠ b → (TX7 a).2.1 ≠ (TX7 b).2.1 := by decide +kernel
theorem tyX7_ok : ∀ k, k < 25 → parseFieldDescriptor (TX7 k).2.2.1 = some (tyX7 k) := by decide +kernel
abbrev cX7_init : ByteArray := prog_9_method_1_code
def yX7_init : MethodName := ⟨RX7, "<init>", "()V"⟩
abbrev cX7_isCave : ByteArray := prog_9_method_2_code
def yX7_isCave : MethodName := ⟨RX7, "isCave", "(I)Z"⟩
abbrev cX7_isPassage : ByteArray := prog_9_method_3_code
def yX7_isPassage : MethodName := ⟨RX7, "isPassage", "(I)Z"⟩
abbrev cX7_isAt : ByteArray := prog_9_method_4_code
def yX7_isAt : MethodName := ⟨RX7, "isAt", "(II)Z"⟩
abbrev cX7_other : ByteArray := prog_9_method_5_code
def yX7_other : MethodName := ⟨RX7, "other", "(II)I"⟩
abbrev cX7_passages : ByteArray := prog_9_method_6_code
def yX7_passages : MethodName := ⟨RX7, "passages", "()I"⟩
abbrev cX7_changes : ByteArray := prog_9_method_7_code
def yX7_changes : MethodName := ⟨RX7, "changes", "()V"⟩
abbrev cX7_caves : ByteArray := prog_9_method_8_code
def yX7_caves : MethodName := ⟨RX7, "caves", "(I)Z"⟩
abbrev cX7_passage : ByteArray := prog_9_method_9_code
def yX7_passage : MethodName := ⟨RX7, "passage", "(II)I"⟩
abbrev cX7_drop : ByteArray := prog_9_method_10_code
def yX7_drop : MethodName := ⟨RX7, "drop", "(I)Z"⟩
abbrev cX7_mouth : ByteArray := prog_9_method_11_code
def yX7_mouth : MethodName := ⟨RX7, "mouth", "(I)Z"⟩
abbrev cX7_pieces : ByteArray := prog_9_method_12_code
def yX7_pieces : MethodName := ⟨RX7, "pieces", "()I"⟩
abbrev cX7_reached : ByteArray := prog_9_method_13_code
def yX7_reached : MethodName := ⟨RX7, "reached", "(II)I"⟩
abbrev cX7_begins : ByteArray := prog_9_method_14_code
def yX7_begins : MethodName := ⟨RX7, "begins", "()V"⟩
abbrev cX7_below : ByteArray := prog_9_method_15_code
def yX7_below : MethodName := ⟨RX7, "below", "()I"⟩
abbrev cX7_spreads : ByteArray := prog_9_method_16_code
def yX7_spreads : MethodName := ⟨RX7, "spreads", "()V"⟩
abbrev cX7_settles : ByteArray := prog_9_method_17_code
def yX7_settles : MethodName := ⟨RX7, "settles", "(I)V"⟩
abbrev cX7_does : ByteArray := prog_9_method_18_code
def yX7_does : MethodName := ⟨RX7, "does", "(III)V"⟩
abbrev cX7_isSearched : ByteArray := prog_9_method_19_code
def yX7_isSearched : MethodName := ⟨RX7, "isSearched", "()Z"⟩
abbrev cX7_hangs : ByteArray := prog_9_method_20_code
def yX7_hangs : MethodName := ⟨RX7, "hangs", "(I)Z"⟩
abbrev cX7_keeps : ByteArray := prog_9_method_21_code
def yX7_keeps : MethodName := ⟨RX7, "keeps", "()V"⟩
abbrev cX7_comes : ByteArray := prog_9_method_22_code
def yX7_comes : MethodName := ⟨RX7, "comes", "(I)V"⟩
abbrev cX7_anew : ByteArray := prog_9_method_23_code
def yX7_anew : MethodName := ⟨RX7, "anew", "()V"⟩
abbrev cX7_order : ByteArray := prog_9_method_24_code
def yX7_order : MethodName := ⟨RX7, "order", "(III)I"⟩
abbrev cX7_undo : ByteArray := prog_9_method_25_code
def yX7_undo : MethodName := ⟨RX7, "undo", "()Z"⟩
abbrev cX7_bits : ByteArray := prog_9_method_26_code
def yX7_bits : MethodName := ⟨RX7, "bits", "(I)I"⟩
abbrev cX7_party : ByteArray := prog_9_method_27_code
def yX7_party : MethodName := ⟨RX7, "party", "()I"⟩
abbrev cX7_count : ByteArray := prog_9_method_28_code
def yX7_count : MethodName := ⟨RX7, "count", "(I)I"⟩
abbrev cX7_placeOf : ByteArray := prog_9_method_29_code
def yX7_placeOf : MethodName := ⟨RX7, "placeOf", "(I)I"⟩
abbrev cX7_degree : ByteArray := prog_9_method_30_code
def yX7_degree : MethodName := ⟨RX7, "degree", "(I)I"⟩
abbrev cX7_look : ByteArray := prog_9_method_31_code
def yX7_look : MethodName := ⟨RX7, "look", "(II)I"⟩
abbrev cX7_number : ByteArray := prog_9_method_32_code
def yX7_number : MethodName := ⟨RX7, "number", "(I)I"⟩
abbrev cX7_shows : ByteArray := prog_9_method_33_code
def yX7_shows : MethodName := ⟨RX7, "shows", "(II)V"⟩
abbrev cX7_meets : ByteArray := prog_9_method_34_code
def yX7_meets : MethodName := ⟨RX7, "meets", "(III)Z"⟩
abbrev cX7_may : ByteArray := prog_9_method_35_code
def yX7_may : MethodName := ⟨RX7, "may", "(IIII)Z"⟩
abbrev cX7_finds : ByteArray := prog_9_method_36_code
def yX7_finds : MethodName := ⟨RX7, "finds", "(II)I"⟩
abbrev cX7_isSmall : ByteArray := prog_9_method_37_code
def yX7_isSmall : MethodName := ⟨RX7, "isSmall", "(I)Z"⟩
abbrev cX7_fewest : ByteArray := prog_9_method_38_code
def yX7_fewest : MethodName := ⟨RX7, "fewest", "(I)I"⟩
abbrev cX7_plan : ByteArray := prog_9_method_39_code
def yX7_plan : MethodName := ⟨RX7, "plan", "(II)I"⟩
abbrev cX7_witness : ByteArray := prog_9_method_40_code
def yX7_witness : MethodName := ⟨RX7, "witness", "(II)I"⟩
abbrev cX7_judge : ByteArray := prog_9_method_41_code
def yX7_judge : MethodName := ⟨RX7, "judge", "(I)I"⟩
abbrev cX7_cutOf : ByteArray := prog_9_method_42_code
def yX7_cutOf : MethodName := ⟨RX7, "cutOf", "(I)I"⟩
abbrev cX7_place : ByteArray := prog_9_method_43_code
def yX7_place : MethodName := ⟨RX7, "place", "(II)Z"⟩
abbrev cX7_cutBehind : ByteArray := prog_9_method_44_code
def yX7_cutBehind : MethodName := ⟨RX7, "cutBehind", "(I)I"⟩
abbrev cX7_cut : ByteArray := prog_9_method_45_code
def yX7_cut : MethodName := ⟨RX7, "cut", "(I)I"⟩
abbrev cX7_width : ByteArray := prog_9_method_46_code
def yX7_width : MethodName := ⟨RX7, "width", "()I"⟩
abbrev cX7_worst : ByteArray := prog_9_method_47_code
def yX7_worst : MethodName := ⟨RX7, "worst", "(I)I"⟩
def RJ6 : String := "java/lang/Integer"
abbrev cJ6_bitCount_0f7a4 : ByteArray := prog_10_method_49_code
def yJ6_bitCount_0f7a4 : MethodName := ⟨RJ6, "bitCount", "(I)I"⟩
def RJ9 : String := "java/lang/Math"
abbrev cJ9_max_7cf53 : ByteArray := prog_11_method_65_code
def yJ9_max_7cf53 : MethodName := ⟨RJ9, "max", "(II)I"⟩
abbrev cJ9_min_7cf53 : ByteArray := prog_11_method_69_code
def yJ9_min_7cf53 : MethodName := ⟨RJ9, "min", "(II)I"⟩
def RJ7 : String := "java/util/Arrays"
abbrev cJ7_fill_53178 : ByteArray := prog_12_method_103_code
def yJ7_fill_53178 : MethodName := ⟨RJ7, "fill", "([II)V"⟩
def RL : String := "CavePartyLaw"
abbrev cL_law : ByteArray := code
def yL_law : MethodName := ⟨RL, "law", "([I)Z"⟩
abbrev vwCl : List vw_C := [(RX0, TX0, 15), (RX1, TX1, 7), (RX2, TX2, 3), (RX3, TX3, 9), (RX4, TX4, 4), (RX5, TX5, 1), (RX6, TX6, 6), (RX7, TX7, 25)]
end
section
def nestW : Jvm.Cond → Bool
  | .fieldLinkNest .. => true
  | .methodLinkNest .. => true
  | _ => false
/-- the tables' words that a call hands on -/
def tb_ : List Jvm.Cond := lw_tbl.filter (fun w => goodWord w || nestW w)
abbrev GX : Type := va_G × ClassId × ClassId
abbrev gt_ (g : GX) : List (ClassId × FieldType) := [(g.2.1, .int), (g.2.2, .boolean)]
/-- an unset local -/
abbrev un_ : Value := .float 0
/-- what is known of the locals -/
def LH (nL : Nat) (L : List Value) (ls : Array Slot) : Prop := lv_has ls nL [] ∧ ∀ (i : Nat) (v : Value), L[i]? = some v → v ≠ un_ → v.category = 1 ∧ ls[i]? = some (.val v)
abbrev FX : Type := Program × Launch × Env × State × MethodId × Array Value × List Frame × Method × Code × (Nat → Prop) × (State → Prop)
/-- a method: code, locals, class, answer, name -/
abbrev MT : Type := ByteArray × Nat × String × Option FieldType × String
def Fix (x : FX) (t : MT) (g : GX) : Prop := match x with
  | (p, _, _, s, m, args, _, meth, c, A, _) => p.tables.exec = Jvm.exec ∧ c.code = t.1 ∧ c.maxLocals = t.2.1 ∧ s.vm.findClass t.2.2.1 = some m.cls ∧ (∀ w ∈ tb_, w.before args s = true) ∧ va_K g.1 vwCl (gt_ g) s ∧ (∀ q, s.heap.size ≤ q → A q) ∧ meth.locks = false ∧ meth.sig.returnType = t.2.2.2.1 ∧ meth.name = t.2.2.2.2
/-- from pc, with these locals, this stack, these cells, the frame comes to its end -/
def Go (x : FX) (R : Room) (t : MT) (g : GX) (pc : Nat) (L st : List Value) (M : va_W) (ce sl : Nat) : Prop := match x with
  | (p, l, e, s, m, args, below, meth, c, A, Q) => ∀ (H : Heap) (locs : List Loc) (ls : Array Slot), Fix (p, l, e, s, m, args, below, meth, c, A, Q) t g → LH t.2.1 L ls → va_P g.1 vwCl M H → va_D A M → va_S A s.heap H locs → W p l e R s m args below meth c H locs ce sl Q (F0 m pc ls st)
/-- the locals as the kit's list -/
def prL (L : List Value) : List (Nat × Value) := (List.range L.length).filterMap fun i => match L[i]? with
  | some v => if v = un_ then none else some (i, v)
  | none => none
theorem prL_mem {L : List Value} {q : Nat × Value} : q ∈ prL L ↔ L[q.1]? = some q.2 ∧ q.2 ≠ un_ := by
  obtain ⟨i, v⟩ := q
  unfold prL
  rw [List.mem_filterMap]
  constructor
  · rintro ⟨j, hj, h⟩
    cases hL : L[j]? with
    | none => rw [hL] at h; cases h
    | some w =>
      rw [hL] at h
      dsimp only at h
      by_cases hw : w = un_
      · rw [if_pos hw] at h; cases h
      · rw [if_neg hw] at h
        cases h
        exact ⟨hL, hw⟩
  · rintro ⟨h1, h2⟩
    refine ⟨i, List.mem_range.mpr (List.getElem?_eq_some_iff.mp h1).1, ?_⟩
    dsimp only at h1 h2
    rw [h1]
    dsimp only
    rw [if_neg h2]
theorem LH.has {nL : Nat} {L : List Value} {ls : Array Slot} (h : LH nL L ls) : lv_has ls nL (prL L) := by
  obtain ⟨⟨h1, h2, -⟩, h3⟩ := h
  refine ⟨h1, h2, fun q hq => ?_⟩
  obtain ⟨a, b⟩ := prL_mem.mp hq
  exact (h3 q.1 q.2 a b).2
theorem LH.put {nL : Nat} {L : List Value} {ls ls' : Array Slot} {i : Nat} {v : Value} (h : LH nL L ls) (hc : v.category = 1) (h' : lv_has ls' nL ((i, v) :: (prL L).filter (fun q => !(q.1 == i) && !(q.1 + 1 == i && q.2.category == 2)))) : LH nL (L.set i v) ls' := by
  obtain ⟨g1, g2, g3⟩ := h'
  refine ⟨⟨g1, g2, fun q hq => by cases hq⟩, fun j w hj hw => ?_⟩
  by_cases hji : j = i
  · subst hji
    have hlt : j < L.length := by
      have := (List.getElem?_eq_some_iff.mp hj).1
      rwa [List.length_set] at this
    rw [List.getElem?_set_self hlt] at hj
    cases hj
    exact ⟨hc, g3 (j, v) List.mem_cons_self⟩
  · rw [List.getElem?_set_ne (Ne.symm hji)] at hj
    have hcw := (h.2 j w hj hw).1
    refine ⟨hcw, g3 (j, w) (List.mem_cons_of_mem _ (List.mem_filter.mpr ⟨prL_mem.mpr ⟨hj, hw⟩, ?_⟩))⟩
    simp [hji, hcw]
/-- fewer locals known -/
def LSb : List Value → List Value → Prop
  | [], _ => True
  | a :: l, b :: m => (a = un_ ∨ a = b) ∧ LSb l m
  | a :: l, [] => a = un_ ∧ LSb l []
theorem LSb.at : ∀ {L' L : List Value}, LSb L' L → ∀ (i : Nat) (v : Value), L'[i]? = some v → v ≠ un_ → L[i]? = some v
  | [], _, _, i, v, h, _ => by simp at h
  | a :: l, b :: m, h, 0, v, hv, hne => by
    rw [List.getElem?_cons_zero] at hv ⊢
    cases hv
    rcases h.1 with z | z
    · exact absurd z hne
    · rw [z]
  | a :: l, b :: m, h, i + 1, v, hv, hne => by
    rw [List.getElem?_cons_succ] at hv ⊢
    exact LSb.at h.2 i v hv hne
  | a :: l, [], h, 0, v, hv, hne => by
    rw [List.getElem?_cons_zero] at hv
    cases hv
    exact absurd h.1 hne
  | a :: l, [], h, i + 1, v, hv, hne => by
    rw [List.getElem?_cons_succ] at hv
    exact absurd (LSb.at h.2 i v hv hne) (by rw [List.getElem?_nil]; exact fun z => by cases z)
section G1
variable {x : FX} {R : Room} {t : MT} {g : GX} {pc q : Nat} {L st : List Value} {M : va_W} {ce sl : Nat}
theorem g_weak {L' : List Value} (h : LSb L' L) (k : Go x R t g pc L' st M ce sl) : Go x R t g pc L st M ce sl := by
  obtain ⟨p, l, e, s, m, args, below, meth, c, A, Q⟩ := x
  intro H locs ls F hl hP hD hS
  exact k H locs ls F ⟨hl.1, fun i v hv hne => hl.2 i v (h.at i v hv hne) hne⟩ hP hD hS
theorem g_widen {ce' sl' : Nat} (h1 : ce ≤ ce') (h2 : sl ≤ sl') (k : Go x R t g pc L st M ce' sl') : Go x R t g pc L st M ce sl := by
  obtain ⟨p, l, e, s, m, args, below, meth, c, A, Q⟩ := x
  intro H locs ls F hl hP hD hS
  exact W.widen h1 h2 (k H locs ls F hl hP hD hS)
/-- fewer cells known -/
theorem g_sub {M' : va_W} (is : List Nat) (hn : va_nd is = true) (hs : is.map (fun i => M[i]?) = M'.map some) (k : Go x R t g pc L st M' ce sl) : Go x R t g pc L st M ce sl := by
  obtain ⟨p, l, e, s, m, args, below, meth, c, A, Q⟩ := x
  intro H locs ls F hl hP hD hS
  refine k H locs ls F hl (fun k0 q0 hk => ?_) (hD.sub is hn hs) hS
  have h1 : (is.map (fun i => M[i]?))[k0]? = some (some q0) := by rw [hs, List.getElem?_map, hk]; rfl
  rw [List.getElem?_map] at h1
  cases hi : is[k0]? with
  | none => rw [hi] at h1; cases h1
  | some i => rw [hi] at h1; exact hP i q0 (Option.some.inj h1)
theorem g_iadd {a b : Int32} (hd : decode t.1 pc = .ok (.iadd, 1)) (hq : pc + 1 = q) (k : Go x R t g q L (.int (a + b) :: st) M ce sl) : Go x R t g pc L (.int b :: .int a :: st) M ce sl := by
  subst hq
  obtain ⟨p, l, e, s, m, args, below, meth, c, A, Q⟩ := x
  intro H locs ls F hl hP hD hS
  exact lv_iadd F.1 F.2.1 hd (k H locs ls F hl hP hD hS)
theorem g_isub {a b : Int32} (hd : decode t.1 pc = .ok (.isub, 1)) (hq : pc + 1 = q) (k : Go x R t g q L (.int (a - b) :: st) M ce sl) : Go x R t g pc L (.int b :: .int a :: st) M ce sl := by
  subst hq
  obtain ⟨p, l, e, s, m, args, below, meth, c, A, Q⟩ := x
  intro H locs ls F hl hP hD hS
  exact lv_isub F.1 F.2.1 hd (k H locs ls F hl hP hD hS)
theorem g_imul {a b : Int32} (hd : decode t.1 pc = .ok (.imul, 1)) (hq : pc + 1 = q) (k : Go x R t g q L (.int (a * b) :: st) M ce sl) : Go x R t g pc L (.int b :: .int a :: st) M ce sl := by
  subst hq
  obtain ⟨p, l, e, s, m, args, below, meth, c, A, Q⟩ := x
  intro H locs ls F hl hP hD hS
  exact lv_imul F.1 F.2.1 hd (k H locs ls F hl hP hD hS)
theorem g_iand {a b : Int32} (hd : decode t.1 pc = .ok (.iand, 1)) (hq : pc + 1 = q) (k : Go x R t g q L (.int (a &&& b) :: st) M ce sl) : Go x R t g pc L (.int b :: .int a :: st) M ce sl := by
  subst hq
  obtain ⟨p, l, e, s, m, args, below, meth, c, A, Q⟩ := x
  intro H locs ls F hl hP hD hS
  exact lv_iand F.1 F.2.1 hd (k H locs ls F hl hP hD hS)
theorem g_ior {a b : Int32} (hd : decode t.1 pc = .ok (.ior, 1)) (hq : pc + 1 = q) (k : Go x R t g q L (.int (a ||| b) :: st) M ce sl) : Go x R t g pc L (.int b :: .int a :: st) M ce sl := by
  subst hq
  obtain ⟨p, l, e, s, m, args, below, meth, c, A, Q⟩ := x
  intro H locs ls F hl hP hD hS
  exact lv_ior F.1 F.2.1 hd (k H locs ls F hl hP hD hS)
theorem g_ixor {a b : Int32} (hd : decode t.1 pc = .ok (.ixor, 1)) (hq : pc + 1 = q) (k : Go x R t g q L (.int (a ^^^ b) :: st) M ce sl) : Go x R t g pc L (.int b :: .int a :: st) M ce sl := by
  subst hq
  obtain ⟨p, l, e, s, m, args, below, meth, c, A, Q⟩ := x
  intro H locs ls F hl hP hD hS
  exact lv_ixor F.1 F.2.1 hd (k H locs ls F hl hP hD hS)
theorem g_ishl {a b : Int32} (hd : decode t.1 pc = .ok (.ishl, 1)) (hq : pc + 1 = q) (k : Go x R t g q L (.int (a <<< (b &&& 31)) :: st) M ce sl) : Go x R t g pc L (.int b :: .int a :: st) M ce sl := by
  subst hq
  obtain ⟨p, l, e, s, m, args, below, meth, c, A, Q⟩ := x
  intro H locs ls F hl hP hD hS
  exact lv_ishl F.1 F.2.1 hd (k H locs ls F hl hP hD hS)
theorem g_ishr {a b : Int32} (hd : decode t.1 pc = .ok (.ishr, 1)) (hq : pc + 1 = q) (k : Go x R t g q L (.int (a >>> (b &&& 31)) :: st) M ce sl) : Go x R t g pc L (.int b :: .int a :: st) M ce sl := by
  subst hq
  obtain ⟨p, l, e, s, m, args, below, meth, c, A, Q⟩ := x
  intro H locs ls F hl hP hD hS
  exact lv_ishr F.1 F.2.1 hd (k H locs ls F hl hP hD hS)
theorem g_iushr {a b : Int32} (hd : decode t.1 pc = .ok (.iushr, 1)) (hq : pc + 1 = q) (k : Go x R t g q L (.int (a.toUInt32 >>> (b.toUInt32 &&& Int32.toUInt32 31)).toInt32 :: st) M ce sl) : Go x R t g pc L (.int b :: .int a :: st) M ce sl := by
  subst hq
  obtain ⟨p, l, e, s, m, args, below, meth, c, A, Q⟩ := x
  intro H locs ls F hl hP hD hS
  exact lv_iushr F.1 F.2.1 hd rfl (k H locs ls F hl hP hD hS)
theorem g_idiv {a b : Int32} (hd : decode t.1 pc = .ok (.idiv, 1)) (hq : pc + 1 = q) (hne : ¬ b = 0) (k : Go x R t g q L (.int (a / b) :: st) M ce sl) : Go x R t g pc L (.int b :: .int a :: st) M ce sl := by
  subst hq
  obtain ⟨p, l, e, s, m, args, below, meth, c, A, Q⟩ := x
  intro H locs ls F hl hP hD hS
  exact lv_idiv F.1 F.2.1 hd hne (k H locs ls F hl hP hD hS)
theorem g_irem {a b : Int32} (hd : decode t.1 pc = .ok (.irem, 1)) (hq : pc + 1 = q) (hne : ¬ b = 0) (k : Go x R t g q L (.int (a - a / b * b) :: st) M ce sl) : Go x R t g pc L (.int b :: .int a :: st) M ce sl := by
  subst hq
  obtain ⟨p, l, e, s, m, args, below, meth, c, A, Q⟩ := x
  intro H locs ls F hl hP hD hS
  exact lv_irem F.1 F.2.1 hd hne (k H locs ls F hl hP hD hS)
theorem g_iconst {n : Int} {v : Int32} (hd : decode t.1 pc = .ok (.iconst n, 1)) (hq : pc + 1 = q) (hv : Int32.ofInt n = v) (k : Go x R t g q L (.int v :: st) M ce sl) : Go x R t g pc L (st) M ce sl := by
  subst hq
  obtain ⟨p, l, e, s, m, args, below, meth, c, A, Q⟩ := x
  intro H locs ls F hl hP hD hS
  exact lv_iconst F.1 F.2.1 hd hv (k H locs ls F hl hP hD hS)
theorem g_bipush {n : Int} {v : Int32} (hd : decode t.1 pc = .ok (.bipush n, 2)) (hq : pc + 2 = q) (hv : (Int8.ofInt n).toInt32 = v) (k : Go x R t g q L (.int v :: st) M ce sl) : Go x R t g pc L (st) M ce sl := by
  subst hq
  obtain ⟨p, l, e, s, m, args, below, meth, c, A, Q⟩ := x
  intro H locs ls F hl hP hD hS
  exact lv_bipush F.1 F.2.1 hd hv (k H locs ls F hl hP hD hS)
theorem g_sipush {n : Int} {v : Int32} (hd : decode t.1 pc = .ok (.sipush n, 3)) (hq : pc + 3 = q) (hv : (Int16.ofInt n).toInt32 = v) (k : Go x R t g q L (.int v :: st) M ce sl) : Go x R t g pc L (st) M ce sl := by
  subst hq
  obtain ⟨p, l, e, s, m, args, below, meth, c, A, Q⟩ := x
  intro H locs ls F hl hP hD hS
  exact lv_sipush F.1 F.2.1 hd hv (k H locs ls F hl hP hD hS)
theorem g_ldc {i : Nat} {v : Int32} (hd : decode t.1 pc = .ok (.ldc i, 2)) (hq : pc + 2 = q) (hw : Jvm.Cond.constant t.2.2.1 i v ∈ tb_) (k : Go x R t g q L (.int v :: st) M ce sl) : Go x R t g pc L (st) M ce sl := by
  subst hq
  obtain ⟨p, l, e, s, m, args, below, meth, c, A, Q⟩ := x
  intro H locs ls F hl hP hD hS
  exact lv_ldc F.1 F.2.1 F.2.2.2.1 (F.2.2.2.2.1 _ hw) hd (k H locs ls F hl hP hD hS)
theorem g_ldcw {i : Nat} {v : Int32} (hd : decode t.1 pc = .ok (.ldc_w i, 3)) (hq : pc + 3 = q) (hw : Jvm.Cond.constant t.2.2.1 i v ∈ tb_) (k : Go x R t g q L (.int v :: st) M ce sl) : Go x R t g pc L (st) M ce sl := by
  subst hq
  obtain ⟨p, l, e, s, m, args, below, meth, c, A, Q⟩ := x
  intro H locs ls F hl hP hD hS
  exact lv_ldcw F.1 F.2.1 F.2.2.2.1 (F.2.2.2.2.1 _ hw) hd (k H locs ls F hl hP hD hS)
theorem g_iload_n {n : Fin 4} {i : Nat} {a : Int32} (hd : decode t.1 pc = .ok (.iload_n n, 1)) (hq : pc + 1 = q) (hi : (n : Nat) = i) (hv : L[i]? = some (.int a)) (k : Go x R t g q L (.int a :: st) M ce sl) : Go x R t g pc L (st) M ce sl := by
  subst hq
  obtain ⟨p, l, e, s, m, args, below, meth, c, A, Q⟩ := x
  intro H locs ls F hl hP hD hS
  exact lv_iload_n F.1 F.2.1 hd hi (hl.2 _ _ hv (fun z => by cases z)).2 (k H locs ls F hl hP hD hS)
theorem g_iload {i : Nat} {a : Int32} (hd : decode t.1 pc = .ok (.iload i, 2)) (hq : pc + 2 = q) (hv : L[i]? = some (.int a)) (k : Go x R t g q L (.int a :: st) M ce sl) : Go x R t g pc L (st) M ce sl := by
  subst hq
  obtain ⟨p, l, e, s, m, args, below, meth, c, A, Q⟩ := x
  intro H locs ls F hl hP hD hS
  exact lv_iload F.1 F.2.1 hd (hl.2 _ _ hv (fun z => by cases z)).2 (k H locs ls F hl hP hD hS)
theorem g_aload_n {n : Fin 4} {i : Nat} {a : Nat} (hd : decode t.1 pc = .ok (.aload_n n, 1)) (hq : pc + 1 = q) (hi : (n : Nat) = i) (hv : L[i]? = some (.ref a)) (k : Go x R t g q L (.ref a :: st) M ce sl) : Go x R t g pc L (st) M ce sl := by
  subst hq
  obtain ⟨p, l, e, s, m, args, below, meth, c, A, Q⟩ := x
  intro H locs ls F hl hP hD hS
  exact lv_aload_n F.1 F.2.1 hd hi (hl.2 _ _ hv (fun z => by cases z)).2 (k H locs ls F hl hP hD hS)
theorem g_aload {i : Nat} {a : Nat} (hd : decode t.1 pc = .ok (.aload i, 2)) (hq : pc + 2 = q) (hv : L[i]? = some (.ref a)) (k : Go x R t g q L (.ref a :: st) M ce sl) : Go x R t g pc L (st) M ce sl := by
  subst hq
  obtain ⟨p, l, e, s, m, args, below, meth, c, A, Q⟩ := x
  intro H locs ls F hl hP hD hS
  exact lv_aload F.1 F.2.1 hd (hl.2 _ _ hv (fun z => by cases z)).2 (k H locs ls F hl hP hD hS)
theorem g_dup {v : Value} (hd : decode t.1 pc = .ok (.dup, 1)) (hq : pc + 1 = q) (hc : v.category = 1) (k : Go x R t g q L (v :: v :: st) M ce sl) : Go x R t g pc L (v :: st) M ce sl := by
  subst hq
  obtain ⟨p, l, e, s, m, args, below, meth, c, A, Q⟩ := x
  intro H locs ls F hl hP hD hS
  exact lv_dup F.1 F.2.1 hd hc (k H locs ls F hl hP hD hS)
theorem g_dup2 {v w : Value} (hd : decode t.1 pc = .ok (.dup2, 1)) (hq : pc + 1 = q) (hc : v.category = 1) (hc2 : w.category = 1) (k : Go x R t g q L (v :: w :: v :: w :: st) M ce sl) : Go x R t g pc L (v :: w :: st) M ce sl := by
  subst hq
  obtain ⟨p, l, e, s, m, args, below, meth, c, A, Q⟩ := x
  intro H locs ls F hl hP hD hS
  exact lv_dup2_11 F.1 F.2.1 hd hc hc2 (k H locs ls F hl hP hD hS)
theorem g_pop {v : Value} (hd : decode t.1 pc = .ok (.pop, 1)) (hq : pc + 1 = q) (hc : v.category = 1) (k : Go x R t g q L (st) M ce sl) : Go x R t g pc L (v :: st) M ce sl := by
  subst hq
  obtain ⟨p, l, e, s, m, args, below, meth, c, A, Q⟩ := x
  intro H locs ls F hl hP hD hS
  exact lv_pop F.1 F.2.1 hd hc (k H locs ls F hl hP hD hS)
theorem g_null  (hd : decode t.1 pc = .ok (.aconst_null, 1)) (hq : pc + 1 = q) (k : Go x R t g q L (.null :: st) M ce sl) : Go x R t g pc L (st) M ce sl := by
  subst hq
  obtain ⟨p, l, e, s, m, args, below, meth, c, A, Q⟩ := x
  intro H locs ls F hl hP hD hS
  exact lv_null F.1 F.2.1 hd (k H locs ls F hl hP hD hS)
theorem g_istore_n {n : Fin 4} {i : Nat} {a : Int32} {L' : List Value} (hd : decode t.1 pc = .ok (.istore_n n, 1)) (hq : pc + 1 = q) (hi : (n : Nat) = i) (hn : i < t.2.1) (hL : L.set i (.int a) = L') (k : Go x R t g q L' st M ce sl) : Go x R t g pc L (.int a :: st) M ce sl := by
  subst hq
  subst hL
  obtain ⟨p, l, e, s, m, args, below, meth, c, A, Q⟩ := x
  intro H locs ls F hl hP hD hS
  exact lv_istore_n F.1 F.2.1 hd hi hl.has hn rfl (fun ls2 h2 => k H locs ls2 F (hl.put rfl h2) hP hD hS)
theorem g_istore {i : Nat} {a : Int32} {L' : List Value} (hd : decode t.1 pc = .ok (.istore i, 2)) (hq : pc + 2 = q) (hn : i < t.2.1) (hL : L.set i (.int a) = L') (k : Go x R t g q L' st M ce sl) : Go x R t g pc L (.int a :: st) M ce sl := by
  subst hq
  subst hL
  obtain ⟨p, l, e, s, m, args, below, meth, c, A, Q⟩ := x
  intro H locs ls F hl hP hD hS
  exact lv_istore F.1 F.2.1 hd hl.has hn rfl (fun ls2 h2 => k H locs ls2 F (hl.put rfl h2) hP hD hS)
theorem g_astore_n {n : Fin 4} {i : Nat} {a : Nat} {L' : List Value} (hd : decode t.1 pc = .ok (.astore_n n, 1)) (hq : pc + 1 = q) (hi : (n : Nat) = i) (hn : i < t.2.1) (hL : L.set i (.ref a) = L') (k : Go x R t g q L' st M ce sl) : Go x R t g pc L (.ref a :: st) M ce sl := by
  subst hq
  subst hL
  obtain ⟨p, l, e, s, m, args, below, meth, c, A, Q⟩ := x
  intro H locs ls F hl hP hD hS
  exact lv_astore_n F.1 F.2.1 hd hi hl.has hn rfl (fun ls2 h2 => k H locs ls2 F (hl.put rfl h2) hP hD hS)
theorem g_iinc {i : Nat} {n : Int} {a b : Int32} {L' : List Value} (hd : decode t.1 pc = .ok (.iinc i n, 3)) (hq : pc + 3 = q) (hv : L[i]? = some (.int a)) (hb : a + Int32.ofInt n = b) (hn : i < t.2.1) (hL : L.set i (.int b) = L') (k : Go x R t g q L' st M ce sl) : Go x R t g pc L st M ce sl := by
  subst hq
  subst hL
  obtain ⟨p, l, e, s, m, args, below, meth, c, A, Q⟩ := x
  intro H locs ls F hl hP hD hS
  obtain ⟨k0, hk0⟩ := List.getElem?_of_mem (prL_mem.mpr (⟨hv, fun z => by cases z⟩ : L[((i, Value.int a) : Nat × Value).1]? = some (i, Value.int a).2 ∧ (i, Value.int a).2 ≠ un_))
  exact lv_iinc F.1 F.2.1 hd hl.has hk0 hb hn rfl (fun ls2 h2 => k H locs ls2 F (hl.put rfl h2) hP hD hS)
theorem g_goto {o : Int} (hd : decode t.1 pc = .ok (.goto o, 3)) (hq : (pc : Int) + o = (q : Int)) (k : Go x R t g q L st M ce sl) : Go x R t g pc L st M ce sl := by
  obtain ⟨p, l, e, s, m, args, below, meth, c, A, Q⟩ := x
  intro H locs ls F hl hP hD hS
  exact lv_goto F.1 F.2.1 hd hq (k H locs ls F hl hP hD hS)
theorem g_if_eq {a : Int32} {o : Int} {r : Nat} (hd : decode t.1 pc = .ok (.ifCond .eq o, 3)) (hr : (pc : Int) + o = (r : Int)) (hq : pc + 3 = q) (kt : a = 0 → Go x R t g r L st M ce sl) (kf : ¬ a = 0 → Go x R t g q L st M ce sl) : Go x R t g pc L (.int a :: st) M ce sl := by
  subst hq
  obtain ⟨p, l, e, s, m, args, below, meth, c, A, Q⟩ := x
  intro H locs ls F hl hP hD hS
  exact lv_if_eq F.1 F.2.1 hd hr (fun z => kt z H locs ls F hl hP hD hS) (fun z => kf z H locs ls F hl hP hD hS)
theorem g_icmp_eq {a b : Int32} {o : Int} {r : Nat} (hd : decode t.1 pc = .ok (.if_icmp .eq o, 3)) (hr : (pc : Int) + o = (r : Int)) (hq : pc + 3 = q) (kt : a = b → Go x R t g r L st M ce sl) (kf : ¬ a = b → Go x R t g q L st M ce sl) : Go x R t g pc L (.int b :: .int a :: st) M ce sl := by
  subst hq
  obtain ⟨p, l, e, s, m, args, below, meth, c, A, Q⟩ := x
  intro H locs ls F hl hP hD hS
  exact lv_icmp_eq F.1 F.2.1 hd hr (fun z => kt z H locs ls F hl hP hD hS) (fun z => kf z H locs ls F hl hP hD hS)
theorem g_if_ne {a : Int32} {o : Int} {r : Nat} (hd : decode t.1 pc = .ok (.ifCond .ne o, 3)) (hr : (pc : Int) + o = (r : Int)) (hq : pc + 3 = q) (kt : ¬ a = 0 → Go x R t g r L st M ce sl) (kf : a = 0 → Go x R t g q L st M ce sl) : Go x R t g pc L (.int a :: st) M ce sl := by
  subst hq
  obtain ⟨p, l, e, s, m, args, below, meth, c, A, Q⟩ := x
  intro H locs ls F hl hP hD hS
  exact lv_if_ne F.1 F.2.1 hd hr (fun z => kt z H locs ls F hl hP hD hS) (fun z => kf z H locs ls F hl hP hD hS)
theorem g_icmp_ne {a b : Int32} {o : Int} {r : Nat} (hd : decode t.1 pc = .ok (.if_icmp .ne o, 3)) (hr : (pc : Int) + o = (r : Int)) (hq : pc + 3 = q) (kt : ¬ a = b → Go x R t g r L st M ce sl) (kf : a = b → Go x R t g q L st M ce sl) : Go x R t g pc L (.int b :: .int a :: st) M ce sl := by
  subst hq
  obtain ⟨p, l, e, s, m, args, below, meth, c, A, Q⟩ := x
  intro H locs ls F hl hP hD hS
  exact lv_icmp_ne F.1 F.2.1 hd hr (fun z => kt z H locs ls F hl hP hD hS) (fun z => kf z H locs ls F hl hP hD hS)
theorem g_if_lt {a : Int32} {o : Int} {r : Nat} (hd : decode t.1 pc = .ok (.ifCond .lt o, 3)) (hr : (pc : Int) + o = (r : Int)) (hq : pc + 3 = q) (kt : a < 0 → Go x R t g r L st M ce sl) (kf : ¬ a < 0 → Go x R t g q L st M ce sl) : Go x R t g pc L (.int a :: st) M ce sl := by
  subst hq
  obtain ⟨p, l, e, s, m, args, below, meth, c, A, Q⟩ := x
  intro H locs ls F hl hP hD hS
  exact lv_if_lt F.1 F.2.1 hd hr (fun z => kt z H locs ls F hl hP hD hS) (fun z => kf z H locs ls F hl hP hD hS)
theorem g_icmp_lt {a b : Int32} {o : Int} {r : Nat} (hd : decode t.1 pc = .ok (.if_icmp .lt o, 3)) (hr : (pc : Int) + o = (r : Int)) (hq : pc + 3 = q) (kt : a < b → Go x R t g r L st M ce sl) (kf : ¬ a < b → Go x R t g q L st M ce sl) : Go x R t g pc L (.int b :: .int a :: st) M ce sl := by
  subst hq
  obtain ⟨p, l, e, s, m, args, below, meth, c, A, Q⟩ := x
  intro H locs ls F hl hP hD hS
  exact lv_icmp_lt F.1 F.2.1 hd hr (fun z => kt z H locs ls F hl hP hD hS) (fun z => kf z H locs ls F hl hP hD hS)
theorem g_if_ge {a : Int32} {o : Int} {r : Nat} (hd : decode t.1 pc = .ok (.ifCond .ge o, 3)) (hr : (pc : Int) + o = (r : Int)) (hq : pc + 3 = q) (kt : 0 ≤ a → Go x R t g r L st M ce sl) (kf : ¬ 0 ≤ a → Go x R t g q L st M ce sl) : Go x R t g pc L (.int a :: st) M ce sl := by
  subst hq
  obtain ⟨p, l, e, s, m, args, below, meth, c, A, Q⟩ := x
  intro H locs ls F hl hP hD hS
  exact lv_if_ge F.1 F.2.1 hd hr (fun z => kt z H locs ls F hl hP hD hS) (fun z => kf z H locs ls F hl hP hD hS)
theorem g_icmp_ge {a b : Int32} {o : Int} {r : Nat} (hd : decode t.1 pc = .ok (.if_icmp .ge o, 3)) (hr : (pc : Int) + o = (r : Int)) (hq : pc + 3 = q) (kt : b ≤ a → Go x R t g r L st M ce sl) (kf : ¬ b ≤ a → Go x R t g q L st M ce sl) : Go x R t g pc L (.int b :: .int a :: st) M ce sl := by
  subst hq
  obtain ⟨p, l, e, s, m, args, below, meth, c, A, Q⟩ := x
  intro H locs ls F hl hP hD hS
  exact lv_icmp_ge F.1 F.2.1 hd hr (fun z => kt z H locs ls F hl hP hD hS) (fun z => kf z H locs ls F hl hP hD hS)
theorem g_if_gt {a : Int32} {o : Int} {r : Nat} (hd : decode t.1 pc = .ok (.ifCond .gt o, 3)) (hr : (pc : Int) + o = (r : Int)) (hq : pc + 3 = q) (kt : 0 < a → Go x R t g r L st M ce sl) (kf : ¬ 0 < a → Go x R t g q L st M ce sl) : Go x R t g pc L (.int a :: st) M ce sl := by
  subst hq
  obtain ⟨p, l, e, s, m, args, below, meth, c, A, Q⟩ := x
  intro H locs ls F hl hP hD hS
  exact lv_if_gt F.1 F.2.1 hd hr (fun z => kt z H locs ls F hl hP hD hS) (fun z => kf z H locs ls F hl hP hD hS)
theorem g_icmp_gt {a b : Int32} {o : Int} {r : Nat} (hd : decode t.1 pc = .ok (.if_icmp .gt o, 3)) (hr : (pc : Int) + o = (r : Int)) (hq : pc + 3 = q) (kt : b < a → Go x R t g r L st M ce sl) (kf : ¬ b < a → Go x R t g q L st M ce sl) : Go x R t g pc L (.int b :: .int a :: st) M ce sl := by
  subst hq
  obtain ⟨p, l, e, s, m, args, below, meth, c, A, Q⟩ := x
  intro H locs ls F hl hP hD hS
  exact lv_icmp_gt F.1 F.2.1 hd hr (fun z => kt z H locs ls F hl hP hD hS) (fun z => kf z H locs ls F hl hP hD hS)
theorem g_if_le {a : Int32} {o : Int} {r : Nat} (hd : decode t.1 pc = .ok (.ifCond .le o, 3)) (hr : (pc : Int) + o = (r : Int)) (hq : pc + 3 = q) (kt : a ≤ 0 → Go x R t g r L st M ce sl) (kf : ¬ a ≤ 0 → Go x R t g q L st M ce sl) : Go x R t g pc L (.int a :: st) M ce sl := by
  subst hq
  obtain ⟨p, l, e, s, m, args, below, meth, c, A, Q⟩ := x
  intro H locs ls F hl hP hD hS
  exact lv_if_le F.1 F.2.1 hd hr (fun z => kt z H locs ls F hl hP hD hS) (fun z => kf z H locs ls F hl hP hD hS)
theorem g_icmp_le {a b : Int32} {o : Int} {r : Nat} (hd : decode t.1 pc = .ok (.if_icmp .le o, 3)) (hr : (pc : Int) + o = (r : Int)) (hq : pc + 3 = q) (kt : a ≤ b → Go x R t g r L st M ce sl) (kf : ¬ a ≤ b → Go x R t g q L st M ce sl) : Go x R t g pc L (.int b :: .int a :: st) M ce sl := by
  subst hq
  obtain ⟨p, l, e, s, m, args, below, meth, c, A, Q⟩ := x
  intro H locs ls F hl hP hD hS
  exact lv_icmp_le F.1 F.2.1 hd hr (fun z => kt z H locs ls F hl hP hD hS) (fun z => kf z H locs ls F hl hP hD hS)
theorem g_nonnull {a : Nat} {o : Int} (hd : decode t.1 pc = .ok (.ifnonnull o, 3)) (hq : (pc : Int) + o = (q : Int)) (k : Go x R t g q L st M ce sl) : Go x R t g pc L (.ref a :: st) M ce sl := by
  obtain ⟨p, l, e, s, m, args, below, meth, c, A, Q⟩ := x
  intro H locs ls F hl hP hD hS
  exact lv_ifnonnull F.1 F.2.1 hd hq (k H locs ls F hl hP hD hS)
theorem g_nonnullN {o : Int} (hd : decode t.1 pc = .ok (.ifnonnull o, 3)) (hq : pc + 3 = q) (k : Go x R t g q L st M ce sl) : Go x R t g pc L (.null :: st) M ce sl := by
  subst hq
  obtain ⟨p, l, e, s, m, args, below, meth, c, A, Q⟩ := x
  intro H locs ls F hl hP hD hS
  exact lv_ifnonnullN F.1 F.2.1 hd (k H locs ls F hl hP hD hS)
theorem g_swOut {d lo hi : Int} {offs : Array Int} {len : Nat} {a : Int32} (hd : decode t.1 pc = .ok (.tableswitch d lo hi offs, len)) (h : a.toInt < lo ∨ hi < a.toInt) (hq : (pc : Int) + d = (q : Int)) (k : Go x R t g q L st M ce sl) : Go x R t g pc L (.int a :: st) M ce sl := by
  obtain ⟨p, l, e, s, m, args, below, meth, c, A, Q⟩ := x
  intro H locs ls F hl hP hD hS
  exact lv_tableOut F.1 F.2.1 hd h hq (k H locs ls F hl hP hD hS)
theorem g_swIn {d lo hi off : Int} {offs : Array Int} {len : Nat} {a : Int32} (hd : decode t.1 pc = .ok (.tableswitch d lo hi offs, len)) (h1 : ¬ a.toInt < lo) (h2 : ¬ hi < a.toInt) (ho : offs[(a.toInt - lo).toNat]? = some off) (hq : (pc : Int) + off = (q : Int)) (k : Go x R t g q L st M ce sl) : Go x R t g pc L (.int a :: st) M ce sl := by
  obtain ⟨p, l, e, s, m, args, below, meth, c, A, Q⟩ := x
  intro H locs ls F hl hP hD hS
  exact lv_tableIn F.1 F.2.1 hd h1 h2 ho hq (k H locs ls F hl hP hD hS)
/-- a field by its link: class ci, place fi -/
def FO (own : String) (i ci fi : Nat) : Prop := ∃ (C : String) (T : u_T) (N : Nat), vwCl[ci]? = some (C, T, N) ∧ fi < N ∧ (∀ w ∈ u_ws C T N, w ∈ tb_) ∧ (Jvm.Cond.fieldLink own i (T fi).1 (T fi).2.1 (T fi).2.2.1 ∈ tb_ ∨ ∃ host, Jvm.Cond.fieldLinkNest own i (T fi).1 (T fi).2.1 (T fi).2.2.1 host ∈ tb_)
/-- the same, to write it: its type; fin: final, in its class's own constructor -/
def FP (own nm : String) (i ci fi : Nat) (ty : FieldType) : Prop := ∃ (C : String) (T : u_T) (N : Nat) (ty0 : Nat → FieldType), vwCl[ci]? = some (C, T, N) ∧ fi < N ∧ (∀ w ∈ u_ws C T N, w ∈ tb_) ∧ (∀ k, k < N → parseFieldDescriptor (T k).2.2.1 = some (ty0 k)) ∧ (∀ a, a < N → ∀ b, b < N → a ≠ b → (T a).2.1 ≠ (T b).2.1) ∧ parseFieldDescriptor (T fi).2.2.1 = some ty ∧
  (((T fi).2.2.2 = false ∧ (Jvm.Cond.fieldLink own i (T fi).1 (T fi).2.1 (T fi).2.2.1 ∈ tb_ ∨ ∃ host, Jvm.Cond.fieldLinkNest own i (T fi).1 (T fi).2.1 (T fi).2.2.1 host ∈ tb_)) ∨ ((T fi).2.2.2 = true ∧ nm = "<init>" ∧ (T fi).1 = own ∧ Jvm.Cond.fieldLink own i (T fi).1 (T fi).2.1 (T fi).2.2.1 ∈ tb_))
theorem g_get {i ci fi a : Nat} {fs : List Value} {v : Value} (hd : decode t.1 pc = .ok (.getfield i, 3)) (hq : pc + 3 = q) (hw : FO t.2.2.1 i ci fi) (k0 : Nat) (hM : M[k0]? = some (a, .inr (ci, fs))) (hv : fs[fi]? = some v) (k : Go x R t g q L (v :: st) M ce sl) : Go x R t g pc L (.ref a :: st) M ce sl := by
  subst hq
  obtain ⟨p, l, e, s, m, args, below, meth, c, A, Q⟩ := x
  intro H locs ls F hl hP hD hS
  obtain ⟨C, T, N, h1, h2, h3, h4⟩ := hw
  obtain ⟨f1, f2, f3, f4, f5, f6, f7, f8⟩ := id F
  rcases h4 with h4 | ⟨host, h4⟩
  · exact va_get f1 f2 f5 h3 f4 f6 hP k0 hM h1 fi h2 (f5 _ h4) (fun _ h => h) hv hd (k H locs ls F hl hP hD hS)
  · exact va_getN f1 f2 f5 h3 f4 f6 hP k0 hM h1 fi h2 (f5 _ h4) (fun _ h => h) hv hd (k H locs ls F hl hP hD hS)
theorem g_put {i ci fi a : Nat} {fs : List Value} {v : Value} {ty : FieldType} {M' : va_W} (hd : decode t.1 pc = .ok (.putfield i, 3)) (hq : pc + 3 = q) (hw : FP t.2.2.1 t.2.2.2.2 i ci fi ty) (k0 : Nat) (hM : M[k0]? = some (a, .inr (ci, fs))) (hn : narrow ty v = v) (hf : fits ty v = true) (hlen : fi < fs.length) (hM' : M.set k0 (a, .inr (ci, fs.set fi v)) = M') (k : Go x R t g q L st M' ce sl) : Go x R t g pc L (v :: .ref a :: st) M ce sl := by
  subst hq
  subst hM'
  obtain ⟨p, l, e, s, m, args, below, meth, c, A, Q⟩ := x
  intro H locs ls F hl hP hD hS
  obtain ⟨C, T, N, ty0, h1, h2, h3, h4, h5, h6, h7⟩ := hw
  obtain ⟨f1, f2, f3, f4, f5, f6, f7, f8, f9, f10⟩ := id F
  rcases h7 with ⟨h7, h8 | ⟨host, h8⟩⟩ | ⟨h7, h9, h10, h8⟩
  · exact va_put f1 f2 f5 h3 ty0 h4 h5 f4 f6 hP hD hS k0 hM h1 fi h2 (f5 _ h8) (fun _ h => h) h7 h6 hn hf hlen hd (fun H2 locs2 hP2 hD2 hS2 => k H2 locs2 ls F hl hP2 hD2 hS2)
  · exact va_putN f1 f2 f5 h3 ty0 h4 h5 f4 f6 hP hD hS k0 hM h1 fi h2 (f5 _ h8) (fun _ h => h) h7 h6 hn hf hlen hd (fun H2 locs2 hP2 hD2 hS2 => k H2 locs2 ls F hl hP2 hD2 hS2)
  · exact va_putF f1 f2 f5 h3 ty0 h4 h5 f4 f6 hP hD hS k0 hM h1 fi h2 (f5 _ h8) (fun _ h => h) h7 (f10.trans h9) h10 h6 hn hf hlen hd (fun H2 locs2 hP2 hD2 hS2 => k H2 locs2 ls F hl hP2 hD2 hS2)
/-- a place of an array -/
abbrev ib (i : Int32) (n : Nat) : Prop := ¬ (i < 0 ∨ n ≤ i.toNatClampNeg)
theorem g_iald {a n : Nat} {f : Nat → Int32} {i : Int32} (hd : decode t.1 pc = .ok (.iaload, 1)) (hq : pc + 1 = q) (k0 : Nat) (hM : M[k0]? = some (a, .inl (g.2.1, n, .inl f))) (hin : ib i n) (k : Go x R t g q L (.int (f i.toNatClampNeg) :: st) M ce sl) : Go x R t g pc L (.int i :: .ref a :: st) M ce sl := by
  subst hq
  obtain ⟨p, l, e, s, m, args, below, meth, c, A, Q⟩ := x
  intro H locs ls F hl hP hD hS
  exact va_iald F.1 F.2.1 F.2.2.2.2.2.1 hP k0 0 hM rfl hin hd (k H locs ls F hl hP hD hS)
theorem g_zald {a n : Nat} {f : Nat → Int32} {i : Int32} (hd : decode t.1 pc = .ok (.baload, 1)) (hq : pc + 1 = q) (k0 : Nat) (hM : M[k0]? = some (a, .inl (g.2.2, n, .inl f))) (hin : ib i n) (k : Go x R t g q L (.int (f i.toNatClampNeg) :: st) M ce sl) : Go x R t g pc L (.int i :: .ref a :: st) M ce sl := by
  subst hq
  obtain ⟨p, l, e, s, m, args, below, meth, c, A, Q⟩ := x
  intro H locs ls F hl hP hD hS
  exact va_zald F.1 F.2.1 F.2.2.2.2.2.1 hP k0 1 hM rfl hin hd (k H locs ls F hl hP hD hS)
theorem g_iast {a n : Nat} {f : Nat → Int32} {i v : Int32} {M' : va_W} (hd : decode t.1 pc = .ok (.iastore, 1)) (hq : pc + 1 = q) (k0 : Nat) (hM : M[k0]? = some (a, .inl (g.2.1, n, .inl f))) (hin : ib i n) (hM' : M.set k0 (a, .inl (g.2.1, n, .inl (upd f i.toNatClampNeg v))) = M') (k : Go x R t g q L st M' ce sl) : Go x R t g pc L (.int v :: .int i :: .ref a :: st) M ce sl := by
  subst hq
  subst hM'
  obtain ⟨p, l, e, s, m, args, below, meth, c, A, Q⟩ := x
  intro H locs ls F hl hP hD hS
  exact va_iast F.1 F.2.1 F.2.2.2.2.2.1 hP hD hS k0 0 hM rfl hin hd (fun H2 locs2 hP2 hD2 hS2 => k H2 locs2 ls F hl hP2 hD2 hS2)
theorem g_zast {a n : Nat} {f : Nat → Int32} {i v w : Int32} {M' : va_W} (hd : decode t.1 pc = .ok (.bastore, 1)) (hq : pc + 1 = q) (k0 : Nat) (hM : M[k0]? = some (a, .inl (g.2.2, n, .inl f))) (hin : ib i n) (hw : vp_nar .boolean v = w) (hM' : M.set k0 (a, .inl (g.2.2, n, .inl (upd f i.toNatClampNeg w))) = M') (k : Go x R t g q L st M' ce sl) : Go x R t g pc L (.int v :: .int i :: .ref a :: st) M ce sl := by
  subst hq
  subst hM'
  subst hw
  obtain ⟨p, l, e, s, m, args, below, meth, c, A, Q⟩ := x
  intro H locs ls F hl hP hD hS
  exact va_zast F.1 F.2.1 F.2.2.2.2.2.1 hP hD hS k0 1 hM rfl hin hd (fun H2 locs2 hP2 hD2 hS2 => k H2 locs2 ls F hl hP2 hD2 hS2)
theorem g_alen {a n : Nat} {f : Nat → Int32} {v : Int32} (hd : decode t.1 pc = .ok (.arraylength, 1)) (hq : pc + 1 = q) (k0 : Nat) (hM : M[k0]? = some (a, .inl (g.2.1, n, .inl f))) (hv : Int32.ofNat n = v) (k : Go x R t g q L (.int v :: st) M ce sl) : Go x R t g pc L (.ref a :: st) M ce sl := by
  subst hq
  obtain ⟨p, l, e, s, m, args, below, meth, c, A, Q⟩ := x
  intro H locs ls F hl hP hD hS
  exact va_alen F.1 F.2.1 F.2.2.2.2.2.1 hP k0 0 hM rfl hv hd (k H locs ls F hl hP hD hS)
end G1
end
section
theorem wm_all {s : State} {args : Array Value} (hts : ∀ w ∈ tb_, w.before args s = true) : ∀ w ∈ tb_, ∀ (a' : Array Value) (U : State), s.WarmedH U.vm → w.before a' U = true := by
  intro w hw a' U hW
  have h1 := (List.mem_filter.mp hw).2
  rw [Bool.or_eq_true] at h1
  rcases h1 with h1 | h1
  · exact word_at hW (good_of_word h1) (hts w hw)
  · cases w <;> first
      | (simp [nestW] at h1; done)
      | exact va_Nw.use rfl (va_Nw.warmF hW (va_Nw.of rfl (hts _ hw)))
      | exact va_Nw.use rfl (va_Nw.warmM hW (va_Nw.of rfl (hts _ hw)))
/-- the end of a method: its answer and its cells as Post says, nothing else changed -/
def CQ (g : GX) (M : va_W) (Post : Option Value → va_W → Prop) : Array Value → State → Outcome → State → Prop := fun _ st oc t =>
  (∃ (r : Option Value) (M' : va_W), oc = .returned r ∧ Post r M' ∧ va_P g.1 vwCl M' t.heap ∧ va_D (va_A M st.heap.size) M') ∧ va_F (va_A M st.heap.size) st t
abbrev wsC (y : MethodName) (t : MT) : List Jvm.Cond := Jvm.Cond.code y t.1 t.2.1 t.2.2.2.1 :: tb_
/-- a method's contract: from the cells M, with these arguments, it comes to Post -/
def Ct (l : Launch) (g : GX) (y : MethodName) (t : MT) (fr lo nc ns : Nat) (as : List Value) (M : va_W) (Post : Option Value → va_W → Prop) : Prop :=
  ∀ sz : Nat, Met l y (wsC y t) ({ frames := fr, cells := nc, slots := ns, locals := lo }) (va_Pc as (fun U => U.heap.size = sz ∧ va_P g.1 vwCl M U.heap ∧ va_K g.1 vwCl (gt_ g) U ∧ va_D (fun _ => True) M)) (CQ g M Post) nc ns (va_A M sz)
/-- a frame whose end is a contract's -/
def RX (x : FX) (g : GX) (M0 : va_W) (Post : Option Value → va_W → Prop) (nc ns : Nat) : Prop := match x with
  | (_, _, _, s, _, args, below, _, _, A, Q) => A = va_A M0 s.heap.size ∧ Q = MQ below (CQ g M0 Post) args s nc ns (va_A M0 s.heap.size)
theorem argsIn : ∀ (as : List Value) (i0 : Nat), (∀ v ∈ as, v.category = 1) → ∀ (i : Nat) (v : Value), as[i]? = some v → (i0 + i, v) ∈ lv_args i0 as
  | [], _, _, i, v, h => by simp at h
  | a :: as, i0, hc, 0, v, h => by
    rw [List.getElem?_cons_zero] at h
    cases h
    unfold lv_args
    first | exact List.mem_cons_self | (simp)
  | a :: as, i0, hc, i + 1, v, h => by
    rw [List.getElem?_cons_succ] at h
    have ha : a.category = 1 := hc a List.mem_cons_self
    have h1 := argsIn as (i0 + 1) (fun w hw => hc w (List.mem_cons_of_mem _ hw)) i v h
    rw [show i0 + 1 + i = i0 + (i + 1) by omega] at h1
    unfold lv_args
    simp only [ha]
    exact List.mem_cons_of_mem _ h1
theorem lenSl (as : List Value) (hc : ∀ v ∈ as, v.category = 1) : (lg_sl as).length = as.length := by
  induction as with
  | nil => rfl
  | cons a as ih =>
    have ha : a.category = 1 := hc a List.mem_cons_self
    have h2 := ih (fun w hw => hc w (List.mem_cons_of_mem _ hw))
    simp only [lg_sl, List.flatMap_cons, ha] at h2 ⊢
    simp only [List.length_append, List.length_cons]
    simp [h2, Nat.add_comm]
theorem Ct.of {l : Launch} {g : GX} {y : MethodName} {t : MT} {fr lo nc ns : Nat} {as : List Value} {M : va_W} {Post : Option Value → va_W → Prop} (hy : plainName y.cls = true) (ho : t.2.2.1 = y.cls) (hm : t.2.2.2.2 = y.name) (hc : as.all (fun v => v.category == 1) = true) (hle : as.length ≤ t.2.1) {L : List Value} (hL : as ++ List.replicate (t.2.1 - as.length) un_ = L)
    (h : ∀ x : FX, x.2.1 = l → RX x g M Post nc ns → Go x { frames := fr, cells := nc, slots := ns, locals := lo } t g 0 L [] M 0 0) : Ct l g y t fr lo nc ns as M Post := by
  intro sz
  have hc' : ∀ v ∈ as, v.category = 1 := fun v hv => by simpa using List.all_eq_true.mp hc v hv
  refine Met.ofW (cc := t.1) (maxL := t.2.1) (ret := t.2.2.2.1) hy rfl ?_
  intro p e s m args below meth c s₁ B hml hv
  obtain ⟨rfl, hsz, hP, hK, hD0⟩ := hv
  have hts := atoms_spec (ws := wsC y t) B.pre
  have hown : s.vm.findClass y.cls = some m.cls := findClass_of_methodNamed B.named
  have hin : meth.name = y.name := (name_of_methodNamed B.named B.method).1
  subst hsz
  have hD := hD0.self (sz := s.heap.size)
  have hl := lv_entry as (n := t.2.1) (by rw [lenSl as hc']; exact hle)
  rw [lg_entry_eq]
  refine h (p, l, e, s, m, as.toArray, below, meth, c, va_A M s.heap.size, MQ below (CQ g M Post) as.toArray s nc ns (va_A M s.heap.size)) rfl ⟨rfl, rfl⟩ s.heap [] _ ⟨B.exec, B.bytes, hml, by rw [ho]; exact hown, fun w hw => hts w (List.mem_cons_of_mem _ hw), hK, fun q hq => Or.inr hq, B.notSynchronized, B.returns, by rw [hin, hm]⟩ ?_ hP hD va_S.rf
  refine ⟨⟨hl.1, hl.2.1, fun q hq => by cases hq⟩, fun i v hi hne => ?_⟩
  subst hL
  by_cases hlt : i < as.length
  · rw [List.getElem?_append_left hlt] at hi
    refine ⟨hc' v (List.mem_of_getElem? hi), ?_⟩
    have h2 := argsIn as 0 hc' i v hi
    rw [Nat.zero_add] at h2
    exact hl.2.2 (i, v) h2
  · rw [List.getElem?_append_right (by omega)] at hi
    exact absurd (List.eq_of_mem_replicate (List.mem_of_getElem? hi)) hne
section G2
variable {x : FX} {R : Room} {t : MT} {g : GX} {pc q : Nat} {L st : List Value} {M M0 : va_W} {ce sl nc ns : Nat} {Post : Option Value → va_W → Prop}
theorem g_iret {v : Int32} {ty : FieldType} (hX : RX x g M0 Post nc ns) (hd : decode t.1 pc = .ok (.ireturn, 1)) (ht : t.2.2.2.1 = some ty) (hn : narrow ty (.int v) = .int v) (h1 : ce ≤ nc) (h2 : sl ≤ ns) (hPo : Post (some (.int v)) M) : Go x R t g pc L [.int v] M ce sl := by
  obtain ⟨p, l, e, s, m, args, below, meth, c, A, Q⟩ := x
  intro H locs ls F hl hP hD hS
  obtain ⟨rfl, rfl⟩ := hX
  obtain ⟨f1, f2, f3, f4, f5, f6, f7, f8, f9, f10⟩ := F
  refine W.widen h1 h2 ?_
  exact W.zret f1 f2 (f9.trans ht) hn (fun u hu hW => ⟨⟨_, M, rfl, hPo, by rw [hu]; exact hP, hD⟩, hS.F hu⟩) hS.2.2 hd f8
theorem g_vret (hX : RX x g M0 Post nc ns) (hd : decode t.1 pc = .ok (.return_, 1)) (ht : t.2.2.2.1 = none) (h1 : ce ≤ nc) (h2 : sl ≤ ns) (hPo : Post none M) : Go x R t g pc L [] M ce sl := by
  obtain ⟨p, l, e, s, m, args, below, meth, c, A, Q⟩ := x
  intro H locs ls F hl hP hD hS
  obtain ⟨rfl, rfl⟩ := hX
  obtain ⟨f1, f2, f3, f4, f5, f6, f7, f8, f9, f10⟩ := F
  refine W.widen h1 h2 ?_
  exact W.vret f1 f2 (f9.trans ht) (fun u hu hW => ⟨⟨_, M, rfl, hPo, by rw [hu]; exact hP, hD⟩, hS.F hu⟩) hS.2.2 hd f8
theorem g_aret {a : Nat} {C : String} (hX : RX x g M0 Post nc ns) (hd : decode t.1 pc = .ok (.areturn, 1)) (ht : t.2.2.2.1 = some (.object C)) (h1 : ce ≤ nc) (h2 : sl ≤ ns) (hPo : Post (some (.ref a)) M) : Go x R t g pc L [.ref a] M ce sl := by
  obtain ⟨p, l, e, s, m, args, below, meth, c, A, Q⟩ := x
  intro H locs ls F hl hP hD hS
  obtain ⟨rfl, rfl⟩ := hX
  obtain ⟨f1, f2, f3, f4, f5, f6, f7, f8, f9, f10⟩ := F
  refine W.widen h1 h2 ?_
  exact W.aret f1 f2 (f9.trans ht) (Or.inl ⟨_, rfl⟩) (Or.inr ⟨_, rfl⟩) (fun u hu hW => ⟨⟨_, M, rfl, hPo, by rw [hu]; exact hP, hD⟩, hS.F hu⟩) hS.2.2 hd f8
end G2
/-- behind a call -/
theorem callC {p : Program} {l : Launch} {e : Env} {R : Room} {s : State} {m : MethodId} {args : Array Value} {below : List Frame} {meth : Method} {c : Code} {H : Heap} {locs : List Loc} {ce sl : Nat} {Q : State → Prop} {pc : Nat} {ls : Array Slot} {rest st0 : List Value} {a : Array Value} {A : Nat → Prop} {H0 : Heap} {mc ms : Nat} {g : GX} {M : va_W} {Post : Option Value → va_W → Prop}
    (hr : va_Run p l e R s m args below meth c H locs ce sl mc ms (F0 m pc ls st0) rest (CQ g M Post a) (va_A M H.size)) (hS : va_S A H0 H locs) (hD : va_D A M) (hA : ∀ q, H0.size ≤ q → A q)
    (kk : ∀ (r : Option Value) (M' : va_W) (H1 : Heap) (locs1 : List Loc), Post r M' → va_P g.1 vwCl M' H1 → va_D A M' → va_S A H0 H1 locs1 → W p l e R s m args below meth c H1 locs1 (ce + mc) (sl + ms) Q (F0 m (pc + 3) ls (r.toList ++ rest))) : W p l e R s m args below meth c H locs ce sl Q (F0 m pc ls st0) := by
  have hAA : ∀ q, va_A M H.size q → A q := by
    intro q h
    rcases h with ⟨k, e, h⟩ | h
    · exact hD.2 k (q, e) h
    · exact hA q (Nat.le_trans hS.1 h)
  intro T hT X
  obtain ⟨v, st₀, t, T', L, h0, X', hL, e1, e2, ⟨⟨r, M', hv, hp, hP1, hD1⟩, hz, hk⟩, st⟩ := hr T hT X
  cases hv
  rw [h0] at hz hk hD1
  obtain ⟨t2, a1, b1⟩ := kk v M' T'.heap (locs ++ L) hp (by rw [e1]; exact hP1) (hD1.weaken (fun _ z _ h => hAA z.1 h))
    ⟨Nat.le_trans hS.1 (by rw [e1]; exact hz), fun q h1 h2 => by rw [e1, hk q (Nat.lt_of_lt_of_le h1 hS.1) (fun z => h2 (hAA q z))]; exact hS.2.1 q h1 h2, fun q hq => by
      rcases List.mem_append.mp hq with h | h
      · exact hS.2.2 q h
      · exact hAA _ (hL q h)⟩ T' rfl X'
  exact ⟨t2, st t2 a1, b1⟩
theorem preOk {g : GX} {M : va_W} {s : State} {H : Heap} {as : List Value} {A : Nat → Prop} (hP : va_P g.1 vwCl M H) (hD : va_D A M) (hK : va_K g.1 vwCl (gt_ g) s) : PreS s H (va_Pc as (fun U => U.heap.size = H.size ∧ va_P g.1 vwCl M U.heap ∧ va_K g.1 vwCl (gt_ g) U ∧ va_D (fun _ => True) M)) as :=
  ⟨fun a U gg mk q => by obtain ⟨q0, q1, qP, qK, qD⟩ := q; exact ⟨q0, q1, qP, va_K.moved (u := U) (U := U.calling gg mk a) (Vm.Alike.refl U.vm) qK, qD⟩, fun U hU hW => ⟨rfl, by rw [hU], by rw [hU]; exact hP, va_K.moved hW.alike hK, hD.weaken (fun _ _ _ _ => trivial)⟩⟩
/-- what a call needs of the tables: the method's own words -/
def MW (y : MethodName) (t : MT) (n : Nat) : Prop := (Jvm.Cond.code y t.1 t.2.1 t.2.2.2.1 ∈ tb_ ∧ Jvm.Cond.initialized y.cls ∈ tb_) ∧ (y.cls ≠ "java/lang/invoke/MethodHandle" ∧ y.cls ≠ "java/lang/invoke/VarHandle" ∧ (parseMethodDescriptor y.desc).map (fun d => d.parameters.length) = some n)
theorem mwB {R : Room} {s : State} {args : Array Value} {own : String} {i : Nat} {y : MethodName} {t : MT} {n fr lo nc ns : Nat} (hts : ∀ w ∈ tb_, w.before args s = true) (hm : MW y t n) (hl : Jvm.Cond.methodLink own i y ∈ tb_) (hR : fr + 1 ≤ R.frames ∧ 8 + (t.2.1 + 11) + lo ≤ R.locals) :
    CallB R s args own i y t.1 t.2.1 t.2.2.2.1 (wsC y t) { frames := fr, cells := nc, slots := ns, locals := lo } nc ns n := by
  obtain ⟨⟨h1, h2⟩, h3, h4, h5⟩ := hm
  refine ⟨rfl, rfl, hR.1, hR.2, fun w hw => ?_, List.mem_cons_self, hts _ h1, hts _ h2, ⟨h3, h4⟩, fun sig h => ?_, hts _ hl⟩
  · rcases List.mem_cons.mp hw with rfl | hw
    · exact wm_all hts _ h1
    · exact wm_all hts _ hw
  · rw [h] at h5
    exact (Option.some.inj h5).symm
theorem mwN {R : Room} {s : State} {args : Array Value} {own host : String} {i : Nat} {y : MethodName} {t : MT} {n fr lo nc ns : Nat} (hts : ∀ w ∈ tb_, w.before args s = true) (hm : MW y t n) (hl : Jvm.Cond.methodLinkNest own i y host ∈ tb_) (hR : fr + 1 ≤ R.frames ∧ 8 + (t.2.1 + 11) + lo ≤ R.locals) :
    va_CN R s args own i y host t.1 t.2.1 t.2.2.2.1 (wsC y t) { frames := fr, cells := nc, slots := ns, locals := lo } nc ns n := by
  obtain ⟨⟨h1, h2⟩, h3, h4, h5⟩ := hm
  refine ⟨⟨rfl, rfl, hR.1, hR.2, fun w hw => ?_, List.mem_cons_self⟩, hts _ h1, hts _ h2, ⟨h3, h4⟩, fun sig h => ?_, hts _ hl⟩
  · rcases List.mem_cons.mp hw with rfl | hw
    · exact wm_all hts _ h1
    · exact wm_all hts _ hw
  · rw [h] at h5
    exact (Option.some.inj h5).symm
section G3
variable {x : FX} {R : Room} {t : MT} {g : GX} {pc q : Nat} {L st : List Value} {M : va_W} {ce sl : Nat} {Post' : Option Value → va_W → Prop} {y : MethodName} {t' : MT} {fr' lo' nc' ns' n i b ci : Nat} {as rest : List Value} {fs : List Value}
/-- a virtual call's words -/
def CV (own : String) (i : Nat) (y : MethodName) (t : MT) (n : Nat) : Prop := MW y t n ∧ Jvm.Cond.methodLink own i y ∈ tb_ ∧ Jvm.Cond.instanceMethod y ∈ tb_ ∧ Jvm.Cond.selects y.cls y y ∈ tb_
theorem g_callV (hd : decode t.1 pc = .ok (.invokevirtual i, 3)) (hq : pc + 3 = q) (hw : CV t.2.2.1 i y t' n) (hC : Ct x.2.1 g y t' fr' lo' nc' ns' (.ref b :: as) M Post') (hst : as.reverse ++ .ref b :: rest = st) (hn : as.length = n) (hR : fr' + 1 ≤ R.frames ∧ 8 + (t'.2.1 + 11) + lo' ≤ R.locals) (hcs : ce + nc' ≤ R.cells ∧ sl + ns' ≤ R.slots) (hcat : (rest.map fun v => v.category).sum ≤ 8) (k0 : Nat) (hM : M[k0]? = some (b, .inr (ci, fs))) (hci : (vwCl[ci]?).map (fun z => z.1) = some y.cls)
    (k : ∀ (r : Option Value) (M' : va_W), Post' r M' → Go x R t g q L (r.toList ++ rest) M' (ce + nc') (sl + ns')) : Go x R t g pc L st M ce sl := by
  subst hq
  subst hst
  obtain ⟨p, l, e, s, m, args, below, meth, c, A, Q⟩ := x
  intro H locs ls F hl hP hD hS
  obtain ⟨f1, f2, f3, f4, f5, f6, f7, f8, f9, f10⟩ := id F
  obtain ⟨w1, w2, w3, w4⟩ := hw
  obtain ⟨z, hz⟩ : ∃ z, vwCl[ci]? = some z := by
    cases hz : vwCl[ci]? with
    | none => rw [hz] at hci; cases hci
    | some z => exact ⟨z, rfl⟩
  have hzc : z.1 = y.cls := by rw [hz] at hci; exact Option.some.inj hci
  have hpr := preOk (as := .ref b :: as) hP hD f6
  refine callC (va_runV ⟨f1, f2, f3, f4, f5⟩ (hC H.size) ⟨mwB f5 w1 w2 hR, f5 _ w3, f5 _ w4⟩ ⟨hpr.1, hzc ▸ va_recv f6 hP hz hM, hpr.2⟩ rfl hn hl.1.1 rfl (lv_room hcat) hd hcs) hS hD f7 (fun r M' H1 locs1 hPo hP1 hD1 hS1 => ?_)
  exact k r M' hPo H1 locs1 ls F hl hP1 hD1 hS1
/-- a static call's words -/
def CS (own : String) (i : Nat) (y : MethodName) (t : MT) (n : Nat) : Prop := MW y t n ∧ Jvm.Cond.methodLink own i y ∈ tb_ ∧ Jvm.Cond.static y ∈ tb_
theorem g_callS (hd : decode t.1 pc = .ok (.invokestatic i, 3)) (hq : pc + 3 = q) (hw : CS t.2.2.1 i y t' n) (hC : Ct x.2.1 g y t' fr' lo' nc' ns' as M Post') (hst : as.reverse ++ rest = st) (hn : as.length = n) (hR : fr' + 1 ≤ R.frames ∧ 8 + (t'.2.1 + 11) + lo' ≤ R.locals) (hcs : ce + nc' ≤ R.cells ∧ sl + ns' ≤ R.slots) (hcat : (rest.map fun v => v.category).sum ≤ 8)
    (k : ∀ (r : Option Value) (M' : va_W), Post' r M' → Go x R t g q L (r.toList ++ rest) M' (ce + nc') (sl + ns')) : Go x R t g pc L st M ce sl := by
  subst hq
  subst hst
  obtain ⟨p, l, e, s, m, args, below, meth, c, A, Q⟩ := x
  intro H locs ls F hl hP hD hS
  obtain ⟨f1, f2, f3, f4, f5, f6, f7, f8, f9, f10⟩ := id F
  obtain ⟨w1, w2, w3⟩ := hw
  have hpr := preOk (as := as) hP hD f6
  refine callC (va_runS ⟨f1, f2, f3, f4, f5⟩ (hC H.size) ⟨mwB f5 w1 w2 hR, f5 _ w3⟩ hpr rfl hn hl.1.1 rfl (lv_room hcat) hd hcs) hS hD f7 (fun r M' H1 locs1 hPo hP1 hD1 hS1 => ?_)
  exact k r M' hPo H1 locs1 ls F hl hP1 hD1 hS1
/-- a constructor's words -/
def CI (own : String) (i : Nat) (y : MethodName) (t : MT) (n : Nat) : Prop := MW y t n ∧ (Jvm.Cond.methodLink own i y ∈ tb_ ∨ ∃ host, Jvm.Cond.methodLinkNest own i y host ∈ tb_) ∧ y.name = "<init>" ∧ Jvm.Cond.instanceMethod y ∈ tb_ ∧ t.2.2.2.1 = none
theorem g_callI (hd : decode t.1 pc = .ok (.invokespecial i, 3)) (hq : pc + 3 = q) (hw : CI t.2.2.1 i y t' n) (hC : Ct x.2.1 g y t' fr' lo' nc' ns' (.ref b :: as) M Post') (hst : as.reverse ++ .ref b :: rest = st) (hn : as.length = n) (hR : fr' + 1 ≤ R.frames ∧ 8 + (t'.2.1 + 11) + lo' ≤ R.locals) (hcs : ce + nc' ≤ R.cells ∧ sl + ns' ≤ R.slots) (hcat : (rest.map fun v => v.category).sum ≤ 8)
    (k : ∀ (r : Option Value) (M' : va_W), Post' r M' → Go x R t g q L (r.toList ++ rest) M' (ce + nc') (sl + ns')) : Go x R t g pc L st M ce sl := by
  subst hq
  subst hst
  obtain ⟨p, l, e, s, m, args, below, meth, c, A, Q⟩ := x
  intro H locs ls F hl hP hD hS
  obtain ⟨f1, f2, f3, f4, f5, f6, f7, f8, f9, f10⟩ := id F
  obtain ⟨w1, w2, w3, w4, w5⟩ := hw
  have hpr := preOk (as := .ref b :: as) hP hD f6
  obtain ⟨tc, tn, to, tr, tm⟩ := t'
  dsimp only at w5
  subst w5
  rcases w2 with w2 | ⟨host, w2⟩
  · refine callC (va_runI ⟨f1, f2, f3, f4, f5⟩ (hC H.size) ⟨mwB f5 w1 w2 hR, w3, f5 _ w4⟩ hpr rfl hn hl.1.1 rfl (lv_room hcat) hd hcs) hS hD f7 (fun r M' H1 locs1 hPo hP1 hD1 hS1 => ?_)
    exact k r M' hPo H1 locs1 ls F hl hP1 hD1 hS1
  · refine callC (va_runIN ⟨f1, f2, f3, f4, f5⟩ (hC H.size) ⟨mwN f5 w1 w2 hR, w3, f5 _ w4⟩ hpr rfl hn hl.1.1 rfl (lv_room hcat) hd hcs) hS hD f7 (fun r M' H1 locs1 hPo hP1 hD1 hS1 => ?_)
    exact k r M' hPo H1 locs1 ls F hl hP1 hD1 hS1
theorem g_objInit {a : Nat} (hd : decode t.1 pc = .ok (.invokespecial i, 3)) (hq : pc + 3 = q) (h1 : Jvm.Cond.methodLink t.2.2.1 i objectInit ∈ tb_) (h2 : Jvm.Cond.instanceMethod objectInit ∈ tb_) (h3 : Jvm.Cond.code objectInit ⟨#[0xb1]⟩ 1 none ∈ tb_) (hf : 1 ≤ R.frames) (hlo : (st.map fun v => v.category).sum + 12 ≤ R.locals) (k : Go x R t g q L st M ce sl) : Go x R t g pc L (.ref a :: st) M ce sl := by
  subst hq
  obtain ⟨p, l, e, s, m, args, below, meth, c, A, Q⟩ := x
  intro H locs ls F hl hP hD hS
  obtain ⟨f1, f2, f3, f4, f5, f6, f7, f8, f9, f10⟩ := id F
  refine W.objInit f1 f2 f4 (f5 _ h1) (f5 _ h2) (f5 _ h3) rfl (by rw [f3]; exact hl.1.1) rfl hd hf ?_ (k H locs ls F hl hP hD hS)
  show 2 * 0 + (st.map fun v => v.category).sum + 12 ≤ R.locals
  omega
/-- a class that is made: its words, its fields at birth -/
def NW (own : String) (i ci N : Nat) (fs : List Value) : Prop := ∃ (C : String) (T : u_T) (ty : Nat → FieldType), vwCl[ci]? = some (C, T, N) ∧ (∀ w ∈ u_ws C T N, w ∈ tb_) ∧ (∀ k, k < N → parseFieldDescriptor (T k).2.2.1 = some (ty k)) ∧ Jvm.Cond.classLink own i C ∈ tb_ ∧ Jvm.Cond.instantiable C N ∈ tb_ ∧ Jvm.Cond.initialized C ∈ tb_ ∧ ∀ j, j < N → defaultValue (ty j) = vp_V fs j
theorem g_new {N : Nat} (hd : decode t.1 pc = .ok (.new i, 3)) (hq : pc + 3 = q) (hw : NW t.2.2.1 i ci N fs) (hc : ce + 1 ≤ R.cells) (hs : sl + N ≤ R.slots) (k : ∀ a : Nat, Go x R t g q L (.ref a :: st) (M ++ [(a, .inr (ci, fs))]) (ce + 1) (sl + N)) : Go x R t g pc L st M ce sl := by
  subst hq
  obtain ⟨p, l, e, s, m, args, below, meth, c, A, Q⟩ := x
  intro H locs ls F hl hP hD hS
  obtain ⟨f1, f2, f3, f4, f5, f6, f7, f8, f9, f10⟩ := id F
  obtain ⟨C, T, ty, h1, h2, h3, h4, h5, h6, h7⟩ := hw
  exact va_new f1 f2 f5 h2 ty h3 f4 (f5 _ h4) (f5 _ h5) (f5 _ h6) f6 hP hD hS f7 h1 h7 hc hs hd (fun a H1 hP1 hD1 hS1 => k a H1 locs ls F hl hP1 hD1 hS1)
theorem g_newi {n : Int32} {N : Nat} (hd : decode t.1 pc = .ok (.newarray .int, 2)) (hq : pc + 2 = q) (hw : Jvm.Cond.arrayClass .int ∈ tb_) (hn : ¬ n < 0) (hN : n.toNatClampNeg = N) (hb : N * 4 ≤ 536870912) (hc : ce + 1 ≤ R.cells) (hs : sl + N ≤ R.slots) (k : ∀ a : Nat, Go x R t g q L (.ref a :: st) (M ++ [(a, .inl (g.2.1, N, .inl (fun _ => 0)))]) (ce + 1) (sl + N)) : Go x R t g pc L (.int n :: st) M ce sl := by
  subst hq
  obtain ⟨p, l, e, s, m, args, below, meth, c, A, Q⟩ := x
  intro H locs ls F hl hP hD hS
  obtain ⟨f1, f2, f3, f4, f5, f6, f7, f8, f9, f10⟩ := id F
  refine va_newa (atype := .int) (a0 := (N, .inl (fun _ => 0))) (ty := .int) f1 f2 (f5 _ hw) rfl f6 hP hD hS f7 (fun _ => rfl) hn hN hb hc hs hd (fun a cA H1 hK1 hP1 hD1 hS1 => ?_)
  have e1 : va_RA s cA .int := (hK1.2 2 (cA, .int) rfl).2
  have e2 : va_RA s g.2.1 .int := (hK1.2 0 (g.2.1, .int) rfl).2
  have e3 : cA = g.2.1 := Option.some.inj (e1.symm.trans e2)
  subst e3
  exact k a H1 locs ls F hl hP1 hD1 hS1
theorem g_newz {n : Int32} {N : Nat} (hd : decode t.1 pc = .ok (.newarray .boolean, 2)) (hq : pc + 2 = q) (hw : Jvm.Cond.arrayClass .boolean ∈ tb_) (hn : ¬ n < 0) (hN : n.toNatClampNeg = N) (hb : N * 1 ≤ 536870912) (hc : ce + 1 ≤ R.cells) (hs : sl + N ≤ R.slots) (k : ∀ a : Nat, Go x R t g q L (.ref a :: st) (M ++ [(a, .inl (g.2.2, N, .inl (fun _ => 0)))]) (ce + 1) (sl + N)) : Go x R t g pc L (.int n :: st) M ce sl := by
  subst hq
  obtain ⟨p, l, e, s, m, args, below, meth, c, A, Q⟩ := x
  intro H locs ls F hl hP hD hS
  obtain ⟨f1, f2, f3, f4, f5, f6, f7, f8, f9, f10⟩ := id F
  refine va_newa (atype := .boolean) (a0 := (N, .inl (fun _ => 0))) (ty := .boolean) f1 f2 (f5 _ hw) rfl f6 hP hD hS f7 (fun _ => rfl) hn hN hb hc hs hd (fun a cA H1 hK1 hP1 hD1 hS1 => ?_)
  have e1 : va_RA s cA .boolean := (hK1.2 2 (cA, .boolean) rfl).2
  have e2 : va_RA s g.2.2 .boolean := (hK1.2 1 (g.2.2, .boolean) rfl).2
  have e3 : cA = g.2.2 := Option.some.inj (e1.symm.trans e2)
  subst e3
  exact k a H1 locs ls F hl hP1 hD1 hS1
end G3
end
