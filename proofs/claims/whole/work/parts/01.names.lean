-- ===== PART A: goes FIRST, ahead of the names: the tables' words, and 'selects' of the private methods out of them =====
/-- a private method of a class that the tables say can be made, by its rows of tables_1 -/
def lw_okq (q : MethodName × Nat) : Prop := (q.1.cls ≠ "java/lang/invoke/MethodHandle" ∧ q.1.cls ≠ "java/lang/invoke/VarHandle") ∧ Cond.instantiable q.1.cls q.2 ∈ tables_1 ∧ Cond.privateMethod q.1 ∈ tables_1 ∧ Cond.instanceMethod q.1 ∈ tables_1
theorem lw_p0 : lw_okq (⟨"TermLodgings", "wishTold", "(II)I"⟩, 10) := ⟨⟨by decide +kernel, by decide +kernel⟩, List.mem_of_getElem? (i := 17) (by decide +kernel), List.mem_of_getElem? (i := 419) (by decide +kernel), List.mem_of_getElem? (i := 420) (by decide +kernel)⟩
theorem lw_p1 : lw_okq (⟨"TermLodgings", "canBeGiven", "(II)Z"⟩, 10) := ⟨⟨by decide +kernel, by decide +kernel⟩, List.mem_of_getElem? (i := 17) (by decide +kernel), List.mem_of_getElem? (i := 432) (by decide +kernel), List.mem_of_getElem? (i := 433) (by decide +kernel)⟩
theorem lw_p2 : lw_okq (⟨"TermLodgings$Statute", "goesOnWith", "(I)Z"⟩, 9) := ⟨⟨by decide +kernel, by decide +kernel⟩, List.mem_of_getElem? (i := 121) (by decide +kernel), List.mem_of_getElem? (i := 488) (by decide +kernel), List.mem_of_getElem? (i := 489) (by decide +kernel)⟩
theorem lw_p3 : lw_okq (⟨"TermLodgings$Statute", "beginTest", "(I)Z"⟩, 9) := ⟨⟨by decide +kernel, by decide +kernel⟩, List.mem_of_getElem? (i := 121) (by decide +kernel), List.mem_of_getElem? (i := 492) (by decide +kernel), List.mem_of_getElem? (i := 493) (by decide +kernel)⟩
theorem lw_p4 : lw_okq (⟨"TermLodgings$Statute", "takeSign", "(I)Z"⟩, 9) := ⟨⟨by decide +kernel, by decide +kernel⟩, List.mem_of_getElem? (i := 121) (by decide +kernel), List.mem_of_getElem? (i := 497) (by decide +kernel), List.mem_of_getElem? (i := 498) (by decide +kernel)⟩
theorem lw_p5 : lw_okq (⟨"TermLodgings$Statute", "takeFigure", "(I)Z"⟩, 9) := ⟨⟨by decide +kernel, by decide +kernel⟩, List.mem_of_getElem? (i := 121) (by decide +kernel), List.mem_of_getElem? (i := 501) (by decide +kernel), List.mem_of_getElem? (i := 502) (by decide +kernel)⟩
theorem lw_p6 : lw_okq (⟨"TermLodgings$Statute", "endTest", "(I)Z"⟩, 9) := ⟨⟨by decide +kernel, by decide +kernel⟩, List.mem_of_getElem? (i := 121) (by decide +kernel), List.mem_of_getElem? (i := 505) (by decide +kernel), List.mem_of_getElem? (i := 506) (by decide +kernel)⟩
theorem lw_p7 : lw_okq (⟨"TermLodgings$Dealing", "serve", "(II)V"⟩, 4) := ⟨⟨by decide +kernel, by decide +kernel⟩, List.mem_of_getElem? (i := 193) (by decide +kernel), List.mem_of_getElem? (i := 583) (by decide +kernel), List.mem_of_getElem? (i := 584) (by decide +kernel)⟩
theorem lw_p8 : lw_okq (⟨"TermLodgings$Dealing", "settleTogether", "(II)Z"⟩, 4) := ⟨⟨by decide +kernel, by decide +kernel⟩, List.mem_of_getElem? (i := 193) (by decide +kernel), List.mem_of_getElem? (i := 593) (by decide +kernel), List.mem_of_getElem? (i := 594) (by decide +kernel)⟩
theorem lw_p9 : lw_okq (⟨"TermLodgings$Dealing", "pickAmong", "(II)Z"⟩, 4) := ⟨⟨by decide +kernel, by decide +kernel⟩, List.mem_of_getElem? (i := 193) (by decide +kernel), List.mem_of_getElem? (i := 607) (by decide +kernel), List.mem_of_getElem? (i := 608) (by decide +kernel)⟩
theorem lw_p10 : lw_okq (⟨"TermLodgings$Dealing", "settlePicks", "(I)V"⟩, 4) := ⟨⟨by decide +kernel, by decide +kernel⟩, List.mem_of_getElem? (i := 193) (by decide +kernel), List.mem_of_getElem? (i := 619) (by decide +kernel), List.mem_of_getElem? (i := 620) (by decide +kernel)⟩
theorem lw_p11 : lw_okq (⟨"TermLodgings$Dealing", "settleEach", "(I)V"⟩, 4) := ⟨⟨by decide +kernel, by decide +kernel⟩, List.mem_of_getElem? (i := 193) (by decide +kernel), List.mem_of_getElem? (i := 624) (by decide +kernel), List.mem_of_getElem? (i := 625) (by decide +kernel)⟩
theorem lw_p12 : lw_okq (⟨"TermLodgings$Dealing", "dearestOpenWish", "(I)I"⟩, 4) := ⟨⟨by decide +kernel, by decide +kernel⟩, List.mem_of_getElem? (i := 193) (by decide +kernel), List.mem_of_getElem? (i := 628) (by decide +kernel), List.mem_of_getElem? (i := 629) (by decide +kernel)⟩
theorem lw_p13 : lw_okq (⟨"TermLodgings$Trading", "traders", "()I"⟩, 8) := ⟨⟨by decide +kernel, by decide +kernel⟩, List.mem_of_getElem? (i := 212) (by decide +kernel), List.mem_of_getElem? (i := 645) (by decide +kernel), List.mem_of_getElem? (i := 646) (by decide +kernel)⟩
theorem lw_p14 : lw_okq (⟨"TermLodgings$Trading", "pointAll", "()V"⟩, 8) := ⟨⟨by decide +kernel, by decide +kernel⟩, List.mem_of_getElem? (i := 212) (by decide +kernel), List.mem_of_getElem? (i := 655) (by decide +kernel), List.mem_of_getElem? (i := 656) (by decide +kernel)⟩
theorem lw_p15 : lw_okq (⟨"TermLodgings$Trading", "pointedAtBy", "(I)I"⟩, 8) := ⟨⟨by decide +kernel, by decide +kernel⟩, List.mem_of_getElem? (i := 212) (by decide +kernel), List.mem_of_getElem? (i := 659) (by decide +kernel), List.mem_of_getElem? (i := 660) (by decide +kernel)⟩
def lw_privs_1 : List (MethodName × Nat) := [(⟨"TermLodgings", "wishTold", "(II)I"⟩, 10), (⟨"TermLodgings", "canBeGiven", "(II)Z"⟩, 10), (⟨"TermLodgings$Statute", "goesOnWith", "(I)Z"⟩, 9), (⟨"TermLodgings$Statute", "beginTest", "(I)Z"⟩, 9), (⟨"TermLodgings$Statute", "takeSign", "(I)Z"⟩, 9), (⟨"TermLodgings$Statute", "takeFigure", "(I)Z"⟩, 9), (⟨"TermLodgings$Statute", "endTest", "(I)Z"⟩, 9), (⟨"TermLodgings$Dealing", "serve", "(II)V"⟩, 4), (⟨"TermLodgings$Dealing", "settleTogether", "(II)Z"⟩, 4), (⟨"TermLodgings$Dealing", "pickAmong", "(II)Z"⟩, 4), (⟨"TermLodgings$Dealing", "settlePicks", "(I)V"⟩, 4), (⟨"TermLodgings$Dealing", "settleEach", "(I)V"⟩, 4), (⟨"TermLodgings$Dealing", "dearestOpenWish", "(I)I"⟩, 4), (⟨"TermLodgings$Trading", "traders", "()I"⟩, 8), (⟨"TermLodgings$Trading", "pointAll", "()V"⟩, 8), (⟨"TermLodgings$Trading", "pointedAtBy", "(I)I"⟩, 8)]
theorem lw_r1 : ∀ q ∈ lw_privs_1, lw_okq q := List.forall_mem_cons.mpr ⟨lw_p0, List.forall_mem_cons.mpr ⟨lw_p1, List.forall_mem_cons.mpr ⟨lw_p2, List.forall_mem_cons.mpr ⟨lw_p3, List.forall_mem_cons.mpr ⟨lw_p4, List.forall_mem_cons.mpr ⟨lw_p5, List.forall_mem_cons.mpr ⟨lw_p6, List.forall_mem_cons.mpr ⟨lw_p7, List.forall_mem_cons.mpr ⟨lw_p8, List.forall_mem_cons.mpr ⟨lw_p9, List.forall_mem_cons.mpr ⟨lw_p10, List.forall_mem_cons.mpr ⟨lw_p11, List.forall_mem_cons.mpr ⟨lw_p12, List.forall_mem_cons.mpr ⟨lw_p13, List.forall_mem_cons.mpr ⟨lw_p14, List.forall_mem_cons.mpr ⟨lw_p15, fun _ h => absurd h List.not_mem_nil⟩⟩⟩⟩⟩⟩⟩⟩⟩⟩⟩⟩⟩⟩⟩⟩
theorem lw_p16 : lw_okq (⟨"TermLodgings$Trading", "closeAllRings", "()V"⟩, 8) := ⟨⟨by decide +kernel, by decide +kernel⟩, List.mem_of_getElem? (i := 212) (by decide +kernel), List.mem_of_getElem? (i := 666) (by decide +kernel), List.mem_of_getElem? (i := 667) (by decide +kernel)⟩
theorem lw_p17 : lw_okq (⟨"TermLodgings$Trading", "ringLength", "(I)I"⟩, 8) := ⟨⟨by decide +kernel, by decide +kernel⟩, List.mem_of_getElem? (i := 212) (by decide +kernel), List.mem_of_getElem? (i := 670) (by decide +kernel), List.mem_of_getElem? (i := 671) (by decide +kernel)⟩
theorem lw_p18 : lw_okq (⟨"TermLodgings$Trading", "targetOf", "(I)I"⟩, 8) := ⟨⟨by decide +kernel, by decide +kernel⟩, List.mem_of_getElem? (i := 212) (by decide +kernel), List.mem_of_getElem? (i := 674) (by decide +kernel), List.mem_of_getElem? (i := 675) (by decide +kernel)⟩
theorem lw_p19 : lw_okq (⟨"TermLodgings$Trading", "closeRing", "(II)I"⟩, 8) := ⟨⟨by decide +kernel, by decide +kernel⟩, List.mem_of_getElem? (i := 212) (by decide +kernel), List.mem_of_getElem? (i := 679) (by decide +kernel), List.mem_of_getElem? (i := 680) (by decide +kernel)⟩
theorem lw_p20 : lw_okq (⟨"TermLodgings$Trading", "moveAll", "(I)I"⟩, 8) := ⟨⟨by decide +kernel, by decide +kernel⟩, List.mem_of_getElem? (i := 212) (by decide +kernel), List.mem_of_getElem? (i := 686) (by decide +kernel), List.mem_of_getElem? (i := 687) (by decide +kernel)⟩
theorem lw_p21 : lw_okq (⟨"TermLodgings$Moving", "emptyHouse", "(I)V"⟩, 10) := ⟨⟨by decide +kernel, by decide +kernel⟩, List.mem_of_getElem? (i := 246) (by decide +kernel), List.mem_of_getElem? (i := 704) (by decide +kernel), List.mem_of_getElem? (i := 705) (by decide +kernel)⟩
theorem lw_p22 : lw_okq (⟨"TermLodgings$Moving", "mostFrom", "(II)I"⟩, 10) := ⟨⟨by decide +kernel, by decide +kernel⟩, List.mem_of_getElem? (i := 246) (by decide +kernel), List.mem_of_getElem? (i := 713) (by decide +kernel), List.mem_of_getElem? (i := 714) (by decide +kernel)⟩
theorem lw_p23 : lw_okq (⟨"TermLodgings$Moving", "findRoom", "(II)I"⟩, 10) := ⟨⟨by decide +kernel, by decide +kernel⟩, List.mem_of_getElem? (i := 246) (by decide +kernel), List.mem_of_getElem? (i := 718) (by decide +kernel), List.mem_of_getElem? (i := 719) (by decide +kernel)⟩
theorem lw_p24 : lw_okq (⟨"TermLodgings$Moving", "choiceOf", "(I)I"⟩, 10) := ⟨⟨by decide +kernel, by decide +kernel⟩, List.mem_of_getElem? (i := 246) (by decide +kernel), List.mem_of_getElem? (i := 722) (by decide +kernel), List.mem_of_getElem? (i := 723) (by decide +kernel)⟩
theorem lw_p25 : lw_okq (⟨"TermLodgings$Moving", "changeAlong", "(I)V"⟩, 10) := ⟨⟨by decide +kernel, by decide +kernel⟩, List.mem_of_getElem? (i := 246) (by decide +kernel), List.mem_of_getElem? (i := 727) (by decide +kernel), List.mem_of_getElem? (i := 728) (by decide +kernel)⟩
theorem lw_p26 : lw_okq (⟨"TermLodgings$Moving", "settleMovers", "(I)V"⟩, 10) := ⟨⟨by decide +kernel, by decide +kernel⟩, List.mem_of_getElem? (i := 246) (by decide +kernel), List.mem_of_getElem? (i := 732) (by decide +kernel), List.mem_of_getElem? (i := 733) (by decide +kernel)⟩
theorem lw_p27 : lw_okq (⟨"TermLodgings$Moving", "leastRoom", "(III)I"⟩, 10) := ⟨⟨by decide +kernel, by decide +kernel⟩, List.mem_of_getElem? (i := 246) (by decide +kernel), List.mem_of_getElem? (i := 736) (by decide +kernel), List.mem_of_getElem? (i := 737) (by decide +kernel)⟩
theorem lw_p28 : lw_okq (⟨"TermLodgings$Prices", "sinceOf", "(I)I"⟩, 6) := ⟨⟨by decide +kernel, by decide +kernel⟩, List.mem_of_getElem? (i := 300) (by decide +kernel), List.mem_of_getElem? (i := 770) (by decide +kernel), List.mem_of_getElem? (i := 771) (by decide +kernel)⟩
theorem lw_p29 : lw_okq (⟨"TermLodgings$Prices", "valueOf", "(I)I"⟩, 6) := ⟨⟨by decide +kernel, by decide +kernel⟩, List.mem_of_getElem? (i := 300) (by decide +kernel), List.mem_of_getElem? (i := 782) (by decide +kernel), List.mem_of_getElem? (i := 783) (by decide +kernel)⟩
theorem lw_p30 : lw_okq (⟨"TermLodgings", "lodgersAt", "(II)I"⟩, 10) := ⟨⟨by decide +kernel, by decide +kernel⟩, List.mem_of_getElem? (i := 17) (by decide +kernel), List.mem_of_getElem? (i := 805) (by decide +kernel), List.mem_of_getElem? (i := 806) (by decide +kernel)⟩
theorem lw_p31 : lw_okq (⟨"TermLodgingsModel", "isOne", "(I)Z"⟩, 32) := ⟨⟨by decide +kernel, by decide +kernel⟩, List.mem_of_getElem? (i := 829) (by decide +kernel), List.mem_of_getElem? (i := 952) (by decide +kernel), List.mem_of_getElem? (i := 953) (by decide +kernel)⟩
def lw_privs_2 : List (MethodName × Nat) := [(⟨"TermLodgings$Trading", "closeAllRings", "()V"⟩, 8), (⟨"TermLodgings$Trading", "ringLength", "(I)I"⟩, 8), (⟨"TermLodgings$Trading", "targetOf", "(I)I"⟩, 8), (⟨"TermLodgings$Trading", "closeRing", "(II)I"⟩, 8), (⟨"TermLodgings$Trading", "moveAll", "(I)I"⟩, 8), (⟨"TermLodgings$Moving", "emptyHouse", "(I)V"⟩, 10), (⟨"TermLodgings$Moving", "mostFrom", "(II)I"⟩, 10), (⟨"TermLodgings$Moving", "findRoom", "(II)I"⟩, 10), (⟨"TermLodgings$Moving", "choiceOf", "(I)I"⟩, 10), (⟨"TermLodgings$Moving", "changeAlong", "(I)V"⟩, 10), (⟨"TermLodgings$Moving", "settleMovers", "(I)V"⟩, 10), (⟨"TermLodgings$Moving", "leastRoom", "(III)I"⟩, 10), (⟨"TermLodgings$Prices", "sinceOf", "(I)I"⟩, 6), (⟨"TermLodgings$Prices", "valueOf", "(I)I"⟩, 6), (⟨"TermLodgings", "lodgersAt", "(II)I"⟩, 10), (⟨"TermLodgingsModel", "isOne", "(I)Z"⟩, 32)]
theorem lw_r2 : ∀ q ∈ lw_privs_2, lw_okq q := List.forall_mem_cons.mpr ⟨lw_p16, List.forall_mem_cons.mpr ⟨lw_p17, List.forall_mem_cons.mpr ⟨lw_p18, List.forall_mem_cons.mpr ⟨lw_p19, List.forall_mem_cons.mpr ⟨lw_p20, List.forall_mem_cons.mpr ⟨lw_p21, List.forall_mem_cons.mpr ⟨lw_p22, List.forall_mem_cons.mpr ⟨lw_p23, List.forall_mem_cons.mpr ⟨lw_p24, List.forall_mem_cons.mpr ⟨lw_p25, List.forall_mem_cons.mpr ⟨lw_p26, List.forall_mem_cons.mpr ⟨lw_p27, List.forall_mem_cons.mpr ⟨lw_p28, List.forall_mem_cons.mpr ⟨lw_p29, List.forall_mem_cons.mpr ⟨lw_p30, List.forall_mem_cons.mpr ⟨lw_p31, fun _ h => absurd h List.not_mem_nil⟩⟩⟩⟩⟩⟩⟩⟩⟩⟩⟩⟩⟩⟩⟩⟩
theorem lw_p32 : lw_okq (⟨"TermLodgingsModel", "isRoom", "(I)Z"⟩, 32) := ⟨⟨by decide +kernel, by decide +kernel⟩, List.mem_of_getElem? (i := 829) (by decide +kernel), List.mem_of_getElem? (i := 956) (by decide +kernel), List.mem_of_getElem? (i := 957) (by decide +kernel)⟩
theorem lw_p33 : lw_okq (⟨"TermLodgingsModel", "rankOf", "(II)I"⟩, 32) := ⟨⟨by decide +kernel, by decide +kernel⟩, List.mem_of_getElem? (i := 829) (by decide +kernel), List.mem_of_getElem? (i := 960) (by decide +kernel), List.mem_of_getElem? (i := 961) (by decide +kernel)⟩
theorem lw_p34 : lw_okq (⟨"TermLodgingsModel", "whoHas", "(I)I"⟩, 32) := ⟨⟨by decide +kernel, by decide +kernel⟩, List.mem_of_getElem? (i := 829) (by decide +kernel), List.mem_of_getElem? (i := 977) (by decide +kernel), List.mem_of_getElem? (i := 978) (by decide +kernel)⟩
theorem lw_p35 : lw_okq (⟨"TermLodgingsModel", "mayLive", "(II)Z"⟩, 32) := ⟨⟨by decide +kernel, by decide +kernel⟩, List.mem_of_getElem? (i := 829) (by decide +kernel), List.mem_of_getElem? (i := 985) (by decide +kernel), List.mem_of_getElem? (i := 986) (by decide +kernel)⟩
theorem lw_p36 : lw_okq (⟨"TermLodgingsModel", "holds", "(IIII)Z"⟩, 32) := ⟨⟨by decide +kernel, by decide +kernel⟩, List.mem_of_getElem? (i := 829) (by decide +kernel), List.mem_of_getElem? (i := 1004) (by decide +kernel), List.mem_of_getElem? (i := 1005) (by decide +kernel)⟩
theorem lw_p37 : lw_okq (⟨"TermLodgingsModel", "sizeOf", "(I)I"⟩, 32) := ⟨⟨by decide +kernel, by decide +kernel⟩, List.mem_of_getElem? (i := 829) (by decide +kernel), List.mem_of_getElem? (i := 1044) (by decide +kernel), List.mem_of_getElem? (i := 1045) (by decide +kernel)⟩
theorem lw_p38 : lw_okq (⟨"TermLodgingsModel", "dearest", "(I)V"⟩, 32) := ⟨⟨by decide +kernel, by decide +kernel⟩, List.mem_of_getElem? (i := 829) (by decide +kernel), List.mem_of_getElem? (i := 1048) (by decide +kernel), List.mem_of_getElem? (i := 1049) (by decide +kernel)⟩
theorem lw_p39 : lw_okq (⟨"TermLodgingsModel", "moveInto", "(II)Z"⟩, 32) := ⟨⟨by decide +kernel, by decide +kernel⟩, List.mem_of_getElem? (i := 829) (by decide +kernel), List.mem_of_getElem? (i := 1052) (by decide +kernel), List.mem_of_getElem? (i := 1053) (by decide +kernel)⟩
theorem lw_p40 : lw_okq (⟨"TermLodgingsModel", "housed", "()I"⟩, 32) := ⟨⟨by decide +kernel, by decide +kernel⟩, List.mem_of_getElem? (i := 829) (by decide +kernel), List.mem_of_getElem? (i := 1056) (by decide +kernel), List.mem_of_getElem? (i := 1057) (by decide +kernel)⟩
theorem lw_p41 : lw_okq (⟨"TermLodgingsModel", "pointOf", "(II)I"⟩, 32) := ⟨⟨by decide +kernel, by decide +kernel⟩, List.mem_of_getElem? (i := 829) (by decide +kernel), List.mem_of_getElem? (i := 1064) (by decide +kernel), List.mem_of_getElem? (i := 1065) (by decide +kernel)⟩
theorem lw_p42 : lw_okq (⟨"TermLodgingsModel", "most", "(I)I"⟩, 32) := ⟨⟨by decide +kernel, by decide +kernel⟩, List.mem_of_getElem? (i := 829) (by decide +kernel), List.mem_of_getElem? (i := 1077) (by decide +kernel), List.mem_of_getElem? (i := 1078) (by decide +kernel)⟩
theorem lw_p43 : lw_okq (⟨"TermLodgingsModel", "lays", "(I)Z"⟩, 32) := ⟨⟨by decide +kernel, by decide +kernel⟩, List.mem_of_getElem? (i := 829) (by decide +kernel), List.mem_of_getElem? (i := 1081) (by decide +kernel), List.mem_of_getElem? (i := 1082) (by decide +kernel)⟩
theorem lw_p44 : lw_okq (⟨"TermLodgingsModel", "take", "(II)V"⟩, 32) := ⟨⟨by decide +kernel, by decide +kernel⟩, List.mem_of_getElem? (i := 829) (by decide +kernel), List.mem_of_getElem? (i := 1085) (by decide +kernel), List.mem_of_getElem? (i := 1086) (by decide +kernel)⟩
theorem lw_p45 : lw_okq (⟨"TermLodgingsModel", "untake", "(I)V"⟩, 32) := ⟨⟨by decide +kernel, by decide +kernel⟩, List.mem_of_getElem? (i := 829) (by decide +kernel), List.mem_of_getElem? (i := 1089) (by decide +kernel), List.mem_of_getElem? (i := 1090) (by decide +kernel)⟩
theorem lw_p46 : lw_okq (⟨"TermLodgingsModel", "priceOf", "(III)I"⟩, 32) := ⟨⟨by decide +kernel, by decide +kernel⟩, List.mem_of_getElem? (i := 829) (by decide +kernel), List.mem_of_getElem? (i := 1116) (by decide +kernel), List.mem_of_getElem? (i := 1117) (by decide +kernel)⟩
theorem lw_p47 : lw_okq (⟨"TermLodgingsModel", "billOf", "(II)I"⟩, 32) := ⟨⟨by decide +kernel, by decide +kernel⟩, List.mem_of_getElem? (i := 829) (by decide +kernel), List.mem_of_getElem? (i := 1128) (by decide +kernel), List.mem_of_getElem? (i := 1129) (by decide +kernel)⟩
def lw_privs_3 : List (MethodName × Nat) := [(⟨"TermLodgingsModel", "isRoom", "(I)Z"⟩, 32), (⟨"TermLodgingsModel", "rankOf", "(II)I"⟩, 32), (⟨"TermLodgingsModel", "whoHas", "(I)I"⟩, 32), (⟨"TermLodgingsModel", "mayLive", "(II)Z"⟩, 32), (⟨"TermLodgingsModel", "holds", "(IIII)Z"⟩, 32), (⟨"TermLodgingsModel", "sizeOf", "(I)I"⟩, 32), (⟨"TermLodgingsModel", "dearest", "(I)V"⟩, 32), (⟨"TermLodgingsModel", "moveInto", "(II)Z"⟩, 32), (⟨"TermLodgingsModel", "housed", "()I"⟩, 32), (⟨"TermLodgingsModel", "pointOf", "(II)I"⟩, 32), (⟨"TermLodgingsModel", "most", "(I)I"⟩, 32), (⟨"TermLodgingsModel", "lays", "(I)Z"⟩, 32), (⟨"TermLodgingsModel", "take", "(II)V"⟩, 32), (⟨"TermLodgingsModel", "untake", "(I)V"⟩, 32), (⟨"TermLodgingsModel", "priceOf", "(III)I"⟩, 32), (⟨"TermLodgingsModel", "billOf", "(II)I"⟩, 32)]
theorem lw_r3 : ∀ q ∈ lw_privs_3, lw_okq q := List.forall_mem_cons.mpr ⟨lw_p32, List.forall_mem_cons.mpr ⟨lw_p33, List.forall_mem_cons.mpr ⟨lw_p34, List.forall_mem_cons.mpr ⟨lw_p35, List.forall_mem_cons.mpr ⟨lw_p36, List.forall_mem_cons.mpr ⟨lw_p37, List.forall_mem_cons.mpr ⟨lw_p38, List.forall_mem_cons.mpr ⟨lw_p39, List.forall_mem_cons.mpr ⟨lw_p40, List.forall_mem_cons.mpr ⟨lw_p41, List.forall_mem_cons.mpr ⟨lw_p42, List.forall_mem_cons.mpr ⟨lw_p43, List.forall_mem_cons.mpr ⟨lw_p44, List.forall_mem_cons.mpr ⟨lw_p45, List.forall_mem_cons.mpr ⟨lw_p46, List.forall_mem_cons.mpr ⟨lw_p47, fun _ h => absurd h List.not_mem_nil⟩⟩⟩⟩⟩⟩⟩⟩⟩⟩⟩⟩⟩⟩⟩⟩
def lw_privs : List (MethodName × Nat) := lw_privs_1 ++ (lw_privs_2 ++ (lw_privs_3))
def lw_tbl : List Cond := k2_sels lw_privs ++ tables_1
theorem lw_privs_ok : ∀ q ∈ lw_privs, lw_okq q := by
  show ∀ q ∈ lw_privs_1 ++ (lw_privs_2 ++ (lw_privs_3)), lw_okq q
  exact List.forall_mem_append.mpr ⟨lw_r1, List.forall_mem_append.mpr ⟨lw_r2, lw_r3⟩⟩
/-! ===== BEGIN words of one list among another's, by their places ===== -/
theorem goodIn_r {big : List Cond} (ws : List Cond) (ps : List Nat) (hp : ws = ps.filterMap (fun i => big[i]?)) (h : ws.all goodWord = true) : GoodIn big ws := by
  intro w hw
  have h1 := List.all_eq_true.mp h w hw
  rw [hp] at hw
  obtain ⟨i, -, hi⟩ := List.mem_filterMap.mp hw
  have hm : w ∈ big := by first | exact List.mem_of_getElem? hi | exact List.getElem?_mem hi
  exact ⟨hm, good_of_word h1⟩
theorem goodIn_app {big a b : List Cond} (ha : GoodIn big a) (hb : GoodIn big b) : GoodIn big (a ++ b) := fun w h => (List.mem_append.mp h).elim (ha w) (hb w)
theorem goodIn_ca {big a b : List Cond} {c : Cond} (ha : GoodIn big (c :: a)) (hb : GoodIn big b) : GoodIn big (c :: (a ++ b)) := fun w h => (List.mem_cons.mp h).elim (fun e => ha w (List.mem_cons.mpr (Or.inl e))) (fun h => (List.mem_append.mp h).elim (fun h => ha w (List.mem_cons.mpr (Or.inr h))) (hb w))
theorem goodIn_sub {big ws : List Cond} (hm : ∀ w ∈ ws, w ∈ big) (h : ws.all goodWord = true) : GoodIn big ws := fun w hw => ⟨hm w hw, good_of_word (List.all_eq_true.mp h w hw)⟩
/-! ===== END ===== -/

/-! ===== BEGIN printed: names, fields, word lists, decode rows ===== -/
def RX0 : String := "TermLodgings$Dealing"
def TX0 : u_T := fun k => match k with
  | 0 => ("TermLodgings$Dealing", "town", "LTermLodgings$Town;", true)
  | 1 => ("TermLodgings$Dealing", "people", "LTermLodgings$People;", true)
  | 2 => ("TermLodgings$Dealing", "rooms", "LTermLodgings$Rooms;", true)
  | _ => ("TermLodgings$Dealing", "picks", "[I", true)
def tyX0 : Nat → FieldType := fun k => match k with
  | 0 => .object "TermLodgings$Town"
  | 1 => .object "TermLodgings$People"
  | 2 => .object "TermLodgings$Rooms"
  | _ => .array .int
abbrev wsX00 : List Cond := u_ws RX0 TX0 4
theorem nmX0 : ∀ a, a < 4 → ∀ b, b < 4 → a ≠ b → (TX0 a).2.1 ≠ (TX0 b).2.1 := by decide +kernel
theorem tyX0_ok : ∀ k, k < 4 → parseFieldDescriptor (TX0 k).2.2.1 = some (tyX0 k) := by decide +kernel
abbrev cX0_init : ByteArray := prog_2_method_1_code
def yX0_init : MethodName := ⟨RX0, "<init>", "(LTermLodgings$Town;)V"⟩
abbrev cX0_run : ByteArray := prog_2_method_2_code
def yX0_run : MethodName := ⟨RX0, "run", "(LTermLodgings$Turns;)V"⟩
abbrev cX0_serve : ByteArray := prog_2_method_3_code
def yX0_serve : MethodName := ⟨RX0, "serve", "(II)V"⟩
abbrev cX0_settleTogether : ByteArray := prog_2_method_4_code
def yX0_settleTogether : MethodName := ⟨RX0, "settleTogether", "(II)Z"⟩
abbrev cX0_pickAmong : ByteArray := prog_2_method_5_code
def yX0_pickAmong : MethodName := ⟨RX0, "pickAmong", "(II)Z"⟩
abbrev cX0_settlePicks : ByteArray := prog_2_method_6_code
def yX0_settlePicks : MethodName := ⟨RX0, "settlePicks", "(I)V"⟩
abbrev cX0_settleEach : ByteArray := prog_2_method_7_code
def yX0_settleEach : MethodName := ⟨RX0, "settleEach", "(I)V"⟩
abbrev cX0_dearestOpenWish : ByteArray := prog_2_method_8_code
def yX0_dearestOpenWish : MethodName := ⟨RX0, "dearestOpenWish", "(I)I"⟩
def RX1 : String := "TermLodgings$Moving"
def TX1 : u_T := fun k => match k with
  | 0 => ("TermLodgings$Moving", "town", "LTermLodgings$Town;", true)
  | 1 => ("TermLodgings$Moving", "people", "LTermLodgings$People;", true)
  | 2 => ("TermLodgings$Moving", "rooms", "LTermLodgings$Rooms;", true)
  | 3 => ("TermLodgings$Moving", "movers", "I", false)
  | 4 => ("TermLodgings$Moving", "mover", "[I", true)
  | 5 => ("TermLodgings$Moving", "choice", "[I", true)
  | 6 => ("TermLodgings$Moving", "inside", "[I", true)
  | 7 => ("TermLodgings$Moving", "place", "[I", true)
  | 8 => ("TermLodgings$Moving", "asking", "[I", true)
  | _ => ("TermLodgings$Moving", "askedBy", "[I", true)
def tyX1 : Nat → FieldType := fun k => match k with
  | 0 => .object "TermLodgings$Town"
  | 1 => .object "TermLodgings$People"
  | 2 => .object "TermLodgings$Rooms"
  | 3 => .int
  | 4 => .array .int
  | 5 => .array .int
  | 6 => .array .int
  | 7 => .array .int
  | 8 => .array .int
  | _ => .array .int
abbrev wsX10 : List Cond := u_ws RX1 TX1 10
theorem nmX1 : ∀ a, a < 10 → ∀ b, b < 10 → a ≠ b → (TX1 a).2.1 ≠ (TX1 b).2.1 := by decide +kernel
theorem tyX1_ok : ∀ k, k < 10 → parseFieldDescriptor (TX1 k).2.2.1 = some (tyX1 k) := by decide +kernel
abbrev cX1_init : ByteArray := prog_3_method_1_code
def yX1_init : MethodName := ⟨RX1, "<init>", "(LTermLodgings$Town;)V"⟩
abbrev cX1_run : ByteArray := prog_3_method_2_code
def yX1_run : MethodName := ⟨RX1, "run", "(I)I"⟩
abbrev cX1_emptyHouse : ByteArray := prog_3_method_3_code
def yX1_emptyHouse : MethodName := ⟨RX1, "emptyHouse", "(I)V"⟩
abbrev cX1_settleMovers : ByteArray := prog_3_method_4_code
def yX1_settleMovers : MethodName := ⟨RX1, "settleMovers", "(I)V"⟩
abbrev cX1_leastRoom : ByteArray := prog_3_method_5_code
def yX1_leastRoom : MethodName := ⟨RX1, "leastRoom", "(III)I"⟩
abbrev cX1_mostFrom : ByteArray := prog_3_method_6_code
def yX1_mostFrom : MethodName := ⟨RX1, "mostFrom", "(II)I"⟩
abbrev cX1_findRoom : ByteArray := prog_3_method_7_code
def yX1_findRoom : MethodName := ⟨RX1, "findRoom", "(II)I"⟩
abbrev cX1_choiceOf : ByteArray := prog_3_method_8_code
def yX1_choiceOf : MethodName := ⟨RX1, "choiceOf", "(I)I"⟩
abbrev cX1_changeAlong : ByteArray := prog_3_method_9_code
def yX1_changeAlong : MethodName := ⟨RX1, "changeAlong", "(I)V"⟩
def RX2 : String := "TermLodgings$Nights"
def TX2 : u_T := fun k => match k with
  | 0 => ("TermLodgings$Nights", "passed", "I", false)
  | _ => ("TermLodgings$Nights", "lodgings", "[I", true)
def tyX2 : Nat → FieldType := fun k => match k with
  | 0 => .int
  | _ => .array .int
abbrev wsX20 : List Cond := u_ws RX2 TX2 2
theorem nmX2 : ∀ a, a < 2 → ∀ b, b < 2 → a ≠ b → (TX2 a).2.1 ≠ (TX2 b).2.1 := by decide +kernel
theorem tyX2_ok : ∀ k, k < 2 → parseFieldDescriptor (TX2 k).2.2.1 = some (tyX2 k) := by decide +kernel
abbrev cX2_init : ByteArray := prog_4_method_1_code
def yX2_init : MethodName := ⟨RX2, "<init>", "()V"⟩
abbrev cX2_keepOne : ByteArray := prog_4_method_2_code
def yX2_keepOne : MethodName := ⟨RX2, "keepOne", "(LTermLodgings$People;)V"⟩
abbrev cX2_lodgingIn : ByteArray := prog_4_method_3_code
def yX2_lodgingIn : MethodName := ⟨RX2, "lodgingIn", "(II)I"⟩
def RX3 : String := "TermLodgings$People"
def TX3 : u_T := fun k => match k with
  | 0 => ("TermLodgings$People", "many", "I", false)
  | 1 => ("TermLodgings$People", "year", "[I", true)
  | 2 => ("TermLodgings$People", "group", "[I", true)
  | 3 => ("TermLodgings$People", "wished", "[I", true)
  | 4 => ("TermLodgings$People", "wishes", "[I", true)
  | 5 => ("TermLodgings$People", "lodging", "[I", true)
  | 6 => ("TermLodgings$People", "kept", "[I", true)
  | _ => ("TermLodgings$People", "gone", "[Z", true)
def tyX3 : Nat → FieldType := fun k => match k with
  | 0 => .int
  | 1 => .array .int
  | 2 => .array .int
  | 3 => .array .int
  | 4 => .array .int
  | 5 => .array .int
  | 6 => .array .int
  | _ => .array .boolean
abbrev wsX30 : List Cond := u_ws RX3 TX3 8
theorem nmX3 : ∀ a, a < 8 → ∀ b, b < 8 → a ≠ b → (TX3 a).2.1 ≠ (TX3 b).2.1 := by decide +kernel
theorem tyX3_ok : ∀ k, k < 8 → parseFieldDescriptor (TX3 k).2.2.1 = some (tyX3 k) := by decide +kernel
abbrev cX3_init : ByteArray := prog_5_method_1_code
def yX3_init : MethodName := ⟨RX3, "<init>", "()V"⟩
abbrev cX3_has : ByteArray := prog_5_method_2_code
def yX3_has : MethodName := ⟨RX3, "has", "(I)Z"⟩
abbrev cX3_add : ByteArray := prog_5_method_3_code
def yX3_add : MethodName := ⟨RX3, "add", "(II)I"⟩
abbrev cX3_lodgingOf : ByteArray := prog_5_method_4_code
def yX3_lodgingOf : MethodName := ⟨RX3, "lodgingOf", "(I)I"⟩
abbrev cX3_wishesOf : ByteArray := prog_5_method_5_code
def yX3_wishesOf : MethodName := ⟨RX3, "wishesOf", "(I)I"⟩
abbrev cX3_wishAt : ByteArray := prog_5_method_6_code
def yX3_wishAt : MethodName := ⟨RX3, "wishAt", "(II)I"⟩
abbrev cX3_wishesFor : ByteArray := prog_5_method_7_code
def yX3_wishesFor : MethodName := ⟨RX3, "wishesFor", "(II)Z"⟩
abbrev cX3_addWish : ByteArray := prog_5_method_8_code
def yX3_addWish : MethodName := ⟨RX3, "addWish", "(II)I"⟩
abbrev cX3_friendsOf : ByteArray := prog_5_method_9_code
def yX3_friendsOf : MethodName := ⟨RX3, "friendsOf", "(I)I"⟩
abbrev cX3_housed : ByteArray := prog_5_method_10_code
def yX3_housed : MethodName := ⟨RX3, "housed", "()I"⟩
def RX4 : String := "TermLodgings$Prices"
def TX4 : u_T := fun k => match k with
  | 0 => ("TermLodgings$Prices", "tellings", "I", false)
  | 1 => ("TermLodgings$Prices", "latestHouse", "I", false)
  | 2 => ("TermLodgings$Prices", "since", "[I", true)
  | 3 => ("TermLodgings$Prices", "value", "[I", true)
  | 4 => ("TermLodgings$Prices", "counting", "[I", true)
  | _ => ("TermLodgings$Prices", "former", "[I", true)
def tyX4 : Nat → FieldType := fun k => match k with
  | 0 => .int
  | 1 => .int
  | 2 => .array .int
  | 3 => .array .int
  | 4 => .array .int
  | _ => .array .int
abbrev wsX40 : List Cond := u_ws RX4 TX4 6
theorem nmX4 : ∀ a, a < 6 → ∀ b, b < 6 → a ≠ b → (TX4 a).2.1 ≠ (TX4 b).2.1 := by decide +kernel
theorem tyX4_ok : ∀ k, k < 6 → parseFieldDescriptor (TX4 k).2.2.1 = some (tyX4 k) := by decide +kernel
abbrev cX4_init : ByteArray := prog_6_method_1_code
def yX4_init : MethodName := ⟨RX4, "<init>", "()V"⟩
abbrev cX4_tell : ByteArray := prog_6_method_2_code
def yX4_tell : MethodName := ⟨RX4, "tell", "(III)I"⟩
abbrev cX4_at : ByteArray := prog_6_method_3_code
def yX4_at : MethodName := ⟨RX4, "at", "(II)I"⟩
abbrev cX4_dropWithoutLatest : ByteArray := prog_6_method_4_code
def yX4_dropWithoutLatest : MethodName := ⟨RX4, "dropWithoutLatest", "(I)I"⟩
abbrev cX4_sinceOf : ByteArray := prog_6_method_5_code
def yX4_sinceOf : MethodName := ⟨RX4, "sinceOf", "(I)I"⟩
abbrev cX4_valueOf : ByteArray := prog_6_method_6_code
def yX4_valueOf : MethodName := ⟨RX4, "valueOf", "(I)I"⟩
abbrev cX4_isListed : ByteArray := prog_6_method_7_code
def yX4_isListed : MethodName := ⟨RX4, "isListed", "(II)Z"⟩
def RX5 : String := "TermLodgings$Rooms"
def TX5 : u_T := fun k => match k with
  | 0 => ("TermLodgings$Rooms", "many", "I", false)
  | 1 => ("TermLodgings$Rooms", "struck", "I", false)
  | 2 => ("TermLodgings$Rooms", "taken", "I", false)
  | 3 => ("TermLodgings$Rooms", "house", "[I", true)
  | 4 => ("TermLodgings$Rooms", "miles", "[I", true)
  | 5 => ("TermLodgings$Rooms", "sort", "[I", true)
  | _ => ("TermLodgings$Rooms", "holder", "[I", true)
def tyX5 : Nat → FieldType := fun k => match k with
  | 0 => .int
  | 1 => .int
  | 2 => .int
  | 3 => .array .int
  | 4 => .array .int
  | 5 => .array .int
  | _ => .array .int
abbrev wsX50 : List Cond := u_ws RX5 TX5 7
theorem nmX5 : ∀ a, a < 7 → ∀ b, b < 7 → a ≠ b → (TX5 a).2.1 ≠ (TX5 b).2.1 := by decide +kernel
theorem tyX5_ok : ∀ k, k < 7 → parseFieldDescriptor (TX5 k).2.2.1 = some (tyX5 k) := by decide +kernel
abbrev cX5_init : ByteArray := prog_7_method_1_code
def yX5_init : MethodName := ⟨RX5, "<init>", "()V"⟩
abbrev cX5_has : ByteArray := prog_7_method_2_code
def yX5_has : MethodName := ⟨RX5, "has", "(I)Z"⟩
abbrev cX5_add : ByteArray := prog_7_method_3_code
def yX5_add : MethodName := ⟨RX5, "add", "(III)I"⟩
abbrev cX5_houseOf : ByteArray := prog_7_method_4_code
def yX5_houseOf : MethodName := ⟨RX5, "houseOf", "(I)I"⟩
abbrev cX5_holderOf : ByteArray := prog_7_method_5_code
def yX5_holderOf : MethodName := ⟨RX5, "holderOf", "(I)I"⟩
abbrev cX5_under : ByteArray := prog_7_method_6_code
def yX5_under : MethodName := ⟨RX5, "under", "(I)I"⟩
abbrev cX5_isStruck : ByteArray := prog_7_method_7_code
def yX5_isStruck : MethodName := ⟨RX5, "isStruck", "(I)Z"⟩
def RX6 : String := "TermLodgings$Statute"
def TX6 : u_T := fun k => match k with
  | 0 => ("TermLodgings$Statute", "bytes", "I", false)
  | 1 => ("TermLodgings$Statute", "tests", "I", false)
  | 2 => ("TermLodgings$Statute", "awaited", "I", false)
  | 3 => ("TermLodgings$Statute", "broken", "I", false)
  | 4 => ("TermLodgings$Statute", "caseBegins", "Z", false)
  | 5 => ("TermLodgings$Statute", "letter", "[I", true)
  | 6 => ("TermLodgings$Statute", "sign", "[I", true)
  | 7 => ("TermLodgings$Statute", "number", "[I", true)
  | _ => ("TermLodgings$Statute", "beginsCase", "[Z", true)
def tyX6 : Nat → FieldType := fun k => match k with
  | 0 => .int
  | 1 => .int
  | 2 => .int
  | 3 => .int
  | 4 => .boolean
  | 5 => .array .int
  | 6 => .array .int
  | 7 => .array .int
  | _ => .array .boolean
abbrev wsX60 : List Cond := u_ws RX6 TX6 9
theorem nmX6 : ∀ a, a < 9 → ∀ b, b < 9 → a ≠ b → (TX6 a).2.1 ≠ (TX6 b).2.1 := by decide +kernel
theorem tyX6_ok : ∀ k, k < 9 → parseFieldDescriptor (TX6 k).2.2.1 = some (tyX6 k) := by decide +kernel
abbrev cX6_init : ByteArray := prog_8_method_1_code
def yX6_init : MethodName := ⟨RX6, "<init>", "()V"⟩
abbrev cX6_clear : ByteArray := prog_8_method_2_code
def yX6_clear : MethodName := ⟨RX6, "clear", "()V"⟩
abbrev cX6_add : ByteArray := prog_8_method_3_code
def yX6_add : MethodName := ⟨RX6, "add", "(I)I"⟩
abbrev cX6_faultPlace : ByteArray := prog_8_method_4_code
def yX6_faultPlace : MethodName := ⟨RX6, "faultPlace", "()I"⟩
abbrev cX6_goesOnWith : ByteArray := prog_8_method_5_code
def yX6_goesOnWith : MethodName := ⟨RX6, "goesOnWith", "(I)Z"⟩
abbrev cX6_beginTest : ByteArray := prog_8_method_6_code
def yX6_beginTest : MethodName := ⟨RX6, "beginTest", "(I)Z"⟩
abbrev cX6_takeSign : ByteArray := prog_8_method_7_code
def yX6_takeSign : MethodName := ⟨RX6, "takeSign", "(I)Z"⟩
abbrev cX6_takeFigure : ByteArray := prog_8_method_8_code
def yX6_takeFigure : MethodName := ⟨RX6, "takeFigure", "(I)Z"⟩
abbrev cX6_endTest : ByteArray := prog_8_method_9_code
def yX6_endTest : MethodName := ⟨RX6, "endTest", "(I)Z"⟩
abbrev cX6_allows : ByteArray := prog_8_method_10_code
def yX6_allows : MethodName := ⟨RX6, "allows", "(IIII)Z"⟩
abbrev cX6_asked : ByteArray := prog_8_method_11_code
def yX6_asked : MethodName := ⟨RX6, "asked", "(IIIII)I"⟩
abbrev cX6_compares : ByteArray := prog_8_method_12_code
def yX6_compares : MethodName := ⟨RX6, "compares", "(III)Z"⟩
def RX7 : String := "TermLodgings$Town"
def TX7 : u_T := fun k => match k with
  | 0 => ("TermLodgings$Town", "rooms", "LTermLodgings$Rooms;", true)
  | 1 => ("TermLodgings$Town", "people", "LTermLodgings$People;", true)
  | 2 => ("TermLodgings$Town", "statute", "LTermLodgings$Statute;", true)
  | _ => ("TermLodgings$Town", "choice", "[I", true)
def tyX7 : Nat → FieldType := fun k => match k with
  | 0 => .object "TermLodgings$Rooms"
  | 1 => .object "TermLodgings$People"
  | 2 => .object "TermLodgings$Statute"
  | _ => .array .int
abbrev wsX70 : List Cond := u_ws RX7 TX7 4
theorem nmX7 : ∀ a, a < 4 → ∀ b, b < 4 → a ≠ b → (TX7 a).2.1 ≠ (TX7 b).2.1 := by decide +kernel
theorem tyX7_ok : ∀ k, k < 4 → parseFieldDescriptor (TX7 k).2.2.1 = some (tyX7 k) := by decide +kernel
abbrev cX7_init : ByteArray := prog_9_method_1_code
def yX7_init : MethodName := ⟨RX7, "<init>", "()V"⟩
abbrev cX7_suits : ByteArray := prog_9_method_2_code
def yX7_suits : MethodName := ⟨RX7, "suits", "(II)Z"⟩
abbrev cX7_weighAll : ByteArray := prog_9_method_3_code
def yX7_weighAll : MethodName := ⟨RX7, "weighAll", "()V"⟩
abbrev cX7_choiceOf : ByteArray := prog_9_method_4_code
def yX7_choiceOf : MethodName := ⟨RX7, "choiceOf", "(I)I"⟩
abbrev cX7_openTo : ByteArray := prog_9_method_5_code
def yX7_openTo : MethodName := ⟨RX7, "openTo", "(I)I"⟩
abbrev cX7_settle : ByteArray := prog_9_method_6_code
def yX7_settle : MethodName := ⟨RX7, "settle", "(II)V"⟩
abbrev cX7_leave : ByteArray := prog_9_method_7_code
def yX7_leave : MethodName := ⟨RX7, "leave", "(I)V"⟩
def RX8 : String := "TermLodgings$Trading"
def TX8 : u_T := fun k => match k with
  | 0 => ("TermLodgings$Trading", "rings", "I", false)
  | 1 => ("TermLodgings$Trading", "longest", "I", false)
  | 2 => ("TermLodgings$Trading", "rounds", "I", false)
  | 3 => ("TermLodgings$Trading", "left", "I", false)
  | 4 => ("TermLodgings$Trading", "town", "LTermLodgings$Town;", true)
  | 5 => ("TermLodgings$Trading", "people", "LTermLodgings$People;", true)
  | 6 => ("TermLodgings$Trading", "target", "[I", true)
  | _ => ("TermLodgings$Trading", "gets", "[I", true)
def tyX8 : Nat → FieldType := fun k => match k with
  | 0 => .int
  | 1 => .int
  | 2 => .int
  | 3 => .int
  | 4 => .object "TermLodgings$Town"
  | 5 => .object "TermLodgings$People"
  | 6 => .array .int
  | _ => .array .int
abbrev wsX80 : List Cond := u_ws RX8 TX8 8
theorem nmX8 : ∀ a, a < 8 → ∀ b, b < 8 → a ≠ b → (TX8 a).2.1 ≠ (TX8 b).2.1 := by decide +kernel
theorem tyX8_ok : ∀ k, k < 8 → parseFieldDescriptor (TX8 k).2.2.1 = some (tyX8 k) := by decide +kernel
abbrev cX8_init : ByteArray := prog_10_method_1_code
def yX8_init : MethodName := ⟨RX8, "<init>", "(LTermLodgings$Town;)V"⟩
abbrev cX8_run : ByteArray := prog_10_method_2_code
def yX8_run : MethodName := ⟨RX8, "run", "()I"⟩
abbrev cX8_traders : ByteArray := prog_10_method_3_code
def yX8_traders : MethodName := ⟨RX8, "traders", "()I"⟩
abbrev cX8_pointAll : ByteArray := prog_10_method_4_code
def yX8_pointAll : MethodName := ⟨RX8, "pointAll", "()V"⟩
abbrev cX8_pointedAtBy : ByteArray := prog_10_method_5_code
def yX8_pointedAtBy : MethodName := ⟨RX8, "pointedAtBy", "(I)I"⟩
abbrev cX8_closeAllRings : ByteArray := prog_10_method_6_code
def yX8_closeAllRings : MethodName := ⟨RX8, "closeAllRings", "()V"⟩
abbrev cX8_ringLength : ByteArray := prog_10_method_7_code
def yX8_ringLength : MethodName := ⟨RX8, "ringLength", "(I)I"⟩
abbrev cX8_targetOf : ByteArray := prog_10_method_8_code
def yX8_targetOf : MethodName := ⟨RX8, "targetOf", "(I)I"⟩
abbrev cX8_closeRing : ByteArray := prog_10_method_9_code
def yX8_closeRing : MethodName := ⟨RX8, "closeRing", "(II)I"⟩
abbrev cX8_moveAll : ByteArray := prog_10_method_10_code
def yX8_moveAll : MethodName := ⟨RX8, "moveAll", "(I)I"⟩
def RX9 : String := "TermLodgings$Turns"
def TX9 : u_T := fun k => match k with
  | 0 => ("TermLodgings$Turns", "many", "I", false)
  | _ => ("TermLodgings$Turns", "row", "[I", true)
def tyX9 : Nat → FieldType := fun k => match k with
  | 0 => .int
  | _ => .array .int
abbrev wsX90 : List Cond := u_ws RX9 TX9 2
theorem nmX9 : ∀ a, a < 2 → ∀ b, b < 2 → a ≠ b → (TX9 a).2.1 ≠ (TX9 b).2.1 := by decide +kernel
theorem tyX9_ok : ∀ k, k < 2 → parseFieldDescriptor (TX9 k).2.2.1 = some (tyX9 k) := by decide +kernel
abbrev cX9_init : ByteArray := prog_11_method_1_code
def yX9_init : MethodName := ⟨RX9, "<init>", "()V"⟩
abbrev cX9_has : ByteArray := prog_11_method_2_code
def yX9_has : MethodName := ⟨RX9, "has", "(I)Z"⟩
abbrev cX9_at : ByteArray := prog_11_method_3_code
def yX9_at : MethodName := ⟨RX9, "at", "(I)I"⟩
abbrev cX9_addLast : ByteArray := prog_11_method_4_code
def yX9_addLast : MethodName := ⟨RX9, "addLast", "(I)V"⟩
abbrev cX9_swap : ByteArray := prog_11_method_5_code
def yX9_swap : MethodName := ⟨RX9, "swap", "(II)V"⟩
abbrev cX9_shuffle : ByteArray := prog_11_method_6_code
def yX9_shuffle : MethodName := ⟨RX9, "shuffle", "(I)V"⟩
def RX10 : String := "TermLodgings"
def TX10 : u_T := fun k => match k with
  | 0 => ("TermLodgings", "rooms", "LTermLodgings$Rooms;", true)
  | 1 => ("TermLodgings", "people", "LTermLodgings$People;", true)
  | 2 => ("TermLodgings", "statute", "LTermLodgings$Statute;", true)
  | 3 => ("TermLodgings", "town", "LTermLodgings$Town;", true)
  | 4 => ("TermLodgings", "turns", "LTermLodgings$Turns;", true)
  | 5 => ("TermLodgings", "dealing", "LTermLodgings$Dealing;", true)
  | 6 => ("TermLodgings", "trading", "LTermLodgings$Trading;", true)
  | 7 => ("TermLodgings", "moving", "LTermLodgings$Moving;", true)
  | 8 => ("TermLodgings", "nights", "LTermLodgings$Nights;", true)
  | _ => ("TermLodgings", "prices", "LTermLodgings$Prices;", true)
def tyX10 : Nat → FieldType := fun k => match k with
  | 0 => .object "TermLodgings$Rooms"
  | 1 => .object "TermLodgings$People"
  | 2 => .object "TermLodgings$Statute"
  | 3 => .object "TermLodgings$Town"
  | 4 => .object "TermLodgings$Turns"
  | 5 => .object "TermLodgings$Dealing"
  | 6 => .object "TermLodgings$Trading"
  | 7 => .object "TermLodgings$Moving"
  | 8 => .object "TermLodgings$Nights"
  | _ => .object "TermLodgings$Prices"
abbrev wsX100 : List Cond := u_ws RX10 TX10 10
theorem nmX10 : ∀ a, a < 10 → ∀ b, b < 10 → a ≠ b → (TX10 a).2.1 ≠ (TX10 b).2.1 := by decide +kernel
theorem tyX10_ok : ∀ k, k < 10 → parseFieldDescriptor (TX10 k).2.2.1 = some (tyX10 k) := by decide +kernel
abbrev cX10_init : ByteArray := prog_1_method_1_code
def yX10_init : MethodName := ⟨RX10, "<init>", "()V"⟩
abbrev cX10_room : ByteArray := prog_1_method_2_code
def yX10_room : MethodName := ⟨RX10, "room", "(III)I"⟩
abbrev cX10_person : ByteArray := prog_1_method_3_code
def yX10_person : MethodName := ⟨RX10, "person", "(II)I"⟩
abbrev cX10_wish : ByteArray := prog_1_method_4_code
def yX10_wish : MethodName := ⟨RX10, "wish", "(II)I"⟩
abbrev cX10_content : ByteArray := prog_1_method_5_code
def yX10_content : MethodName := ⟨RX10, "content", "(I)I"⟩
abbrev cX10_about : ByteArray := prog_1_method_6_code
def yX10_about : MethodName := ⟨RX10, "about", "(II)I"⟩
abbrev cX10_wishTold : ByteArray := prog_1_method_7_code
def yX10_wishTold : MethodName := ⟨RX10, "wishTold", "(II)I"⟩
abbrev cX10_of : ByteArray := prog_1_method_8_code
def yX10_of : MethodName := ⟨RX10, "of", "(II)I"⟩
abbrev cX10_give : ByteArray := prog_1_method_9_code
def yX10_give : MethodName := ⟨RX10, "give", "(II)I"⟩
abbrev cX10_canBeGiven : ByteArray := prog_1_method_10_code
def yX10_canBeGiven : MethodName := ⟨RX10, "canBeGiven", "(II)Z"⟩
abbrev cX10_type : ByteArray := prog_1_method_11_code
def yX10_type : MethodName := ⟨RX10, "type", "(I)I"⟩
abbrev cX10_repeal : ByteArray := prog_1_method_12_code
def yX10_repeal : MethodName := ⟨RX10, "repeal", "()I"⟩
abbrev cX10_fault : ByteArray := prog_1_method_13_code
def yX10_fault : MethodName := ⟨RX10, "fault", "()I"⟩
abbrev cX10_may : ByteArray := prog_1_method_14_code
def yX10_may : MethodName := ⟨RX10, "may", "(II)I"⟩
abbrev cX10_wrong : ByteArray := prog_1_method_15_code
def yX10_wrong : MethodName := ⟨RX10, "wrong", "()I"⟩
abbrev cX10_draw : ByteArray := prog_1_method_16_code
def yX10_draw : MethodName := ⟨RX10, "draw", "(I)I"⟩
abbrev cX10_change : ByteArray := prog_1_method_17_code
def yX10_change : MethodName := ⟨RX10, "change", "(II)I"⟩
abbrev cX10_turn : ByteArray := prog_1_method_18_code
def yX10_turn : MethodName := ⟨RX10, "turn", "(I)I"⟩
abbrev cX10_deal : ByteArray := prog_1_method_19_code
def yX10_deal : MethodName := ⟨RX10, "deal", "()I"⟩
abbrev cX10_trade : ByteArray := prog_1_method_20_code
def yX10_trade : MethodName := ⟨RX10, "trade", "()I"⟩
abbrev cX10_traded : ByteArray := prog_1_method_21_code
def yX10_traded : MethodName := ⟨RX10, "traded", "(I)I"⟩
abbrev cX10_strike : ByteArray := prog_1_method_22_code
def yX10_strike : MethodName := ⟨RX10, "strike", "(I)I"⟩
abbrev cX10_license : ByteArray := prog_1_method_23_code
def yX10_license : MethodName := ⟨RX10, "license", "(I)I"⟩
abbrev cX10_away : ByteArray := prog_1_method_24_code
def yX10_away : MethodName := ⟨RX10, "away", "(IZ)I"⟩
abbrev cX10_pass : ByteArray := prog_1_method_25_code
def yX10_pass : MethodName := ⟨RX10, "pass", "(I)I"⟩
abbrev cX10_price : ByteArray := prog_1_method_26_code
def yX10_price : MethodName := ⟨RX10, "price", "(III)I"⟩
abbrev cX10_priced : ByteArray := prog_1_method_27_code
def yX10_priced : MethodName := ⟨RX10, "priced", "(II)I"⟩
abbrev cX10_had : ByteArray := prog_1_method_28_code
def yX10_had : MethodName := ⟨RX10, "had", "(II)I"⟩
abbrev cX10_bill : ByteArray := prog_1_method_29_code
def yX10_bill : MethodName := ⟨RX10, "bill", "(I)I"⟩
abbrev cX10_matter : ByteArray := prog_1_method_30_code
def yX10_matter : MethodName := ⟨RX10, "matter", "()I"⟩
abbrev cX10_lodgersAt : ByteArray := prog_1_method_31_code
def yX10_lodgersAt : MethodName := ⟨RX10, "lodgersAt", "(II)I"⟩
abbrev cX10_count : ByteArray := prog_1_method_32_code
def yX10_count : MethodName := ⟨RX10, "count", "(I)I"⟩
abbrev cX10_digest : ByteArray := prog_1_method_33_code
def yX10_digest : MethodName := ⟨RX10, "digest", "()J"⟩
abbrev cX10_within : ByteArray := prog_1_method_34_code
def yX10_within : MethodName := ⟨RX10, "within", "(III)Z"⟩
abbrev cX10_inBits : ByteArray := prog_1_method_35_code
def yX10_inBits : MethodName := ⟨RX10, "inBits", "(II)Z"⟩
abbrev cX10_leastIn : ByteArray := prog_1_method_36_code
def yX10_leastIn : MethodName := ⟨RX10, "leastIn", "(I)I"⟩
def RX11 : String := "TermLodgingsModel"
def TX11 : u_T := fun k => match k with
  | 0 => ("TermLodgingsModel", "rooms", "I", false)
  | 1 => ("TermLodgingsModel", "house", "[I", true)
  | 2 => ("TermLodgingsModel", "miles", "[I", true)
  | 3 => ("TermLodgingsModel", "sort", "[I", true)
  | 4 => ("TermLodgingsModel", "struck", "I", false)
  | 5 => ("TermLodgingsModel", "people", "I", false)
  | 6 => ("TermLodgingsModel", "year", "[I", true)
  | 7 => ("TermLodgingsModel", "group", "[I", true)
  | 8 => ("TermLodgingsModel", "wishes", "[I", true)
  | 9 => ("TermLodgingsModel", "wish", "[I", true)
  | 10 => ("TermLodgingsModel", "has", "[I", true)
  | 11 => ("TermLodgingsModel", "isAway", "[Z", true)
  | 12 => ("TermLodgingsModel", "kept", "[I", true)
  | 13 => ("TermLodgingsModel", "turns", "[I", true)
  | 14 => ("TermLodgingsModel", "text", "[I", true)
  | 15 => ("TermLodgingsModel", "typed", "I", false)
  | 16 => ("TermLodgingsModel", "traded", "[I", true)
  | 17 => ("TermLodgingsModel", "points", "[I", true)
  | 18 => ("TermLodgingsModel", "gets", "[I", true)
  | 19 => ("TermLodgingsModel", "moving", "I", false)
  | 20 => ("TermLodgingsModel", "mover", "[I", true)
  | 21 => ("TermLodgingsModel", "may", "[I", true)
  | 22 => ("TermLodgingsModel", "goes", "[I", true)
  | 23 => ("TermLodgingsModel", "queue", "[I", true)
  | 24 => ("TermLodgingsModel", "came", "[I", true)
  | 25 => ("TermLodgingsModel", "saved", "[I", true)
  | 26 => ("TermLodgingsModel", "nights", "I", false)
  | 27 => ("TermLodgingsModel", "had", "[I", true)
  | 28 => ("TermLodgingsModel", "tellings", "I", false)
  | 29 => ("TermLodgingsModel", "toldHouse", "[I", true)
  | 30 => ("TermLodgingsModel", "toldFrom", "[I", true)
  | _ => ("TermLodgingsModel", "toldPrice", "[I", true)
def tyX11 : Nat → FieldType := fun k => match k with
  | 0 => .int
  | 1 => .array .int
  | 2 => .array .int
  | 3 => .array .int
  | 4 => .int
  | 5 => .int
  | 6 => .array .int
  | 7 => .array .int
  | 8 => .array .int
  | 9 => .array .int
  | 10 => .array .int
  | 11 => .array .boolean
  | 12 => .array .int
  | 13 => .array .int
  | 14 => .array .int
  | 15 => .int
  | 16 => .array .int
  | 17 => .array .int
  | 18 => .array .int
  | 19 => .int
  | 20 => .array .int
  | 21 => .array .int
  | 22 => .array .int
  | 23 => .array .int
  | 24 => .array .int
  | 25 => .array .int
  | 26 => .int
  | 27 => .array .int
  | 28 => .int
  | 29 => .array .int
  | 30 => .array .int
  | _ => .array .int
abbrev wsX110 : List Cond := u_ws RX11 TX11 32
theorem nmX11 : ∀ a, a < 32 → ∀ b, b < 32 → a ≠ b → (TX11 a).2.1 ≠ (TX11 b).2.1 := by decide +kernel
theorem tyX11_ok : ∀ k, k < 32 → parseFieldDescriptor (TX11 k).2.2.1 = some (tyX11 k) := by decide +kernel
abbrev cX11_init : ByteArray := prog_13_method_1_code
def yX11_init : MethodName := ⟨RX11, "<init>", "()V"⟩
abbrev cX11_in : ByteArray := prog_13_method_3_code
def yX11_in : MethodName := ⟨RX11, "in", "(JJJ)Z"⟩
abbrev cX11_isRoom : ByteArray := prog_13_method_4_code
def yX11_isRoom : MethodName := ⟨RX11, "isRoom", "(I)Z"⟩
abbrev cX11_isOne : ByteArray := prog_13_method_5_code
def yX11_isOne : MethodName := ⟨RX11, "isOne", "(I)Z"⟩
abbrev cX11_room : ByteArray := prog_13_method_6_code
def yX11_room : MethodName := ⟨RX11, "room", "(III)I"⟩
abbrev cX11_person : ByteArray := prog_13_method_7_code
def yX11_person : MethodName := ⟨RX11, "person", "(II)I"⟩
abbrev cX11_rankOf : ByteArray := prog_13_method_8_code
def yX11_rankOf : MethodName := ⟨RX11, "rankOf", "(II)I"⟩
abbrev cX11_wish : ByteArray := prog_13_method_9_code
def yX11_wish : MethodName := ⟨RX11, "wish", "(II)I"⟩
abbrev cX11_content : ByteArray := prog_13_method_10_code
def yX11_content : MethodName := ⟨RX11, "content", "(I)I"⟩
abbrev cX11_about : ByteArray := prog_13_method_11_code
def yX11_about : MethodName := ⟨RX11, "about", "(II)I"⟩
abbrev cX11_whoHas : ByteArray := prog_13_method_12_code
def yX11_whoHas : MethodName := ⟨RX11, "whoHas", "(I)I"⟩
abbrev cX11_of : ByteArray := prog_13_method_13_code
def yX11_of : MethodName := ⟨RX11, "of", "(II)I"⟩
abbrev cX11_give : ByteArray := prog_13_method_14_code
def yX11_give : MethodName := ⟨RX11, "give", "(II)I"⟩
abbrev cX11_type : ByteArray := prog_13_method_15_code
def yX11_type : MethodName := ⟨RX11, "type", "(I)I"⟩
abbrev cX11_repeal : ByteArray := prog_13_method_16_code
def yX11_repeal : MethodName := ⟨RX11, "repeal", "()I"⟩
abbrev cX11_isLetter : ByteArray := prog_13_method_17_code
def yX11_isLetter : MethodName := ⟨RX11, "isLetter", "(I)Z"⟩
abbrev cX11_isSign : ByteArray := prog_13_method_18_code
def yX11_isSign : MethodName := ⟨RX11, "isSign", "(I)Z"⟩
abbrev cX11_isFigure : ByteArray := prog_13_method_19_code
def yX11_isFigure : MethodName := ⟨RX11, "isFigure", "(I)Z"⟩
abbrev cX11_fault : ByteArray := prog_13_method_20_code
def yX11_fault : MethodName := ⟨RX11, "fault", "()I"⟩
abbrev cX11_holds : ByteArray := prog_13_method_21_code
def yX11_holds : MethodName := ⟨RX11, "holds", "(IIII)Z"⟩
abbrev cX11_mayLive : ByteArray := prog_13_method_22_code
def yX11_mayLive : MethodName := ⟨RX11, "mayLive", "(II)Z"⟩
abbrev cX11_may : ByteArray := prog_13_method_23_code
def yX11_may : MethodName := ⟨RX11, "may", "(II)I"⟩
abbrev cX11_wrong : ByteArray := prog_13_method_24_code
def yX11_wrong : MethodName := ⟨RX11, "wrong", "()I"⟩
abbrev cX11_draw : ByteArray := prog_13_method_25_code
def yX11_draw : MethodName := ⟨RX11, "draw", "(I)I"⟩
abbrev cX11_change : ByteArray := prog_13_method_26_code
def yX11_change : MethodName := ⟨RX11, "change", "(II)I"⟩
abbrev cX11_turn : ByteArray := prog_13_method_27_code
def yX11_turn : MethodName := ⟨RX11, "turn", "(I)I"⟩
abbrev cX11_housed : ByteArray := prog_13_method_28_code
def yX11_housed : MethodName := ⟨RX11, "housed", "()I"⟩
abbrev cX11_dearest : ByteArray := prog_13_method_29_code
def yX11_dearest : MethodName := ⟨RX11, "dearest", "(I)V"⟩
abbrev cX11_moveInto : ByteArray := prog_13_method_30_code
def yX11_moveInto : MethodName := ⟨RX11, "moveInto", "(II)Z"⟩
abbrev cX11_sizeOf : ByteArray := prog_13_method_31_code
def yX11_sizeOf : MethodName := ⟨RX11, "sizeOf", "(I)I"⟩
abbrev cX11_deal : ByteArray := prog_13_method_32_code
def yX11_deal : MethodName := ⟨RX11, "deal", "()I"⟩
abbrev cX11_pointOf : ByteArray := prog_13_method_33_code
def yX11_pointOf : MethodName := ⟨RX11, "pointOf", "(II)I"⟩
abbrev cX11_trade : ByteArray := prog_13_method_34_code
def yX11_trade : MethodName := ⟨RX11, "trade", "()I"⟩
abbrev cX11_traded : ByteArray := prog_13_method_35_code
def yX11_traded : MethodName := ⟨RX11, "traded", "(I)I"⟩
abbrev cX11_lays : ByteArray := prog_13_method_36_code
def yX11_lays : MethodName := ⟨RX11, "lays", "(I)Z"⟩
abbrev cX11_most : ByteArray := prog_13_method_37_code
def yX11_most : MethodName := ⟨RX11, "most", "(I)I"⟩
abbrev cX11_strike : ByteArray := prog_13_method_38_code
def yX11_strike : MethodName := ⟨RX11, "strike", "(I)I"⟩
abbrev cX11_take : ByteArray := prog_13_method_39_code
def yX11_take : MethodName := ⟨RX11, "take", "(II)V"⟩
abbrev cX11_untake : ByteArray := prog_13_method_40_code
def yX11_untake : MethodName := ⟨RX11, "untake", "(I)V"⟩
abbrev cX11_license : ByteArray := prog_13_method_41_code
def yX11_license : MethodName := ⟨RX11, "license", "(I)I"⟩
abbrev cX11_away : ByteArray := prog_13_method_42_code
def yX11_away : MethodName := ⟨RX11, "away", "(IZ)I"⟩
abbrev cX11_pass : ByteArray := prog_13_method_43_code
def yX11_pass : MethodName := ⟨RX11, "pass", "(I)I"⟩
abbrev cX11_price : ByteArray := prog_13_method_44_code
def yX11_price : MethodName := ⟨RX11, "price", "(III)I"⟩
abbrev cX11_priceOf : ByteArray := prog_13_method_45_code
def yX11_priceOf : MethodName := ⟨RX11, "priceOf", "(III)I"⟩
abbrev cX11_priced : ByteArray := prog_13_method_46_code
def yX11_priced : MethodName := ⟨RX11, "priced", "(II)I"⟩
abbrev cX11_had : ByteArray := prog_13_method_47_code
def yX11_had : MethodName := ⟨RX11, "had", "(II)I"⟩
abbrev cX11_billOf : ByteArray := prog_13_method_48_code
def yX11_billOf : MethodName := ⟨RX11, "billOf", "(II)I"⟩
abbrev cX11_bill : ByteArray := prog_13_method_49_code
def yX11_bill : MethodName := ⟨RX11, "bill", "(I)I"⟩
abbrev cX11_matter : ByteArray := prog_13_method_50_code
def yX11_matter : MethodName := ⟨RX11, "matter", "()I"⟩
abbrev cX11_count : ByteArray := prog_13_method_51_code
def yX11_count : MethodName := ⟨RX11, "count", "(I)I"⟩
abbrev cX11_digest : ByteArray := prog_13_method_52_code
def yX11_digest : MethodName := ⟨RX11, "digest", "()J"⟩
def RJ6 : String := "java/lang/Integer"
def TJ6 : u_T := fun k => match k with
  | _ => ("", "", "", false)
def tyJ6 : Nat → FieldType := fun k => match k with
  | _ => .int
abbrev wsJ60 : List Cond := u_ws RJ6 TJ6 0
theorem nmJ6 : ∀ a, a < 0 → ∀ b, b < 0 → a ≠ b → (TJ6 a).2.1 ≠ (TJ6 b).2.1 := by decide +kernel
theorem tyJ6_ok : ∀ k, k < 0 → parseFieldDescriptor (TJ6 k).2.2.1 = some (tyJ6 k) := by decide +kernel
abbrev cJ6_bitCount_0f7a4 : ByteArray := prog_14_method_49_code
def yJ6_bitCount_0f7a4 : MethodName := ⟨RJ6, "bitCount", "(I)I"⟩
def RJ9 : String := "java/lang/Math"
def TJ9 : u_T := fun k => match k with
  | _ => ("", "", "", false)
def tyJ9 : Nat → FieldType := fun k => match k with
  | _ => .int
abbrev wsJ90 : List Cond := u_ws RJ9 TJ9 0
theorem nmJ9 : ∀ a, a < 0 → ∀ b, b < 0 → a ≠ b → (TJ9 a).2.1 ≠ (TJ9 b).2.1 := by decide +kernel
theorem tyJ9_ok : ∀ k, k < 0 → parseFieldDescriptor (TJ9 k).2.2.1 = some (tyJ9 k) := by decide +kernel
abbrev cJ9_max_7cf53 : ByteArray := prog_15_method_65_code
def yJ9_max_7cf53 : MethodName := ⟨RJ9, "max", "(II)I"⟩
def RJ7 : String := "java/util/Arrays"
def TJ7 : u_T := fun k => match k with
  | _ => ("", "", "", false)
def tyJ7 : Nat → FieldType := fun k => match k with
  | _ => .int
abbrev wsJ70 : List Cond := u_ws RJ7 TJ7 0
theorem nmJ7 : ∀ a, a < 0 → ∀ b, b < 0 → a ≠ b → (TJ7 a).2.1 ≠ (TJ7 b).2.1 := by decide +kernel
theorem tyJ7_ok : ∀ k, k < 0 → parseFieldDescriptor (TJ7 k).2.2.1 = some (tyJ7 k) := by decide +kernel
abbrev cJ7_fill_53178 : ByteArray := prog_16_method_103_code
def yJ7_fill_53178 : MethodName := ⟨RJ7, "fill", "([II)V"⟩
def RL : String := "TermLodgingsLaw"
abbrev cL_law : ByteArray := code
def yL_law : MethodName := ⟨RL, "law", "([I)Z"⟩
theorem inJ6 : ∀ w ∈ wsJ60, w ∈ lw_tbl := by decide +kernel
theorem inJ9 : ∀ w ∈ wsJ90, w ∈ lw_tbl := by decide +kernel
theorem inJ7 : ∀ w ∈ wsJ70, w ∈ lw_tbl := by decide +kernel
theorem dX0_init_0 : decode cX0_init 0 = .ok (.aload_n 0, 1) := by decide +kernel
theorem dX0_init_1 : decode cX0_init 1 = .ok (.invokespecial 3, 3) := by decide +kernel
theorem dX0_init_4 : decode cX0_init 4 = .ok (.aload_n 0, 1) := by decide +kernel
theorem dX0_init_5 : decode cX0_init 5 = .ok (.bipush 16, 2) := by decide +kernel
theorem dX0_init_7 : decode cX0_init 7 = .ok (.newarray .int, 2) := by decide +kernel
theorem dX0_init_9 : decode cX0_init 9 = .ok (.putfield 9, 3) := by decide +kernel
theorem dX0_init_12 : decode cX0_init 12 = .ok (.aload_n 0, 1) := by decide +kernel
theorem dX0_init_13 : decode cX0_init 13 = .ok (.aload_n 1, 1) := by decide +kernel
theorem dX0_init_14 : decode cX0_init 14 = .ok (.putfield 15, 3) := by decide +kernel
theorem dX0_init_17 : decode cX0_init 17 = .ok (.aload_n 0, 1) := by decide +kernel
theorem dX0_init_18 : decode cX0_init 18 = .ok (.aload_n 1, 1) := by decide +kernel
theorem dX0_init_19 : decode cX0_init 19 = .ok (.getfield 19, 3) := by decide +kernel
theorem dX0_init_22 : decode cX0_init 22 = .ok (.putfield 25, 3) := by decide +kernel
theorem dX0_init_25 : decode cX0_init 25 = .ok (.aload_n 0, 1) := by decide +kernel
theorem dX0_init_26 : decode cX0_init 26 = .ok (.aload_n 1, 1) := by decide +kernel
theorem dX0_init_27 : decode cX0_init 27 = .ok (.getfield 26, 3) := by decide +kernel
theorem dX0_init_30 : decode cX0_init 30 = .ok (.putfield 30, 3) := by decide +kernel
theorem dX0_init_33 : decode cX0_init 33 = .ok (.return_, 1) := by decide +kernel
theorem dX0_run_0 : decode cX0_run 0 = .ok (.aload_n 0, 1) := by decide +kernel
theorem dX0_run_1 : decode cX0_run 1 = .ok (.getfield 15, 3) := by decide +kernel
theorem dX0_run_4 : decode cX0_run 4 = .ok (.invokevirtual 31, 3) := by decide +kernel
theorem dX0_run_7 : decode cX0_run 7 = .ok (.iconst 0, 1) := by decide +kernel
theorem dX0_run_8 : decode cX0_run 8 = .ok (.istore_n 2, 1) := by decide +kernel
theorem dX0_run_9 : decode cX0_run 9 = .ok (.iload_n 2, 1) := by decide +kernel
theorem dX0_run_10 : decode cX0_run 10 = .ok (.aload_n 0, 1) := by decide +kernel
theorem dX0_run_11 : decode cX0_run 11 = .ok (.getfield 25, 3) := by decide +kernel
theorem dX0_run_14 : decode cX0_run 14 = .ok (.getfield 34, 3) := by decide +kernel
theorem dX0_run_17 : decode cX0_run 17 = .ok (.if_icmp .ge 17, 3) := by decide +kernel
theorem dX0_run_20 : decode cX0_run 20 = .ok (.aload_n 0, 1) := by decide +kernel
theorem dX0_run_21 : decode cX0_run 21 = .ok (.getfield 15, 3) := by decide +kernel
theorem dX0_run_24 : decode cX0_run 24 = .ok (.iload_n 2, 1) := by decide +kernel
theorem dX0_run_25 : decode cX0_run 25 = .ok (.invokevirtual 40, 3) := by decide +kernel
theorem dX0_run_28 : decode cX0_run 28 = .ok (.iinc 2 1, 3) := by decide +kernel
theorem dX0_run_31 : decode cX0_run 31 = .ok (.goto (-22), 3) := by decide +kernel
theorem dX0_run_34 : decode cX0_run 34 = .ok (.iconst 0, 1) := by decide +kernel
theorem dX0_run_35 : decode cX0_run 35 = .ok (.istore_n 2, 1) := by decide +kernel
theorem dX0_run_36 : decode cX0_run 36 = .ok (.iconst 0, 1) := by decide +kernel
theorem dX0_run_37 : decode cX0_run 37 = .ok (.istore_n 3, 1) := by decide +kernel
theorem dX0_run_38 : decode cX0_run 38 = .ok (.iload_n 3, 1) := by decide +kernel
theorem dX0_run_39 : decode cX0_run 39 = .ok (.aload_n 1, 1) := by decide +kernel
theorem dX0_run_40 : decode cX0_run 40 = .ok (.getfield 44, 3) := by decide +kernel
theorem dX0_run_43 : decode cX0_run 43 = .ok (.if_icmp .ge 49, 3) := by decide +kernel
theorem dX0_run_46 : decode cX0_run 46 = .ok (.aload_n 1, 1) := by decide +kernel
theorem dX0_run_47 : decode cX0_run 47 = .ok (.iload_n 3, 1) := by decide +kernel
theorem dX0_run_48 : decode cX0_run 48 = .ok (.invokevirtual 47, 3) := by decide +kernel
theorem dX0_run_51 : decode cX0_run 51 = .ok (.istore 4, 2) := by decide +kernel
theorem dX0_run_53 : decode cX0_run 53 = .ok (.iload_n 2, 1) := by decide +kernel
theorem dX0_run_54 : decode cX0_run 54 = .ok (.iload 4, 2) := by decide +kernel
theorem dX0_run_56 : decode cX0_run 56 = .ok (.invokestatic 51, 3) := by decide +kernel
theorem dX0_run_59 : decode cX0_run 59 = .ok (.ifCond .ne 27, 3) := by decide +kernel
theorem dX0_run_62 : decode cX0_run 62 = .ok (.aload_n 0, 1) := by decide +kernel
theorem dX0_run_63 : decode cX0_run 63 = .ok (.getfield 25, 3) := by decide +kernel
theorem dX0_run_66 : decode cX0_run 66 = .ok (.iload 4, 2) := by decide +kernel
theorem dX0_run_68 : decode cX0_run 68 = .ok (.invokevirtual 55, 3) := by decide +kernel
theorem dX0_run_71 : decode cX0_run 71 = .ok (.istore 5, 2) := by decide +kernel
theorem dX0_run_73 : decode cX0_run 73 = .ok (.aload_n 0, 1) := by decide +kernel
theorem dX0_run_74 : decode cX0_run 74 = .ok (.iload 4, 2) := by decide +kernel
theorem dX0_run_76 : decode cX0_run 76 = .ok (.iload 5, 2) := by decide +kernel
theorem dX0_run_78 : decode cX0_run 78 = .ok (.invokevirtual 58, 3) := by decide +kernel
theorem dX0_run_81 : decode cX0_run 81 = .ok (.iload_n 2, 1) := by decide +kernel
theorem dX0_run_82 : decode cX0_run 82 = .ok (.iload 5, 2) := by decide +kernel
theorem dX0_run_84 : decode cX0_run 84 = .ok (.ior, 1) := by decide +kernel
theorem dX0_run_85 : decode cX0_run 85 = .ok (.istore_n 2, 1) := by decide +kernel
theorem dX0_run_86 : decode cX0_run 86 = .ok (.iinc 3 1, 3) := by decide +kernel
theorem dX0_run_89 : decode cX0_run 89 = .ok (.goto (-51), 3) := by decide +kernel
theorem dX0_run_92 : decode cX0_run 92 = .ok (.return_, 1) := by decide +kernel
theorem dX0_serve_0 : decode cX0_serve 0 = .ok (.iload_n 2, 1) := by decide +kernel
theorem dX0_serve_1 : decode cX0_serve 1 = .ok (.invokestatic 62, 3) := by decide +kernel
theorem dX0_serve_4 : decode cX0_serve 4 = .ok (.iconst 1, 1) := by decide +kernel
theorem dX0_serve_5 : decode cX0_serve 5 = .ok (.if_icmp .ne 7, 3) := by decide +kernel
theorem dX0_serve_8 : decode cX0_serve 8 = .ok (.iconst 1, 1) := by decide +kernel
theorem dX0_serve_9 : decode cX0_serve 9 = .ok (.goto 4, 3) := by decide +kernel
theorem dX0_serve_12 : decode cX0_serve 12 = .ok (.iconst 0, 1) := by decide +kernel
theorem dX0_serve_13 : decode cX0_serve 13 = .ok (.istore_n 3, 1) := by decide +kernel
theorem dX0_serve_14 : decode cX0_serve 14 = .ok (.iload_n 3, 1) := by decide +kernel
theorem dX0_serve_15 : decode cX0_serve 15 = .ok (.ifCond .ne 12, 3) := by decide +kernel
theorem dX0_serve_18 : decode cX0_serve 18 = .ok (.aload_n 0, 1) := by decide +kernel
theorem dX0_serve_19 : decode cX0_serve 19 = .ok (.iload_n 1, 1) := by decide +kernel
theorem dX0_serve_20 : decode cX0_serve 20 = .ok (.iload_n 2, 1) := by decide +kernel
theorem dX0_serve_21 : decode cX0_serve 21 = .ok (.invokevirtual 67, 3) := by decide +kernel
theorem dX0_serve_24 : decode cX0_serve 24 = .ok (.ifCond .ne 8, 3) := by decide +kernel
theorem dX0_serve_27 : decode cX0_serve 27 = .ok (.aload_n 0, 1) := by decide +kernel
theorem dX0_serve_28 : decode cX0_serve 28 = .ok (.iload_n 2, 1) := by decide +kernel
theorem dX0_serve_29 : decode cX0_serve 29 = .ok (.invokevirtual 70, 3) := by decide +kernel
theorem dX0_serve_32 : decode cX0_serve 32 = .ok (.return_, 1) := by decide +kernel
theorem dX0_settleTogether_0 : decode cX0_settleTogether 0 = .ok (.iconst 0, 1) := by decide +kernel
theorem dX0_settleTogether_1 : decode cX0_settleTogether 1 = .ok (.istore_n 3, 1) := by decide +kernel
theorem dX0_settleTogether_2 : decode cX0_settleTogether 2 = .ok (.iload_n 3, 1) := by decide +kernel
theorem dX0_settleTogether_3 : decode cX0_settleTogether 3 = .ok (.aload_n 0, 1) := by decide +kernel
theorem dX0_settleTogether_4 : decode cX0_settleTogether 4 = .ok (.getfield 25, 3) := by decide +kernel
theorem dX0_settleTogether_7 : decode cX0_settleTogether 7 = .ok (.iload_n 1, 1) := by decide +kernel
theorem dX0_settleTogether_8 : decode cX0_settleTogether 8 = .ok (.invokevirtual 73, 3) := by decide +kernel
theorem dX0_settleTogether_11 : decode cX0_settleTogether 11 = .ok (.if_icmp .ge 51, 3) := by decide +kernel
theorem dX0_settleTogether_14 : decode cX0_settleTogether 14 = .ok (.aload_n 0, 1) := by decide +kernel
theorem dX0_settleTogether_15 : decode cX0_settleTogether 15 = .ok (.getfield 30, 3) := by decide +kernel
theorem dX0_settleTogether_18 : decode cX0_settleTogether 18 = .ok (.aload_n 0, 1) := by decide +kernel
theorem dX0_settleTogether_19 : decode cX0_settleTogether 19 = .ok (.getfield 25, 3) := by decide +kernel
theorem dX0_settleTogether_22 : decode cX0_settleTogether 22 = .ok (.iload_n 1, 1) := by decide +kernel
theorem dX0_settleTogether_23 : decode cX0_settleTogether 23 = .ok (.iload_n 3, 1) := by decide +kernel
theorem dX0_settleTogether_24 : decode cX0_settleTogether 24 = .ok (.invokevirtual 76, 3) := by decide +kernel
theorem dX0_settleTogether_27 : decode cX0_settleTogether 27 = .ok (.invokevirtual 80, 3) := by decide +kernel
theorem dX0_settleTogether_30 : decode cX0_settleTogether 30 = .ok (.istore 4, 2) := by decide +kernel
theorem dX0_settleTogether_32 : decode cX0_settleTogether 32 = .ok (.aload_n 0, 1) := by decide +kernel
theorem dX0_settleTogether_33 : decode cX0_settleTogether 33 = .ok (.aload_n 0, 1) := by decide +kernel
theorem dX0_settleTogether_34 : decode cX0_settleTogether 34 = .ok (.getfield 30, 3) := by decide +kernel
theorem dX0_settleTogether_37 : decode cX0_settleTogether 37 = .ok (.iload 4, 2) := by decide +kernel
theorem dX0_settleTogether_39 : decode cX0_settleTogether 39 = .ok (.invokevirtual 85, 3) := by decide +kernel
theorem dX0_settleTogether_42 : decode cX0_settleTogether 42 = .ok (.iload_n 2, 1) := by decide +kernel
theorem dX0_settleTogether_43 : decode cX0_settleTogether 43 = .ok (.invokevirtual 88, 3) := by decide +kernel
theorem dX0_settleTogether_46 : decode cX0_settleTogether 46 = .ok (.ifCond .eq 10, 3) := by decide +kernel
theorem dX0_settleTogether_49 : decode cX0_settleTogether 49 = .ok (.aload_n 0, 1) := by decide +kernel
theorem dX0_settleTogether_50 : decode cX0_settleTogether 50 = .ok (.iload_n 2, 1) := by decide +kernel
theorem dX0_settleTogether_51 : decode cX0_settleTogether 51 = .ok (.invokevirtual 91, 3) := by decide +kernel
theorem dX0_settleTogether_54 : decode cX0_settleTogether 54 = .ok (.iconst 1, 1) := by decide +kernel
theorem dX0_settleTogether_55 : decode cX0_settleTogether 55 = .ok (.ireturn, 1) := by decide +kernel
theorem dX0_settleTogether_56 : decode cX0_settleTogether 56 = .ok (.iinc 3 1, 3) := by decide +kernel
theorem dX0_settleTogether_59 : decode cX0_settleTogether 59 = .ok (.goto (-57), 3) := by decide +kernel
theorem dX0_settleTogether_62 : decode cX0_settleTogether 62 = .ok (.iconst 0, 1) := by decide +kernel
theorem dX0_settleTogether_63 : decode cX0_settleTogether 63 = .ok (.ireturn, 1) := by decide +kernel
theorem dX0_pickAmong_0 : decode cX0_pickAmong 0 = .ok (.iload_n 1, 1) := by decide +kernel
theorem dX0_pickAmong_1 : decode cX0_pickAmong 1 = .ok (.istore_n 3, 1) := by decide +kernel
theorem dX0_pickAmong_2 : decode cX0_pickAmong 2 = .ok (.iconst 0, 1) := by decide +kernel
theorem dX0_pickAmong_3 : decode cX0_pickAmong 3 = .ok (.istore 4, 2) := by decide +kernel
theorem dX0_pickAmong_5 : decode cX0_pickAmong 5 = .ok (.iload 4, 2) := by decide +kernel
theorem dX0_pickAmong_7 : decode cX0_pickAmong 7 = .ok (.aload_n 0, 1) := by decide +kernel
theorem dX0_pickAmong_8 : decode cX0_pickAmong 8 = .ok (.getfield 25, 3) := by decide +kernel
theorem dX0_pickAmong_11 : decode cX0_pickAmong 11 = .ok (.getfield 34, 3) := by decide +kernel
theorem dX0_pickAmong_14 : decode cX0_pickAmong 14 = .ok (.if_icmp .ge 60, 3) := by decide +kernel
theorem dX0_pickAmong_17 : decode cX0_pickAmong 17 = .ok (.iload_n 2, 1) := by decide +kernel
theorem dX0_pickAmong_18 : decode cX0_pickAmong 18 = .ok (.iload 4, 2) := by decide +kernel
theorem dX0_pickAmong_20 : decode cX0_pickAmong 20 = .ok (.invokestatic 51, 3) := by decide +kernel
theorem dX0_pickAmong_23 : decode cX0_pickAmong 23 = .ok (.ifCond .eq 45, 3) := by decide +kernel
theorem dX0_pickAmong_26 : decode cX0_pickAmong 26 = .ok (.iload_n 3, 1) := by decide +kernel
theorem dX0_pickAmong_27 : decode cX0_pickAmong 27 = .ok (.aload_n 0, 1) := by decide +kernel
theorem dX0_pickAmong_28 : decode cX0_pickAmong 28 = .ok (.getfield 15, 3) := by decide +kernel
theorem dX0_pickAmong_31 : decode cX0_pickAmong 31 = .ok (.iload 4, 2) := by decide +kernel
theorem dX0_pickAmong_33 : decode cX0_pickAmong 33 = .ok (.invokevirtual 94, 3) := by decide +kernel
theorem dX0_pickAmong_36 : decode cX0_pickAmong 36 = .ok (.iand, 1) := by decide +kernel
theorem dX0_pickAmong_37 : decode cX0_pickAmong 37 = .ok (.invokestatic 97, 3) := by decide +kernel
theorem dX0_pickAmong_40 : decode cX0_pickAmong 40 = .ok (.istore 5, 2) := by decide +kernel
theorem dX0_pickAmong_42 : decode cX0_pickAmong 42 = .ok (.iload 5, 2) := by decide +kernel
theorem dX0_pickAmong_44 : decode cX0_pickAmong 44 = .ok (.iconst (-1), 1) := by decide +kernel
theorem dX0_pickAmong_45 : decode cX0_pickAmong 45 = .ok (.if_icmp .ne 5, 3) := by decide +kernel
theorem dX0_pickAmong_48 : decode cX0_pickAmong 48 = .ok (.iconst 0, 1) := by decide +kernel
theorem dX0_pickAmong_49 : decode cX0_pickAmong 49 = .ok (.ireturn, 1) := by decide +kernel
theorem dX0_pickAmong_50 : decode cX0_pickAmong 50 = .ok (.aload_n 0, 1) := by decide +kernel
theorem dX0_pickAmong_51 : decode cX0_pickAmong 51 = .ok (.getfield 9, 3) := by decide +kernel
theorem dX0_pickAmong_54 : decode cX0_pickAmong 54 = .ok (.iload 4, 2) := by decide +kernel
theorem dX0_pickAmong_56 : decode cX0_pickAmong 56 = .ok (.iload 5, 2) := by decide +kernel
theorem dX0_pickAmong_58 : decode cX0_pickAmong 58 = .ok (.iastore, 1) := by decide +kernel
theorem dX0_pickAmong_59 : decode cX0_pickAmong 59 = .ok (.iload_n 3, 1) := by decide +kernel
theorem dX0_pickAmong_60 : decode cX0_pickAmong 60 = .ok (.iconst 1, 1) := by decide +kernel
theorem dX0_pickAmong_61 : decode cX0_pickAmong 61 = .ok (.iload 5, 2) := by decide +kernel
theorem dX0_pickAmong_63 : decode cX0_pickAmong 63 = .ok (.ishl, 1) := by decide +kernel
theorem dX0_pickAmong_64 : decode cX0_pickAmong 64 = .ok (.iconst (-1), 1) := by decide +kernel
theorem dX0_pickAmong_65 : decode cX0_pickAmong 65 = .ok (.ixor, 1) := by decide +kernel
theorem dX0_pickAmong_66 : decode cX0_pickAmong 66 = .ok (.iand, 1) := by decide +kernel
theorem dX0_pickAmong_67 : decode cX0_pickAmong 67 = .ok (.istore_n 3, 1) := by decide +kernel
theorem dX0_pickAmong_68 : decode cX0_pickAmong 68 = .ok (.iinc 4 1, 3) := by decide +kernel
theorem dX0_pickAmong_71 : decode cX0_pickAmong 71 = .ok (.goto (-66), 3) := by decide +kernel
theorem dX0_pickAmong_74 : decode cX0_pickAmong 74 = .ok (.iconst 1, 1) := by decide +kernel
theorem dX0_pickAmong_75 : decode cX0_pickAmong 75 = .ok (.ireturn, 1) := by decide +kernel
theorem dX0_settlePicks_0 : decode cX0_settlePicks 0 = .ok (.iconst 0, 1) := by decide +kernel
theorem dX0_settlePicks_1 : decode cX0_settlePicks 1 = .ok (.istore_n 2, 1) := by decide +kernel
theorem dX0_settlePicks_2 : decode cX0_settlePicks 2 = .ok (.iload_n 2, 1) := by decide +kernel
theorem dX0_settlePicks_3 : decode cX0_settlePicks 3 = .ok (.aload_n 0, 1) := by decide +kernel
theorem dX0_settlePicks_4 : decode cX0_settlePicks 4 = .ok (.getfield 25, 3) := by decide +kernel
theorem dX0_settlePicks_7 : decode cX0_settlePicks 7 = .ok (.getfield 34, 3) := by decide +kernel
theorem dX0_settlePicks_10 : decode cX0_settlePicks 10 = .ok (.if_icmp .ge 31, 3) := by decide +kernel
theorem dX0_settlePicks_13 : decode cX0_settlePicks 13 = .ok (.iload_n 1, 1) := by decide +kernel
theorem dX0_settlePicks_14 : decode cX0_settlePicks 14 = .ok (.iload_n 2, 1) := by decide +kernel
theorem dX0_settlePicks_15 : decode cX0_settlePicks 15 = .ok (.invokestatic 51, 3) := by decide +kernel
theorem dX0_settlePicks_18 : decode cX0_settlePicks 18 = .ok (.ifCond .eq 17, 3) := by decide +kernel
theorem dX0_settlePicks_21 : decode cX0_settlePicks 21 = .ok (.aload_n 0, 1) := by decide +kernel
theorem dX0_settlePicks_22 : decode cX0_settlePicks 22 = .ok (.getfield 15, 3) := by decide +kernel
theorem dX0_settlePicks_25 : decode cX0_settlePicks 25 = .ok (.iload_n 2, 1) := by decide +kernel
theorem dX0_settlePicks_26 : decode cX0_settlePicks 26 = .ok (.aload_n 0, 1) := by decide +kernel
theorem dX0_settlePicks_27 : decode cX0_settlePicks 27 = .ok (.getfield 9, 3) := by decide +kernel
theorem dX0_settlePicks_30 : decode cX0_settlePicks 30 = .ok (.iload_n 2, 1) := by decide +kernel
theorem dX0_settlePicks_31 : decode cX0_settlePicks 31 = .ok (.iaload, 1) := by decide +kernel
theorem dX0_settlePicks_32 : decode cX0_settlePicks 32 = .ok (.invokevirtual 100, 3) := by decide +kernel
theorem dX0_settlePicks_35 : decode cX0_settlePicks 35 = .ok (.iinc 2 1, 3) := by decide +kernel
theorem dX0_settlePicks_38 : decode cX0_settlePicks 38 = .ok (.goto (-36), 3) := by decide +kernel
theorem dX0_settlePicks_41 : decode cX0_settlePicks 41 = .ok (.return_, 1) := by decide +kernel
theorem dX0_settleEach_0 : decode cX0_settleEach 0 = .ok (.iconst 0, 1) := by decide +kernel
theorem dX0_settleEach_1 : decode cX0_settleEach 1 = .ok (.istore_n 2, 1) := by decide +kernel
theorem dX0_settleEach_2 : decode cX0_settleEach 2 = .ok (.iload_n 2, 1) := by decide +kernel
theorem dX0_settleEach_3 : decode cX0_settleEach 3 = .ok (.aload_n 0, 1) := by decide +kernel
theorem dX0_settleEach_4 : decode cX0_settleEach 4 = .ok (.getfield 25, 3) := by decide +kernel
theorem dX0_settleEach_7 : decode cX0_settleEach 7 = .ok (.getfield 34, 3) := by decide +kernel
theorem dX0_settleEach_10 : decode cX0_settleEach 10 = .ok (.if_icmp .ge 30, 3) := by decide +kernel
theorem dX0_settleEach_13 : decode cX0_settleEach 13 = .ok (.iload_n 1, 1) := by decide +kernel
theorem dX0_settleEach_14 : decode cX0_settleEach 14 = .ok (.iload_n 2, 1) := by decide +kernel
theorem dX0_settleEach_15 : decode cX0_settleEach 15 = .ok (.invokestatic 51, 3) := by decide +kernel
theorem dX0_settleEach_18 : decode cX0_settleEach 18 = .ok (.ifCond .eq 16, 3) := by decide +kernel
theorem dX0_settleEach_21 : decode cX0_settleEach 21 = .ok (.aload_n 0, 1) := by decide +kernel
theorem dX0_settleEach_22 : decode cX0_settleEach 22 = .ok (.getfield 15, 3) := by decide +kernel
theorem dX0_settleEach_25 : decode cX0_settleEach 25 = .ok (.iload_n 2, 1) := by decide +kernel
theorem dX0_settleEach_26 : decode cX0_settleEach 26 = .ok (.aload_n 0, 1) := by decide +kernel
theorem dX0_settleEach_27 : decode cX0_settleEach 27 = .ok (.iload_n 2, 1) := by decide +kernel
theorem dX0_settleEach_28 : decode cX0_settleEach 28 = .ok (.invokevirtual 103, 3) := by decide +kernel
theorem dX0_settleEach_31 : decode cX0_settleEach 31 = .ok (.invokevirtual 100, 3) := by decide +kernel
theorem dX0_settleEach_34 : decode cX0_settleEach 34 = .ok (.iinc 2 1, 3) := by decide +kernel
theorem dX0_settleEach_37 : decode cX0_settleEach 37 = .ok (.goto (-35), 3) := by decide +kernel
theorem dX0_settleEach_40 : decode cX0_settleEach 40 = .ok (.return_, 1) := by decide +kernel
theorem dX0_dearestOpenWish_0 : decode cX0_dearestOpenWish 0 = .ok (.aload_n 0, 1) := by decide +kernel
theorem dX0_dearestOpenWish_1 : decode cX0_dearestOpenWish 1 = .ok (.getfield 15, 3) := by decide +kernel
theorem dX0_dearestOpenWish_4 : decode cX0_dearestOpenWish 4 = .ok (.iload_n 1, 1) := by decide +kernel
theorem dX0_dearestOpenWish_5 : decode cX0_dearestOpenWish 5 = .ok (.invokevirtual 94, 3) := by decide +kernel
theorem dX0_dearestOpenWish_8 : decode cX0_dearestOpenWish 8 = .ok (.istore_n 2, 1) := by decide +kernel
theorem dX0_dearestOpenWish_9 : decode cX0_dearestOpenWish 9 = .ok (.iconst 0, 1) := by decide +kernel
theorem dX0_dearestOpenWish_10 : decode cX0_dearestOpenWish 10 = .ok (.istore_n 3, 1) := by decide +kernel
theorem dX0_dearestOpenWish_11 : decode cX0_dearestOpenWish 11 = .ok (.iload_n 3, 1) := by decide +kernel
theorem dX0_dearestOpenWish_12 : decode cX0_dearestOpenWish 12 = .ok (.aload_n 0, 1) := by decide +kernel
theorem dX0_dearestOpenWish_13 : decode cX0_dearestOpenWish 13 = .ok (.getfield 25, 3) := by decide +kernel
theorem dX0_dearestOpenWish_16 : decode cX0_dearestOpenWish 16 = .ok (.iload_n 1, 1) := by decide +kernel
theorem dX0_dearestOpenWish_17 : decode cX0_dearestOpenWish 17 = .ok (.invokevirtual 73, 3) := by decide +kernel
theorem dX0_dearestOpenWish_20 : decode cX0_dearestOpenWish 20 = .ok (.if_icmp .ge 32, 3) := by decide +kernel
theorem dX0_dearestOpenWish_23 : decode cX0_dearestOpenWish 23 = .ok (.aload_n 0, 1) := by decide +kernel
theorem dX0_dearestOpenWish_24 : decode cX0_dearestOpenWish 24 = .ok (.getfield 25, 3) := by decide +kernel
theorem dX0_dearestOpenWish_27 : decode cX0_dearestOpenWish 27 = .ok (.iload_n 1, 1) := by decide +kernel
theorem dX0_dearestOpenWish_28 : decode cX0_dearestOpenWish 28 = .ok (.iload_n 3, 1) := by decide +kernel
theorem dX0_dearestOpenWish_29 : decode cX0_dearestOpenWish 29 = .ok (.invokevirtual 76, 3) := by decide +kernel
theorem dX0_dearestOpenWish_32 : decode cX0_dearestOpenWish 32 = .ok (.istore 4, 2) := by decide +kernel
theorem dX0_dearestOpenWish_34 : decode cX0_dearestOpenWish 34 = .ok (.iload_n 2, 1) := by decide +kernel
theorem dX0_dearestOpenWish_35 : decode cX0_dearestOpenWish 35 = .ok (.iload 4, 2) := by decide +kernel
theorem dX0_dearestOpenWish_37 : decode cX0_dearestOpenWish 37 = .ok (.invokestatic 51, 3) := by decide +kernel
theorem dX0_dearestOpenWish_40 : decode cX0_dearestOpenWish 40 = .ok (.ifCond .eq 6, 3) := by decide +kernel
theorem dX0_dearestOpenWish_43 : decode cX0_dearestOpenWish 43 = .ok (.iload 4, 2) := by decide +kernel
theorem dX0_dearestOpenWish_45 : decode cX0_dearestOpenWish 45 = .ok (.ireturn, 1) := by decide +kernel
theorem dX0_dearestOpenWish_46 : decode cX0_dearestOpenWish 46 = .ok (.iinc 3 1, 3) := by decide +kernel
theorem dX0_dearestOpenWish_49 : decode cX0_dearestOpenWish 49 = .ok (.goto (-38), 3) := by decide +kernel
theorem dX0_dearestOpenWish_52 : decode cX0_dearestOpenWish 52 = .ok (.iconst (-1), 1) := by decide +kernel
theorem dX0_dearestOpenWish_53 : decode cX0_dearestOpenWish 53 = .ok (.ireturn, 1) := by decide +kernel
theorem dX1_init_0 : decode cX1_init 0 = .ok (.aload_n 0, 1) := by decide +kernel
theorem dX1_init_1 : decode cX1_init 1 = .ok (.invokespecial 3, 3) := by decide +kernel
theorem dX1_init_4 : decode cX1_init 4 = .ok (.aload_n 0, 1) := by decide +kernel
theorem dX1_init_5 : decode cX1_init 5 = .ok (.bipush 16, 2) := by decide +kernel
theorem dX1_init_7 : decode cX1_init 7 = .ok (.newarray .int, 2) := by decide +kernel
theorem dX1_init_9 : decode cX1_init 9 = .ok (.putfield 9, 3) := by decide +kernel
theorem dX1_init_12 : decode cX1_init 12 = .ok (.aload_n 0, 1) := by decide +kernel
theorem dX1_init_13 : decode cX1_init 13 = .ok (.bipush 16, 2) := by decide +kernel
theorem dX1_init_15 : decode cX1_init 15 = .ok (.newarray .int, 2) := by decide +kernel
theorem dX1_init_17 : decode cX1_init 17 = .ok (.putfield 15, 3) := by decide +kernel
theorem dX1_init_20 : decode cX1_init 20 = .ok (.aload_n 0, 1) := by decide +kernel
theorem dX1_init_21 : decode cX1_init 21 = .ok (.bipush 24, 2) := by decide +kernel
theorem dX1_init_23 : decode cX1_init 23 = .ok (.newarray .int, 2) := by decide +kernel
theorem dX1_init_25 : decode cX1_init 25 = .ok (.putfield 18, 3) := by decide +kernel
theorem dX1_init_28 : decode cX1_init 28 = .ok (.aload_n 0, 1) := by decide +kernel
theorem dX1_init_29 : decode cX1_init 29 = .ok (.bipush 16, 2) := by decide +kernel
theorem dX1_init_31 : decode cX1_init 31 = .ok (.newarray .int, 2) := by decide +kernel
theorem dX1_init_33 : decode cX1_init 33 = .ok (.putfield 21, 3) := by decide +kernel
theorem dX1_init_36 : decode cX1_init 36 = .ok (.aload_n 0, 1) := by decide +kernel
theorem dX1_init_37 : decode cX1_init 37 = .ok (.bipush 16, 2) := by decide +kernel
theorem dX1_init_39 : decode cX1_init 39 = .ok (.newarray .int, 2) := by decide +kernel
theorem dX1_init_41 : decode cX1_init 41 = .ok (.putfield 24, 3) := by decide +kernel
theorem dX1_init_44 : decode cX1_init 44 = .ok (.aload_n 0, 1) := by decide +kernel
theorem dX1_init_45 : decode cX1_init 45 = .ok (.bipush 24, 2) := by decide +kernel
theorem dX1_init_47 : decode cX1_init 47 = .ok (.newarray .int, 2) := by decide +kernel
theorem dX1_init_49 : decode cX1_init 49 = .ok (.putfield 27, 3) := by decide +kernel
theorem dX1_init_52 : decode cX1_init 52 = .ok (.aload_n 0, 1) := by decide +kernel
theorem dX1_init_53 : decode cX1_init 53 = .ok (.aload_n 1, 1) := by decide +kernel
theorem dX1_init_54 : decode cX1_init 54 = .ok (.putfield 30, 3) := by decide +kernel
theorem dX1_init_57 : decode cX1_init 57 = .ok (.aload_n 0, 1) := by decide +kernel
theorem dX1_init_58 : decode cX1_init 58 = .ok (.aload_n 1, 1) := by decide +kernel
theorem dX1_init_59 : decode cX1_init 59 = .ok (.getfield 34, 3) := by decide +kernel
theorem dX1_init_62 : decode cX1_init 62 = .ok (.putfield 40, 3) := by decide +kernel
theorem dX1_init_65 : decode cX1_init 65 = .ok (.aload_n 0, 1) := by decide +kernel
theorem dX1_init_66 : decode cX1_init 66 = .ok (.aload_n 1, 1) := by decide +kernel
theorem dX1_init_67 : decode cX1_init 67 = .ok (.getfield 41, 3) := by decide +kernel
theorem dX1_init_70 : decode cX1_init 70 = .ok (.putfield 45, 3) := by decide +kernel
theorem dX1_init_73 : decode cX1_init 73 = .ok (.return_, 1) := by decide +kernel
theorem dX1_run_0 : decode cX1_run 0 = .ok (.aload_n 0, 1) := by decide +kernel
theorem dX1_run_1 : decode cX1_run 1 = .ok (.getfield 45, 3) := by decide +kernel
theorem dX1_run_4 : decode cX1_run 4 = .ok (.dup, 1) := by decide +kernel
theorem dX1_run_5 : decode cX1_run 5 = .ok (.getfield 46, 3) := by decide +kernel
theorem dX1_run_8 : decode cX1_run 8 = .ok (.iconst 1, 1) := by decide +kernel
theorem dX1_run_9 : decode cX1_run 9 = .ok (.iload_n 1, 1) := by decide +kernel
theorem dX1_run_10 : decode cX1_run 10 = .ok (.ishl, 1) := by decide +kernel
theorem dX1_run_11 : decode cX1_run 11 = .ok (.ior, 1) := by decide +kernel
theorem dX1_run_12 : decode cX1_run 12 = .ok (.putfield 46, 3) := by decide +kernel
theorem dX1_run_15 : decode cX1_run 15 = .ok (.aload_n 0, 1) := by decide +kernel
theorem dX1_run_16 : decode cX1_run 16 = .ok (.iload_n 1, 1) := by decide +kernel
theorem dX1_run_17 : decode cX1_run 17 = .ok (.invokevirtual 52, 3) := by decide +kernel
theorem dX1_run_20 : decode cX1_run 20 = .ok (.aload_n 0, 1) := by decide +kernel
theorem dX1_run_21 : decode cX1_run 21 = .ok (.getfield 30, 3) := by decide +kernel
theorem dX1_run_24 : decode cX1_run 24 = .ok (.invokevirtual 56, 3) := by decide +kernel
theorem dX1_run_27 : decode cX1_run 27 = .ok (.iconst 0, 1) := by decide +kernel
theorem dX1_run_28 : decode cX1_run 28 = .ok (.istore_n 2, 1) := by decide +kernel
theorem dX1_run_29 : decode cX1_run 29 = .ok (.iload_n 2, 1) := by decide +kernel
theorem dX1_run_30 : decode cX1_run 30 = .ok (.aload_n 0, 1) := by decide +kernel
theorem dX1_run_31 : decode cX1_run 31 = .ok (.getfield 59, 3) := by decide +kernel
theorem dX1_run_34 : decode cX1_run 34 = .ok (.if_icmp .ge 28, 3) := by decide +kernel
theorem dX1_run_37 : decode cX1_run 37 = .ok (.aload_n 0, 1) := by decide +kernel
theorem dX1_run_38 : decode cX1_run 38 = .ok (.getfield 15, 3) := by decide +kernel
theorem dX1_run_41 : decode cX1_run 41 = .ok (.iload_n 2, 1) := by decide +kernel
theorem dX1_run_42 : decode cX1_run 42 = .ok (.aload_n 0, 1) := by decide +kernel
theorem dX1_run_43 : decode cX1_run 43 = .ok (.getfield 30, 3) := by decide +kernel
theorem dX1_run_46 : decode cX1_run 46 = .ok (.aload_n 0, 1) := by decide +kernel
theorem dX1_run_47 : decode cX1_run 47 = .ok (.getfield 9, 3) := by decide +kernel
theorem dX1_run_50 : decode cX1_run 50 = .ok (.iload_n 2, 1) := by decide +kernel
theorem dX1_run_51 : decode cX1_run 51 = .ok (.iaload, 1) := by decide +kernel
theorem dX1_run_52 : decode cX1_run 52 = .ok (.invokevirtual 62, 3) := by decide +kernel
theorem dX1_run_55 : decode cX1_run 55 = .ok (.iastore, 1) := by decide +kernel
theorem dX1_run_56 : decode cX1_run 56 = .ok (.iinc 2 1, 3) := by decide +kernel
theorem dX1_run_59 : decode cX1_run 59 = .ok (.goto (-30), 3) := by decide +kernel
theorem dX1_run_62 : decode cX1_run 62 = .ok (.aload_n 0, 1) := by decide +kernel
theorem dX1_run_63 : decode cX1_run 63 = .ok (.iconst 0, 1) := by decide +kernel
theorem dX1_run_64 : decode cX1_run 64 = .ok (.iconst 0, 1) := by decide +kernel
theorem dX1_run_65 : decode cX1_run 65 = .ok (.invokevirtual 66, 3) := by decide +kernel
theorem dX1_run_68 : decode cX1_run 68 = .ok (.istore_n 2, 1) := by decide +kernel
theorem dX1_run_69 : decode cX1_run 69 = .ok (.aload_n 0, 1) := by decide +kernel
theorem dX1_run_70 : decode cX1_run 70 = .ok (.iload_n 2, 1) := by decide +kernel
theorem dX1_run_71 : decode cX1_run 71 = .ok (.invokevirtual 70, 3) := by decide +kernel
theorem dX1_run_74 : decode cX1_run 74 = .ok (.aload_n 0, 1) := by decide +kernel
theorem dX1_run_75 : decode cX1_run 75 = .ok (.getfield 59, 3) := by decide +kernel
theorem dX1_run_78 : decode cX1_run 78 = .ok (.iload_n 2, 1) := by decide +kernel
theorem dX1_run_79 : decode cX1_run 79 = .ok (.isub, 1) := by decide +kernel
theorem dX1_run_80 : decode cX1_run 80 = .ok (.ireturn, 1) := by decide +kernel
theorem dX1_emptyHouse_0 : decode cX1_emptyHouse 0 = .ok (.aload_n 0, 1) := by decide +kernel
theorem dX1_emptyHouse_1 : decode cX1_emptyHouse 1 = .ok (.iconst 0, 1) := by decide +kernel
theorem dX1_emptyHouse_2 : decode cX1_emptyHouse 2 = .ok (.putfield 59, 3) := by decide +kernel
theorem dX1_emptyHouse_5 : decode cX1_emptyHouse 5 = .ok (.iconst 0, 1) := by decide +kernel
theorem dX1_emptyHouse_6 : decode cX1_emptyHouse 6 = .ok (.istore_n 2, 1) := by decide +kernel
theorem dX1_emptyHouse_7 : decode cX1_emptyHouse 7 = .ok (.iload_n 2, 1) := by decide +kernel
theorem dX1_emptyHouse_8 : decode cX1_emptyHouse 8 = .ok (.aload_n 0, 1) := by decide +kernel
theorem dX1_emptyHouse_9 : decode cX1_emptyHouse 9 = .ok (.getfield 40, 3) := by decide +kernel
theorem dX1_emptyHouse_12 : decode cX1_emptyHouse 12 = .ok (.getfield 73, 3) := by decide +kernel
theorem dX1_emptyHouse_15 : decode cX1_emptyHouse 15 = .ok (.if_icmp .ge 65, 3) := by decide +kernel
theorem dX1_emptyHouse_18 : decode cX1_emptyHouse 18 = .ok (.aload_n 0, 1) := by decide +kernel
theorem dX1_emptyHouse_19 : decode cX1_emptyHouse 19 = .ok (.getfield 59, 3) := by decide +kernel
theorem dX1_emptyHouse_22 : decode cX1_emptyHouse 22 = .ok (.bipush 16, 2) := by decide +kernel
theorem dX1_emptyHouse_24 : decode cX1_emptyHouse 24 = .ok (.if_icmp .ge 50, 3) := by decide +kernel
theorem dX1_emptyHouse_27 : decode cX1_emptyHouse 27 = .ok (.aload_n 0, 1) := by decide +kernel
theorem dX1_emptyHouse_28 : decode cX1_emptyHouse 28 = .ok (.getfield 45, 3) := by decide +kernel
theorem dX1_emptyHouse_31 : decode cX1_emptyHouse 31 = .ok (.aload_n 0, 1) := by decide +kernel
theorem dX1_emptyHouse_32 : decode cX1_emptyHouse 32 = .ok (.getfield 40, 3) := by decide +kernel
theorem dX1_emptyHouse_35 : decode cX1_emptyHouse 35 = .ok (.iload_n 2, 1) := by decide +kernel
theorem dX1_emptyHouse_36 : decode cX1_emptyHouse 36 = .ok (.invokevirtual 78, 3) := by decide +kernel
theorem dX1_emptyHouse_39 : decode cX1_emptyHouse 39 = .ok (.invokevirtual 81, 3) := by decide +kernel
theorem dX1_emptyHouse_42 : decode cX1_emptyHouse 42 = .ok (.iload_n 1, 1) := by decide +kernel
theorem dX1_emptyHouse_43 : decode cX1_emptyHouse 43 = .ok (.if_icmp .ne 31, 3) := by decide +kernel
theorem dX1_emptyHouse_46 : decode cX1_emptyHouse 46 = .ok (.aload_n 0, 1) := by decide +kernel
theorem dX1_emptyHouse_47 : decode cX1_emptyHouse 47 = .ok (.getfield 9, 3) := by decide +kernel
theorem dX1_emptyHouse_50 : decode cX1_emptyHouse 50 = .ok (.aload_n 0, 1) := by decide +kernel
theorem dX1_emptyHouse_51 : decode cX1_emptyHouse 51 = .ok (.getfield 59, 3) := by decide +kernel
theorem dX1_emptyHouse_54 : decode cX1_emptyHouse 54 = .ok (.iload_n 2, 1) := by decide +kernel
theorem dX1_emptyHouse_55 : decode cX1_emptyHouse 55 = .ok (.iastore, 1) := by decide +kernel
theorem dX1_emptyHouse_56 : decode cX1_emptyHouse 56 = .ok (.aload_n 0, 1) := by decide +kernel
theorem dX1_emptyHouse_57 : decode cX1_emptyHouse 57 = .ok (.dup, 1) := by decide +kernel
theorem dX1_emptyHouse_58 : decode cX1_emptyHouse 58 = .ok (.getfield 59, 3) := by decide +kernel
theorem dX1_emptyHouse_61 : decode cX1_emptyHouse 61 = .ok (.iconst 1, 1) := by decide +kernel
theorem dX1_emptyHouse_62 : decode cX1_emptyHouse 62 = .ok (.iadd, 1) := by decide +kernel
theorem dX1_emptyHouse_63 : decode cX1_emptyHouse 63 = .ok (.putfield 59, 3) := by decide +kernel
theorem dX1_emptyHouse_66 : decode cX1_emptyHouse 66 = .ok (.aload_n 0, 1) := by decide +kernel
theorem dX1_emptyHouse_67 : decode cX1_emptyHouse 67 = .ok (.getfield 30, 3) := by decide +kernel
theorem dX1_emptyHouse_70 : decode cX1_emptyHouse 70 = .ok (.iload_n 2, 1) := by decide +kernel
theorem dX1_emptyHouse_71 : decode cX1_emptyHouse 71 = .ok (.invokevirtual 84, 3) := by decide +kernel
theorem dX1_emptyHouse_74 : decode cX1_emptyHouse 74 = .ok (.iinc 2 1, 3) := by decide +kernel
theorem dX1_emptyHouse_77 : decode cX1_emptyHouse 77 = .ok (.goto (-70), 3) := by decide +kernel
theorem dX1_emptyHouse_80 : decode cX1_emptyHouse 80 = .ok (.return_, 1) := by decide +kernel
theorem dX1_settleMovers_0 : decode cX1_settleMovers 0 = .ok (.iload_n 1, 1) := by decide +kernel
theorem dX1_settleMovers_1 : decode cX1_settleMovers 1 = .ok (.istore_n 2, 1) := by decide +kernel
theorem dX1_settleMovers_2 : decode cX1_settleMovers 2 = .ok (.iconst 0, 1) := by decide +kernel
theorem dX1_settleMovers_3 : decode cX1_settleMovers 3 = .ok (.istore_n 3, 1) := by decide +kernel
theorem dX1_settleMovers_4 : decode cX1_settleMovers 4 = .ok (.iconst 0, 1) := by decide +kernel
theorem dX1_settleMovers_5 : decode cX1_settleMovers 5 = .ok (.istore 4, 2) := by decide +kernel
theorem dX1_settleMovers_7 : decode cX1_settleMovers 7 = .ok (.iload 4, 2) := by decide +kernel
theorem dX1_settleMovers_9 : decode cX1_settleMovers 9 = .ok (.aload_n 0, 1) := by decide +kernel
theorem dX1_settleMovers_10 : decode cX1_settleMovers 10 = .ok (.getfield 59, 3) := by decide +kernel
theorem dX1_settleMovers_13 : decode cX1_settleMovers 13 = .ok (.if_icmp .ge 51, 3) := by decide +kernel
theorem dX1_settleMovers_16 : decode cX1_settleMovers 16 = .ok (.aload_n 0, 1) := by decide +kernel
theorem dX1_settleMovers_17 : decode cX1_settleMovers 17 = .ok (.iload 4, 2) := by decide +kernel
theorem dX1_settleMovers_19 : decode cX1_settleMovers 19 = .ok (.iload_n 3, 1) := by decide +kernel
theorem dX1_settleMovers_20 : decode cX1_settleMovers 20 = .ok (.iload_n 2, 1) := by decide +kernel
theorem dX1_settleMovers_21 : decode cX1_settleMovers 21 = .ok (.invokevirtual 87, 3) := by decide +kernel
theorem dX1_settleMovers_24 : decode cX1_settleMovers 24 = .ok (.istore 5, 2) := by decide +kernel
theorem dX1_settleMovers_26 : decode cX1_settleMovers 26 = .ok (.iload 5, 2) := by decide +kernel
theorem dX1_settleMovers_28 : decode cX1_settleMovers 28 = .ok (.iconst (-1), 1) := by decide +kernel
theorem dX1_settleMovers_29 : decode cX1_settleMovers 29 = .ok (.if_icmp .eq 29, 3) := by decide +kernel
theorem dX1_settleMovers_32 : decode cX1_settleMovers 32 = .ok (.aload_n 0, 1) := by decide +kernel
theorem dX1_settleMovers_33 : decode cX1_settleMovers 33 = .ok (.getfield 30, 3) := by decide +kernel
theorem dX1_settleMovers_36 : decode cX1_settleMovers 36 = .ok (.aload_n 0, 1) := by decide +kernel
theorem dX1_settleMovers_37 : decode cX1_settleMovers 37 = .ok (.getfield 9, 3) := by decide +kernel
theorem dX1_settleMovers_40 : decode cX1_settleMovers 40 = .ok (.iload 4, 2) := by decide +kernel
theorem dX1_settleMovers_42 : decode cX1_settleMovers 42 = .ok (.iaload, 1) := by decide +kernel
theorem dX1_settleMovers_43 : decode cX1_settleMovers 43 = .ok (.iload 5, 2) := by decide +kernel
theorem dX1_settleMovers_45 : decode cX1_settleMovers 45 = .ok (.invokevirtual 91, 3) := by decide +kernel
theorem dX1_settleMovers_48 : decode cX1_settleMovers 48 = .ok (.iload_n 3, 1) := by decide +kernel
theorem dX1_settleMovers_49 : decode cX1_settleMovers 49 = .ok (.iconst 1, 1) := by decide +kernel
theorem dX1_settleMovers_50 : decode cX1_settleMovers 50 = .ok (.iload 5, 2) := by decide +kernel
theorem dX1_settleMovers_52 : decode cX1_settleMovers 52 = .ok (.ishl, 1) := by decide +kernel
theorem dX1_settleMovers_53 : decode cX1_settleMovers 53 = .ok (.ior, 1) := by decide +kernel
theorem dX1_settleMovers_54 : decode cX1_settleMovers 54 = .ok (.istore_n 3, 1) := by decide +kernel
theorem dX1_settleMovers_55 : decode cX1_settleMovers 55 = .ok (.iinc 2 (-1), 3) := by decide +kernel
theorem dX1_settleMovers_58 : decode cX1_settleMovers 58 = .ok (.iinc 4 1, 3) := by decide +kernel
theorem dX1_settleMovers_61 : decode cX1_settleMovers 61 = .ok (.goto (-54), 3) := by decide +kernel
theorem dX1_settleMovers_64 : decode cX1_settleMovers 64 = .ok (.return_, 1) := by decide +kernel
theorem dX1_leastRoom_0 : decode cX1_leastRoom 0 = .ok (.iconst 0, 1) := by decide +kernel
theorem dX1_leastRoom_1 : decode cX1_leastRoom 1 = .ok (.istore 4, 2) := by decide +kernel
theorem dX1_leastRoom_3 : decode cX1_leastRoom 3 = .ok (.iload 4, 2) := by decide +kernel
theorem dX1_leastRoom_5 : decode cX1_leastRoom 5 = .ok (.aload_n 0, 1) := by decide +kernel
theorem dX1_leastRoom_6 : decode cX1_leastRoom 6 = .ok (.getfield 45, 3) := by decide +kernel
theorem dX1_leastRoom_9 : decode cX1_leastRoom 9 = .ok (.getfield 95, 3) := by decide +kernel
theorem dX1_leastRoom_12 : decode cX1_leastRoom 12 = .ok (.if_icmp .ge 53, 3) := by decide +kernel
theorem dX1_leastRoom_15 : decode cX1_leastRoom 15 = .ok (.aload_n 0, 1) := by decide +kernel
theorem dX1_leastRoom_16 : decode cX1_leastRoom 16 = .ok (.getfield 15, 3) := by decide +kernel
theorem dX1_leastRoom_19 : decode cX1_leastRoom 19 = .ok (.iload_n 1, 1) := by decide +kernel
theorem dX1_leastRoom_20 : decode cX1_leastRoom 20 = .ok (.iaload, 1) := by decide +kernel
theorem dX1_leastRoom_21 : decode cX1_leastRoom 21 = .ok (.iload_n 2, 1) := by decide +kernel
theorem dX1_leastRoom_22 : decode cX1_leastRoom 22 = .ok (.iconst (-1), 1) := by decide +kernel
theorem dX1_leastRoom_23 : decode cX1_leastRoom 23 = .ok (.ixor, 1) := by decide +kernel
theorem dX1_leastRoom_24 : decode cX1_leastRoom 24 = .ok (.iand, 1) := by decide +kernel
theorem dX1_leastRoom_25 : decode cX1_leastRoom 25 = .ok (.iload 4, 2) := by decide +kernel
theorem dX1_leastRoom_27 : decode cX1_leastRoom 27 = .ok (.invokestatic 96, 3) := by decide +kernel
theorem dX1_leastRoom_30 : decode cX1_leastRoom 30 = .ok (.istore 5, 2) := by decide +kernel
theorem dX1_leastRoom_32 : decode cX1_leastRoom 32 = .ok (.iload 5, 2) := by decide +kernel
theorem dX1_leastRoom_34 : decode cX1_leastRoom 34 = .ok (.ifCond .eq 25, 3) := by decide +kernel
theorem dX1_leastRoom_37 : decode cX1_leastRoom 37 = .ok (.iconst 1, 1) := by decide +kernel
theorem dX1_leastRoom_38 : decode cX1_leastRoom 38 = .ok (.aload_n 0, 1) := by decide +kernel
theorem dX1_leastRoom_39 : decode cX1_leastRoom 39 = .ok (.iload_n 1, 1) := by decide +kernel
theorem dX1_leastRoom_40 : decode cX1_leastRoom 40 = .ok (.iconst 1, 1) := by decide +kernel
theorem dX1_leastRoom_41 : decode cX1_leastRoom 41 = .ok (.iadd, 1) := by decide +kernel
theorem dX1_leastRoom_42 : decode cX1_leastRoom 42 = .ok (.iload_n 2, 1) := by decide +kernel
theorem dX1_leastRoom_43 : decode cX1_leastRoom 43 = .ok (.iconst 1, 1) := by decide +kernel
theorem dX1_leastRoom_44 : decode cX1_leastRoom 44 = .ok (.iload 4, 2) := by decide +kernel
theorem dX1_leastRoom_46 : decode cX1_leastRoom 46 = .ok (.ishl, 1) := by decide +kernel
theorem dX1_leastRoom_47 : decode cX1_leastRoom 47 = .ok (.ior, 1) := by decide +kernel
theorem dX1_leastRoom_48 : decode cX1_leastRoom 48 = .ok (.invokevirtual 66, 3) := by decide +kernel
theorem dX1_leastRoom_51 : decode cX1_leastRoom 51 = .ok (.iadd, 1) := by decide +kernel
theorem dX1_leastRoom_52 : decode cX1_leastRoom 52 = .ok (.iload_n 3, 1) := by decide +kernel
theorem dX1_leastRoom_53 : decode cX1_leastRoom 53 = .ok (.if_icmp .ne 6, 3) := by decide +kernel
theorem dX1_leastRoom_56 : decode cX1_leastRoom 56 = .ok (.iload 4, 2) := by decide +kernel
theorem dX1_leastRoom_58 : decode cX1_leastRoom 58 = .ok (.ireturn, 1) := by decide +kernel
theorem dX1_leastRoom_59 : decode cX1_leastRoom 59 = .ok (.iinc 4 1, 3) := by decide +kernel
theorem dX1_leastRoom_62 : decode cX1_leastRoom 62 = .ok (.goto (-59), 3) := by decide +kernel
theorem dX1_leastRoom_65 : decode cX1_leastRoom 65 = .ok (.iconst (-1), 1) := by decide +kernel
theorem dX1_leastRoom_66 : decode cX1_leastRoom 66 = .ok (.ireturn, 1) := by decide +kernel
theorem dX1_mostFrom_0 : decode cX1_mostFrom 0 = .ok (.aload_n 0, 1) := by decide +kernel
theorem dX1_mostFrom_1 : decode cX1_mostFrom 1 = .ok (.getfield 18, 3) := by decide +kernel
theorem dX1_mostFrom_4 : decode cX1_mostFrom 4 = .ok (.iconst (-1), 1) := by decide +kernel
theorem dX1_mostFrom_5 : decode cX1_mostFrom 5 = .ok (.invokestatic 100, 3) := by decide +kernel
theorem dX1_mostFrom_8 : decode cX1_mostFrom 8 = .ok (.aload_n 0, 1) := by decide +kernel
theorem dX1_mostFrom_9 : decode cX1_mostFrom 9 = .ok (.getfield 21, 3) := by decide +kernel
theorem dX1_mostFrom_12 : decode cX1_mostFrom 12 = .ok (.iconst (-1), 1) := by decide +kernel
theorem dX1_mostFrom_13 : decode cX1_mostFrom 13 = .ok (.invokestatic 100, 3) := by decide +kernel
theorem dX1_mostFrom_16 : decode cX1_mostFrom 16 = .ok (.iconst 0, 1) := by decide +kernel
theorem dX1_mostFrom_17 : decode cX1_mostFrom 17 = .ok (.istore_n 3, 1) := by decide +kernel
theorem dX1_mostFrom_18 : decode cX1_mostFrom 18 = .ok (.iload_n 1, 1) := by decide +kernel
theorem dX1_mostFrom_19 : decode cX1_mostFrom 19 = .ok (.istore 4, 2) := by decide +kernel
theorem dX1_mostFrom_21 : decode cX1_mostFrom 21 = .ok (.iload 4, 2) := by decide +kernel
theorem dX1_mostFrom_23 : decode cX1_mostFrom 23 = .ok (.aload_n 0, 1) := by decide +kernel
theorem dX1_mostFrom_24 : decode cX1_mostFrom 24 = .ok (.getfield 59, 3) := by decide +kernel
theorem dX1_mostFrom_27 : decode cX1_mostFrom 27 = .ok (.if_icmp .ge 33, 3) := by decide +kernel
theorem dX1_mostFrom_30 : decode cX1_mostFrom 30 = .ok (.aload_n 0, 1) := by decide +kernel
theorem dX1_mostFrom_31 : decode cX1_mostFrom 31 = .ok (.iload 4, 2) := by decide +kernel
theorem dX1_mostFrom_33 : decode cX1_mostFrom 33 = .ok (.iload_n 2, 1) := by decide +kernel
theorem dX1_mostFrom_34 : decode cX1_mostFrom 34 = .ok (.invokevirtual 106, 3) := by decide +kernel
theorem dX1_mostFrom_37 : decode cX1_mostFrom 37 = .ok (.istore 5, 2) := by decide +kernel
theorem dX1_mostFrom_39 : decode cX1_mostFrom 39 = .ok (.iload 5, 2) := by decide +kernel
theorem dX1_mostFrom_41 : decode cX1_mostFrom 41 = .ok (.iconst (-1), 1) := by decide +kernel
theorem dX1_mostFrom_42 : decode cX1_mostFrom 42 = .ok (.if_icmp .eq 12, 3) := by decide +kernel
theorem dX1_mostFrom_45 : decode cX1_mostFrom 45 = .ok (.aload_n 0, 1) := by decide +kernel
theorem dX1_mostFrom_46 : decode cX1_mostFrom 46 = .ok (.iload 5, 2) := by decide +kernel
theorem dX1_mostFrom_48 : decode cX1_mostFrom 48 = .ok (.invokevirtual 109, 3) := by decide +kernel
theorem dX1_mostFrom_51 : decode cX1_mostFrom 51 = .ok (.iinc 3 1, 3) := by decide +kernel
theorem dX1_mostFrom_54 : decode cX1_mostFrom 54 = .ok (.iinc 4 1, 3) := by decide +kernel
theorem dX1_mostFrom_57 : decode cX1_mostFrom 57 = .ok (.goto (-36), 3) := by decide +kernel
theorem dX1_mostFrom_60 : decode cX1_mostFrom 60 = .ok (.iload_n 3, 1) := by decide +kernel
theorem dX1_mostFrom_61 : decode cX1_mostFrom 61 = .ok (.ireturn, 1) := by decide +kernel
theorem dX1_findRoom_0 : decode cX1_findRoom 0 = .ok (.iload_n 2, 1) := by decide +kernel
theorem dX1_findRoom_1 : decode cX1_findRoom 1 = .ok (.istore_n 3, 1) := by decide +kernel
theorem dX1_findRoom_2 : decode cX1_findRoom 2 = .ok (.iconst 1, 1) := by decide +kernel
theorem dX1_findRoom_3 : decode cX1_findRoom 3 = .ok (.istore 4, 2) := by decide +kernel
theorem dX1_findRoom_5 : decode cX1_findRoom 5 = .ok (.aload_n 0, 1) := by decide +kernel
theorem dX1_findRoom_6 : decode cX1_findRoom 6 = .ok (.getfield 24, 3) := by decide +kernel
theorem dX1_findRoom_9 : decode cX1_findRoom 9 = .ok (.iconst 0, 1) := by decide +kernel
theorem dX1_findRoom_10 : decode cX1_findRoom 10 = .ok (.iload_n 1, 1) := by decide +kernel
theorem dX1_findRoom_11 : decode cX1_findRoom 11 = .ok (.iastore, 1) := by decide +kernel
theorem dX1_findRoom_12 : decode cX1_findRoom 12 = .ok (.iconst 0, 1) := by decide +kernel
theorem dX1_findRoom_13 : decode cX1_findRoom 13 = .ok (.istore 5, 2) := by decide +kernel
theorem dX1_findRoom_15 : decode cX1_findRoom 15 = .ok (.iload 5, 2) := by decide +kernel
theorem dX1_findRoom_17 : decode cX1_findRoom 17 = .ok (.iload 4, 2) := by decide +kernel
theorem dX1_findRoom_19 : decode cX1_findRoom 19 = .ok (.if_icmp .ge 123, 3) := by decide +kernel
theorem dX1_findRoom_22 : decode cX1_findRoom 22 = .ok (.iload 5, 2) := by decide +kernel
theorem dX1_findRoom_24 : decode cX1_findRoom 24 = .ok (.bipush 16, 2) := by decide +kernel
theorem dX1_findRoom_26 : decode cX1_findRoom 26 = .ok (.if_icmp .ge 116, 3) := by decide +kernel
theorem dX1_findRoom_29 : decode cX1_findRoom 29 = .ok (.aload_n 0, 1) := by decide +kernel
theorem dX1_findRoom_30 : decode cX1_findRoom 30 = .ok (.aload_n 0, 1) := by decide +kernel
theorem dX1_findRoom_31 : decode cX1_findRoom 31 = .ok (.getfield 24, 3) := by decide +kernel
theorem dX1_findRoom_34 : decode cX1_findRoom 34 = .ok (.iload 5, 2) := by decide +kernel
theorem dX1_findRoom_36 : decode cX1_findRoom 36 = .ok (.iaload, 1) := by decide +kernel
theorem dX1_findRoom_37 : decode cX1_findRoom 37 = .ok (.invokevirtual 112, 3) := by decide +kernel
theorem dX1_findRoom_40 : decode cX1_findRoom 40 = .ok (.istore 6, 2) := by decide +kernel
theorem dX1_findRoom_42 : decode cX1_findRoom 42 = .ok (.iconst 0, 1) := by decide +kernel
theorem dX1_findRoom_43 : decode cX1_findRoom 43 = .ok (.istore 7, 2) := by decide +kernel
theorem dX1_findRoom_45 : decode cX1_findRoom 45 = .ok (.iload 7, 2) := by decide +kernel
theorem dX1_findRoom_47 : decode cX1_findRoom 47 = .ok (.aload_n 0, 1) := by decide +kernel
theorem dX1_findRoom_48 : decode cX1_findRoom 48 = .ok (.getfield 45, 3) := by decide +kernel
theorem dX1_findRoom_51 : decode cX1_findRoom 51 = .ok (.getfield 95, 3) := by decide +kernel
theorem dX1_findRoom_54 : decode cX1_findRoom 54 = .ok (.if_icmp .ge 82, 3) := by decide +kernel
theorem dX1_findRoom_57 : decode cX1_findRoom 57 = .ok (.iload 6, 2) := by decide +kernel
theorem dX1_findRoom_59 : decode cX1_findRoom 59 = .ok (.iload_n 3, 1) := by decide +kernel
theorem dX1_findRoom_60 : decode cX1_findRoom 60 = .ok (.iconst (-1), 1) := by decide +kernel
theorem dX1_findRoom_61 : decode cX1_findRoom 61 = .ok (.ixor, 1) := by decide +kernel
theorem dX1_findRoom_62 : decode cX1_findRoom 62 = .ok (.iand, 1) := by decide +kernel
theorem dX1_findRoom_63 : decode cX1_findRoom 63 = .ok (.iload 7, 2) := by decide +kernel
theorem dX1_findRoom_65 : decode cX1_findRoom 65 = .ok (.invokestatic 96, 3) := by decide +kernel
theorem dX1_findRoom_68 : decode cX1_findRoom 68 = .ok (.ifCond .eq 62, 3) := by decide +kernel
theorem dX1_findRoom_71 : decode cX1_findRoom 71 = .ok (.iload_n 3, 1) := by decide +kernel
theorem dX1_findRoom_72 : decode cX1_findRoom 72 = .ok (.iconst 1, 1) := by decide +kernel
theorem dX1_findRoom_73 : decode cX1_findRoom 73 = .ok (.iload 7, 2) := by decide +kernel
theorem dX1_findRoom_75 : decode cX1_findRoom 75 = .ok (.ishl, 1) := by decide +kernel
theorem dX1_findRoom_76 : decode cX1_findRoom 76 = .ok (.ior, 1) := by decide +kernel
theorem dX1_findRoom_77 : decode cX1_findRoom 77 = .ok (.istore_n 3, 1) := by decide +kernel
theorem dX1_findRoom_78 : decode cX1_findRoom 78 = .ok (.aload_n 0, 1) := by decide +kernel
theorem dX1_findRoom_79 : decode cX1_findRoom 79 = .ok (.getfield 27, 3) := by decide +kernel
theorem dX1_findRoom_82 : decode cX1_findRoom 82 = .ok (.iload 7, 2) := by decide +kernel
theorem dX1_findRoom_84 : decode cX1_findRoom 84 = .ok (.aload_n 0, 1) := by decide +kernel
theorem dX1_findRoom_85 : decode cX1_findRoom 85 = .ok (.getfield 24, 3) := by decide +kernel
theorem dX1_findRoom_88 : decode cX1_findRoom 88 = .ok (.iload 5, 2) := by decide +kernel
theorem dX1_findRoom_90 : decode cX1_findRoom 90 = .ok (.iaload, 1) := by decide +kernel
theorem dX1_findRoom_91 : decode cX1_findRoom 91 = .ok (.iastore, 1) := by decide +kernel
theorem dX1_findRoom_92 : decode cX1_findRoom 92 = .ok (.aload_n 0, 1) := by decide +kernel
theorem dX1_findRoom_93 : decode cX1_findRoom 93 = .ok (.getfield 18, 3) := by decide +kernel
theorem dX1_findRoom_96 : decode cX1_findRoom 96 = .ok (.iload 7, 2) := by decide +kernel
theorem dX1_findRoom_98 : decode cX1_findRoom 98 = .ok (.iaload, 1) := by decide +kernel
theorem dX1_findRoom_99 : decode cX1_findRoom 99 = .ok (.iconst (-1), 1) := by decide +kernel
theorem dX1_findRoom_100 : decode cX1_findRoom 100 = .ok (.if_icmp .ne 6, 3) := by decide +kernel
theorem dX1_findRoom_103 : decode cX1_findRoom 103 = .ok (.iload 7, 2) := by decide +kernel
theorem dX1_findRoom_105 : decode cX1_findRoom 105 = .ok (.ireturn, 1) := by decide +kernel
theorem dX1_findRoom_106 : decode cX1_findRoom 106 = .ok (.iload 4, 2) := by decide +kernel
theorem dX1_findRoom_108 : decode cX1_findRoom 108 = .ok (.bipush 16, 2) := by decide +kernel
theorem dX1_findRoom_110 : decode cX1_findRoom 110 = .ok (.if_icmp .ge 20, 3) := by decide +kernel
theorem dX1_findRoom_113 : decode cX1_findRoom 113 = .ok (.aload_n 0, 1) := by decide +kernel
theorem dX1_findRoom_114 : decode cX1_findRoom 114 = .ok (.getfield 24, 3) := by decide +kernel
theorem dX1_findRoom_117 : decode cX1_findRoom 117 = .ok (.iload 4, 2) := by decide +kernel
theorem dX1_findRoom_119 : decode cX1_findRoom 119 = .ok (.aload_n 0, 1) := by decide +kernel
theorem dX1_findRoom_120 : decode cX1_findRoom 120 = .ok (.getfield 18, 3) := by decide +kernel
theorem dX1_findRoom_123 : decode cX1_findRoom 123 = .ok (.iload 7, 2) := by decide +kernel
theorem dX1_findRoom_125 : decode cX1_findRoom 125 = .ok (.iaload, 1) := by decide +kernel
theorem dX1_findRoom_126 : decode cX1_findRoom 126 = .ok (.iastore, 1) := by decide +kernel
theorem dX1_findRoom_127 : decode cX1_findRoom 127 = .ok (.iinc 4 1, 3) := by decide +kernel
theorem dX1_findRoom_130 : decode cX1_findRoom 130 = .ok (.iinc 7 1, 3) := by decide +kernel
theorem dX1_findRoom_133 : decode cX1_findRoom 133 = .ok (.goto (-88), 3) := by decide +kernel
theorem dX1_findRoom_136 : decode cX1_findRoom 136 = .ok (.iinc 5 1, 3) := by decide +kernel
theorem dX1_findRoom_139 : decode cX1_findRoom 139 = .ok (.goto (-124), 3) := by decide +kernel
theorem dX1_findRoom_142 : decode cX1_findRoom 142 = .ok (.iconst (-1), 1) := by decide +kernel
theorem dX1_findRoom_143 : decode cX1_findRoom 143 = .ok (.ireturn, 1) := by decide +kernel
theorem dX1_choiceOf_0 : decode cX1_choiceOf 0 = .ok (.iload_n 1, 1) := by decide +kernel
theorem dX1_choiceOf_1 : decode cX1_choiceOf 1 = .ok (.ifCond .lt 20, 3) := by decide +kernel
theorem dX1_choiceOf_4 : decode cX1_choiceOf 4 = .ok (.iload_n 1, 1) := by decide +kernel
theorem dX1_choiceOf_5 : decode cX1_choiceOf 5 = .ok (.aload_n 0, 1) := by decide +kernel
theorem dX1_choiceOf_6 : decode cX1_choiceOf 6 = .ok (.getfield 59, 3) := by decide +kernel
theorem dX1_choiceOf_9 : decode cX1_choiceOf 9 = .ok (.if_icmp .ge 12, 3) := by decide +kernel
theorem dX1_choiceOf_12 : decode cX1_choiceOf 12 = .ok (.aload_n 0, 1) := by decide +kernel
theorem dX1_choiceOf_13 : decode cX1_choiceOf 13 = .ok (.getfield 15, 3) := by decide +kernel
theorem dX1_choiceOf_16 : decode cX1_choiceOf 16 = .ok (.iload_n 1, 1) := by decide +kernel
theorem dX1_choiceOf_17 : decode cX1_choiceOf 17 = .ok (.iaload, 1) := by decide +kernel
theorem dX1_choiceOf_18 : decode cX1_choiceOf 18 = .ok (.goto 4, 3) := by decide +kernel
theorem dX1_choiceOf_21 : decode cX1_choiceOf 21 = .ok (.iconst 0, 1) := by decide +kernel
theorem dX1_choiceOf_22 : decode cX1_choiceOf 22 = .ok (.ireturn, 1) := by decide +kernel
theorem dX1_changeAlong_0 : decode cX1_changeAlong 0 = .ok (.iload_n 1, 1) := by decide +kernel
theorem dX1_changeAlong_1 : decode cX1_changeAlong 1 = .ok (.istore_n 2, 1) := by decide +kernel
theorem dX1_changeAlong_2 : decode cX1_changeAlong 2 = .ok (.iconst 0, 1) := by decide +kernel
theorem dX1_changeAlong_3 : decode cX1_changeAlong 3 = .ok (.istore_n 3, 1) := by decide +kernel
theorem dX1_changeAlong_4 : decode cX1_changeAlong 4 = .ok (.iload_n 3, 1) := by decide +kernel
theorem dX1_changeAlong_5 : decode cX1_changeAlong 5 = .ok (.bipush 16, 2) := by decide +kernel
theorem dX1_changeAlong_7 : decode cX1_changeAlong 7 = .ok (.if_icmp .ge 71, 3) := by decide +kernel
theorem dX1_changeAlong_10 : decode cX1_changeAlong 10 = .ok (.aload_n 0, 1) := by decide +kernel
theorem dX1_changeAlong_11 : decode cX1_changeAlong 11 = .ok (.getfield 45, 3) := by decide +kernel
theorem dX1_changeAlong_14 : decode cX1_changeAlong 14 = .ok (.iload_n 2, 1) := by decide +kernel
theorem dX1_changeAlong_15 : decode cX1_changeAlong 15 = .ok (.invokevirtual 115, 3) := by decide +kernel
theorem dX1_changeAlong_18 : decode cX1_changeAlong 18 = .ok (.ifCond .eq 60, 3) := by decide +kernel
theorem dX1_changeAlong_21 : decode cX1_changeAlong 21 = .ok (.aload_n 0, 1) := by decide +kernel
theorem dX1_changeAlong_22 : decode cX1_changeAlong 22 = .ok (.getfield 27, 3) := by decide +kernel
theorem dX1_changeAlong_25 : decode cX1_changeAlong 25 = .ok (.iload_n 2, 1) := by decide +kernel
theorem dX1_changeAlong_26 : decode cX1_changeAlong 26 = .ok (.iaload, 1) := by decide +kernel
theorem dX1_changeAlong_27 : decode cX1_changeAlong 27 = .ok (.istore 4, 2) := by decide +kernel
theorem dX1_changeAlong_29 : decode cX1_changeAlong 29 = .ok (.iload 4, 2) := by decide +kernel
theorem dX1_changeAlong_31 : decode cX1_changeAlong 31 = .ok (.ifCond .lt 12, 3) := by decide +kernel
theorem dX1_changeAlong_34 : decode cX1_changeAlong 34 = .ok (.iload 4, 2) := by decide +kernel
theorem dX1_changeAlong_36 : decode cX1_changeAlong 36 = .ok (.aload_n 0, 1) := by decide +kernel
theorem dX1_changeAlong_37 : decode cX1_changeAlong 37 = .ok (.getfield 59, 3) := by decide +kernel
theorem dX1_changeAlong_40 : decode cX1_changeAlong 40 = .ok (.if_icmp .lt 4, 3) := by decide +kernel
theorem dX1_changeAlong_43 : decode cX1_changeAlong 43 = .ok (.return_, 1) := by decide +kernel
theorem dX1_changeAlong_44 : decode cX1_changeAlong 44 = .ok (.aload_n 0, 1) := by decide +kernel
theorem dX1_changeAlong_45 : decode cX1_changeAlong 45 = .ok (.getfield 21, 3) := by decide +kernel
theorem dX1_changeAlong_48 : decode cX1_changeAlong 48 = .ok (.iload 4, 2) := by decide +kernel
theorem dX1_changeAlong_50 : decode cX1_changeAlong 50 = .ok (.iaload, 1) := by decide +kernel
theorem dX1_changeAlong_51 : decode cX1_changeAlong 51 = .ok (.istore 5, 2) := by decide +kernel
theorem dX1_changeAlong_53 : decode cX1_changeAlong 53 = .ok (.aload_n 0, 1) := by decide +kernel
theorem dX1_changeAlong_54 : decode cX1_changeAlong 54 = .ok (.getfield 18, 3) := by decide +kernel
theorem dX1_changeAlong_57 : decode cX1_changeAlong 57 = .ok (.iload_n 2, 1) := by decide +kernel
theorem dX1_changeAlong_58 : decode cX1_changeAlong 58 = .ok (.iload 4, 2) := by decide +kernel
theorem dX1_changeAlong_60 : decode cX1_changeAlong 60 = .ok (.iastore, 1) := by decide +kernel
theorem dX1_changeAlong_61 : decode cX1_changeAlong 61 = .ok (.aload_n 0, 1) := by decide +kernel
theorem dX1_changeAlong_62 : decode cX1_changeAlong 62 = .ok (.getfield 21, 3) := by decide +kernel
theorem dX1_changeAlong_65 : decode cX1_changeAlong 65 = .ok (.iload 4, 2) := by decide +kernel
theorem dX1_changeAlong_67 : decode cX1_changeAlong 67 = .ok (.iload_n 2, 1) := by decide +kernel
theorem dX1_changeAlong_68 : decode cX1_changeAlong 68 = .ok (.iastore, 1) := by decide +kernel
theorem dX1_changeAlong_69 : decode cX1_changeAlong 69 = .ok (.iload 5, 2) := by decide +kernel
theorem dX1_changeAlong_71 : decode cX1_changeAlong 71 = .ok (.istore_n 2, 1) := by decide +kernel
theorem dX1_changeAlong_72 : decode cX1_changeAlong 72 = .ok (.iinc 3 1, 3) := by decide +kernel
theorem dX1_changeAlong_75 : decode cX1_changeAlong 75 = .ok (.goto (-71), 3) := by decide +kernel
theorem dX1_changeAlong_78 : decode cX1_changeAlong 78 = .ok (.return_, 1) := by decide +kernel
theorem dX2_init_0 : decode cX2_init 0 = .ok (.aload_n 0, 1) := by decide +kernel
theorem dX2_init_1 : decode cX2_init 1 = .ok (.invokespecial 3, 3) := by decide +kernel
theorem dX2_init_4 : decode cX2_init 4 = .ok (.aload_n 0, 1) := by decide +kernel
theorem dX2_init_5 : decode cX2_init 5 = .ok (.sipush 960, 3) := by decide +kernel
theorem dX2_init_8 : decode cX2_init 8 = .ok (.newarray .int, 2) := by decide +kernel
theorem dX2_init_10 : decode cX2_init 10 = .ok (.putfield 9, 3) := by decide +kernel
theorem dX2_init_13 : decode cX2_init 13 = .ok (.aload_n 0, 1) := by decide +kernel
theorem dX2_init_14 : decode cX2_init 14 = .ok (.getfield 9, 3) := by decide +kernel
theorem dX2_init_17 : decode cX2_init 17 = .ok (.iconst (-1), 1) := by decide +kernel
theorem dX2_init_18 : decode cX2_init 18 = .ok (.invokestatic 15, 3) := by decide +kernel
theorem dX2_init_21 : decode cX2_init 21 = .ok (.return_, 1) := by decide +kernel
theorem dX2_keepOne_0 : decode cX2_keepOne 0 = .ok (.aload_n 0, 1) := by decide +kernel
theorem dX2_keepOne_1 : decode cX2_keepOne 1 = .ok (.getfield 21, 3) := by decide +kernel
theorem dX2_keepOne_4 : decode cX2_keepOne 4 = .ok (.bipush 60, 2) := by decide +kernel
theorem dX2_keepOne_6 : decode cX2_keepOne 6 = .ok (.if_icmp .lt 4, 3) := by decide +kernel
theorem dX2_keepOne_9 : decode cX2_keepOne 9 = .ok (.return_, 1) := by decide +kernel
theorem dX2_keepOne_10 : decode cX2_keepOne 10 = .ok (.iconst 0, 1) := by decide +kernel
theorem dX2_keepOne_11 : decode cX2_keepOne 11 = .ok (.istore_n 2, 1) := by decide +kernel
theorem dX2_keepOne_12 : decode cX2_keepOne 12 = .ok (.iload_n 2, 1) := by decide +kernel
theorem dX2_keepOne_13 : decode cX2_keepOne 13 = .ok (.aload_n 1, 1) := by decide +kernel
theorem dX2_keepOne_14 : decode cX2_keepOne 14 = .ok (.getfield 25, 3) := by decide +kernel
theorem dX2_keepOne_17 : decode cX2_keepOne 17 = .ok (.if_icmp .ge 54, 3) := by decide +kernel
theorem dX2_keepOne_20 : decode cX2_keepOne 20 = .ok (.aload_n 1, 1) := by decide +kernel
theorem dX2_keepOne_21 : decode cX2_keepOne 21 = .ok (.iload_n 2, 1) := by decide +kernel
theorem dX2_keepOne_22 : decode cX2_keepOne 22 = .ok (.invokevirtual 30, 3) := by decide +kernel
theorem dX2_keepOne_25 : decode cX2_keepOne 25 = .ok (.istore_n 3, 1) := by decide +kernel
theorem dX2_keepOne_26 : decode cX2_keepOne 26 = .ok (.aload_n 0, 1) := by decide +kernel
theorem dX2_keepOne_27 : decode cX2_keepOne 27 = .ok (.getfield 9, 3) := by decide +kernel
theorem dX2_keepOne_30 : decode cX2_keepOne 30 = .ok (.iload_n 2, 1) := by decide +kernel
theorem dX2_keepOne_31 : decode cX2_keepOne 31 = .ok (.bipush 60, 2) := by decide +kernel
theorem dX2_keepOne_33 : decode cX2_keepOne 33 = .ok (.imul, 1) := by decide +kernel
theorem dX2_keepOne_34 : decode cX2_keepOne 34 = .ok (.aload_n 0, 1) := by decide +kernel
theorem dX2_keepOne_35 : decode cX2_keepOne 35 = .ok (.getfield 21, 3) := by decide +kernel
theorem dX2_keepOne_38 : decode cX2_keepOne 38 = .ok (.iadd, 1) := by decide +kernel
theorem dX2_keepOne_39 : decode cX2_keepOne 39 = .ok (.iload_n 3, 1) := by decide +kernel
theorem dX2_keepOne_40 : decode cX2_keepOne 40 = .ok (.iastore, 1) := by decide +kernel
theorem dX2_keepOne_41 : decode cX2_keepOne 41 = .ok (.iload_n 3, 1) := by decide +kernel
theorem dX2_keepOne_42 : decode cX2_keepOne 42 = .ok (.iconst (-1), 1) := by decide +kernel
theorem dX2_keepOne_43 : decode cX2_keepOne 43 = .ok (.if_icmp .eq 22, 3) := by decide +kernel
theorem dX2_keepOne_46 : decode cX2_keepOne 46 = .ok (.aload_n 1, 1) := by decide +kernel
theorem dX2_keepOne_47 : decode cX2_keepOne 47 = .ok (.getfield 34, 3) := by decide +kernel
theorem dX2_keepOne_50 : decode cX2_keepOne 50 = .ok (.iload_n 2, 1) := by decide +kernel
theorem dX2_keepOne_51 : decode cX2_keepOne 51 = .ok (.baload, 1) := by decide +kernel
theorem dX2_keepOne_52 : decode cX2_keepOne 52 = .ok (.ifCond .ne 13, 3) := by decide +kernel
theorem dX2_keepOne_55 : decode cX2_keepOne 55 = .ok (.aload_n 1, 1) := by decide +kernel
theorem dX2_keepOne_56 : decode cX2_keepOne 56 = .ok (.getfield 38, 3) := by decide +kernel
theorem dX2_keepOne_59 : decode cX2_keepOne 59 = .ok (.iload_n 2, 1) := by decide +kernel
theorem dX2_keepOne_60 : decode cX2_keepOne 60 = .ok (.dup2, 1) := by decide +kernel
theorem dX2_keepOne_61 : decode cX2_keepOne 61 = .ok (.iaload, 1) := by decide +kernel
theorem dX2_keepOne_62 : decode cX2_keepOne 62 = .ok (.iconst 1, 1) := by decide +kernel
theorem dX2_keepOne_63 : decode cX2_keepOne 63 = .ok (.iadd, 1) := by decide +kernel
theorem dX2_keepOne_64 : decode cX2_keepOne 64 = .ok (.iastore, 1) := by decide +kernel
theorem dX2_keepOne_65 : decode cX2_keepOne 65 = .ok (.iinc 2 1, 3) := by decide +kernel
theorem dX2_keepOne_68 : decode cX2_keepOne 68 = .ok (.goto (-56), 3) := by decide +kernel
theorem dX2_keepOne_71 : decode cX2_keepOne 71 = .ok (.aload_n 0, 1) := by decide +kernel
theorem dX2_keepOne_72 : decode cX2_keepOne 72 = .ok (.dup, 1) := by decide +kernel
theorem dX2_keepOne_73 : decode cX2_keepOne 73 = .ok (.getfield 21, 3) := by decide +kernel
theorem dX2_keepOne_76 : decode cX2_keepOne 76 = .ok (.iconst 1, 1) := by decide +kernel
theorem dX2_keepOne_77 : decode cX2_keepOne 77 = .ok (.iadd, 1) := by decide +kernel
theorem dX2_keepOne_78 : decode cX2_keepOne 78 = .ok (.putfield 21, 3) := by decide +kernel
theorem dX2_keepOne_81 : decode cX2_keepOne 81 = .ok (.return_, 1) := by decide +kernel
theorem dX2_lodgingIn_0 : decode cX2_lodgingIn 0 = .ok (.iload_n 1, 1) := by decide +kernel
theorem dX2_lodgingIn_1 : decode cX2_lodgingIn 1 = .ok (.iconst 0, 1) := by decide +kernel
theorem dX2_lodgingIn_2 : decode cX2_lodgingIn 2 = .ok (.bipush 15, 2) := by decide +kernel
theorem dX2_lodgingIn_4 : decode cX2_lodgingIn 4 = .ok (.invokestatic 41, 3) := by decide +kernel
theorem dX2_lodgingIn_7 : decode cX2_lodgingIn 7 = .ok (.ifCond .eq 21, 3) := by decide +kernel
theorem dX2_lodgingIn_10 : decode cX2_lodgingIn 10 = .ok (.iload_n 2, 1) := by decide +kernel
theorem dX2_lodgingIn_11 : decode cX2_lodgingIn 11 = .ok (.iconst 0, 1) := by decide +kernel
theorem dX2_lodgingIn_12 : decode cX2_lodgingIn 12 = .ok (.aload_n 0, 1) := by decide +kernel
theorem dX2_lodgingIn_13 : decode cX2_lodgingIn 13 = .ok (.getfield 21, 3) := by decide +kernel
theorem dX2_lodgingIn_16 : decode cX2_lodgingIn 16 = .ok (.iconst 1, 1) := by decide +kernel
theorem dX2_lodgingIn_17 : decode cX2_lodgingIn 17 = .ok (.isub, 1) := by decide +kernel
theorem dX2_lodgingIn_18 : decode cX2_lodgingIn 18 = .ok (.invokestatic 41, 3) := by decide +kernel
theorem dX2_lodgingIn_21 : decode cX2_lodgingIn 21 = .ok (.ifCond .eq 7, 3) := by decide +kernel
theorem dX2_lodgingIn_24 : decode cX2_lodgingIn 24 = .ok (.iconst 1, 1) := by decide +kernel
theorem dX2_lodgingIn_25 : decode cX2_lodgingIn 25 = .ok (.goto 4, 3) := by decide +kernel
theorem dX2_lodgingIn_28 : decode cX2_lodgingIn 28 = .ok (.iconst 0, 1) := by decide +kernel
theorem dX2_lodgingIn_29 : decode cX2_lodgingIn 29 = .ok (.istore_n 3, 1) := by decide +kernel
theorem dX2_lodgingIn_30 : decode cX2_lodgingIn 30 = .ok (.iload_n 3, 1) := by decide +kernel
theorem dX2_lodgingIn_31 : decode cX2_lodgingIn 31 = .ok (.ifCond .eq 17, 3) := by decide +kernel
theorem dX2_lodgingIn_34 : decode cX2_lodgingIn 34 = .ok (.aload_n 0, 1) := by decide +kernel
theorem dX2_lodgingIn_35 : decode cX2_lodgingIn 35 = .ok (.getfield 9, 3) := by decide +kernel
theorem dX2_lodgingIn_38 : decode cX2_lodgingIn 38 = .ok (.iload_n 1, 1) := by decide +kernel
theorem dX2_lodgingIn_39 : decode cX2_lodgingIn 39 = .ok (.bipush 60, 2) := by decide +kernel
theorem dX2_lodgingIn_41 : decode cX2_lodgingIn 41 = .ok (.imul, 1) := by decide +kernel
theorem dX2_lodgingIn_42 : decode cX2_lodgingIn 42 = .ok (.iload_n 2, 1) := by decide +kernel
theorem dX2_lodgingIn_43 : decode cX2_lodgingIn 43 = .ok (.iadd, 1) := by decide +kernel
theorem dX2_lodgingIn_44 : decode cX2_lodgingIn 44 = .ok (.iaload, 1) := by decide +kernel
theorem dX2_lodgingIn_45 : decode cX2_lodgingIn 45 = .ok (.goto 4, 3) := by decide +kernel
theorem dX2_lodgingIn_48 : decode cX2_lodgingIn 48 = .ok (.iconst (-1), 1) := by decide +kernel
theorem dX2_lodgingIn_49 : decode cX2_lodgingIn 49 = .ok (.ireturn, 1) := by decide +kernel
theorem dX3_init_0 : decode cX3_init 0 = .ok (.aload_n 0, 1) := by decide +kernel
theorem dX3_init_1 : decode cX3_init 1 = .ok (.invokespecial 3, 3) := by decide +kernel
theorem dX3_init_4 : decode cX3_init 4 = .ok (.aload_n 0, 1) := by decide +kernel
theorem dX3_init_5 : decode cX3_init 5 = .ok (.bipush 16, 2) := by decide +kernel
theorem dX3_init_7 : decode cX3_init 7 = .ok (.newarray .int, 2) := by decide +kernel
theorem dX3_init_9 : decode cX3_init 9 = .ok (.putfield 9, 3) := by decide +kernel
theorem dX3_init_12 : decode cX3_init 12 = .ok (.aload_n 0, 1) := by decide +kernel
theorem dX3_init_13 : decode cX3_init 13 = .ok (.bipush 16, 2) := by decide +kernel
theorem dX3_init_15 : decode cX3_init 15 = .ok (.newarray .int, 2) := by decide +kernel
theorem dX3_init_17 : decode cX3_init 17 = .ok (.putfield 15, 3) := by decide +kernel
theorem dX3_init_20 : decode cX3_init 20 = .ok (.aload_n 0, 1) := by decide +kernel
theorem dX3_init_21 : decode cX3_init 21 = .ok (.bipush 16, 2) := by decide +kernel
theorem dX3_init_23 : decode cX3_init 23 = .ok (.newarray .int, 2) := by decide +kernel
theorem dX3_init_25 : decode cX3_init 25 = .ok (.putfield 18, 3) := by decide +kernel
theorem dX3_init_28 : decode cX3_init 28 = .ok (.aload_n 0, 1) := by decide +kernel
theorem dX3_init_29 : decode cX3_init 29 = .ok (.sipush 128, 3) := by decide +kernel
theorem dX3_init_32 : decode cX3_init 32 = .ok (.newarray .int, 2) := by decide +kernel
theorem dX3_init_34 : decode cX3_init 34 = .ok (.putfield 21, 3) := by decide +kernel
theorem dX3_init_37 : decode cX3_init 37 = .ok (.aload_n 0, 1) := by decide +kernel
theorem dX3_init_38 : decode cX3_init 38 = .ok (.bipush 16, 2) := by decide +kernel
theorem dX3_init_40 : decode cX3_init 40 = .ok (.newarray .int, 2) := by decide +kernel
theorem dX3_init_42 : decode cX3_init 42 = .ok (.putfield 24, 3) := by decide +kernel
theorem dX3_init_45 : decode cX3_init 45 = .ok (.aload_n 0, 1) := by decide +kernel
theorem dX3_init_46 : decode cX3_init 46 = .ok (.bipush 16, 2) := by decide +kernel
theorem dX3_init_48 : decode cX3_init 48 = .ok (.newarray .int, 2) := by decide +kernel
theorem dX3_init_50 : decode cX3_init 50 = .ok (.putfield 27, 3) := by decide +kernel
theorem dX3_init_53 : decode cX3_init 53 = .ok (.aload_n 0, 1) := by decide +kernel
theorem dX3_init_54 : decode cX3_init 54 = .ok (.bipush 16, 2) := by decide +kernel
theorem dX3_init_56 : decode cX3_init 56 = .ok (.newarray .boolean, 2) := by decide +kernel
theorem dX3_init_58 : decode cX3_init 58 = .ok (.putfield 30, 3) := by decide +kernel
theorem dX3_init_61 : decode cX3_init 61 = .ok (.return_, 1) := by decide +kernel
theorem dX3_has_0 : decode cX3_has 0 = .ok (.iload_n 1, 1) := by decide +kernel
theorem dX3_has_1 : decode cX3_has 1 = .ok (.ifCond .lt 15, 3) := by decide +kernel
theorem dX3_has_4 : decode cX3_has 4 = .ok (.iload_n 1, 1) := by decide +kernel
theorem dX3_has_5 : decode cX3_has 5 = .ok (.aload_n 0, 1) := by decide +kernel
theorem dX3_has_6 : decode cX3_has 6 = .ok (.getfield 34, 3) := by decide +kernel
theorem dX3_has_9 : decode cX3_has 9 = .ok (.if_icmp .ge 7, 3) := by decide +kernel
theorem dX3_has_12 : decode cX3_has 12 = .ok (.iconst 1, 1) := by decide +kernel
theorem dX3_has_13 : decode cX3_has 13 = .ok (.goto 4, 3) := by decide +kernel
theorem dX3_has_16 : decode cX3_has 16 = .ok (.iconst 0, 1) := by decide +kernel
theorem dX3_has_17 : decode cX3_has 17 = .ok (.ireturn, 1) := by decide +kernel
theorem dX3_add_0 : decode cX3_add 0 = .ok (.aload_n 0, 1) := by decide +kernel
theorem dX3_add_1 : decode cX3_add 1 = .ok (.getfield 34, 3) := by decide +kernel
theorem dX3_add_4 : decode cX3_add 4 = .ok (.bipush 16, 2) := by decide +kernel
theorem dX3_add_6 : decode cX3_add 6 = .ok (.if_icmp .lt 6, 3) := by decide +kernel
theorem dX3_add_9 : decode cX3_add 9 = .ok (.bipush (-4), 2) := by decide +kernel
theorem dX3_add_11 : decode cX3_add 11 = .ok (.ireturn, 1) := by decide +kernel
theorem dX3_add_12 : decode cX3_add 12 = .ok (.aload_n 0, 1) := by decide +kernel
theorem dX3_add_13 : decode cX3_add 13 = .ok (.getfield 9, 3) := by decide +kernel
theorem dX3_add_16 : decode cX3_add 16 = .ok (.aload_n 0, 1) := by decide +kernel
theorem dX3_add_17 : decode cX3_add 17 = .ok (.getfield 34, 3) := by decide +kernel
theorem dX3_add_20 : decode cX3_add 20 = .ok (.iload_n 1, 1) := by decide +kernel
theorem dX3_add_21 : decode cX3_add 21 = .ok (.iastore, 1) := by decide +kernel
theorem dX3_add_22 : decode cX3_add 22 = .ok (.aload_n 0, 1) := by decide +kernel
theorem dX3_add_23 : decode cX3_add 23 = .ok (.getfield 15, 3) := by decide +kernel
theorem dX3_add_26 : decode cX3_add 26 = .ok (.aload_n 0, 1) := by decide +kernel
theorem dX3_add_27 : decode cX3_add 27 = .ok (.getfield 34, 3) := by decide +kernel
theorem dX3_add_30 : decode cX3_add 30 = .ok (.iload_n 2, 1) := by decide +kernel
theorem dX3_add_31 : decode cX3_add 31 = .ok (.iastore, 1) := by decide +kernel
theorem dX3_add_32 : decode cX3_add 32 = .ok (.aload_n 0, 1) := by decide +kernel
theorem dX3_add_33 : decode cX3_add 33 = .ok (.getfield 24, 3) := by decide +kernel
theorem dX3_add_36 : decode cX3_add 36 = .ok (.aload_n 0, 1) := by decide +kernel
theorem dX3_add_37 : decode cX3_add 37 = .ok (.getfield 34, 3) := by decide +kernel
theorem dX3_add_40 : decode cX3_add 40 = .ok (.iconst (-1), 1) := by decide +kernel
theorem dX3_add_41 : decode cX3_add 41 = .ok (.iastore, 1) := by decide +kernel
theorem dX3_add_42 : decode cX3_add 42 = .ok (.aload_n 0, 1) := by decide +kernel
theorem dX3_add_43 : decode cX3_add 43 = .ok (.dup, 1) := by decide +kernel
theorem dX3_add_44 : decode cX3_add 44 = .ok (.getfield 34, 3) := by decide +kernel
theorem dX3_add_47 : decode cX3_add 47 = .ok (.iconst 1, 1) := by decide +kernel
theorem dX3_add_48 : decode cX3_add 48 = .ok (.iadd, 1) := by decide +kernel
theorem dX3_add_49 : decode cX3_add 49 = .ok (.putfield 34, 3) := by decide +kernel
theorem dX3_add_52 : decode cX3_add 52 = .ok (.aload_n 0, 1) := by decide +kernel
theorem dX3_add_53 : decode cX3_add 53 = .ok (.getfield 34, 3) := by decide +kernel
theorem dX3_add_56 : decode cX3_add 56 = .ok (.iconst 1, 1) := by decide +kernel
theorem dX3_add_57 : decode cX3_add 57 = .ok (.isub, 1) := by decide +kernel
theorem dX3_add_58 : decode cX3_add 58 = .ok (.ireturn, 1) := by decide +kernel
theorem dX3_lodgingOf_0 : decode cX3_lodgingOf 0 = .ok (.aload_n 0, 1) := by decide +kernel
theorem dX3_lodgingOf_1 : decode cX3_lodgingOf 1 = .ok (.iload_n 1, 1) := by decide +kernel
theorem dX3_lodgingOf_2 : decode cX3_lodgingOf 2 = .ok (.invokevirtual 38, 3) := by decide +kernel
theorem dX3_lodgingOf_5 : decode cX3_lodgingOf 5 = .ok (.ifCond .eq 12, 3) := by decide +kernel
theorem dX3_lodgingOf_8 : decode cX3_lodgingOf 8 = .ok (.aload_n 0, 1) := by decide +kernel
theorem dX3_lodgingOf_9 : decode cX3_lodgingOf 9 = .ok (.getfield 24, 3) := by decide +kernel
theorem dX3_lodgingOf_12 : decode cX3_lodgingOf 12 = .ok (.iload_n 1, 1) := by decide +kernel
theorem dX3_lodgingOf_13 : decode cX3_lodgingOf 13 = .ok (.iaload, 1) := by decide +kernel
theorem dX3_lodgingOf_14 : decode cX3_lodgingOf 14 = .ok (.goto 4, 3) := by decide +kernel
theorem dX3_lodgingOf_17 : decode cX3_lodgingOf 17 = .ok (.iconst (-1), 1) := by decide +kernel
theorem dX3_lodgingOf_18 : decode cX3_lodgingOf 18 = .ok (.ireturn, 1) := by decide +kernel
theorem dX3_wishesOf_0 : decode cX3_wishesOf 0 = .ok (.aload_n 0, 1) := by decide +kernel
theorem dX3_wishesOf_1 : decode cX3_wishesOf 1 = .ok (.iload_n 1, 1) := by decide +kernel
theorem dX3_wishesOf_2 : decode cX3_wishesOf 2 = .ok (.invokevirtual 38, 3) := by decide +kernel
theorem dX3_wishesOf_5 : decode cX3_wishesOf 5 = .ok (.ifCond .eq 12, 3) := by decide +kernel
theorem dX3_wishesOf_8 : decode cX3_wishesOf 8 = .ok (.aload_n 0, 1) := by decide +kernel
theorem dX3_wishesOf_9 : decode cX3_wishesOf 9 = .ok (.getfield 18, 3) := by decide +kernel
theorem dX3_wishesOf_12 : decode cX3_wishesOf 12 = .ok (.iload_n 1, 1) := by decide +kernel
theorem dX3_wishesOf_13 : decode cX3_wishesOf 13 = .ok (.iaload, 1) := by decide +kernel
theorem dX3_wishesOf_14 : decode cX3_wishesOf 14 = .ok (.goto 4, 3) := by decide +kernel
theorem dX3_wishesOf_17 : decode cX3_wishesOf 17 = .ok (.iconst 0, 1) := by decide +kernel
theorem dX3_wishesOf_18 : decode cX3_wishesOf 18 = .ok (.ireturn, 1) := by decide +kernel
theorem dX3_wishAt_0 : decode cX3_wishAt 0 = .ok (.aload_n 0, 1) := by decide +kernel
theorem dX3_wishAt_1 : decode cX3_wishAt 1 = .ok (.iload_n 1, 1) := by decide +kernel
theorem dX3_wishAt_2 : decode cX3_wishAt 2 = .ok (.invokevirtual 38, 3) := by decide +kernel
theorem dX3_wishAt_5 : decode cX3_wishAt 5 = .ok (.ifCond .eq 21, 3) := by decide +kernel
theorem dX3_wishAt_8 : decode cX3_wishAt 8 = .ok (.iload_n 2, 1) := by decide +kernel
theorem dX3_wishAt_9 : decode cX3_wishAt 9 = .ok (.ifCond .lt 17, 3) := by decide +kernel
theorem dX3_wishAt_12 : decode cX3_wishAt 12 = .ok (.iload_n 2, 1) := by decide +kernel
theorem dX3_wishAt_13 : decode cX3_wishAt 13 = .ok (.aload_n 0, 1) := by decide +kernel
theorem dX3_wishAt_14 : decode cX3_wishAt 14 = .ok (.getfield 18, 3) := by decide +kernel
theorem dX3_wishAt_17 : decode cX3_wishAt 17 = .ok (.iload_n 1, 1) := by decide +kernel
theorem dX3_wishAt_18 : decode cX3_wishAt 18 = .ok (.iaload, 1) := by decide +kernel
theorem dX3_wishAt_19 : decode cX3_wishAt 19 = .ok (.if_icmp .ge 7, 3) := by decide +kernel
theorem dX3_wishAt_22 : decode cX3_wishAt 22 = .ok (.iconst 1, 1) := by decide +kernel
theorem dX3_wishAt_23 : decode cX3_wishAt 23 = .ok (.goto 4, 3) := by decide +kernel
theorem dX3_wishAt_26 : decode cX3_wishAt 26 = .ok (.iconst 0, 1) := by decide +kernel
theorem dX3_wishAt_27 : decode cX3_wishAt 27 = .ok (.istore_n 3, 1) := by decide +kernel
theorem dX3_wishAt_28 : decode cX3_wishAt 28 = .ok (.iload_n 3, 1) := by decide +kernel
theorem dX3_wishAt_29 : decode cX3_wishAt 29 = .ok (.ifCond .eq 17, 3) := by decide +kernel
theorem dX3_wishAt_32 : decode cX3_wishAt 32 = .ok (.aload_n 0, 1) := by decide +kernel
theorem dX3_wishAt_33 : decode cX3_wishAt 33 = .ok (.getfield 21, 3) := by decide +kernel
theorem dX3_wishAt_36 : decode cX3_wishAt 36 = .ok (.iload_n 1, 1) := by decide +kernel
theorem dX3_wishAt_37 : decode cX3_wishAt 37 = .ok (.bipush 8, 2) := by decide +kernel
theorem dX3_wishAt_39 : decode cX3_wishAt 39 = .ok (.imul, 1) := by decide +kernel
theorem dX3_wishAt_40 : decode cX3_wishAt 40 = .ok (.iload_n 2, 1) := by decide +kernel
theorem dX3_wishAt_41 : decode cX3_wishAt 41 = .ok (.iadd, 1) := by decide +kernel
theorem dX3_wishAt_42 : decode cX3_wishAt 42 = .ok (.iaload, 1) := by decide +kernel
theorem dX3_wishAt_43 : decode cX3_wishAt 43 = .ok (.goto 4, 3) := by decide +kernel
theorem dX3_wishAt_46 : decode cX3_wishAt 46 = .ok (.iconst (-1), 1) := by decide +kernel
theorem dX3_wishAt_47 : decode cX3_wishAt 47 = .ok (.ireturn, 1) := by decide +kernel
theorem dX3_wishesFor_0 : decode cX3_wishesFor 0 = .ok (.iconst 0, 1) := by decide +kernel
theorem dX3_wishesFor_1 : decode cX3_wishesFor 1 = .ok (.istore_n 3, 1) := by decide +kernel
theorem dX3_wishesFor_2 : decode cX3_wishesFor 2 = .ok (.iload_n 3, 1) := by decide +kernel
theorem dX3_wishesFor_3 : decode cX3_wishesFor 3 = .ok (.aload_n 0, 1) := by decide +kernel
theorem dX3_wishesFor_4 : decode cX3_wishesFor 4 = .ok (.iload_n 1, 1) := by decide +kernel
theorem dX3_wishesFor_5 : decode cX3_wishesFor 5 = .ok (.invokevirtual 42, 3) := by decide +kernel
theorem dX3_wishesFor_8 : decode cX3_wishesFor 8 = .ok (.if_icmp .ge 21, 3) := by decide +kernel
theorem dX3_wishesFor_11 : decode cX3_wishesFor 11 = .ok (.aload_n 0, 1) := by decide +kernel
theorem dX3_wishesFor_12 : decode cX3_wishesFor 12 = .ok (.iload_n 1, 1) := by decide +kernel
theorem dX3_wishesFor_13 : decode cX3_wishesFor 13 = .ok (.iload_n 3, 1) := by decide +kernel
theorem dX3_wishesFor_14 : decode cX3_wishesFor 14 = .ok (.invokevirtual 46, 3) := by decide +kernel
theorem dX3_wishesFor_17 : decode cX3_wishesFor 17 = .ok (.iload_n 2, 1) := by decide +kernel
theorem dX3_wishesFor_18 : decode cX3_wishesFor 18 = .ok (.if_icmp .ne 5, 3) := by decide +kernel
theorem dX3_wishesFor_21 : decode cX3_wishesFor 21 = .ok (.iconst 1, 1) := by decide +kernel
theorem dX3_wishesFor_22 : decode cX3_wishesFor 22 = .ok (.ireturn, 1) := by decide +kernel
theorem dX3_wishesFor_23 : decode cX3_wishesFor 23 = .ok (.iinc 3 1, 3) := by decide +kernel
theorem dX3_wishesFor_26 : decode cX3_wishesFor 26 = .ok (.goto (-24), 3) := by decide +kernel
theorem dX3_wishesFor_29 : decode cX3_wishesFor 29 = .ok (.iconst 0, 1) := by decide +kernel
theorem dX3_wishesFor_30 : decode cX3_wishesFor 30 = .ok (.ireturn, 1) := by decide +kernel
theorem dX3_addWish_0 : decode cX3_addWish 0 = .ok (.aload_n 0, 1) := by decide +kernel
theorem dX3_addWish_1 : decode cX3_addWish 1 = .ok (.iload_n 1, 1) := by decide +kernel
theorem dX3_addWish_2 : decode cX3_addWish 2 = .ok (.invokevirtual 42, 3) := by decide +kernel
theorem dX3_addWish_5 : decode cX3_addWish 5 = .ok (.istore_n 3, 1) := by decide +kernel
theorem dX3_addWish_6 : decode cX3_addWish 6 = .ok (.aload_n 0, 1) := by decide +kernel
theorem dX3_addWish_7 : decode cX3_addWish 7 = .ok (.iload_n 1, 1) := by decide +kernel
theorem dX3_addWish_8 : decode cX3_addWish 8 = .ok (.invokevirtual 38, 3) := by decide +kernel
theorem dX3_addWish_11 : decode cX3_addWish 11 = .ok (.ifCond .eq 9, 3) := by decide +kernel
theorem dX3_addWish_14 : decode cX3_addWish 14 = .ok (.iload_n 3, 1) := by decide +kernel
theorem dX3_addWish_15 : decode cX3_addWish 15 = .ok (.bipush 8, 2) := by decide +kernel
theorem dX3_addWish_17 : decode cX3_addWish 17 = .ok (.if_icmp .lt 6, 3) := by decide +kernel
theorem dX3_addWish_20 : decode cX3_addWish 20 = .ok (.bipush (-4), 2) := by decide +kernel
theorem dX3_addWish_22 : decode cX3_addWish 22 = .ok (.ireturn, 1) := by decide +kernel
theorem dX3_addWish_23 : decode cX3_addWish 23 = .ok (.aload_n 0, 1) := by decide +kernel
theorem dX3_addWish_24 : decode cX3_addWish 24 = .ok (.getfield 21, 3) := by decide +kernel
theorem dX3_addWish_27 : decode cX3_addWish 27 = .ok (.iload_n 1, 1) := by decide +kernel
theorem dX3_addWish_28 : decode cX3_addWish 28 = .ok (.bipush 8, 2) := by decide +kernel
theorem dX3_addWish_30 : decode cX3_addWish 30 = .ok (.imul, 1) := by decide +kernel
theorem dX3_addWish_31 : decode cX3_addWish 31 = .ok (.iload_n 3, 1) := by decide +kernel
theorem dX3_addWish_32 : decode cX3_addWish 32 = .ok (.iadd, 1) := by decide +kernel
theorem dX3_addWish_33 : decode cX3_addWish 33 = .ok (.iload_n 2, 1) := by decide +kernel
theorem dX3_addWish_34 : decode cX3_addWish 34 = .ok (.iastore, 1) := by decide +kernel
theorem dX3_addWish_35 : decode cX3_addWish 35 = .ok (.aload_n 0, 1) := by decide +kernel
theorem dX3_addWish_36 : decode cX3_addWish 36 = .ok (.getfield 18, 3) := by decide +kernel
theorem dX3_addWish_39 : decode cX3_addWish 39 = .ok (.iload_n 1, 1) := by decide +kernel
theorem dX3_addWish_40 : decode cX3_addWish 40 = .ok (.iload_n 3, 1) := by decide +kernel
theorem dX3_addWish_41 : decode cX3_addWish 41 = .ok (.iconst 1, 1) := by decide +kernel
theorem dX3_addWish_42 : decode cX3_addWish 42 = .ok (.iadd, 1) := by decide +kernel
theorem dX3_addWish_43 : decode cX3_addWish 43 = .ok (.iastore, 1) := by decide +kernel
theorem dX3_addWish_44 : decode cX3_addWish 44 = .ok (.iload_n 3, 1) := by decide +kernel
theorem dX3_addWish_45 : decode cX3_addWish 45 = .ok (.iconst 1, 1) := by decide +kernel
theorem dX3_addWish_46 : decode cX3_addWish 46 = .ok (.iadd, 1) := by decide +kernel
theorem dX3_addWish_47 : decode cX3_addWish 47 = .ok (.ireturn, 1) := by decide +kernel
theorem dX3_friendsOf_0 : decode cX3_friendsOf 0 = .ok (.aload_n 0, 1) := by decide +kernel
theorem dX3_friendsOf_1 : decode cX3_friendsOf 1 = .ok (.iload_n 1, 1) := by decide +kernel
theorem dX3_friendsOf_2 : decode cX3_friendsOf 2 = .ok (.invokevirtual 38, 3) := by decide +kernel
theorem dX3_friendsOf_5 : decode cX3_friendsOf 5 = .ok (.ifCond .ne 5, 3) := by decide +kernel
theorem dX3_friendsOf_8 : decode cX3_friendsOf 8 = .ok (.iconst 0, 1) := by decide +kernel
theorem dX3_friendsOf_9 : decode cX3_friendsOf 9 = .ok (.ireturn, 1) := by decide +kernel
theorem dX3_friendsOf_10 : decode cX3_friendsOf 10 = .ok (.iconst 1, 1) := by decide +kernel
theorem dX3_friendsOf_11 : decode cX3_friendsOf 11 = .ok (.iload_n 1, 1) := by decide +kernel
theorem dX3_friendsOf_12 : decode cX3_friendsOf 12 = .ok (.ishl, 1) := by decide +kernel
theorem dX3_friendsOf_13 : decode cX3_friendsOf 13 = .ok (.istore_n 2, 1) := by decide +kernel
theorem dX3_friendsOf_14 : decode cX3_friendsOf 14 = .ok (.iconst 0, 1) := by decide +kernel
theorem dX3_friendsOf_15 : decode cX3_friendsOf 15 = .ok (.istore_n 3, 1) := by decide +kernel
theorem dX3_friendsOf_16 : decode cX3_friendsOf 16 = .ok (.iload_n 3, 1) := by decide +kernel
theorem dX3_friendsOf_17 : decode cX3_friendsOf 17 = .ok (.aload_n 0, 1) := by decide +kernel
theorem dX3_friendsOf_18 : decode cX3_friendsOf 18 = .ok (.getfield 34, 3) := by decide +kernel
theorem dX3_friendsOf_21 : decode cX3_friendsOf 21 = .ok (.if_icmp .ge 40, 3) := by decide +kernel
theorem dX3_friendsOf_24 : decode cX3_friendsOf 24 = .ok (.aload_n 0, 1) := by decide +kernel
theorem dX3_friendsOf_25 : decode cX3_friendsOf 25 = .ok (.getfield 15, 3) := by decide +kernel
theorem dX3_friendsOf_28 : decode cX3_friendsOf 28 = .ok (.iload_n 3, 1) := by decide +kernel
theorem dX3_friendsOf_29 : decode cX3_friendsOf 29 = .ok (.iaload, 1) := by decide +kernel
theorem dX3_friendsOf_30 : decode cX3_friendsOf 30 = .ok (.iconst (-1), 1) := by decide +kernel
theorem dX3_friendsOf_31 : decode cX3_friendsOf 31 = .ok (.if_icmp .eq 24, 3) := by decide +kernel
theorem dX3_friendsOf_34 : decode cX3_friendsOf 34 = .ok (.aload_n 0, 1) := by decide +kernel
theorem dX3_friendsOf_35 : decode cX3_friendsOf 35 = .ok (.getfield 15, 3) := by decide +kernel
theorem dX3_friendsOf_38 : decode cX3_friendsOf 38 = .ok (.iload_n 3, 1) := by decide +kernel
theorem dX3_friendsOf_39 : decode cX3_friendsOf 39 = .ok (.iaload, 1) := by decide +kernel
theorem dX3_friendsOf_40 : decode cX3_friendsOf 40 = .ok (.aload_n 0, 1) := by decide +kernel
theorem dX3_friendsOf_41 : decode cX3_friendsOf 41 = .ok (.getfield 15, 3) := by decide +kernel
theorem dX3_friendsOf_44 : decode cX3_friendsOf 44 = .ok (.iload_n 1, 1) := by decide +kernel
theorem dX3_friendsOf_45 : decode cX3_friendsOf 45 = .ok (.iaload, 1) := by decide +kernel
theorem dX3_friendsOf_46 : decode cX3_friendsOf 46 = .ok (.if_icmp .ne 9, 3) := by decide +kernel
theorem dX3_friendsOf_49 : decode cX3_friendsOf 49 = .ok (.iload_n 2, 1) := by decide +kernel
theorem dX3_friendsOf_50 : decode cX3_friendsOf 50 = .ok (.iconst 1, 1) := by decide +kernel
theorem dX3_friendsOf_51 : decode cX3_friendsOf 51 = .ok (.iload_n 3, 1) := by decide +kernel
theorem dX3_friendsOf_52 : decode cX3_friendsOf 52 = .ok (.ishl, 1) := by decide +kernel
theorem dX3_friendsOf_53 : decode cX3_friendsOf 53 = .ok (.ior, 1) := by decide +kernel
theorem dX3_friendsOf_54 : decode cX3_friendsOf 54 = .ok (.istore_n 2, 1) := by decide +kernel
theorem dX3_friendsOf_55 : decode cX3_friendsOf 55 = .ok (.iinc 3 1, 3) := by decide +kernel
theorem dX3_friendsOf_58 : decode cX3_friendsOf 58 = .ok (.goto (-42), 3) := by decide +kernel
theorem dX3_friendsOf_61 : decode cX3_friendsOf 61 = .ok (.iload_n 2, 1) := by decide +kernel
theorem dX3_friendsOf_62 : decode cX3_friendsOf 62 = .ok (.ireturn, 1) := by decide +kernel
theorem dX3_housed_0 : decode cX3_housed 0 = .ok (.iconst 0, 1) := by decide +kernel
theorem dX3_housed_1 : decode cX3_housed 1 = .ok (.istore_n 1, 1) := by decide +kernel
theorem dX3_housed_2 : decode cX3_housed 2 = .ok (.iconst 0, 1) := by decide +kernel
theorem dX3_housed_3 : decode cX3_housed 3 = .ok (.istore_n 2, 1) := by decide +kernel
theorem dX3_housed_4 : decode cX3_housed 4 = .ok (.iload_n 2, 1) := by decide +kernel
theorem dX3_housed_5 : decode cX3_housed 5 = .ok (.aload_n 0, 1) := by decide +kernel
theorem dX3_housed_6 : decode cX3_housed 6 = .ok (.getfield 34, 3) := by decide +kernel
theorem dX3_housed_9 : decode cX3_housed 9 = .ok (.if_icmp .ge 22, 3) := by decide +kernel
theorem dX3_housed_12 : decode cX3_housed 12 = .ok (.aload_n 0, 1) := by decide +kernel
theorem dX3_housed_13 : decode cX3_housed 13 = .ok (.getfield 24, 3) := by decide +kernel
theorem dX3_housed_16 : decode cX3_housed 16 = .ok (.iload_n 2, 1) := by decide +kernel
theorem dX3_housed_17 : decode cX3_housed 17 = .ok (.iaload, 1) := by decide +kernel
theorem dX3_housed_18 : decode cX3_housed 18 = .ok (.iconst (-1), 1) := by decide +kernel
theorem dX3_housed_19 : decode cX3_housed 19 = .ok (.if_icmp .eq 6, 3) := by decide +kernel
theorem dX3_housed_22 : decode cX3_housed 22 = .ok (.iinc 1 1, 3) := by decide +kernel
theorem dX3_housed_25 : decode cX3_housed 25 = .ok (.iinc 2 1, 3) := by decide +kernel
theorem dX3_housed_28 : decode cX3_housed 28 = .ok (.goto (-24), 3) := by decide +kernel
theorem dX3_housed_31 : decode cX3_housed 31 = .ok (.iload_n 1, 1) := by decide +kernel
theorem dX3_housed_32 : decode cX3_housed 32 = .ok (.ireturn, 1) := by decide +kernel
theorem dX4_init_0 : decode cX4_init 0 = .ok (.aload_n 0, 1) := by decide +kernel
theorem dX4_init_1 : decode cX4_init 1 = .ok (.invokespecial 3, 3) := by decide +kernel
theorem dX4_init_4 : decode cX4_init 4 = .ok (.aload_n 0, 1) := by decide +kernel
theorem dX4_init_5 : decode cX4_init 5 = .ok (.iconst (-1), 1) := by decide +kernel
theorem dX4_init_6 : decode cX4_init 6 = .ok (.putfield 9, 3) := by decide +kernel
theorem dX4_init_9 : decode cX4_init 9 = .ok (.aload_n 0, 1) := by decide +kernel
theorem dX4_init_10 : decode cX4_init 10 = .ok (.bipush 40, 2) := by decide +kernel
theorem dX4_init_12 : decode cX4_init 12 = .ok (.newarray .int, 2) := by decide +kernel
theorem dX4_init_14 : decode cX4_init 14 = .ok (.putfield 15, 3) := by decide +kernel
theorem dX4_init_17 : decode cX4_init 17 = .ok (.aload_n 0, 1) := by decide +kernel
theorem dX4_init_18 : decode cX4_init 18 = .ok (.bipush 40, 2) := by decide +kernel
theorem dX4_init_20 : decode cX4_init 20 = .ok (.newarray .int, 2) := by decide +kernel
theorem dX4_init_22 : decode cX4_init 22 = .ok (.putfield 19, 3) := by decide +kernel
theorem dX4_init_25 : decode cX4_init 25 = .ok (.aload_n 0, 1) := by decide +kernel
theorem dX4_init_26 : decode cX4_init 26 = .ok (.sipush 480, 3) := by decide +kernel
theorem dX4_init_29 : decode cX4_init 29 = .ok (.newarray .int, 2) := by decide +kernel
theorem dX4_init_31 : decode cX4_init 31 = .ok (.putfield 22, 3) := by decide +kernel
theorem dX4_init_34 : decode cX4_init 34 = .ok (.aload_n 0, 1) := by decide +kernel
theorem dX4_init_35 : decode cX4_init 35 = .ok (.bipush 60, 2) := by decide +kernel
theorem dX4_init_37 : decode cX4_init 37 = .ok (.newarray .int, 2) := by decide +kernel
theorem dX4_init_39 : decode cX4_init 39 = .ok (.putfield 25, 3) := by decide +kernel
theorem dX4_init_42 : decode cX4_init 42 = .ok (.aload_n 0, 1) := by decide +kernel
theorem dX4_init_43 : decode cX4_init 43 = .ok (.getfield 22, 3) := by decide +kernel
theorem dX4_init_46 : decode cX4_init 46 = .ok (.iconst (-1), 1) := by decide +kernel
theorem dX4_init_47 : decode cX4_init 47 = .ok (.invokestatic 28, 3) := by decide +kernel
theorem dX4_init_50 : decode cX4_init 50 = .ok (.return_, 1) := by decide +kernel
theorem dX4_tell_0 : decode cX4_tell 0 = .ok (.aload_n 0, 1) := by decide +kernel
theorem dX4_tell_1 : decode cX4_tell 1 = .ok (.getfield 34, 3) := by decide +kernel
theorem dX4_tell_4 : decode cX4_tell 4 = .ok (.bipush 40, 2) := by decide +kernel
theorem dX4_tell_6 : decode cX4_tell 6 = .ok (.if_icmp .ge 11, 3) := by decide +kernel
theorem dX4_tell_9 : decode cX4_tell 9 = .ok (.iload_n 1, 1) := by decide +kernel
theorem dX4_tell_10 : decode cX4_tell 10 = .ok (.iload_n 2, 1) := by decide +kernel
theorem dX4_tell_11 : decode cX4_tell 11 = .ok (.invokestatic 37, 3) := by decide +kernel
theorem dX4_tell_14 : decode cX4_tell 14 = .ok (.ifCond .ne 6, 3) := by decide +kernel
theorem dX4_tell_17 : decode cX4_tell 17 = .ok (.bipush (-4), 2) := by decide +kernel
theorem dX4_tell_19 : decode cX4_tell 19 = .ok (.ireturn, 1) := by decide +kernel
theorem dX4_tell_20 : decode cX4_tell 20 = .ok (.aload_n 0, 1) := by decide +kernel
theorem dX4_tell_21 : decode cX4_tell 21 = .ok (.getfield 15, 3) := by decide +kernel
theorem dX4_tell_24 : decode cX4_tell 24 = .ok (.aload_n 0, 1) := by decide +kernel
theorem dX4_tell_25 : decode cX4_tell 25 = .ok (.getfield 34, 3) := by decide +kernel
theorem dX4_tell_28 : decode cX4_tell 28 = .ok (.iload_n 2, 1) := by decide +kernel
theorem dX4_tell_29 : decode cX4_tell 29 = .ok (.iastore, 1) := by decide +kernel
theorem dX4_tell_30 : decode cX4_tell 30 = .ok (.aload_n 0, 1) := by decide +kernel
theorem dX4_tell_31 : decode cX4_tell 31 = .ok (.getfield 19, 3) := by decide +kernel
theorem dX4_tell_34 : decode cX4_tell 34 = .ok (.aload_n 0, 1) := by decide +kernel
theorem dX4_tell_35 : decode cX4_tell 35 = .ok (.getfield 34, 3) := by decide +kernel
theorem dX4_tell_38 : decode cX4_tell 38 = .ok (.iload_n 3, 1) := by decide +kernel
theorem dX4_tell_39 : decode cX4_tell 39 = .ok (.iastore, 1) := by decide +kernel
theorem dX4_tell_40 : decode cX4_tell 40 = .ok (.aload_n 0, 1) := by decide +kernel
theorem dX4_tell_41 : decode cX4_tell 41 = .ok (.iload_n 1, 1) := by decide +kernel
theorem dX4_tell_42 : decode cX4_tell 42 = .ok (.putfield 9, 3) := by decide +kernel
theorem dX4_tell_45 : decode cX4_tell 45 = .ok (.iload_n 2, 1) := by decide +kernel
theorem dX4_tell_46 : decode cX4_tell 46 = .ok (.istore 4, 2) := by decide +kernel
theorem dX4_tell_48 : decode cX4_tell 48 = .ok (.iload 4, 2) := by decide +kernel
theorem dX4_tell_50 : decode cX4_tell 50 = .ok (.bipush 60, 2) := by decide +kernel
theorem dX4_tell_52 : decode cX4_tell 52 = .ok (.if_icmp .ge 58, 3) := by decide +kernel
theorem dX4_tell_55 : decode cX4_tell 55 = .ok (.iload_n 1, 1) := by decide +kernel
theorem dX4_tell_56 : decode cX4_tell 56 = .ok (.bipush 60, 2) := by decide +kernel
theorem dX4_tell_58 : decode cX4_tell 58 = .ok (.imul, 1) := by decide +kernel
theorem dX4_tell_59 : decode cX4_tell 59 = .ok (.iload 4, 2) := by decide +kernel
theorem dX4_tell_61 : decode cX4_tell 61 = .ok (.iadd, 1) := by decide +kernel
theorem dX4_tell_62 : decode cX4_tell 62 = .ok (.istore 5, 2) := by decide +kernel
theorem dX4_tell_64 : decode cX4_tell 64 = .ok (.aload_n 0, 1) := by decide +kernel
theorem dX4_tell_65 : decode cX4_tell 65 = .ok (.getfield 25, 3) := by decide +kernel
theorem dX4_tell_68 : decode cX4_tell 68 = .ok (.iload 4, 2) := by decide +kernel
theorem dX4_tell_70 : decode cX4_tell 70 = .ok (.aload_n 0, 1) := by decide +kernel
theorem dX4_tell_71 : decode cX4_tell 71 = .ok (.getfield 22, 3) := by decide +kernel
theorem dX4_tell_74 : decode cX4_tell 74 = .ok (.iload 5, 2) := by decide +kernel
theorem dX4_tell_76 : decode cX4_tell 76 = .ok (.iaload, 1) := by decide +kernel
theorem dX4_tell_77 : decode cX4_tell 77 = .ok (.iastore, 1) := by decide +kernel
theorem dX4_tell_78 : decode cX4_tell 78 = .ok (.aload_n 0, 1) := by decide +kernel
theorem dX4_tell_79 : decode cX4_tell 79 = .ok (.aload_n 0, 1) := by decide +kernel
theorem dX4_tell_80 : decode cX4_tell 80 = .ok (.getfield 22, 3) := by decide +kernel
theorem dX4_tell_83 : decode cX4_tell 83 = .ok (.iload 5, 2) := by decide +kernel
theorem dX4_tell_85 : decode cX4_tell 85 = .ok (.iaload, 1) := by decide +kernel
theorem dX4_tell_86 : decode cX4_tell 86 = .ok (.invokevirtual 41, 3) := by decide +kernel
theorem dX4_tell_89 : decode cX4_tell 89 = .ok (.iload_n 2, 1) := by decide +kernel
theorem dX4_tell_90 : decode cX4_tell 90 = .ok (.if_icmp .gt 14, 3) := by decide +kernel
theorem dX4_tell_93 : decode cX4_tell 93 = .ok (.aload_n 0, 1) := by decide +kernel
theorem dX4_tell_94 : decode cX4_tell 94 = .ok (.getfield 22, 3) := by decide +kernel
theorem dX4_tell_97 : decode cX4_tell 97 = .ok (.iload 5, 2) := by decide +kernel
theorem dX4_tell_99 : decode cX4_tell 99 = .ok (.aload_n 0, 1) := by decide +kernel
theorem dX4_tell_100 : decode cX4_tell 100 = .ok (.getfield 34, 3) := by decide +kernel
theorem dX4_tell_103 : decode cX4_tell 103 = .ok (.iastore, 1) := by decide +kernel
theorem dX4_tell_104 : decode cX4_tell 104 = .ok (.iinc 4 1, 3) := by decide +kernel
theorem dX4_tell_107 : decode cX4_tell 107 = .ok (.goto (-59), 3) := by decide +kernel
theorem dX4_tell_110 : decode cX4_tell 110 = .ok (.aload_n 0, 1) := by decide +kernel
theorem dX4_tell_111 : decode cX4_tell 111 = .ok (.dup, 1) := by decide +kernel
theorem dX4_tell_112 : decode cX4_tell 112 = .ok (.getfield 34, 3) := by decide +kernel
theorem dX4_tell_115 : decode cX4_tell 115 = .ok (.iconst 1, 1) := by decide +kernel
theorem dX4_tell_116 : decode cX4_tell 116 = .ok (.iadd, 1) := by decide +kernel
theorem dX4_tell_117 : decode cX4_tell 117 = .ok (.putfield 34, 3) := by decide +kernel
theorem dX4_tell_120 : decode cX4_tell 120 = .ok (.aload_n 0, 1) := by decide +kernel
theorem dX4_tell_121 : decode cX4_tell 121 = .ok (.getfield 34, 3) := by decide +kernel
theorem dX4_tell_124 : decode cX4_tell 124 = .ok (.ireturn, 1) := by decide +kernel
theorem dX4_at_0 : decode cX4_at 0 = .ok (.iload_n 1, 1) := by decide +kernel
theorem dX4_at_1 : decode cX4_at 1 = .ok (.iload_n 2, 1) := by decide +kernel
theorem dX4_at_2 : decode cX4_at 2 = .ok (.invokestatic 37, 3) := by decide +kernel
theorem dX4_at_5 : decode cX4_at 5 = .ok (.ifCond .eq 21, 3) := by decide +kernel
theorem dX4_at_8 : decode cX4_at 8 = .ok (.aload_n 0, 1) := by decide +kernel
theorem dX4_at_9 : decode cX4_at 9 = .ok (.aload_n 0, 1) := by decide +kernel
theorem dX4_at_10 : decode cX4_at 10 = .ok (.getfield 22, 3) := by decide +kernel
theorem dX4_at_13 : decode cX4_at 13 = .ok (.iload_n 1, 1) := by decide +kernel
theorem dX4_at_14 : decode cX4_at 14 = .ok (.bipush 60, 2) := by decide +kernel
theorem dX4_at_16 : decode cX4_at 16 = .ok (.imul, 1) := by decide +kernel
theorem dX4_at_17 : decode cX4_at 17 = .ok (.iload_n 2, 1) := by decide +kernel
theorem dX4_at_18 : decode cX4_at 18 = .ok (.iadd, 1) := by decide +kernel
theorem dX4_at_19 : decode cX4_at 19 = .ok (.iaload, 1) := by decide +kernel
theorem dX4_at_20 : decode cX4_at 20 = .ok (.invokevirtual 45, 3) := by decide +kernel
theorem dX4_at_23 : decode cX4_at 23 = .ok (.goto 4, 3) := by decide +kernel
theorem dX4_at_26 : decode cX4_at 26 = .ok (.iconst 0, 1) := by decide +kernel
theorem dX4_at_27 : decode cX4_at 27 = .ok (.ireturn, 1) := by decide +kernel
theorem dX4_dropWithoutLatest_0 : decode cX4_dropWithoutLatest 0 = .ok (.iload_n 1, 1) := by decide +kernel
theorem dX4_dropWithoutLatest_1 : decode cX4_dropWithoutLatest 1 = .ok (.aload_n 0, 1) := by decide +kernel
theorem dX4_dropWithoutLatest_2 : decode cX4_dropWithoutLatest 2 = .ok (.aload_n 0, 1) := by decide +kernel
theorem dX4_dropWithoutLatest_3 : decode cX4_dropWithoutLatest 3 = .ok (.getfield 34, 3) := by decide +kernel
theorem dX4_dropWithoutLatest_6 : decode cX4_dropWithoutLatest 6 = .ok (.iconst 1, 1) := by decide +kernel
theorem dX4_dropWithoutLatest_7 : decode cX4_dropWithoutLatest 7 = .ok (.isub, 1) := by decide +kernel
theorem dX4_dropWithoutLatest_8 : decode cX4_dropWithoutLatest 8 = .ok (.invokevirtual 41, 3) := by decide +kernel
theorem dX4_dropWithoutLatest_11 : decode cX4_dropWithoutLatest 11 = .ok (.bipush 59, 2) := by decide +kernel
theorem dX4_dropWithoutLatest_13 : decode cX4_dropWithoutLatest 13 = .ok (.invokestatic 48, 3) := by decide +kernel
theorem dX4_dropWithoutLatest_16 : decode cX4_dropWithoutLatest 16 = .ok (.ifCond .eq 18, 3) := by decide +kernel
theorem dX4_dropWithoutLatest_19 : decode cX4_dropWithoutLatest 19 = .ok (.aload_n 0, 1) := by decide +kernel
theorem dX4_dropWithoutLatest_20 : decode cX4_dropWithoutLatest 20 = .ok (.getfield 9, 3) := by decide +kernel
theorem dX4_dropWithoutLatest_23 : decode cX4_dropWithoutLatest 23 = .ok (.iload_n 1, 1) := by decide +kernel
theorem dX4_dropWithoutLatest_24 : decode cX4_dropWithoutLatest 24 = .ok (.invokestatic 37, 3) := by decide +kernel
theorem dX4_dropWithoutLatest_27 : decode cX4_dropWithoutLatest 27 = .ok (.ifCond .eq 7, 3) := by decide +kernel
theorem dX4_dropWithoutLatest_30 : decode cX4_dropWithoutLatest 30 = .ok (.iconst 1, 1) := by decide +kernel
theorem dX4_dropWithoutLatest_31 : decode cX4_dropWithoutLatest 31 = .ok (.goto 4, 3) := by decide +kernel
theorem dX4_dropWithoutLatest_34 : decode cX4_dropWithoutLatest 34 = .ok (.iconst 0, 1) := by decide +kernel
theorem dX4_dropWithoutLatest_35 : decode cX4_dropWithoutLatest 35 = .ok (.istore_n 2, 1) := by decide +kernel
theorem dX4_dropWithoutLatest_36 : decode cX4_dropWithoutLatest 36 = .ok (.iload_n 2, 1) := by decide +kernel
theorem dX4_dropWithoutLatest_37 : decode cX4_dropWithoutLatest 37 = .ok (.ifCond .eq 26, 3) := by decide +kernel
theorem dX4_dropWithoutLatest_40 : decode cX4_dropWithoutLatest 40 = .ok (.aload_n 0, 1) := by decide +kernel
theorem dX4_dropWithoutLatest_41 : decode cX4_dropWithoutLatest 41 = .ok (.aload_n 0, 1) := by decide +kernel
theorem dX4_dropWithoutLatest_42 : decode cX4_dropWithoutLatest 42 = .ok (.getfield 25, 3) := by decide +kernel
theorem dX4_dropWithoutLatest_45 : decode cX4_dropWithoutLatest 45 = .ok (.iload_n 1, 1) := by decide +kernel
theorem dX4_dropWithoutLatest_46 : decode cX4_dropWithoutLatest 46 = .ok (.iaload, 1) := by decide +kernel
theorem dX4_dropWithoutLatest_47 : decode cX4_dropWithoutLatest 47 = .ok (.invokevirtual 45, 3) := by decide +kernel
theorem dX4_dropWithoutLatest_50 : decode cX4_dropWithoutLatest 50 = .ok (.aload_n 0, 1) := by decide +kernel
theorem dX4_dropWithoutLatest_51 : decode cX4_dropWithoutLatest 51 = .ok (.aload_n 0, 1) := by decide +kernel
theorem dX4_dropWithoutLatest_52 : decode cX4_dropWithoutLatest 52 = .ok (.getfield 9, 3) := by decide +kernel
theorem dX4_dropWithoutLatest_55 : decode cX4_dropWithoutLatest 55 = .ok (.iload_n 1, 1) := by decide +kernel
theorem dX4_dropWithoutLatest_56 : decode cX4_dropWithoutLatest 56 = .ok (.invokevirtual 52, 3) := by decide +kernel
theorem dX4_dropWithoutLatest_59 : decode cX4_dropWithoutLatest 59 = .ok (.isub, 1) := by decide +kernel
theorem dX4_dropWithoutLatest_60 : decode cX4_dropWithoutLatest 60 = .ok (.goto 4, 3) := by decide +kernel
theorem dX4_dropWithoutLatest_63 : decode cX4_dropWithoutLatest 63 = .ok (.iconst 0, 1) := by decide +kernel
theorem dX4_dropWithoutLatest_64 : decode cX4_dropWithoutLatest 64 = .ok (.ireturn, 1) := by decide +kernel
theorem dX4_sinceOf_0 : decode cX4_sinceOf 0 = .ok (.iload_n 1, 1) := by decide +kernel
theorem dX4_sinceOf_1 : decode cX4_sinceOf 1 = .ok (.iconst 0, 1) := by decide +kernel
theorem dX4_sinceOf_2 : decode cX4_sinceOf 2 = .ok (.bipush 39, 2) := by decide +kernel
theorem dX4_sinceOf_4 : decode cX4_sinceOf 4 = .ok (.invokestatic 48, 3) := by decide +kernel
theorem dX4_sinceOf_7 : decode cX4_sinceOf 7 = .ok (.ifCond .eq 12, 3) := by decide +kernel
theorem dX4_sinceOf_10 : decode cX4_sinceOf 10 = .ok (.aload_n 0, 1) := by decide +kernel
theorem dX4_sinceOf_11 : decode cX4_sinceOf 11 = .ok (.getfield 15, 3) := by decide +kernel
theorem dX4_sinceOf_14 : decode cX4_sinceOf 14 = .ok (.iload_n 1, 1) := by decide +kernel
theorem dX4_sinceOf_15 : decode cX4_sinceOf 15 = .ok (.iaload, 1) := by decide +kernel
theorem dX4_sinceOf_16 : decode cX4_sinceOf 16 = .ok (.goto 4, 3) := by decide +kernel
theorem dX4_sinceOf_19 : decode cX4_sinceOf 19 = .ok (.iconst (-1), 1) := by decide +kernel
theorem dX4_sinceOf_20 : decode cX4_sinceOf 20 = .ok (.ireturn, 1) := by decide +kernel
theorem dX4_valueOf_0 : decode cX4_valueOf 0 = .ok (.iload_n 1, 1) := by decide +kernel
theorem dX4_valueOf_1 : decode cX4_valueOf 1 = .ok (.iconst 0, 1) := by decide +kernel
theorem dX4_valueOf_2 : decode cX4_valueOf 2 = .ok (.bipush 39, 2) := by decide +kernel
theorem dX4_valueOf_4 : decode cX4_valueOf 4 = .ok (.invokestatic 48, 3) := by decide +kernel
theorem dX4_valueOf_7 : decode cX4_valueOf 7 = .ok (.ifCond .eq 12, 3) := by decide +kernel
theorem dX4_valueOf_10 : decode cX4_valueOf 10 = .ok (.aload_n 0, 1) := by decide +kernel
theorem dX4_valueOf_11 : decode cX4_valueOf 11 = .ok (.getfield 19, 3) := by decide +kernel
theorem dX4_valueOf_14 : decode cX4_valueOf 14 = .ok (.iload_n 1, 1) := by decide +kernel
theorem dX4_valueOf_15 : decode cX4_valueOf 15 = .ok (.iaload, 1) := by decide +kernel
theorem dX4_valueOf_16 : decode cX4_valueOf 16 = .ok (.goto 4, 3) := by decide +kernel
theorem dX4_valueOf_19 : decode cX4_valueOf 19 = .ok (.iconst 0, 1) := by decide +kernel
theorem dX4_valueOf_20 : decode cX4_valueOf 20 = .ok (.ireturn, 1) := by decide +kernel
theorem dX4_isListed_0 : decode cX4_isListed 0 = .ok (.iload_n 0, 1) := by decide +kernel
theorem dX4_isListed_1 : decode cX4_isListed 1 = .ok (.iconst 0, 1) := by decide +kernel
theorem dX4_isListed_2 : decode cX4_isListed 2 = .ok (.bipush 7, 2) := by decide +kernel
theorem dX4_isListed_4 : decode cX4_isListed 4 = .ok (.invokestatic 48, 3) := by decide +kernel
theorem dX4_isListed_7 : decode cX4_isListed 7 = .ok (.ifCond .eq 17, 3) := by decide +kernel
theorem dX4_isListed_10 : decode cX4_isListed 10 = .ok (.iload_n 1, 1) := by decide +kernel
theorem dX4_isListed_11 : decode cX4_isListed 11 = .ok (.iconst 0, 1) := by decide +kernel
theorem dX4_isListed_12 : decode cX4_isListed 12 = .ok (.bipush 59, 2) := by decide +kernel
theorem dX4_isListed_14 : decode cX4_isListed 14 = .ok (.invokestatic 48, 3) := by decide +kernel
theorem dX4_isListed_17 : decode cX4_isListed 17 = .ok (.ifCond .eq 7, 3) := by decide +kernel
theorem dX4_isListed_20 : decode cX4_isListed 20 = .ok (.iconst 1, 1) := by decide +kernel
theorem dX4_isListed_21 : decode cX4_isListed 21 = .ok (.goto 4, 3) := by decide +kernel
theorem dX4_isListed_24 : decode cX4_isListed 24 = .ok (.iconst 0, 1) := by decide +kernel
theorem dX4_isListed_25 : decode cX4_isListed 25 = .ok (.ireturn, 1) := by decide +kernel
theorem dX5_init_0 : decode cX5_init 0 = .ok (.aload_n 0, 1) := by decide +kernel
theorem dX5_init_1 : decode cX5_init 1 = .ok (.invokespecial 3, 3) := by decide +kernel
theorem dX5_init_4 : decode cX5_init 4 = .ok (.aload_n 0, 1) := by decide +kernel
theorem dX5_init_5 : decode cX5_init 5 = .ok (.bipush 24, 2) := by decide +kernel
theorem dX5_init_7 : decode cX5_init 7 = .ok (.newarray .int, 2) := by decide +kernel
theorem dX5_init_9 : decode cX5_init 9 = .ok (.putfield 9, 3) := by decide +kernel
theorem dX5_init_12 : decode cX5_init 12 = .ok (.aload_n 0, 1) := by decide +kernel
theorem dX5_init_13 : decode cX5_init 13 = .ok (.bipush 24, 2) := by decide +kernel
theorem dX5_init_15 : decode cX5_init 15 = .ok (.newarray .int, 2) := by decide +kernel
theorem dX5_init_17 : decode cX5_init 17 = .ok (.putfield 15, 3) := by decide +kernel
theorem dX5_init_20 : decode cX5_init 20 = .ok (.aload_n 0, 1) := by decide +kernel
theorem dX5_init_21 : decode cX5_init 21 = .ok (.bipush 24, 2) := by decide +kernel
theorem dX5_init_23 : decode cX5_init 23 = .ok (.newarray .int, 2) := by decide +kernel
theorem dX5_init_25 : decode cX5_init 25 = .ok (.putfield 18, 3) := by decide +kernel
theorem dX5_init_28 : decode cX5_init 28 = .ok (.aload_n 0, 1) := by decide +kernel
theorem dX5_init_29 : decode cX5_init 29 = .ok (.bipush 24, 2) := by decide +kernel
theorem dX5_init_31 : decode cX5_init 31 = .ok (.newarray .int, 2) := by decide +kernel
theorem dX5_init_33 : decode cX5_init 33 = .ok (.putfield 21, 3) := by decide +kernel
theorem dX5_init_36 : decode cX5_init 36 = .ok (.return_, 1) := by decide +kernel
theorem dX5_has_0 : decode cX5_has 0 = .ok (.iload_n 1, 1) := by decide +kernel
theorem dX5_has_1 : decode cX5_has 1 = .ok (.ifCond .lt 15, 3) := by decide +kernel
theorem dX5_has_4 : decode cX5_has 4 = .ok (.iload_n 1, 1) := by decide +kernel
theorem dX5_has_5 : decode cX5_has 5 = .ok (.aload_n 0, 1) := by decide +kernel
theorem dX5_has_6 : decode cX5_has 6 = .ok (.getfield 24, 3) := by decide +kernel
theorem dX5_has_9 : decode cX5_has 9 = .ok (.if_icmp .ge 7, 3) := by decide +kernel
theorem dX5_has_12 : decode cX5_has 12 = .ok (.iconst 1, 1) := by decide +kernel
theorem dX5_has_13 : decode cX5_has 13 = .ok (.goto 4, 3) := by decide +kernel
theorem dX5_has_16 : decode cX5_has 16 = .ok (.iconst 0, 1) := by decide +kernel
theorem dX5_has_17 : decode cX5_has 17 = .ok (.ireturn, 1) := by decide +kernel
theorem dX5_add_0 : decode cX5_add 0 = .ok (.aload_n 0, 1) := by decide +kernel
theorem dX5_add_1 : decode cX5_add 1 = .ok (.getfield 24, 3) := by decide +kernel
theorem dX5_add_4 : decode cX5_add 4 = .ok (.bipush 24, 2) := by decide +kernel
theorem dX5_add_6 : decode cX5_add 6 = .ok (.if_icmp .lt 6, 3) := by decide +kernel
theorem dX5_add_9 : decode cX5_add 9 = .ok (.bipush (-4), 2) := by decide +kernel
theorem dX5_add_11 : decode cX5_add 11 = .ok (.ireturn, 1) := by decide +kernel
theorem dX5_add_12 : decode cX5_add 12 = .ok (.aload_n 0, 1) := by decide +kernel
theorem dX5_add_13 : decode cX5_add 13 = .ok (.getfield 9, 3) := by decide +kernel
theorem dX5_add_16 : decode cX5_add 16 = .ok (.aload_n 0, 1) := by decide +kernel
theorem dX5_add_17 : decode cX5_add 17 = .ok (.getfield 24, 3) := by decide +kernel
theorem dX5_add_20 : decode cX5_add 20 = .ok (.iload_n 1, 1) := by decide +kernel
theorem dX5_add_21 : decode cX5_add 21 = .ok (.iastore, 1) := by decide +kernel
theorem dX5_add_22 : decode cX5_add 22 = .ok (.aload_n 0, 1) := by decide +kernel
theorem dX5_add_23 : decode cX5_add 23 = .ok (.getfield 15, 3) := by decide +kernel
theorem dX5_add_26 : decode cX5_add 26 = .ok (.aload_n 0, 1) := by decide +kernel
theorem dX5_add_27 : decode cX5_add 27 = .ok (.getfield 24, 3) := by decide +kernel
theorem dX5_add_30 : decode cX5_add 30 = .ok (.iload_n 2, 1) := by decide +kernel
theorem dX5_add_31 : decode cX5_add 31 = .ok (.iastore, 1) := by decide +kernel
theorem dX5_add_32 : decode cX5_add 32 = .ok (.aload_n 0, 1) := by decide +kernel
theorem dX5_add_33 : decode cX5_add 33 = .ok (.getfield 18, 3) := by decide +kernel
theorem dX5_add_36 : decode cX5_add 36 = .ok (.aload_n 0, 1) := by decide +kernel
theorem dX5_add_37 : decode cX5_add 37 = .ok (.getfield 24, 3) := by decide +kernel
theorem dX5_add_40 : decode cX5_add 40 = .ok (.iload_n 3, 1) := by decide +kernel
theorem dX5_add_41 : decode cX5_add 41 = .ok (.iastore, 1) := by decide +kernel
theorem dX5_add_42 : decode cX5_add 42 = .ok (.aload_n 0, 1) := by decide +kernel
theorem dX5_add_43 : decode cX5_add 43 = .ok (.getfield 21, 3) := by decide +kernel
theorem dX5_add_46 : decode cX5_add 46 = .ok (.aload_n 0, 1) := by decide +kernel
theorem dX5_add_47 : decode cX5_add 47 = .ok (.getfield 24, 3) := by decide +kernel
theorem dX5_add_50 : decode cX5_add 50 = .ok (.iconst (-1), 1) := by decide +kernel
theorem dX5_add_51 : decode cX5_add 51 = .ok (.iastore, 1) := by decide +kernel
theorem dX5_add_52 : decode cX5_add 52 = .ok (.aload_n 0, 1) := by decide +kernel
theorem dX5_add_53 : decode cX5_add 53 = .ok (.dup, 1) := by decide +kernel
theorem dX5_add_54 : decode cX5_add 54 = .ok (.getfield 24, 3) := by decide +kernel
theorem dX5_add_57 : decode cX5_add 57 = .ok (.iconst 1, 1) := by decide +kernel
theorem dX5_add_58 : decode cX5_add 58 = .ok (.iadd, 1) := by decide +kernel
theorem dX5_add_59 : decode cX5_add 59 = .ok (.putfield 24, 3) := by decide +kernel
theorem dX5_add_62 : decode cX5_add 62 = .ok (.aload_n 0, 1) := by decide +kernel
theorem dX5_add_63 : decode cX5_add 63 = .ok (.getfield 24, 3) := by decide +kernel
theorem dX5_add_66 : decode cX5_add 66 = .ok (.iconst 1, 1) := by decide +kernel
theorem dX5_add_67 : decode cX5_add 67 = .ok (.isub, 1) := by decide +kernel
theorem dX5_add_68 : decode cX5_add 68 = .ok (.ireturn, 1) := by decide +kernel
theorem dX5_houseOf_0 : decode cX5_houseOf 0 = .ok (.aload_n 0, 1) := by decide +kernel
theorem dX5_houseOf_1 : decode cX5_houseOf 1 = .ok (.iload_n 1, 1) := by decide +kernel
theorem dX5_houseOf_2 : decode cX5_houseOf 2 = .ok (.invokevirtual 28, 3) := by decide +kernel
theorem dX5_houseOf_5 : decode cX5_houseOf 5 = .ok (.ifCond .eq 12, 3) := by decide +kernel
theorem dX5_houseOf_8 : decode cX5_houseOf 8 = .ok (.aload_n 0, 1) := by decide +kernel
theorem dX5_houseOf_9 : decode cX5_houseOf 9 = .ok (.getfield 9, 3) := by decide +kernel
theorem dX5_houseOf_12 : decode cX5_houseOf 12 = .ok (.iload_n 1, 1) := by decide +kernel
theorem dX5_houseOf_13 : decode cX5_houseOf 13 = .ok (.iaload, 1) := by decide +kernel
theorem dX5_houseOf_14 : decode cX5_houseOf 14 = .ok (.goto 4, 3) := by decide +kernel
theorem dX5_houseOf_17 : decode cX5_houseOf 17 = .ok (.iconst (-1), 1) := by decide +kernel
theorem dX5_houseOf_18 : decode cX5_houseOf 18 = .ok (.ireturn, 1) := by decide +kernel
theorem dX5_holderOf_0 : decode cX5_holderOf 0 = .ok (.aload_n 0, 1) := by decide +kernel
theorem dX5_holderOf_1 : decode cX5_holderOf 1 = .ok (.iload_n 1, 1) := by decide +kernel
theorem dX5_holderOf_2 : decode cX5_holderOf 2 = .ok (.invokevirtual 28, 3) := by decide +kernel
theorem dX5_holderOf_5 : decode cX5_holderOf 5 = .ok (.ifCond .eq 12, 3) := by decide +kernel
theorem dX5_holderOf_8 : decode cX5_holderOf 8 = .ok (.aload_n 0, 1) := by decide +kernel
theorem dX5_holderOf_9 : decode cX5_holderOf 9 = .ok (.getfield 21, 3) := by decide +kernel
theorem dX5_holderOf_12 : decode cX5_holderOf 12 = .ok (.iload_n 1, 1) := by decide +kernel
theorem dX5_holderOf_13 : decode cX5_holderOf 13 = .ok (.iaload, 1) := by decide +kernel
theorem dX5_holderOf_14 : decode cX5_holderOf 14 = .ok (.goto 4, 3) := by decide +kernel
theorem dX5_holderOf_17 : decode cX5_holderOf 17 = .ok (.iconst (-1), 1) := by decide +kernel
theorem dX5_holderOf_18 : decode cX5_holderOf 18 = .ok (.ireturn, 1) := by decide +kernel
theorem dX5_under_0 : decode cX5_under 0 = .ok (.iconst 0, 1) := by decide +kernel
theorem dX5_under_1 : decode cX5_under 1 = .ok (.istore_n 2, 1) := by decide +kernel
theorem dX5_under_2 : decode cX5_under 2 = .ok (.iconst 0, 1) := by decide +kernel
theorem dX5_under_3 : decode cX5_under 3 = .ok (.istore_n 3, 1) := by decide +kernel
theorem dX5_under_4 : decode cX5_under 4 = .ok (.iload_n 3, 1) := by decide +kernel
theorem dX5_under_5 : decode cX5_under 5 = .ok (.aload_n 0, 1) := by decide +kernel
theorem dX5_under_6 : decode cX5_under 6 = .ok (.getfield 24, 3) := by decide +kernel
theorem dX5_under_9 : decode cX5_under 9 = .ok (.if_icmp .ge 25, 3) := by decide +kernel
theorem dX5_under_12 : decode cX5_under 12 = .ok (.aload_n 0, 1) := by decide +kernel
theorem dX5_under_13 : decode cX5_under 13 = .ok (.getfield 9, 3) := by decide +kernel
theorem dX5_under_16 : decode cX5_under 16 = .ok (.iload_n 3, 1) := by decide +kernel
theorem dX5_under_17 : decode cX5_under 17 = .ok (.iaload, 1) := by decide +kernel
theorem dX5_under_18 : decode cX5_under 18 = .ok (.iload_n 1, 1) := by decide +kernel
theorem dX5_under_19 : decode cX5_under 19 = .ok (.if_icmp .ne 9, 3) := by decide +kernel
theorem dX5_under_22 : decode cX5_under 22 = .ok (.iload_n 2, 1) := by decide +kernel
theorem dX5_under_23 : decode cX5_under 23 = .ok (.iconst 1, 1) := by decide +kernel
theorem dX5_under_24 : decode cX5_under 24 = .ok (.iload_n 3, 1) := by decide +kernel
theorem dX5_under_25 : decode cX5_under 25 = .ok (.ishl, 1) := by decide +kernel
theorem dX5_under_26 : decode cX5_under 26 = .ok (.ior, 1) := by decide +kernel
theorem dX5_under_27 : decode cX5_under 27 = .ok (.istore_n 2, 1) := by decide +kernel
theorem dX5_under_28 : decode cX5_under 28 = .ok (.iinc 3 1, 3) := by decide +kernel
theorem dX5_under_31 : decode cX5_under 31 = .ok (.goto (-27), 3) := by decide +kernel
theorem dX5_under_34 : decode cX5_under 34 = .ok (.iload_n 2, 1) := by decide +kernel
theorem dX5_under_35 : decode cX5_under 35 = .ok (.ireturn, 1) := by decide +kernel
theorem dX5_isStruck_0 : decode cX5_isStruck 0 = .ok (.aload_n 0, 1) := by decide +kernel
theorem dX5_isStruck_1 : decode cX5_isStruck 1 = .ok (.getfield 32, 3) := by decide +kernel
theorem dX5_isStruck_4 : decode cX5_isStruck 4 = .ok (.iload_n 1, 1) := by decide +kernel
theorem dX5_isStruck_5 : decode cX5_isStruck 5 = .ok (.invokestatic 35, 3) := by decide +kernel
theorem dX5_isStruck_8 : decode cX5_isStruck 8 = .ok (.ireturn, 1) := by decide +kernel
theorem dX6_init_0 : decode cX6_init 0 = .ok (.aload_n 0, 1) := by decide +kernel
theorem dX6_init_1 : decode cX6_init 1 = .ok (.invokespecial 3, 3) := by decide +kernel
theorem dX6_init_4 : decode cX6_init 4 = .ok (.aload_n 0, 1) := by decide +kernel
theorem dX6_init_5 : decode cX6_init 5 = .ok (.iconst 0, 1) := by decide +kernel
theorem dX6_init_6 : decode cX6_init 6 = .ok (.putfield 11, 3) := by decide +kernel
theorem dX6_init_9 : decode cX6_init 9 = .ok (.aload_n 0, 1) := by decide +kernel
theorem dX6_init_10 : decode cX6_init 10 = .ok (.iconst (-1), 1) := by decide +kernel
theorem dX6_init_11 : decode cX6_init 11 = .ok (.putfield 15, 3) := by decide +kernel
theorem dX6_init_14 : decode cX6_init 14 = .ok (.aload_n 0, 1) := by decide +kernel
theorem dX6_init_15 : decode cX6_init 15 = .ok (.iconst 1, 1) := by decide +kernel
theorem dX6_init_16 : decode cX6_init 16 = .ok (.putfield 18, 3) := by decide +kernel
theorem dX6_init_19 : decode cX6_init 19 = .ok (.aload_n 0, 1) := by decide +kernel
theorem dX6_init_20 : decode cX6_init 20 = .ok (.bipush 16, 2) := by decide +kernel
theorem dX6_init_22 : decode cX6_init 22 = .ok (.newarray .int, 2) := by decide +kernel
theorem dX6_init_24 : decode cX6_init 24 = .ok (.putfield 22, 3) := by decide +kernel
theorem dX6_init_27 : decode cX6_init 27 = .ok (.aload_n 0, 1) := by decide +kernel
theorem dX6_init_28 : decode cX6_init 28 = .ok (.bipush 16, 2) := by decide +kernel
theorem dX6_init_30 : decode cX6_init 30 = .ok (.newarray .int, 2) := by decide +kernel
theorem dX6_init_32 : decode cX6_init 32 = .ok (.putfield 26, 3) := by decide +kernel
theorem dX6_init_35 : decode cX6_init 35 = .ok (.aload_n 0, 1) := by decide +kernel
theorem dX6_init_36 : decode cX6_init 36 = .ok (.bipush 16, 2) := by decide +kernel
theorem dX6_init_38 : decode cX6_init 38 = .ok (.newarray .int, 2) := by decide +kernel
theorem dX6_init_40 : decode cX6_init 40 = .ok (.putfield 29, 3) := by decide +kernel
theorem dX6_init_43 : decode cX6_init 43 = .ok (.aload_n 0, 1) := by decide +kernel
theorem dX6_init_44 : decode cX6_init 44 = .ok (.bipush 16, 2) := by decide +kernel
theorem dX6_init_46 : decode cX6_init 46 = .ok (.newarray .boolean, 2) := by decide +kernel
theorem dX6_init_48 : decode cX6_init 48 = .ok (.putfield 32, 3) := by decide +kernel
theorem dX6_init_51 : decode cX6_init 51 = .ok (.return_, 1) := by decide +kernel
theorem dX6_clear_0 : decode cX6_clear 0 = .ok (.aload_n 0, 1) := by decide +kernel
theorem dX6_clear_1 : decode cX6_clear 1 = .ok (.iconst 0, 1) := by decide +kernel
theorem dX6_clear_2 : decode cX6_clear 2 = .ok (.putfield 36, 3) := by decide +kernel
theorem dX6_clear_5 : decode cX6_clear 5 = .ok (.aload_n 0, 1) := by decide +kernel
theorem dX6_clear_6 : decode cX6_clear 6 = .ok (.iconst 0, 1) := by decide +kernel
theorem dX6_clear_7 : decode cX6_clear 7 = .ok (.putfield 39, 3) := by decide +kernel
theorem dX6_clear_10 : decode cX6_clear 10 = .ok (.aload_n 0, 1) := by decide +kernel
theorem dX6_clear_11 : decode cX6_clear 11 = .ok (.iconst 0, 1) := by decide +kernel
theorem dX6_clear_12 : decode cX6_clear 12 = .ok (.putfield 11, 3) := by decide +kernel
theorem dX6_clear_15 : decode cX6_clear 15 = .ok (.aload_n 0, 1) := by decide +kernel
theorem dX6_clear_16 : decode cX6_clear 16 = .ok (.iconst (-1), 1) := by decide +kernel
theorem dX6_clear_17 : decode cX6_clear 17 = .ok (.putfield 15, 3) := by decide +kernel
theorem dX6_clear_20 : decode cX6_clear 20 = .ok (.aload_n 0, 1) := by decide +kernel
theorem dX6_clear_21 : decode cX6_clear 21 = .ok (.iconst 1, 1) := by decide +kernel
theorem dX6_clear_22 : decode cX6_clear 22 = .ok (.putfield 18, 3) := by decide +kernel
theorem dX6_clear_25 : decode cX6_clear 25 = .ok (.return_, 1) := by decide +kernel
theorem dX6_add_0 : decode cX6_add 0 = .ok (.aload_n 0, 1) := by decide +kernel
theorem dX6_add_1 : decode cX6_add 1 = .ok (.getfield 15, 3) := by decide +kernel
theorem dX6_add_4 : decode cX6_add 4 = .ok (.iconst (-1), 1) := by decide +kernel
theorem dX6_add_5 : decode cX6_add 5 = .ok (.if_icmp .ne 19, 3) := by decide +kernel
theorem dX6_add_8 : decode cX6_add 8 = .ok (.aload_n 0, 1) := by decide +kernel
theorem dX6_add_9 : decode cX6_add 9 = .ok (.iload_n 1, 1) := by decide +kernel
theorem dX6_add_10 : decode cX6_add 10 = .ok (.invokevirtual 42, 3) := by decide +kernel
theorem dX6_add_13 : decode cX6_add 13 = .ok (.ifCond .ne 11, 3) := by decide +kernel
theorem dX6_add_16 : decode cX6_add 16 = .ok (.aload_n 0, 1) := by decide +kernel
theorem dX6_add_17 : decode cX6_add 17 = .ok (.aload_n 0, 1) := by decide +kernel
theorem dX6_add_18 : decode cX6_add 18 = .ok (.getfield 36, 3) := by decide +kernel
theorem dX6_add_21 : decode cX6_add 21 = .ok (.putfield 15, 3) := by decide +kernel
theorem dX6_add_24 : decode cX6_add 24 = .ok (.aload_n 0, 1) := by decide +kernel
theorem dX6_add_25 : decode cX6_add 25 = .ok (.dup, 1) := by decide +kernel
theorem dX6_add_26 : decode cX6_add 26 = .ok (.getfield 36, 3) := by decide +kernel
theorem dX6_add_29 : decode cX6_add 29 = .ok (.iconst 1, 1) := by decide +kernel
theorem dX6_add_30 : decode cX6_add 30 = .ok (.iadd, 1) := by decide +kernel
theorem dX6_add_31 : decode cX6_add 31 = .ok (.putfield 36, 3) := by decide +kernel
theorem dX6_add_34 : decode cX6_add 34 = .ok (.aload_n 0, 1) := by decide +kernel
theorem dX6_add_35 : decode cX6_add 35 = .ok (.getfield 36, 3) := by decide +kernel
theorem dX6_add_38 : decode cX6_add 38 = .ok (.ireturn, 1) := by decide +kernel
theorem dX6_faultPlace_0 : decode cX6_faultPlace 0 = .ok (.aload_n 0, 1) := by decide +kernel
theorem dX6_faultPlace_1 : decode cX6_faultPlace 1 = .ok (.getfield 15, 3) := by decide +kernel
theorem dX6_faultPlace_4 : decode cX6_faultPlace 4 = .ok (.iconst (-1), 1) := by decide +kernel
theorem dX6_faultPlace_5 : decode cX6_faultPlace 5 = .ok (.if_icmp .ne 10, 3) := by decide +kernel
theorem dX6_faultPlace_8 : decode cX6_faultPlace 8 = .ok (.aload_n 0, 1) := by decide +kernel
theorem dX6_faultPlace_9 : decode cX6_faultPlace 9 = .ok (.getfield 36, 3) := by decide +kernel
theorem dX6_faultPlace_12 : decode cX6_faultPlace 12 = .ok (.ifCond .ne 8, 3) := by decide +kernel
theorem dX6_faultPlace_15 : decode cX6_faultPlace 15 = .ok (.aload_n 0, 1) := by decide +kernel
theorem dX6_faultPlace_16 : decode cX6_faultPlace 16 = .ok (.getfield 15, 3) := by decide +kernel
theorem dX6_faultPlace_19 : decode cX6_faultPlace 19 = .ok (.ireturn, 1) := by decide +kernel
theorem dX6_faultPlace_20 : decode cX6_faultPlace 20 = .ok (.aload_n 0, 1) := by decide +kernel
theorem dX6_faultPlace_21 : decode cX6_faultPlace 21 = .ok (.getfield 11, 3) := by decide +kernel
theorem dX6_faultPlace_24 : decode cX6_faultPlace 24 = .ok (.iconst 2, 1) := by decide +kernel
theorem dX6_faultPlace_25 : decode cX6_faultPlace 25 = .ok (.if_icmp .gt 10, 3) := by decide +kernel
theorem dX6_faultPlace_28 : decode cX6_faultPlace 28 = .ok (.aload_n 0, 1) := by decide +kernel
theorem dX6_faultPlace_29 : decode cX6_faultPlace 29 = .ok (.getfield 36, 3) := by decide +kernel
theorem dX6_faultPlace_32 : decode cX6_faultPlace 32 = .ok (.goto 4, 3) := by decide +kernel
theorem dX6_faultPlace_35 : decode cX6_faultPlace 35 = .ok (.iconst (-1), 1) := by decide +kernel
theorem dX6_faultPlace_36 : decode cX6_faultPlace 36 = .ok (.ireturn, 1) := by decide +kernel
theorem dX6_goesOnWith_0 : decode cX6_goesOnWith 0 = .ok (.aload_n 0, 1) := by decide +kernel
theorem dX6_goesOnWith_1 : decode cX6_goesOnWith 1 = .ok (.getfield 11, 3) := by decide +kernel
theorem dX6_goesOnWith_4 : decode cX6_goesOnWith 4 = .ok (.ifCond .ne 9, 3) := by decide +kernel
theorem dX6_goesOnWith_7 : decode cX6_goesOnWith 7 = .ok (.aload_n 0, 1) := by decide +kernel
theorem dX6_goesOnWith_8 : decode cX6_goesOnWith 8 = .ok (.iload_n 1, 1) := by decide +kernel
theorem dX6_goesOnWith_9 : decode cX6_goesOnWith 9 = .ok (.invokevirtual 46, 3) := by decide +kernel
theorem dX6_goesOnWith_12 : decode cX6_goesOnWith 12 = .ok (.ireturn, 1) := by decide +kernel
theorem dX6_goesOnWith_13 : decode cX6_goesOnWith 13 = .ok (.aload_n 0, 1) := by decide +kernel
theorem dX6_goesOnWith_14 : decode cX6_goesOnWith 14 = .ok (.getfield 39, 3) := by decide +kernel
theorem dX6_goesOnWith_17 : decode cX6_goesOnWith 17 = .ok (.iconst 1, 1) := by decide +kernel
theorem dX6_goesOnWith_18 : decode cX6_goesOnWith 18 = .ok (.bipush 16, 2) := by decide +kernel
theorem dX6_goesOnWith_20 : decode cX6_goesOnWith 20 = .ok (.invokestatic 49, 3) := by decide +kernel
theorem dX6_goesOnWith_23 : decode cX6_goesOnWith 23 = .ok (.ifCond .ne 5, 3) := by decide +kernel
theorem dX6_goesOnWith_26 : decode cX6_goesOnWith 26 = .ok (.iconst 0, 1) := by decide +kernel
theorem dX6_goesOnWith_27 : decode cX6_goesOnWith 27 = .ok (.ireturn, 1) := by decide +kernel
theorem dX6_goesOnWith_28 : decode cX6_goesOnWith 28 = .ok (.aload_n 0, 1) := by decide +kernel
theorem dX6_goesOnWith_29 : decode cX6_goesOnWith 29 = .ok (.getfield 11, 3) := by decide +kernel
theorem dX6_goesOnWith_32 : decode cX6_goesOnWith 32 = .ok (.iconst 1, 1) := by decide +kernel
theorem dX6_goesOnWith_33 : decode cX6_goesOnWith 33 = .ok (.if_icmp .ne 9, 3) := by decide +kernel
theorem dX6_goesOnWith_36 : decode cX6_goesOnWith 36 = .ok (.aload_n 0, 1) := by decide +kernel
theorem dX6_goesOnWith_37 : decode cX6_goesOnWith 37 = .ok (.iload_n 1, 1) := by decide +kernel
theorem dX6_goesOnWith_38 : decode cX6_goesOnWith 38 = .ok (.invokevirtual 53, 3) := by decide +kernel
theorem dX6_goesOnWith_41 : decode cX6_goesOnWith 41 = .ok (.ireturn, 1) := by decide +kernel
theorem dX6_goesOnWith_42 : decode cX6_goesOnWith 42 = .ok (.iload_n 1, 1) := by decide +kernel
theorem dX6_goesOnWith_43 : decode cX6_goesOnWith 43 = .ok (.bipush 48, 2) := by decide +kernel
theorem dX6_goesOnWith_45 : decode cX6_goesOnWith 45 = .ok (.bipush 57, 2) := by decide +kernel
theorem dX6_goesOnWith_47 : decode cX6_goesOnWith 47 = .ok (.invokestatic 49, 3) := by decide +kernel
theorem dX6_goesOnWith_50 : decode cX6_goesOnWith 50 = .ok (.ifCond .eq 14, 3) := by decide +kernel
theorem dX6_goesOnWith_53 : decode cX6_goesOnWith 53 = .ok (.aload_n 0, 1) := by decide +kernel
theorem dX6_goesOnWith_54 : decode cX6_goesOnWith 54 = .ok (.iload_n 1, 1) := by decide +kernel
theorem dX6_goesOnWith_55 : decode cX6_goesOnWith 55 = .ok (.bipush 48, 2) := by decide +kernel
theorem dX6_goesOnWith_57 : decode cX6_goesOnWith 57 = .ok (.isub, 1) := by decide +kernel
theorem dX6_goesOnWith_58 : decode cX6_goesOnWith 58 = .ok (.invokevirtual 56, 3) := by decide +kernel
theorem dX6_goesOnWith_61 : decode cX6_goesOnWith 61 = .ok (.goto 8, 3) := by decide +kernel
theorem dX6_goesOnWith_64 : decode cX6_goesOnWith 64 = .ok (.aload_n 0, 1) := by decide +kernel
theorem dX6_goesOnWith_65 : decode cX6_goesOnWith 65 = .ok (.iload_n 1, 1) := by decide +kernel
theorem dX6_goesOnWith_66 : decode cX6_goesOnWith 66 = .ok (.invokevirtual 59, 3) := by decide +kernel
theorem dX6_goesOnWith_69 : decode cX6_goesOnWith 69 = .ok (.ireturn, 1) := by decide +kernel
theorem dX6_beginTest_0 : decode cX6_beginTest 0 = .ok (.iload_n 1, 1) := by decide +kernel
theorem dX6_beginTest_1 : decode cX6_beginTest 1 = .ok (.bipush 121, 2) := by decide +kernel
theorem dX6_beginTest_3 : decode cX6_beginTest 3 = .ok (.if_icmp .eq 21, 3) := by decide +kernel
theorem dX6_beginTest_6 : decode cX6_beginTest 6 = .ok (.iload_n 1, 1) := by decide +kernel
theorem dX6_beginTest_7 : decode cX6_beginTest 7 = .ok (.bipush 109, 2) := by decide +kernel
theorem dX6_beginTest_9 : decode cX6_beginTest 9 = .ok (.if_icmp .eq 15, 3) := by decide +kernel
theorem dX6_beginTest_12 : decode cX6_beginTest 12 = .ok (.iload_n 1, 1) := by decide +kernel
theorem dX6_beginTest_13 : decode cX6_beginTest 13 = .ok (.bipush 115, 2) := by decide +kernel
theorem dX6_beginTest_15 : decode cX6_beginTest 15 = .ok (.if_icmp .eq 9, 3) := by decide +kernel
theorem dX6_beginTest_18 : decode cX6_beginTest 18 = .ok (.iload_n 1, 1) := by decide +kernel
theorem dX6_beginTest_19 : decode cX6_beginTest 19 = .ok (.bipush 104, 2) := by decide +kernel
theorem dX6_beginTest_21 : decode cX6_beginTest 21 = .ok (.if_icmp .ne 7, 3) := by decide +kernel
theorem dX6_beginTest_24 : decode cX6_beginTest 24 = .ok (.iconst 1, 1) := by decide +kernel
theorem dX6_beginTest_25 : decode cX6_beginTest 25 = .ok (.goto 4, 3) := by decide +kernel
theorem dX6_beginTest_28 : decode cX6_beginTest 28 = .ok (.iconst 0, 1) := by decide +kernel
theorem dX6_beginTest_29 : decode cX6_beginTest 29 = .ok (.istore_n 2, 1) := by decide +kernel
theorem dX6_beginTest_30 : decode cX6_beginTest 30 = .ok (.iload_n 2, 1) := by decide +kernel
theorem dX6_beginTest_31 : decode cX6_beginTest 31 = .ok (.ifCond .eq 12, 3) := by decide +kernel
theorem dX6_beginTest_34 : decode cX6_beginTest 34 = .ok (.aload_n 0, 1) := by decide +kernel
theorem dX6_beginTest_35 : decode cX6_beginTest 35 = .ok (.getfield 39, 3) := by decide +kernel
theorem dX6_beginTest_38 : decode cX6_beginTest 38 = .ok (.bipush 16, 2) := by decide +kernel
theorem dX6_beginTest_40 : decode cX6_beginTest 40 = .ok (.if_icmp .lt 5, 3) := by decide +kernel
theorem dX6_beginTest_43 : decode cX6_beginTest 43 = .ok (.iconst 0, 1) := by decide +kernel
theorem dX6_beginTest_44 : decode cX6_beginTest 44 = .ok (.ireturn, 1) := by decide +kernel
theorem dX6_beginTest_45 : decode cX6_beginTest 45 = .ok (.aload_n 0, 1) := by decide +kernel
theorem dX6_beginTest_46 : decode cX6_beginTest 46 = .ok (.getfield 22, 3) := by decide +kernel
theorem dX6_beginTest_49 : decode cX6_beginTest 49 = .ok (.aload_n 0, 1) := by decide +kernel
theorem dX6_beginTest_50 : decode cX6_beginTest 50 = .ok (.getfield 39, 3) := by decide +kernel
theorem dX6_beginTest_53 : decode cX6_beginTest 53 = .ok (.iload_n 1, 1) := by decide +kernel
theorem dX6_beginTest_54 : decode cX6_beginTest 54 = .ok (.iastore, 1) := by decide +kernel
theorem dX6_beginTest_55 : decode cX6_beginTest 55 = .ok (.aload_n 0, 1) := by decide +kernel
theorem dX6_beginTest_56 : decode cX6_beginTest 56 = .ok (.getfield 29, 3) := by decide +kernel
theorem dX6_beginTest_59 : decode cX6_beginTest 59 = .ok (.aload_n 0, 1) := by decide +kernel
theorem dX6_beginTest_60 : decode cX6_beginTest 60 = .ok (.getfield 39, 3) := by decide +kernel
theorem dX6_beginTest_63 : decode cX6_beginTest 63 = .ok (.iconst 0, 1) := by decide +kernel
theorem dX6_beginTest_64 : decode cX6_beginTest 64 = .ok (.iastore, 1) := by decide +kernel
theorem dX6_beginTest_65 : decode cX6_beginTest 65 = .ok (.aload_n 0, 1) := by decide +kernel
theorem dX6_beginTest_66 : decode cX6_beginTest 66 = .ok (.getfield 32, 3) := by decide +kernel
theorem dX6_beginTest_69 : decode cX6_beginTest 69 = .ok (.aload_n 0, 1) := by decide +kernel
theorem dX6_beginTest_70 : decode cX6_beginTest 70 = .ok (.getfield 39, 3) := by decide +kernel
theorem dX6_beginTest_73 : decode cX6_beginTest 73 = .ok (.aload_n 0, 1) := by decide +kernel
theorem dX6_beginTest_74 : decode cX6_beginTest 74 = .ok (.getfield 18, 3) := by decide +kernel
theorem dX6_beginTest_77 : decode cX6_beginTest 77 = .ok (.bastore, 1) := by decide +kernel
theorem dX6_beginTest_78 : decode cX6_beginTest 78 = .ok (.aload_n 0, 1) := by decide +kernel
theorem dX6_beginTest_79 : decode cX6_beginTest 79 = .ok (.dup, 1) := by decide +kernel
theorem dX6_beginTest_80 : decode cX6_beginTest 80 = .ok (.getfield 39, 3) := by decide +kernel
theorem dX6_beginTest_83 : decode cX6_beginTest 83 = .ok (.iconst 1, 1) := by decide +kernel
theorem dX6_beginTest_84 : decode cX6_beginTest 84 = .ok (.iadd, 1) := by decide +kernel
theorem dX6_beginTest_85 : decode cX6_beginTest 85 = .ok (.putfield 39, 3) := by decide +kernel
theorem dX6_beginTest_88 : decode cX6_beginTest 88 = .ok (.aload_n 0, 1) := by decide +kernel
theorem dX6_beginTest_89 : decode cX6_beginTest 89 = .ok (.iconst 1, 1) := by decide +kernel
theorem dX6_beginTest_90 : decode cX6_beginTest 90 = .ok (.putfield 11, 3) := by decide +kernel
theorem dX6_beginTest_93 : decode cX6_beginTest 93 = .ok (.iconst 1, 1) := by decide +kernel
theorem dX6_beginTest_94 : decode cX6_beginTest 94 = .ok (.ireturn, 1) := by decide +kernel
theorem dX6_takeSign_0 : decode cX6_takeSign 0 = .ok (.iload_n 1, 1) := by decide +kernel
theorem dX6_takeSign_1 : decode cX6_takeSign 1 = .ok (.bipush 60, 2) := by decide +kernel
theorem dX6_takeSign_3 : decode cX6_takeSign 3 = .ok (.if_icmp .eq 17, 3) := by decide +kernel
theorem dX6_takeSign_6 : decode cX6_takeSign 6 = .ok (.iload_n 1, 1) := by decide +kernel
theorem dX6_takeSign_7 : decode cX6_takeSign 7 = .ok (.bipush 61, 2) := by decide +kernel
theorem dX6_takeSign_9 : decode cX6_takeSign 9 = .ok (.if_icmp .eq 11, 3) := by decide +kernel
theorem dX6_takeSign_12 : decode cX6_takeSign 12 = .ok (.iload_n 1, 1) := by decide +kernel
theorem dX6_takeSign_13 : decode cX6_takeSign 13 = .ok (.bipush 62, 2) := by decide +kernel
theorem dX6_takeSign_15 : decode cX6_takeSign 15 = .ok (.if_icmp .eq 5, 3) := by decide +kernel
theorem dX6_takeSign_18 : decode cX6_takeSign 18 = .ok (.iconst 0, 1) := by decide +kernel
theorem dX6_takeSign_19 : decode cX6_takeSign 19 = .ok (.ireturn, 1) := by decide +kernel
theorem dX6_takeSign_20 : decode cX6_takeSign 20 = .ok (.aload_n 0, 1) := by decide +kernel
theorem dX6_takeSign_21 : decode cX6_takeSign 21 = .ok (.getfield 26, 3) := by decide +kernel
theorem dX6_takeSign_24 : decode cX6_takeSign 24 = .ok (.aload_n 0, 1) := by decide +kernel
theorem dX6_takeSign_25 : decode cX6_takeSign 25 = .ok (.getfield 39, 3) := by decide +kernel
theorem dX6_takeSign_28 : decode cX6_takeSign 28 = .ok (.iconst 1, 1) := by decide +kernel
theorem dX6_takeSign_29 : decode cX6_takeSign 29 = .ok (.isub, 1) := by decide +kernel
theorem dX6_takeSign_30 : decode cX6_takeSign 30 = .ok (.iload_n 1, 1) := by decide +kernel
theorem dX6_takeSign_31 : decode cX6_takeSign 31 = .ok (.iastore, 1) := by decide +kernel
theorem dX6_takeSign_32 : decode cX6_takeSign 32 = .ok (.aload_n 0, 1) := by decide +kernel
theorem dX6_takeSign_33 : decode cX6_takeSign 33 = .ok (.iconst 2, 1) := by decide +kernel
theorem dX6_takeSign_34 : decode cX6_takeSign 34 = .ok (.putfield 11, 3) := by decide +kernel
theorem dX6_takeSign_37 : decode cX6_takeSign 37 = .ok (.iconst 1, 1) := by decide +kernel
theorem dX6_takeSign_38 : decode cX6_takeSign 38 = .ok (.ireturn, 1) := by decide +kernel
theorem dX6_takeFigure_0 : decode cX6_takeFigure 0 = .ok (.aload_n 0, 1) := by decide +kernel
theorem dX6_takeFigure_1 : decode cX6_takeFigure 1 = .ok (.getfield 11, 3) := by decide +kernel
theorem dX6_takeFigure_4 : decode cX6_takeFigure 4 = .ok (.iconst 5, 1) := by decide +kernel
theorem dX6_takeFigure_5 : decode cX6_takeFigure 5 = .ok (.if_icmp .lt 5, 3) := by decide +kernel
theorem dX6_takeFigure_8 : decode cX6_takeFigure 8 = .ok (.iconst 0, 1) := by decide +kernel
theorem dX6_takeFigure_9 : decode cX6_takeFigure 9 = .ok (.ireturn, 1) := by decide +kernel
theorem dX6_takeFigure_10 : decode cX6_takeFigure 10 = .ok (.aload_n 0, 1) := by decide +kernel
theorem dX6_takeFigure_11 : decode cX6_takeFigure 11 = .ok (.getfield 29, 3) := by decide +kernel
theorem dX6_takeFigure_14 : decode cX6_takeFigure 14 = .ok (.aload_n 0, 1) := by decide +kernel
theorem dX6_takeFigure_15 : decode cX6_takeFigure 15 = .ok (.getfield 39, 3) := by decide +kernel
theorem dX6_takeFigure_18 : decode cX6_takeFigure 18 = .ok (.iconst 1, 1) := by decide +kernel
theorem dX6_takeFigure_19 : decode cX6_takeFigure 19 = .ok (.isub, 1) := by decide +kernel
theorem dX6_takeFigure_20 : decode cX6_takeFigure 20 = .ok (.bipush 10, 2) := by decide +kernel
theorem dX6_takeFigure_22 : decode cX6_takeFigure 22 = .ok (.aload_n 0, 1) := by decide +kernel
theorem dX6_takeFigure_23 : decode cX6_takeFigure 23 = .ok (.getfield 29, 3) := by decide +kernel
theorem dX6_takeFigure_26 : decode cX6_takeFigure 26 = .ok (.aload_n 0, 1) := by decide +kernel
theorem dX6_takeFigure_27 : decode cX6_takeFigure 27 = .ok (.getfield 39, 3) := by decide +kernel
theorem dX6_takeFigure_30 : decode cX6_takeFigure 30 = .ok (.iconst 1, 1) := by decide +kernel
theorem dX6_takeFigure_31 : decode cX6_takeFigure 31 = .ok (.isub, 1) := by decide +kernel
theorem dX6_takeFigure_32 : decode cX6_takeFigure 32 = .ok (.iaload, 1) := by decide +kernel
theorem dX6_takeFigure_33 : decode cX6_takeFigure 33 = .ok (.imul, 1) := by decide +kernel
theorem dX6_takeFigure_34 : decode cX6_takeFigure 34 = .ok (.iload_n 1, 1) := by decide +kernel
theorem dX6_takeFigure_35 : decode cX6_takeFigure 35 = .ok (.iadd, 1) := by decide +kernel
theorem dX6_takeFigure_36 : decode cX6_takeFigure 36 = .ok (.iastore, 1) := by decide +kernel
theorem dX6_takeFigure_37 : decode cX6_takeFigure 37 = .ok (.aload_n 0, 1) := by decide +kernel
theorem dX6_takeFigure_38 : decode cX6_takeFigure 38 = .ok (.dup, 1) := by decide +kernel
theorem dX6_takeFigure_39 : decode cX6_takeFigure 39 = .ok (.getfield 11, 3) := by decide +kernel
theorem dX6_takeFigure_42 : decode cX6_takeFigure 42 = .ok (.iconst 1, 1) := by decide +kernel
theorem dX6_takeFigure_43 : decode cX6_takeFigure 43 = .ok (.iadd, 1) := by decide +kernel
theorem dX6_takeFigure_44 : decode cX6_takeFigure 44 = .ok (.putfield 11, 3) := by decide +kernel
theorem dX6_takeFigure_47 : decode cX6_takeFigure 47 = .ok (.iconst 1, 1) := by decide +kernel
theorem dX6_takeFigure_48 : decode cX6_takeFigure 48 = .ok (.ireturn, 1) := by decide +kernel
theorem dX6_endTest_0 : decode cX6_endTest 0 = .ok (.aload_n 0, 1) := by decide +kernel
theorem dX6_endTest_1 : decode cX6_endTest 1 = .ok (.getfield 11, 3) := by decide +kernel
theorem dX6_endTest_4 : decode cX6_endTest 4 = .ok (.iconst 2, 1) := by decide +kernel
theorem dX6_endTest_5 : decode cX6_endTest 5 = .ok (.if_icmp .eq 15, 3) := by decide +kernel
theorem dX6_endTest_8 : decode cX6_endTest 8 = .ok (.iload_n 1, 1) := by decide +kernel
theorem dX6_endTest_9 : decode cX6_endTest 9 = .ok (.bipush 38, 2) := by decide +kernel
theorem dX6_endTest_11 : decode cX6_endTest 11 = .ok (.if_icmp .eq 11, 3) := by decide +kernel
theorem dX6_endTest_14 : decode cX6_endTest 14 = .ok (.iload_n 1, 1) := by decide +kernel
theorem dX6_endTest_15 : decode cX6_endTest 15 = .ok (.bipush 124, 2) := by decide +kernel
theorem dX6_endTest_17 : decode cX6_endTest 17 = .ok (.if_icmp .eq 5, 3) := by decide +kernel
theorem dX6_endTest_20 : decode cX6_endTest 20 = .ok (.iconst 0, 1) := by decide +kernel
theorem dX6_endTest_21 : decode cX6_endTest 21 = .ok (.ireturn, 1) := by decide +kernel
theorem dX6_endTest_22 : decode cX6_endTest 22 = .ok (.aload_n 0, 1) := by decide +kernel
theorem dX6_endTest_23 : decode cX6_endTest 23 = .ok (.iload_n 1, 1) := by decide +kernel
theorem dX6_endTest_24 : decode cX6_endTest 24 = .ok (.bipush 124, 2) := by decide +kernel
theorem dX6_endTest_26 : decode cX6_endTest 26 = .ok (.if_icmp .ne 7, 3) := by decide +kernel
theorem dX6_endTest_29 : decode cX6_endTest 29 = .ok (.iconst 1, 1) := by decide +kernel
theorem dX6_endTest_30 : decode cX6_endTest 30 = .ok (.goto 4, 3) := by decide +kernel
theorem dX6_endTest_33 : decode cX6_endTest 33 = .ok (.iconst 0, 1) := by decide +kernel
theorem dX6_endTest_34 : decode cX6_endTest 34 = .ok (.putfield 18, 3) := by decide +kernel
theorem dX6_endTest_37 : decode cX6_endTest 37 = .ok (.aload_n 0, 1) := by decide +kernel
theorem dX6_endTest_38 : decode cX6_endTest 38 = .ok (.iconst 0, 1) := by decide +kernel
theorem dX6_endTest_39 : decode cX6_endTest 39 = .ok (.putfield 11, 3) := by decide +kernel
theorem dX6_endTest_42 : decode cX6_endTest 42 = .ok (.iconst 1, 1) := by decide +kernel
theorem dX6_endTest_43 : decode cX6_endTest 43 = .ok (.ireturn, 1) := by decide +kernel
theorem dX6_allows_0 : decode cX6_allows 0 = .ok (.aload_n 0, 1) := by decide +kernel
theorem dX6_allows_1 : decode cX6_allows 1 = .ok (.getfield 39, 3) := by decide +kernel
theorem dX6_allows_4 : decode cX6_allows 4 = .ok (.ifCond .eq 11, 3) := by decide +kernel
theorem dX6_allows_7 : decode cX6_allows 7 = .ok (.aload_n 0, 1) := by decide +kernel
theorem dX6_allows_8 : decode cX6_allows 8 = .ok (.invokevirtual 62, 3) := by decide +kernel
theorem dX6_allows_11 : decode cX6_allows 11 = .ok (.iconst (-1), 1) := by decide +kernel
theorem dX6_allows_12 : decode cX6_allows 12 = .ok (.if_icmp .eq 5, 3) := by decide +kernel
theorem dX6_allows_15 : decode cX6_allows 15 = .ok (.iconst 1, 1) := by decide +kernel
theorem dX6_allows_16 : decode cX6_allows 16 = .ok (.ireturn, 1) := by decide +kernel
theorem dX6_allows_17 : decode cX6_allows 17 = .ok (.iconst 0, 1) := by decide +kernel
theorem dX6_allows_18 : decode cX6_allows 18 = .ok (.istore 5, 2) := by decide +kernel
theorem dX6_allows_20 : decode cX6_allows 20 = .ok (.iconst 0, 1) := by decide +kernel
theorem dX6_allows_21 : decode cX6_allows 21 = .ok (.istore 6, 2) := by decide +kernel
theorem dX6_allows_23 : decode cX6_allows 23 = .ok (.iload 6, 2) := by decide +kernel
theorem dX6_allows_25 : decode cX6_allows 25 = .ok (.aload_n 0, 1) := by decide +kernel
theorem dX6_allows_26 : decode cX6_allows 26 = .ok (.getfield 39, 3) := by decide +kernel
theorem dX6_allows_29 : decode cX6_allows 29 = .ok (.if_icmp .ge 83, 3) := by decide +kernel
theorem dX6_allows_32 : decode cX6_allows 32 = .ok (.iload 6, 2) := by decide +kernel
theorem dX6_allows_34 : decode cX6_allows 34 = .ok (.bipush 16, 2) := by decide +kernel
theorem dX6_allows_36 : decode cX6_allows 36 = .ok (.if_icmp .ge 76, 3) := by decide +kernel
theorem dX6_allows_39 : decode cX6_allows 39 = .ok (.aload_n 0, 1) := by decide +kernel
theorem dX6_allows_40 : decode cX6_allows 40 = .ok (.getfield 32, 3) := by decide +kernel
theorem dX6_allows_43 : decode cX6_allows 43 = .ok (.iload 6, 2) := by decide +kernel
theorem dX6_allows_45 : decode cX6_allows 45 = .ok (.baload, 1) := by decide +kernel
theorem dX6_allows_46 : decode cX6_allows 46 = .ok (.ifCond .eq 13, 3) := by decide +kernel
theorem dX6_allows_49 : decode cX6_allows 49 = .ok (.iload 5, 2) := by decide +kernel
theorem dX6_allows_51 : decode cX6_allows 51 = .ok (.ifCond .eq 5, 3) := by decide +kernel
theorem dX6_allows_54 : decode cX6_allows 54 = .ok (.iconst 1, 1) := by decide +kernel
theorem dX6_allows_55 : decode cX6_allows 55 = .ok (.ireturn, 1) := by decide +kernel
theorem dX6_allows_56 : decode cX6_allows 56 = .ok (.iconst 1, 1) := by decide +kernel
theorem dX6_allows_57 : decode cX6_allows 57 = .ok (.istore 5, 2) := by decide +kernel
theorem dX6_allows_59 : decode cX6_allows 59 = .ok (.iload 5, 2) := by decide +kernel
theorem dX6_allows_61 : decode cX6_allows 61 = .ok (.ifCond .eq 42, 3) := by decide +kernel
theorem dX6_allows_64 : decode cX6_allows 64 = .ok (.aload_n 0, 1) := by decide +kernel
theorem dX6_allows_65 : decode cX6_allows 65 = .ok (.getfield 22, 3) := by decide +kernel
theorem dX6_allows_68 : decode cX6_allows 68 = .ok (.iload 6, 2) := by decide +kernel
theorem dX6_allows_70 : decode cX6_allows 70 = .ok (.iaload, 1) := by decide +kernel
theorem dX6_allows_71 : decode cX6_allows 71 = .ok (.iload_n 1, 1) := by decide +kernel
theorem dX6_allows_72 : decode cX6_allows 72 = .ok (.iload_n 2, 1) := by decide +kernel
theorem dX6_allows_73 : decode cX6_allows 73 = .ok (.iload_n 3, 1) := by decide +kernel
theorem dX6_allows_74 : decode cX6_allows 74 = .ok (.iload 4, 2) := by decide +kernel
theorem dX6_allows_76 : decode cX6_allows 76 = .ok (.invokestatic 66, 3) := by decide +kernel
theorem dX6_allows_79 : decode cX6_allows 79 = .ok (.aload_n 0, 1) := by decide +kernel
theorem dX6_allows_80 : decode cX6_allows 80 = .ok (.getfield 26, 3) := by decide +kernel
theorem dX6_allows_83 : decode cX6_allows 83 = .ok (.iload 6, 2) := by decide +kernel
theorem dX6_allows_85 : decode cX6_allows 85 = .ok (.iaload, 1) := by decide +kernel
theorem dX6_allows_86 : decode cX6_allows 86 = .ok (.aload_n 0, 1) := by decide +kernel
theorem dX6_allows_87 : decode cX6_allows 87 = .ok (.getfield 29, 3) := by decide +kernel
theorem dX6_allows_90 : decode cX6_allows 90 = .ok (.iload 6, 2) := by decide +kernel
theorem dX6_allows_92 : decode cX6_allows 92 = .ok (.iaload, 1) := by decide +kernel
theorem dX6_allows_93 : decode cX6_allows 93 = .ok (.invokestatic 70, 3) := by decide +kernel
theorem dX6_allows_96 : decode cX6_allows 96 = .ok (.ifCond .eq 7, 3) := by decide +kernel
theorem dX6_allows_99 : decode cX6_allows 99 = .ok (.iconst 1, 1) := by decide +kernel
theorem dX6_allows_100 : decode cX6_allows 100 = .ok (.goto 4, 3) := by decide +kernel
theorem dX6_allows_103 : decode cX6_allows 103 = .ok (.iconst 0, 1) := by decide +kernel
theorem dX6_allows_104 : decode cX6_allows 104 = .ok (.istore 5, 2) := by decide +kernel
theorem dX6_allows_106 : decode cX6_allows 106 = .ok (.iinc 6 1, 3) := by decide +kernel
theorem dX6_allows_109 : decode cX6_allows 109 = .ok (.goto (-86), 3) := by decide +kernel
theorem dX6_allows_112 : decode cX6_allows 112 = .ok (.iload 5, 2) := by decide +kernel
theorem dX6_allows_114 : decode cX6_allows 114 = .ok (.ireturn, 1) := by decide +kernel
theorem dX6_asked_0 : decode cX6_asked 0 = .ok (.iload_n 0, 1) := by decide +kernel
theorem dX6_asked_1 : decode cX6_asked 1 = .ok (.lookupswitch 41 #[(109, 37), (115, 39), (121, 35)], 35) := by decide +kernel
theorem dX6_asked_36 : decode cX6_asked 36 = .ok (.iload_n 1, 1) := by decide +kernel
theorem dX6_asked_37 : decode cX6_asked 37 = .ok (.ireturn, 1) := by decide +kernel
theorem dX6_asked_38 : decode cX6_asked 38 = .ok (.iload_n 2, 1) := by decide +kernel
theorem dX6_asked_39 : decode cX6_asked 39 = .ok (.ireturn, 1) := by decide +kernel
theorem dX6_asked_40 : decode cX6_asked 40 = .ok (.iload_n 3, 1) := by decide +kernel
theorem dX6_asked_41 : decode cX6_asked 41 = .ok (.ireturn, 1) := by decide +kernel
theorem dX6_asked_42 : decode cX6_asked 42 = .ok (.iload 4, 2) := by decide +kernel
theorem dX6_asked_44 : decode cX6_asked 44 = .ok (.ireturn, 1) := by decide +kernel
theorem dX6_compares_0 : decode cX6_compares 0 = .ok (.iload_n 1, 1) := by decide +kernel
theorem dX6_compares_1 : decode cX6_compares 1 = .ok (.lookupswitch 49 #[(60, 27), (61, 38)], 27) := by decide +kernel
theorem dX6_compares_28 : decode cX6_compares 28 = .ok (.iload_n 0, 1) := by decide +kernel
theorem dX6_compares_29 : decode cX6_compares 29 = .ok (.iload_n 2, 1) := by decide +kernel
theorem dX6_compares_30 : decode cX6_compares 30 = .ok (.if_icmp .ge 7, 3) := by decide +kernel
theorem dX6_compares_33 : decode cX6_compares 33 = .ok (.iconst 1, 1) := by decide +kernel
theorem dX6_compares_34 : decode cX6_compares 34 = .ok (.goto 4, 3) := by decide +kernel
theorem dX6_compares_37 : decode cX6_compares 37 = .ok (.iconst 0, 1) := by decide +kernel
theorem dX6_compares_38 : decode cX6_compares 38 = .ok (.ireturn, 1) := by decide +kernel
theorem dX6_compares_39 : decode cX6_compares 39 = .ok (.iload_n 0, 1) := by decide +kernel
theorem dX6_compares_40 : decode cX6_compares 40 = .ok (.iload_n 2, 1) := by decide +kernel
theorem dX6_compares_41 : decode cX6_compares 41 = .ok (.if_icmp .ne 7, 3) := by decide +kernel
theorem dX6_compares_44 : decode cX6_compares 44 = .ok (.iconst 1, 1) := by decide +kernel
theorem dX6_compares_45 : decode cX6_compares 45 = .ok (.goto 4, 3) := by decide +kernel
theorem dX6_compares_48 : decode cX6_compares 48 = .ok (.iconst 0, 1) := by decide +kernel
theorem dX6_compares_49 : decode cX6_compares 49 = .ok (.ireturn, 1) := by decide +kernel
theorem dX6_compares_50 : decode cX6_compares 50 = .ok (.iload_n 0, 1) := by decide +kernel
theorem dX6_compares_51 : decode cX6_compares 51 = .ok (.iload_n 2, 1) := by decide +kernel
theorem dX6_compares_52 : decode cX6_compares 52 = .ok (.if_icmp .le 7, 3) := by decide +kernel
theorem dX6_compares_55 : decode cX6_compares 55 = .ok (.iconst 1, 1) := by decide +kernel
theorem dX6_compares_56 : decode cX6_compares 56 = .ok (.goto 4, 3) := by decide +kernel
theorem dX6_compares_59 : decode cX6_compares 59 = .ok (.iconst 0, 1) := by decide +kernel
theorem dX6_compares_60 : decode cX6_compares 60 = .ok (.ireturn, 1) := by decide +kernel
theorem dX7_init_0 : decode cX7_init 0 = .ok (.aload_n 0, 1) := by decide +kernel
theorem dX7_init_1 : decode cX7_init 1 = .ok (.invokespecial 3, 3) := by decide +kernel
theorem dX7_init_4 : decode cX7_init 4 = .ok (.aload_n 0, 1) := by decide +kernel
theorem dX7_init_5 : decode cX7_init 5 = .ok (.new 9, 3) := by decide +kernel
theorem dX7_init_8 : decode cX7_init 8 = .ok (.dup, 1) := by decide +kernel
theorem dX7_init_9 : decode cX7_init 9 = .ok (.invokespecial 11, 3) := by decide +kernel
theorem dX7_init_12 : decode cX7_init 12 = .ok (.putfield 12, 3) := by decide +kernel
theorem dX7_init_15 : decode cX7_init 15 = .ok (.aload_n 0, 1) := by decide +kernel
theorem dX7_init_16 : decode cX7_init 16 = .ok (.new 18, 3) := by decide +kernel
theorem dX7_init_19 : decode cX7_init 19 = .ok (.dup, 1) := by decide +kernel
theorem dX7_init_20 : decode cX7_init 20 = .ok (.invokespecial 20, 3) := by decide +kernel
theorem dX7_init_23 : decode cX7_init 23 = .ok (.putfield 21, 3) := by decide +kernel
theorem dX7_init_26 : decode cX7_init 26 = .ok (.aload_n 0, 1) := by decide +kernel
theorem dX7_init_27 : decode cX7_init 27 = .ok (.new 25, 3) := by decide +kernel
theorem dX7_init_30 : decode cX7_init 30 = .ok (.dup, 1) := by decide +kernel
theorem dX7_init_31 : decode cX7_init 31 = .ok (.invokespecial 27, 3) := by decide +kernel
theorem dX7_init_34 : decode cX7_init 34 = .ok (.putfield 28, 3) := by decide +kernel
theorem dX7_init_37 : decode cX7_init 37 = .ok (.aload_n 0, 1) := by decide +kernel
theorem dX7_init_38 : decode cX7_init 38 = .ok (.bipush 16, 2) := by decide +kernel
theorem dX7_init_40 : decode cX7_init 40 = .ok (.newarray .int, 2) := by decide +kernel
theorem dX7_init_42 : decode cX7_init 42 = .ok (.putfield 32, 3) := by decide +kernel
theorem dX7_init_45 : decode cX7_init 45 = .ok (.return_, 1) := by decide +kernel
theorem dX7_suits_0 : decode cX7_suits 0 = .ok (.aload_n 0, 1) := by decide +kernel
theorem dX7_suits_1 : decode cX7_suits 1 = .ok (.getfield 21, 3) := by decide +kernel
theorem dX7_suits_4 : decode cX7_suits 4 = .ok (.iload_n 1, 1) := by decide +kernel
theorem dX7_suits_5 : decode cX7_suits 5 = .ok (.invokevirtual 36, 3) := by decide +kernel
theorem dX7_suits_8 : decode cX7_suits 8 = .ok (.ifCond .eq 33, 3) := by decide +kernel
theorem dX7_suits_11 : decode cX7_suits 11 = .ok (.aload_n 0, 1) := by decide +kernel
theorem dX7_suits_12 : decode cX7_suits 12 = .ok (.getfield 12, 3) := by decide +kernel
theorem dX7_suits_15 : decode cX7_suits 15 = .ok (.iload_n 2, 1) := by decide +kernel
theorem dX7_suits_16 : decode cX7_suits 16 = .ok (.invokevirtual 40, 3) := by decide +kernel
theorem dX7_suits_19 : decode cX7_suits 19 = .ok (.ifCond .eq 22, 3) := by decide +kernel
theorem dX7_suits_22 : decode cX7_suits 22 = .ok (.aload_n 0, 1) := by decide +kernel
theorem dX7_suits_23 : decode cX7_suits 23 = .ok (.getfield 12, 3) := by decide +kernel
theorem dX7_suits_26 : decode cX7_suits 26 = .ok (.aload_n 0, 1) := by decide +kernel
theorem dX7_suits_27 : decode cX7_suits 27 = .ok (.getfield 12, 3) := by decide +kernel
theorem dX7_suits_30 : decode cX7_suits 30 = .ok (.getfield 41, 3) := by decide +kernel
theorem dX7_suits_33 : decode cX7_suits 33 = .ok (.iload_n 2, 1) := by decide +kernel
theorem dX7_suits_34 : decode cX7_suits 34 = .ok (.iaload, 1) := by decide +kernel
theorem dX7_suits_35 : decode cX7_suits 35 = .ok (.invokevirtual 44, 3) := by decide +kernel
theorem dX7_suits_38 : decode cX7_suits 38 = .ok (.ifCond .eq 5, 3) := by decide +kernel
theorem dX7_suits_41 : decode cX7_suits 41 = .ok (.iconst 0, 1) := by decide +kernel
theorem dX7_suits_42 : decode cX7_suits 42 = .ok (.ireturn, 1) := by decide +kernel
theorem dX7_suits_43 : decode cX7_suits 43 = .ok (.aload_n 0, 1) := by decide +kernel
theorem dX7_suits_44 : decode cX7_suits 44 = .ok (.getfield 28, 3) := by decide +kernel
theorem dX7_suits_47 : decode cX7_suits 47 = .ok (.aload_n 0, 1) := by decide +kernel
theorem dX7_suits_48 : decode cX7_suits 48 = .ok (.getfield 21, 3) := by decide +kernel
theorem dX7_suits_51 : decode cX7_suits 51 = .ok (.getfield 47, 3) := by decide +kernel
theorem dX7_suits_54 : decode cX7_suits 54 = .ok (.iload_n 1, 1) := by decide +kernel
theorem dX7_suits_55 : decode cX7_suits 55 = .ok (.iaload, 1) := by decide +kernel
theorem dX7_suits_56 : decode cX7_suits 56 = .ok (.aload_n 0, 1) := by decide +kernel
theorem dX7_suits_57 : decode cX7_suits 57 = .ok (.getfield 12, 3) := by decide +kernel
theorem dX7_suits_60 : decode cX7_suits 60 = .ok (.getfield 50, 3) := by decide +kernel
theorem dX7_suits_63 : decode cX7_suits 63 = .ok (.iload_n 2, 1) := by decide +kernel
theorem dX7_suits_64 : decode cX7_suits 64 = .ok (.iaload, 1) := by decide +kernel
theorem dX7_suits_65 : decode cX7_suits 65 = .ok (.aload_n 0, 1) := by decide +kernel
theorem dX7_suits_66 : decode cX7_suits 66 = .ok (.getfield 12, 3) := by decide +kernel
theorem dX7_suits_69 : decode cX7_suits 69 = .ok (.getfield 53, 3) := by decide +kernel
theorem dX7_suits_72 : decode cX7_suits 72 = .ok (.iload_n 2, 1) := by decide +kernel
theorem dX7_suits_73 : decode cX7_suits 73 = .ok (.iaload, 1) := by decide +kernel
theorem dX7_suits_74 : decode cX7_suits 74 = .ok (.aload_n 0, 1) := by decide +kernel
theorem dX7_suits_75 : decode cX7_suits 75 = .ok (.getfield 12, 3) := by decide +kernel
theorem dX7_suits_78 : decode cX7_suits 78 = .ok (.getfield 41, 3) := by decide +kernel
theorem dX7_suits_81 : decode cX7_suits 81 = .ok (.iload_n 2, 1) := by decide +kernel
theorem dX7_suits_82 : decode cX7_suits 82 = .ok (.iaload, 1) := by decide +kernel
theorem dX7_suits_83 : decode cX7_suits 83 = .ok (.invokevirtual 56, 3) := by decide +kernel
theorem dX7_suits_86 : decode cX7_suits 86 = .ok (.ireturn, 1) := by decide +kernel
theorem dX7_weighAll_0 : decode cX7_weighAll 0 = .ok (.iconst 0, 1) := by decide +kernel
theorem dX7_weighAll_1 : decode cX7_weighAll 1 = .ok (.istore_n 1, 1) := by decide +kernel
theorem dX7_weighAll_2 : decode cX7_weighAll 2 = .ok (.iload_n 1, 1) := by decide +kernel
theorem dX7_weighAll_3 : decode cX7_weighAll 3 = .ok (.aload_n 0, 1) := by decide +kernel
theorem dX7_weighAll_4 : decode cX7_weighAll 4 = .ok (.getfield 21, 3) := by decide +kernel
theorem dX7_weighAll_7 : decode cX7_weighAll 7 = .ok (.getfield 60, 3) := by decide +kernel
theorem dX7_weighAll_10 : decode cX7_weighAll 10 = .ok (.if_icmp .ge 56, 3) := by decide +kernel
theorem dX7_weighAll_13 : decode cX7_weighAll 13 = .ok (.aload_n 0, 1) := by decide +kernel
theorem dX7_weighAll_14 : decode cX7_weighAll 14 = .ok (.getfield 32, 3) := by decide +kernel
theorem dX7_weighAll_17 : decode cX7_weighAll 17 = .ok (.iload_n 1, 1) := by decide +kernel
theorem dX7_weighAll_18 : decode cX7_weighAll 18 = .ok (.iconst 0, 1) := by decide +kernel
theorem dX7_weighAll_19 : decode cX7_weighAll 19 = .ok (.iastore, 1) := by decide +kernel
theorem dX7_weighAll_20 : decode cX7_weighAll 20 = .ok (.iconst 0, 1) := by decide +kernel
theorem dX7_weighAll_21 : decode cX7_weighAll 21 = .ok (.istore_n 2, 1) := by decide +kernel
theorem dX7_weighAll_22 : decode cX7_weighAll 22 = .ok (.iload_n 2, 1) := by decide +kernel
theorem dX7_weighAll_23 : decode cX7_weighAll 23 = .ok (.aload_n 0, 1) := by decide +kernel
theorem dX7_weighAll_24 : decode cX7_weighAll 24 = .ok (.getfield 12, 3) := by decide +kernel
theorem dX7_weighAll_27 : decode cX7_weighAll 27 = .ok (.getfield 64, 3) := by decide +kernel
theorem dX7_weighAll_30 : decode cX7_weighAll 30 = .ok (.if_icmp .ge 30, 3) := by decide +kernel
theorem dX7_weighAll_33 : decode cX7_weighAll 33 = .ok (.aload_n 0, 1) := by decide +kernel
theorem dX7_weighAll_34 : decode cX7_weighAll 34 = .ok (.iload_n 1, 1) := by decide +kernel
theorem dX7_weighAll_35 : decode cX7_weighAll 35 = .ok (.iload_n 2, 1) := by decide +kernel
theorem dX7_weighAll_36 : decode cX7_weighAll 36 = .ok (.invokevirtual 65, 3) := by decide +kernel
theorem dX7_weighAll_39 : decode cX7_weighAll 39 = .ok (.ifCond .eq 15, 3) := by decide +kernel
theorem dX7_weighAll_42 : decode cX7_weighAll 42 = .ok (.aload_n 0, 1) := by decide +kernel
theorem dX7_weighAll_43 : decode cX7_weighAll 43 = .ok (.getfield 32, 3) := by decide +kernel
theorem dX7_weighAll_46 : decode cX7_weighAll 46 = .ok (.iload_n 1, 1) := by decide +kernel
theorem dX7_weighAll_47 : decode cX7_weighAll 47 = .ok (.dup2, 1) := by decide +kernel
theorem dX7_weighAll_48 : decode cX7_weighAll 48 = .ok (.iaload, 1) := by decide +kernel
theorem dX7_weighAll_49 : decode cX7_weighAll 49 = .ok (.iconst 1, 1) := by decide +kernel
theorem dX7_weighAll_50 : decode cX7_weighAll 50 = .ok (.iload_n 2, 1) := by decide +kernel
theorem dX7_weighAll_51 : decode cX7_weighAll 51 = .ok (.ishl, 1) := by decide +kernel
theorem dX7_weighAll_52 : decode cX7_weighAll 52 = .ok (.ior, 1) := by decide +kernel
theorem dX7_weighAll_53 : decode cX7_weighAll 53 = .ok (.iastore, 1) := by decide +kernel
theorem dX7_weighAll_54 : decode cX7_weighAll 54 = .ok (.iinc 2 1, 3) := by decide +kernel
theorem dX7_weighAll_57 : decode cX7_weighAll 57 = .ok (.goto (-35), 3) := by decide +kernel
theorem dX7_weighAll_60 : decode cX7_weighAll 60 = .ok (.iinc 1 1, 3) := by decide +kernel
theorem dX7_weighAll_63 : decode cX7_weighAll 63 = .ok (.goto (-61), 3) := by decide +kernel
theorem dX7_weighAll_66 : decode cX7_weighAll 66 = .ok (.return_, 1) := by decide +kernel
theorem dX7_choiceOf_0 : decode cX7_choiceOf 0 = .ok (.aload_n 0, 1) := by decide +kernel
theorem dX7_choiceOf_1 : decode cX7_choiceOf 1 = .ok (.getfield 21, 3) := by decide +kernel
theorem dX7_choiceOf_4 : decode cX7_choiceOf 4 = .ok (.iload_n 1, 1) := by decide +kernel
theorem dX7_choiceOf_5 : decode cX7_choiceOf 5 = .ok (.invokevirtual 36, 3) := by decide +kernel
theorem dX7_choiceOf_8 : decode cX7_choiceOf 8 = .ok (.ifCond .eq 12, 3) := by decide +kernel
theorem dX7_choiceOf_11 : decode cX7_choiceOf 11 = .ok (.aload_n 0, 1) := by decide +kernel
theorem dX7_choiceOf_12 : decode cX7_choiceOf 12 = .ok (.getfield 32, 3) := by decide +kernel
theorem dX7_choiceOf_15 : decode cX7_choiceOf 15 = .ok (.iload_n 1, 1) := by decide +kernel
theorem dX7_choiceOf_16 : decode cX7_choiceOf 16 = .ok (.iaload, 1) := by decide +kernel
theorem dX7_choiceOf_17 : decode cX7_choiceOf 17 = .ok (.goto 4, 3) := by decide +kernel
theorem dX7_choiceOf_20 : decode cX7_choiceOf 20 = .ok (.iconst 0, 1) := by decide +kernel
theorem dX7_choiceOf_21 : decode cX7_choiceOf 21 = .ok (.ireturn, 1) := by decide +kernel
theorem dX7_openTo_0 : decode cX7_openTo 0 = .ok (.aload_n 0, 1) := by decide +kernel
theorem dX7_openTo_1 : decode cX7_openTo 1 = .ok (.getfield 21, 3) := by decide +kernel
theorem dX7_openTo_4 : decode cX7_openTo 4 = .ok (.iload_n 1, 1) := by decide +kernel
theorem dX7_openTo_5 : decode cX7_openTo 5 = .ok (.invokevirtual 36, 3) := by decide +kernel
theorem dX7_openTo_8 : decode cX7_openTo 8 = .ok (.ifCond .eq 22, 3) := by decide +kernel
theorem dX7_openTo_11 : decode cX7_openTo 11 = .ok (.aload_n 0, 1) := by decide +kernel
theorem dX7_openTo_12 : decode cX7_openTo 12 = .ok (.getfield 32, 3) := by decide +kernel
theorem dX7_openTo_15 : decode cX7_openTo 15 = .ok (.iload_n 1, 1) := by decide +kernel
theorem dX7_openTo_16 : decode cX7_openTo 16 = .ok (.iaload, 1) := by decide +kernel
theorem dX7_openTo_17 : decode cX7_openTo 17 = .ok (.aload_n 0, 1) := by decide +kernel
theorem dX7_openTo_18 : decode cX7_openTo 18 = .ok (.getfield 12, 3) := by decide +kernel
theorem dX7_openTo_21 : decode cX7_openTo 21 = .ok (.getfield 69, 3) := by decide +kernel
theorem dX7_openTo_24 : decode cX7_openTo 24 = .ok (.iconst (-1), 1) := by decide +kernel
theorem dX7_openTo_25 : decode cX7_openTo 25 = .ok (.ixor, 1) := by decide +kernel
theorem dX7_openTo_26 : decode cX7_openTo 26 = .ok (.iand, 1) := by decide +kernel
theorem dX7_openTo_27 : decode cX7_openTo 27 = .ok (.goto 4, 3) := by decide +kernel
theorem dX7_openTo_30 : decode cX7_openTo 30 = .ok (.iconst 0, 1) := by decide +kernel
theorem dX7_openTo_31 : decode cX7_openTo 31 = .ok (.ireturn, 1) := by decide +kernel
theorem dX7_settle_0 : decode cX7_settle 0 = .ok (.aload_n 0, 1) := by decide +kernel
theorem dX7_settle_1 : decode cX7_settle 1 = .ok (.getfield 21, 3) := by decide +kernel
theorem dX7_settle_4 : decode cX7_settle 4 = .ok (.iload_n 1, 1) := by decide +kernel
theorem dX7_settle_5 : decode cX7_settle 5 = .ok (.invokevirtual 36, 3) := by decide +kernel
theorem dX7_settle_8 : decode cX7_settle 8 = .ok (.ifCond .eq 49, 3) := by decide +kernel
theorem dX7_settle_11 : decode cX7_settle 11 = .ok (.aload_n 0, 1) := by decide +kernel
theorem dX7_settle_12 : decode cX7_settle 12 = .ok (.getfield 12, 3) := by decide +kernel
theorem dX7_settle_15 : decode cX7_settle 15 = .ok (.iload_n 2, 1) := by decide +kernel
theorem dX7_settle_16 : decode cX7_settle 16 = .ok (.invokevirtual 40, 3) := by decide +kernel
theorem dX7_settle_19 : decode cX7_settle 19 = .ok (.ifCond .eq 38, 3) := by decide +kernel
theorem dX7_settle_22 : decode cX7_settle 22 = .ok (.aload_n 0, 1) := by decide +kernel
theorem dX7_settle_23 : decode cX7_settle 23 = .ok (.getfield 21, 3) := by decide +kernel
theorem dX7_settle_26 : decode cX7_settle 26 = .ok (.getfield 72, 3) := by decide +kernel
theorem dX7_settle_29 : decode cX7_settle 29 = .ok (.iload_n 1, 1) := by decide +kernel
theorem dX7_settle_30 : decode cX7_settle 30 = .ok (.iload_n 2, 1) := by decide +kernel
theorem dX7_settle_31 : decode cX7_settle 31 = .ok (.iastore, 1) := by decide +kernel
theorem dX7_settle_32 : decode cX7_settle 32 = .ok (.aload_n 0, 1) := by decide +kernel
theorem dX7_settle_33 : decode cX7_settle 33 = .ok (.getfield 12, 3) := by decide +kernel
theorem dX7_settle_36 : decode cX7_settle 36 = .ok (.getfield 75, 3) := by decide +kernel
theorem dX7_settle_39 : decode cX7_settle 39 = .ok (.iload_n 2, 1) := by decide +kernel
theorem dX7_settle_40 : decode cX7_settle 40 = .ok (.iload_n 1, 1) := by decide +kernel
theorem dX7_settle_41 : decode cX7_settle 41 = .ok (.iastore, 1) := by decide +kernel
theorem dX7_settle_42 : decode cX7_settle 42 = .ok (.aload_n 0, 1) := by decide +kernel
theorem dX7_settle_43 : decode cX7_settle 43 = .ok (.getfield 12, 3) := by decide +kernel
theorem dX7_settle_46 : decode cX7_settle 46 = .ok (.dup, 1) := by decide +kernel
theorem dX7_settle_47 : decode cX7_settle 47 = .ok (.getfield 69, 3) := by decide +kernel
theorem dX7_settle_50 : decode cX7_settle 50 = .ok (.iconst 1, 1) := by decide +kernel
theorem dX7_settle_51 : decode cX7_settle 51 = .ok (.iload_n 2, 1) := by decide +kernel
theorem dX7_settle_52 : decode cX7_settle 52 = .ok (.ishl, 1) := by decide +kernel
theorem dX7_settle_53 : decode cX7_settle 53 = .ok (.ior, 1) := by decide +kernel
theorem dX7_settle_54 : decode cX7_settle 54 = .ok (.putfield 69, 3) := by decide +kernel
theorem dX7_settle_57 : decode cX7_settle 57 = .ok (.return_, 1) := by decide +kernel
theorem dX7_leave_0 : decode cX7_leave 0 = .ok (.aload_n 0, 1) := by decide +kernel
theorem dX7_leave_1 : decode cX7_leave 1 = .ok (.getfield 21, 3) := by decide +kernel
theorem dX7_leave_4 : decode cX7_leave 4 = .ok (.iload_n 1, 1) := by decide +kernel
theorem dX7_leave_5 : decode cX7_leave 5 = .ok (.invokevirtual 78, 3) := by decide +kernel
theorem dX7_leave_8 : decode cX7_leave 8 = .ok (.istore_n 2, 1) := by decide +kernel
theorem dX7_leave_9 : decode cX7_leave 9 = .ok (.aload_n 0, 1) := by decide +kernel
theorem dX7_leave_10 : decode cX7_leave 10 = .ok (.getfield 21, 3) := by decide +kernel
theorem dX7_leave_13 : decode cX7_leave 13 = .ok (.iload_n 1, 1) := by decide +kernel
theorem dX7_leave_14 : decode cX7_leave 14 = .ok (.invokevirtual 36, 3) := by decide +kernel
theorem dX7_leave_17 : decode cX7_leave 17 = .ok (.ifCond .eq 51, 3) := by decide +kernel
theorem dX7_leave_20 : decode cX7_leave 20 = .ok (.aload_n 0, 1) := by decide +kernel
theorem dX7_leave_21 : decode cX7_leave 21 = .ok (.getfield 12, 3) := by decide +kernel
theorem dX7_leave_24 : decode cX7_leave 24 = .ok (.iload_n 2, 1) := by decide +kernel
theorem dX7_leave_25 : decode cX7_leave 25 = .ok (.invokevirtual 40, 3) := by decide +kernel
theorem dX7_leave_28 : decode cX7_leave 28 = .ok (.ifCond .eq 40, 3) := by decide +kernel
theorem dX7_leave_31 : decode cX7_leave 31 = .ok (.aload_n 0, 1) := by decide +kernel
theorem dX7_leave_32 : decode cX7_leave 32 = .ok (.getfield 21, 3) := by decide +kernel
theorem dX7_leave_35 : decode cX7_leave 35 = .ok (.getfield 72, 3) := by decide +kernel
theorem dX7_leave_38 : decode cX7_leave 38 = .ok (.iload_n 1, 1) := by decide +kernel
theorem dX7_leave_39 : decode cX7_leave 39 = .ok (.iconst (-1), 1) := by decide +kernel
theorem dX7_leave_40 : decode cX7_leave 40 = .ok (.iastore, 1) := by decide +kernel
theorem dX7_leave_41 : decode cX7_leave 41 = .ok (.aload_n 0, 1) := by decide +kernel
theorem dX7_leave_42 : decode cX7_leave 42 = .ok (.getfield 12, 3) := by decide +kernel
theorem dX7_leave_45 : decode cX7_leave 45 = .ok (.getfield 75, 3) := by decide +kernel
theorem dX7_leave_48 : decode cX7_leave 48 = .ok (.iload_n 2, 1) := by decide +kernel
theorem dX7_leave_49 : decode cX7_leave 49 = .ok (.iconst (-1), 1) := by decide +kernel
theorem dX7_leave_50 : decode cX7_leave 50 = .ok (.iastore, 1) := by decide +kernel
theorem dX7_leave_51 : decode cX7_leave 51 = .ok (.aload_n 0, 1) := by decide +kernel
theorem dX7_leave_52 : decode cX7_leave 52 = .ok (.getfield 12, 3) := by decide +kernel
theorem dX7_leave_55 : decode cX7_leave 55 = .ok (.dup, 1) := by decide +kernel
theorem dX7_leave_56 : decode cX7_leave 56 = .ok (.getfield 69, 3) := by decide +kernel
theorem dX7_leave_59 : decode cX7_leave 59 = .ok (.iconst 1, 1) := by decide +kernel
theorem dX7_leave_60 : decode cX7_leave 60 = .ok (.iload_n 2, 1) := by decide +kernel
theorem dX7_leave_61 : decode cX7_leave 61 = .ok (.ishl, 1) := by decide +kernel
theorem dX7_leave_62 : decode cX7_leave 62 = .ok (.iconst (-1), 1) := by decide +kernel
theorem dX7_leave_63 : decode cX7_leave 63 = .ok (.ixor, 1) := by decide +kernel
theorem dX7_leave_64 : decode cX7_leave 64 = .ok (.iand, 1) := by decide +kernel
theorem dX7_leave_65 : decode cX7_leave 65 = .ok (.putfield 69, 3) := by decide +kernel
theorem dX7_leave_68 : decode cX7_leave 68 = .ok (.return_, 1) := by decide +kernel
theorem dX8_init_0 : decode cX8_init 0 = .ok (.aload_n 0, 1) := by decide +kernel
theorem dX8_init_1 : decode cX8_init 1 = .ok (.invokespecial 3, 3) := by decide +kernel
theorem dX8_init_4 : decode cX8_init 4 = .ok (.aload_n 0, 1) := by decide +kernel
theorem dX8_init_5 : decode cX8_init 5 = .ok (.bipush 16, 2) := by decide +kernel
theorem dX8_init_7 : decode cX8_init 7 = .ok (.newarray .int, 2) := by decide +kernel
theorem dX8_init_9 : decode cX8_init 9 = .ok (.putfield 9, 3) := by decide +kernel
theorem dX8_init_12 : decode cX8_init 12 = .ok (.aload_n 0, 1) := by decide +kernel
theorem dX8_init_13 : decode cX8_init 13 = .ok (.bipush 16, 2) := by decide +kernel
theorem dX8_init_15 : decode cX8_init 15 = .ok (.newarray .int, 2) := by decide +kernel
theorem dX8_init_17 : decode cX8_init 17 = .ok (.putfield 15, 3) := by decide +kernel
theorem dX8_init_20 : decode cX8_init 20 = .ok (.aload_n 0, 1) := by decide +kernel
theorem dX8_init_21 : decode cX8_init 21 = .ok (.aload_n 1, 1) := by decide +kernel
theorem dX8_init_22 : decode cX8_init 22 = .ok (.putfield 18, 3) := by decide +kernel
theorem dX8_init_25 : decode cX8_init 25 = .ok (.aload_n 0, 1) := by decide +kernel
theorem dX8_init_26 : decode cX8_init 26 = .ok (.aload_n 1, 1) := by decide +kernel
theorem dX8_init_27 : decode cX8_init 27 = .ok (.getfield 22, 3) := by decide +kernel
theorem dX8_init_30 : decode cX8_init 30 = .ok (.putfield 28, 3) := by decide +kernel
theorem dX8_init_33 : decode cX8_init 33 = .ok (.return_, 1) := by decide +kernel
theorem dX8_run_0 : decode cX8_run 0 = .ok (.aload_n 0, 1) := by decide +kernel
theorem dX8_run_1 : decode cX8_run 1 = .ok (.getfield 18, 3) := by decide +kernel
theorem dX8_run_4 : decode cX8_run 4 = .ok (.invokevirtual 29, 3) := by decide +kernel
theorem dX8_run_7 : decode cX8_run 7 = .ok (.aload_n 0, 1) := by decide +kernel
theorem dX8_run_8 : decode cX8_run 8 = .ok (.invokevirtual 32, 3) := by decide +kernel
theorem dX8_run_11 : decode cX8_run 11 = .ok (.istore_n 1, 1) := by decide +kernel
theorem dX8_run_12 : decode cX8_run 12 = .ok (.aload_n 0, 1) := by decide +kernel
theorem dX8_run_13 : decode cX8_run 13 = .ok (.iconst 0, 1) := by decide +kernel
theorem dX8_run_14 : decode cX8_run 14 = .ok (.putfield 36, 3) := by decide +kernel
theorem dX8_run_17 : decode cX8_run 17 = .ok (.aload_n 0, 1) := by decide +kernel
theorem dX8_run_18 : decode cX8_run 18 = .ok (.iconst 0, 1) := by decide +kernel
theorem dX8_run_19 : decode cX8_run 19 = .ok (.putfield 40, 3) := by decide +kernel
theorem dX8_run_22 : decode cX8_run 22 = .ok (.aload_n 0, 1) := by decide +kernel
theorem dX8_run_23 : decode cX8_run 23 = .ok (.iconst 0, 1) := by decide +kernel
theorem dX8_run_24 : decode cX8_run 24 = .ok (.putfield 43, 3) := by decide +kernel
theorem dX8_run_27 : decode cX8_run 27 = .ok (.aload_n 0, 1) := by decide +kernel
theorem dX8_run_28 : decode cX8_run 28 = .ok (.iload_n 1, 1) := by decide +kernel
theorem dX8_run_29 : decode cX8_run 29 = .ok (.putfield 46, 3) := by decide +kernel
theorem dX8_run_32 : decode cX8_run 32 = .ok (.aload_n 0, 1) := by decide +kernel
theorem dX8_run_33 : decode cX8_run 33 = .ok (.getfield 46, 3) := by decide +kernel
theorem dX8_run_36 : decode cX8_run 36 = .ok (.ifCond .eq 33, 3) := by decide +kernel
theorem dX8_run_39 : decode cX8_run 39 = .ok (.aload_n 0, 1) := by decide +kernel
theorem dX8_run_40 : decode cX8_run 40 = .ok (.getfield 43, 3) := by decide +kernel
theorem dX8_run_43 : decode cX8_run 43 = .ok (.bipush 16, 2) := by decide +kernel
theorem dX8_run_45 : decode cX8_run 45 = .ok (.if_icmp .ge 24, 3) := by decide +kernel
theorem dX8_run_48 : decode cX8_run 48 = .ok (.aload_n 0, 1) := by decide +kernel
theorem dX8_run_49 : decode cX8_run 49 = .ok (.invokevirtual 49, 3) := by decide +kernel
theorem dX8_run_52 : decode cX8_run 52 = .ok (.aload_n 0, 1) := by decide +kernel
theorem dX8_run_53 : decode cX8_run 53 = .ok (.invokevirtual 52, 3) := by decide +kernel
theorem dX8_run_56 : decode cX8_run 56 = .ok (.aload_n 0, 1) := by decide +kernel
theorem dX8_run_57 : decode cX8_run 57 = .ok (.dup, 1) := by decide +kernel
theorem dX8_run_58 : decode cX8_run 58 = .ok (.getfield 43, 3) := by decide +kernel
theorem dX8_run_61 : decode cX8_run 61 = .ok (.iconst 1, 1) := by decide +kernel
theorem dX8_run_62 : decode cX8_run 62 = .ok (.iadd, 1) := by decide +kernel
theorem dX8_run_63 : decode cX8_run 63 = .ok (.putfield 43, 3) := by decide +kernel
theorem dX8_run_66 : decode cX8_run 66 = .ok (.goto (-34), 3) := by decide +kernel
theorem dX8_run_69 : decode cX8_run 69 = .ok (.aload_n 0, 1) := by decide +kernel
theorem dX8_run_70 : decode cX8_run 70 = .ok (.iload_n 1, 1) := by decide +kernel
theorem dX8_run_71 : decode cX8_run 71 = .ok (.invokevirtual 55, 3) := by decide +kernel
theorem dX8_run_74 : decode cX8_run 74 = .ok (.ireturn, 1) := by decide +kernel
theorem dX8_traders_0 : decode cX8_traders 0 = .ok (.iconst 0, 1) := by decide +kernel
theorem dX8_traders_1 : decode cX8_traders 1 = .ok (.istore_n 1, 1) := by decide +kernel
theorem dX8_traders_2 : decode cX8_traders 2 = .ok (.iconst 0, 1) := by decide +kernel
theorem dX8_traders_3 : decode cX8_traders 3 = .ok (.istore_n 2, 1) := by decide +kernel
theorem dX8_traders_4 : decode cX8_traders 4 = .ok (.iload_n 2, 1) := by decide +kernel
theorem dX8_traders_5 : decode cX8_traders 5 = .ok (.aload_n 0, 1) := by decide +kernel
theorem dX8_traders_6 : decode cX8_traders 6 = .ok (.getfield 28, 3) := by decide +kernel
theorem dX8_traders_9 : decode cX8_traders 9 = .ok (.getfield 59, 3) := by decide +kernel
theorem dX8_traders_12 : decode cX8_traders 12 = .ok (.if_icmp .ge 37, 3) := by decide +kernel
theorem dX8_traders_15 : decode cX8_traders 15 = .ok (.aload_n 0, 1) := by decide +kernel
theorem dX8_traders_16 : decode cX8_traders 16 = .ok (.getfield 18, 3) := by decide +kernel
theorem dX8_traders_19 : decode cX8_traders 19 = .ok (.iload_n 2, 1) := by decide +kernel
theorem dX8_traders_20 : decode cX8_traders 20 = .ok (.invokevirtual 64, 3) := by decide +kernel
theorem dX8_traders_23 : decode cX8_traders 23 = .ok (.aload_n 0, 1) := by decide +kernel
theorem dX8_traders_24 : decode cX8_traders 24 = .ok (.getfield 28, 3) := by decide +kernel
theorem dX8_traders_27 : decode cX8_traders 27 = .ok (.iload_n 2, 1) := by decide +kernel
theorem dX8_traders_28 : decode cX8_traders 28 = .ok (.invokevirtual 67, 3) := by decide +kernel
theorem dX8_traders_31 : decode cX8_traders 31 = .ok (.invokestatic 70, 3) := by decide +kernel
theorem dX8_traders_34 : decode cX8_traders 34 = .ok (.ifCond .eq 9, 3) := by decide +kernel
theorem dX8_traders_37 : decode cX8_traders 37 = .ok (.iload_n 1, 1) := by decide +kernel
theorem dX8_traders_38 : decode cX8_traders 38 = .ok (.iconst 1, 1) := by decide +kernel
theorem dX8_traders_39 : decode cX8_traders 39 = .ok (.iload_n 2, 1) := by decide +kernel
theorem dX8_traders_40 : decode cX8_traders 40 = .ok (.ishl, 1) := by decide +kernel
theorem dX8_traders_41 : decode cX8_traders 41 = .ok (.ior, 1) := by decide +kernel
theorem dX8_traders_42 : decode cX8_traders 42 = .ok (.istore_n 1, 1) := by decide +kernel
theorem dX8_traders_43 : decode cX8_traders 43 = .ok (.iinc 2 1, 3) := by decide +kernel
theorem dX8_traders_46 : decode cX8_traders 46 = .ok (.goto (-42), 3) := by decide +kernel
theorem dX8_traders_49 : decode cX8_traders 49 = .ok (.iload_n 1, 1) := by decide +kernel
theorem dX8_traders_50 : decode cX8_traders 50 = .ok (.ireturn, 1) := by decide +kernel
theorem dX8_pointAll_0 : decode cX8_pointAll 0 = .ok (.iconst 0, 1) := by decide +kernel
theorem dX8_pointAll_1 : decode cX8_pointAll 1 = .ok (.istore_n 1, 1) := by decide +kernel
theorem dX8_pointAll_2 : decode cX8_pointAll 2 = .ok (.iload_n 1, 1) := by decide +kernel
theorem dX8_pointAll_3 : decode cX8_pointAll 3 = .ok (.aload_n 0, 1) := by decide +kernel
theorem dX8_pointAll_4 : decode cX8_pointAll 4 = .ok (.getfield 28, 3) := by decide +kernel
theorem dX8_pointAll_7 : decode cX8_pointAll 7 = .ok (.getfield 59, 3) := by decide +kernel
theorem dX8_pointAll_10 : decode cX8_pointAll 10 = .ok (.if_icmp .ge 31, 3) := by decide +kernel
theorem dX8_pointAll_13 : decode cX8_pointAll 13 = .ok (.aload_n 0, 1) := by decide +kernel
theorem dX8_pointAll_14 : decode cX8_pointAll 14 = .ok (.getfield 46, 3) := by decide +kernel
theorem dX8_pointAll_17 : decode cX8_pointAll 17 = .ok (.iload_n 1, 1) := by decide +kernel
theorem dX8_pointAll_18 : decode cX8_pointAll 18 = .ok (.invokestatic 70, 3) := by decide +kernel
theorem dX8_pointAll_21 : decode cX8_pointAll 21 = .ok (.ifCond .eq 14, 3) := by decide +kernel
theorem dX8_pointAll_24 : decode cX8_pointAll 24 = .ok (.aload_n 0, 1) := by decide +kernel
theorem dX8_pointAll_25 : decode cX8_pointAll 25 = .ok (.getfield 9, 3) := by decide +kernel
theorem dX8_pointAll_28 : decode cX8_pointAll 28 = .ok (.iload_n 1, 1) := by decide +kernel
theorem dX8_pointAll_29 : decode cX8_pointAll 29 = .ok (.aload_n 0, 1) := by decide +kernel
theorem dX8_pointAll_30 : decode cX8_pointAll 30 = .ok (.iload_n 1, 1) := by decide +kernel
theorem dX8_pointAll_31 : decode cX8_pointAll 31 = .ok (.invokevirtual 74, 3) := by decide +kernel
theorem dX8_pointAll_34 : decode cX8_pointAll 34 = .ok (.iastore, 1) := by decide +kernel
theorem dX8_pointAll_35 : decode cX8_pointAll 35 = .ok (.iinc 1 1, 3) := by decide +kernel
theorem dX8_pointAll_38 : decode cX8_pointAll 38 = .ok (.goto (-36), 3) := by decide +kernel
theorem dX8_pointAll_41 : decode cX8_pointAll 41 = .ok (.return_, 1) := by decide +kernel
theorem dX8_pointedAtBy_0 : decode cX8_pointedAtBy 0 = .ok (.aload_n 0, 1) := by decide +kernel
theorem dX8_pointedAtBy_1 : decode cX8_pointedAtBy 1 = .ok (.getfield 28, 3) := by decide +kernel
theorem dX8_pointedAtBy_4 : decode cX8_pointedAtBy 4 = .ok (.iload_n 1, 1) := by decide +kernel
theorem dX8_pointedAtBy_5 : decode cX8_pointedAtBy 5 = .ok (.invokevirtual 67, 3) := by decide +kernel
theorem dX8_pointedAtBy_8 : decode cX8_pointedAtBy 8 = .ok (.istore_n 2, 1) := by decide +kernel
theorem dX8_pointedAtBy_9 : decode cX8_pointedAtBy 9 = .ok (.aload_n 0, 1) := by decide +kernel
theorem dX8_pointedAtBy_10 : decode cX8_pointedAtBy 10 = .ok (.getfield 18, 3) := by decide +kernel
theorem dX8_pointedAtBy_13 : decode cX8_pointedAtBy 13 = .ok (.iload_n 1, 1) := by decide +kernel
theorem dX8_pointedAtBy_14 : decode cX8_pointedAtBy 14 = .ok (.invokevirtual 64, 3) := by decide +kernel
theorem dX8_pointedAtBy_17 : decode cX8_pointedAtBy 17 = .ok (.istore_n 3, 1) := by decide +kernel
theorem dX8_pointedAtBy_18 : decode cX8_pointedAtBy 18 = .ok (.iconst 0, 1) := by decide +kernel
theorem dX8_pointedAtBy_19 : decode cX8_pointedAtBy 19 = .ok (.istore 4, 2) := by decide +kernel
theorem dX8_pointedAtBy_21 : decode cX8_pointedAtBy 21 = .ok (.iload 4, 2) := by decide +kernel
theorem dX8_pointedAtBy_23 : decode cX8_pointedAtBy 23 = .ok (.aload_n 0, 1) := by decide +kernel
theorem dX8_pointedAtBy_24 : decode cX8_pointedAtBy 24 = .ok (.getfield 28, 3) := by decide +kernel
theorem dX8_pointedAtBy_27 : decode cX8_pointedAtBy 27 = .ok (.iload_n 1, 1) := by decide +kernel
theorem dX8_pointedAtBy_28 : decode cX8_pointedAtBy 28 = .ok (.invokevirtual 77, 3) := by decide +kernel
theorem dX8_pointedAtBy_31 : decode cX8_pointedAtBy 31 = .ok (.if_icmp .ge 67, 3) := by decide +kernel
theorem dX8_pointedAtBy_34 : decode cX8_pointedAtBy 34 = .ok (.aload_n 0, 1) := by decide +kernel
theorem dX8_pointedAtBy_35 : decode cX8_pointedAtBy 35 = .ok (.getfield 28, 3) := by decide +kernel
theorem dX8_pointedAtBy_38 : decode cX8_pointedAtBy 38 = .ok (.iload_n 1, 1) := by decide +kernel
theorem dX8_pointedAtBy_39 : decode cX8_pointedAtBy 39 = .ok (.iload 4, 2) := by decide +kernel
theorem dX8_pointedAtBy_41 : decode cX8_pointedAtBy 41 = .ok (.invokevirtual 80, 3) := by decide +kernel
theorem dX8_pointedAtBy_44 : decode cX8_pointedAtBy 44 = .ok (.istore 5, 2) := by decide +kernel
theorem dX8_pointedAtBy_46 : decode cX8_pointedAtBy 46 = .ok (.iload 5, 2) := by decide +kernel
theorem dX8_pointedAtBy_48 : decode cX8_pointedAtBy 48 = .ok (.iload_n 2, 1) := by decide +kernel
theorem dX8_pointedAtBy_49 : decode cX8_pointedAtBy 49 = .ok (.if_icmp .ne 5, 3) := by decide +kernel
theorem dX8_pointedAtBy_52 : decode cX8_pointedAtBy 52 = .ok (.iload_n 1, 1) := by decide +kernel
theorem dX8_pointedAtBy_53 : decode cX8_pointedAtBy 53 = .ok (.ireturn, 1) := by decide +kernel
theorem dX8_pointedAtBy_54 : decode cX8_pointedAtBy 54 = .ok (.aload_n 0, 1) := by decide +kernel
theorem dX8_pointedAtBy_55 : decode cX8_pointedAtBy 55 = .ok (.getfield 18, 3) := by decide +kernel
theorem dX8_pointedAtBy_58 : decode cX8_pointedAtBy 58 = .ok (.getfield 84, 3) := by decide +kernel
theorem dX8_pointedAtBy_61 : decode cX8_pointedAtBy 61 = .ok (.iload 5, 2) := by decide +kernel
theorem dX8_pointedAtBy_63 : decode cX8_pointedAtBy 63 = .ok (.invokevirtual 88, 3) := by decide +kernel
theorem dX8_pointedAtBy_66 : decode cX8_pointedAtBy 66 = .ok (.istore 6, 2) := by decide +kernel
theorem dX8_pointedAtBy_68 : decode cX8_pointedAtBy 68 = .ok (.aload_n 0, 1) := by decide +kernel
theorem dX8_pointedAtBy_69 : decode cX8_pointedAtBy 69 = .ok (.getfield 46, 3) := by decide +kernel
theorem dX8_pointedAtBy_72 : decode cX8_pointedAtBy 72 = .ok (.iload 6, 2) := by decide +kernel
theorem dX8_pointedAtBy_74 : decode cX8_pointedAtBy 74 = .ok (.invokestatic 70, 3) := by decide +kernel
theorem dX8_pointedAtBy_77 : decode cX8_pointedAtBy 77 = .ok (.ifCond .eq 15, 3) := by decide +kernel
theorem dX8_pointedAtBy_80 : decode cX8_pointedAtBy 80 = .ok (.iload_n 3, 1) := by decide +kernel
theorem dX8_pointedAtBy_81 : decode cX8_pointedAtBy 81 = .ok (.iload 5, 2) := by decide +kernel
theorem dX8_pointedAtBy_83 : decode cX8_pointedAtBy 83 = .ok (.invokestatic 70, 3) := by decide +kernel
theorem dX8_pointedAtBy_86 : decode cX8_pointedAtBy 86 = .ok (.ifCond .eq 6, 3) := by decide +kernel
theorem dX8_pointedAtBy_89 : decode cX8_pointedAtBy 89 = .ok (.iload 6, 2) := by decide +kernel
theorem dX8_pointedAtBy_91 : decode cX8_pointedAtBy 91 = .ok (.ireturn, 1) := by decide +kernel
theorem dX8_pointedAtBy_92 : decode cX8_pointedAtBy 92 = .ok (.iinc 4 1, 3) := by decide +kernel
theorem dX8_pointedAtBy_95 : decode cX8_pointedAtBy 95 = .ok (.goto (-74), 3) := by decide +kernel
theorem dX8_pointedAtBy_98 : decode cX8_pointedAtBy 98 = .ok (.iload_n 1, 1) := by decide +kernel
theorem dX8_pointedAtBy_99 : decode cX8_pointedAtBy 99 = .ok (.ireturn, 1) := by decide +kernel
theorem dX8_closeAllRings_0 : decode cX8_closeAllRings 0 = .ok (.iconst 0, 1) := by decide +kernel
theorem dX8_closeAllRings_1 : decode cX8_closeAllRings 1 = .ok (.istore_n 1, 1) := by decide +kernel
theorem dX8_closeAllRings_2 : decode cX8_closeAllRings 2 = .ok (.iconst 0, 1) := by decide +kernel
theorem dX8_closeAllRings_3 : decode cX8_closeAllRings 3 = .ok (.istore_n 2, 1) := by decide +kernel
theorem dX8_closeAllRings_4 : decode cX8_closeAllRings 4 = .ok (.iload_n 2, 1) := by decide +kernel
theorem dX8_closeAllRings_5 : decode cX8_closeAllRings 5 = .ok (.aload_n 0, 1) := by decide +kernel
theorem dX8_closeAllRings_6 : decode cX8_closeAllRings 6 = .ok (.getfield 28, 3) := by decide +kernel
theorem dX8_closeAllRings_9 : decode cX8_closeAllRings 9 = .ok (.getfield 59, 3) := by decide +kernel
theorem dX8_closeAllRings_12 : decode cX8_closeAllRings 12 = .ok (.if_icmp .ge 41, 3) := by decide +kernel
theorem dX8_closeAllRings_15 : decode cX8_closeAllRings 15 = .ok (.aload_n 0, 1) := by decide +kernel
theorem dX8_closeAllRings_16 : decode cX8_closeAllRings 16 = .ok (.getfield 46, 3) := by decide +kernel
theorem dX8_closeAllRings_19 : decode cX8_closeAllRings 19 = .ok (.iload_n 2, 1) := by decide +kernel
theorem dX8_closeAllRings_20 : decode cX8_closeAllRings 20 = .ok (.invokestatic 70, 3) := by decide +kernel
theorem dX8_closeAllRings_23 : decode cX8_closeAllRings 23 = .ok (.ifCond .eq 24, 3) := by decide +kernel
theorem dX8_closeAllRings_26 : decode cX8_closeAllRings 26 = .ok (.iload_n 1, 1) := by decide +kernel
theorem dX8_closeAllRings_27 : decode cX8_closeAllRings 27 = .ok (.iload_n 2, 1) := by decide +kernel
theorem dX8_closeAllRings_28 : decode cX8_closeAllRings 28 = .ok (.invokestatic 70, 3) := by decide +kernel
theorem dX8_closeAllRings_31 : decode cX8_closeAllRings 31 = .ok (.ifCond .ne 16, 3) := by decide +kernel
theorem dX8_closeAllRings_34 : decode cX8_closeAllRings 34 = .ok (.iload_n 1, 1) := by decide +kernel
theorem dX8_closeAllRings_35 : decode cX8_closeAllRings 35 = .ok (.aload_n 0, 1) := by decide +kernel
theorem dX8_closeAllRings_36 : decode cX8_closeAllRings 36 = .ok (.iload_n 2, 1) := by decide +kernel
theorem dX8_closeAllRings_37 : decode cX8_closeAllRings 37 = .ok (.aload_n 0, 1) := by decide +kernel
theorem dX8_closeAllRings_38 : decode cX8_closeAllRings 38 = .ok (.iload_n 2, 1) := by decide +kernel
theorem dX8_closeAllRings_39 : decode cX8_closeAllRings 39 = .ok (.invokevirtual 93, 3) := by decide +kernel
theorem dX8_closeAllRings_42 : decode cX8_closeAllRings 42 = .ok (.invokevirtual 96, 3) := by decide +kernel
theorem dX8_closeAllRings_45 : decode cX8_closeAllRings 45 = .ok (.ior, 1) := by decide +kernel
theorem dX8_closeAllRings_46 : decode cX8_closeAllRings 46 = .ok (.istore_n 1, 1) := by decide +kernel
theorem dX8_closeAllRings_47 : decode cX8_closeAllRings 47 = .ok (.iinc 2 1, 3) := by decide +kernel
theorem dX8_closeAllRings_50 : decode cX8_closeAllRings 50 = .ok (.goto (-46), 3) := by decide +kernel
theorem dX8_closeAllRings_53 : decode cX8_closeAllRings 53 = .ok (.aload_n 0, 1) := by decide +kernel
theorem dX8_closeAllRings_54 : decode cX8_closeAllRings 54 = .ok (.dup, 1) := by decide +kernel
theorem dX8_closeAllRings_55 : decode cX8_closeAllRings 55 = .ok (.getfield 46, 3) := by decide +kernel
theorem dX8_closeAllRings_58 : decode cX8_closeAllRings 58 = .ok (.iload_n 1, 1) := by decide +kernel
theorem dX8_closeAllRings_59 : decode cX8_closeAllRings 59 = .ok (.iconst (-1), 1) := by decide +kernel
theorem dX8_closeAllRings_60 : decode cX8_closeAllRings 60 = .ok (.ixor, 1) := by decide +kernel
theorem dX8_closeAllRings_61 : decode cX8_closeAllRings 61 = .ok (.iand, 1) := by decide +kernel
theorem dX8_closeAllRings_62 : decode cX8_closeAllRings 62 = .ok (.putfield 46, 3) := by decide +kernel
theorem dX8_closeAllRings_65 : decode cX8_closeAllRings 65 = .ok (.return_, 1) := by decide +kernel
theorem dX8_ringLength_0 : decode cX8_ringLength 0 = .ok (.iload_n 1, 1) := by decide +kernel
theorem dX8_ringLength_1 : decode cX8_ringLength 1 = .ok (.istore_n 2, 1) := by decide +kernel
theorem dX8_ringLength_2 : decode cX8_ringLength 2 = .ok (.iconst 1, 1) := by decide +kernel
theorem dX8_ringLength_3 : decode cX8_ringLength 3 = .ok (.istore_n 3, 1) := by decide +kernel
theorem dX8_ringLength_4 : decode cX8_ringLength 4 = .ok (.iload_n 3, 1) := by decide +kernel
theorem dX8_ringLength_5 : decode cX8_ringLength 5 = .ok (.bipush 16, 2) := by decide +kernel
theorem dX8_ringLength_7 : decode cX8_ringLength 7 = .ok (.if_icmp .gt 22, 3) := by decide +kernel
theorem dX8_ringLength_10 : decode cX8_ringLength 10 = .ok (.aload_n 0, 1) := by decide +kernel
theorem dX8_ringLength_11 : decode cX8_ringLength 11 = .ok (.iload_n 2, 1) := by decide +kernel
theorem dX8_ringLength_12 : decode cX8_ringLength 12 = .ok (.invokevirtual 99, 3) := by decide +kernel
theorem dX8_ringLength_15 : decode cX8_ringLength 15 = .ok (.istore_n 2, 1) := by decide +kernel
theorem dX8_ringLength_16 : decode cX8_ringLength 16 = .ok (.iload_n 2, 1) := by decide +kernel
theorem dX8_ringLength_17 : decode cX8_ringLength 17 = .ok (.iload_n 1, 1) := by decide +kernel
theorem dX8_ringLength_18 : decode cX8_ringLength 18 = .ok (.if_icmp .ne 5, 3) := by decide +kernel
theorem dX8_ringLength_21 : decode cX8_ringLength 21 = .ok (.iload_n 3, 1) := by decide +kernel
theorem dX8_ringLength_22 : decode cX8_ringLength 22 = .ok (.ireturn, 1) := by decide +kernel
theorem dX8_ringLength_23 : decode cX8_ringLength 23 = .ok (.iinc 3 1, 3) := by decide +kernel
theorem dX8_ringLength_26 : decode cX8_ringLength 26 = .ok (.goto (-22), 3) := by decide +kernel
theorem dX8_ringLength_29 : decode cX8_ringLength 29 = .ok (.iconst 0, 1) := by decide +kernel
theorem dX8_ringLength_30 : decode cX8_ringLength 30 = .ok (.ireturn, 1) := by decide +kernel
theorem dX8_targetOf_0 : decode cX8_targetOf 0 = .ok (.aload_n 0, 1) := by decide +kernel
theorem dX8_targetOf_1 : decode cX8_targetOf 1 = .ok (.getfield 28, 3) := by decide +kernel
theorem dX8_targetOf_4 : decode cX8_targetOf 4 = .ok (.iload_n 1, 1) := by decide +kernel
theorem dX8_targetOf_5 : decode cX8_targetOf 5 = .ok (.invokevirtual 102, 3) := by decide +kernel
theorem dX8_targetOf_8 : decode cX8_targetOf 8 = .ok (.ifCond .eq 12, 3) := by decide +kernel
theorem dX8_targetOf_11 : decode cX8_targetOf 11 = .ok (.aload_n 0, 1) := by decide +kernel
theorem dX8_targetOf_12 : decode cX8_targetOf 12 = .ok (.getfield 9, 3) := by decide +kernel
theorem dX8_targetOf_15 : decode cX8_targetOf 15 = .ok (.iload_n 1, 1) := by decide +kernel
theorem dX8_targetOf_16 : decode cX8_targetOf 16 = .ok (.iaload, 1) := by decide +kernel
theorem dX8_targetOf_17 : decode cX8_targetOf 17 = .ok (.goto 4, 3) := by decide +kernel
theorem dX8_targetOf_20 : decode cX8_targetOf 20 = .ok (.iconst (-1), 1) := by decide +kernel
theorem dX8_targetOf_21 : decode cX8_targetOf 21 = .ok (.ireturn, 1) := by decide +kernel
theorem dX8_closeRing_0 : decode cX8_closeRing 0 = .ok (.iconst 0, 1) := by decide +kernel
theorem dX8_closeRing_1 : decode cX8_closeRing 1 = .ok (.istore_n 3, 1) := by decide +kernel
theorem dX8_closeRing_2 : decode cX8_closeRing 2 = .ok (.iload_n 1, 1) := by decide +kernel
theorem dX8_closeRing_3 : decode cX8_closeRing 3 = .ok (.istore 4, 2) := by decide +kernel
theorem dX8_closeRing_5 : decode cX8_closeRing 5 = .ok (.iconst 0, 1) := by decide +kernel
theorem dX8_closeRing_6 : decode cX8_closeRing 6 = .ok (.istore 5, 2) := by decide +kernel
theorem dX8_closeRing_8 : decode cX8_closeRing 8 = .ok (.iload 5, 2) := by decide +kernel
theorem dX8_closeRing_10 : decode cX8_closeRing 10 = .ok (.iload_n 2, 1) := by decide +kernel
theorem dX8_closeRing_11 : decode cX8_closeRing 11 = .ok (.if_icmp .ge 56, 3) := by decide +kernel
theorem dX8_closeRing_14 : decode cX8_closeRing 14 = .ok (.aload_n 0, 1) := by decide +kernel
theorem dX8_closeRing_15 : decode cX8_closeRing 15 = .ok (.getfield 28, 3) := by decide +kernel
theorem dX8_closeRing_18 : decode cX8_closeRing 18 = .ok (.iload 4, 2) := by decide +kernel
theorem dX8_closeRing_20 : decode cX8_closeRing 20 = .ok (.invokevirtual 102, 3) := by decide +kernel
theorem dX8_closeRing_23 : decode cX8_closeRing 23 = .ok (.ifCond .eq 44, 3) := by decide +kernel
theorem dX8_closeRing_26 : decode cX8_closeRing 26 = .ok (.aload_n 0, 1) := by decide +kernel
theorem dX8_closeRing_27 : decode cX8_closeRing 27 = .ok (.getfield 15, 3) := by decide +kernel
theorem dX8_closeRing_30 : decode cX8_closeRing 30 = .ok (.iload 4, 2) := by decide +kernel
theorem dX8_closeRing_32 : decode cX8_closeRing 32 = .ok (.aload_n 0, 1) := by decide +kernel
theorem dX8_closeRing_33 : decode cX8_closeRing 33 = .ok (.getfield 28, 3) := by decide +kernel
theorem dX8_closeRing_36 : decode cX8_closeRing 36 = .ok (.aload_n 0, 1) := by decide +kernel
theorem dX8_closeRing_37 : decode cX8_closeRing 37 = .ok (.iload 4, 2) := by decide +kernel
theorem dX8_closeRing_39 : decode cX8_closeRing 39 = .ok (.invokevirtual 99, 3) := by decide +kernel
theorem dX8_closeRing_42 : decode cX8_closeRing 42 = .ok (.invokevirtual 67, 3) := by decide +kernel
theorem dX8_closeRing_45 : decode cX8_closeRing 45 = .ok (.iastore, 1) := by decide +kernel
theorem dX8_closeRing_46 : decode cX8_closeRing 46 = .ok (.iload_n 3, 1) := by decide +kernel
theorem dX8_closeRing_47 : decode cX8_closeRing 47 = .ok (.iconst 1, 1) := by decide +kernel
theorem dX8_closeRing_48 : decode cX8_closeRing 48 = .ok (.iload 4, 2) := by decide +kernel
theorem dX8_closeRing_50 : decode cX8_closeRing 50 = .ok (.ishl, 1) := by decide +kernel
theorem dX8_closeRing_51 : decode cX8_closeRing 51 = .ok (.ior, 1) := by decide +kernel
theorem dX8_closeRing_52 : decode cX8_closeRing 52 = .ok (.istore_n 3, 1) := by decide +kernel
theorem dX8_closeRing_53 : decode cX8_closeRing 53 = .ok (.aload_n 0, 1) := by decide +kernel
theorem dX8_closeRing_54 : decode cX8_closeRing 54 = .ok (.iload 4, 2) := by decide +kernel
theorem dX8_closeRing_56 : decode cX8_closeRing 56 = .ok (.invokevirtual 99, 3) := by decide +kernel
theorem dX8_closeRing_59 : decode cX8_closeRing 59 = .ok (.istore 4, 2) := by decide +kernel
theorem dX8_closeRing_61 : decode cX8_closeRing 61 = .ok (.iinc 5 1, 3) := by decide +kernel
theorem dX8_closeRing_64 : decode cX8_closeRing 64 = .ok (.goto (-56), 3) := by decide +kernel
theorem dX8_closeRing_67 : decode cX8_closeRing 67 = .ok (.iload_n 2, 1) := by decide +kernel
theorem dX8_closeRing_68 : decode cX8_closeRing 68 = .ok (.iconst 2, 1) := by decide +kernel
theorem dX8_closeRing_69 : decode cX8_closeRing 69 = .ok (.if_icmp .lt 25, 3) := by decide +kernel
theorem dX8_closeRing_72 : decode cX8_closeRing 72 = .ok (.aload_n 0, 1) := by decide +kernel
theorem dX8_closeRing_73 : decode cX8_closeRing 73 = .ok (.dup, 1) := by decide +kernel
theorem dX8_closeRing_74 : decode cX8_closeRing 74 = .ok (.getfield 36, 3) := by decide +kernel
theorem dX8_closeRing_77 : decode cX8_closeRing 77 = .ok (.iconst 1, 1) := by decide +kernel
theorem dX8_closeRing_78 : decode cX8_closeRing 78 = .ok (.iadd, 1) := by decide +kernel
theorem dX8_closeRing_79 : decode cX8_closeRing 79 = .ok (.putfield 36, 3) := by decide +kernel
theorem dX8_closeRing_82 : decode cX8_closeRing 82 = .ok (.aload_n 0, 1) := by decide +kernel
theorem dX8_closeRing_83 : decode cX8_closeRing 83 = .ok (.aload_n 0, 1) := by decide +kernel
theorem dX8_closeRing_84 : decode cX8_closeRing 84 = .ok (.getfield 40, 3) := by decide +kernel
theorem dX8_closeRing_87 : decode cX8_closeRing 87 = .ok (.iload_n 2, 1) := by decide +kernel
theorem dX8_closeRing_88 : decode cX8_closeRing 88 = .ok (.invokestatic 106, 3) := by decide +kernel
theorem dX8_closeRing_91 : decode cX8_closeRing 91 = .ok (.putfield 40, 3) := by decide +kernel
theorem dX8_closeRing_94 : decode cX8_closeRing 94 = .ok (.iload_n 3, 1) := by decide +kernel
theorem dX8_closeRing_95 : decode cX8_closeRing 95 = .ok (.ireturn, 1) := by decide +kernel
theorem dX8_moveAll_0 : decode cX8_moveAll 0 = .ok (.iconst 0, 1) := by decide +kernel
theorem dX8_moveAll_1 : decode cX8_moveAll 1 = .ok (.istore_n 2, 1) := by decide +kernel
theorem dX8_moveAll_2 : decode cX8_moveAll 2 = .ok (.iconst 0, 1) := by decide +kernel
theorem dX8_moveAll_3 : decode cX8_moveAll 3 = .ok (.istore_n 3, 1) := by decide +kernel
theorem dX8_moveAll_4 : decode cX8_moveAll 4 = .ok (.iload_n 3, 1) := by decide +kernel
theorem dX8_moveAll_5 : decode cX8_moveAll 5 = .ok (.aload_n 0, 1) := by decide +kernel
theorem dX8_moveAll_6 : decode cX8_moveAll 6 = .ok (.getfield 28, 3) := by decide +kernel
theorem dX8_moveAll_9 : decode cX8_moveAll 9 = .ok (.getfield 59, 3) := by decide +kernel
theorem dX8_moveAll_12 : decode cX8_moveAll 12 = .ok (.if_icmp .ge 56, 3) := by decide +kernel
theorem dX8_moveAll_15 : decode cX8_moveAll 15 = .ok (.iload_n 1, 1) := by decide +kernel
theorem dX8_moveAll_16 : decode cX8_moveAll 16 = .ok (.iload_n 3, 1) := by decide +kernel
theorem dX8_moveAll_17 : decode cX8_moveAll 17 = .ok (.invokestatic 70, 3) := by decide +kernel
theorem dX8_moveAll_20 : decode cX8_moveAll 20 = .ok (.ifCond .eq 42, 3) := by decide +kernel
theorem dX8_moveAll_23 : decode cX8_moveAll 23 = .ok (.iload_n 2, 1) := by decide +kernel
theorem dX8_moveAll_24 : decode cX8_moveAll 24 = .ok (.aload_n 0, 1) := by decide +kernel
theorem dX8_moveAll_25 : decode cX8_moveAll 25 = .ok (.getfield 28, 3) := by decide +kernel
theorem dX8_moveAll_28 : decode cX8_moveAll 28 = .ok (.iload_n 3, 1) := by decide +kernel
theorem dX8_moveAll_29 : decode cX8_moveAll 29 = .ok (.invokevirtual 67, 3) := by decide +kernel
theorem dX8_moveAll_32 : decode cX8_moveAll 32 = .ok (.aload_n 0, 1) := by decide +kernel
theorem dX8_moveAll_33 : decode cX8_moveAll 33 = .ok (.getfield 15, 3) := by decide +kernel
theorem dX8_moveAll_36 : decode cX8_moveAll 36 = .ok (.iload_n 3, 1) := by decide +kernel
theorem dX8_moveAll_37 : decode cX8_moveAll 37 = .ok (.iaload, 1) := by decide +kernel
theorem dX8_moveAll_38 : decode cX8_moveAll 38 = .ok (.if_icmp .eq 7, 3) := by decide +kernel
theorem dX8_moveAll_41 : decode cX8_moveAll 41 = .ok (.iconst 1, 1) := by decide +kernel
theorem dX8_moveAll_42 : decode cX8_moveAll 42 = .ok (.goto 4, 3) := by decide +kernel
theorem dX8_moveAll_45 : decode cX8_moveAll 45 = .ok (.iconst 0, 1) := by decide +kernel
theorem dX8_moveAll_46 : decode cX8_moveAll 46 = .ok (.iadd, 1) := by decide +kernel
theorem dX8_moveAll_47 : decode cX8_moveAll 47 = .ok (.istore_n 2, 1) := by decide +kernel
theorem dX8_moveAll_48 : decode cX8_moveAll 48 = .ok (.aload_n 0, 1) := by decide +kernel
theorem dX8_moveAll_49 : decode cX8_moveAll 49 = .ok (.getfield 18, 3) := by decide +kernel
theorem dX8_moveAll_52 : decode cX8_moveAll 52 = .ok (.iload_n 3, 1) := by decide +kernel
theorem dX8_moveAll_53 : decode cX8_moveAll 53 = .ok (.aload_n 0, 1) := by decide +kernel
theorem dX8_moveAll_54 : decode cX8_moveAll 54 = .ok (.getfield 15, 3) := by decide +kernel
theorem dX8_moveAll_57 : decode cX8_moveAll 57 = .ok (.iload_n 3, 1) := by decide +kernel
theorem dX8_moveAll_58 : decode cX8_moveAll 58 = .ok (.iaload, 1) := by decide +kernel
theorem dX8_moveAll_59 : decode cX8_moveAll 59 = .ok (.invokevirtual 111, 3) := by decide +kernel
theorem dX8_moveAll_62 : decode cX8_moveAll 62 = .ok (.iinc 3 1, 3) := by decide +kernel
theorem dX8_moveAll_65 : decode cX8_moveAll 65 = .ok (.goto (-61), 3) := by decide +kernel
theorem dX8_moveAll_68 : decode cX8_moveAll 68 = .ok (.iload_n 2, 1) := by decide +kernel
theorem dX8_moveAll_69 : decode cX8_moveAll 69 = .ok (.ireturn, 1) := by decide +kernel
theorem dX9_init_0 : decode cX9_init 0 = .ok (.aload_n 0, 1) := by decide +kernel
theorem dX9_init_1 : decode cX9_init 1 = .ok (.invokespecial 3, 3) := by decide +kernel
theorem dX9_init_4 : decode cX9_init 4 = .ok (.aload_n 0, 1) := by decide +kernel
theorem dX9_init_5 : decode cX9_init 5 = .ok (.bipush 16, 2) := by decide +kernel
theorem dX9_init_7 : decode cX9_init 7 = .ok (.newarray .int, 2) := by decide +kernel
theorem dX9_init_9 : decode cX9_init 9 = .ok (.putfield 9, 3) := by decide +kernel
theorem dX9_init_12 : decode cX9_init 12 = .ok (.return_, 1) := by decide +kernel
theorem dX9_has_0 : decode cX9_has 0 = .ok (.iload_n 1, 1) := by decide +kernel
theorem dX9_has_1 : decode cX9_has 1 = .ok (.iconst 0, 1) := by decide +kernel
theorem dX9_has_2 : decode cX9_has 2 = .ok (.aload_n 0, 1) := by decide +kernel
theorem dX9_has_3 : decode cX9_has 3 = .ok (.getfield 15, 3) := by decide +kernel
theorem dX9_has_6 : decode cX9_has 6 = .ok (.iconst 1, 1) := by decide +kernel
theorem dX9_has_7 : decode cX9_has 7 = .ok (.isub, 1) := by decide +kernel
theorem dX9_has_8 : decode cX9_has 8 = .ok (.invokestatic 19, 3) := by decide +kernel
theorem dX9_has_11 : decode cX9_has 11 = .ok (.ireturn, 1) := by decide +kernel
theorem dX9_at_0 : decode cX9_at 0 = .ok (.aload_n 0, 1) := by decide +kernel
theorem dX9_at_1 : decode cX9_at 1 = .ok (.iload_n 1, 1) := by decide +kernel
theorem dX9_at_2 : decode cX9_at 2 = .ok (.invokevirtual 23, 3) := by decide +kernel
theorem dX9_at_5 : decode cX9_at 5 = .ok (.ifCond .eq 12, 3) := by decide +kernel
theorem dX9_at_8 : decode cX9_at 8 = .ok (.aload_n 0, 1) := by decide +kernel
theorem dX9_at_9 : decode cX9_at 9 = .ok (.getfield 9, 3) := by decide +kernel
theorem dX9_at_12 : decode cX9_at 12 = .ok (.iload_n 1, 1) := by decide +kernel
theorem dX9_at_13 : decode cX9_at 13 = .ok (.iaload, 1) := by decide +kernel
theorem dX9_at_14 : decode cX9_at 14 = .ok (.goto 4, 3) := by decide +kernel
theorem dX9_at_17 : decode cX9_at 17 = .ok (.iconst (-1), 1) := by decide +kernel
theorem dX9_at_18 : decode cX9_at 18 = .ok (.ireturn, 1) := by decide +kernel
theorem dX9_addLast_0 : decode cX9_addLast 0 = .ok (.aload_n 0, 1) := by decide +kernel
theorem dX9_addLast_1 : decode cX9_addLast 1 = .ok (.getfield 15, 3) := by decide +kernel
theorem dX9_addLast_4 : decode cX9_addLast 4 = .ok (.bipush 16, 2) := by decide +kernel
theorem dX9_addLast_6 : decode cX9_addLast 6 = .ok (.if_icmp .ge 23, 3) := by decide +kernel
theorem dX9_addLast_9 : decode cX9_addLast 9 = .ok (.aload_n 0, 1) := by decide +kernel
theorem dX9_addLast_10 : decode cX9_addLast 10 = .ok (.getfield 9, 3) := by decide +kernel
theorem dX9_addLast_13 : decode cX9_addLast 13 = .ok (.aload_n 0, 1) := by decide +kernel
theorem dX9_addLast_14 : decode cX9_addLast 14 = .ok (.getfield 15, 3) := by decide +kernel
theorem dX9_addLast_17 : decode cX9_addLast 17 = .ok (.iload_n 1, 1) := by decide +kernel
theorem dX9_addLast_18 : decode cX9_addLast 18 = .ok (.iastore, 1) := by decide +kernel
theorem dX9_addLast_19 : decode cX9_addLast 19 = .ok (.aload_n 0, 1) := by decide +kernel
theorem dX9_addLast_20 : decode cX9_addLast 20 = .ok (.dup, 1) := by decide +kernel
theorem dX9_addLast_21 : decode cX9_addLast 21 = .ok (.getfield 15, 3) := by decide +kernel
theorem dX9_addLast_24 : decode cX9_addLast 24 = .ok (.iconst 1, 1) := by decide +kernel
theorem dX9_addLast_25 : decode cX9_addLast 25 = .ok (.iadd, 1) := by decide +kernel
theorem dX9_addLast_26 : decode cX9_addLast 26 = .ok (.putfield 15, 3) := by decide +kernel
theorem dX9_addLast_29 : decode cX9_addLast 29 = .ok (.return_, 1) := by decide +kernel
theorem dX9_swap_0 : decode cX9_swap 0 = .ok (.aload_n 0, 1) := by decide +kernel
theorem dX9_swap_1 : decode cX9_swap 1 = .ok (.iload_n 1, 1) := by decide +kernel
theorem dX9_swap_2 : decode cX9_swap 2 = .ok (.invokevirtual 23, 3) := by decide +kernel
theorem dX9_swap_5 : decode cX9_swap 5 = .ok (.ifCond .eq 37, 3) := by decide +kernel
theorem dX9_swap_8 : decode cX9_swap 8 = .ok (.aload_n 0, 1) := by decide +kernel
theorem dX9_swap_9 : decode cX9_swap 9 = .ok (.iload_n 2, 1) := by decide +kernel
theorem dX9_swap_10 : decode cX9_swap 10 = .ok (.invokevirtual 23, 3) := by decide +kernel
theorem dX9_swap_13 : decode cX9_swap 13 = .ok (.ifCond .eq 29, 3) := by decide +kernel
theorem dX9_swap_16 : decode cX9_swap 16 = .ok (.aload_n 0, 1) := by decide +kernel
theorem dX9_swap_17 : decode cX9_swap 17 = .ok (.getfield 9, 3) := by decide +kernel
theorem dX9_swap_20 : decode cX9_swap 20 = .ok (.iload_n 1, 1) := by decide +kernel
theorem dX9_swap_21 : decode cX9_swap 21 = .ok (.iaload, 1) := by decide +kernel
theorem dX9_swap_22 : decode cX9_swap 22 = .ok (.istore_n 3, 1) := by decide +kernel
theorem dX9_swap_23 : decode cX9_swap 23 = .ok (.aload_n 0, 1) := by decide +kernel
theorem dX9_swap_24 : decode cX9_swap 24 = .ok (.getfield 9, 3) := by decide +kernel
theorem dX9_swap_27 : decode cX9_swap 27 = .ok (.iload_n 1, 1) := by decide +kernel
theorem dX9_swap_28 : decode cX9_swap 28 = .ok (.aload_n 0, 1) := by decide +kernel
theorem dX9_swap_29 : decode cX9_swap 29 = .ok (.getfield 9, 3) := by decide +kernel
theorem dX9_swap_32 : decode cX9_swap 32 = .ok (.iload_n 2, 1) := by decide +kernel
theorem dX9_swap_33 : decode cX9_swap 33 = .ok (.iaload, 1) := by decide +kernel
theorem dX9_swap_34 : decode cX9_swap 34 = .ok (.iastore, 1) := by decide +kernel
theorem dX9_swap_35 : decode cX9_swap 35 = .ok (.aload_n 0, 1) := by decide +kernel
theorem dX9_swap_36 : decode cX9_swap 36 = .ok (.getfield 9, 3) := by decide +kernel
theorem dX9_swap_39 : decode cX9_swap 39 = .ok (.iload_n 2, 1) := by decide +kernel
theorem dX9_swap_40 : decode cX9_swap 40 = .ok (.iload_n 3, 1) := by decide +kernel
theorem dX9_swap_41 : decode cX9_swap 41 = .ok (.iastore, 1) := by decide +kernel
theorem dX9_swap_42 : decode cX9_swap 42 = .ok (.return_, 1) := by decide +kernel
theorem dX9_shuffle_0 : decode cX9_shuffle 0 = .ok (.iconst 0, 1) := by decide +kernel
theorem dX9_shuffle_1 : decode cX9_shuffle 1 = .ok (.istore_n 2, 1) := by decide +kernel
theorem dX9_shuffle_2 : decode cX9_shuffle 2 = .ok (.iload_n 2, 1) := by decide +kernel
theorem dX9_shuffle_3 : decode cX9_shuffle 3 = .ok (.aload_n 0, 1) := by decide +kernel
theorem dX9_shuffle_4 : decode cX9_shuffle 4 = .ok (.getfield 15, 3) := by decide +kernel
theorem dX9_shuffle_7 : decode cX9_shuffle 7 = .ok (.if_icmp .ge 16, 3) := by decide +kernel
theorem dX9_shuffle_10 : decode cX9_shuffle 10 = .ok (.aload_n 0, 1) := by decide +kernel
theorem dX9_shuffle_11 : decode cX9_shuffle 11 = .ok (.getfield 9, 3) := by decide +kernel
theorem dX9_shuffle_14 : decode cX9_shuffle 14 = .ok (.iload_n 2, 1) := by decide +kernel
theorem dX9_shuffle_15 : decode cX9_shuffle 15 = .ok (.iload_n 2, 1) := by decide +kernel
theorem dX9_shuffle_16 : decode cX9_shuffle 16 = .ok (.iastore, 1) := by decide +kernel
theorem dX9_shuffle_17 : decode cX9_shuffle 17 = .ok (.iinc 2 1, 3) := by decide +kernel
theorem dX9_shuffle_20 : decode cX9_shuffle 20 = .ok (.goto (-18), 3) := by decide +kernel
theorem dX9_shuffle_23 : decode cX9_shuffle 23 = .ok (.iload_n 1, 1) := by decide +kernel
theorem dX9_shuffle_24 : decode cX9_shuffle 24 = .ok (.istore_n 2, 1) := by decide +kernel
theorem dX9_shuffle_25 : decode cX9_shuffle 25 = .ok (.aload_n 0, 1) := by decide +kernel
theorem dX9_shuffle_26 : decode cX9_shuffle 26 = .ok (.getfield 15, 3) := by decide +kernel
theorem dX9_shuffle_29 : decode cX9_shuffle 29 = .ok (.iconst 1, 1) := by decide +kernel
theorem dX9_shuffle_30 : decode cX9_shuffle 30 = .ok (.isub, 1) := by decide +kernel
theorem dX9_shuffle_31 : decode cX9_shuffle 31 = .ok (.istore_n 3, 1) := by decide +kernel
theorem dX9_shuffle_32 : decode cX9_shuffle 32 = .ok (.iload_n 3, 1) := by decide +kernel
theorem dX9_shuffle_33 : decode cX9_shuffle 33 = .ok (.iconst 1, 1) := by decide +kernel
theorem dX9_shuffle_34 : decode cX9_shuffle 34 = .ok (.if_icmp .lt 31, 3) := by decide +kernel
theorem dX9_shuffle_37 : decode cX9_shuffle 37 = .ok (.ldc 27, 2) := by decide +kernel
theorem dX9_shuffle_39 : decode cX9_shuffle 39 = .ok (.iload_n 2, 1) := by decide +kernel
theorem dX9_shuffle_40 : decode cX9_shuffle 40 = .ok (.imul, 1) := by decide +kernel
theorem dX9_shuffle_41 : decode cX9_shuffle 41 = .ok (.sipush 12345, 3) := by decide +kernel
theorem dX9_shuffle_44 : decode cX9_shuffle 44 = .ok (.iadd, 1) := by decide +kernel
theorem dX9_shuffle_45 : decode cX9_shuffle 45 = .ok (.istore_n 2, 1) := by decide +kernel
theorem dX9_shuffle_46 : decode cX9_shuffle 46 = .ok (.aload_n 0, 1) := by decide +kernel
theorem dX9_shuffle_47 : decode cX9_shuffle 47 = .ok (.iload_n 3, 1) := by decide +kernel
theorem dX9_shuffle_48 : decode cX9_shuffle 48 = .ok (.iload_n 2, 1) := by decide +kernel
theorem dX9_shuffle_49 : decode cX9_shuffle 49 = .ok (.bipush 16, 2) := by decide +kernel
theorem dX9_shuffle_51 : decode cX9_shuffle 51 = .ok (.iushr, 1) := by decide +kernel
theorem dX9_shuffle_52 : decode cX9_shuffle 52 = .ok (.iload_n 3, 1) := by decide +kernel
theorem dX9_shuffle_53 : decode cX9_shuffle 53 = .ok (.iconst 1, 1) := by decide +kernel
theorem dX9_shuffle_54 : decode cX9_shuffle 54 = .ok (.iadd, 1) := by decide +kernel
theorem dX9_shuffle_55 : decode cX9_shuffle 55 = .ok (.irem, 1) := by decide +kernel
theorem dX9_shuffle_56 : decode cX9_shuffle 56 = .ok (.invokevirtual 28, 3) := by decide +kernel
theorem dX9_shuffle_59 : decode cX9_shuffle 59 = .ok (.iinc 3 (-1), 3) := by decide +kernel
theorem dX9_shuffle_62 : decode cX9_shuffle 62 = .ok (.goto (-30), 3) := by decide +kernel
theorem dX9_shuffle_65 : decode cX9_shuffle 65 = .ok (.return_, 1) := by decide +kernel
theorem dX10_init_0 : decode cX10_init 0 = .ok (.aload_n 0, 1) := by decide +kernel
theorem dX10_init_1 : decode cX10_init 1 = .ok (.invokespecial 1, 3) := by decide +kernel
theorem dX10_init_4 : decode cX10_init 4 = .ok (.new 7, 3) := by decide +kernel
theorem dX10_init_7 : decode cX10_init 7 = .ok (.dup, 1) := by decide +kernel
theorem dX10_init_8 : decode cX10_init 8 = .ok (.invokespecial 9, 3) := by decide +kernel
theorem dX10_init_11 : decode cX10_init 11 = .ok (.astore_n 1, 1) := by decide +kernel
theorem dX10_init_12 : decode cX10_init 12 = .ok (.aload_n 0, 1) := by decide +kernel
theorem dX10_init_13 : decode cX10_init 13 = .ok (.aload_n 1, 1) := by decide +kernel
theorem dX10_init_14 : decode cX10_init 14 = .ok (.putfield 10, 3) := by decide +kernel
theorem dX10_init_17 : decode cX10_init 17 = .ok (.aload_n 0, 1) := by decide +kernel
theorem dX10_init_18 : decode cX10_init 18 = .ok (.aload_n 1, 1) := by decide +kernel
theorem dX10_init_19 : decode cX10_init 19 = .ok (.getfield 16, 3) := by decide +kernel
theorem dX10_init_22 : decode cX10_init 22 = .ok (.putfield 20, 3) := by decide +kernel
theorem dX10_init_25 : decode cX10_init 25 = .ok (.aload_n 0, 1) := by decide +kernel
theorem dX10_init_26 : decode cX10_init 26 = .ok (.aload_n 1, 1) := by decide +kernel
theorem dX10_init_27 : decode cX10_init 27 = .ok (.getfield 21, 3) := by decide +kernel
theorem dX10_init_30 : decode cX10_init 30 = .ok (.putfield 25, 3) := by decide +kernel
theorem dX10_init_33 : decode cX10_init 33 = .ok (.aload_n 0, 1) := by decide +kernel
theorem dX10_init_34 : decode cX10_init 34 = .ok (.aload_n 1, 1) := by decide +kernel
theorem dX10_init_35 : decode cX10_init 35 = .ok (.getfield 26, 3) := by decide +kernel
theorem dX10_init_38 : decode cX10_init 38 = .ok (.putfield 30, 3) := by decide +kernel
theorem dX10_init_41 : decode cX10_init 41 = .ok (.aload_n 0, 1) := by decide +kernel
theorem dX10_init_42 : decode cX10_init 42 = .ok (.new 31, 3) := by decide +kernel
theorem dX10_init_45 : decode cX10_init 45 = .ok (.dup, 1) := by decide +kernel
theorem dX10_init_46 : decode cX10_init 46 = .ok (.invokespecial 33, 3) := by decide +kernel
theorem dX10_init_49 : decode cX10_init 49 = .ok (.putfield 34, 3) := by decide +kernel
theorem dX10_init_52 : decode cX10_init 52 = .ok (.aload_n 0, 1) := by decide +kernel
theorem dX10_init_53 : decode cX10_init 53 = .ok (.new 38, 3) := by decide +kernel
theorem dX10_init_56 : decode cX10_init 56 = .ok (.dup, 1) := by decide +kernel
theorem dX10_init_57 : decode cX10_init 57 = .ok (.aload_n 1, 1) := by decide +kernel
theorem dX10_init_58 : decode cX10_init 58 = .ok (.invokespecial 40, 3) := by decide +kernel
theorem dX10_init_61 : decode cX10_init 61 = .ok (.putfield 43, 3) := by decide +kernel
theorem dX10_init_64 : decode cX10_init 64 = .ok (.aload_n 0, 1) := by decide +kernel
theorem dX10_init_65 : decode cX10_init 65 = .ok (.new 47, 3) := by decide +kernel
theorem dX10_init_68 : decode cX10_init 68 = .ok (.dup, 1) := by decide +kernel
theorem dX10_init_69 : decode cX10_init 69 = .ok (.aload_n 1, 1) := by decide +kernel
theorem dX10_init_70 : decode cX10_init 70 = .ok (.invokespecial 49, 3) := by decide +kernel
theorem dX10_init_73 : decode cX10_init 73 = .ok (.putfield 50, 3) := by decide +kernel
theorem dX10_init_76 : decode cX10_init 76 = .ok (.aload_n 0, 1) := by decide +kernel
theorem dX10_init_77 : decode cX10_init 77 = .ok (.new 54, 3) := by decide +kernel
theorem dX10_init_80 : decode cX10_init 80 = .ok (.dup, 1) := by decide +kernel
theorem dX10_init_81 : decode cX10_init 81 = .ok (.aload_n 1, 1) := by decide +kernel
theorem dX10_init_82 : decode cX10_init 82 = .ok (.invokespecial 56, 3) := by decide +kernel
theorem dX10_init_85 : decode cX10_init 85 = .ok (.putfield 57, 3) := by decide +kernel
theorem dX10_init_88 : decode cX10_init 88 = .ok (.aload_n 0, 1) := by decide +kernel
theorem dX10_init_89 : decode cX10_init 89 = .ok (.new 61, 3) := by decide +kernel
theorem dX10_init_92 : decode cX10_init 92 = .ok (.dup, 1) := by decide +kernel
theorem dX10_init_93 : decode cX10_init 93 = .ok (.invokespecial 63, 3) := by decide +kernel
theorem dX10_init_96 : decode cX10_init 96 = .ok (.putfield 64, 3) := by decide +kernel
theorem dX10_init_99 : decode cX10_init 99 = .ok (.aload_n 0, 1) := by decide +kernel
theorem dX10_init_100 : decode cX10_init 100 = .ok (.new 68, 3) := by decide +kernel
theorem dX10_init_103 : decode cX10_init 103 = .ok (.dup, 1) := by decide +kernel
theorem dX10_init_104 : decode cX10_init 104 = .ok (.invokespecial 70, 3) := by decide +kernel
theorem dX10_init_107 : decode cX10_init 107 = .ok (.putfield 71, 3) := by decide +kernel
theorem dX10_init_110 : decode cX10_init 110 = .ok (.return_, 1) := by decide +kernel
theorem dX10_room_0 : decode cX10_room 0 = .ok (.iload_n 1, 1) := by decide +kernel
theorem dX10_room_1 : decode cX10_room 1 = .ok (.iconst 0, 1) := by decide +kernel
theorem dX10_room_2 : decode cX10_room 2 = .ok (.bipush 7, 2) := by decide +kernel
theorem dX10_room_4 : decode cX10_room 4 = .ok (.invokestatic 75, 3) := by decide +kernel
theorem dX10_room_7 : decode cX10_room 7 = .ok (.ifCond .eq 22, 3) := by decide +kernel
theorem dX10_room_10 : decode cX10_room 10 = .ok (.iload_n 2, 1) := by decide +kernel
theorem dX10_room_11 : decode cX10_room 11 = .ok (.iconst 0, 1) := by decide +kernel
theorem dX10_room_12 : decode cX10_room 12 = .ok (.bipush 20, 2) := by decide +kernel
theorem dX10_room_14 : decode cX10_room 14 = .ok (.invokestatic 75, 3) := by decide +kernel
theorem dX10_room_17 : decode cX10_room 17 = .ok (.ifCond .eq 12, 3) := by decide +kernel
theorem dX10_room_20 : decode cX10_room 20 = .ok (.iload_n 3, 1) := by decide +kernel
theorem dX10_room_21 : decode cX10_room 21 = .ok (.iconst 0, 1) := by decide +kernel
theorem dX10_room_22 : decode cX10_room 22 = .ok (.iconst 3, 1) := by decide +kernel
theorem dX10_room_23 : decode cX10_room 23 = .ok (.invokestatic 75, 3) := by decide +kernel
theorem dX10_room_26 : decode cX10_room 26 = .ok (.ifCond .ne 6, 3) := by decide +kernel
theorem dX10_room_29 : decode cX10_room 29 = .ok (.bipush (-2), 2) := by decide +kernel
theorem dX10_room_31 : decode cX10_room 31 = .ok (.ireturn, 1) := by decide +kernel
theorem dX10_room_32 : decode cX10_room 32 = .ok (.aload_n 0, 1) := by decide +kernel
theorem dX10_room_33 : decode cX10_room 33 = .ok (.getfield 20, 3) := by decide +kernel
theorem dX10_room_36 : decode cX10_room 36 = .ok (.getfield 79, 3) := by decide +kernel
theorem dX10_room_39 : decode cX10_room 39 = .ok (.bipush 24, 2) := by decide +kernel
theorem dX10_room_41 : decode cX10_room 41 = .ok (.if_icmp .ge 16, 3) := by decide +kernel
theorem dX10_room_44 : decode cX10_room 44 = .ok (.aload_n 0, 1) := by decide +kernel
theorem dX10_room_45 : decode cX10_room 45 = .ok (.getfield 20, 3) := by decide +kernel
theorem dX10_room_48 : decode cX10_room 48 = .ok (.iload_n 1, 1) := by decide +kernel
theorem dX10_room_49 : decode cX10_room 49 = .ok (.iload_n 2, 1) := by decide +kernel
theorem dX10_room_50 : decode cX10_room 50 = .ok (.iload_n 3, 1) := by decide +kernel
theorem dX10_room_51 : decode cX10_room 51 = .ok (.invokevirtual 85, 3) := by decide +kernel
theorem dX10_room_54 : decode cX10_room 54 = .ok (.goto 5, 3) := by decide +kernel
theorem dX10_room_57 : decode cX10_room 57 = .ok (.bipush (-4), 2) := by decide +kernel
theorem dX10_room_59 : decode cX10_room 59 = .ok (.ireturn, 1) := by decide +kernel
theorem dX10_person_0 : decode cX10_person 0 = .ok (.iload_n 1, 1) := by decide +kernel
theorem dX10_person_1 : decode cX10_person 1 = .ok (.iconst 1, 1) := by decide +kernel
theorem dX10_person_2 : decode cX10_person 2 = .ok (.iconst 4, 1) := by decide +kernel
theorem dX10_person_3 : decode cX10_person 3 = .ok (.invokestatic 75, 3) := by decide +kernel
theorem dX10_person_6 : decode cX10_person 6 = .ok (.ifCond .ne 6, 3) := by decide +kernel
theorem dX10_person_9 : decode cX10_person 9 = .ok (.bipush (-2), 2) := by decide +kernel
theorem dX10_person_11 : decode cX10_person 11 = .ok (.ireturn, 1) := by decide +kernel
theorem dX10_person_12 : decode cX10_person 12 = .ok (.iload_n 2, 1) := by decide +kernel
theorem dX10_person_13 : decode cX10_person 13 = .ok (.iconst (-1), 1) := by decide +kernel
theorem dX10_person_14 : decode cX10_person 14 = .ok (.if_icmp .eq 16, 3) := by decide +kernel
theorem dX10_person_17 : decode cX10_person 17 = .ok (.iload_n 2, 1) := by decide +kernel
theorem dX10_person_18 : decode cX10_person 18 = .ok (.iconst 0, 1) := by decide +kernel
theorem dX10_person_19 : decode cX10_person 19 = .ok (.bipush 7, 2) := by decide +kernel
theorem dX10_person_21 : decode cX10_person 21 = .ok (.invokestatic 75, 3) := by decide +kernel
theorem dX10_person_24 : decode cX10_person 24 = .ok (.ifCond .ne 6, 3) := by decide +kernel
theorem dX10_person_27 : decode cX10_person 27 = .ok (.bipush (-2), 2) := by decide +kernel
theorem dX10_person_29 : decode cX10_person 29 = .ok (.ireturn, 1) := by decide +kernel
theorem dX10_person_30 : decode cX10_person 30 = .ok (.aload_n 0, 1) := by decide +kernel
theorem dX10_person_31 : decode cX10_person 31 = .ok (.getfield 25, 3) := by decide +kernel
theorem dX10_person_34 : decode cX10_person 34 = .ok (.getfield 89, 3) := by decide +kernel
theorem dX10_person_37 : decode cX10_person 37 = .ok (.bipush 16, 2) := by decide +kernel
theorem dX10_person_39 : decode cX10_person 39 = .ok (.if_icmp .lt 6, 3) := by decide +kernel
theorem dX10_person_42 : decode cX10_person 42 = .ok (.bipush (-4), 2) := by decide +kernel
theorem dX10_person_44 : decode cX10_person 44 = .ok (.ireturn, 1) := by decide +kernel
theorem dX10_person_45 : decode cX10_person 45 = .ok (.aload_n 0, 1) := by decide +kernel
theorem dX10_person_46 : decode cX10_person 46 = .ok (.getfield 25, 3) := by decide +kernel
theorem dX10_person_49 : decode cX10_person 49 = .ok (.iload_n 1, 1) := by decide +kernel
theorem dX10_person_50 : decode cX10_person 50 = .ok (.iload_n 2, 1) := by decide +kernel
theorem dX10_person_51 : decode cX10_person 51 = .ok (.invokevirtual 92, 3) := by decide +kernel
theorem dX10_person_54 : decode cX10_person 54 = .ok (.istore_n 3, 1) := by decide +kernel
theorem dX10_person_55 : decode cX10_person 55 = .ok (.aload_n 0, 1) := by decide +kernel
theorem dX10_person_56 : decode cX10_person 56 = .ok (.getfield 34, 3) := by decide +kernel
theorem dX10_person_59 : decode cX10_person 59 = .ok (.iload_n 3, 1) := by decide +kernel
theorem dX10_person_60 : decode cX10_person 60 = .ok (.invokevirtual 95, 3) := by decide +kernel
theorem dX10_person_63 : decode cX10_person 63 = .ok (.iload_n 3, 1) := by decide +kernel
theorem dX10_person_64 : decode cX10_person 64 = .ok (.ireturn, 1) := by decide +kernel
theorem dX10_wish_0 : decode cX10_wish 0 = .ok (.aload_n 0, 1) := by decide +kernel
theorem dX10_wish_1 : decode cX10_wish 1 = .ok (.getfield 25, 3) := by decide +kernel
theorem dX10_wish_4 : decode cX10_wish 4 = .ok (.iload_n 1, 1) := by decide +kernel
theorem dX10_wish_5 : decode cX10_wish 5 = .ok (.invokevirtual 99, 3) := by decide +kernel
theorem dX10_wish_8 : decode cX10_wish 8 = .ok (.ifCond .eq 26, 3) := by decide +kernel
theorem dX10_wish_11 : decode cX10_wish 11 = .ok (.aload_n 0, 1) := by decide +kernel
theorem dX10_wish_12 : decode cX10_wish 12 = .ok (.getfield 20, 3) := by decide +kernel
theorem dX10_wish_15 : decode cX10_wish 15 = .ok (.iload_n 2, 1) := by decide +kernel
theorem dX10_wish_16 : decode cX10_wish 16 = .ok (.invokevirtual 103, 3) := by decide +kernel
theorem dX10_wish_19 : decode cX10_wish 19 = .ok (.ifCond .eq 15, 3) := by decide +kernel
theorem dX10_wish_22 : decode cX10_wish 22 = .ok (.aload_n 0, 1) := by decide +kernel
theorem dX10_wish_23 : decode cX10_wish 23 = .ok (.getfield 25, 3) := by decide +kernel
theorem dX10_wish_26 : decode cX10_wish 26 = .ok (.iload_n 1, 1) := by decide +kernel
theorem dX10_wish_27 : decode cX10_wish 27 = .ok (.iload_n 2, 1) := by decide +kernel
theorem dX10_wish_28 : decode cX10_wish 28 = .ok (.invokevirtual 104, 3) := by decide +kernel
theorem dX10_wish_31 : decode cX10_wish 31 = .ok (.ifCond .eq 6, 3) := by decide +kernel
theorem dX10_wish_34 : decode cX10_wish 34 = .ok (.bipush (-2), 2) := by decide +kernel
theorem dX10_wish_36 : decode cX10_wish 36 = .ok (.ireturn, 1) := by decide +kernel
theorem dX10_wish_37 : decode cX10_wish 37 = .ok (.aload_n 0, 1) := by decide +kernel
theorem dX10_wish_38 : decode cX10_wish 38 = .ok (.getfield 25, 3) := by decide +kernel
theorem dX10_wish_41 : decode cX10_wish 41 = .ok (.getfield 108, 3) := by decide +kernel
theorem dX10_wish_44 : decode cX10_wish 44 = .ok (.iload_n 1, 1) := by decide +kernel
theorem dX10_wish_45 : decode cX10_wish 45 = .ok (.iaload, 1) := by decide +kernel
theorem dX10_wish_46 : decode cX10_wish 46 = .ok (.bipush 8, 2) := by decide +kernel
theorem dX10_wish_48 : decode cX10_wish 48 = .ok (.if_icmp .ge 15, 3) := by decide +kernel
theorem dX10_wish_51 : decode cX10_wish 51 = .ok (.aload_n 0, 1) := by decide +kernel
theorem dX10_wish_52 : decode cX10_wish 52 = .ok (.getfield 25, 3) := by decide +kernel
theorem dX10_wish_55 : decode cX10_wish 55 = .ok (.iload_n 1, 1) := by decide +kernel
theorem dX10_wish_56 : decode cX10_wish 56 = .ok (.iload_n 2, 1) := by decide +kernel
theorem dX10_wish_57 : decode cX10_wish 57 = .ok (.invokevirtual 112, 3) := by decide +kernel
theorem dX10_wish_60 : decode cX10_wish 60 = .ok (.goto 5, 3) := by decide +kernel
theorem dX10_wish_63 : decode cX10_wish 63 = .ok (.bipush (-4), 2) := by decide +kernel
theorem dX10_wish_65 : decode cX10_wish 65 = .ok (.ireturn, 1) := by decide +kernel
theorem dX10_content_0 : decode cX10_content 0 = .ok (.aload_n 0, 1) := by decide +kernel
theorem dX10_content_1 : decode cX10_content 1 = .ok (.getfield 25, 3) := by decide +kernel
theorem dX10_content_4 : decode cX10_content 4 = .ok (.iload_n 1, 1) := by decide +kernel
theorem dX10_content_5 : decode cX10_content 5 = .ok (.invokevirtual 99, 3) := by decide +kernel
theorem dX10_content_8 : decode cX10_content 8 = .ok (.ifCond .ne 6, 3) := by decide +kernel
theorem dX10_content_11 : decode cX10_content 11 = .ok (.bipush (-2), 2) := by decide +kernel
theorem dX10_content_13 : decode cX10_content 13 = .ok (.ireturn, 1) := by decide +kernel
theorem dX10_content_14 : decode cX10_content 14 = .ok (.aload_n 0, 1) := by decide +kernel
theorem dX10_content_15 : decode cX10_content 15 = .ok (.getfield 25, 3) := by decide +kernel
theorem dX10_content_18 : decode cX10_content 18 = .ok (.getfield 108, 3) := by decide +kernel
theorem dX10_content_21 : decode cX10_content 21 = .ok (.iload_n 1, 1) := by decide +kernel
theorem dX10_content_22 : decode cX10_content 22 = .ok (.iaload, 1) := by decide +kernel
theorem dX10_content_23 : decode cX10_content 23 = .ok (.istore_n 2, 1) := by decide +kernel
theorem dX10_content_24 : decode cX10_content 24 = .ok (.aload_n 0, 1) := by decide +kernel
theorem dX10_content_25 : decode cX10_content 25 = .ok (.getfield 25, 3) := by decide +kernel
theorem dX10_content_28 : decode cX10_content 28 = .ok (.getfield 108, 3) := by decide +kernel
theorem dX10_content_31 : decode cX10_content 31 = .ok (.iload_n 1, 1) := by decide +kernel
theorem dX10_content_32 : decode cX10_content 32 = .ok (.iconst 0, 1) := by decide +kernel
theorem dX10_content_33 : decode cX10_content 33 = .ok (.iastore, 1) := by decide +kernel
theorem dX10_content_34 : decode cX10_content 34 = .ok (.iload_n 2, 1) := by decide +kernel
theorem dX10_content_35 : decode cX10_content 35 = .ok (.ireturn, 1) := by decide +kernel
theorem dX10_about_0 : decode cX10_about 0 = .ok (.aload_n 0, 1) := by decide +kernel
theorem dX10_about_1 : decode cX10_about 1 = .ok (.getfield 25, 3) := by decide +kernel
theorem dX10_about_4 : decode cX10_about 4 = .ok (.iload_n 1, 1) := by decide +kernel
theorem dX10_about_5 : decode cX10_about 5 = .ok (.invokevirtual 99, 3) := by decide +kernel
theorem dX10_about_8 : decode cX10_about 8 = .ok (.ifCond .ne 6, 3) := by decide +kernel
theorem dX10_about_11 : decode cX10_about 11 = .ok (.bipush (-2), 2) := by decide +kernel
theorem dX10_about_13 : decode cX10_about 13 = .ok (.ireturn, 1) := by decide +kernel
theorem dX10_about_14 : decode cX10_about 14 = .ok (.iload_n 2, 1) := by decide +kernel
theorem dX10_about_15 : decode cX10_about 15 = .ok (.tableswitch 105 0 5 #[37, 47, 57, 67, 77, 95], 37) := by decide +kernel
theorem dX10_about_52 : decode cX10_about 52 = .ok (.aload_n 0, 1) := by decide +kernel
theorem dX10_about_53 : decode cX10_about 53 = .ok (.getfield 25, 3) := by decide +kernel
theorem dX10_about_56 : decode cX10_about 56 = .ok (.getfield 115, 3) := by decide +kernel
theorem dX10_about_59 : decode cX10_about 59 = .ok (.iload_n 1, 1) := by decide +kernel
theorem dX10_about_60 : decode cX10_about 60 = .ok (.iaload, 1) := by decide +kernel
theorem dX10_about_61 : decode cX10_about 61 = .ok (.ireturn, 1) := by decide +kernel
theorem dX10_about_62 : decode cX10_about 62 = .ok (.aload_n 0, 1) := by decide +kernel
theorem dX10_about_63 : decode cX10_about 63 = .ok (.getfield 25, 3) := by decide +kernel
theorem dX10_about_66 : decode cX10_about 66 = .ok (.getfield 118, 3) := by decide +kernel
theorem dX10_about_69 : decode cX10_about 69 = .ok (.iload_n 1, 1) := by decide +kernel
theorem dX10_about_70 : decode cX10_about 70 = .ok (.iaload, 1) := by decide +kernel
theorem dX10_about_71 : decode cX10_about 71 = .ok (.ireturn, 1) := by decide +kernel
theorem dX10_about_72 : decode cX10_about 72 = .ok (.aload_n 0, 1) := by decide +kernel
theorem dX10_about_73 : decode cX10_about 73 = .ok (.getfield 25, 3) := by decide +kernel
theorem dX10_about_76 : decode cX10_about 76 = .ok (.getfield 108, 3) := by decide +kernel
theorem dX10_about_79 : decode cX10_about 79 = .ok (.iload_n 1, 1) := by decide +kernel
theorem dX10_about_80 : decode cX10_about 80 = .ok (.iaload, 1) := by decide +kernel
theorem dX10_about_81 : decode cX10_about 81 = .ok (.ireturn, 1) := by decide +kernel
theorem dX10_about_82 : decode cX10_about 82 = .ok (.aload_n 0, 1) := by decide +kernel
theorem dX10_about_83 : decode cX10_about 83 = .ok (.getfield 25, 3) := by decide +kernel
theorem dX10_about_86 : decode cX10_about 86 = .ok (.getfield 121, 3) := by decide +kernel
theorem dX10_about_89 : decode cX10_about 89 = .ok (.iload_n 1, 1) := by decide +kernel
theorem dX10_about_90 : decode cX10_about 90 = .ok (.iaload, 1) := by decide +kernel
theorem dX10_about_91 : decode cX10_about 91 = .ok (.ireturn, 1) := by decide +kernel
theorem dX10_about_92 : decode cX10_about 92 = .ok (.aload_n 0, 1) := by decide +kernel
theorem dX10_about_93 : decode cX10_about 93 = .ok (.getfield 25, 3) := by decide +kernel
theorem dX10_about_96 : decode cX10_about 96 = .ok (.getfield 124, 3) := by decide +kernel
theorem dX10_about_99 : decode cX10_about 99 = .ok (.iload_n 1, 1) := by decide +kernel
theorem dX10_about_100 : decode cX10_about 100 = .ok (.baload, 1) := by decide +kernel
theorem dX10_about_101 : decode cX10_about 101 = .ok (.ifCond .eq 7, 3) := by decide +kernel
theorem dX10_about_104 : decode cX10_about 104 = .ok (.iconst 1, 1) := by decide +kernel
theorem dX10_about_105 : decode cX10_about 105 = .ok (.goto 4, 3) := by decide +kernel
theorem dX10_about_108 : decode cX10_about 108 = .ok (.iconst 0, 1) := by decide +kernel
theorem dX10_about_109 : decode cX10_about 109 = .ok (.ireturn, 1) := by decide +kernel
theorem dX10_about_110 : decode cX10_about 110 = .ok (.aload_n 0, 1) := by decide +kernel
theorem dX10_about_111 : decode cX10_about 111 = .ok (.getfield 25, 3) := by decide +kernel
theorem dX10_about_114 : decode cX10_about 114 = .ok (.getfield 128, 3) := by decide +kernel
theorem dX10_about_117 : decode cX10_about 117 = .ok (.iload_n 1, 1) := by decide +kernel
theorem dX10_about_118 : decode cX10_about 118 = .ok (.iaload, 1) := by decide +kernel
theorem dX10_about_119 : decode cX10_about 119 = .ok (.ireturn, 1) := by decide +kernel
theorem dX10_about_120 : decode cX10_about 120 = .ok (.aload_n 0, 1) := by decide +kernel
theorem dX10_about_121 : decode cX10_about 121 = .ok (.iload_n 1, 1) := by decide +kernel
theorem dX10_about_122 : decode cX10_about 122 = .ok (.iload_n 2, 1) := by decide +kernel
theorem dX10_about_123 : decode cX10_about 123 = .ok (.invokevirtual 131, 3) := by decide +kernel
theorem dX10_about_126 : decode cX10_about 126 = .ok (.ireturn, 1) := by decide +kernel
theorem dX10_wishTold_0 : decode cX10_wishTold 0 = .ok (.iload_n 2, 1) := by decide +kernel
theorem dX10_wishTold_1 : decode cX10_wishTold 1 = .ok (.bipush 10, 2) := by decide +kernel
theorem dX10_wishTold_3 : decode cX10_wishTold 3 = .ok (.bipush 17, 2) := by decide +kernel
theorem dX10_wishTold_5 : decode cX10_wishTold 5 = .ok (.invokestatic 75, 3) := by decide +kernel
theorem dX10_wishTold_8 : decode cX10_wishTold 8 = .ok (.ifCond .ne 6, 3) := by decide +kernel
theorem dX10_wishTold_11 : decode cX10_wishTold 11 = .ok (.bipush (-2), 2) := by decide +kernel
theorem dX10_wishTold_13 : decode cX10_wishTold 13 = .ok (.ireturn, 1) := by decide +kernel
theorem dX10_wishTold_14 : decode cX10_wishTold 14 = .ok (.aload_n 0, 1) := by decide +kernel
theorem dX10_wishTold_15 : decode cX10_wishTold 15 = .ok (.getfield 25, 3) := by decide +kernel
theorem dX10_wishTold_18 : decode cX10_wishTold 18 = .ok (.iload_n 1, 1) := by decide +kernel
theorem dX10_wishTold_19 : decode cX10_wishTold 19 = .ok (.iload_n 2, 1) := by decide +kernel
theorem dX10_wishTold_20 : decode cX10_wishTold 20 = .ok (.bipush 10, 2) := by decide +kernel
theorem dX10_wishTold_22 : decode cX10_wishTold 22 = .ok (.isub, 1) := by decide +kernel
theorem dX10_wishTold_23 : decode cX10_wishTold 23 = .ok (.invokevirtual 134, 3) := by decide +kernel
theorem dX10_wishTold_26 : decode cX10_wishTold 26 = .ok (.istore_n 3, 1) := by decide +kernel
theorem dX10_wishTold_27 : decode cX10_wishTold 27 = .ok (.iload_n 3, 1) := by decide +kernel
theorem dX10_wishTold_28 : decode cX10_wishTold 28 = .ok (.iconst (-1), 1) := by decide +kernel
theorem dX10_wishTold_29 : decode cX10_wishTold 29 = .ok (.if_icmp .ne 8, 3) := by decide +kernel
theorem dX10_wishTold_32 : decode cX10_wishTold 32 = .ok (.bipush (-2), 2) := by decide +kernel
theorem dX10_wishTold_34 : decode cX10_wishTold 34 = .ok (.goto 4, 3) := by decide +kernel
theorem dX10_wishTold_37 : decode cX10_wishTold 37 = .ok (.iload_n 3, 1) := by decide +kernel
theorem dX10_wishTold_38 : decode cX10_wishTold 38 = .ok (.ireturn, 1) := by decide +kernel
theorem dX10_of_0 : decode cX10_of 0 = .ok (.aload_n 0, 1) := by decide +kernel
theorem dX10_of_1 : decode cX10_of 1 = .ok (.getfield 20, 3) := by decide +kernel
theorem dX10_of_4 : decode cX10_of 4 = .ok (.iload_n 1, 1) := by decide +kernel
theorem dX10_of_5 : decode cX10_of 5 = .ok (.invokevirtual 103, 3) := by decide +kernel
theorem dX10_of_8 : decode cX10_of 8 = .ok (.ifCond .ne 6, 3) := by decide +kernel
theorem dX10_of_11 : decode cX10_of 11 = .ok (.bipush (-2), 2) := by decide +kernel
theorem dX10_of_13 : decode cX10_of 13 = .ok (.ireturn, 1) := by decide +kernel
theorem dX10_of_14 : decode cX10_of 14 = .ok (.iload_n 2, 1) := by decide +kernel
theorem dX10_of_15 : decode cX10_of 15 = .ok (.tableswitch 69 0 3 #[29, 39, 49, 59], 29) := by decide +kernel
theorem dX10_of_44 : decode cX10_of 44 = .ok (.aload_n 0, 1) := by decide +kernel
theorem dX10_of_45 : decode cX10_of 45 = .ok (.getfield 20, 3) := by decide +kernel
theorem dX10_of_48 : decode cX10_of 48 = .ok (.getfield 137, 3) := by decide +kernel
theorem dX10_of_51 : decode cX10_of 51 = .ok (.iload_n 1, 1) := by decide +kernel
theorem dX10_of_52 : decode cX10_of 52 = .ok (.iaload, 1) := by decide +kernel
theorem dX10_of_53 : decode cX10_of 53 = .ok (.ireturn, 1) := by decide +kernel
theorem dX10_of_54 : decode cX10_of 54 = .ok (.aload_n 0, 1) := by decide +kernel
theorem dX10_of_55 : decode cX10_of 55 = .ok (.getfield 20, 3) := by decide +kernel
theorem dX10_of_58 : decode cX10_of 58 = .ok (.getfield 140, 3) := by decide +kernel
theorem dX10_of_61 : decode cX10_of 61 = .ok (.iload_n 1, 1) := by decide +kernel
theorem dX10_of_62 : decode cX10_of 62 = .ok (.iaload, 1) := by decide +kernel
theorem dX10_of_63 : decode cX10_of 63 = .ok (.ireturn, 1) := by decide +kernel
theorem dX10_of_64 : decode cX10_of 64 = .ok (.aload_n 0, 1) := by decide +kernel
theorem dX10_of_65 : decode cX10_of 65 = .ok (.getfield 20, 3) := by decide +kernel
theorem dX10_of_68 : decode cX10_of 68 = .ok (.getfield 143, 3) := by decide +kernel
theorem dX10_of_71 : decode cX10_of 71 = .ok (.iload_n 1, 1) := by decide +kernel
theorem dX10_of_72 : decode cX10_of 72 = .ok (.iaload, 1) := by decide +kernel
theorem dX10_of_73 : decode cX10_of 73 = .ok (.ireturn, 1) := by decide +kernel
theorem dX10_of_74 : decode cX10_of 74 = .ok (.aload_n 0, 1) := by decide +kernel
theorem dX10_of_75 : decode cX10_of 75 = .ok (.getfield 20, 3) := by decide +kernel
theorem dX10_of_78 : decode cX10_of 78 = .ok (.getfield 146, 3) := by decide +kernel
theorem dX10_of_81 : decode cX10_of 81 = .ok (.iload_n 1, 1) := by decide +kernel
theorem dX10_of_82 : decode cX10_of 82 = .ok (.iaload, 1) := by decide +kernel
theorem dX10_of_83 : decode cX10_of 83 = .ok (.ireturn, 1) := by decide +kernel
theorem dX10_of_84 : decode cX10_of 84 = .ok (.bipush (-2), 2) := by decide +kernel
theorem dX10_of_86 : decode cX10_of 86 = .ok (.ireturn, 1) := by decide +kernel
theorem dX10_give_0 : decode cX10_give 0 = .ok (.aload_n 0, 1) := by decide +kernel
theorem dX10_give_1 : decode cX10_give 1 = .ok (.getfield 25, 3) := by decide +kernel
theorem dX10_give_4 : decode cX10_give 4 = .ok (.iload_n 1, 1) := by decide +kernel
theorem dX10_give_5 : decode cX10_give 5 = .ok (.invokevirtual 99, 3) := by decide +kernel
theorem dX10_give_8 : decode cX10_give 8 = .ok (.ifCond .ne 6, 3) := by decide +kernel
theorem dX10_give_11 : decode cX10_give 11 = .ok (.bipush (-2), 2) := by decide +kernel
theorem dX10_give_13 : decode cX10_give 13 = .ok (.ireturn, 1) := by decide +kernel
theorem dX10_give_14 : decode cX10_give 14 = .ok (.iload_n 2, 1) := by decide +kernel
theorem dX10_give_15 : decode cX10_give 15 = .ok (.iconst (-1), 1) := by decide +kernel
theorem dX10_give_16 : decode cX10_give 16 = .ok (.if_icmp .eq 17, 3) := by decide +kernel
theorem dX10_give_19 : decode cX10_give 19 = .ok (.aload_n 0, 1) := by decide +kernel
theorem dX10_give_20 : decode cX10_give 20 = .ok (.getfield 20, 3) := by decide +kernel
theorem dX10_give_23 : decode cX10_give 23 = .ok (.iload_n 2, 1) := by decide +kernel
theorem dX10_give_24 : decode cX10_give 24 = .ok (.invokevirtual 103, 3) := by decide +kernel
theorem dX10_give_27 : decode cX10_give 27 = .ok (.ifCond .ne 6, 3) := by decide +kernel
theorem dX10_give_30 : decode cX10_give 30 = .ok (.bipush (-2), 2) := by decide +kernel
theorem dX10_give_32 : decode cX10_give 32 = .ok (.ireturn, 1) := by decide +kernel
theorem dX10_give_33 : decode cX10_give 33 = .ok (.iload_n 2, 1) := by decide +kernel
theorem dX10_give_34 : decode cX10_give 34 = .ok (.iconst (-1), 1) := by decide +kernel
theorem dX10_give_35 : decode cX10_give 35 = .ok (.if_icmp .eq 15, 3) := by decide +kernel
theorem dX10_give_38 : decode cX10_give 38 = .ok (.aload_n 0, 1) := by decide +kernel
theorem dX10_give_39 : decode cX10_give 39 = .ok (.iload_n 1, 1) := by decide +kernel
theorem dX10_give_40 : decode cX10_give 40 = .ok (.iload_n 2, 1) := by decide +kernel
theorem dX10_give_41 : decode cX10_give 41 = .ok (.invokevirtual 149, 3) := by decide +kernel
theorem dX10_give_44 : decode cX10_give 44 = .ok (.ifCond .ne 6, 3) := by decide +kernel
theorem dX10_give_47 : decode cX10_give 47 = .ok (.bipush (-3), 2) := by decide +kernel
theorem dX10_give_49 : decode cX10_give 49 = .ok (.ireturn, 1) := by decide +kernel
theorem dX10_give_50 : decode cX10_give 50 = .ok (.aload_n 0, 1) := by decide +kernel
theorem dX10_give_51 : decode cX10_give 51 = .ok (.getfield 25, 3) := by decide +kernel
theorem dX10_give_54 : decode cX10_give 54 = .ok (.getfield 121, 3) := by decide +kernel
theorem dX10_give_57 : decode cX10_give 57 = .ok (.iload_n 1, 1) := by decide +kernel
theorem dX10_give_58 : decode cX10_give 58 = .ok (.iaload, 1) := by decide +kernel
theorem dX10_give_59 : decode cX10_give 59 = .ok (.istore_n 3, 1) := by decide +kernel
theorem dX10_give_60 : decode cX10_give 60 = .ok (.aload_n 0, 1) := by decide +kernel
theorem dX10_give_61 : decode cX10_give 61 = .ok (.getfield 10, 3) := by decide +kernel
theorem dX10_give_64 : decode cX10_give 64 = .ok (.iload_n 1, 1) := by decide +kernel
theorem dX10_give_65 : decode cX10_give 65 = .ok (.invokevirtual 152, 3) := by decide +kernel
theorem dX10_give_68 : decode cX10_give 68 = .ok (.aload_n 0, 1) := by decide +kernel
theorem dX10_give_69 : decode cX10_give 69 = .ok (.getfield 10, 3) := by decide +kernel
theorem dX10_give_72 : decode cX10_give 72 = .ok (.iload_n 1, 1) := by decide +kernel
theorem dX10_give_73 : decode cX10_give 73 = .ok (.iload_n 2, 1) := by decide +kernel
theorem dX10_give_74 : decode cX10_give 74 = .ok (.invokevirtual 155, 3) := by decide +kernel
theorem dX10_give_77 : decode cX10_give 77 = .ok (.iload_n 3, 1) := by decide +kernel
theorem dX10_give_78 : decode cX10_give 78 = .ok (.ireturn, 1) := by decide +kernel
theorem dX10_canBeGiven_0 : decode cX10_canBeGiven 0 = .ok (.aload_n 0, 1) := by decide +kernel
theorem dX10_canBeGiven_1 : decode cX10_canBeGiven 1 = .ok (.getfield 20, 3) := by decide +kernel
theorem dX10_canBeGiven_4 : decode cX10_canBeGiven 4 = .ok (.iload_n 2, 1) := by decide +kernel
theorem dX10_canBeGiven_5 : decode cX10_canBeGiven 5 = .ok (.invokevirtual 159, 3) := by decide +kernel
theorem dX10_canBeGiven_8 : decode cX10_canBeGiven 8 = .ok (.istore_n 3, 1) := by decide +kernel
theorem dX10_canBeGiven_9 : decode cX10_canBeGiven 9 = .ok (.iload_n 3, 1) := by decide +kernel
theorem dX10_canBeGiven_10 : decode cX10_canBeGiven 10 = .ok (.iconst (-1), 1) := by decide +kernel
theorem dX10_canBeGiven_11 : decode cX10_canBeGiven 11 = .ok (.if_icmp .eq 8, 3) := by decide +kernel
theorem dX10_canBeGiven_14 : decode cX10_canBeGiven 14 = .ok (.iload_n 3, 1) := by decide +kernel
theorem dX10_canBeGiven_15 : decode cX10_canBeGiven 15 = .ok (.iload_n 1, 1) := by decide +kernel
theorem dX10_canBeGiven_16 : decode cX10_canBeGiven 16 = .ok (.if_icmp .ne 19, 3) := by decide +kernel
theorem dX10_canBeGiven_19 : decode cX10_canBeGiven 19 = .ok (.aload_n 0, 1) := by decide +kernel
theorem dX10_canBeGiven_20 : decode cX10_canBeGiven 20 = .ok (.getfield 10, 3) := by decide +kernel
theorem dX10_canBeGiven_23 : decode cX10_canBeGiven 23 = .ok (.iload_n 1, 1) := by decide +kernel
theorem dX10_canBeGiven_24 : decode cX10_canBeGiven 24 = .ok (.iload_n 2, 1) := by decide +kernel
theorem dX10_canBeGiven_25 : decode cX10_canBeGiven 25 = .ok (.invokevirtual 163, 3) := by decide +kernel
theorem dX10_canBeGiven_28 : decode cX10_canBeGiven 28 = .ok (.ifCond .eq 7, 3) := by decide +kernel
theorem dX10_canBeGiven_31 : decode cX10_canBeGiven 31 = .ok (.iconst 1, 1) := by decide +kernel
theorem dX10_canBeGiven_32 : decode cX10_canBeGiven 32 = .ok (.goto 4, 3) := by decide +kernel
theorem dX10_canBeGiven_35 : decode cX10_canBeGiven 35 = .ok (.iconst 0, 1) := by decide +kernel
theorem dX10_canBeGiven_36 : decode cX10_canBeGiven 36 = .ok (.ireturn, 1) := by decide +kernel
theorem dX10_type_0 : decode cX10_type 0 = .ok (.iload_n 1, 1) := by decide +kernel
theorem dX10_type_1 : decode cX10_type 1 = .ok (.bipush 32, 2) := by decide +kernel
theorem dX10_type_3 : decode cX10_type 3 = .ok (.bipush 126, 2) := by decide +kernel
theorem dX10_type_5 : decode cX10_type 5 = .ok (.invokestatic 75, 3) := by decide +kernel
theorem dX10_type_8 : decode cX10_type 8 = .ok (.ifCond .ne 6, 3) := by decide +kernel
theorem dX10_type_11 : decode cX10_type 11 = .ok (.bipush (-2), 2) := by decide +kernel
theorem dX10_type_13 : decode cX10_type 13 = .ok (.ireturn, 1) := by decide +kernel
theorem dX10_type_14 : decode cX10_type 14 = .ok (.aload_n 0, 1) := by decide +kernel
theorem dX10_type_15 : decode cX10_type 15 = .ok (.getfield 30, 3) := by decide +kernel
theorem dX10_type_18 : decode cX10_type 18 = .ok (.getfield 166, 3) := by decide +kernel
theorem dX10_type_21 : decode cX10_type 21 = .ok (.bipush 60, 2) := by decide +kernel
theorem dX10_type_23 : decode cX10_type 23 = .ok (.if_icmp .ge 14, 3) := by decide +kernel
theorem dX10_type_26 : decode cX10_type 26 = .ok (.aload_n 0, 1) := by decide +kernel
theorem dX10_type_27 : decode cX10_type 27 = .ok (.getfield 30, 3) := by decide +kernel
theorem dX10_type_30 : decode cX10_type 30 = .ok (.iload_n 1, 1) := by decide +kernel
theorem dX10_type_31 : decode cX10_type 31 = .ok (.invokevirtual 171, 3) := by decide +kernel
theorem dX10_type_34 : decode cX10_type 34 = .ok (.goto 5, 3) := by decide +kernel
theorem dX10_type_37 : decode cX10_type 37 = .ok (.bipush (-4), 2) := by decide +kernel
theorem dX10_type_39 : decode cX10_type 39 = .ok (.ireturn, 1) := by decide +kernel
theorem dX10_repeal_0 : decode cX10_repeal 0 = .ok (.aload_n 0, 1) := by decide +kernel
theorem dX10_repeal_1 : decode cX10_repeal 1 = .ok (.getfield 30, 3) := by decide +kernel
theorem dX10_repeal_4 : decode cX10_repeal 4 = .ok (.getfield 166, 3) := by decide +kernel
theorem dX10_repeal_7 : decode cX10_repeal 7 = .ok (.istore_n 1, 1) := by decide +kernel
theorem dX10_repeal_8 : decode cX10_repeal 8 = .ok (.aload_n 0, 1) := by decide +kernel
theorem dX10_repeal_9 : decode cX10_repeal 9 = .ok (.getfield 30, 3) := by decide +kernel
theorem dX10_repeal_12 : decode cX10_repeal 12 = .ok (.invokevirtual 173, 3) := by decide +kernel
theorem dX10_repeal_15 : decode cX10_repeal 15 = .ok (.iload_n 1, 1) := by decide +kernel
theorem dX10_repeal_16 : decode cX10_repeal 16 = .ok (.ireturn, 1) := by decide +kernel
theorem dX10_fault_0 : decode cX10_fault 0 = .ok (.aload_n 0, 1) := by decide +kernel
theorem dX10_fault_1 : decode cX10_fault 1 = .ok (.getfield 30, 3) := by decide +kernel
theorem dX10_fault_4 : decode cX10_fault 4 = .ok (.invokevirtual 176, 3) := by decide +kernel
theorem dX10_fault_7 : decode cX10_fault 7 = .ok (.ireturn, 1) := by decide +kernel
theorem dX10_may_0 : decode cX10_may 0 = .ok (.aload_n 0, 1) := by decide +kernel
theorem dX10_may_1 : decode cX10_may 1 = .ok (.getfield 25, 3) := by decide +kernel
theorem dX10_may_4 : decode cX10_may 4 = .ok (.iload_n 1, 1) := by decide +kernel
theorem dX10_may_5 : decode cX10_may 5 = .ok (.invokevirtual 99, 3) := by decide +kernel
theorem dX10_may_8 : decode cX10_may 8 = .ok (.ifCond .eq 14, 3) := by decide +kernel
theorem dX10_may_11 : decode cX10_may 11 = .ok (.aload_n 0, 1) := by decide +kernel
theorem dX10_may_12 : decode cX10_may 12 = .ok (.getfield 20, 3) := by decide +kernel
theorem dX10_may_15 : decode cX10_may 15 = .ok (.iload_n 2, 1) := by decide +kernel
theorem dX10_may_16 : decode cX10_may 16 = .ok (.invokevirtual 103, 3) := by decide +kernel
theorem dX10_may_19 : decode cX10_may 19 = .ok (.ifCond .ne 6, 3) := by decide +kernel
theorem dX10_may_22 : decode cX10_may 22 = .ok (.bipush (-2), 2) := by decide +kernel
theorem dX10_may_24 : decode cX10_may 24 = .ok (.ireturn, 1) := by decide +kernel
theorem dX10_may_25 : decode cX10_may 25 = .ok (.aload_n 0, 1) := by decide +kernel
theorem dX10_may_26 : decode cX10_may 26 = .ok (.getfield 10, 3) := by decide +kernel
theorem dX10_may_29 : decode cX10_may 29 = .ok (.iload_n 1, 1) := by decide +kernel
theorem dX10_may_30 : decode cX10_may 30 = .ok (.iload_n 2, 1) := by decide +kernel
theorem dX10_may_31 : decode cX10_may 31 = .ok (.invokevirtual 163, 3) := by decide +kernel
theorem dX10_may_34 : decode cX10_may 34 = .ok (.ifCond .eq 7, 3) := by decide +kernel
theorem dX10_may_37 : decode cX10_may 37 = .ok (.iconst 1, 1) := by decide +kernel
theorem dX10_may_38 : decode cX10_may 38 = .ok (.goto 4, 3) := by decide +kernel
theorem dX10_may_41 : decode cX10_may 41 = .ok (.iconst 0, 1) := by decide +kernel
theorem dX10_may_42 : decode cX10_may 42 = .ok (.ireturn, 1) := by decide +kernel
theorem dX10_wrong_0 : decode cX10_wrong 0 = .ok (.iconst 0, 1) := by decide +kernel
theorem dX10_wrong_1 : decode cX10_wrong 1 = .ok (.istore_n 1, 1) := by decide +kernel
theorem dX10_wrong_2 : decode cX10_wrong 2 = .ok (.iconst 0, 1) := by decide +kernel
theorem dX10_wrong_3 : decode cX10_wrong 3 = .ok (.istore_n 2, 1) := by decide +kernel
theorem dX10_wrong_4 : decode cX10_wrong 4 = .ok (.iload_n 2, 1) := by decide +kernel
theorem dX10_wrong_5 : decode cX10_wrong 5 = .ok (.aload_n 0, 1) := by decide +kernel
theorem dX10_wrong_6 : decode cX10_wrong 6 = .ok (.getfield 25, 3) := by decide +kernel
theorem dX10_wrong_9 : decode cX10_wrong 9 = .ok (.getfield 89, 3) := by decide +kernel
theorem dX10_wrong_12 : decode cX10_wrong 12 = .ok (.if_icmp .ge 41, 3) := by decide +kernel
theorem dX10_wrong_15 : decode cX10_wrong 15 = .ok (.aload_n 0, 1) := by decide +kernel
theorem dX10_wrong_16 : decode cX10_wrong 16 = .ok (.getfield 25, 3) := by decide +kernel
theorem dX10_wrong_19 : decode cX10_wrong 19 = .ok (.iload_n 2, 1) := by decide +kernel
theorem dX10_wrong_20 : decode cX10_wrong 20 = .ok (.invokevirtual 180, 3) := by decide +kernel
theorem dX10_wrong_23 : decode cX10_wrong 23 = .ok (.istore_n 3, 1) := by decide +kernel
theorem dX10_wrong_24 : decode cX10_wrong 24 = .ok (.iload_n 3, 1) := by decide +kernel
theorem dX10_wrong_25 : decode cX10_wrong 25 = .ok (.iconst (-1), 1) := by decide +kernel
theorem dX10_wrong_26 : decode cX10_wrong 26 = .ok (.if_icmp .eq 21, 3) := by decide +kernel
theorem dX10_wrong_29 : decode cX10_wrong 29 = .ok (.aload_n 0, 1) := by decide +kernel
theorem dX10_wrong_30 : decode cX10_wrong 30 = .ok (.getfield 10, 3) := by decide +kernel
theorem dX10_wrong_33 : decode cX10_wrong 33 = .ok (.iload_n 2, 1) := by decide +kernel
theorem dX10_wrong_34 : decode cX10_wrong 34 = .ok (.iload_n 3, 1) := by decide +kernel
theorem dX10_wrong_35 : decode cX10_wrong 35 = .ok (.invokevirtual 163, 3) := by decide +kernel
theorem dX10_wrong_38 : decode cX10_wrong 38 = .ok (.ifCond .ne 9, 3) := by decide +kernel
theorem dX10_wrong_41 : decode cX10_wrong 41 = .ok (.iload_n 1, 1) := by decide +kernel
theorem dX10_wrong_42 : decode cX10_wrong 42 = .ok (.iconst 1, 1) := by decide +kernel
theorem dX10_wrong_43 : decode cX10_wrong 43 = .ok (.iload_n 2, 1) := by decide +kernel
theorem dX10_wrong_44 : decode cX10_wrong 44 = .ok (.ishl, 1) := by decide +kernel
theorem dX10_wrong_45 : decode cX10_wrong 45 = .ok (.ior, 1) := by decide +kernel
theorem dX10_wrong_46 : decode cX10_wrong 46 = .ok (.istore_n 1, 1) := by decide +kernel
theorem dX10_wrong_47 : decode cX10_wrong 47 = .ok (.iinc 2 1, 3) := by decide +kernel
theorem dX10_wrong_50 : decode cX10_wrong 50 = .ok (.goto (-46), 3) := by decide +kernel
theorem dX10_wrong_53 : decode cX10_wrong 53 = .ok (.iload_n 1, 1) := by decide +kernel
theorem dX10_wrong_54 : decode cX10_wrong 54 = .ok (.ireturn, 1) := by decide +kernel
theorem dX10_draw_0 : decode cX10_draw 0 = .ok (.aload_n 0, 1) := by decide +kernel
theorem dX10_draw_1 : decode cX10_draw 1 = .ok (.getfield 34, 3) := by decide +kernel
theorem dX10_draw_4 : decode cX10_draw 4 = .ok (.iload_n 1, 1) := by decide +kernel
theorem dX10_draw_5 : decode cX10_draw 5 = .ok (.invokevirtual 183, 3) := by decide +kernel
theorem dX10_draw_8 : decode cX10_draw 8 = .ok (.aload_n 0, 1) := by decide +kernel
theorem dX10_draw_9 : decode cX10_draw 9 = .ok (.getfield 34, 3) := by decide +kernel
theorem dX10_draw_12 : decode cX10_draw 12 = .ok (.iconst 0, 1) := by decide +kernel
theorem dX10_draw_13 : decode cX10_draw 13 = .ok (.invokevirtual 186, 3) := by decide +kernel
theorem dX10_draw_16 : decode cX10_draw 16 = .ok (.ireturn, 1) := by decide +kernel
theorem dX10_change_0 : decode cX10_change 0 = .ok (.aload_n 0, 1) := by decide +kernel
theorem dX10_change_1 : decode cX10_change 1 = .ok (.getfield 34, 3) := by decide +kernel
theorem dX10_change_4 : decode cX10_change 4 = .ok (.iload_n 1, 1) := by decide +kernel
theorem dX10_change_5 : decode cX10_change 5 = .ok (.invokevirtual 189, 3) := by decide +kernel
theorem dX10_change_8 : decode cX10_change 8 = .ok (.ifCond .eq 14, 3) := by decide +kernel
theorem dX10_change_11 : decode cX10_change 11 = .ok (.aload_n 0, 1) := by decide +kernel
theorem dX10_change_12 : decode cX10_change 12 = .ok (.getfield 34, 3) := by decide +kernel
theorem dX10_change_15 : decode cX10_change 15 = .ok (.iload_n 2, 1) := by decide +kernel
theorem dX10_change_16 : decode cX10_change 16 = .ok (.invokevirtual 189, 3) := by decide +kernel
theorem dX10_change_19 : decode cX10_change 19 = .ok (.ifCond .ne 6, 3) := by decide +kernel
theorem dX10_change_22 : decode cX10_change 22 = .ok (.bipush (-2), 2) := by decide +kernel
theorem dX10_change_24 : decode cX10_change 24 = .ok (.ireturn, 1) := by decide +kernel
theorem dX10_change_25 : decode cX10_change 25 = .ok (.aload_n 0, 1) := by decide +kernel
theorem dX10_change_26 : decode cX10_change 26 = .ok (.getfield 34, 3) := by decide +kernel
theorem dX10_change_29 : decode cX10_change 29 = .ok (.iload_n 1, 1) := by decide +kernel
theorem dX10_change_30 : decode cX10_change 30 = .ok (.iload_n 2, 1) := by decide +kernel
theorem dX10_change_31 : decode cX10_change 31 = .ok (.invokevirtual 190, 3) := by decide +kernel
theorem dX10_change_34 : decode cX10_change 34 = .ok (.iconst 1, 1) := by decide +kernel
theorem dX10_change_35 : decode cX10_change 35 = .ok (.ireturn, 1) := by decide +kernel
theorem dX10_turn_0 : decode cX10_turn 0 = .ok (.aload_n 0, 1) := by decide +kernel
theorem dX10_turn_1 : decode cX10_turn 1 = .ok (.getfield 34, 3) := by decide +kernel
theorem dX10_turn_4 : decode cX10_turn 4 = .ok (.iload_n 1, 1) := by decide +kernel
theorem dX10_turn_5 : decode cX10_turn 5 = .ok (.invokevirtual 189, 3) := by decide +kernel
theorem dX10_turn_8 : decode cX10_turn 8 = .ok (.ifCond .eq 14, 3) := by decide +kernel
theorem dX10_turn_11 : decode cX10_turn 11 = .ok (.aload_n 0, 1) := by decide +kernel
theorem dX10_turn_12 : decode cX10_turn 12 = .ok (.getfield 34, 3) := by decide +kernel
theorem dX10_turn_15 : decode cX10_turn 15 = .ok (.iload_n 1, 1) := by decide +kernel
theorem dX10_turn_16 : decode cX10_turn 16 = .ok (.invokevirtual 186, 3) := by decide +kernel
theorem dX10_turn_19 : decode cX10_turn 19 = .ok (.goto 5, 3) := by decide +kernel
theorem dX10_turn_22 : decode cX10_turn 22 = .ok (.bipush (-2), 2) := by decide +kernel
theorem dX10_turn_24 : decode cX10_turn 24 = .ok (.ireturn, 1) := by decide +kernel
theorem dX10_deal_0 : decode cX10_deal 0 = .ok (.aload_n 0, 1) := by decide +kernel
theorem dX10_deal_1 : decode cX10_deal 1 = .ok (.getfield 43, 3) := by decide +kernel
theorem dX10_deal_4 : decode cX10_deal 4 = .ok (.aload_n 0, 1) := by decide +kernel
theorem dX10_deal_5 : decode cX10_deal 5 = .ok (.getfield 34, 3) := by decide +kernel
theorem dX10_deal_8 : decode cX10_deal 8 = .ok (.invokevirtual 193, 3) := by decide +kernel
theorem dX10_deal_11 : decode cX10_deal 11 = .ok (.aload_n 0, 1) := by decide +kernel
theorem dX10_deal_12 : decode cX10_deal 12 = .ok (.getfield 25, 3) := by decide +kernel
theorem dX10_deal_15 : decode cX10_deal 15 = .ok (.invokevirtual 197, 3) := by decide +kernel
theorem dX10_deal_18 : decode cX10_deal 18 = .ok (.ireturn, 1) := by decide +kernel
theorem dX10_trade_0 : decode cX10_trade 0 = .ok (.aload_n 0, 1) := by decide +kernel
theorem dX10_trade_1 : decode cX10_trade 1 = .ok (.getfield 50, 3) := by decide +kernel
theorem dX10_trade_4 : decode cX10_trade 4 = .ok (.invokevirtual 200, 3) := by decide +kernel
theorem dX10_trade_7 : decode cX10_trade 7 = .ok (.ireturn, 1) := by decide +kernel
theorem dX10_traded_0 : decode cX10_traded 0 = .ok (.iload_n 1, 1) := by decide +kernel
theorem dX10_traded_1 : decode cX10_traded 1 = .ok (.tableswitch 51 0 2 #[27, 35, 43], 27) := by decide +kernel
theorem dX10_traded_28 : decode cX10_traded 28 = .ok (.aload_n 0, 1) := by decide +kernel
theorem dX10_traded_29 : decode cX10_traded 29 = .ok (.getfield 50, 3) := by decide +kernel
theorem dX10_traded_32 : decode cX10_traded 32 = .ok (.getfield 202, 3) := by decide +kernel
theorem dX10_traded_35 : decode cX10_traded 35 = .ok (.ireturn, 1) := by decide +kernel
theorem dX10_traded_36 : decode cX10_traded 36 = .ok (.aload_n 0, 1) := by decide +kernel
theorem dX10_traded_37 : decode cX10_traded 37 = .ok (.getfield 50, 3) := by decide +kernel
theorem dX10_traded_40 : decode cX10_traded 40 = .ok (.getfield 205, 3) := by decide +kernel
theorem dX10_traded_43 : decode cX10_traded 43 = .ok (.ireturn, 1) := by decide +kernel
theorem dX10_traded_44 : decode cX10_traded 44 = .ok (.aload_n 0, 1) := by decide +kernel
theorem dX10_traded_45 : decode cX10_traded 45 = .ok (.getfield 50, 3) := by decide +kernel
theorem dX10_traded_48 : decode cX10_traded 48 = .ok (.getfield 208, 3) := by decide +kernel
theorem dX10_traded_51 : decode cX10_traded 51 = .ok (.ireturn, 1) := by decide +kernel
theorem dX10_traded_52 : decode cX10_traded 52 = .ok (.bipush (-2), 2) := by decide +kernel
theorem dX10_traded_54 : decode cX10_traded 54 = .ok (.ireturn, 1) := by decide +kernel
theorem dX10_strike_0 : decode cX10_strike 0 = .ok (.iload_n 1, 1) := by decide +kernel
theorem dX10_strike_1 : decode cX10_strike 1 = .ok (.iconst 0, 1) := by decide +kernel
theorem dX10_strike_2 : decode cX10_strike 2 = .ok (.bipush 7, 2) := by decide +kernel
theorem dX10_strike_4 : decode cX10_strike 4 = .ok (.invokestatic 75, 3) := by decide +kernel
theorem dX10_strike_7 : decode cX10_strike 7 = .ok (.ifCond .ne 6, 3) := by decide +kernel
theorem dX10_strike_10 : decode cX10_strike 10 = .ok (.bipush (-2), 2) := by decide +kernel
theorem dX10_strike_12 : decode cX10_strike 12 = .ok (.ireturn, 1) := by decide +kernel
theorem dX10_strike_13 : decode cX10_strike 13 = .ok (.aload_n 0, 1) := by decide +kernel
theorem dX10_strike_14 : decode cX10_strike 14 = .ok (.getfield 20, 3) := by decide +kernel
theorem dX10_strike_17 : decode cX10_strike 17 = .ok (.iload_n 1, 1) := by decide +kernel
theorem dX10_strike_18 : decode cX10_strike 18 = .ok (.invokevirtual 211, 3) := by decide +kernel
theorem dX10_strike_21 : decode cX10_strike 21 = .ok (.ifCond .eq 8, 3) := by decide +kernel
theorem dX10_strike_24 : decode cX10_strike 24 = .ok (.bipush (-3), 2) := by decide +kernel
theorem dX10_strike_26 : decode cX10_strike 26 = .ok (.goto 11, 3) := by decide +kernel
theorem dX10_strike_29 : decode cX10_strike 29 = .ok (.aload_n 0, 1) := by decide +kernel
theorem dX10_strike_30 : decode cX10_strike 30 = .ok (.getfield 57, 3) := by decide +kernel
theorem dX10_strike_33 : decode cX10_strike 33 = .ok (.iload_n 1, 1) := by decide +kernel
theorem dX10_strike_34 : decode cX10_strike 34 = .ok (.invokevirtual 214, 3) := by decide +kernel
theorem dX10_strike_37 : decode cX10_strike 37 = .ok (.ireturn, 1) := by decide +kernel
theorem dX10_license_0 : decode cX10_license 0 = .ok (.iload_n 1, 1) := by decide +kernel
theorem dX10_license_1 : decode cX10_license 1 = .ok (.iconst 0, 1) := by decide +kernel
theorem dX10_license_2 : decode cX10_license 2 = .ok (.bipush 7, 2) := by decide +kernel
theorem dX10_license_4 : decode cX10_license 4 = .ok (.invokestatic 75, 3) := by decide +kernel
theorem dX10_license_7 : decode cX10_license 7 = .ok (.ifCond .ne 6, 3) := by decide +kernel
theorem dX10_license_10 : decode cX10_license 10 = .ok (.bipush (-2), 2) := by decide +kernel
theorem dX10_license_12 : decode cX10_license 12 = .ok (.ireturn, 1) := by decide +kernel
theorem dX10_license_13 : decode cX10_license 13 = .ok (.aload_n 0, 1) := by decide +kernel
theorem dX10_license_14 : decode cX10_license 14 = .ok (.getfield 20, 3) := by decide +kernel
theorem dX10_license_17 : decode cX10_license 17 = .ok (.iload_n 1, 1) := by decide +kernel
theorem dX10_license_18 : decode cX10_license 18 = .ok (.invokevirtual 211, 3) := by decide +kernel
theorem dX10_license_21 : decode cX10_license 21 = .ok (.ifCond .ne 6, 3) := by decide +kernel
theorem dX10_license_24 : decode cX10_license 24 = .ok (.bipush (-3), 2) := by decide +kernel
theorem dX10_license_26 : decode cX10_license 26 = .ok (.ireturn, 1) := by decide +kernel
theorem dX10_license_27 : decode cX10_license 27 = .ok (.aload_n 0, 1) := by decide +kernel
theorem dX10_license_28 : decode cX10_license 28 = .ok (.getfield 20, 3) := by decide +kernel
theorem dX10_license_31 : decode cX10_license 31 = .ok (.dup, 1) := by decide +kernel
theorem dX10_license_32 : decode cX10_license 32 = .ok (.getfield 216, 3) := by decide +kernel
theorem dX10_license_35 : decode cX10_license 35 = .ok (.iconst 1, 1) := by decide +kernel
theorem dX10_license_36 : decode cX10_license 36 = .ok (.iload_n 1, 1) := by decide +kernel
theorem dX10_license_37 : decode cX10_license 37 = .ok (.ishl, 1) := by decide +kernel
theorem dX10_license_38 : decode cX10_license 38 = .ok (.iconst (-1), 1) := by decide +kernel
theorem dX10_license_39 : decode cX10_license 39 = .ok (.ixor, 1) := by decide +kernel
theorem dX10_license_40 : decode cX10_license 40 = .ok (.iand, 1) := by decide +kernel
theorem dX10_license_41 : decode cX10_license 41 = .ok (.putfield 216, 3) := by decide +kernel
theorem dX10_license_44 : decode cX10_license 44 = .ok (.iconst 1, 1) := by decide +kernel
theorem dX10_license_45 : decode cX10_license 45 = .ok (.ireturn, 1) := by decide +kernel
theorem dX10_away_0 : decode cX10_away 0 = .ok (.aload_n 0, 1) := by decide +kernel
theorem dX10_away_1 : decode cX10_away 1 = .ok (.getfield 25, 3) := by decide +kernel
theorem dX10_away_4 : decode cX10_away 4 = .ok (.iload_n 1, 1) := by decide +kernel
theorem dX10_away_5 : decode cX10_away 5 = .ok (.invokevirtual 99, 3) := by decide +kernel
theorem dX10_away_8 : decode cX10_away 8 = .ok (.ifCond .ne 6, 3) := by decide +kernel
theorem dX10_away_11 : decode cX10_away 11 = .ok (.bipush (-2), 2) := by decide +kernel
theorem dX10_away_13 : decode cX10_away 13 = .ok (.ireturn, 1) := by decide +kernel
theorem dX10_away_14 : decode cX10_away 14 = .ok (.aload_n 0, 1) := by decide +kernel
theorem dX10_away_15 : decode cX10_away 15 = .ok (.getfield 25, 3) := by decide +kernel
theorem dX10_away_18 : decode cX10_away 18 = .ok (.getfield 124, 3) := by decide +kernel
theorem dX10_away_21 : decode cX10_away 21 = .ok (.iload_n 1, 1) := by decide +kernel
theorem dX10_away_22 : decode cX10_away 22 = .ok (.iload_n 2, 1) := by decide +kernel
theorem dX10_away_23 : decode cX10_away 23 = .ok (.bastore, 1) := by decide +kernel
theorem dX10_away_24 : decode cX10_away 24 = .ok (.iconst 1, 1) := by decide +kernel
theorem dX10_away_25 : decode cX10_away 25 = .ok (.ireturn, 1) := by decide +kernel
theorem dX10_pass_0 : decode cX10_pass 0 = .ok (.iload_n 1, 1) := by decide +kernel
theorem dX10_pass_1 : decode cX10_pass 1 = .ok (.iconst 1, 1) := by decide +kernel
theorem dX10_pass_2 : decode cX10_pass 2 = .ok (.bipush 60, 2) := by decide +kernel
theorem dX10_pass_4 : decode cX10_pass 4 = .ok (.invokestatic 75, 3) := by decide +kernel
theorem dX10_pass_7 : decode cX10_pass 7 = .ok (.ifCond .ne 6, 3) := by decide +kernel
theorem dX10_pass_10 : decode cX10_pass 10 = .ok (.bipush (-2), 2) := by decide +kernel
theorem dX10_pass_12 : decode cX10_pass 12 = .ok (.ireturn, 1) := by decide +kernel
theorem dX10_pass_13 : decode cX10_pass 13 = .ok (.iload_n 1, 1) := by decide +kernel
theorem dX10_pass_14 : decode cX10_pass 14 = .ok (.bipush 60, 2) := by decide +kernel
theorem dX10_pass_16 : decode cX10_pass 16 = .ok (.aload_n 0, 1) := by decide +kernel
theorem dX10_pass_17 : decode cX10_pass 17 = .ok (.getfield 64, 3) := by decide +kernel
theorem dX10_pass_20 : decode cX10_pass 20 = .ok (.getfield 219, 3) := by decide +kernel
theorem dX10_pass_23 : decode cX10_pass 23 = .ok (.isub, 1) := by decide +kernel
theorem dX10_pass_24 : decode cX10_pass 24 = .ok (.if_icmp .le 6, 3) := by decide +kernel
theorem dX10_pass_27 : decode cX10_pass 27 = .ok (.bipush (-4), 2) := by decide +kernel
theorem dX10_pass_29 : decode cX10_pass 29 = .ok (.ireturn, 1) := by decide +kernel
theorem dX10_pass_30 : decode cX10_pass 30 = .ok (.iconst 0, 1) := by decide +kernel
theorem dX10_pass_31 : decode cX10_pass 31 = .ok (.istore_n 2, 1) := by decide +kernel
theorem dX10_pass_32 : decode cX10_pass 32 = .ok (.iload_n 2, 1) := by decide +kernel
theorem dX10_pass_33 : decode cX10_pass 33 = .ok (.iload_n 1, 1) := by decide +kernel
theorem dX10_pass_34 : decode cX10_pass 34 = .ok (.if_icmp .ge 20, 3) := by decide +kernel
theorem dX10_pass_37 : decode cX10_pass 37 = .ok (.aload_n 0, 1) := by decide +kernel
theorem dX10_pass_38 : decode cX10_pass 38 = .ok (.getfield 64, 3) := by decide +kernel
theorem dX10_pass_41 : decode cX10_pass 41 = .ok (.aload_n 0, 1) := by decide +kernel
theorem dX10_pass_42 : decode cX10_pass 42 = .ok (.getfield 25, 3) := by decide +kernel
theorem dX10_pass_45 : decode cX10_pass 45 = .ok (.invokevirtual 222, 3) := by decide +kernel
theorem dX10_pass_48 : decode cX10_pass 48 = .ok (.iinc 2 1, 3) := by decide +kernel
theorem dX10_pass_51 : decode cX10_pass 51 = .ok (.goto (-19), 3) := by decide +kernel
theorem dX10_pass_54 : decode cX10_pass 54 = .ok (.aload_n 0, 1) := by decide +kernel
theorem dX10_pass_55 : decode cX10_pass 55 = .ok (.getfield 64, 3) := by decide +kernel
theorem dX10_pass_58 : decode cX10_pass 58 = .ok (.getfield 219, 3) := by decide +kernel
theorem dX10_pass_61 : decode cX10_pass 61 = .ok (.ireturn, 1) := by decide +kernel
theorem dX10_price_0 : decode cX10_price 0 = .ok (.iload_n 1, 1) := by decide +kernel
theorem dX10_price_1 : decode cX10_price 1 = .ok (.iconst 0, 1) := by decide +kernel
theorem dX10_price_2 : decode cX10_price 2 = .ok (.bipush 7, 2) := by decide +kernel
theorem dX10_price_4 : decode cX10_price 4 = .ok (.invokestatic 75, 3) := by decide +kernel
theorem dX10_price_7 : decode cX10_price 7 = .ok (.ifCond .eq 24, 3) := by decide +kernel
theorem dX10_price_10 : decode cX10_price 10 = .ok (.iload_n 2, 1) := by decide +kernel
theorem dX10_price_11 : decode cX10_price 11 = .ok (.iconst 0, 1) := by decide +kernel
theorem dX10_price_12 : decode cX10_price 12 = .ok (.bipush 59, 2) := by decide +kernel
theorem dX10_price_14 : decode cX10_price 14 = .ok (.invokestatic 75, 3) := by decide +kernel
theorem dX10_price_17 : decode cX10_price 17 = .ok (.ifCond .eq 14, 3) := by decide +kernel
theorem dX10_price_20 : decode cX10_price 20 = .ok (.iload_n 3, 1) := by decide +kernel
theorem dX10_price_21 : decode cX10_price 21 = .ok (.iconst 0, 1) := by decide +kernel
theorem dX10_price_22 : decode cX10_price 22 = .ok (.sipush 999, 3) := by decide +kernel
theorem dX10_price_25 : decode cX10_price 25 = .ok (.invokestatic 75, 3) := by decide +kernel
theorem dX10_price_28 : decode cX10_price 28 = .ok (.ifCond .ne 6, 3) := by decide +kernel
theorem dX10_price_31 : decode cX10_price 31 = .ok (.bipush (-2), 2) := by decide +kernel
theorem dX10_price_33 : decode cX10_price 33 = .ok (.ireturn, 1) := by decide +kernel
theorem dX10_price_34 : decode cX10_price 34 = .ok (.aload_n 0, 1) := by decide +kernel
theorem dX10_price_35 : decode cX10_price 35 = .ok (.getfield 71, 3) := by decide +kernel
theorem dX10_price_38 : decode cX10_price 38 = .ok (.getfield 226, 3) := by decide +kernel
theorem dX10_price_41 : decode cX10_price 41 = .ok (.bipush 40, 2) := by decide +kernel
theorem dX10_price_43 : decode cX10_price 43 = .ok (.if_icmp .ge 16, 3) := by decide +kernel
theorem dX10_price_46 : decode cX10_price 46 = .ok (.aload_n 0, 1) := by decide +kernel
theorem dX10_price_47 : decode cX10_price 47 = .ok (.getfield 71, 3) := by decide +kernel
theorem dX10_price_50 : decode cX10_price 50 = .ok (.iload_n 1, 1) := by decide +kernel
theorem dX10_price_51 : decode cX10_price 51 = .ok (.iload_n 2, 1) := by decide +kernel
theorem dX10_price_52 : decode cX10_price 52 = .ok (.iload_n 3, 1) := by decide +kernel
theorem dX10_price_53 : decode cX10_price 53 = .ok (.invokevirtual 229, 3) := by decide +kernel
theorem dX10_price_56 : decode cX10_price 56 = .ok (.goto 5, 3) := by decide +kernel
theorem dX10_price_59 : decode cX10_price 59 = .ok (.bipush (-4), 2) := by decide +kernel
theorem dX10_price_61 : decode cX10_price 61 = .ok (.ireturn, 1) := by decide +kernel
theorem dX10_priced_0 : decode cX10_priced 0 = .ok (.iload_n 1, 1) := by decide +kernel
theorem dX10_priced_1 : decode cX10_priced 1 = .ok (.iconst 0, 1) := by decide +kernel
theorem dX10_priced_2 : decode cX10_priced 2 = .ok (.bipush 7, 2) := by decide +kernel
theorem dX10_priced_4 : decode cX10_priced 4 = .ok (.invokestatic 75, 3) := by decide +kernel
theorem dX10_priced_7 : decode cX10_priced 7 = .ok (.ifCond .eq 13, 3) := by decide +kernel
theorem dX10_priced_10 : decode cX10_priced 10 = .ok (.iload_n 2, 1) := by decide +kernel
theorem dX10_priced_11 : decode cX10_priced 11 = .ok (.iconst 0, 1) := by decide +kernel
theorem dX10_priced_12 : decode cX10_priced 12 = .ok (.bipush 59, 2) := by decide +kernel
theorem dX10_priced_14 : decode cX10_priced 14 = .ok (.invokestatic 75, 3) := by decide +kernel
theorem dX10_priced_17 : decode cX10_priced 17 = .ok (.ifCond .ne 6, 3) := by decide +kernel
theorem dX10_priced_20 : decode cX10_priced 20 = .ok (.bipush (-2), 2) := by decide +kernel
theorem dX10_priced_22 : decode cX10_priced 22 = .ok (.ireturn, 1) := by decide +kernel
theorem dX10_priced_23 : decode cX10_priced 23 = .ok (.aload_n 0, 1) := by decide +kernel
theorem dX10_priced_24 : decode cX10_priced 24 = .ok (.getfield 71, 3) := by decide +kernel
theorem dX10_priced_27 : decode cX10_priced 27 = .ok (.iload_n 1, 1) := by decide +kernel
theorem dX10_priced_28 : decode cX10_priced 28 = .ok (.iload_n 2, 1) := by decide +kernel
theorem dX10_priced_29 : decode cX10_priced 29 = .ok (.invokevirtual 232, 3) := by decide +kernel
theorem dX10_priced_32 : decode cX10_priced 32 = .ok (.ireturn, 1) := by decide +kernel
theorem dX10_had_0 : decode cX10_had 0 = .ok (.aload_n 0, 1) := by decide +kernel
theorem dX10_had_1 : decode cX10_had 1 = .ok (.getfield 25, 3) := by decide +kernel
theorem dX10_had_4 : decode cX10_had 4 = .ok (.iload_n 1, 1) := by decide +kernel
theorem dX10_had_5 : decode cX10_had 5 = .ok (.invokevirtual 99, 3) := by decide +kernel
theorem dX10_had_8 : decode cX10_had 8 = .ok (.ifCond .eq 20, 3) := by decide +kernel
theorem dX10_had_11 : decode cX10_had 11 = .ok (.iload_n 2, 1) := by decide +kernel
theorem dX10_had_12 : decode cX10_had 12 = .ok (.iconst 0, 1) := by decide +kernel
theorem dX10_had_13 : decode cX10_had 13 = .ok (.aload_n 0, 1) := by decide +kernel
theorem dX10_had_14 : decode cX10_had 14 = .ok (.getfield 64, 3) := by decide +kernel
theorem dX10_had_17 : decode cX10_had 17 = .ok (.getfield 219, 3) := by decide +kernel
theorem dX10_had_20 : decode cX10_had 20 = .ok (.iconst 1, 1) := by decide +kernel
theorem dX10_had_21 : decode cX10_had 21 = .ok (.isub, 1) := by decide +kernel
theorem dX10_had_22 : decode cX10_had 22 = .ok (.invokestatic 75, 3) := by decide +kernel
theorem dX10_had_25 : decode cX10_had 25 = .ok (.ifCond .ne 6, 3) := by decide +kernel
theorem dX10_had_28 : decode cX10_had 28 = .ok (.bipush (-2), 2) := by decide +kernel
theorem dX10_had_30 : decode cX10_had 30 = .ok (.ireturn, 1) := by decide +kernel
theorem dX10_had_31 : decode cX10_had 31 = .ok (.aload_n 0, 1) := by decide +kernel
theorem dX10_had_32 : decode cX10_had 32 = .ok (.getfield 64, 3) := by decide +kernel
theorem dX10_had_35 : decode cX10_had 35 = .ok (.iload_n 1, 1) := by decide +kernel
theorem dX10_had_36 : decode cX10_had 36 = .ok (.iload_n 2, 1) := by decide +kernel
theorem dX10_had_37 : decode cX10_had 37 = .ok (.invokevirtual 234, 3) := by decide +kernel
theorem dX10_had_40 : decode cX10_had 40 = .ok (.ireturn, 1) := by decide +kernel
theorem dX10_bill_0 : decode cX10_bill 0 = .ok (.aload_n 0, 1) := by decide +kernel
theorem dX10_bill_1 : decode cX10_bill 1 = .ok (.getfield 25, 3) := by decide +kernel
theorem dX10_bill_4 : decode cX10_bill 4 = .ok (.iload_n 1, 1) := by decide +kernel
theorem dX10_bill_5 : decode cX10_bill 5 = .ok (.invokevirtual 99, 3) := by decide +kernel
theorem dX10_bill_8 : decode cX10_bill 8 = .ok (.ifCond .ne 6, 3) := by decide +kernel
theorem dX10_bill_11 : decode cX10_bill 11 = .ok (.bipush (-2), 2) := by decide +kernel
theorem dX10_bill_13 : decode cX10_bill 13 = .ok (.ireturn, 1) := by decide +kernel
theorem dX10_bill_14 : decode cX10_bill 14 = .ok (.iconst 0, 1) := by decide +kernel
theorem dX10_bill_15 : decode cX10_bill 15 = .ok (.istore_n 2, 1) := by decide +kernel
theorem dX10_bill_16 : decode cX10_bill 16 = .ok (.iconst 0, 1) := by decide +kernel
theorem dX10_bill_17 : decode cX10_bill 17 = .ok (.istore_n 3, 1) := by decide +kernel
theorem dX10_bill_18 : decode cX10_bill 18 = .ok (.iload_n 3, 1) := by decide +kernel
theorem dX10_bill_19 : decode cX10_bill 19 = .ok (.aload_n 0, 1) := by decide +kernel
theorem dX10_bill_20 : decode cX10_bill 20 = .ok (.getfield 64, 3) := by decide +kernel
theorem dX10_bill_23 : decode cX10_bill 23 = .ok (.getfield 219, 3) := by decide +kernel
theorem dX10_bill_26 : decode cX10_bill 26 = .ok (.if_icmp .ge 36, 3) := by decide +kernel
theorem dX10_bill_29 : decode cX10_bill 29 = .ok (.iload_n 2, 1) := by decide +kernel
theorem dX10_bill_30 : decode cX10_bill 30 = .ok (.aload_n 0, 1) := by decide +kernel
theorem dX10_bill_31 : decode cX10_bill 31 = .ok (.getfield 71, 3) := by decide +kernel
theorem dX10_bill_34 : decode cX10_bill 34 = .ok (.aload_n 0, 1) := by decide +kernel
theorem dX10_bill_35 : decode cX10_bill 35 = .ok (.getfield 20, 3) := by decide +kernel
theorem dX10_bill_38 : decode cX10_bill 38 = .ok (.aload_n 0, 1) := by decide +kernel
theorem dX10_bill_39 : decode cX10_bill 39 = .ok (.getfield 64, 3) := by decide +kernel
theorem dX10_bill_42 : decode cX10_bill 42 = .ok (.iload_n 1, 1) := by decide +kernel
theorem dX10_bill_43 : decode cX10_bill 43 = .ok (.iload_n 3, 1) := by decide +kernel
theorem dX10_bill_44 : decode cX10_bill 44 = .ok (.invokevirtual 234, 3) := by decide +kernel
theorem dX10_bill_47 : decode cX10_bill 47 = .ok (.invokevirtual 237, 3) := by decide +kernel
theorem dX10_bill_50 : decode cX10_bill 50 = .ok (.iload_n 3, 1) := by decide +kernel
theorem dX10_bill_51 : decode cX10_bill 51 = .ok (.invokevirtual 232, 3) := by decide +kernel
theorem dX10_bill_54 : decode cX10_bill 54 = .ok (.iadd, 1) := by decide +kernel
theorem dX10_bill_55 : decode cX10_bill 55 = .ok (.istore_n 2, 1) := by decide +kernel
theorem dX10_bill_56 : decode cX10_bill 56 = .ok (.iinc 3 1, 3) := by decide +kernel
theorem dX10_bill_59 : decode cX10_bill 59 = .ok (.goto (-41), 3) := by decide +kernel
theorem dX10_bill_62 : decode cX10_bill 62 = .ok (.iload_n 2, 1) := by decide +kernel
theorem dX10_bill_63 : decode cX10_bill 63 = .ok (.ireturn, 1) := by decide +kernel
theorem dX10_matter_0 : decode cX10_matter 0 = .ok (.aload_n 0, 1) := by decide +kernel
theorem dX10_matter_1 : decode cX10_matter 1 = .ok (.getfield 71, 3) := by decide +kernel
theorem dX10_matter_4 : decode cX10_matter 4 = .ok (.getfield 226, 3) := by decide +kernel
theorem dX10_matter_7 : decode cX10_matter 7 = .ok (.ifCond .ne 6, 3) := by decide +kernel
theorem dX10_matter_10 : decode cX10_matter 10 = .ok (.ldc 240, 2) := by decide +kernel
theorem dX10_matter_12 : decode cX10_matter 12 = .ok (.ireturn, 1) := by decide +kernel
theorem dX10_matter_13 : decode cX10_matter 13 = .ok (.iconst 0, 1) := by decide +kernel
theorem dX10_matter_14 : decode cX10_matter 14 = .ok (.istore_n 1, 1) := by decide +kernel
theorem dX10_matter_15 : decode cX10_matter 15 = .ok (.iconst 0, 1) := by decide +kernel
theorem dX10_matter_16 : decode cX10_matter 16 = .ok (.istore_n 2, 1) := by decide +kernel
theorem dX10_matter_17 : decode cX10_matter 17 = .ok (.iload_n 2, 1) := by decide +kernel
theorem dX10_matter_18 : decode cX10_matter 18 = .ok (.aload_n 0, 1) := by decide +kernel
theorem dX10_matter_19 : decode cX10_matter 19 = .ok (.getfield 64, 3) := by decide +kernel
theorem dX10_matter_22 : decode cX10_matter 22 = .ok (.getfield 219, 3) := by decide +kernel
theorem dX10_matter_25 : decode cX10_matter 25 = .ok (.if_icmp .ge 33, 3) := by decide +kernel
theorem dX10_matter_28 : decode cX10_matter 28 = .ok (.iload_n 1, 1) := by decide +kernel
theorem dX10_matter_29 : decode cX10_matter 29 = .ok (.aload_n 0, 1) := by decide +kernel
theorem dX10_matter_30 : decode cX10_matter 30 = .ok (.aload_n 0, 1) := by decide +kernel
theorem dX10_matter_31 : decode cX10_matter 31 = .ok (.getfield 71, 3) := by decide +kernel
theorem dX10_matter_34 : decode cX10_matter 34 = .ok (.getfield 241, 3) := by decide +kernel
theorem dX10_matter_37 : decode cX10_matter 37 = .ok (.iload_n 2, 1) := by decide +kernel
theorem dX10_matter_38 : decode cX10_matter 38 = .ok (.invokevirtual 244, 3) := by decide +kernel
theorem dX10_matter_41 : decode cX10_matter 41 = .ok (.aload_n 0, 1) := by decide +kernel
theorem dX10_matter_42 : decode cX10_matter 42 = .ok (.getfield 71, 3) := by decide +kernel
theorem dX10_matter_45 : decode cX10_matter 45 = .ok (.iload_n 2, 1) := by decide +kernel
theorem dX10_matter_46 : decode cX10_matter 46 = .ok (.invokevirtual 247, 3) := by decide +kernel
theorem dX10_matter_49 : decode cX10_matter 49 = .ok (.imul, 1) := by decide +kernel
theorem dX10_matter_50 : decode cX10_matter 50 = .ok (.iadd, 1) := by decide +kernel
theorem dX10_matter_51 : decode cX10_matter 51 = .ok (.istore_n 1, 1) := by decide +kernel
theorem dX10_matter_52 : decode cX10_matter 52 = .ok (.iinc 2 1, 3) := by decide +kernel
theorem dX10_matter_55 : decode cX10_matter 55 = .ok (.goto (-38), 3) := by decide +kernel
theorem dX10_matter_58 : decode cX10_matter 58 = .ok (.iload_n 1, 1) := by decide +kernel
theorem dX10_matter_59 : decode cX10_matter 59 = .ok (.ireturn, 1) := by decide +kernel
theorem dX10_lodgersAt_0 : decode cX10_lodgersAt 0 = .ok (.iconst 0, 1) := by decide +kernel
theorem dX10_lodgersAt_1 : decode cX10_lodgersAt 1 = .ok (.istore_n 3, 1) := by decide +kernel
theorem dX10_lodgersAt_2 : decode cX10_lodgersAt 2 = .ok (.iconst 0, 1) := by decide +kernel
theorem dX10_lodgersAt_3 : decode cX10_lodgersAt 3 = .ok (.istore 4, 2) := by decide +kernel
theorem dX10_lodgersAt_5 : decode cX10_lodgersAt 5 = .ok (.iload 4, 2) := by decide +kernel
theorem dX10_lodgersAt_7 : decode cX10_lodgersAt 7 = .ok (.aload_n 0, 1) := by decide +kernel
theorem dX10_lodgersAt_8 : decode cX10_lodgersAt 8 = .ok (.getfield 25, 3) := by decide +kernel
theorem dX10_lodgersAt_11 : decode cX10_lodgersAt 11 = .ok (.getfield 89, 3) := by decide +kernel
theorem dX10_lodgersAt_14 : decode cX10_lodgersAt 14 = .ok (.if_icmp .ge 33, 3) := by decide +kernel
theorem dX10_lodgersAt_17 : decode cX10_lodgersAt 17 = .ok (.aload_n 0, 1) := by decide +kernel
theorem dX10_lodgersAt_18 : decode cX10_lodgersAt 18 = .ok (.getfield 20, 3) := by decide +kernel
theorem dX10_lodgersAt_21 : decode cX10_lodgersAt 21 = .ok (.aload_n 0, 1) := by decide +kernel
theorem dX10_lodgersAt_22 : decode cX10_lodgersAt 22 = .ok (.getfield 64, 3) := by decide +kernel
theorem dX10_lodgersAt_25 : decode cX10_lodgersAt 25 = .ok (.iload 4, 2) := by decide +kernel
theorem dX10_lodgersAt_27 : decode cX10_lodgersAt 27 = .ok (.iload_n 2, 1) := by decide +kernel
theorem dX10_lodgersAt_28 : decode cX10_lodgersAt 28 = .ok (.invokevirtual 234, 3) := by decide +kernel
theorem dX10_lodgersAt_31 : decode cX10_lodgersAt 31 = .ok (.invokevirtual 237, 3) := by decide +kernel
theorem dX10_lodgersAt_34 : decode cX10_lodgersAt 34 = .ok (.iload_n 1, 1) := by decide +kernel
theorem dX10_lodgersAt_35 : decode cX10_lodgersAt 35 = .ok (.if_icmp .ne 6, 3) := by decide +kernel
theorem dX10_lodgersAt_38 : decode cX10_lodgersAt 38 = .ok (.iinc 3 1, 3) := by decide +kernel
theorem dX10_lodgersAt_41 : decode cX10_lodgersAt 41 = .ok (.iinc 4 1, 3) := by decide +kernel
theorem dX10_lodgersAt_44 : decode cX10_lodgersAt 44 = .ok (.goto (-39), 3) := by decide +kernel
theorem dX10_lodgersAt_47 : decode cX10_lodgersAt 47 = .ok (.iload_n 3, 1) := by decide +kernel
theorem dX10_lodgersAt_48 : decode cX10_lodgersAt 48 = .ok (.ireturn, 1) := by decide +kernel
theorem dX10_count_0 : decode cX10_count 0 = .ok (.iload_n 1, 1) := by decide +kernel
theorem dX10_count_1 : decode cX10_count 1 = .ok (.tableswitch 102 0 6 #[43, 51, 59, 67, 78, 86, 94], 43) := by decide +kernel
theorem dX10_count_44 : decode cX10_count 44 = .ok (.aload_n 0, 1) := by decide +kernel
theorem dX10_count_45 : decode cX10_count 45 = .ok (.getfield 20, 3) := by decide +kernel
theorem dX10_count_48 : decode cX10_count 48 = .ok (.getfield 79, 3) := by decide +kernel
theorem dX10_count_51 : decode cX10_count 51 = .ok (.ireturn, 1) := by decide +kernel
theorem dX10_count_52 : decode cX10_count 52 = .ok (.aload_n 0, 1) := by decide +kernel
theorem dX10_count_53 : decode cX10_count 53 = .ok (.getfield 25, 3) := by decide +kernel
theorem dX10_count_56 : decode cX10_count 56 = .ok (.getfield 89, 3) := by decide +kernel
theorem dX10_count_59 : decode cX10_count 59 = .ok (.ireturn, 1) := by decide +kernel
theorem dX10_count_60 : decode cX10_count 60 = .ok (.aload_n 0, 1) := by decide +kernel
theorem dX10_count_61 : decode cX10_count 61 = .ok (.getfield 30, 3) := by decide +kernel
theorem dX10_count_64 : decode cX10_count 64 = .ok (.getfield 166, 3) := by decide +kernel
theorem dX10_count_67 : decode cX10_count 67 = .ok (.ireturn, 1) := by decide +kernel
theorem dX10_count_68 : decode cX10_count 68 = .ok (.aload_n 0, 1) := by decide +kernel
theorem dX10_count_69 : decode cX10_count 69 = .ok (.getfield 20, 3) := by decide +kernel
theorem dX10_count_72 : decode cX10_count 72 = .ok (.getfield 216, 3) := by decide +kernel
theorem dX10_count_75 : decode cX10_count 75 = .ok (.invokestatic 250, 3) := by decide +kernel
theorem dX10_count_78 : decode cX10_count 78 = .ok (.ireturn, 1) := by decide +kernel
theorem dX10_count_79 : decode cX10_count 79 = .ok (.aload_n 0, 1) := by decide +kernel
theorem dX10_count_80 : decode cX10_count 80 = .ok (.getfield 64, 3) := by decide +kernel
theorem dX10_count_83 : decode cX10_count 83 = .ok (.getfield 219, 3) := by decide +kernel
theorem dX10_count_86 : decode cX10_count 86 = .ok (.ireturn, 1) := by decide +kernel
theorem dX10_count_87 : decode cX10_count 87 = .ok (.aload_n 0, 1) := by decide +kernel
theorem dX10_count_88 : decode cX10_count 88 = .ok (.getfield 71, 3) := by decide +kernel
theorem dX10_count_91 : decode cX10_count 91 = .ok (.getfield 226, 3) := by decide +kernel
theorem dX10_count_94 : decode cX10_count 94 = .ok (.ireturn, 1) := by decide +kernel
theorem dX10_count_95 : decode cX10_count 95 = .ok (.aload_n 0, 1) := by decide +kernel
theorem dX10_count_96 : decode cX10_count 96 = .ok (.getfield 25, 3) := by decide +kernel
theorem dX10_count_99 : decode cX10_count 99 = .ok (.invokevirtual 197, 3) := by decide +kernel
theorem dX10_count_102 : decode cX10_count 102 = .ok (.ireturn, 1) := by decide +kernel
theorem dX10_count_103 : decode cX10_count 103 = .ok (.bipush (-2), 2) := by decide +kernel
theorem dX10_count_105 : decode cX10_count 105 = .ok (.ireturn, 1) := by decide +kernel
theorem dX10_digest_0 : decode cX10_digest 0 = .ok (.ldc2_w 255, 3) := by decide +kernel
theorem dX10_digest_3 : decode cX10_digest 3 = .ok (.lstore_n 1, 1) := by decide +kernel
theorem dX10_digest_4 : decode cX10_digest 4 = .ok (.iconst 0, 1) := by decide +kernel
theorem dX10_digest_5 : decode cX10_digest 5 = .ok (.istore_n 3, 1) := by decide +kernel
theorem dX10_digest_6 : decode cX10_digest 6 = .ok (.iload_n 3, 1) := by decide +kernel
theorem dX10_digest_7 : decode cX10_digest 7 = .ok (.bipush 6, 2) := by decide +kernel
theorem dX10_digest_9 : decode cX10_digest 9 = .ok (.if_icmp .gt 22, 3) := by decide +kernel
theorem dX10_digest_12 : decode cX10_digest 12 = .ok (.ldc2_w 257, 3) := by decide +kernel
theorem dX10_digest_15 : decode cX10_digest 15 = .ok (.lload_n 1, 1) := by decide +kernel
theorem dX10_digest_16 : decode cX10_digest 16 = .ok (.lmul, 1) := by decide +kernel
theorem dX10_digest_17 : decode cX10_digest 17 = .ok (.aload_n 0, 1) := by decide +kernel
theorem dX10_digest_18 : decode cX10_digest 18 = .ok (.iload_n 3, 1) := by decide +kernel
theorem dX10_digest_19 : decode cX10_digest 19 = .ok (.invokevirtual 259, 3) := by decide +kernel
theorem dX10_digest_22 : decode cX10_digest 22 = .ok (.i2l, 1) := by decide +kernel
theorem dX10_digest_23 : decode cX10_digest 23 = .ok (.ladd, 1) := by decide +kernel
theorem dX10_digest_24 : decode cX10_digest 24 = .ok (.lstore_n 1, 1) := by decide +kernel
theorem dX10_digest_25 : decode cX10_digest 25 = .ok (.iinc 3 1, 3) := by decide +kernel
theorem dX10_digest_28 : decode cX10_digest 28 = .ok (.goto (-22), 3) := by decide +kernel
theorem dX10_digest_31 : decode cX10_digest 31 = .ok (.iconst 0, 1) := by decide +kernel
theorem dX10_digest_32 : decode cX10_digest 32 = .ok (.istore_n 3, 1) := by decide +kernel
theorem dX10_digest_33 : decode cX10_digest 33 = .ok (.iload_n 3, 1) := by decide +kernel
theorem dX10_digest_34 : decode cX10_digest 34 = .ok (.aload_n 0, 1) := by decide +kernel
theorem dX10_digest_35 : decode cX10_digest 35 = .ok (.getfield 25, 3) := by decide +kernel
theorem dX10_digest_38 : decode cX10_digest 38 = .ok (.getfield 89, 3) := by decide +kernel
theorem dX10_digest_41 : decode cX10_digest 41 = .ok (.if_icmp .ge 52, 3) := by decide +kernel
theorem dX10_digest_44 : decode cX10_digest 44 = .ok (.iconst 1, 1) := by decide +kernel
theorem dX10_digest_45 : decode cX10_digest 45 = .ok (.istore 4, 2) := by decide +kernel
theorem dX10_digest_47 : decode cX10_digest 47 = .ok (.iload 4, 2) := by decide +kernel
theorem dX10_digest_49 : decode cX10_digest 49 = .ok (.iconst 5, 1) := by decide +kernel
theorem dX10_digest_50 : decode cX10_digest 50 = .ok (.if_icmp .gt 24, 3) := by decide +kernel
theorem dX10_digest_53 : decode cX10_digest 53 = .ok (.ldc2_w 257, 3) := by decide +kernel
theorem dX10_digest_56 : decode cX10_digest 56 = .ok (.lload_n 1, 1) := by decide +kernel
theorem dX10_digest_57 : decode cX10_digest 57 = .ok (.lmul, 1) := by decide +kernel
theorem dX10_digest_58 : decode cX10_digest 58 = .ok (.aload_n 0, 1) := by decide +kernel
theorem dX10_digest_59 : decode cX10_digest 59 = .ok (.iload_n 3, 1) := by decide +kernel
theorem dX10_digest_60 : decode cX10_digest 60 = .ok (.iload 4, 2) := by decide +kernel
theorem dX10_digest_62 : decode cX10_digest 62 = .ok (.invokevirtual 262, 3) := by decide +kernel
theorem dX10_digest_65 : decode cX10_digest 65 = .ok (.i2l, 1) := by decide +kernel
theorem dX10_digest_66 : decode cX10_digest 66 = .ok (.ladd, 1) := by decide +kernel
theorem dX10_digest_67 : decode cX10_digest 67 = .ok (.lstore_n 1, 1) := by decide +kernel
theorem dX10_digest_68 : decode cX10_digest 68 = .ok (.iinc 4 1, 3) := by decide +kernel
theorem dX10_digest_71 : decode cX10_digest 71 = .ok (.goto (-24), 3) := by decide +kernel
theorem dX10_digest_74 : decode cX10_digest 74 = .ok (.ldc2_w 257, 3) := by decide +kernel
theorem dX10_digest_77 : decode cX10_digest 77 = .ok (.lload_n 1, 1) := by decide +kernel
theorem dX10_digest_78 : decode cX10_digest 78 = .ok (.lmul, 1) := by decide +kernel
theorem dX10_digest_79 : decode cX10_digest 79 = .ok (.aload_n 0, 1) := by decide +kernel
theorem dX10_digest_80 : decode cX10_digest 80 = .ok (.iload_n 3, 1) := by decide +kernel
theorem dX10_digest_81 : decode cX10_digest 81 = .ok (.invokevirtual 265, 3) := by decide +kernel
theorem dX10_digest_84 : decode cX10_digest 84 = .ok (.i2l, 1) := by decide +kernel
theorem dX10_digest_85 : decode cX10_digest 85 = .ok (.ladd, 1) := by decide +kernel
theorem dX10_digest_86 : decode cX10_digest 86 = .ok (.lstore_n 1, 1) := by decide +kernel
theorem dX10_digest_87 : decode cX10_digest 87 = .ok (.iinc 3 1, 3) := by decide +kernel
theorem dX10_digest_90 : decode cX10_digest 90 = .ok (.goto (-57), 3) := by decide +kernel
theorem dX10_digest_93 : decode cX10_digest 93 = .ok (.iconst 0, 1) := by decide +kernel
theorem dX10_digest_94 : decode cX10_digest 94 = .ok (.istore_n 3, 1) := by decide +kernel
theorem dX10_digest_95 : decode cX10_digest 95 = .ok (.iload_n 3, 1) := by decide +kernel
theorem dX10_digest_96 : decode cX10_digest 96 = .ok (.aload_n 0, 1) := by decide +kernel
theorem dX10_digest_97 : decode cX10_digest 97 = .ok (.getfield 34, 3) := by decide +kernel
theorem dX10_digest_100 : decode cX10_digest 100 = .ok (.getfield 268, 3) := by decide +kernel
theorem dX10_digest_103 : decode cX10_digest 103 = .ok (.if_icmp .ge 25, 3) := by decide +kernel
theorem dX10_digest_106 : decode cX10_digest 106 = .ok (.ldc2_w 257, 3) := by decide +kernel
theorem dX10_digest_109 : decode cX10_digest 109 = .ok (.lload_n 1, 1) := by decide +kernel
theorem dX10_digest_110 : decode cX10_digest 110 = .ok (.lmul, 1) := by decide +kernel
theorem dX10_digest_111 : decode cX10_digest 111 = .ok (.aload_n 0, 1) := by decide +kernel
theorem dX10_digest_112 : decode cX10_digest 112 = .ok (.getfield 34, 3) := by decide +kernel
theorem dX10_digest_115 : decode cX10_digest 115 = .ok (.iload_n 3, 1) := by decide +kernel
theorem dX10_digest_116 : decode cX10_digest 116 = .ok (.invokevirtual 186, 3) := by decide +kernel
theorem dX10_digest_119 : decode cX10_digest 119 = .ok (.i2l, 1) := by decide +kernel
theorem dX10_digest_120 : decode cX10_digest 120 = .ok (.ladd, 1) := by decide +kernel
theorem dX10_digest_121 : decode cX10_digest 121 = .ok (.lstore_n 1, 1) := by decide +kernel
theorem dX10_digest_122 : decode cX10_digest 122 = .ok (.iinc 3 1, 3) := by decide +kernel
theorem dX10_digest_125 : decode cX10_digest 125 = .ok (.goto (-30), 3) := by decide +kernel
theorem dX10_digest_128 : decode cX10_digest 128 = .ok (.iconst 0, 1) := by decide +kernel
theorem dX10_digest_129 : decode cX10_digest 129 = .ok (.istore_n 3, 1) := by decide +kernel
theorem dX10_digest_130 : decode cX10_digest 130 = .ok (.iload_n 3, 1) := by decide +kernel
theorem dX10_digest_131 : decode cX10_digest 131 = .ok (.iconst 2, 1) := by decide +kernel
theorem dX10_digest_132 : decode cX10_digest 132 = .ok (.if_icmp .gt 22, 3) := by decide +kernel
theorem dX10_digest_135 : decode cX10_digest 135 = .ok (.ldc2_w 257, 3) := by decide +kernel
theorem dX10_digest_138 : decode cX10_digest 138 = .ok (.lload_n 1, 1) := by decide +kernel
theorem dX10_digest_139 : decode cX10_digest 139 = .ok (.lmul, 1) := by decide +kernel
theorem dX10_digest_140 : decode cX10_digest 140 = .ok (.aload_n 0, 1) := by decide +kernel
theorem dX10_digest_141 : decode cX10_digest 141 = .ok (.iload_n 3, 1) := by decide +kernel
theorem dX10_digest_142 : decode cX10_digest 142 = .ok (.invokevirtual 269, 3) := by decide +kernel
theorem dX10_digest_145 : decode cX10_digest 145 = .ok (.i2l, 1) := by decide +kernel
theorem dX10_digest_146 : decode cX10_digest 146 = .ok (.ladd, 1) := by decide +kernel
theorem dX10_digest_147 : decode cX10_digest 147 = .ok (.lstore_n 1, 1) := by decide +kernel
theorem dX10_digest_148 : decode cX10_digest 148 = .ok (.iinc 3 1, 3) := by decide +kernel
theorem dX10_digest_151 : decode cX10_digest 151 = .ok (.goto (-21), 3) := by decide +kernel
theorem dX10_digest_154 : decode cX10_digest 154 = .ok (.lload_n 1, 1) := by decide +kernel
theorem dX10_digest_155 : decode cX10_digest 155 = .ok (.lreturn, 1) := by decide +kernel
theorem dX10_within_0 : decode cX10_within 0 = .ok (.iload_n 0, 1) := by decide +kernel
theorem dX10_within_1 : decode cX10_within 1 = .ok (.iload_n 1, 1) := by decide +kernel
theorem dX10_within_2 : decode cX10_within 2 = .ok (.if_icmp .lt 12, 3) := by decide +kernel
theorem dX10_within_5 : decode cX10_within 5 = .ok (.iload_n 0, 1) := by decide +kernel
theorem dX10_within_6 : decode cX10_within 6 = .ok (.iload_n 2, 1) := by decide +kernel
theorem dX10_within_7 : decode cX10_within 7 = .ok (.if_icmp .gt 7, 3) := by decide +kernel
theorem dX10_within_10 : decode cX10_within 10 = .ok (.iconst 1, 1) := by decide +kernel
theorem dX10_within_11 : decode cX10_within 11 = .ok (.goto 4, 3) := by decide +kernel
theorem dX10_within_14 : decode cX10_within 14 = .ok (.iconst 0, 1) := by decide +kernel
theorem dX10_within_15 : decode cX10_within 15 = .ok (.ireturn, 1) := by decide +kernel
theorem dX10_inBits_0 : decode cX10_inBits 0 = .ok (.iload_n 1, 1) := by decide +kernel
theorem dX10_inBits_1 : decode cX10_inBits 1 = .ok (.ifCond .lt 22, 3) := by decide +kernel
theorem dX10_inBits_4 : decode cX10_inBits 4 = .ok (.iload_n 1, 1) := by decide +kernel
theorem dX10_inBits_5 : decode cX10_inBits 5 = .ok (.bipush 32, 2) := by decide +kernel
theorem dX10_inBits_7 : decode cX10_inBits 7 = .ok (.if_icmp .ge 16, 3) := by decide +kernel
theorem dX10_inBits_10 : decode cX10_inBits 10 = .ok (.iload_n 0, 1) := by decide +kernel
theorem dX10_inBits_11 : decode cX10_inBits 11 = .ok (.iload_n 1, 1) := by decide +kernel
theorem dX10_inBits_12 : decode cX10_inBits 12 = .ok (.iushr, 1) := by decide +kernel
theorem dX10_inBits_13 : decode cX10_inBits 13 = .ok (.iconst 1, 1) := by decide +kernel
theorem dX10_inBits_14 : decode cX10_inBits 14 = .ok (.iand, 1) := by decide +kernel
theorem dX10_inBits_15 : decode cX10_inBits 15 = .ok (.iconst 1, 1) := by decide +kernel
theorem dX10_inBits_16 : decode cX10_inBits 16 = .ok (.if_icmp .ne 7, 3) := by decide +kernel
theorem dX10_inBits_19 : decode cX10_inBits 19 = .ok (.iconst 1, 1) := by decide +kernel
theorem dX10_inBits_20 : decode cX10_inBits 20 = .ok (.goto 4, 3) := by decide +kernel
theorem dX10_inBits_23 : decode cX10_inBits 23 = .ok (.iconst 0, 1) := by decide +kernel
theorem dX10_inBits_24 : decode cX10_inBits 24 = .ok (.ireturn, 1) := by decide +kernel
theorem dX10_leastIn_0 : decode cX10_leastIn 0 = .ok (.iconst 0, 1) := by decide +kernel
theorem dX10_leastIn_1 : decode cX10_leastIn 1 = .ok (.istore_n 1, 1) := by decide +kernel
theorem dX10_leastIn_2 : decode cX10_leastIn 2 = .ok (.iload_n 1, 1) := by decide +kernel
theorem dX10_leastIn_3 : decode cX10_leastIn 3 = .ok (.bipush 32, 2) := by decide +kernel
theorem dX10_leastIn_5 : decode cX10_leastIn 5 = .ok (.if_icmp .ge 19, 3) := by decide +kernel
theorem dX10_leastIn_8 : decode cX10_leastIn 8 = .ok (.iload_n 0, 1) := by decide +kernel
theorem dX10_leastIn_9 : decode cX10_leastIn 9 = .ok (.iload_n 1, 1) := by decide +kernel
theorem dX10_leastIn_10 : decode cX10_leastIn 10 = .ok (.invokestatic 272, 3) := by decide +kernel
theorem dX10_leastIn_13 : decode cX10_leastIn 13 = .ok (.ifCond .eq 5, 3) := by decide +kernel
theorem dX10_leastIn_16 : decode cX10_leastIn 16 = .ok (.iload_n 1, 1) := by decide +kernel
theorem dX10_leastIn_17 : decode cX10_leastIn 17 = .ok (.ireturn, 1) := by decide +kernel
theorem dX10_leastIn_18 : decode cX10_leastIn 18 = .ok (.iinc 1 1, 3) := by decide +kernel
theorem dX10_leastIn_21 : decode cX10_leastIn 21 = .ok (.goto (-19), 3) := by decide +kernel
theorem dX10_leastIn_24 : decode cX10_leastIn 24 = .ok (.iconst (-1), 1) := by decide +kernel
theorem dX10_leastIn_25 : decode cX10_leastIn 25 = .ok (.ireturn, 1) := by decide +kernel
theorem dX11_init_0 : decode cX11_init 0 = .ok (.aload_n 0, 1) := by decide +kernel
theorem dX11_init_1 : decode cX11_init 1 = .ok (.invokespecial 1, 3) := by decide +kernel
theorem dX11_init_4 : decode cX11_init 4 = .ok (.aload_n 0, 1) := by decide +kernel
theorem dX11_init_5 : decode cX11_init 5 = .ok (.bipush 24, 2) := by decide +kernel
theorem dX11_init_7 : decode cX11_init 7 = .ok (.newarray .int, 2) := by decide +kernel
theorem dX11_init_9 : decode cX11_init 9 = .ok (.putfield 7, 3) := by decide +kernel
theorem dX11_init_12 : decode cX11_init 12 = .ok (.aload_n 0, 1) := by decide +kernel
theorem dX11_init_13 : decode cX11_init 13 = .ok (.bipush 24, 2) := by decide +kernel
theorem dX11_init_15 : decode cX11_init 15 = .ok (.newarray .int, 2) := by decide +kernel
theorem dX11_init_17 : decode cX11_init 17 = .ok (.putfield 13, 3) := by decide +kernel
theorem dX11_init_20 : decode cX11_init 20 = .ok (.aload_n 0, 1) := by decide +kernel
theorem dX11_init_21 : decode cX11_init 21 = .ok (.bipush 24, 2) := by decide +kernel
theorem dX11_init_23 : decode cX11_init 23 = .ok (.newarray .int, 2) := by decide +kernel
theorem dX11_init_25 : decode cX11_init 25 = .ok (.putfield 16, 3) := by decide +kernel
theorem dX11_init_28 : decode cX11_init 28 = .ok (.aload_n 0, 1) := by decide +kernel
theorem dX11_init_29 : decode cX11_init 29 = .ok (.bipush 16, 2) := by decide +kernel
theorem dX11_init_31 : decode cX11_init 31 = .ok (.newarray .int, 2) := by decide +kernel
theorem dX11_init_33 : decode cX11_init 33 = .ok (.putfield 19, 3) := by decide +kernel
theorem dX11_init_36 : decode cX11_init 36 = .ok (.aload_n 0, 1) := by decide +kernel
theorem dX11_init_37 : decode cX11_init 37 = .ok (.bipush 16, 2) := by decide +kernel
theorem dX11_init_39 : decode cX11_init 39 = .ok (.newarray .int, 2) := by decide +kernel
theorem dX11_init_41 : decode cX11_init 41 = .ok (.putfield 22, 3) := by decide +kernel
theorem dX11_init_44 : decode cX11_init 44 = .ok (.aload_n 0, 1) := by decide +kernel
theorem dX11_init_45 : decode cX11_init 45 = .ok (.bipush 16, 2) := by decide +kernel
theorem dX11_init_47 : decode cX11_init 47 = .ok (.newarray .int, 2) := by decide +kernel
theorem dX11_init_49 : decode cX11_init 49 = .ok (.putfield 25, 3) := by decide +kernel
theorem dX11_init_52 : decode cX11_init 52 = .ok (.aload_n 0, 1) := by decide +kernel
theorem dX11_init_53 : decode cX11_init 53 = .ok (.sipush 128, 3) := by decide +kernel
theorem dX11_init_56 : decode cX11_init 56 = .ok (.newarray .int, 2) := by decide +kernel
theorem dX11_init_58 : decode cX11_init 58 = .ok (.putfield 28, 3) := by decide +kernel
theorem dX11_init_61 : decode cX11_init 61 = .ok (.aload_n 0, 1) := by decide +kernel
theorem dX11_init_62 : decode cX11_init 62 = .ok (.bipush 16, 2) := by decide +kernel
theorem dX11_init_64 : decode cX11_init 64 = .ok (.newarray .int, 2) := by decide +kernel
theorem dX11_init_66 : decode cX11_init 66 = .ok (.putfield 31, 3) := by decide +kernel
theorem dX11_init_69 : decode cX11_init 69 = .ok (.aload_n 0, 1) := by decide +kernel
theorem dX11_init_70 : decode cX11_init 70 = .ok (.bipush 16, 2) := by decide +kernel
theorem dX11_init_72 : decode cX11_init 72 = .ok (.newarray .boolean, 2) := by decide +kernel
theorem dX11_init_74 : decode cX11_init 74 = .ok (.putfield 34, 3) := by decide +kernel
theorem dX11_init_77 : decode cX11_init 77 = .ok (.aload_n 0, 1) := by decide +kernel
theorem dX11_init_78 : decode cX11_init 78 = .ok (.bipush 16, 2) := by decide +kernel
theorem dX11_init_80 : decode cX11_init 80 = .ok (.newarray .int, 2) := by decide +kernel
theorem dX11_init_82 : decode cX11_init 82 = .ok (.putfield 38, 3) := by decide +kernel
theorem dX11_init_85 : decode cX11_init 85 = .ok (.aload_n 0, 1) := by decide +kernel
theorem dX11_init_86 : decode cX11_init 86 = .ok (.bipush 16, 2) := by decide +kernel
theorem dX11_init_88 : decode cX11_init 88 = .ok (.newarray .int, 2) := by decide +kernel
theorem dX11_init_90 : decode cX11_init 90 = .ok (.putfield 41, 3) := by decide +kernel
theorem dX11_init_93 : decode cX11_init 93 = .ok (.aload_n 0, 1) := by decide +kernel
theorem dX11_init_94 : decode cX11_init 94 = .ok (.bipush 60, 2) := by decide +kernel
theorem dX11_init_96 : decode cX11_init 96 = .ok (.newarray .int, 2) := by decide +kernel
theorem dX11_init_98 : decode cX11_init 98 = .ok (.putfield 44, 3) := by decide +kernel
theorem dX11_init_101 : decode cX11_init 101 = .ok (.aload_n 0, 1) := by decide +kernel
theorem dX11_init_102 : decode cX11_init 102 = .ok (.iconst 3, 1) := by decide +kernel
theorem dX11_init_103 : decode cX11_init 103 = .ok (.newarray .int, 2) := by decide +kernel
theorem dX11_init_105 : decode cX11_init 105 = .ok (.putfield 47, 3) := by decide +kernel
theorem dX11_init_108 : decode cX11_init 108 = .ok (.aload_n 0, 1) := by decide +kernel
theorem dX11_init_109 : decode cX11_init 109 = .ok (.bipush 16, 2) := by decide +kernel
theorem dX11_init_111 : decode cX11_init 111 = .ok (.newarray .int, 2) := by decide +kernel
theorem dX11_init_113 : decode cX11_init 113 = .ok (.putfield 50, 3) := by decide +kernel
theorem dX11_init_116 : decode cX11_init 116 = .ok (.aload_n 0, 1) := by decide +kernel
theorem dX11_init_117 : decode cX11_init 117 = .ok (.bipush 16, 2) := by decide +kernel
theorem dX11_init_119 : decode cX11_init 119 = .ok (.newarray .int, 2) := by decide +kernel
theorem dX11_init_121 : decode cX11_init 121 = .ok (.putfield 53, 3) := by decide +kernel
theorem dX11_init_124 : decode cX11_init 124 = .ok (.aload_n 0, 1) := by decide +kernel
theorem dX11_init_125 : decode cX11_init 125 = .ok (.bipush 16, 2) := by decide +kernel
theorem dX11_init_127 : decode cX11_init 127 = .ok (.newarray .int, 2) := by decide +kernel
theorem dX11_init_129 : decode cX11_init 129 = .ok (.putfield 56, 3) := by decide +kernel
theorem dX11_init_132 : decode cX11_init 132 = .ok (.aload_n 0, 1) := by decide +kernel
theorem dX11_init_133 : decode cX11_init 133 = .ok (.bipush 16, 2) := by decide +kernel
theorem dX11_init_135 : decode cX11_init 135 = .ok (.newarray .int, 2) := by decide +kernel
theorem dX11_init_137 : decode cX11_init 137 = .ok (.putfield 59, 3) := by decide +kernel
theorem dX11_init_140 : decode cX11_init 140 = .ok (.aload_n 0, 1) := by decide +kernel
theorem dX11_init_141 : decode cX11_init 141 = .ok (.bipush 24, 2) := by decide +kernel
theorem dX11_init_143 : decode cX11_init 143 = .ok (.newarray .int, 2) := by decide +kernel
theorem dX11_init_145 : decode cX11_init 145 = .ok (.putfield 62, 3) := by decide +kernel
theorem dX11_init_148 : decode cX11_init 148 = .ok (.aload_n 0, 1) := by decide +kernel
theorem dX11_init_149 : decode cX11_init 149 = .ok (.bipush 16, 2) := by decide +kernel
theorem dX11_init_151 : decode cX11_init 151 = .ok (.newarray .int, 2) := by decide +kernel
theorem dX11_init_153 : decode cX11_init 153 = .ok (.putfield 65, 3) := by decide +kernel
theorem dX11_init_156 : decode cX11_init 156 = .ok (.aload_n 0, 1) := by decide +kernel
theorem dX11_init_157 : decode cX11_init 157 = .ok (.bipush 24, 2) := by decide +kernel
theorem dX11_init_159 : decode cX11_init 159 = .ok (.newarray .int, 2) := by decide +kernel
theorem dX11_init_161 : decode cX11_init 161 = .ok (.putfield 68, 3) := by decide +kernel
theorem dX11_init_164 : decode cX11_init 164 = .ok (.aload_n 0, 1) := by decide +kernel
theorem dX11_init_165 : decode cX11_init 165 = .ok (.bipush 16, 2) := by decide +kernel
theorem dX11_init_167 : decode cX11_init 167 = .ok (.newarray .int, 2) := by decide +kernel
theorem dX11_init_169 : decode cX11_init 169 = .ok (.putfield 71, 3) := by decide +kernel
theorem dX11_init_172 : decode cX11_init 172 = .ok (.aload_n 0, 1) := by decide +kernel
theorem dX11_init_173 : decode cX11_init 173 = .ok (.sipush 960, 3) := by decide +kernel
theorem dX11_init_176 : decode cX11_init 176 = .ok (.newarray .int, 2) := by decide +kernel
theorem dX11_init_178 : decode cX11_init 178 = .ok (.putfield 74, 3) := by decide +kernel
theorem dX11_init_181 : decode cX11_init 181 = .ok (.aload_n 0, 1) := by decide +kernel
theorem dX11_init_182 : decode cX11_init 182 = .ok (.bipush 40, 2) := by decide +kernel
theorem dX11_init_184 : decode cX11_init 184 = .ok (.newarray .int, 2) := by decide +kernel
theorem dX11_init_186 : decode cX11_init 186 = .ok (.putfield 77, 3) := by decide +kernel
theorem dX11_init_189 : decode cX11_init 189 = .ok (.aload_n 0, 1) := by decide +kernel
theorem dX11_init_190 : decode cX11_init 190 = .ok (.bipush 40, 2) := by decide +kernel
theorem dX11_init_192 : decode cX11_init 192 = .ok (.newarray .int, 2) := by decide +kernel
theorem dX11_init_194 : decode cX11_init 194 = .ok (.putfield 80, 3) := by decide +kernel
theorem dX11_init_197 : decode cX11_init 197 = .ok (.aload_n 0, 1) := by decide +kernel
theorem dX11_init_198 : decode cX11_init 198 = .ok (.bipush 40, 2) := by decide +kernel
theorem dX11_init_200 : decode cX11_init 200 = .ok (.newarray .int, 2) := by decide +kernel
theorem dX11_init_202 : decode cX11_init 202 = .ok (.putfield 83, 3) := by decide +kernel
theorem dX11_init_205 : decode cX11_init 205 = .ok (.return_, 1) := by decide +kernel
theorem dX11_in_0 : decode cX11_in 0 = .ok (.lload_n 0, 1) := by decide +kernel
theorem dX11_in_1 : decode cX11_in 1 = .ok (.lload_n 2, 1) := by decide +kernel
theorem dX11_in_2 : decode cX11_in 2 = .ok (.lcmp, 1) := by decide +kernel
theorem dX11_in_3 : decode cX11_in 3 = .ok (.ifCond .lt 14, 3) := by decide +kernel
theorem dX11_in_6 : decode cX11_in 6 = .ok (.lload_n 0, 1) := by decide +kernel
theorem dX11_in_7 : decode cX11_in 7 = .ok (.lload 4, 2) := by decide +kernel
theorem dX11_in_9 : decode cX11_in 9 = .ok (.lcmp, 1) := by decide +kernel
theorem dX11_in_10 : decode cX11_in 10 = .ok (.ifCond .gt 7, 3) := by decide +kernel
theorem dX11_in_13 : decode cX11_in 13 = .ok (.iconst 1, 1) := by decide +kernel
theorem dX11_in_14 : decode cX11_in 14 = .ok (.goto 4, 3) := by decide +kernel
theorem dX11_in_17 : decode cX11_in 17 = .ok (.iconst 0, 1) := by decide +kernel
theorem dX11_in_18 : decode cX11_in 18 = .ok (.ireturn, 1) := by decide +kernel
theorem dX11_isRoom_0 : decode cX11_isRoom 0 = .ok (.iload_n 1, 1) := by decide +kernel
theorem dX11_isRoom_1 : decode cX11_isRoom 1 = .ok (.i2l, 1) := by decide +kernel
theorem dX11_isRoom_2 : decode cX11_isRoom 2 = .ok (.lconst 0, 1) := by decide +kernel
theorem dX11_isRoom_3 : decode cX11_isRoom 3 = .ok (.aload_n 0, 1) := by decide +kernel
theorem dX11_isRoom_4 : decode cX11_isRoom 4 = .ok (.getfield 86, 3) := by decide +kernel
theorem dX11_isRoom_7 : decode cX11_isRoom 7 = .ok (.iconst 1, 1) := by decide +kernel
theorem dX11_isRoom_8 : decode cX11_isRoom 8 = .ok (.isub, 1) := by decide +kernel
theorem dX11_isRoom_9 : decode cX11_isRoom 9 = .ok (.i2l, 1) := by decide +kernel
theorem dX11_isRoom_10 : decode cX11_isRoom 10 = .ok (.invokestatic 90, 3) := by decide +kernel
theorem dX11_isRoom_13 : decode cX11_isRoom 13 = .ok (.ireturn, 1) := by decide +kernel
theorem dX11_isOne_0 : decode cX11_isOne 0 = .ok (.iload_n 1, 1) := by decide +kernel
theorem dX11_isOne_1 : decode cX11_isOne 1 = .ok (.i2l, 1) := by decide +kernel
theorem dX11_isOne_2 : decode cX11_isOne 2 = .ok (.lconst 0, 1) := by decide +kernel
theorem dX11_isOne_3 : decode cX11_isOne 3 = .ok (.aload_n 0, 1) := by decide +kernel
theorem dX11_isOne_4 : decode cX11_isOne 4 = .ok (.getfield 94, 3) := by decide +kernel
theorem dX11_isOne_7 : decode cX11_isOne 7 = .ok (.iconst 1, 1) := by decide +kernel
theorem dX11_isOne_8 : decode cX11_isOne 8 = .ok (.isub, 1) := by decide +kernel
theorem dX11_isOne_9 : decode cX11_isOne 9 = .ok (.i2l, 1) := by decide +kernel
theorem dX11_isOne_10 : decode cX11_isOne 10 = .ok (.invokestatic 90, 3) := by decide +kernel
theorem dX11_isOne_13 : decode cX11_isOne 13 = .ok (.ireturn, 1) := by decide +kernel
theorem dX11_room_0 : decode cX11_room 0 = .ok (.iload_n 1, 1) := by decide +kernel
theorem dX11_room_1 : decode cX11_room 1 = .ok (.i2l, 1) := by decide +kernel
theorem dX11_room_2 : decode cX11_room 2 = .ok (.lconst 0, 1) := by decide +kernel
theorem dX11_room_3 : decode cX11_room 3 = .ok (.ldc2_w 97, 3) := by decide +kernel
theorem dX11_room_6 : decode cX11_room 6 = .ok (.invokestatic 90, 3) := by decide +kernel
theorem dX11_room_9 : decode cX11_room 9 = .ok (.ifCond .eq 27, 3) := by decide +kernel
theorem dX11_room_12 : decode cX11_room 12 = .ok (.iload_n 2, 1) := by decide +kernel
theorem dX11_room_13 : decode cX11_room 13 = .ok (.i2l, 1) := by decide +kernel
theorem dX11_room_14 : decode cX11_room 14 = .ok (.lconst 0, 1) := by decide +kernel
theorem dX11_room_15 : decode cX11_room 15 = .ok (.ldc2_w 99, 3) := by decide +kernel
theorem dX11_room_18 : decode cX11_room 18 = .ok (.invokestatic 90, 3) := by decide +kernel
theorem dX11_room_21 : decode cX11_room 21 = .ok (.ifCond .eq 15, 3) := by decide +kernel
theorem dX11_room_24 : decode cX11_room 24 = .ok (.iload_n 3, 1) := by decide +kernel
theorem dX11_room_25 : decode cX11_room 25 = .ok (.i2l, 1) := by decide +kernel
theorem dX11_room_26 : decode cX11_room 26 = .ok (.lconst 0, 1) := by decide +kernel
theorem dX11_room_27 : decode cX11_room 27 = .ok (.ldc2_w 101, 3) := by decide +kernel
theorem dX11_room_30 : decode cX11_room 30 = .ok (.invokestatic 90, 3) := by decide +kernel
theorem dX11_room_33 : decode cX11_room 33 = .ok (.ifCond .ne 6, 3) := by decide +kernel
theorem dX11_room_36 : decode cX11_room 36 = .ok (.bipush (-2), 2) := by decide +kernel
theorem dX11_room_38 : decode cX11_room 38 = .ok (.ireturn, 1) := by decide +kernel
theorem dX11_room_39 : decode cX11_room 39 = .ok (.aload_n 0, 1) := by decide +kernel
theorem dX11_room_40 : decode cX11_room 40 = .ok (.getfield 86, 3) := by decide +kernel
theorem dX11_room_43 : decode cX11_room 43 = .ok (.bipush 24, 2) := by decide +kernel
theorem dX11_room_45 : decode cX11_room 45 = .ok (.if_icmp .ne 6, 3) := by decide +kernel
theorem dX11_room_48 : decode cX11_room 48 = .ok (.bipush (-4), 2) := by decide +kernel
theorem dX11_room_50 : decode cX11_room 50 = .ok (.ireturn, 1) := by decide +kernel
theorem dX11_room_51 : decode cX11_room 51 = .ok (.aload_n 0, 1) := by decide +kernel
theorem dX11_room_52 : decode cX11_room 52 = .ok (.getfield 7, 3) := by decide +kernel
theorem dX11_room_55 : decode cX11_room 55 = .ok (.aload_n 0, 1) := by decide +kernel
theorem dX11_room_56 : decode cX11_room 56 = .ok (.getfield 86, 3) := by decide +kernel
theorem dX11_room_59 : decode cX11_room 59 = .ok (.iload_n 1, 1) := by decide +kernel
theorem dX11_room_60 : decode cX11_room 60 = .ok (.iastore, 1) := by decide +kernel
theorem dX11_room_61 : decode cX11_room 61 = .ok (.aload_n 0, 1) := by decide +kernel
theorem dX11_room_62 : decode cX11_room 62 = .ok (.getfield 13, 3) := by decide +kernel
theorem dX11_room_65 : decode cX11_room 65 = .ok (.aload_n 0, 1) := by decide +kernel
theorem dX11_room_66 : decode cX11_room 66 = .ok (.getfield 86, 3) := by decide +kernel
theorem dX11_room_69 : decode cX11_room 69 = .ok (.iload_n 2, 1) := by decide +kernel
theorem dX11_room_70 : decode cX11_room 70 = .ok (.iastore, 1) := by decide +kernel
theorem dX11_room_71 : decode cX11_room 71 = .ok (.aload_n 0, 1) := by decide +kernel
theorem dX11_room_72 : decode cX11_room 72 = .ok (.getfield 16, 3) := by decide +kernel
theorem dX11_room_75 : decode cX11_room 75 = .ok (.aload_n 0, 1) := by decide +kernel
theorem dX11_room_76 : decode cX11_room 76 = .ok (.getfield 86, 3) := by decide +kernel
theorem dX11_room_79 : decode cX11_room 79 = .ok (.iload_n 3, 1) := by decide +kernel
theorem dX11_room_80 : decode cX11_room 80 = .ok (.iastore, 1) := by decide +kernel
theorem dX11_room_81 : decode cX11_room 81 = .ok (.aload_n 0, 1) := by decide +kernel
theorem dX11_room_82 : decode cX11_room 82 = .ok (.dup, 1) := by decide +kernel
theorem dX11_room_83 : decode cX11_room 83 = .ok (.getfield 86, 3) := by decide +kernel
theorem dX11_room_86 : decode cX11_room 86 = .ok (.iconst 1, 1) := by decide +kernel
theorem dX11_room_87 : decode cX11_room 87 = .ok (.iadd, 1) := by decide +kernel
theorem dX11_room_88 : decode cX11_room 88 = .ok (.putfield 86, 3) := by decide +kernel
theorem dX11_room_91 : decode cX11_room 91 = .ok (.aload_n 0, 1) := by decide +kernel
theorem dX11_room_92 : decode cX11_room 92 = .ok (.getfield 86, 3) := by decide +kernel
theorem dX11_room_95 : decode cX11_room 95 = .ok (.iconst 1, 1) := by decide +kernel
theorem dX11_room_96 : decode cX11_room 96 = .ok (.isub, 1) := by decide +kernel
theorem dX11_room_97 : decode cX11_room 97 = .ok (.ireturn, 1) := by decide +kernel
theorem dX11_person_0 : decode cX11_person 0 = .ok (.iload_n 1, 1) := by decide +kernel
theorem dX11_person_1 : decode cX11_person 1 = .ok (.i2l, 1) := by decide +kernel
theorem dX11_person_2 : decode cX11_person 2 = .ok (.lconst 1, 1) := by decide +kernel
theorem dX11_person_3 : decode cX11_person 3 = .ok (.ldc2_w 103, 3) := by decide +kernel
theorem dX11_person_6 : decode cX11_person 6 = .ok (.invokestatic 90, 3) := by decide +kernel
theorem dX11_person_9 : decode cX11_person 9 = .ok (.ifCond .eq 17, 3) := by decide +kernel
theorem dX11_person_12 : decode cX11_person 12 = .ok (.iload_n 2, 1) := by decide +kernel
theorem dX11_person_13 : decode cX11_person 13 = .ok (.i2l, 1) := by decide +kernel
theorem dX11_person_14 : decode cX11_person 14 = .ok (.ldc2_w 105, 3) := by decide +kernel
theorem dX11_person_17 : decode cX11_person 17 = .ok (.ldc2_w 97, 3) := by decide +kernel
theorem dX11_person_20 : decode cX11_person 20 = .ok (.invokestatic 90, 3) := by decide +kernel
theorem dX11_person_23 : decode cX11_person 23 = .ok (.ifCond .ne 6, 3) := by decide +kernel
theorem dX11_person_26 : decode cX11_person 26 = .ok (.bipush (-2), 2) := by decide +kernel
theorem dX11_person_28 : decode cX11_person 28 = .ok (.ireturn, 1) := by decide +kernel
theorem dX11_person_29 : decode cX11_person 29 = .ok (.aload_n 0, 1) := by decide +kernel
theorem dX11_person_30 : decode cX11_person 30 = .ok (.getfield 94, 3) := by decide +kernel
theorem dX11_person_33 : decode cX11_person 33 = .ok (.bipush 16, 2) := by decide +kernel
theorem dX11_person_35 : decode cX11_person 35 = .ok (.if_icmp .ne 6, 3) := by decide +kernel
theorem dX11_person_38 : decode cX11_person 38 = .ok (.bipush (-4), 2) := by decide +kernel
theorem dX11_person_40 : decode cX11_person 40 = .ok (.ireturn, 1) := by decide +kernel
theorem dX11_person_41 : decode cX11_person 41 = .ok (.aload_n 0, 1) := by decide +kernel
theorem dX11_person_42 : decode cX11_person 42 = .ok (.getfield 94, 3) := by decide +kernel
theorem dX11_person_45 : decode cX11_person 45 = .ok (.istore_n 3, 1) := by decide +kernel
theorem dX11_person_46 : decode cX11_person 46 = .ok (.aload_n 0, 1) := by decide +kernel
theorem dX11_person_47 : decode cX11_person 47 = .ok (.getfield 19, 3) := by decide +kernel
theorem dX11_person_50 : decode cX11_person 50 = .ok (.iload_n 3, 1) := by decide +kernel
theorem dX11_person_51 : decode cX11_person 51 = .ok (.iload_n 1, 1) := by decide +kernel
theorem dX11_person_52 : decode cX11_person 52 = .ok (.iastore, 1) := by decide +kernel
theorem dX11_person_53 : decode cX11_person 53 = .ok (.aload_n 0, 1) := by decide +kernel
theorem dX11_person_54 : decode cX11_person 54 = .ok (.getfield 22, 3) := by decide +kernel
theorem dX11_person_57 : decode cX11_person 57 = .ok (.iload_n 3, 1) := by decide +kernel
theorem dX11_person_58 : decode cX11_person 58 = .ok (.iload_n 2, 1) := by decide +kernel
theorem dX11_person_59 : decode cX11_person 59 = .ok (.iastore, 1) := by decide +kernel
theorem dX11_person_60 : decode cX11_person 60 = .ok (.aload_n 0, 1) := by decide +kernel
theorem dX11_person_61 : decode cX11_person 61 = .ok (.getfield 25, 3) := by decide +kernel
theorem dX11_person_64 : decode cX11_person 64 = .ok (.iload_n 3, 1) := by decide +kernel
theorem dX11_person_65 : decode cX11_person 65 = .ok (.iconst 0, 1) := by decide +kernel
theorem dX11_person_66 : decode cX11_person 66 = .ok (.iastore, 1) := by decide +kernel
theorem dX11_person_67 : decode cX11_person 67 = .ok (.aload_n 0, 1) := by decide +kernel
theorem dX11_person_68 : decode cX11_person 68 = .ok (.getfield 31, 3) := by decide +kernel
theorem dX11_person_71 : decode cX11_person 71 = .ok (.iload_n 3, 1) := by decide +kernel
theorem dX11_person_72 : decode cX11_person 72 = .ok (.iconst (-1), 1) := by decide +kernel
theorem dX11_person_73 : decode cX11_person 73 = .ok (.iastore, 1) := by decide +kernel
theorem dX11_person_74 : decode cX11_person 74 = .ok (.aload_n 0, 1) := by decide +kernel
theorem dX11_person_75 : decode cX11_person 75 = .ok (.getfield 34, 3) := by decide +kernel
theorem dX11_person_78 : decode cX11_person 78 = .ok (.iload_n 3, 1) := by decide +kernel
theorem dX11_person_79 : decode cX11_person 79 = .ok (.iconst 0, 1) := by decide +kernel
theorem dX11_person_80 : decode cX11_person 80 = .ok (.bastore, 1) := by decide +kernel
theorem dX11_person_81 : decode cX11_person 81 = .ok (.aload_n 0, 1) := by decide +kernel
theorem dX11_person_82 : decode cX11_person 82 = .ok (.getfield 38, 3) := by decide +kernel
theorem dX11_person_85 : decode cX11_person 85 = .ok (.iload_n 3, 1) := by decide +kernel
theorem dX11_person_86 : decode cX11_person 86 = .ok (.iconst 0, 1) := by decide +kernel
theorem dX11_person_87 : decode cX11_person 87 = .ok (.iastore, 1) := by decide +kernel
theorem dX11_person_88 : decode cX11_person 88 = .ok (.aload_n 0, 1) := by decide +kernel
theorem dX11_person_89 : decode cX11_person 89 = .ok (.getfield 41, 3) := by decide +kernel
theorem dX11_person_92 : decode cX11_person 92 = .ok (.iload_n 3, 1) := by decide +kernel
theorem dX11_person_93 : decode cX11_person 93 = .ok (.iload_n 3, 1) := by decide +kernel
theorem dX11_person_94 : decode cX11_person 94 = .ok (.iastore, 1) := by decide +kernel
theorem dX11_person_95 : decode cX11_person 95 = .ok (.iconst 0, 1) := by decide +kernel
theorem dX11_person_96 : decode cX11_person 96 = .ok (.istore 4, 2) := by decide +kernel
theorem dX11_person_98 : decode cX11_person 98 = .ok (.iload 4, 2) := by decide +kernel
theorem dX11_person_100 : decode cX11_person 100 = .ok (.bipush 60, 2) := by decide +kernel
theorem dX11_person_102 : decode cX11_person 102 = .ok (.if_icmp .ge 22, 3) := by decide +kernel
theorem dX11_person_105 : decode cX11_person 105 = .ok (.aload_n 0, 1) := by decide +kernel
theorem dX11_person_106 : decode cX11_person 106 = .ok (.getfield 74, 3) := by decide +kernel
theorem dX11_person_109 : decode cX11_person 109 = .ok (.bipush 60, 2) := by decide +kernel
theorem dX11_person_111 : decode cX11_person 111 = .ok (.iload_n 3, 1) := by decide +kernel
theorem dX11_person_112 : decode cX11_person 112 = .ok (.imul, 1) := by decide +kernel
theorem dX11_person_113 : decode cX11_person 113 = .ok (.iload 4, 2) := by decide +kernel
theorem dX11_person_115 : decode cX11_person 115 = .ok (.iadd, 1) := by decide +kernel
theorem dX11_person_116 : decode cX11_person 116 = .ok (.iconst (-1), 1) := by decide +kernel
theorem dX11_person_117 : decode cX11_person 117 = .ok (.iastore, 1) := by decide +kernel
theorem dX11_person_118 : decode cX11_person 118 = .ok (.iinc 4 1, 3) := by decide +kernel
theorem dX11_person_121 : decode cX11_person 121 = .ok (.goto (-23), 3) := by decide +kernel
theorem dX11_person_124 : decode cX11_person 124 = .ok (.aload_n 0, 1) := by decide +kernel
theorem dX11_person_125 : decode cX11_person 125 = .ok (.dup, 1) := by decide +kernel
theorem dX11_person_126 : decode cX11_person 126 = .ok (.getfield 94, 3) := by decide +kernel
theorem dX11_person_129 : decode cX11_person 129 = .ok (.iconst 1, 1) := by decide +kernel
theorem dX11_person_130 : decode cX11_person 130 = .ok (.iadd, 1) := by decide +kernel
theorem dX11_person_131 : decode cX11_person 131 = .ok (.putfield 94, 3) := by decide +kernel
theorem dX11_person_134 : decode cX11_person 134 = .ok (.iload_n 3, 1) := by decide +kernel
theorem dX11_person_135 : decode cX11_person 135 = .ok (.ireturn, 1) := by decide +kernel
theorem dX11_rankOf_0 : decode cX11_rankOf 0 = .ok (.iconst 0, 1) := by decide +kernel
theorem dX11_rankOf_1 : decode cX11_rankOf 1 = .ok (.istore_n 3, 1) := by decide +kernel
theorem dX11_rankOf_2 : decode cX11_rankOf 2 = .ok (.iload_n 3, 1) := by decide +kernel
theorem dX11_rankOf_3 : decode cX11_rankOf 3 = .ok (.aload_n 0, 1) := by decide +kernel
theorem dX11_rankOf_4 : decode cX11_rankOf 4 = .ok (.getfield 25, 3) := by decide +kernel
theorem dX11_rankOf_7 : decode cX11_rankOf 7 = .ok (.iload_n 1, 1) := by decide +kernel
theorem dX11_rankOf_8 : decode cX11_rankOf 8 = .ok (.iaload, 1) := by decide +kernel
theorem dX11_rankOf_9 : decode cX11_rankOf 9 = .ok (.if_icmp .ge 26, 3) := by decide +kernel
theorem dX11_rankOf_12 : decode cX11_rankOf 12 = .ok (.aload_n 0, 1) := by decide +kernel
theorem dX11_rankOf_13 : decode cX11_rankOf 13 = .ok (.getfield 28, 3) := by decide +kernel
theorem dX11_rankOf_16 : decode cX11_rankOf 16 = .ok (.bipush 8, 2) := by decide +kernel
theorem dX11_rankOf_18 : decode cX11_rankOf 18 = .ok (.iload_n 1, 1) := by decide +kernel
theorem dX11_rankOf_19 : decode cX11_rankOf 19 = .ok (.imul, 1) := by decide +kernel
theorem dX11_rankOf_20 : decode cX11_rankOf 20 = .ok (.iload_n 3, 1) := by decide +kernel
theorem dX11_rankOf_21 : decode cX11_rankOf 21 = .ok (.iadd, 1) := by decide +kernel
theorem dX11_rankOf_22 : decode cX11_rankOf 22 = .ok (.iaload, 1) := by decide +kernel
theorem dX11_rankOf_23 : decode cX11_rankOf 23 = .ok (.iload_n 2, 1) := by decide +kernel
theorem dX11_rankOf_24 : decode cX11_rankOf 24 = .ok (.if_icmp .ne 5, 3) := by decide +kernel
theorem dX11_rankOf_27 : decode cX11_rankOf 27 = .ok (.iload_n 3, 1) := by decide +kernel
theorem dX11_rankOf_28 : decode cX11_rankOf 28 = .ok (.ireturn, 1) := by decide +kernel
theorem dX11_rankOf_29 : decode cX11_rankOf 29 = .ok (.iinc 3 1, 3) := by decide +kernel
theorem dX11_rankOf_32 : decode cX11_rankOf 32 = .ok (.goto (-30), 3) := by decide +kernel
theorem dX11_rankOf_35 : decode cX11_rankOf 35 = .ok (.bipush 8, 2) := by decide +kernel
theorem dX11_rankOf_37 : decode cX11_rankOf 37 = .ok (.ireturn, 1) := by decide +kernel
theorem dX11_wish_0 : decode cX11_wish 0 = .ok (.aload_n 0, 1) := by decide +kernel
theorem dX11_wish_1 : decode cX11_wish 1 = .ok (.iload_n 1, 1) := by decide +kernel
theorem dX11_wish_2 : decode cX11_wish 2 = .ok (.invokevirtual 107, 3) := by decide +kernel
theorem dX11_wish_5 : decode cX11_wish 5 = .ok (.ifCond .eq 22, 3) := by decide +kernel
theorem dX11_wish_8 : decode cX11_wish 8 = .ok (.aload_n 0, 1) := by decide +kernel
theorem dX11_wish_9 : decode cX11_wish 9 = .ok (.iload_n 2, 1) := by decide +kernel
theorem dX11_wish_10 : decode cX11_wish 10 = .ok (.invokevirtual 111, 3) := by decide +kernel
theorem dX11_wish_13 : decode cX11_wish 13 = .ok (.ifCond .eq 14, 3) := by decide +kernel
theorem dX11_wish_16 : decode cX11_wish 16 = .ok (.aload_n 0, 1) := by decide +kernel
theorem dX11_wish_17 : decode cX11_wish 17 = .ok (.iload_n 1, 1) := by decide +kernel
theorem dX11_wish_18 : decode cX11_wish 18 = .ok (.iload_n 2, 1) := by decide +kernel
theorem dX11_wish_19 : decode cX11_wish 19 = .ok (.invokevirtual 114, 3) := by decide +kernel
theorem dX11_wish_22 : decode cX11_wish 22 = .ok (.bipush 8, 2) := by decide +kernel
theorem dX11_wish_24 : decode cX11_wish 24 = .ok (.if_icmp .ge 6, 3) := by decide +kernel
theorem dX11_wish_27 : decode cX11_wish 27 = .ok (.bipush (-2), 2) := by decide +kernel
theorem dX11_wish_29 : decode cX11_wish 29 = .ok (.ireturn, 1) := by decide +kernel
theorem dX11_wish_30 : decode cX11_wish 30 = .ok (.aload_n 0, 1) := by decide +kernel
theorem dX11_wish_31 : decode cX11_wish 31 = .ok (.getfield 25, 3) := by decide +kernel
theorem dX11_wish_34 : decode cX11_wish 34 = .ok (.iload_n 1, 1) := by decide +kernel
theorem dX11_wish_35 : decode cX11_wish 35 = .ok (.iaload, 1) := by decide +kernel
theorem dX11_wish_36 : decode cX11_wish 36 = .ok (.bipush 8, 2) := by decide +kernel
theorem dX11_wish_38 : decode cX11_wish 38 = .ok (.if_icmp .ne 6, 3) := by decide +kernel
theorem dX11_wish_41 : decode cX11_wish 41 = .ok (.bipush (-4), 2) := by decide +kernel
theorem dX11_wish_43 : decode cX11_wish 43 = .ok (.ireturn, 1) := by decide +kernel
theorem dX11_wish_44 : decode cX11_wish 44 = .ok (.aload_n 0, 1) := by decide +kernel
theorem dX11_wish_45 : decode cX11_wish 45 = .ok (.getfield 28, 3) := by decide +kernel
theorem dX11_wish_48 : decode cX11_wish 48 = .ok (.bipush 8, 2) := by decide +kernel
theorem dX11_wish_50 : decode cX11_wish 50 = .ok (.iload_n 1, 1) := by decide +kernel
theorem dX11_wish_51 : decode cX11_wish 51 = .ok (.imul, 1) := by decide +kernel
theorem dX11_wish_52 : decode cX11_wish 52 = .ok (.aload_n 0, 1) := by decide +kernel
theorem dX11_wish_53 : decode cX11_wish 53 = .ok (.getfield 25, 3) := by decide +kernel
theorem dX11_wish_56 : decode cX11_wish 56 = .ok (.iload_n 1, 1) := by decide +kernel
theorem dX11_wish_57 : decode cX11_wish 57 = .ok (.iaload, 1) := by decide +kernel
theorem dX11_wish_58 : decode cX11_wish 58 = .ok (.iadd, 1) := by decide +kernel
theorem dX11_wish_59 : decode cX11_wish 59 = .ok (.iload_n 2, 1) := by decide +kernel
theorem dX11_wish_60 : decode cX11_wish 60 = .ok (.iastore, 1) := by decide +kernel
theorem dX11_wish_61 : decode cX11_wish 61 = .ok (.aload_n 0, 1) := by decide +kernel
theorem dX11_wish_62 : decode cX11_wish 62 = .ok (.getfield 25, 3) := by decide +kernel
theorem dX11_wish_65 : decode cX11_wish 65 = .ok (.iload_n 1, 1) := by decide +kernel
theorem dX11_wish_66 : decode cX11_wish 66 = .ok (.dup2, 1) := by decide +kernel
theorem dX11_wish_67 : decode cX11_wish 67 = .ok (.iaload, 1) := by decide +kernel
theorem dX11_wish_68 : decode cX11_wish 68 = .ok (.iconst 1, 1) := by decide +kernel
theorem dX11_wish_69 : decode cX11_wish 69 = .ok (.iadd, 1) := by decide +kernel
theorem dX11_wish_70 : decode cX11_wish 70 = .ok (.iastore, 1) := by decide +kernel
theorem dX11_wish_71 : decode cX11_wish 71 = .ok (.aload_n 0, 1) := by decide +kernel
theorem dX11_wish_72 : decode cX11_wish 72 = .ok (.getfield 25, 3) := by decide +kernel
theorem dX11_wish_75 : decode cX11_wish 75 = .ok (.iload_n 1, 1) := by decide +kernel
theorem dX11_wish_76 : decode cX11_wish 76 = .ok (.iaload, 1) := by decide +kernel
theorem dX11_wish_77 : decode cX11_wish 77 = .ok (.ireturn, 1) := by decide +kernel
theorem dX11_content_0 : decode cX11_content 0 = .ok (.aload_n 0, 1) := by decide +kernel
theorem dX11_content_1 : decode cX11_content 1 = .ok (.iload_n 1, 1) := by decide +kernel
theorem dX11_content_2 : decode cX11_content 2 = .ok (.invokevirtual 107, 3) := by decide +kernel
theorem dX11_content_5 : decode cX11_content 5 = .ok (.ifCond .ne 6, 3) := by decide +kernel
theorem dX11_content_8 : decode cX11_content 8 = .ok (.bipush (-2), 2) := by decide +kernel
theorem dX11_content_10 : decode cX11_content 10 = .ok (.ireturn, 1) := by decide +kernel
theorem dX11_content_11 : decode cX11_content 11 = .ok (.aload_n 0, 1) := by decide +kernel
theorem dX11_content_12 : decode cX11_content 12 = .ok (.getfield 25, 3) := by decide +kernel
theorem dX11_content_15 : decode cX11_content 15 = .ok (.iload_n 1, 1) := by decide +kernel
theorem dX11_content_16 : decode cX11_content 16 = .ok (.iaload, 1) := by decide +kernel
theorem dX11_content_17 : decode cX11_content 17 = .ok (.istore_n 2, 1) := by decide +kernel
theorem dX11_content_18 : decode cX11_content 18 = .ok (.aload_n 0, 1) := by decide +kernel
theorem dX11_content_19 : decode cX11_content 19 = .ok (.getfield 25, 3) := by decide +kernel
theorem dX11_content_22 : decode cX11_content 22 = .ok (.iload_n 1, 1) := by decide +kernel
theorem dX11_content_23 : decode cX11_content 23 = .ok (.iconst 0, 1) := by decide +kernel
theorem dX11_content_24 : decode cX11_content 24 = .ok (.iastore, 1) := by decide +kernel
theorem dX11_content_25 : decode cX11_content 25 = .ok (.iload_n 2, 1) := by decide +kernel
theorem dX11_content_26 : decode cX11_content 26 = .ok (.ireturn, 1) := by decide +kernel
theorem dX11_about_0 : decode cX11_about 0 = .ok (.aload_n 0, 1) := by decide +kernel
theorem dX11_about_1 : decode cX11_about 1 = .ok (.iload_n 1, 1) := by decide +kernel
theorem dX11_about_2 : decode cX11_about 2 = .ok (.invokevirtual 107, 3) := by decide +kernel
theorem dX11_about_5 : decode cX11_about 5 = .ok (.ifCond .ne 6, 3) := by decide +kernel
theorem dX11_about_8 : decode cX11_about 8 = .ok (.bipush (-2), 2) := by decide +kernel
theorem dX11_about_10 : decode cX11_about 10 = .ok (.ireturn, 1) := by decide +kernel
theorem dX11_about_11 : decode cX11_about 11 = .ok (.iload_n 2, 1) := by decide +kernel
theorem dX11_about_12 : decode cX11_about 12 = .ok (.tableswitch 90 0 5 #[40, 47, 54, 61, 68, 83], 40) := by decide +kernel
theorem dX11_about_52 : decode cX11_about 52 = .ok (.aload_n 0, 1) := by decide +kernel
theorem dX11_about_53 : decode cX11_about 53 = .ok (.getfield 19, 3) := by decide +kernel
theorem dX11_about_56 : decode cX11_about 56 = .ok (.iload_n 1, 1) := by decide +kernel
theorem dX11_about_57 : decode cX11_about 57 = .ok (.iaload, 1) := by decide +kernel
theorem dX11_about_58 : decode cX11_about 58 = .ok (.ireturn, 1) := by decide +kernel
theorem dX11_about_59 : decode cX11_about 59 = .ok (.aload_n 0, 1) := by decide +kernel
theorem dX11_about_60 : decode cX11_about 60 = .ok (.getfield 22, 3) := by decide +kernel
theorem dX11_about_63 : decode cX11_about 63 = .ok (.iload_n 1, 1) := by decide +kernel
theorem dX11_about_64 : decode cX11_about 64 = .ok (.iaload, 1) := by decide +kernel
theorem dX11_about_65 : decode cX11_about 65 = .ok (.ireturn, 1) := by decide +kernel
theorem dX11_about_66 : decode cX11_about 66 = .ok (.aload_n 0, 1) := by decide +kernel
theorem dX11_about_67 : decode cX11_about 67 = .ok (.getfield 25, 3) := by decide +kernel
theorem dX11_about_70 : decode cX11_about 70 = .ok (.iload_n 1, 1) := by decide +kernel
theorem dX11_about_71 : decode cX11_about 71 = .ok (.iaload, 1) := by decide +kernel
theorem dX11_about_72 : decode cX11_about 72 = .ok (.ireturn, 1) := by decide +kernel
theorem dX11_about_73 : decode cX11_about 73 = .ok (.aload_n 0, 1) := by decide +kernel
theorem dX11_about_74 : decode cX11_about 74 = .ok (.getfield 31, 3) := by decide +kernel
theorem dX11_about_77 : decode cX11_about 77 = .ok (.iload_n 1, 1) := by decide +kernel
theorem dX11_about_78 : decode cX11_about 78 = .ok (.iaload, 1) := by decide +kernel
theorem dX11_about_79 : decode cX11_about 79 = .ok (.ireturn, 1) := by decide +kernel
theorem dX11_about_80 : decode cX11_about 80 = .ok (.aload_n 0, 1) := by decide +kernel
theorem dX11_about_81 : decode cX11_about 81 = .ok (.getfield 34, 3) := by decide +kernel
theorem dX11_about_84 : decode cX11_about 84 = .ok (.iload_n 1, 1) := by decide +kernel
theorem dX11_about_85 : decode cX11_about 85 = .ok (.baload, 1) := by decide +kernel
theorem dX11_about_86 : decode cX11_about 86 = .ok (.ifCond .eq 7, 3) := by decide +kernel
theorem dX11_about_89 : decode cX11_about 89 = .ok (.iconst 1, 1) := by decide +kernel
theorem dX11_about_90 : decode cX11_about 90 = .ok (.goto 4, 3) := by decide +kernel
theorem dX11_about_93 : decode cX11_about 93 = .ok (.iconst 0, 1) := by decide +kernel
theorem dX11_about_94 : decode cX11_about 94 = .ok (.ireturn, 1) := by decide +kernel
theorem dX11_about_95 : decode cX11_about 95 = .ok (.aload_n 0, 1) := by decide +kernel
theorem dX11_about_96 : decode cX11_about 96 = .ok (.getfield 38, 3) := by decide +kernel
theorem dX11_about_99 : decode cX11_about 99 = .ok (.iload_n 1, 1) := by decide +kernel
theorem dX11_about_100 : decode cX11_about 100 = .ok (.iaload, 1) := by decide +kernel
theorem dX11_about_101 : decode cX11_about 101 = .ok (.ireturn, 1) := by decide +kernel
theorem dX11_about_102 : decode cX11_about 102 = .ok (.iload_n 2, 1) := by decide +kernel
theorem dX11_about_103 : decode cX11_about 103 = .ok (.i2l, 1) := by decide +kernel
theorem dX11_about_104 : decode cX11_about 104 = .ok (.ldc2_w 118, 3) := by decide +kernel
theorem dX11_about_107 : decode cX11_about 107 = .ok (.bipush 9, 2) := by decide +kernel
theorem dX11_about_109 : decode cX11_about 109 = .ok (.aload_n 0, 1) := by decide +kernel
theorem dX11_about_110 : decode cX11_about 110 = .ok (.getfield 25, 3) := by decide +kernel
theorem dX11_about_113 : decode cX11_about 113 = .ok (.iload_n 1, 1) := by decide +kernel
theorem dX11_about_114 : decode cX11_about 114 = .ok (.iaload, 1) := by decide +kernel
theorem dX11_about_115 : decode cX11_about 115 = .ok (.iadd, 1) := by decide +kernel
theorem dX11_about_116 : decode cX11_about 116 = .ok (.i2l, 1) := by decide +kernel
theorem dX11_about_117 : decode cX11_about 117 = .ok (.invokestatic 90, 3) := by decide +kernel
theorem dX11_about_120 : decode cX11_about 120 = .ok (.ifCond .eq 20, 3) := by decide +kernel
theorem dX11_about_123 : decode cX11_about 123 = .ok (.aload_n 0, 1) := by decide +kernel
theorem dX11_about_124 : decode cX11_about 124 = .ok (.getfield 28, 3) := by decide +kernel
theorem dX11_about_127 : decode cX11_about 127 = .ok (.bipush 8, 2) := by decide +kernel
theorem dX11_about_129 : decode cX11_about 129 = .ok (.iload_n 1, 1) := by decide +kernel
theorem dX11_about_130 : decode cX11_about 130 = .ok (.imul, 1) := by decide +kernel
theorem dX11_about_131 : decode cX11_about 131 = .ok (.iload_n 2, 1) := by decide +kernel
theorem dX11_about_132 : decode cX11_about 132 = .ok (.iadd, 1) := by decide +kernel
theorem dX11_about_133 : decode cX11_about 133 = .ok (.bipush 10, 2) := by decide +kernel
theorem dX11_about_135 : decode cX11_about 135 = .ok (.isub, 1) := by decide +kernel
theorem dX11_about_136 : decode cX11_about 136 = .ok (.iaload, 1) := by decide +kernel
theorem dX11_about_137 : decode cX11_about 137 = .ok (.goto 5, 3) := by decide +kernel
theorem dX11_about_140 : decode cX11_about 140 = .ok (.bipush (-2), 2) := by decide +kernel
theorem dX11_about_142 : decode cX11_about 142 = .ok (.ireturn, 1) := by decide +kernel
theorem dX11_whoHas_0 : decode cX11_whoHas 0 = .ok (.iconst 0, 1) := by decide +kernel
theorem dX11_whoHas_1 : decode cX11_whoHas 1 = .ok (.istore_n 2, 1) := by decide +kernel
theorem dX11_whoHas_2 : decode cX11_whoHas 2 = .ok (.iload_n 2, 1) := by decide +kernel
theorem dX11_whoHas_3 : decode cX11_whoHas 3 = .ok (.aload_n 0, 1) := by decide +kernel
theorem dX11_whoHas_4 : decode cX11_whoHas 4 = .ok (.getfield 94, 3) := by decide +kernel
theorem dX11_whoHas_7 : decode cX11_whoHas 7 = .ok (.if_icmp .ge 21, 3) := by decide +kernel
theorem dX11_whoHas_10 : decode cX11_whoHas 10 = .ok (.aload_n 0, 1) := by decide +kernel
theorem dX11_whoHas_11 : decode cX11_whoHas 11 = .ok (.getfield 31, 3) := by decide +kernel
theorem dX11_whoHas_14 : decode cX11_whoHas 14 = .ok (.iload_n 2, 1) := by decide +kernel
theorem dX11_whoHas_15 : decode cX11_whoHas 15 = .ok (.iaload, 1) := by decide +kernel
theorem dX11_whoHas_16 : decode cX11_whoHas 16 = .ok (.iload_n 1, 1) := by decide +kernel
theorem dX11_whoHas_17 : decode cX11_whoHas 17 = .ok (.if_icmp .ne 5, 3) := by decide +kernel
theorem dX11_whoHas_20 : decode cX11_whoHas 20 = .ok (.iload_n 2, 1) := by decide +kernel
theorem dX11_whoHas_21 : decode cX11_whoHas 21 = .ok (.ireturn, 1) := by decide +kernel
theorem dX11_whoHas_22 : decode cX11_whoHas 22 = .ok (.iinc 2 1, 3) := by decide +kernel
theorem dX11_whoHas_25 : decode cX11_whoHas 25 = .ok (.goto (-23), 3) := by decide +kernel
theorem dX11_whoHas_28 : decode cX11_whoHas 28 = .ok (.iconst (-1), 1) := by decide +kernel
theorem dX11_whoHas_29 : decode cX11_whoHas 29 = .ok (.ireturn, 1) := by decide +kernel
theorem dX11_of_0 : decode cX11_of 0 = .ok (.aload_n 0, 1) := by decide +kernel
theorem dX11_of_1 : decode cX11_of 1 = .ok (.iload_n 1, 1) := by decide +kernel
theorem dX11_of_2 : decode cX11_of 2 = .ok (.invokevirtual 111, 3) := by decide +kernel
theorem dX11_of_5 : decode cX11_of 5 = .ok (.ifCond .ne 6, 3) := by decide +kernel
theorem dX11_of_8 : decode cX11_of 8 = .ok (.bipush (-2), 2) := by decide +kernel
theorem dX11_of_10 : decode cX11_of 10 = .ok (.ireturn, 1) := by decide +kernel
theorem dX11_of_11 : decode cX11_of 11 = .ok (.iload_n 2, 1) := by decide +kernel
theorem dX11_of_12 : decode cX11_of 12 = .ok (.tableswitch 59 0 3 #[32, 39, 46, 53], 32) := by decide +kernel
theorem dX11_of_44 : decode cX11_of 44 = .ok (.aload_n 0, 1) := by decide +kernel
theorem dX11_of_45 : decode cX11_of 45 = .ok (.getfield 7, 3) := by decide +kernel
theorem dX11_of_48 : decode cX11_of 48 = .ok (.iload_n 1, 1) := by decide +kernel
theorem dX11_of_49 : decode cX11_of 49 = .ok (.iaload, 1) := by decide +kernel
theorem dX11_of_50 : decode cX11_of 50 = .ok (.ireturn, 1) := by decide +kernel
theorem dX11_of_51 : decode cX11_of 51 = .ok (.aload_n 0, 1) := by decide +kernel
theorem dX11_of_52 : decode cX11_of 52 = .ok (.getfield 13, 3) := by decide +kernel
theorem dX11_of_55 : decode cX11_of 55 = .ok (.iload_n 1, 1) := by decide +kernel
theorem dX11_of_56 : decode cX11_of 56 = .ok (.iaload, 1) := by decide +kernel
theorem dX11_of_57 : decode cX11_of 57 = .ok (.ireturn, 1) := by decide +kernel
theorem dX11_of_58 : decode cX11_of 58 = .ok (.aload_n 0, 1) := by decide +kernel
theorem dX11_of_59 : decode cX11_of 59 = .ok (.getfield 16, 3) := by decide +kernel
theorem dX11_of_62 : decode cX11_of 62 = .ok (.iload_n 1, 1) := by decide +kernel
theorem dX11_of_63 : decode cX11_of 63 = .ok (.iaload, 1) := by decide +kernel
theorem dX11_of_64 : decode cX11_of 64 = .ok (.ireturn, 1) := by decide +kernel
theorem dX11_of_65 : decode cX11_of 65 = .ok (.aload_n 0, 1) := by decide +kernel
theorem dX11_of_66 : decode cX11_of 66 = .ok (.iload_n 1, 1) := by decide +kernel
theorem dX11_of_67 : decode cX11_of 67 = .ok (.invokevirtual 120, 3) := by decide +kernel
theorem dX11_of_70 : decode cX11_of 70 = .ok (.ireturn, 1) := by decide +kernel
theorem dX11_of_71 : decode cX11_of 71 = .ok (.bipush (-2), 2) := by decide +kernel
theorem dX11_of_73 : decode cX11_of 73 = .ok (.ireturn, 1) := by decide +kernel
theorem dX11_give_0 : decode cX11_give 0 = .ok (.aload_n 0, 1) := by decide +kernel
theorem dX11_give_1 : decode cX11_give 1 = .ok (.iload_n 1, 1) := by decide +kernel
theorem dX11_give_2 : decode cX11_give 2 = .ok (.invokevirtual 107, 3) := by decide +kernel
theorem dX11_give_5 : decode cX11_give 5 = .ok (.ifCond .eq 16, 3) := by decide +kernel
theorem dX11_give_8 : decode cX11_give 8 = .ok (.iload_n 2, 1) := by decide +kernel
theorem dX11_give_9 : decode cX11_give 9 = .ok (.iconst (-1), 1) := by decide +kernel
theorem dX11_give_10 : decode cX11_give 10 = .ok (.if_icmp .eq 14, 3) := by decide +kernel
theorem dX11_give_13 : decode cX11_give 13 = .ok (.aload_n 0, 1) := by decide +kernel
theorem dX11_give_14 : decode cX11_give 14 = .ok (.iload_n 2, 1) := by decide +kernel
theorem dX11_give_15 : decode cX11_give 15 = .ok (.invokevirtual 111, 3) := by decide +kernel
theorem dX11_give_18 : decode cX11_give 18 = .ok (.ifCond .ne 6, 3) := by decide +kernel
theorem dX11_give_21 : decode cX11_give 21 = .ok (.bipush (-2), 2) := by decide +kernel
theorem dX11_give_23 : decode cX11_give 23 = .ok (.ireturn, 1) := by decide +kernel
theorem dX11_give_24 : decode cX11_give 24 = .ok (.iload_n 2, 1) := by decide +kernel
theorem dX11_give_25 : decode cX11_give 25 = .ok (.iconst (-1), 1) := by decide +kernel
theorem dX11_give_26 : decode cX11_give 26 = .ok (.if_icmp .eq 33, 3) := by decide +kernel
theorem dX11_give_29 : decode cX11_give 29 = .ok (.aload_n 0, 1) := by decide +kernel
theorem dX11_give_30 : decode cX11_give 30 = .ok (.iload_n 2, 1) := by decide +kernel
theorem dX11_give_31 : decode cX11_give 31 = .ok (.invokevirtual 120, 3) := by decide +kernel
theorem dX11_give_34 : decode cX11_give 34 = .ok (.iconst (-1), 1) := by decide +kernel
theorem dX11_give_35 : decode cX11_give 35 = .ok (.if_icmp .eq 12, 3) := by decide +kernel
theorem dX11_give_38 : decode cX11_give 38 = .ok (.aload_n 0, 1) := by decide +kernel
theorem dX11_give_39 : decode cX11_give 39 = .ok (.iload_n 2, 1) := by decide +kernel
theorem dX11_give_40 : decode cX11_give 40 = .ok (.invokevirtual 120, 3) := by decide +kernel
theorem dX11_give_43 : decode cX11_give 43 = .ok (.iload_n 1, 1) := by decide +kernel
theorem dX11_give_44 : decode cX11_give 44 = .ok (.if_icmp .ne 12, 3) := by decide +kernel
theorem dX11_give_47 : decode cX11_give 47 = .ok (.aload_n 0, 1) := by decide +kernel
theorem dX11_give_48 : decode cX11_give 48 = .ok (.iload_n 1, 1) := by decide +kernel
theorem dX11_give_49 : decode cX11_give 49 = .ok (.iload_n 2, 1) := by decide +kernel
theorem dX11_give_50 : decode cX11_give 50 = .ok (.invokevirtual 124, 3) := by decide +kernel
theorem dX11_give_53 : decode cX11_give 53 = .ok (.ifCond .ne 6, 3) := by decide +kernel
theorem dX11_give_56 : decode cX11_give 56 = .ok (.bipush (-3), 2) := by decide +kernel
theorem dX11_give_58 : decode cX11_give 58 = .ok (.ireturn, 1) := by decide +kernel
theorem dX11_give_59 : decode cX11_give 59 = .ok (.aload_n 0, 1) := by decide +kernel
theorem dX11_give_60 : decode cX11_give 60 = .ok (.getfield 31, 3) := by decide +kernel
theorem dX11_give_63 : decode cX11_give 63 = .ok (.iload_n 1, 1) := by decide +kernel
theorem dX11_give_64 : decode cX11_give 64 = .ok (.iaload, 1) := by decide +kernel
theorem dX11_give_65 : decode cX11_give 65 = .ok (.istore_n 3, 1) := by decide +kernel
theorem dX11_give_66 : decode cX11_give 66 = .ok (.aload_n 0, 1) := by decide +kernel
theorem dX11_give_67 : decode cX11_give 67 = .ok (.getfield 31, 3) := by decide +kernel
theorem dX11_give_70 : decode cX11_give 70 = .ok (.iload_n 1, 1) := by decide +kernel
theorem dX11_give_71 : decode cX11_give 71 = .ok (.iload_n 2, 1) := by decide +kernel
theorem dX11_give_72 : decode cX11_give 72 = .ok (.iastore, 1) := by decide +kernel
theorem dX11_give_73 : decode cX11_give 73 = .ok (.iload_n 3, 1) := by decide +kernel
theorem dX11_give_74 : decode cX11_give 74 = .ok (.ireturn, 1) := by decide +kernel
theorem dX11_type_0 : decode cX11_type 0 = .ok (.iload_n 1, 1) := by decide +kernel
theorem dX11_type_1 : decode cX11_type 1 = .ok (.i2l, 1) := by decide +kernel
theorem dX11_type_2 : decode cX11_type 2 = .ok (.ldc2_w 128, 3) := by decide +kernel
theorem dX11_type_5 : decode cX11_type 5 = .ok (.ldc2_w 130, 3) := by decide +kernel
theorem dX11_type_8 : decode cX11_type 8 = .ok (.invokestatic 90, 3) := by decide +kernel
theorem dX11_type_11 : decode cX11_type 11 = .ok (.ifCond .ne 6, 3) := by decide +kernel
theorem dX11_type_14 : decode cX11_type 14 = .ok (.bipush (-2), 2) := by decide +kernel
theorem dX11_type_16 : decode cX11_type 16 = .ok (.ireturn, 1) := by decide +kernel
theorem dX11_type_17 : decode cX11_type 17 = .ok (.aload_n 0, 1) := by decide +kernel
theorem dX11_type_18 : decode cX11_type 18 = .ok (.getfield 132, 3) := by decide +kernel
theorem dX11_type_21 : decode cX11_type 21 = .ok (.bipush 60, 2) := by decide +kernel
theorem dX11_type_23 : decode cX11_type 23 = .ok (.if_icmp .ne 6, 3) := by decide +kernel
theorem dX11_type_26 : decode cX11_type 26 = .ok (.bipush (-4), 2) := by decide +kernel
theorem dX11_type_28 : decode cX11_type 28 = .ok (.ireturn, 1) := by decide +kernel
theorem dX11_type_29 : decode cX11_type 29 = .ok (.aload_n 0, 1) := by decide +kernel
theorem dX11_type_30 : decode cX11_type 30 = .ok (.getfield 44, 3) := by decide +kernel
theorem dX11_type_33 : decode cX11_type 33 = .ok (.aload_n 0, 1) := by decide +kernel
theorem dX11_type_34 : decode cX11_type 34 = .ok (.getfield 132, 3) := by decide +kernel
theorem dX11_type_37 : decode cX11_type 37 = .ok (.iload_n 1, 1) := by decide +kernel
theorem dX11_type_38 : decode cX11_type 38 = .ok (.iastore, 1) := by decide +kernel
theorem dX11_type_39 : decode cX11_type 39 = .ok (.aload_n 0, 1) := by decide +kernel
theorem dX11_type_40 : decode cX11_type 40 = .ok (.dup, 1) := by decide +kernel
theorem dX11_type_41 : decode cX11_type 41 = .ok (.getfield 132, 3) := by decide +kernel
theorem dX11_type_44 : decode cX11_type 44 = .ok (.iconst 1, 1) := by decide +kernel
theorem dX11_type_45 : decode cX11_type 45 = .ok (.iadd, 1) := by decide +kernel
theorem dX11_type_46 : decode cX11_type 46 = .ok (.putfield 132, 3) := by decide +kernel
theorem dX11_type_49 : decode cX11_type 49 = .ok (.aload_n 0, 1) := by decide +kernel
theorem dX11_type_50 : decode cX11_type 50 = .ok (.getfield 132, 3) := by decide +kernel
theorem dX11_type_53 : decode cX11_type 53 = .ok (.ireturn, 1) := by decide +kernel
theorem dX11_repeal_0 : decode cX11_repeal 0 = .ok (.aload_n 0, 1) := by decide +kernel
theorem dX11_repeal_1 : decode cX11_repeal 1 = .ok (.getfield 132, 3) := by decide +kernel
theorem dX11_repeal_4 : decode cX11_repeal 4 = .ok (.istore_n 1, 1) := by decide +kernel
theorem dX11_repeal_5 : decode cX11_repeal 5 = .ok (.aload_n 0, 1) := by decide +kernel
theorem dX11_repeal_6 : decode cX11_repeal 6 = .ok (.iconst 0, 1) := by decide +kernel
theorem dX11_repeal_7 : decode cX11_repeal 7 = .ok (.putfield 132, 3) := by decide +kernel
theorem dX11_repeal_10 : decode cX11_repeal 10 = .ok (.iload_n 1, 1) := by decide +kernel
theorem dX11_repeal_11 : decode cX11_repeal 11 = .ok (.ireturn, 1) := by decide +kernel
theorem dX11_isLetter_0 : decode cX11_isLetter 0 = .ok (.iload_n 0, 1) := by decide +kernel
theorem dX11_isLetter_1 : decode cX11_isLetter 1 = .ok (.bipush 121, 2) := by decide +kernel
theorem dX11_isLetter_3 : decode cX11_isLetter 3 = .ok (.if_icmp .eq 21, 3) := by decide +kernel
theorem dX11_isLetter_6 : decode cX11_isLetter 6 = .ok (.iload_n 0, 1) := by decide +kernel
theorem dX11_isLetter_7 : decode cX11_isLetter 7 = .ok (.bipush 109, 2) := by decide +kernel
theorem dX11_isLetter_9 : decode cX11_isLetter 9 = .ok (.if_icmp .eq 15, 3) := by decide +kernel
theorem dX11_isLetter_12 : decode cX11_isLetter 12 = .ok (.iload_n 0, 1) := by decide +kernel
theorem dX11_isLetter_13 : decode cX11_isLetter 13 = .ok (.bipush 115, 2) := by decide +kernel
theorem dX11_isLetter_15 : decode cX11_isLetter 15 = .ok (.if_icmp .eq 9, 3) := by decide +kernel
theorem dX11_isLetter_18 : decode cX11_isLetter 18 = .ok (.iload_n 0, 1) := by decide +kernel
theorem dX11_isLetter_19 : decode cX11_isLetter 19 = .ok (.bipush 104, 2) := by decide +kernel
theorem dX11_isLetter_21 : decode cX11_isLetter 21 = .ok (.if_icmp .ne 7, 3) := by decide +kernel
theorem dX11_isLetter_24 : decode cX11_isLetter 24 = .ok (.iconst 1, 1) := by decide +kernel
theorem dX11_isLetter_25 : decode cX11_isLetter 25 = .ok (.goto 4, 3) := by decide +kernel
theorem dX11_isLetter_28 : decode cX11_isLetter 28 = .ok (.iconst 0, 1) := by decide +kernel
theorem dX11_isLetter_29 : decode cX11_isLetter 29 = .ok (.ireturn, 1) := by decide +kernel
theorem dX11_isSign_0 : decode cX11_isSign 0 = .ok (.iload_n 0, 1) := by decide +kernel
theorem dX11_isSign_1 : decode cX11_isSign 1 = .ok (.bipush 60, 2) := by decide +kernel
theorem dX11_isSign_3 : decode cX11_isSign 3 = .ok (.if_icmp .eq 15, 3) := by decide +kernel
theorem dX11_isSign_6 : decode cX11_isSign 6 = .ok (.iload_n 0, 1) := by decide +kernel
theorem dX11_isSign_7 : decode cX11_isSign 7 = .ok (.bipush 61, 2) := by decide +kernel
theorem dX11_isSign_9 : decode cX11_isSign 9 = .ok (.if_icmp .eq 9, 3) := by decide +kernel
theorem dX11_isSign_12 : decode cX11_isSign 12 = .ok (.iload_n 0, 1) := by decide +kernel
theorem dX11_isSign_13 : decode cX11_isSign 13 = .ok (.bipush 62, 2) := by decide +kernel
theorem dX11_isSign_15 : decode cX11_isSign 15 = .ok (.if_icmp .ne 7, 3) := by decide +kernel
theorem dX11_isSign_18 : decode cX11_isSign 18 = .ok (.iconst 1, 1) := by decide +kernel
theorem dX11_isSign_19 : decode cX11_isSign 19 = .ok (.goto 4, 3) := by decide +kernel
theorem dX11_isSign_22 : decode cX11_isSign 22 = .ok (.iconst 0, 1) := by decide +kernel
theorem dX11_isSign_23 : decode cX11_isSign 23 = .ok (.ireturn, 1) := by decide +kernel
theorem dX11_isFigure_0 : decode cX11_isFigure 0 = .ok (.iload_n 0, 1) := by decide +kernel
theorem dX11_isFigure_1 : decode cX11_isFigure 1 = .ok (.i2l, 1) := by decide +kernel
theorem dX11_isFigure_2 : decode cX11_isFigure 2 = .ok (.ldc2_w 135, 3) := by decide +kernel
theorem dX11_isFigure_5 : decode cX11_isFigure 5 = .ok (.ldc2_w 137, 3) := by decide +kernel
theorem dX11_isFigure_8 : decode cX11_isFigure 8 = .ok (.invokestatic 90, 3) := by decide +kernel
theorem dX11_isFigure_11 : decode cX11_isFigure 11 = .ok (.ireturn, 1) := by decide +kernel
theorem dX11_fault_0 : decode cX11_fault 0 = .ok (.iconst 0, 1) := by decide +kernel
theorem dX11_fault_1 : decode cX11_fault 1 = .ok (.istore_n 1, 1) := by decide +kernel
theorem dX11_fault_2 : decode cX11_fault 2 = .ok (.iconst 0, 1) := by decide +kernel
theorem dX11_fault_3 : decode cX11_fault 3 = .ok (.istore_n 2, 1) := by decide +kernel
theorem dX11_fault_4 : decode cX11_fault 4 = .ok (.iload_n 2, 1) := by decide +kernel
theorem dX11_fault_5 : decode cX11_fault 5 = .ok (.aload_n 0, 1) := by decide +kernel
theorem dX11_fault_6 : decode cX11_fault 6 = .ok (.getfield 132, 3) := by decide +kernel
theorem dX11_fault_9 : decode cX11_fault 9 = .ok (.if_icmp .ge 86, 3) := by decide +kernel
theorem dX11_fault_12 : decode cX11_fault 12 = .ok (.aload_n 0, 1) := by decide +kernel
theorem dX11_fault_13 : decode cX11_fault 13 = .ok (.getfield 44, 3) := by decide +kernel
theorem dX11_fault_16 : decode cX11_fault 16 = .ok (.iload_n 2, 1) := by decide +kernel
theorem dX11_fault_17 : decode cX11_fault 17 = .ok (.iaload, 1) := by decide +kernel
theorem dX11_fault_18 : decode cX11_fault 18 = .ok (.istore_n 3, 1) := by decide +kernel
theorem dX11_fault_19 : decode cX11_fault 19 = .ok (.iload_n 1, 1) := by decide +kernel
theorem dX11_fault_20 : decode cX11_fault 20 = .ok (.ifCond .ne 10, 3) := by decide +kernel
theorem dX11_fault_23 : decode cX11_fault 23 = .ok (.iload_n 3, 1) := by decide +kernel
theorem dX11_fault_24 : decode cX11_fault 24 = .ok (.invokestatic 139, 3) := by decide +kernel
theorem dX11_fault_27 : decode cX11_fault 27 = .ok (.ifCond .ne 32, 3) := by decide +kernel
theorem dX11_fault_30 : decode cX11_fault 30 = .ok (.iload_n 1, 1) := by decide +kernel
theorem dX11_fault_31 : decode cX11_fault 31 = .ok (.iconst 1, 1) := by decide +kernel
theorem dX11_fault_32 : decode cX11_fault 32 = .ok (.if_icmp .ne 10, 3) := by decide +kernel
theorem dX11_fault_35 : decode cX11_fault 35 = .ok (.iload_n 3, 1) := by decide +kernel
theorem dX11_fault_36 : decode cX11_fault 36 = .ok (.invokestatic 142, 3) := by decide +kernel
theorem dX11_fault_39 : decode cX11_fault 39 = .ok (.ifCond .ne 20, 3) := by decide +kernel
theorem dX11_fault_42 : decode cX11_fault 42 = .ok (.iload_n 1, 1) := by decide +kernel
theorem dX11_fault_43 : decode cX11_fault 43 = .ok (.iconst 1, 1) := by decide +kernel
theorem dX11_fault_44 : decode cX11_fault 44 = .ok (.if_icmp .le 21, 3) := by decide +kernel
theorem dX11_fault_47 : decode cX11_fault 47 = .ok (.iload_n 1, 1) := by decide +kernel
theorem dX11_fault_48 : decode cX11_fault 48 = .ok (.iconst 5, 1) := by decide +kernel
theorem dX11_fault_49 : decode cX11_fault 49 = .ok (.if_icmp .ge 16, 3) := by decide +kernel
theorem dX11_fault_52 : decode cX11_fault 52 = .ok (.iload_n 3, 1) := by decide +kernel
theorem dX11_fault_53 : decode cX11_fault 53 = .ok (.invokestatic 145, 3) := by decide +kernel
theorem dX11_fault_56 : decode cX11_fault 56 = .ok (.ifCond .eq 9, 3) := by decide +kernel
theorem dX11_fault_59 : decode cX11_fault 59 = .ok (.iinc 1 1, 3) := by decide +kernel
theorem dX11_fault_62 : decode cX11_fault 62 = .ok (.goto 27, 3) := by decide +kernel
theorem dX11_fault_65 : decode cX11_fault 65 = .ok (.iload_n 1, 1) := by decide +kernel
theorem dX11_fault_66 : decode cX11_fault 66 = .ok (.iconst 2, 1) := by decide +kernel
theorem dX11_fault_67 : decode cX11_fault 67 = .ok (.if_icmp .le 20, 3) := by decide +kernel
theorem dX11_fault_70 : decode cX11_fault 70 = .ok (.iload_n 3, 1) := by decide +kernel
theorem dX11_fault_71 : decode cX11_fault 71 = .ok (.bipush 124, 2) := by decide +kernel
theorem dX11_fault_73 : decode cX11_fault 73 = .ok (.if_icmp .eq 9, 3) := by decide +kernel
theorem dX11_fault_76 : decode cX11_fault 76 = .ok (.iload_n 3, 1) := by decide +kernel
theorem dX11_fault_77 : decode cX11_fault 77 = .ok (.bipush 38, 2) := by decide +kernel
theorem dX11_fault_79 : decode cX11_fault 79 = .ok (.if_icmp .ne 8, 3) := by decide +kernel
theorem dX11_fault_82 : decode cX11_fault 82 = .ok (.iconst 0, 1) := by decide +kernel
theorem dX11_fault_83 : decode cX11_fault 83 = .ok (.istore_n 1, 1) := by decide +kernel
theorem dX11_fault_84 : decode cX11_fault 84 = .ok (.goto 5, 3) := by decide +kernel
theorem dX11_fault_87 : decode cX11_fault 87 = .ok (.iload_n 2, 1) := by decide +kernel
theorem dX11_fault_88 : decode cX11_fault 88 = .ok (.ireturn, 1) := by decide +kernel
theorem dX11_fault_89 : decode cX11_fault 89 = .ok (.iinc 2 1, 3) := by decide +kernel
theorem dX11_fault_92 : decode cX11_fault 92 = .ok (.goto (-88), 3) := by decide +kernel
theorem dX11_fault_95 : decode cX11_fault 95 = .ok (.aload_n 0, 1) := by decide +kernel
theorem dX11_fault_96 : decode cX11_fault 96 = .ok (.getfield 132, 3) := by decide +kernel
theorem dX11_fault_99 : decode cX11_fault 99 = .ok (.ifCond .le 15, 3) := by decide +kernel
theorem dX11_fault_102 : decode cX11_fault 102 = .ok (.iload_n 1, 1) := by decide +kernel
theorem dX11_fault_103 : decode cX11_fault 103 = .ok (.iconst 3, 1) := by decide +kernel
theorem dX11_fault_104 : decode cX11_fault 104 = .ok (.if_icmp .ge 10, 3) := by decide +kernel
theorem dX11_fault_107 : decode cX11_fault 107 = .ok (.aload_n 0, 1) := by decide +kernel
theorem dX11_fault_108 : decode cX11_fault 108 = .ok (.getfield 132, 3) := by decide +kernel
theorem dX11_fault_111 : decode cX11_fault 111 = .ok (.goto 4, 3) := by decide +kernel
theorem dX11_fault_114 : decode cX11_fault 114 = .ok (.iconst (-1), 1) := by decide +kernel
theorem dX11_fault_115 : decode cX11_fault 115 = .ok (.ireturn, 1) := by decide +kernel
theorem dX11_holds_0 : decode cX11_holds 0 = .ok (.aload_n 0, 1) := by decide +kernel
theorem dX11_holds_1 : decode cX11_holds 1 = .ok (.getfield 44, 3) := by decide +kernel
theorem dX11_holds_4 : decode cX11_holds 4 = .ok (.iload_n 1, 1) := by decide +kernel
theorem dX11_holds_5 : decode cX11_holds 5 = .ok (.iaload, 1) := by decide +kernel
theorem dX11_holds_6 : decode cX11_holds 6 = .ok (.bipush 121, 2) := by decide +kernel
theorem dX11_holds_8 : decode cX11_holds 8 = .ok (.if_icmp .ne 12, 3) := by decide +kernel
theorem dX11_holds_11 : decode cX11_holds 11 = .ok (.aload_n 0, 1) := by decide +kernel
theorem dX11_holds_12 : decode cX11_holds 12 = .ok (.getfield 19, 3) := by decide +kernel
theorem dX11_holds_15 : decode cX11_holds 15 = .ok (.iload_n 3, 1) := by decide +kernel
theorem dX11_holds_16 : decode cX11_holds 16 = .ok (.iaload, 1) := by decide +kernel
theorem dX11_holds_17 : decode cX11_holds 17 = .ok (.goto 52, 3) := by decide +kernel
theorem dX11_holds_20 : decode cX11_holds 20 = .ok (.aload_n 0, 1) := by decide +kernel
theorem dX11_holds_21 : decode cX11_holds 21 = .ok (.getfield 44, 3) := by decide +kernel
theorem dX11_holds_24 : decode cX11_holds 24 = .ok (.iload_n 1, 1) := by decide +kernel
theorem dX11_holds_25 : decode cX11_holds 25 = .ok (.iaload, 1) := by decide +kernel
theorem dX11_holds_26 : decode cX11_holds 26 = .ok (.bipush 109, 2) := by decide +kernel
theorem dX11_holds_28 : decode cX11_holds 28 = .ok (.if_icmp .ne 13, 3) := by decide +kernel
theorem dX11_holds_31 : decode cX11_holds 31 = .ok (.aload_n 0, 1) := by decide +kernel
theorem dX11_holds_32 : decode cX11_holds 32 = .ok (.getfield 13, 3) := by decide +kernel
theorem dX11_holds_35 : decode cX11_holds 35 = .ok (.iload 4, 2) := by decide +kernel
theorem dX11_holds_37 : decode cX11_holds 37 = .ok (.iaload, 1) := by decide +kernel
theorem dX11_holds_38 : decode cX11_holds 38 = .ok (.goto 31, 3) := by decide +kernel
theorem dX11_holds_41 : decode cX11_holds 41 = .ok (.aload_n 0, 1) := by decide +kernel
theorem dX11_holds_42 : decode cX11_holds 42 = .ok (.getfield 44, 3) := by decide +kernel
theorem dX11_holds_45 : decode cX11_holds 45 = .ok (.iload_n 1, 1) := by decide +kernel
theorem dX11_holds_46 : decode cX11_holds 46 = .ok (.iaload, 1) := by decide +kernel
theorem dX11_holds_47 : decode cX11_holds 47 = .ok (.bipush 115, 2) := by decide +kernel
theorem dX11_holds_49 : decode cX11_holds 49 = .ok (.if_icmp .ne 13, 3) := by decide +kernel
theorem dX11_holds_52 : decode cX11_holds 52 = .ok (.aload_n 0, 1) := by decide +kernel
theorem dX11_holds_53 : decode cX11_holds 53 = .ok (.getfield 16, 3) := by decide +kernel
theorem dX11_holds_56 : decode cX11_holds 56 = .ok (.iload 4, 2) := by decide +kernel
theorem dX11_holds_58 : decode cX11_holds 58 = .ok (.iaload, 1) := by decide +kernel
theorem dX11_holds_59 : decode cX11_holds 59 = .ok (.goto 10, 3) := by decide +kernel
theorem dX11_holds_62 : decode cX11_holds 62 = .ok (.aload_n 0, 1) := by decide +kernel
theorem dX11_holds_63 : decode cX11_holds 63 = .ok (.getfield 7, 3) := by decide +kernel
theorem dX11_holds_66 : decode cX11_holds 66 = .ok (.iload 4, 2) := by decide +kernel
theorem dX11_holds_68 : decode cX11_holds 68 = .ok (.iaload, 1) := by decide +kernel
theorem dX11_holds_69 : decode cX11_holds 69 = .ok (.istore 5, 2) := by decide +kernel
theorem dX11_holds_71 : decode cX11_holds 71 = .ok (.iconst 0, 1) := by decide +kernel
theorem dX11_holds_72 : decode cX11_holds 72 = .ok (.istore 6, 2) := by decide +kernel
theorem dX11_holds_74 : decode cX11_holds 74 = .ok (.iload_n 1, 1) := by decide +kernel
theorem dX11_holds_75 : decode cX11_holds 75 = .ok (.iconst 2, 1) := by decide +kernel
theorem dX11_holds_76 : decode cX11_holds 76 = .ok (.iadd, 1) := by decide +kernel
theorem dX11_holds_77 : decode cX11_holds 77 = .ok (.istore 7, 2) := by decide +kernel
theorem dX11_holds_79 : decode cX11_holds 79 = .ok (.iload 7, 2) := by decide +kernel
theorem dX11_holds_81 : decode cX11_holds 81 = .ok (.iload_n 2, 1) := by decide +kernel
theorem dX11_holds_82 : decode cX11_holds 82 = .ok (.if_icmp .ge 27, 3) := by decide +kernel
theorem dX11_holds_85 : decode cX11_holds 85 = .ok (.bipush 10, 2) := by decide +kernel
theorem dX11_holds_87 : decode cX11_holds 87 = .ok (.iload 6, 2) := by decide +kernel
theorem dX11_holds_89 : decode cX11_holds 89 = .ok (.imul, 1) := by decide +kernel
theorem dX11_holds_90 : decode cX11_holds 90 = .ok (.aload_n 0, 1) := by decide +kernel
theorem dX11_holds_91 : decode cX11_holds 91 = .ok (.getfield 44, 3) := by decide +kernel
theorem dX11_holds_94 : decode cX11_holds 94 = .ok (.iload 7, 2) := by decide +kernel
theorem dX11_holds_96 : decode cX11_holds 96 = .ok (.iaload, 1) := by decide +kernel
theorem dX11_holds_97 : decode cX11_holds 97 = .ok (.iadd, 1) := by decide +kernel
theorem dX11_holds_98 : decode cX11_holds 98 = .ok (.bipush 48, 2) := by decide +kernel
theorem dX11_holds_100 : decode cX11_holds 100 = .ok (.isub, 1) := by decide +kernel
theorem dX11_holds_101 : decode cX11_holds 101 = .ok (.istore 6, 2) := by decide +kernel
theorem dX11_holds_103 : decode cX11_holds 103 = .ok (.iinc 7 1, 3) := by decide +kernel
theorem dX11_holds_106 : decode cX11_holds 106 = .ok (.goto (-27), 3) := by decide +kernel
theorem dX11_holds_109 : decode cX11_holds 109 = .ok (.aload_n 0, 1) := by decide +kernel
theorem dX11_holds_110 : decode cX11_holds 110 = .ok (.getfield 44, 3) := by decide +kernel
theorem dX11_holds_113 : decode cX11_holds 113 = .ok (.iload_n 1, 1) := by decide +kernel
theorem dX11_holds_114 : decode cX11_holds 114 = .ok (.iconst 1, 1) := by decide +kernel
theorem dX11_holds_115 : decode cX11_holds 115 = .ok (.iadd, 1) := by decide +kernel
theorem dX11_holds_116 : decode cX11_holds 116 = .ok (.iaload, 1) := by decide +kernel
theorem dX11_holds_117 : decode cX11_holds 117 = .ok (.bipush 60, 2) := by decide +kernel
theorem dX11_holds_119 : decode cX11_holds 119 = .ok (.if_icmp .ne 18, 3) := by decide +kernel
theorem dX11_holds_122 : decode cX11_holds 122 = .ok (.iload 5, 2) := by decide +kernel
theorem dX11_holds_124 : decode cX11_holds 124 = .ok (.iload 6, 2) := by decide +kernel
theorem dX11_holds_126 : decode cX11_holds 126 = .ok (.if_icmp .ge 7, 3) := by decide +kernel
theorem dX11_holds_129 : decode cX11_holds 129 = .ok (.iconst 1, 1) := by decide +kernel
theorem dX11_holds_130 : decode cX11_holds 130 = .ok (.goto 47, 3) := by decide +kernel
theorem dX11_holds_133 : decode cX11_holds 133 = .ok (.iconst 0, 1) := by decide +kernel
theorem dX11_holds_134 : decode cX11_holds 134 = .ok (.goto 43, 3) := by decide +kernel
theorem dX11_holds_137 : decode cX11_holds 137 = .ok (.aload_n 0, 1) := by decide +kernel
theorem dX11_holds_138 : decode cX11_holds 138 = .ok (.getfield 44, 3) := by decide +kernel
theorem dX11_holds_141 : decode cX11_holds 141 = .ok (.iload_n 1, 1) := by decide +kernel
theorem dX11_holds_142 : decode cX11_holds 142 = .ok (.iconst 1, 1) := by decide +kernel
theorem dX11_holds_143 : decode cX11_holds 143 = .ok (.iadd, 1) := by decide +kernel
theorem dX11_holds_144 : decode cX11_holds 144 = .ok (.iaload, 1) := by decide +kernel
theorem dX11_holds_145 : decode cX11_holds 145 = .ok (.bipush 61, 2) := by decide +kernel
theorem dX11_holds_147 : decode cX11_holds 147 = .ok (.if_icmp .ne 18, 3) := by decide +kernel
theorem dX11_holds_150 : decode cX11_holds 150 = .ok (.iload 5, 2) := by decide +kernel
theorem dX11_holds_152 : decode cX11_holds 152 = .ok (.iload 6, 2) := by decide +kernel
theorem dX11_holds_154 : decode cX11_holds 154 = .ok (.if_icmp .ne 7, 3) := by decide +kernel
theorem dX11_holds_157 : decode cX11_holds 157 = .ok (.iconst 1, 1) := by decide +kernel
theorem dX11_holds_158 : decode cX11_holds 158 = .ok (.goto 19, 3) := by decide +kernel
theorem dX11_holds_161 : decode cX11_holds 161 = .ok (.iconst 0, 1) := by decide +kernel
theorem dX11_holds_162 : decode cX11_holds 162 = .ok (.goto 15, 3) := by decide +kernel
theorem dX11_holds_165 : decode cX11_holds 165 = .ok (.iload 5, 2) := by decide +kernel
theorem dX11_holds_167 : decode cX11_holds 167 = .ok (.iload 6, 2) := by decide +kernel
theorem dX11_holds_169 : decode cX11_holds 169 = .ok (.if_icmp .le 7, 3) := by decide +kernel
theorem dX11_holds_172 : decode cX11_holds 172 = .ok (.iconst 1, 1) := by decide +kernel
theorem dX11_holds_173 : decode cX11_holds 173 = .ok (.goto 4, 3) := by decide +kernel
theorem dX11_holds_176 : decode cX11_holds 176 = .ok (.iconst 0, 1) := by decide +kernel
theorem dX11_holds_177 : decode cX11_holds 177 = .ok (.ireturn, 1) := by decide +kernel
theorem dX11_mayLive_0 : decode cX11_mayLive 0 = .ok (.aload_n 0, 1) := by decide +kernel
theorem dX11_mayLive_1 : decode cX11_mayLive 1 = .ok (.getfield 148, 3) := by decide +kernel
theorem dX11_mayLive_4 : decode cX11_mayLive 4 = .ok (.aload_n 0, 1) := by decide +kernel
theorem dX11_mayLive_5 : decode cX11_mayLive 5 = .ok (.getfield 7, 3) := by decide +kernel
theorem dX11_mayLive_8 : decode cX11_mayLive 8 = .ok (.iload_n 2, 1) := by decide +kernel
theorem dX11_mayLive_9 : decode cX11_mayLive 9 = .ok (.iaload, 1) := by decide +kernel
theorem dX11_mayLive_10 : decode cX11_mayLive 10 = .ok (.ishr, 1) := by decide +kernel
theorem dX11_mayLive_11 : decode cX11_mayLive 11 = .ok (.iconst 1, 1) := by decide +kernel
theorem dX11_mayLive_12 : decode cX11_mayLive 12 = .ok (.iand, 1) := by decide +kernel
theorem dX11_mayLive_13 : decode cX11_mayLive 13 = .ok (.iconst 1, 1) := by decide +kernel
theorem dX11_mayLive_14 : decode cX11_mayLive 14 = .ok (.if_icmp .ne 5, 3) := by decide +kernel
theorem dX11_mayLive_17 : decode cX11_mayLive 17 = .ok (.iconst 0, 1) := by decide +kernel
theorem dX11_mayLive_18 : decode cX11_mayLive 18 = .ok (.ireturn, 1) := by decide +kernel
theorem dX11_mayLive_19 : decode cX11_mayLive 19 = .ok (.aload_n 0, 1) := by decide +kernel
theorem dX11_mayLive_20 : decode cX11_mayLive 20 = .ok (.getfield 132, 3) := by decide +kernel
theorem dX11_mayLive_23 : decode cX11_mayLive 23 = .ok (.ifCond .eq 11, 3) := by decide +kernel
theorem dX11_mayLive_26 : decode cX11_mayLive 26 = .ok (.aload_n 0, 1) := by decide +kernel
theorem dX11_mayLive_27 : decode cX11_mayLive 27 = .ok (.invokevirtual 151, 3) := by decide +kernel
theorem dX11_mayLive_30 : decode cX11_mayLive 30 = .ok (.iconst (-1), 1) := by decide +kernel
theorem dX11_mayLive_31 : decode cX11_mayLive 31 = .ok (.if_icmp .eq 5, 3) := by decide +kernel
theorem dX11_mayLive_34 : decode cX11_mayLive 34 = .ok (.iconst 1, 1) := by decide +kernel
theorem dX11_mayLive_35 : decode cX11_mayLive 35 = .ok (.ireturn, 1) := by decide +kernel
theorem dX11_mayLive_36 : decode cX11_mayLive 36 = .ok (.iconst 0, 1) := by decide +kernel
theorem dX11_mayLive_37 : decode cX11_mayLive 37 = .ok (.istore_n 3, 1) := by decide +kernel
theorem dX11_mayLive_38 : decode cX11_mayLive 38 = .ok (.iconst 1, 1) := by decide +kernel
theorem dX11_mayLive_39 : decode cX11_mayLive 39 = .ok (.istore 4, 2) := by decide +kernel
theorem dX11_mayLive_41 : decode cX11_mayLive 41 = .ok (.iconst 0, 1) := by decide +kernel
theorem dX11_mayLive_42 : decode cX11_mayLive 42 = .ok (.istore 5, 2) := by decide +kernel
theorem dX11_mayLive_44 : decode cX11_mayLive 44 = .ok (.iload 5, 2) := by decide +kernel
theorem dX11_mayLive_46 : decode cX11_mayLive 46 = .ok (.aload_n 0, 1) := by decide +kernel
theorem dX11_mayLive_47 : decode cX11_mayLive 47 = .ok (.getfield 132, 3) := by decide +kernel
theorem dX11_mayLive_50 : decode cX11_mayLive 50 = .ok (.if_icmp .ge 110, 3) := by decide +kernel
theorem dX11_mayLive_53 : decode cX11_mayLive 53 = .ok (.iload 5, 2) := by decide +kernel
theorem dX11_mayLive_55 : decode cX11_mayLive 55 = .ok (.iconst 3, 1) := by decide +kernel
theorem dX11_mayLive_56 : decode cX11_mayLive 56 = .ok (.iadd, 1) := by decide +kernel
theorem dX11_mayLive_57 : decode cX11_mayLive 57 = .ok (.istore 6, 2) := by decide +kernel
theorem dX11_mayLive_59 : decode cX11_mayLive 59 = .ok (.iload 6, 2) := by decide +kernel
theorem dX11_mayLive_61 : decode cX11_mayLive 61 = .ok (.aload_n 0, 1) := by decide +kernel
theorem dX11_mayLive_62 : decode cX11_mayLive 62 = .ok (.getfield 132, 3) := by decide +kernel
theorem dX11_mayLive_65 : decode cX11_mayLive 65 = .ok (.if_icmp .ge 22, 3) := by decide +kernel
theorem dX11_mayLive_68 : decode cX11_mayLive 68 = .ok (.aload_n 0, 1) := by decide +kernel
theorem dX11_mayLive_69 : decode cX11_mayLive 69 = .ok (.getfield 44, 3) := by decide +kernel
theorem dX11_mayLive_72 : decode cX11_mayLive 72 = .ok (.iload 6, 2) := by decide +kernel
theorem dX11_mayLive_74 : decode cX11_mayLive 74 = .ok (.iaload, 1) := by decide +kernel
theorem dX11_mayLive_75 : decode cX11_mayLive 75 = .ok (.invokestatic 145, 3) := by decide +kernel
theorem dX11_mayLive_78 : decode cX11_mayLive 78 = .ok (.ifCond .eq 9, 3) := by decide +kernel
theorem dX11_mayLive_81 : decode cX11_mayLive 81 = .ok (.iinc 6 1, 3) := by decide +kernel
theorem dX11_mayLive_84 : decode cX11_mayLive 84 = .ok (.goto (-25), 3) := by decide +kernel
theorem dX11_mayLive_87 : decode cX11_mayLive 87 = .ok (.iload 4, 2) := by decide +kernel
theorem dX11_mayLive_89 : decode cX11_mayLive 89 = .ok (.ifCond .eq 20, 3) := by decide +kernel
theorem dX11_mayLive_92 : decode cX11_mayLive 92 = .ok (.aload_n 0, 1) := by decide +kernel
theorem dX11_mayLive_93 : decode cX11_mayLive 93 = .ok (.iload 5, 2) := by decide +kernel
theorem dX11_mayLive_95 : decode cX11_mayLive 95 = .ok (.iload 6, 2) := by decide +kernel
theorem dX11_mayLive_97 : decode cX11_mayLive 97 = .ok (.iload_n 1, 1) := by decide +kernel
theorem dX11_mayLive_98 : decode cX11_mayLive 98 = .ok (.iload_n 2, 1) := by decide +kernel
theorem dX11_mayLive_99 : decode cX11_mayLive 99 = .ok (.invokevirtual 155, 3) := by decide +kernel
theorem dX11_mayLive_102 : decode cX11_mayLive 102 = .ok (.ifCond .eq 7, 3) := by decide +kernel
theorem dX11_mayLive_105 : decode cX11_mayLive 105 = .ok (.iconst 1, 1) := by decide +kernel
theorem dX11_mayLive_106 : decode cX11_mayLive 106 = .ok (.goto 4, 3) := by decide +kernel
theorem dX11_mayLive_109 : decode cX11_mayLive 109 = .ok (.iconst 0, 1) := by decide +kernel
theorem dX11_mayLive_110 : decode cX11_mayLive 110 = .ok (.istore 4, 2) := by decide +kernel
theorem dX11_mayLive_112 : decode cX11_mayLive 112 = .ok (.iload 6, 2) := by decide +kernel
theorem dX11_mayLive_114 : decode cX11_mayLive 114 = .ok (.aload_n 0, 1) := by decide +kernel
theorem dX11_mayLive_115 : decode cX11_mayLive 115 = .ok (.getfield 132, 3) := by decide +kernel
theorem dX11_mayLive_118 : decode cX11_mayLive 118 = .ok (.if_icmp .eq 15, 3) := by decide +kernel
theorem dX11_mayLive_121 : decode cX11_mayLive 121 = .ok (.aload_n 0, 1) := by decide +kernel
theorem dX11_mayLive_122 : decode cX11_mayLive 122 = .ok (.getfield 44, 3) := by decide +kernel
theorem dX11_mayLive_125 : decode cX11_mayLive 125 = .ok (.iload 6, 2) := by decide +kernel
theorem dX11_mayLive_127 : decode cX11_mayLive 127 = .ok (.iaload, 1) := by decide +kernel
theorem dX11_mayLive_128 : decode cX11_mayLive 128 = .ok (.bipush 124, 2) := by decide +kernel
theorem dX11_mayLive_130 : decode cX11_mayLive 130 = .ok (.if_icmp .ne 21, 3) := by decide +kernel
theorem dX11_mayLive_133 : decode cX11_mayLive 133 = .ok (.iload_n 3, 1) := by decide +kernel
theorem dX11_mayLive_134 : decode cX11_mayLive 134 = .ok (.ifCond .ne 8, 3) := by decide +kernel
theorem dX11_mayLive_137 : decode cX11_mayLive 137 = .ok (.iload 4, 2) := by decide +kernel
theorem dX11_mayLive_139 : decode cX11_mayLive 139 = .ok (.ifCond .eq 7, 3) := by decide +kernel
theorem dX11_mayLive_142 : decode cX11_mayLive 142 = .ok (.iconst 1, 1) := by decide +kernel
theorem dX11_mayLive_143 : decode cX11_mayLive 143 = .ok (.goto 4, 3) := by decide +kernel
theorem dX11_mayLive_146 : decode cX11_mayLive 146 = .ok (.iconst 0, 1) := by decide +kernel
theorem dX11_mayLive_147 : decode cX11_mayLive 147 = .ok (.istore_n 3, 1) := by decide +kernel
theorem dX11_mayLive_148 : decode cX11_mayLive 148 = .ok (.iconst 1, 1) := by decide +kernel
theorem dX11_mayLive_149 : decode cX11_mayLive 149 = .ok (.istore 4, 2) := by decide +kernel
theorem dX11_mayLive_151 : decode cX11_mayLive 151 = .ok (.iload 6, 2) := by decide +kernel
theorem dX11_mayLive_153 : decode cX11_mayLive 153 = .ok (.iconst 1, 1) := by decide +kernel
theorem dX11_mayLive_154 : decode cX11_mayLive 154 = .ok (.iadd, 1) := by decide +kernel
theorem dX11_mayLive_155 : decode cX11_mayLive 155 = .ok (.istore 5, 2) := by decide +kernel
theorem dX11_mayLive_157 : decode cX11_mayLive 157 = .ok (.goto (-113), 3) := by decide +kernel
theorem dX11_mayLive_160 : decode cX11_mayLive 160 = .ok (.iload_n 3, 1) := by decide +kernel
theorem dX11_mayLive_161 : decode cX11_mayLive 161 = .ok (.ireturn, 1) := by decide +kernel
theorem dX11_may_0 : decode cX11_may 0 = .ok (.aload_n 0, 1) := by decide +kernel
theorem dX11_may_1 : decode cX11_may 1 = .ok (.iload_n 1, 1) := by decide +kernel
theorem dX11_may_2 : decode cX11_may 2 = .ok (.invokevirtual 107, 3) := by decide +kernel
theorem dX11_may_5 : decode cX11_may 5 = .ok (.ifCond .eq 11, 3) := by decide +kernel
theorem dX11_may_8 : decode cX11_may 8 = .ok (.aload_n 0, 1) := by decide +kernel
theorem dX11_may_9 : decode cX11_may 9 = .ok (.iload_n 2, 1) := by decide +kernel
theorem dX11_may_10 : decode cX11_may 10 = .ok (.invokevirtual 111, 3) := by decide +kernel
theorem dX11_may_13 : decode cX11_may 13 = .ok (.ifCond .ne 8, 3) := by decide +kernel
theorem dX11_may_16 : decode cX11_may 16 = .ok (.bipush (-2), 2) := by decide +kernel
theorem dX11_may_18 : decode cX11_may 18 = .ok (.goto 17, 3) := by decide +kernel
theorem dX11_may_21 : decode cX11_may 21 = .ok (.aload_n 0, 1) := by decide +kernel
theorem dX11_may_22 : decode cX11_may 22 = .ok (.iload_n 1, 1) := by decide +kernel
theorem dX11_may_23 : decode cX11_may 23 = .ok (.iload_n 2, 1) := by decide +kernel
theorem dX11_may_24 : decode cX11_may 24 = .ok (.invokevirtual 124, 3) := by decide +kernel
theorem dX11_may_27 : decode cX11_may 27 = .ok (.ifCond .eq 7, 3) := by decide +kernel
theorem dX11_may_30 : decode cX11_may 30 = .ok (.iconst 1, 1) := by decide +kernel
theorem dX11_may_31 : decode cX11_may 31 = .ok (.goto 4, 3) := by decide +kernel
theorem dX11_may_34 : decode cX11_may 34 = .ok (.iconst 0, 1) := by decide +kernel
theorem dX11_may_35 : decode cX11_may 35 = .ok (.ireturn, 1) := by decide +kernel
theorem dX11_wrong_0 : decode cX11_wrong 0 = .ok (.iconst 0, 1) := by decide +kernel
theorem dX11_wrong_1 : decode cX11_wrong 1 = .ok (.istore_n 1, 1) := by decide +kernel
theorem dX11_wrong_2 : decode cX11_wrong 2 = .ok (.iconst 0, 1) := by decide +kernel
theorem dX11_wrong_3 : decode cX11_wrong 3 = .ok (.istore_n 2, 1) := by decide +kernel
theorem dX11_wrong_4 : decode cX11_wrong 4 = .ok (.iload_n 2, 1) := by decide +kernel
theorem dX11_wrong_5 : decode cX11_wrong 5 = .ok (.aload_n 0, 1) := by decide +kernel
theorem dX11_wrong_6 : decode cX11_wrong 6 = .ok (.getfield 94, 3) := by decide +kernel
theorem dX11_wrong_9 : decode cX11_wrong 9 = .ok (.if_icmp .ge 43, 3) := by decide +kernel
theorem dX11_wrong_12 : decode cX11_wrong 12 = .ok (.iload_n 1, 1) := by decide +kernel
theorem dX11_wrong_13 : decode cX11_wrong 13 = .ok (.aload_n 0, 1) := by decide +kernel
theorem dX11_wrong_14 : decode cX11_wrong 14 = .ok (.getfield 31, 3) := by decide +kernel
theorem dX11_wrong_17 : decode cX11_wrong 17 = .ok (.iload_n 2, 1) := by decide +kernel
theorem dX11_wrong_18 : decode cX11_wrong 18 = .ok (.iaload, 1) := by decide +kernel
theorem dX11_wrong_19 : decode cX11_wrong 19 = .ok (.iconst (-1), 1) := by decide +kernel
theorem dX11_wrong_20 : decode cX11_wrong 20 = .ok (.if_icmp .eq 23, 3) := by decide +kernel
theorem dX11_wrong_23 : decode cX11_wrong 23 = .ok (.aload_n 0, 1) := by decide +kernel
theorem dX11_wrong_24 : decode cX11_wrong 24 = .ok (.iload_n 2, 1) := by decide +kernel
theorem dX11_wrong_25 : decode cX11_wrong 25 = .ok (.aload_n 0, 1) := by decide +kernel
theorem dX11_wrong_26 : decode cX11_wrong 26 = .ok (.getfield 31, 3) := by decide +kernel
theorem dX11_wrong_29 : decode cX11_wrong 29 = .ok (.iload_n 2, 1) := by decide +kernel
theorem dX11_wrong_30 : decode cX11_wrong 30 = .ok (.iaload, 1) := by decide +kernel
theorem dX11_wrong_31 : decode cX11_wrong 31 = .ok (.invokevirtual 124, 3) := by decide +kernel
theorem dX11_wrong_34 : decode cX11_wrong 34 = .ok (.ifCond .ne 9, 3) := by decide +kernel
theorem dX11_wrong_37 : decode cX11_wrong 37 = .ok (.iconst 1, 1) := by decide +kernel
theorem dX11_wrong_38 : decode cX11_wrong 38 = .ok (.iload_n 2, 1) := by decide +kernel
theorem dX11_wrong_39 : decode cX11_wrong 39 = .ok (.ishl, 1) := by decide +kernel
theorem dX11_wrong_40 : decode cX11_wrong 40 = .ok (.goto 4, 3) := by decide +kernel
theorem dX11_wrong_43 : decode cX11_wrong 43 = .ok (.iconst 0, 1) := by decide +kernel
theorem dX11_wrong_44 : decode cX11_wrong 44 = .ok (.ior, 1) := by decide +kernel
theorem dX11_wrong_45 : decode cX11_wrong 45 = .ok (.istore_n 1, 1) := by decide +kernel
theorem dX11_wrong_46 : decode cX11_wrong 46 = .ok (.iinc 2 1, 3) := by decide +kernel
theorem dX11_wrong_49 : decode cX11_wrong 49 = .ok (.goto (-45), 3) := by decide +kernel
theorem dX11_wrong_52 : decode cX11_wrong 52 = .ok (.iload_n 1, 1) := by decide +kernel
theorem dX11_wrong_53 : decode cX11_wrong 53 = .ok (.ireturn, 1) := by decide +kernel
theorem dX11_draw_0 : decode cX11_draw 0 = .ok (.iload_n 1, 1) := by decide +kernel
theorem dX11_draw_1 : decode cX11_draw 1 = .ok (.istore_n 2, 1) := by decide +kernel
theorem dX11_draw_2 : decode cX11_draw 2 = .ok (.iconst 0, 1) := by decide +kernel
theorem dX11_draw_3 : decode cX11_draw 3 = .ok (.istore_n 3, 1) := by decide +kernel
theorem dX11_draw_4 : decode cX11_draw 4 = .ok (.iload_n 3, 1) := by decide +kernel
theorem dX11_draw_5 : decode cX11_draw 5 = .ok (.aload_n 0, 1) := by decide +kernel
theorem dX11_draw_6 : decode cX11_draw 6 = .ok (.getfield 94, 3) := by decide +kernel
theorem dX11_draw_9 : decode cX11_draw 9 = .ok (.if_icmp .ge 16, 3) := by decide +kernel
theorem dX11_draw_12 : decode cX11_draw 12 = .ok (.aload_n 0, 1) := by decide +kernel
theorem dX11_draw_13 : decode cX11_draw 13 = .ok (.getfield 41, 3) := by decide +kernel
theorem dX11_draw_16 : decode cX11_draw 16 = .ok (.iload_n 3, 1) := by decide +kernel
theorem dX11_draw_17 : decode cX11_draw 17 = .ok (.iload_n 3, 1) := by decide +kernel
theorem dX11_draw_18 : decode cX11_draw 18 = .ok (.iastore, 1) := by decide +kernel
theorem dX11_draw_19 : decode cX11_draw 19 = .ok (.iinc 3 1, 3) := by decide +kernel
theorem dX11_draw_22 : decode cX11_draw 22 = .ok (.goto (-18), 3) := by decide +kernel
theorem dX11_draw_25 : decode cX11_draw 25 = .ok (.aload_n 0, 1) := by decide +kernel
theorem dX11_draw_26 : decode cX11_draw 26 = .ok (.getfield 94, 3) := by decide +kernel
theorem dX11_draw_29 : decode cX11_draw 29 = .ok (.iconst 1, 1) := by decide +kernel
theorem dX11_draw_30 : decode cX11_draw 30 = .ok (.isub, 1) := by decide +kernel
theorem dX11_draw_31 : decode cX11_draw 31 = .ok (.istore_n 3, 1) := by decide +kernel
theorem dX11_draw_32 : decode cX11_draw 32 = .ok (.iload_n 3, 1) := by decide +kernel
theorem dX11_draw_33 : decode cX11_draw 33 = .ok (.ifCond .le 58, 3) := by decide +kernel
theorem dX11_draw_36 : decode cX11_draw 36 = .ok (.ldc 159, 2) := by decide +kernel
theorem dX11_draw_38 : decode cX11_draw 38 = .ok (.iload_n 2, 1) := by decide +kernel
theorem dX11_draw_39 : decode cX11_draw 39 = .ok (.imul, 1) := by decide +kernel
theorem dX11_draw_40 : decode cX11_draw 40 = .ok (.sipush 12345, 3) := by decide +kernel
theorem dX11_draw_43 : decode cX11_draw 43 = .ok (.iadd, 1) := by decide +kernel
theorem dX11_draw_44 : decode cX11_draw 44 = .ok (.istore_n 2, 1) := by decide +kernel
theorem dX11_draw_45 : decode cX11_draw 45 = .ok (.iload_n 2, 1) := by decide +kernel
theorem dX11_draw_46 : decode cX11_draw 46 = .ok (.bipush 16, 2) := by decide +kernel
theorem dX11_draw_48 : decode cX11_draw 48 = .ok (.iushr, 1) := by decide +kernel
theorem dX11_draw_49 : decode cX11_draw 49 = .ok (.iload_n 3, 1) := by decide +kernel
theorem dX11_draw_50 : decode cX11_draw 50 = .ok (.iconst 1, 1) := by decide +kernel
theorem dX11_draw_51 : decode cX11_draw 51 = .ok (.iadd, 1) := by decide +kernel
theorem dX11_draw_52 : decode cX11_draw 52 = .ok (.irem, 1) := by decide +kernel
theorem dX11_draw_53 : decode cX11_draw 53 = .ok (.istore 4, 2) := by decide +kernel
theorem dX11_draw_55 : decode cX11_draw 55 = .ok (.aload_n 0, 1) := by decide +kernel
theorem dX11_draw_56 : decode cX11_draw 56 = .ok (.getfield 41, 3) := by decide +kernel
theorem dX11_draw_59 : decode cX11_draw 59 = .ok (.iload_n 3, 1) := by decide +kernel
theorem dX11_draw_60 : decode cX11_draw 60 = .ok (.iaload, 1) := by decide +kernel
theorem dX11_draw_61 : decode cX11_draw 61 = .ok (.istore 5, 2) := by decide +kernel
theorem dX11_draw_63 : decode cX11_draw 63 = .ok (.aload_n 0, 1) := by decide +kernel
theorem dX11_draw_64 : decode cX11_draw 64 = .ok (.getfield 41, 3) := by decide +kernel
theorem dX11_draw_67 : decode cX11_draw 67 = .ok (.iload_n 3, 1) := by decide +kernel
theorem dX11_draw_68 : decode cX11_draw 68 = .ok (.aload_n 0, 1) := by decide +kernel
theorem dX11_draw_69 : decode cX11_draw 69 = .ok (.getfield 41, 3) := by decide +kernel
theorem dX11_draw_72 : decode cX11_draw 72 = .ok (.iload 4, 2) := by decide +kernel
theorem dX11_draw_74 : decode cX11_draw 74 = .ok (.iaload, 1) := by decide +kernel
theorem dX11_draw_75 : decode cX11_draw 75 = .ok (.iastore, 1) := by decide +kernel
theorem dX11_draw_76 : decode cX11_draw 76 = .ok (.aload_n 0, 1) := by decide +kernel
theorem dX11_draw_77 : decode cX11_draw 77 = .ok (.getfield 41, 3) := by decide +kernel
theorem dX11_draw_80 : decode cX11_draw 80 = .ok (.iload 4, 2) := by decide +kernel
theorem dX11_draw_82 : decode cX11_draw 82 = .ok (.iload 5, 2) := by decide +kernel
theorem dX11_draw_84 : decode cX11_draw 84 = .ok (.iastore, 1) := by decide +kernel
theorem dX11_draw_85 : decode cX11_draw 85 = .ok (.iinc 3 (-1), 3) := by decide +kernel
theorem dX11_draw_88 : decode cX11_draw 88 = .ok (.goto (-56), 3) := by decide +kernel
theorem dX11_draw_91 : decode cX11_draw 91 = .ok (.aload_n 0, 1) := by decide +kernel
theorem dX11_draw_92 : decode cX11_draw 92 = .ok (.getfield 94, 3) := by decide +kernel
theorem dX11_draw_95 : decode cX11_draw 95 = .ok (.ifCond .ne 7, 3) := by decide +kernel
theorem dX11_draw_98 : decode cX11_draw 98 = .ok (.iconst (-1), 1) := by decide +kernel
theorem dX11_draw_99 : decode cX11_draw 99 = .ok (.goto 9, 3) := by decide +kernel
theorem dX11_draw_102 : decode cX11_draw 102 = .ok (.aload_n 0, 1) := by decide +kernel
theorem dX11_draw_103 : decode cX11_draw 103 = .ok (.getfield 41, 3) := by decide +kernel
theorem dX11_draw_106 : decode cX11_draw 106 = .ok (.iconst 0, 1) := by decide +kernel
theorem dX11_draw_107 : decode cX11_draw 107 = .ok (.iaload, 1) := by decide +kernel
theorem dX11_draw_108 : decode cX11_draw 108 = .ok (.ireturn, 1) := by decide +kernel
theorem dX11_change_0 : decode cX11_change 0 = .ok (.aload_n 0, 1) := by decide +kernel
theorem dX11_change_1 : decode cX11_change 1 = .ok (.iload_n 1, 1) := by decide +kernel
theorem dX11_change_2 : decode cX11_change 2 = .ok (.invokevirtual 107, 3) := by decide +kernel
theorem dX11_change_5 : decode cX11_change 5 = .ok (.ifCond .eq 11, 3) := by decide +kernel
theorem dX11_change_8 : decode cX11_change 8 = .ok (.aload_n 0, 1) := by decide +kernel
theorem dX11_change_9 : decode cX11_change 9 = .ok (.iload_n 2, 1) := by decide +kernel
theorem dX11_change_10 : decode cX11_change 10 = .ok (.invokevirtual 107, 3) := by decide +kernel
theorem dX11_change_13 : decode cX11_change 13 = .ok (.ifCond .ne 6, 3) := by decide +kernel
theorem dX11_change_16 : decode cX11_change 16 = .ok (.bipush (-2), 2) := by decide +kernel
theorem dX11_change_18 : decode cX11_change 18 = .ok (.ireturn, 1) := by decide +kernel
theorem dX11_change_19 : decode cX11_change 19 = .ok (.aload_n 0, 1) := by decide +kernel
theorem dX11_change_20 : decode cX11_change 20 = .ok (.getfield 41, 3) := by decide +kernel
theorem dX11_change_23 : decode cX11_change 23 = .ok (.iload_n 1, 1) := by decide +kernel
theorem dX11_change_24 : decode cX11_change 24 = .ok (.iaload, 1) := by decide +kernel
theorem dX11_change_25 : decode cX11_change 25 = .ok (.istore_n 3, 1) := by decide +kernel
theorem dX11_change_26 : decode cX11_change 26 = .ok (.aload_n 0, 1) := by decide +kernel
theorem dX11_change_27 : decode cX11_change 27 = .ok (.getfield 41, 3) := by decide +kernel
theorem dX11_change_30 : decode cX11_change 30 = .ok (.iload_n 1, 1) := by decide +kernel
theorem dX11_change_31 : decode cX11_change 31 = .ok (.aload_n 0, 1) := by decide +kernel
theorem dX11_change_32 : decode cX11_change 32 = .ok (.getfield 41, 3) := by decide +kernel
theorem dX11_change_35 : decode cX11_change 35 = .ok (.iload_n 2, 1) := by decide +kernel
theorem dX11_change_36 : decode cX11_change 36 = .ok (.iaload, 1) := by decide +kernel
theorem dX11_change_37 : decode cX11_change 37 = .ok (.iastore, 1) := by decide +kernel
theorem dX11_change_38 : decode cX11_change 38 = .ok (.aload_n 0, 1) := by decide +kernel
theorem dX11_change_39 : decode cX11_change 39 = .ok (.getfield 41, 3) := by decide +kernel
theorem dX11_change_42 : decode cX11_change 42 = .ok (.iload_n 2, 1) := by decide +kernel
theorem dX11_change_43 : decode cX11_change 43 = .ok (.iload_n 3, 1) := by decide +kernel
theorem dX11_change_44 : decode cX11_change 44 = .ok (.iastore, 1) := by decide +kernel
theorem dX11_change_45 : decode cX11_change 45 = .ok (.iconst 1, 1) := by decide +kernel
theorem dX11_change_46 : decode cX11_change 46 = .ok (.ireturn, 1) := by decide +kernel
theorem dX11_turn_0 : decode cX11_turn 0 = .ok (.aload_n 0, 1) := by decide +kernel
theorem dX11_turn_1 : decode cX11_turn 1 = .ok (.iload_n 1, 1) := by decide +kernel
theorem dX11_turn_2 : decode cX11_turn 2 = .ok (.invokevirtual 107, 3) := by decide +kernel
theorem dX11_turn_5 : decode cX11_turn 5 = .ok (.ifCond .eq 12, 3) := by decide +kernel
theorem dX11_turn_8 : decode cX11_turn 8 = .ok (.aload_n 0, 1) := by decide +kernel
theorem dX11_turn_9 : decode cX11_turn 9 = .ok (.getfield 41, 3) := by decide +kernel
theorem dX11_turn_12 : decode cX11_turn 12 = .ok (.iload_n 1, 1) := by decide +kernel
theorem dX11_turn_13 : decode cX11_turn 13 = .ok (.iaload, 1) := by decide +kernel
theorem dX11_turn_14 : decode cX11_turn 14 = .ok (.goto 5, 3) := by decide +kernel
theorem dX11_turn_17 : decode cX11_turn 17 = .ok (.bipush (-2), 2) := by decide +kernel
theorem dX11_turn_19 : decode cX11_turn 19 = .ok (.ireturn, 1) := by decide +kernel
theorem dX11_housed_0 : decode cX11_housed 0 = .ok (.iconst 0, 1) := by decide +kernel
theorem dX11_housed_1 : decode cX11_housed 1 = .ok (.istore_n 1, 1) := by decide +kernel
theorem dX11_housed_2 : decode cX11_housed 2 = .ok (.iconst 0, 1) := by decide +kernel
theorem dX11_housed_3 : decode cX11_housed 3 = .ok (.istore_n 2, 1) := by decide +kernel
theorem dX11_housed_4 : decode cX11_housed 4 = .ok (.iload_n 2, 1) := by decide +kernel
theorem dX11_housed_5 : decode cX11_housed 5 = .ok (.aload_n 0, 1) := by decide +kernel
theorem dX11_housed_6 : decode cX11_housed 6 = .ok (.getfield 94, 3) := by decide +kernel
theorem dX11_housed_9 : decode cX11_housed 9 = .ok (.if_icmp .ge 27, 3) := by decide +kernel
theorem dX11_housed_12 : decode cX11_housed 12 = .ok (.iload_n 1, 1) := by decide +kernel
theorem dX11_housed_13 : decode cX11_housed 13 = .ok (.aload_n 0, 1) := by decide +kernel
theorem dX11_housed_14 : decode cX11_housed 14 = .ok (.getfield 31, 3) := by decide +kernel
theorem dX11_housed_17 : decode cX11_housed 17 = .ok (.iload_n 2, 1) := by decide +kernel
theorem dX11_housed_18 : decode cX11_housed 18 = .ok (.iaload, 1) := by decide +kernel
theorem dX11_housed_19 : decode cX11_housed 19 = .ok (.iconst (-1), 1) := by decide +kernel
theorem dX11_housed_20 : decode cX11_housed 20 = .ok (.if_icmp .eq 7, 3) := by decide +kernel
theorem dX11_housed_23 : decode cX11_housed 23 = .ok (.iconst 1, 1) := by decide +kernel
theorem dX11_housed_24 : decode cX11_housed 24 = .ok (.goto 4, 3) := by decide +kernel
theorem dX11_housed_27 : decode cX11_housed 27 = .ok (.iconst 0, 1) := by decide +kernel
theorem dX11_housed_28 : decode cX11_housed 28 = .ok (.iadd, 1) := by decide +kernel
theorem dX11_housed_29 : decode cX11_housed 29 = .ok (.istore_n 1, 1) := by decide +kernel
theorem dX11_housed_30 : decode cX11_housed 30 = .ok (.iinc 2 1, 3) := by decide +kernel
theorem dX11_housed_33 : decode cX11_housed 33 = .ok (.goto (-29), 3) := by decide +kernel
theorem dX11_housed_36 : decode cX11_housed 36 = .ok (.iload_n 1, 1) := by decide +kernel
theorem dX11_housed_37 : decode cX11_housed 37 = .ok (.ireturn, 1) := by decide +kernel
theorem dX11_dearest_0 : decode cX11_dearest 0 = .ok (.iconst 0, 1) := by decide +kernel
theorem dX11_dearest_1 : decode cX11_dearest 1 = .ok (.istore_n 2, 1) := by decide +kernel
theorem dX11_dearest_2 : decode cX11_dearest 2 = .ok (.iload_n 2, 1) := by decide +kernel
theorem dX11_dearest_3 : decode cX11_dearest 3 = .ok (.aload_n 0, 1) := by decide +kernel
theorem dX11_dearest_4 : decode cX11_dearest 4 = .ok (.getfield 25, 3) := by decide +kernel
theorem dX11_dearest_7 : decode cX11_dearest 7 = .ok (.iload_n 1, 1) := by decide +kernel
theorem dX11_dearest_8 : decode cX11_dearest 8 = .ok (.iaload, 1) := by decide +kernel
theorem dX11_dearest_9 : decode cX11_dearest 9 = .ok (.if_icmp .ge 60, 3) := by decide +kernel
theorem dX11_dearest_12 : decode cX11_dearest 12 = .ok (.aload_n 0, 1) := by decide +kernel
theorem dX11_dearest_13 : decode cX11_dearest 13 = .ok (.getfield 31, 3) := by decide +kernel
theorem dX11_dearest_16 : decode cX11_dearest 16 = .ok (.iload_n 1, 1) := by decide +kernel
theorem dX11_dearest_17 : decode cX11_dearest 17 = .ok (.iaload, 1) := by decide +kernel
theorem dX11_dearest_18 : decode cX11_dearest 18 = .ok (.iconst (-1), 1) := by decide +kernel
theorem dX11_dearest_19 : decode cX11_dearest 19 = .ok (.if_icmp .ne 50, 3) := by decide +kernel
theorem dX11_dearest_22 : decode cX11_dearest 22 = .ok (.aload_n 0, 1) := by decide +kernel
theorem dX11_dearest_23 : decode cX11_dearest 23 = .ok (.getfield 28, 3) := by decide +kernel
theorem dX11_dearest_26 : decode cX11_dearest 26 = .ok (.bipush 8, 2) := by decide +kernel
theorem dX11_dearest_28 : decode cX11_dearest 28 = .ok (.iload_n 1, 1) := by decide +kernel
theorem dX11_dearest_29 : decode cX11_dearest 29 = .ok (.imul, 1) := by decide +kernel
theorem dX11_dearest_30 : decode cX11_dearest 30 = .ok (.iload_n 2, 1) := by decide +kernel
theorem dX11_dearest_31 : decode cX11_dearest 31 = .ok (.iadd, 1) := by decide +kernel
theorem dX11_dearest_32 : decode cX11_dearest 32 = .ok (.iaload, 1) := by decide +kernel
theorem dX11_dearest_33 : decode cX11_dearest 33 = .ok (.istore_n 3, 1) := by decide +kernel
theorem dX11_dearest_34 : decode cX11_dearest 34 = .ok (.aload_n 0, 1) := by decide +kernel
theorem dX11_dearest_35 : decode cX11_dearest 35 = .ok (.getfield 31, 3) := by decide +kernel
theorem dX11_dearest_38 : decode cX11_dearest 38 = .ok (.iload_n 1, 1) := by decide +kernel
theorem dX11_dearest_39 : decode cX11_dearest 39 = .ok (.aload_n 0, 1) := by decide +kernel
theorem dX11_dearest_40 : decode cX11_dearest 40 = .ok (.iload_n 3, 1) := by decide +kernel
theorem dX11_dearest_41 : decode cX11_dearest 41 = .ok (.invokevirtual 120, 3) := by decide +kernel
theorem dX11_dearest_44 : decode cX11_dearest 44 = .ok (.iconst (-1), 1) := by decide +kernel
theorem dX11_dearest_45 : decode cX11_dearest 45 = .ok (.if_icmp .ne 16, 3) := by decide +kernel
theorem dX11_dearest_48 : decode cX11_dearest 48 = .ok (.aload_n 0, 1) := by decide +kernel
theorem dX11_dearest_49 : decode cX11_dearest 49 = .ok (.iload_n 1, 1) := by decide +kernel
theorem dX11_dearest_50 : decode cX11_dearest 50 = .ok (.iload_n 3, 1) := by decide +kernel
theorem dX11_dearest_51 : decode cX11_dearest 51 = .ok (.invokevirtual 124, 3) := by decide +kernel
theorem dX11_dearest_54 : decode cX11_dearest 54 = .ok (.ifCond .eq 7, 3) := by decide +kernel
theorem dX11_dearest_57 : decode cX11_dearest 57 = .ok (.iload_n 3, 1) := by decide +kernel
theorem dX11_dearest_58 : decode cX11_dearest 58 = .ok (.goto 4, 3) := by decide +kernel
theorem dX11_dearest_61 : decode cX11_dearest 61 = .ok (.iconst (-1), 1) := by decide +kernel
theorem dX11_dearest_62 : decode cX11_dearest 62 = .ok (.iastore, 1) := by decide +kernel
theorem dX11_dearest_63 : decode cX11_dearest 63 = .ok (.iinc 2 1, 3) := by decide +kernel
theorem dX11_dearest_66 : decode cX11_dearest 66 = .ok (.goto (-64), 3) := by decide +kernel
theorem dX11_dearest_69 : decode cX11_dearest 69 = .ok (.return_, 1) := by decide +kernel
theorem dX11_moveInto_0 : decode cX11_moveInto 0 = .ok (.iconst 1, 1) := by decide +kernel
theorem dX11_moveInto_1 : decode cX11_moveInto 1 = .ok (.istore_n 3, 1) := by decide +kernel
theorem dX11_moveInto_2 : decode cX11_moveInto 2 = .ok (.iconst 0, 1) := by decide +kernel
theorem dX11_moveInto_3 : decode cX11_moveInto 3 = .ok (.istore 4, 2) := by decide +kernel
theorem dX11_moveInto_5 : decode cX11_moveInto 5 = .ok (.iload 4, 2) := by decide +kernel
theorem dX11_moveInto_7 : decode cX11_moveInto 7 = .ok (.aload_n 0, 1) := by decide +kernel
theorem dX11_moveInto_8 : decode cX11_moveInto 8 = .ok (.getfield 94, 3) := by decide +kernel
theorem dX11_moveInto_11 : decode cX11_moveInto 11 = .ok (.if_icmp .ge 115, 3) := by decide +kernel
theorem dX11_moveInto_14 : decode cX11_moveInto 14 = .ok (.iload_n 3, 1) := by decide +kernel
theorem dX11_moveInto_15 : decode cX11_moveInto 15 = .ok (.ifCond .eq 111, 3) := by decide +kernel
theorem dX11_moveInto_18 : decode cX11_moveInto 18 = .ok (.aload_n 0, 1) := by decide +kernel
theorem dX11_moveInto_19 : decode cX11_moveInto 19 = .ok (.getfield 22, 3) := by decide +kernel
theorem dX11_moveInto_22 : decode cX11_moveInto 22 = .ok (.iload 4, 2) := by decide +kernel
theorem dX11_moveInto_24 : decode cX11_moveInto 24 = .ok (.iaload, 1) := by decide +kernel
theorem dX11_moveInto_25 : decode cX11_moveInto 25 = .ok (.iload_n 1, 1) := by decide +kernel
theorem dX11_moveInto_26 : decode cX11_moveInto 26 = .ok (.if_icmp .ne 94, 3) := by decide +kernel
theorem dX11_moveInto_29 : decode cX11_moveInto 29 = .ok (.iconst 0, 1) := by decide +kernel
theorem dX11_moveInto_30 : decode cX11_moveInto 30 = .ok (.istore 5, 2) := by decide +kernel
theorem dX11_moveInto_32 : decode cX11_moveInto 32 = .ok (.iload 5, 2) := by decide +kernel
theorem dX11_moveInto_34 : decode cX11_moveInto 34 = .ok (.aload_n 0, 1) := by decide +kernel
theorem dX11_moveInto_35 : decode cX11_moveInto 35 = .ok (.getfield 86, 3) := by decide +kernel
theorem dX11_moveInto_38 : decode cX11_moveInto 38 = .ok (.if_icmp .ge 65, 3) := by decide +kernel
theorem dX11_moveInto_41 : decode cX11_moveInto 41 = .ok (.aload_n 0, 1) := by decide +kernel
theorem dX11_moveInto_42 : decode cX11_moveInto 42 = .ok (.getfield 31, 3) := by decide +kernel
theorem dX11_moveInto_45 : decode cX11_moveInto 45 = .ok (.iload 4, 2) := by decide +kernel
theorem dX11_moveInto_47 : decode cX11_moveInto 47 = .ok (.iaload, 1) := by decide +kernel
theorem dX11_moveInto_48 : decode cX11_moveInto 48 = .ok (.iconst (-1), 1) := by decide +kernel
theorem dX11_moveInto_49 : decode cX11_moveInto 49 = .ok (.if_icmp .ne 54, 3) := by decide +kernel
theorem dX11_moveInto_52 : decode cX11_moveInto 52 = .ok (.aload_n 0, 1) := by decide +kernel
theorem dX11_moveInto_53 : decode cX11_moveInto 53 = .ok (.getfield 31, 3) := by decide +kernel
theorem dX11_moveInto_56 : decode cX11_moveInto 56 = .ok (.iload 4, 2) := by decide +kernel
theorem dX11_moveInto_58 : decode cX11_moveInto 58 = .ok (.aload_n 0, 1) := by decide +kernel
theorem dX11_moveInto_59 : decode cX11_moveInto 59 = .ok (.getfield 7, 3) := by decide +kernel
theorem dX11_moveInto_62 : decode cX11_moveInto 62 = .ok (.iload 5, 2) := by decide +kernel
theorem dX11_moveInto_64 : decode cX11_moveInto 64 = .ok (.iaload, 1) := by decide +kernel
theorem dX11_moveInto_65 : decode cX11_moveInto 65 = .ok (.iload_n 2, 1) := by decide +kernel
theorem dX11_moveInto_66 : decode cX11_moveInto 66 = .ok (.if_icmp .ne 29, 3) := by decide +kernel
theorem dX11_moveInto_69 : decode cX11_moveInto 69 = .ok (.aload_n 0, 1) := by decide +kernel
theorem dX11_moveInto_70 : decode cX11_moveInto 70 = .ok (.iload 5, 2) := by decide +kernel
theorem dX11_moveInto_72 : decode cX11_moveInto 72 = .ok (.invokevirtual 120, 3) := by decide +kernel
theorem dX11_moveInto_75 : decode cX11_moveInto 75 = .ok (.iconst (-1), 1) := by decide +kernel
theorem dX11_moveInto_76 : decode cX11_moveInto 76 = .ok (.if_icmp .ne 19, 3) := by decide +kernel
theorem dX11_moveInto_79 : decode cX11_moveInto 79 = .ok (.aload_n 0, 1) := by decide +kernel
theorem dX11_moveInto_80 : decode cX11_moveInto 80 = .ok (.iload 4, 2) := by decide +kernel
theorem dX11_moveInto_82 : decode cX11_moveInto 82 = .ok (.iload 5, 2) := by decide +kernel
theorem dX11_moveInto_84 : decode cX11_moveInto 84 = .ok (.invokevirtual 124, 3) := by decide +kernel
theorem dX11_moveInto_87 : decode cX11_moveInto 87 = .ok (.ifCond .eq 8, 3) := by decide +kernel
theorem dX11_moveInto_90 : decode cX11_moveInto 90 = .ok (.iload 5, 2) := by decide +kernel
theorem dX11_moveInto_92 : decode cX11_moveInto 92 = .ok (.goto 4, 3) := by decide +kernel
theorem dX11_moveInto_95 : decode cX11_moveInto 95 = .ok (.iconst (-1), 1) := by decide +kernel
theorem dX11_moveInto_96 : decode cX11_moveInto 96 = .ok (.iastore, 1) := by decide +kernel
theorem dX11_moveInto_97 : decode cX11_moveInto 97 = .ok (.iinc 5 1, 3) := by decide +kernel
theorem dX11_moveInto_100 : decode cX11_moveInto 100 = .ok (.goto (-68), 3) := by decide +kernel
theorem dX11_moveInto_103 : decode cX11_moveInto 103 = .ok (.aload_n 0, 1) := by decide +kernel
theorem dX11_moveInto_104 : decode cX11_moveInto 104 = .ok (.getfield 31, 3) := by decide +kernel
theorem dX11_moveInto_107 : decode cX11_moveInto 107 = .ok (.iload 4, 2) := by decide +kernel
theorem dX11_moveInto_109 : decode cX11_moveInto 109 = .ok (.iaload, 1) := by decide +kernel
theorem dX11_moveInto_110 : decode cX11_moveInto 110 = .ok (.iconst (-1), 1) := by decide +kernel
theorem dX11_moveInto_111 : decode cX11_moveInto 111 = .ok (.if_icmp .eq 7, 3) := by decide +kernel
theorem dX11_moveInto_114 : decode cX11_moveInto 114 = .ok (.iconst 1, 1) := by decide +kernel
theorem dX11_moveInto_115 : decode cX11_moveInto 115 = .ok (.goto 4, 3) := by decide +kernel
theorem dX11_moveInto_118 : decode cX11_moveInto 118 = .ok (.iconst 0, 1) := by decide +kernel
theorem dX11_moveInto_119 : decode cX11_moveInto 119 = .ok (.istore_n 3, 1) := by decide +kernel
theorem dX11_moveInto_120 : decode cX11_moveInto 120 = .ok (.iinc 4 1, 3) := by decide +kernel
theorem dX11_moveInto_123 : decode cX11_moveInto 123 = .ok (.goto (-118), 3) := by decide +kernel
theorem dX11_moveInto_126 : decode cX11_moveInto 126 = .ok (.iconst 0, 1) := by decide +kernel
theorem dX11_moveInto_127 : decode cX11_moveInto 127 = .ok (.istore 4, 2) := by decide +kernel
theorem dX11_moveInto_129 : decode cX11_moveInto 129 = .ok (.iload 4, 2) := by decide +kernel
theorem dX11_moveInto_131 : decode cX11_moveInto 131 = .ok (.aload_n 0, 1) := by decide +kernel
theorem dX11_moveInto_132 : decode cX11_moveInto 132 = .ok (.getfield 94, 3) := by decide +kernel
theorem dX11_moveInto_135 : decode cX11_moveInto 135 = .ok (.if_icmp .ge 42, 3) := by decide +kernel
theorem dX11_moveInto_138 : decode cX11_moveInto 138 = .ok (.iload_n 3, 1) := by decide +kernel
theorem dX11_moveInto_139 : decode cX11_moveInto 139 = .ok (.ifCond .ne 38, 3) := by decide +kernel
theorem dX11_moveInto_142 : decode cX11_moveInto 142 = .ok (.aload_n 0, 1) := by decide +kernel
theorem dX11_moveInto_143 : decode cX11_moveInto 143 = .ok (.getfield 31, 3) := by decide +kernel
theorem dX11_moveInto_146 : decode cX11_moveInto 146 = .ok (.iload 4, 2) := by decide +kernel
theorem dX11_moveInto_148 : decode cX11_moveInto 148 = .ok (.aload_n 0, 1) := by decide +kernel
theorem dX11_moveInto_149 : decode cX11_moveInto 149 = .ok (.getfield 22, 3) := by decide +kernel
theorem dX11_moveInto_152 : decode cX11_moveInto 152 = .ok (.iload 4, 2) := by decide +kernel
theorem dX11_moveInto_154 : decode cX11_moveInto 154 = .ok (.iaload, 1) := by decide +kernel
theorem dX11_moveInto_155 : decode cX11_moveInto 155 = .ok (.iload_n 1, 1) := by decide +kernel
theorem dX11_moveInto_156 : decode cX11_moveInto 156 = .ok (.if_icmp .ne 7, 3) := by decide +kernel
theorem dX11_moveInto_159 : decode cX11_moveInto 159 = .ok (.iconst (-1), 1) := by decide +kernel
theorem dX11_moveInto_160 : decode cX11_moveInto 160 = .ok (.goto 10, 3) := by decide +kernel
theorem dX11_moveInto_163 : decode cX11_moveInto 163 = .ok (.aload_n 0, 1) := by decide +kernel
theorem dX11_moveInto_164 : decode cX11_moveInto 164 = .ok (.getfield 31, 3) := by decide +kernel
theorem dX11_moveInto_167 : decode cX11_moveInto 167 = .ok (.iload 4, 2) := by decide +kernel
theorem dX11_moveInto_169 : decode cX11_moveInto 169 = .ok (.iaload, 1) := by decide +kernel
theorem dX11_moveInto_170 : decode cX11_moveInto 170 = .ok (.iastore, 1) := by decide +kernel
theorem dX11_moveInto_171 : decode cX11_moveInto 171 = .ok (.iinc 4 1, 3) := by decide +kernel
theorem dX11_moveInto_174 : decode cX11_moveInto 174 = .ok (.goto (-45), 3) := by decide +kernel
theorem dX11_moveInto_177 : decode cX11_moveInto 177 = .ok (.iload_n 3, 1) := by decide +kernel
theorem dX11_moveInto_178 : decode cX11_moveInto 178 = .ok (.ireturn, 1) := by decide +kernel
theorem dX11_sizeOf_0 : decode cX11_sizeOf 0 = .ok (.iconst 0, 1) := by decide +kernel
theorem dX11_sizeOf_1 : decode cX11_sizeOf 1 = .ok (.istore_n 2, 1) := by decide +kernel
theorem dX11_sizeOf_2 : decode cX11_sizeOf 2 = .ok (.iconst 0, 1) := by decide +kernel
theorem dX11_sizeOf_3 : decode cX11_sizeOf 3 = .ok (.istore_n 3, 1) := by decide +kernel
theorem dX11_sizeOf_4 : decode cX11_sizeOf 4 = .ok (.iload_n 3, 1) := by decide +kernel
theorem dX11_sizeOf_5 : decode cX11_sizeOf 5 = .ok (.aload_n 0, 1) := by decide +kernel
theorem dX11_sizeOf_6 : decode cX11_sizeOf 6 = .ok (.getfield 94, 3) := by decide +kernel
theorem dX11_sizeOf_9 : decode cX11_sizeOf 9 = .ok (.if_icmp .ge 27, 3) := by decide +kernel
theorem dX11_sizeOf_12 : decode cX11_sizeOf 12 = .ok (.iload_n 2, 1) := by decide +kernel
theorem dX11_sizeOf_13 : decode cX11_sizeOf 13 = .ok (.aload_n 0, 1) := by decide +kernel
theorem dX11_sizeOf_14 : decode cX11_sizeOf 14 = .ok (.getfield 22, 3) := by decide +kernel
theorem dX11_sizeOf_17 : decode cX11_sizeOf 17 = .ok (.iload_n 3, 1) := by decide +kernel
theorem dX11_sizeOf_18 : decode cX11_sizeOf 18 = .ok (.iaload, 1) := by decide +kernel
theorem dX11_sizeOf_19 : decode cX11_sizeOf 19 = .ok (.iload_n 1, 1) := by decide +kernel
theorem dX11_sizeOf_20 : decode cX11_sizeOf 20 = .ok (.if_icmp .ne 7, 3) := by decide +kernel
theorem dX11_sizeOf_23 : decode cX11_sizeOf 23 = .ok (.iconst 1, 1) := by decide +kernel
theorem dX11_sizeOf_24 : decode cX11_sizeOf 24 = .ok (.goto 4, 3) := by decide +kernel
theorem dX11_sizeOf_27 : decode cX11_sizeOf 27 = .ok (.iconst 0, 1) := by decide +kernel
theorem dX11_sizeOf_28 : decode cX11_sizeOf 28 = .ok (.iadd, 1) := by decide +kernel
theorem dX11_sizeOf_29 : decode cX11_sizeOf 29 = .ok (.istore_n 2, 1) := by decide +kernel
theorem dX11_sizeOf_30 : decode cX11_sizeOf 30 = .ok (.iinc 3 1, 3) := by decide +kernel
theorem dX11_sizeOf_33 : decode cX11_sizeOf 33 = .ok (.goto (-29), 3) := by decide +kernel
theorem dX11_sizeOf_36 : decode cX11_sizeOf 36 = .ok (.iload_n 2, 1) := by decide +kernel
theorem dX11_sizeOf_37 : decode cX11_sizeOf 37 = .ok (.ireturn, 1) := by decide +kernel
theorem dX11_deal_0 : decode cX11_deal 0 = .ok (.iconst 0, 1) := by decide +kernel
theorem dX11_deal_1 : decode cX11_deal 1 = .ok (.istore_n 1, 1) := by decide +kernel
theorem dX11_deal_2 : decode cX11_deal 2 = .ok (.iload_n 1, 1) := by decide +kernel
theorem dX11_deal_3 : decode cX11_deal 3 = .ok (.aload_n 0, 1) := by decide +kernel
theorem dX11_deal_4 : decode cX11_deal 4 = .ok (.getfield 94, 3) := by decide +kernel
theorem dX11_deal_7 : decode cX11_deal 7 = .ok (.if_icmp .ge 16, 3) := by decide +kernel
theorem dX11_deal_10 : decode cX11_deal 10 = .ok (.aload_n 0, 1) := by decide +kernel
theorem dX11_deal_11 : decode cX11_deal 11 = .ok (.getfield 31, 3) := by decide +kernel
theorem dX11_deal_14 : decode cX11_deal 14 = .ok (.iload_n 1, 1) := by decide +kernel
theorem dX11_deal_15 : decode cX11_deal 15 = .ok (.iconst (-1), 1) := by decide +kernel
theorem dX11_deal_16 : decode cX11_deal 16 = .ok (.iastore, 1) := by decide +kernel
theorem dX11_deal_17 : decode cX11_deal 17 = .ok (.iinc 1 1, 3) := by decide +kernel
theorem dX11_deal_20 : decode cX11_deal 20 = .ok (.goto (-18), 3) := by decide +kernel
theorem dX11_deal_23 : decode cX11_deal 23 = .ok (.iconst 0, 1) := by decide +kernel
theorem dX11_deal_24 : decode cX11_deal 24 = .ok (.istore_n 1, 1) := by decide +kernel
theorem dX11_deal_25 : decode cX11_deal 25 = .ok (.iconst 0, 1) := by decide +kernel
theorem dX11_deal_26 : decode cX11_deal 26 = .ok (.istore_n 2, 1) := by decide +kernel
theorem dX11_deal_27 : decode cX11_deal 27 = .ok (.iload_n 2, 1) := by decide +kernel
theorem dX11_deal_28 : decode cX11_deal 28 = .ok (.aload_n 0, 1) := by decide +kernel
theorem dX11_deal_29 : decode cX11_deal 29 = .ok (.getfield 94, 3) := by decide +kernel
theorem dX11_deal_32 : decode cX11_deal 32 = .ok (.if_icmp .ge 171, 3) := by decide +kernel
theorem dX11_deal_35 : decode cX11_deal 35 = .ok (.aload_n 0, 1) := by decide +kernel
theorem dX11_deal_36 : decode cX11_deal 36 = .ok (.getfield 41, 3) := by decide +kernel
theorem dX11_deal_39 : decode cX11_deal 39 = .ok (.iload_n 2, 1) := by decide +kernel
theorem dX11_deal_40 : decode cX11_deal 40 = .ok (.iaload, 1) := by decide +kernel
theorem dX11_deal_41 : decode cX11_deal 41 = .ok (.istore_n 3, 1) := by decide +kernel
theorem dX11_deal_42 : decode cX11_deal 42 = .ok (.iload_n 1, 1) := by decide +kernel
theorem dX11_deal_43 : decode cX11_deal 43 = .ok (.iload_n 3, 1) := by decide +kernel
theorem dX11_deal_44 : decode cX11_deal 44 = .ok (.ishr, 1) := by decide +kernel
theorem dX11_deal_45 : decode cX11_deal 45 = .ok (.iconst 1, 1) := by decide +kernel
theorem dX11_deal_46 : decode cX11_deal 46 = .ok (.iand, 1) := by decide +kernel
theorem dX11_deal_47 : decode cX11_deal 47 = .ok (.ifCond .ne 150, 3) := by decide +kernel
theorem dX11_deal_50 : decode cX11_deal 50 = .ok (.iload_n 1, 1) := by decide +kernel
theorem dX11_deal_51 : decode cX11_deal 51 = .ok (.iconst 1, 1) := by decide +kernel
theorem dX11_deal_52 : decode cX11_deal 52 = .ok (.iload_n 3, 1) := by decide +kernel
theorem dX11_deal_53 : decode cX11_deal 53 = .ok (.ishl, 1) := by decide +kernel
theorem dX11_deal_54 : decode cX11_deal 54 = .ok (.ior, 1) := by decide +kernel
theorem dX11_deal_55 : decode cX11_deal 55 = .ok (.istore_n 1, 1) := by decide +kernel
theorem dX11_deal_56 : decode cX11_deal 56 = .ok (.aload_n 0, 1) := by decide +kernel
theorem dX11_deal_57 : decode cX11_deal 57 = .ok (.getfield 22, 3) := by decide +kernel
theorem dX11_deal_60 : decode cX11_deal 60 = .ok (.iload_n 3, 1) := by decide +kernel
theorem dX11_deal_61 : decode cX11_deal 61 = .ok (.iaload, 1) := by decide +kernel
theorem dX11_deal_62 : decode cX11_deal 62 = .ok (.iconst (-1), 1) := by decide +kernel
theorem dX11_deal_63 : decode cX11_deal 63 = .ok (.if_icmp .eq 17, 3) := by decide +kernel
theorem dX11_deal_66 : decode cX11_deal 66 = .ok (.aload_n 0, 1) := by decide +kernel
theorem dX11_deal_67 : decode cX11_deal 67 = .ok (.aload_n 0, 1) := by decide +kernel
theorem dX11_deal_68 : decode cX11_deal 68 = .ok (.getfield 22, 3) := by decide +kernel
theorem dX11_deal_71 : decode cX11_deal 71 = .ok (.iload_n 3, 1) := by decide +kernel
theorem dX11_deal_72 : decode cX11_deal 72 = .ok (.iaload, 1) := by decide +kernel
theorem dX11_deal_73 : decode cX11_deal 73 = .ok (.invokevirtual 160, 3) := by decide +kernel
theorem dX11_deal_76 : decode cX11_deal 76 = .ok (.iconst 1, 1) := by decide +kernel
theorem dX11_deal_77 : decode cX11_deal 77 = .ok (.if_icmp .ne 11, 3) := by decide +kernel
theorem dX11_deal_80 : decode cX11_deal 80 = .ok (.aload_n 0, 1) := by decide +kernel
theorem dX11_deal_81 : decode cX11_deal 81 = .ok (.iload_n 3, 1) := by decide +kernel
theorem dX11_deal_82 : decode cX11_deal 82 = .ok (.invokevirtual 163, 3) := by decide +kernel
theorem dX11_deal_85 : decode cX11_deal 85 = .ok (.goto 112, 3) := by decide +kernel
theorem dX11_deal_88 : decode cX11_deal 88 = .ok (.iconst 0, 1) := by decide +kernel
theorem dX11_deal_89 : decode cX11_deal 89 = .ok (.istore 4, 2) := by decide +kernel
theorem dX11_deal_91 : decode cX11_deal 91 = .ok (.iconst 0, 1) := by decide +kernel
theorem dX11_deal_92 : decode cX11_deal 92 = .ok (.istore 5, 2) := by decide +kernel
theorem dX11_deal_94 : decode cX11_deal 94 = .ok (.iload 5, 2) := by decide +kernel
theorem dX11_deal_96 : decode cX11_deal 96 = .ok (.aload_n 0, 1) := by decide +kernel
theorem dX11_deal_97 : decode cX11_deal 97 = .ok (.getfield 25, 3) := by decide +kernel
theorem dX11_deal_100 : decode cX11_deal 100 = .ok (.iload_n 3, 1) := by decide +kernel
theorem dX11_deal_101 : decode cX11_deal 101 = .ok (.iaload, 1) := by decide +kernel
theorem dX11_deal_102 : decode cX11_deal 102 = .ok (.if_icmp .ge 43, 3) := by decide +kernel
theorem dX11_deal_105 : decode cX11_deal 105 = .ok (.iload 4, 2) := by decide +kernel
theorem dX11_deal_107 : decode cX11_deal 107 = .ok (.ifCond .ne 38, 3) := by decide +kernel
theorem dX11_deal_110 : decode cX11_deal 110 = .ok (.aload_n 0, 1) := by decide +kernel
theorem dX11_deal_111 : decode cX11_deal 111 = .ok (.aload_n 0, 1) := by decide +kernel
theorem dX11_deal_112 : decode cX11_deal 112 = .ok (.getfield 22, 3) := by decide +kernel
theorem dX11_deal_115 : decode cX11_deal 115 = .ok (.iload_n 3, 1) := by decide +kernel
theorem dX11_deal_116 : decode cX11_deal 116 = .ok (.iaload, 1) := by decide +kernel
theorem dX11_deal_117 : decode cX11_deal 117 = .ok (.aload_n 0, 1) := by decide +kernel
theorem dX11_deal_118 : decode cX11_deal 118 = .ok (.getfield 7, 3) := by decide +kernel
theorem dX11_deal_121 : decode cX11_deal 121 = .ok (.aload_n 0, 1) := by decide +kernel
theorem dX11_deal_122 : decode cX11_deal 122 = .ok (.getfield 28, 3) := by decide +kernel
theorem dX11_deal_125 : decode cX11_deal 125 = .ok (.bipush 8, 2) := by decide +kernel
theorem dX11_deal_127 : decode cX11_deal 127 = .ok (.iload_n 3, 1) := by decide +kernel
theorem dX11_deal_128 : decode cX11_deal 128 = .ok (.imul, 1) := by decide +kernel
theorem dX11_deal_129 : decode cX11_deal 129 = .ok (.iload 5, 2) := by decide +kernel
theorem dX11_deal_131 : decode cX11_deal 131 = .ok (.iadd, 1) := by decide +kernel
theorem dX11_deal_132 : decode cX11_deal 132 = .ok (.iaload, 1) := by decide +kernel
theorem dX11_deal_133 : decode cX11_deal 133 = .ok (.iaload, 1) := by decide +kernel
theorem dX11_deal_134 : decode cX11_deal 134 = .ok (.invokevirtual 167, 3) := by decide +kernel
theorem dX11_deal_137 : decode cX11_deal 137 = .ok (.istore 4, 2) := by decide +kernel
theorem dX11_deal_139 : decode cX11_deal 139 = .ok (.iinc 5 1, 3) := by decide +kernel
theorem dX11_deal_142 : decode cX11_deal 142 = .ok (.goto (-48), 3) := by decide +kernel
theorem dX11_deal_145 : decode cX11_deal 145 = .ok (.iconst 0, 1) := by decide +kernel
theorem dX11_deal_146 : decode cX11_deal 146 = .ok (.istore 5, 2) := by decide +kernel
theorem dX11_deal_148 : decode cX11_deal 148 = .ok (.iload 5, 2) := by decide +kernel
theorem dX11_deal_150 : decode cX11_deal 150 = .ok (.aload_n 0, 1) := by decide +kernel
theorem dX11_deal_151 : decode cX11_deal 151 = .ok (.getfield 94, 3) := by decide +kernel
theorem dX11_deal_154 : decode cX11_deal 154 = .ok (.if_icmp .ge 43, 3) := by decide +kernel
theorem dX11_deal_157 : decode cX11_deal 157 = .ok (.aload_n 0, 1) := by decide +kernel
theorem dX11_deal_158 : decode cX11_deal 158 = .ok (.getfield 22, 3) := by decide +kernel
theorem dX11_deal_161 : decode cX11_deal 161 = .ok (.iload 5, 2) := by decide +kernel
theorem dX11_deal_163 : decode cX11_deal 163 = .ok (.iaload, 1) := by decide +kernel
theorem dX11_deal_164 : decode cX11_deal 164 = .ok (.aload_n 0, 1) := by decide +kernel
theorem dX11_deal_165 : decode cX11_deal 165 = .ok (.getfield 22, 3) := by decide +kernel
theorem dX11_deal_168 : decode cX11_deal 168 = .ok (.iload_n 3, 1) := by decide +kernel
theorem dX11_deal_169 : decode cX11_deal 169 = .ok (.iaload, 1) := by decide +kernel
theorem dX11_deal_170 : decode cX11_deal 170 = .ok (.if_icmp .ne 21, 3) := by decide +kernel
theorem dX11_deal_173 : decode cX11_deal 173 = .ok (.iload_n 1, 1) := by decide +kernel
theorem dX11_deal_174 : decode cX11_deal 174 = .ok (.iconst 1, 1) := by decide +kernel
theorem dX11_deal_175 : decode cX11_deal 175 = .ok (.iload 5, 2) := by decide +kernel
theorem dX11_deal_177 : decode cX11_deal 177 = .ok (.ishl, 1) := by decide +kernel
theorem dX11_deal_178 : decode cX11_deal 178 = .ok (.ior, 1) := by decide +kernel
theorem dX11_deal_179 : decode cX11_deal 179 = .ok (.istore_n 1, 1) := by decide +kernel
theorem dX11_deal_180 : decode cX11_deal 180 = .ok (.iload 4, 2) := by decide +kernel
theorem dX11_deal_182 : decode cX11_deal 182 = .ok (.ifCond .ne 9, 3) := by decide +kernel
theorem dX11_deal_185 : decode cX11_deal 185 = .ok (.aload_n 0, 1) := by decide +kernel
theorem dX11_deal_186 : decode cX11_deal 186 = .ok (.iload 5, 2) := by decide +kernel
theorem dX11_deal_188 : decode cX11_deal 188 = .ok (.invokevirtual 163, 3) := by decide +kernel
theorem dX11_deal_191 : decode cX11_deal 191 = .ok (.iinc 5 1, 3) := by decide +kernel
theorem dX11_deal_194 : decode cX11_deal 194 = .ok (.goto (-46), 3) := by decide +kernel
theorem dX11_deal_197 : decode cX11_deal 197 = .ok (.iinc 2 1, 3) := by decide +kernel
theorem dX11_deal_200 : decode cX11_deal 200 = .ok (.goto (-173), 3) := by decide +kernel
theorem dX11_deal_203 : decode cX11_deal 203 = .ok (.aload_n 0, 1) := by decide +kernel
theorem dX11_deal_204 : decode cX11_deal 204 = .ok (.invokevirtual 170, 3) := by decide +kernel
theorem dX11_deal_207 : decode cX11_deal 207 = .ok (.ireturn, 1) := by decide +kernel
theorem dX11_pointOf_0 : decode cX11_pointOf 0 = .ok (.iconst 0, 1) := by decide +kernel
theorem dX11_pointOf_1 : decode cX11_pointOf 1 = .ok (.istore_n 3, 1) := by decide +kernel
theorem dX11_pointOf_2 : decode cX11_pointOf 2 = .ok (.iload_n 3, 1) := by decide +kernel
theorem dX11_pointOf_3 : decode cX11_pointOf 3 = .ok (.aload_n 0, 1) := by decide +kernel
theorem dX11_pointOf_4 : decode cX11_pointOf 4 = .ok (.getfield 25, 3) := by decide +kernel
theorem dX11_pointOf_7 : decode cX11_pointOf 7 = .ok (.iload_n 1, 1) := by decide +kernel
theorem dX11_pointOf_8 : decode cX11_pointOf 8 = .ok (.iaload, 1) := by decide +kernel
theorem dX11_pointOf_9 : decode cX11_pointOf 9 = .ok (.if_icmp .ge 72, 3) := by decide +kernel
theorem dX11_pointOf_12 : decode cX11_pointOf 12 = .ok (.aload_n 0, 1) := by decide +kernel
theorem dX11_pointOf_13 : decode cX11_pointOf 13 = .ok (.getfield 28, 3) := by decide +kernel
theorem dX11_pointOf_16 : decode cX11_pointOf 16 = .ok (.bipush 8, 2) := by decide +kernel
theorem dX11_pointOf_18 : decode cX11_pointOf 18 = .ok (.iload_n 1, 1) := by decide +kernel
theorem dX11_pointOf_19 : decode cX11_pointOf 19 = .ok (.imul, 1) := by decide +kernel
theorem dX11_pointOf_20 : decode cX11_pointOf 20 = .ok (.iload_n 3, 1) := by decide +kernel
theorem dX11_pointOf_21 : decode cX11_pointOf 21 = .ok (.iadd, 1) := by decide +kernel
theorem dX11_pointOf_22 : decode cX11_pointOf 22 = .ok (.iaload, 1) := by decide +kernel
theorem dX11_pointOf_23 : decode cX11_pointOf 23 = .ok (.istore 4, 2) := by decide +kernel
theorem dX11_pointOf_25 : decode cX11_pointOf 25 = .ok (.iload 4, 2) := by decide +kernel
theorem dX11_pointOf_27 : decode cX11_pointOf 27 = .ok (.aload_n 0, 1) := by decide +kernel
theorem dX11_pointOf_28 : decode cX11_pointOf 28 = .ok (.getfield 31, 3) := by decide +kernel
theorem dX11_pointOf_31 : decode cX11_pointOf 31 = .ok (.iload_n 1, 1) := by decide +kernel
theorem dX11_pointOf_32 : decode cX11_pointOf 32 = .ok (.iaload, 1) := by decide +kernel
theorem dX11_pointOf_33 : decode cX11_pointOf 33 = .ok (.if_icmp .ne 5, 3) := by decide +kernel
theorem dX11_pointOf_36 : decode cX11_pointOf 36 = .ok (.iload_n 1, 1) := by decide +kernel
theorem dX11_pointOf_37 : decode cX11_pointOf 37 = .ok (.ireturn, 1) := by decide +kernel
theorem dX11_pointOf_38 : decode cX11_pointOf 38 = .ok (.aload_n 0, 1) := by decide +kernel
theorem dX11_pointOf_39 : decode cX11_pointOf 39 = .ok (.iload 4, 2) := by decide +kernel
theorem dX11_pointOf_41 : decode cX11_pointOf 41 = .ok (.invokevirtual 120, 3) := by decide +kernel
theorem dX11_pointOf_44 : decode cX11_pointOf 44 = .ok (.istore 5, 2) := by decide +kernel
theorem dX11_pointOf_46 : decode cX11_pointOf 46 = .ok (.iload 5, 2) := by decide +kernel
theorem dX11_pointOf_48 : decode cX11_pointOf 48 = .ok (.iconst (-1), 1) := by decide +kernel
theorem dX11_pointOf_49 : decode cX11_pointOf 49 = .ok (.if_icmp .eq 26, 3) := by decide +kernel
theorem dX11_pointOf_52 : decode cX11_pointOf 52 = .ok (.iload_n 2, 1) := by decide +kernel
theorem dX11_pointOf_53 : decode cX11_pointOf 53 = .ok (.iload 5, 2) := by decide +kernel
theorem dX11_pointOf_55 : decode cX11_pointOf 55 = .ok (.ishr, 1) := by decide +kernel
theorem dX11_pointOf_56 : decode cX11_pointOf 56 = .ok (.iconst 1, 1) := by decide +kernel
theorem dX11_pointOf_57 : decode cX11_pointOf 57 = .ok (.iand, 1) := by decide +kernel
theorem dX11_pointOf_58 : decode cX11_pointOf 58 = .ok (.iconst 1, 1) := by decide +kernel
theorem dX11_pointOf_59 : decode cX11_pointOf 59 = .ok (.if_icmp .ne 16, 3) := by decide +kernel
theorem dX11_pointOf_62 : decode cX11_pointOf 62 = .ok (.aload_n 0, 1) := by decide +kernel
theorem dX11_pointOf_63 : decode cX11_pointOf 63 = .ok (.iload_n 1, 1) := by decide +kernel
theorem dX11_pointOf_64 : decode cX11_pointOf 64 = .ok (.iload 4, 2) := by decide +kernel
theorem dX11_pointOf_66 : decode cX11_pointOf 66 = .ok (.invokevirtual 124, 3) := by decide +kernel
theorem dX11_pointOf_69 : decode cX11_pointOf 69 = .ok (.ifCond .eq 6, 3) := by decide +kernel
theorem dX11_pointOf_72 : decode cX11_pointOf 72 = .ok (.iload 5, 2) := by decide +kernel
theorem dX11_pointOf_74 : decode cX11_pointOf 74 = .ok (.ireturn, 1) := by decide +kernel
theorem dX11_pointOf_75 : decode cX11_pointOf 75 = .ok (.iinc 3 1, 3) := by decide +kernel
theorem dX11_pointOf_78 : decode cX11_pointOf 78 = .ok (.goto (-76), 3) := by decide +kernel
theorem dX11_pointOf_81 : decode cX11_pointOf 81 = .ok (.iload_n 1, 1) := by decide +kernel
theorem dX11_pointOf_82 : decode cX11_pointOf 82 = .ok (.ireturn, 1) := by decide +kernel
theorem dX11_trade_0 : decode cX11_trade 0 = .ok (.iconst 0, 1) := by decide +kernel
theorem dX11_trade_1 : decode cX11_trade 1 = .ok (.istore_n 1, 1) := by decide +kernel
theorem dX11_trade_2 : decode cX11_trade 2 = .ok (.iconst 0, 1) := by decide +kernel
theorem dX11_trade_3 : decode cX11_trade 3 = .ok (.istore_n 2, 1) := by decide +kernel
theorem dX11_trade_4 : decode cX11_trade 4 = .ok (.iload_n 2, 1) := by decide +kernel
theorem dX11_trade_5 : decode cX11_trade 5 = .ok (.aload_n 0, 1) := by decide +kernel
theorem dX11_trade_6 : decode cX11_trade 6 = .ok (.getfield 94, 3) := by decide +kernel
theorem dX11_trade_9 : decode cX11_trade 9 = .ok (.if_icmp .ge 55, 3) := by decide +kernel
theorem dX11_trade_12 : decode cX11_trade 12 = .ok (.aload_n 0, 1) := by decide +kernel
theorem dX11_trade_13 : decode cX11_trade 13 = .ok (.getfield 53, 3) := by decide +kernel
theorem dX11_trade_16 : decode cX11_trade 16 = .ok (.iload_n 2, 1) := by decide +kernel
theorem dX11_trade_17 : decode cX11_trade 17 = .ok (.aload_n 0, 1) := by decide +kernel
theorem dX11_trade_18 : decode cX11_trade 18 = .ok (.getfield 31, 3) := by decide +kernel
theorem dX11_trade_21 : decode cX11_trade 21 = .ok (.iload_n 2, 1) := by decide +kernel
theorem dX11_trade_22 : decode cX11_trade 22 = .ok (.iaload, 1) := by decide +kernel
theorem dX11_trade_23 : decode cX11_trade 23 = .ok (.iastore, 1) := by decide +kernel
theorem dX11_trade_24 : decode cX11_trade 24 = .ok (.iload_n 1, 1) := by decide +kernel
theorem dX11_trade_25 : decode cX11_trade 25 = .ok (.aload_n 0, 1) := by decide +kernel
theorem dX11_trade_26 : decode cX11_trade 26 = .ok (.getfield 31, 3) := by decide +kernel
theorem dX11_trade_29 : decode cX11_trade 29 = .ok (.iload_n 2, 1) := by decide +kernel
theorem dX11_trade_30 : decode cX11_trade 30 = .ok (.iaload, 1) := by decide +kernel
theorem dX11_trade_31 : decode cX11_trade 31 = .ok (.iconst (-1), 1) := by decide +kernel
theorem dX11_trade_32 : decode cX11_trade 32 = .ok (.if_icmp .eq 23, 3) := by decide +kernel
theorem dX11_trade_35 : decode cX11_trade 35 = .ok (.aload_n 0, 1) := by decide +kernel
theorem dX11_trade_36 : decode cX11_trade 36 = .ok (.iload_n 2, 1) := by decide +kernel
theorem dX11_trade_37 : decode cX11_trade 37 = .ok (.aload_n 0, 1) := by decide +kernel
theorem dX11_trade_38 : decode cX11_trade 38 = .ok (.getfield 31, 3) := by decide +kernel
theorem dX11_trade_41 : decode cX11_trade 41 = .ok (.iload_n 2, 1) := by decide +kernel
theorem dX11_trade_42 : decode cX11_trade 42 = .ok (.iaload, 1) := by decide +kernel
theorem dX11_trade_43 : decode cX11_trade 43 = .ok (.invokevirtual 124, 3) := by decide +kernel
theorem dX11_trade_46 : decode cX11_trade 46 = .ok (.ifCond .eq 9, 3) := by decide +kernel
theorem dX11_trade_49 : decode cX11_trade 49 = .ok (.iconst 1, 1) := by decide +kernel
theorem dX11_trade_50 : decode cX11_trade 50 = .ok (.iload_n 2, 1) := by decide +kernel
theorem dX11_trade_51 : decode cX11_trade 51 = .ok (.ishl, 1) := by decide +kernel
theorem dX11_trade_52 : decode cX11_trade 52 = .ok (.goto 4, 3) := by decide +kernel
theorem dX11_trade_55 : decode cX11_trade 55 = .ok (.iconst 0, 1) := by decide +kernel
theorem dX11_trade_56 : decode cX11_trade 56 = .ok (.ior, 1) := by decide +kernel
theorem dX11_trade_57 : decode cX11_trade 57 = .ok (.istore_n 1, 1) := by decide +kernel
theorem dX11_trade_58 : decode cX11_trade 58 = .ok (.iinc 2 1, 3) := by decide +kernel
theorem dX11_trade_61 : decode cX11_trade 61 = .ok (.goto (-57), 3) := by decide +kernel
theorem dX11_trade_64 : decode cX11_trade 64 = .ok (.iconst 0, 1) := by decide +kernel
theorem dX11_trade_65 : decode cX11_trade 65 = .ok (.istore_n 2, 1) := by decide +kernel
theorem dX11_trade_66 : decode cX11_trade 66 = .ok (.iconst 0, 1) := by decide +kernel
theorem dX11_trade_67 : decode cX11_trade 67 = .ok (.istore_n 3, 1) := by decide +kernel
theorem dX11_trade_68 : decode cX11_trade 68 = .ok (.iconst 0, 1) := by decide +kernel
theorem dX11_trade_69 : decode cX11_trade 69 = .ok (.istore 4, 2) := by decide +kernel
theorem dX11_trade_71 : decode cX11_trade 71 = .ok (.iload_n 1, 1) := by decide +kernel
theorem dX11_trade_72 : decode cX11_trade 72 = .ok (.ifCond .eq 255, 3) := by decide +kernel
theorem dX11_trade_75 : decode cX11_trade 75 = .ok (.iinc 4 1, 3) := by decide +kernel
theorem dX11_trade_78 : decode cX11_trade 78 = .ok (.iconst 0, 1) := by decide +kernel
theorem dX11_trade_79 : decode cX11_trade 79 = .ok (.istore 5, 2) := by decide +kernel
theorem dX11_trade_81 : decode cX11_trade 81 = .ok (.iload 5, 2) := by decide +kernel
theorem dX11_trade_83 : decode cX11_trade 83 = .ok (.aload_n 0, 1) := by decide +kernel
theorem dX11_trade_84 : decode cX11_trade 84 = .ok (.getfield 94, 3) := by decide +kernel
theorem dX11_trade_87 : decode cX11_trade 87 = .ok (.if_icmp .ge 37, 3) := by decide +kernel
theorem dX11_trade_90 : decode cX11_trade 90 = .ok (.aload_n 0, 1) := by decide +kernel
theorem dX11_trade_91 : decode cX11_trade 91 = .ok (.getfield 50, 3) := by decide +kernel
theorem dX11_trade_94 : decode cX11_trade 94 = .ok (.iload 5, 2) := by decide +kernel
theorem dX11_trade_96 : decode cX11_trade 96 = .ok (.iload_n 1, 1) := by decide +kernel
theorem dX11_trade_97 : decode cX11_trade 97 = .ok (.iload 5, 2) := by decide +kernel
theorem dX11_trade_99 : decode cX11_trade 99 = .ok (.ishr, 1) := by decide +kernel
theorem dX11_trade_100 : decode cX11_trade 100 = .ok (.iconst 1, 1) := by decide +kernel
theorem dX11_trade_101 : decode cX11_trade 101 = .ok (.iand, 1) := by decide +kernel
theorem dX11_trade_102 : decode cX11_trade 102 = .ok (.iconst 1, 1) := by decide +kernel
theorem dX11_trade_103 : decode cX11_trade 103 = .ok (.if_icmp .ne 13, 3) := by decide +kernel
theorem dX11_trade_106 : decode cX11_trade 106 = .ok (.aload_n 0, 1) := by decide +kernel
theorem dX11_trade_107 : decode cX11_trade 107 = .ok (.iload 5, 2) := by decide +kernel
theorem dX11_trade_109 : decode cX11_trade 109 = .ok (.iload_n 1, 1) := by decide +kernel
theorem dX11_trade_110 : decode cX11_trade 110 = .ok (.invokevirtual 173, 3) := by decide +kernel
theorem dX11_trade_113 : decode cX11_trade 113 = .ok (.goto 4, 3) := by decide +kernel
theorem dX11_trade_116 : decode cX11_trade 116 = .ok (.iconst (-1), 1) := by decide +kernel
theorem dX11_trade_117 : decode cX11_trade 117 = .ok (.iastore, 1) := by decide +kernel
theorem dX11_trade_118 : decode cX11_trade 118 = .ok (.iinc 5 1, 3) := by decide +kernel
theorem dX11_trade_121 : decode cX11_trade 121 = .ok (.goto (-40), 3) := by decide +kernel
theorem dX11_trade_124 : decode cX11_trade 124 = .ok (.iload_n 1, 1) := by decide +kernel
theorem dX11_trade_125 : decode cX11_trade 125 = .ok (.istore 5, 2) := by decide +kernel
theorem dX11_trade_127 : decode cX11_trade 127 = .ok (.iconst 0, 1) := by decide +kernel
theorem dX11_trade_128 : decode cX11_trade 128 = .ok (.istore 6, 2) := by decide +kernel
theorem dX11_trade_130 : decode cX11_trade 130 = .ok (.iload 6, 2) := by decide +kernel
theorem dX11_trade_132 : decode cX11_trade 132 = .ok (.aload_n 0, 1) := by decide +kernel
theorem dX11_trade_133 : decode cX11_trade 133 = .ok (.getfield 94, 3) := by decide +kernel
theorem dX11_trade_136 : decode cX11_trade 136 = .ok (.if_icmp .ge 185, 3) := by decide +kernel
theorem dX11_trade_139 : decode cX11_trade 139 = .ok (.iload_n 1, 1) := by decide +kernel
theorem dX11_trade_140 : decode cX11_trade 140 = .ok (.iload 6, 2) := by decide +kernel
theorem dX11_trade_142 : decode cX11_trade 142 = .ok (.ishr, 1) := by decide +kernel
theorem dX11_trade_143 : decode cX11_trade 143 = .ok (.iconst 1, 1) := by decide +kernel
theorem dX11_trade_144 : decode cX11_trade 144 = .ok (.iand, 1) := by decide +kernel
theorem dX11_trade_145 : decode cX11_trade 145 = .ok (.iconst 1, 1) := by decide +kernel
theorem dX11_trade_146 : decode cX11_trade 146 = .ok (.if_icmp .ne 169, 3) := by decide +kernel
theorem dX11_trade_149 : decode cX11_trade 149 = .ok (.iconst 1, 1) := by decide +kernel
theorem dX11_trade_150 : decode cX11_trade 150 = .ok (.istore 7, 2) := by decide +kernel
theorem dX11_trade_152 : decode cX11_trade 152 = .ok (.aload_n 0, 1) := by decide +kernel
theorem dX11_trade_153 : decode cX11_trade 153 = .ok (.getfield 50, 3) := by decide +kernel
theorem dX11_trade_156 : decode cX11_trade 156 = .ok (.iload 6, 2) := by decide +kernel
theorem dX11_trade_158 : decode cX11_trade 158 = .ok (.iaload, 1) := by decide +kernel
theorem dX11_trade_159 : decode cX11_trade 159 = .ok (.istore 8, 2) := by decide +kernel
theorem dX11_trade_161 : decode cX11_trade 161 = .ok (.iload 8, 2) := by decide +kernel
theorem dX11_trade_163 : decode cX11_trade 163 = .ok (.iload 6, 2) := by decide +kernel
theorem dX11_trade_165 : decode cX11_trade 165 = .ok (.if_icmp .eq 25, 3) := by decide +kernel
theorem dX11_trade_168 : decode cX11_trade 168 = .ok (.iload 7, 2) := by decide +kernel
theorem dX11_trade_170 : decode cX11_trade 170 = .ok (.bipush 17, 2) := by decide +kernel
theorem dX11_trade_172 : decode cX11_trade 172 = .ok (.if_icmp .ge 18, 3) := by decide +kernel
theorem dX11_trade_175 : decode cX11_trade 175 = .ok (.aload_n 0, 1) := by decide +kernel
theorem dX11_trade_176 : decode cX11_trade 176 = .ok (.getfield 50, 3) := by decide +kernel
theorem dX11_trade_179 : decode cX11_trade 179 = .ok (.iload 8, 2) := by decide +kernel
theorem dX11_trade_181 : decode cX11_trade 181 = .ok (.iaload, 1) := by decide +kernel
theorem dX11_trade_182 : decode cX11_trade 182 = .ok (.istore 8, 2) := by decide +kernel
theorem dX11_trade_184 : decode cX11_trade 184 = .ok (.iinc 7 1, 3) := by decide +kernel
theorem dX11_trade_187 : decode cX11_trade 187 = .ok (.goto (-26), 3) := by decide +kernel
theorem dX11_trade_190 : decode cX11_trade 190 = .ok (.iload 8, 2) := by decide +kernel
theorem dX11_trade_192 : decode cX11_trade 192 = .ok (.iload 6, 2) := by decide +kernel
theorem dX11_trade_194 : decode cX11_trade 194 = .ok (.if_icmp .ne 121, 3) := by decide +kernel
theorem dX11_trade_197 : decode cX11_trade 197 = .ok (.aload_n 0, 1) := by decide +kernel
theorem dX11_trade_198 : decode cX11_trade 198 = .ok (.getfield 53, 3) := by decide +kernel
theorem dX11_trade_201 : decode cX11_trade 201 = .ok (.iload 6, 2) := by decide +kernel
theorem dX11_trade_203 : decode cX11_trade 203 = .ok (.aload_n 0, 1) := by decide +kernel
theorem dX11_trade_204 : decode cX11_trade 204 = .ok (.getfield 31, 3) := by decide +kernel
theorem dX11_trade_207 : decode cX11_trade 207 = .ok (.aload_n 0, 1) := by decide +kernel
theorem dX11_trade_208 : decode cX11_trade 208 = .ok (.getfield 50, 3) := by decide +kernel
theorem dX11_trade_211 : decode cX11_trade 211 = .ok (.iload 6, 2) := by decide +kernel
theorem dX11_trade_213 : decode cX11_trade 213 = .ok (.iaload, 1) := by decide +kernel
theorem dX11_trade_214 : decode cX11_trade 214 = .ok (.iaload, 1) := by decide +kernel
theorem dX11_trade_215 : decode cX11_trade 215 = .ok (.iastore, 1) := by decide +kernel
theorem dX11_trade_216 : decode cX11_trade 216 = .ok (.iload 5, 2) := by decide +kernel
theorem dX11_trade_218 : decode cX11_trade 218 = .ok (.iconst 1, 1) := by decide +kernel
theorem dX11_trade_219 : decode cX11_trade 219 = .ok (.iload 6, 2) := by decide +kernel
theorem dX11_trade_221 : decode cX11_trade 221 = .ok (.ishl, 1) := by decide +kernel
theorem dX11_trade_222 : decode cX11_trade 222 = .ok (.iconst (-1), 1) := by decide +kernel
theorem dX11_trade_223 : decode cX11_trade 223 = .ok (.ixor, 1) := by decide +kernel
theorem dX11_trade_224 : decode cX11_trade 224 = .ok (.iand, 1) := by decide +kernel
theorem dX11_trade_225 : decode cX11_trade 225 = .ok (.istore 5, 2) := by decide +kernel
theorem dX11_trade_227 : decode cX11_trade 227 = .ok (.iconst 1, 1) := by decide +kernel
theorem dX11_trade_228 : decode cX11_trade 228 = .ok (.istore 9, 2) := by decide +kernel
theorem dX11_trade_230 : decode cX11_trade 230 = .ok (.aload_n 0, 1) := by decide +kernel
theorem dX11_trade_231 : decode cX11_trade 231 = .ok (.getfield 50, 3) := by decide +kernel
theorem dX11_trade_234 : decode cX11_trade 234 = .ok (.iload 6, 2) := by decide +kernel
theorem dX11_trade_236 : decode cX11_trade 236 = .ok (.iaload, 1) := by decide +kernel
theorem dX11_trade_237 : decode cX11_trade 237 = .ok (.istore 10, 2) := by decide +kernel
theorem dX11_trade_239 : decode cX11_trade 239 = .ok (.iload 10, 2) := by decide +kernel
theorem dX11_trade_241 : decode cX11_trade 241 = .ok (.iload 6, 2) := by decide +kernel
theorem dX11_trade_243 : decode cX11_trade 243 = .ok (.if_icmp .eq 34, 3) := by decide +kernel
theorem dX11_trade_246 : decode cX11_trade 246 = .ok (.iload 9, 2) := by decide +kernel
theorem dX11_trade_248 : decode cX11_trade 248 = .ok (.ifCond .eq 14, 3) := by decide +kernel
theorem dX11_trade_251 : decode cX11_trade 251 = .ok (.iload 10, 2) := by decide +kernel
theorem dX11_trade_253 : decode cX11_trade 253 = .ok (.iload 6, 2) := by decide +kernel
theorem dX11_trade_255 : decode cX11_trade 255 = .ok (.if_icmp .le 7, 3) := by decide +kernel
theorem dX11_trade_258 : decode cX11_trade 258 = .ok (.iconst 1, 1) := by decide +kernel
theorem dX11_trade_259 : decode cX11_trade 259 = .ok (.goto 4, 3) := by decide +kernel
theorem dX11_trade_262 : decode cX11_trade 262 = .ok (.iconst 0, 1) := by decide +kernel
theorem dX11_trade_263 : decode cX11_trade 263 = .ok (.istore 9, 2) := by decide +kernel
theorem dX11_trade_265 : decode cX11_trade 265 = .ok (.aload_n 0, 1) := by decide +kernel
theorem dX11_trade_266 : decode cX11_trade 266 = .ok (.getfield 50, 3) := by decide +kernel
theorem dX11_trade_269 : decode cX11_trade 269 = .ok (.iload 10, 2) := by decide +kernel
theorem dX11_trade_271 : decode cX11_trade 271 = .ok (.iaload, 1) := by decide +kernel
theorem dX11_trade_272 : decode cX11_trade 272 = .ok (.istore 10, 2) := by decide +kernel
theorem dX11_trade_274 : decode cX11_trade 274 = .ok (.goto (-35), 3) := by decide +kernel
theorem dX11_trade_277 : decode cX11_trade 277 = .ok (.iload_n 2, 1) := by decide +kernel
theorem dX11_trade_278 : decode cX11_trade 278 = .ok (.iload 9, 2) := by decide +kernel
theorem dX11_trade_280 : decode cX11_trade 280 = .ok (.ifCond .eq 13, 3) := by decide +kernel
theorem dX11_trade_283 : decode cX11_trade 283 = .ok (.iload 7, 2) := by decide +kernel
theorem dX11_trade_285 : decode cX11_trade 285 = .ok (.iconst 1, 1) := by decide +kernel
theorem dX11_trade_286 : decode cX11_trade 286 = .ok (.if_icmp .le 7, 3) := by decide +kernel
theorem dX11_trade_289 : decode cX11_trade 289 = .ok (.iconst 1, 1) := by decide +kernel
theorem dX11_trade_290 : decode cX11_trade 290 = .ok (.goto 4, 3) := by decide +kernel
theorem dX11_trade_293 : decode cX11_trade 293 = .ok (.iconst 0, 1) := by decide +kernel
theorem dX11_trade_294 : decode cX11_trade 294 = .ok (.iadd, 1) := by decide +kernel
theorem dX11_trade_295 : decode cX11_trade 295 = .ok (.istore_n 2, 1) := by decide +kernel
theorem dX11_trade_296 : decode cX11_trade 296 = .ok (.iload 7, 2) := by decide +kernel
theorem dX11_trade_298 : decode cX11_trade 298 = .ok (.iconst 1, 1) := by decide +kernel
theorem dX11_trade_299 : decode cX11_trade 299 = .ok (.if_icmp .le 14, 3) := by decide +kernel
theorem dX11_trade_302 : decode cX11_trade 302 = .ok (.iload 7, 2) := by decide +kernel
theorem dX11_trade_304 : decode cX11_trade 304 = .ok (.iload_n 3, 1) := by decide +kernel
theorem dX11_trade_305 : decode cX11_trade 305 = .ok (.if_icmp .le 8, 3) := by decide +kernel
theorem dX11_trade_308 : decode cX11_trade 308 = .ok (.iload 7, 2) := by decide +kernel
theorem dX11_trade_310 : decode cX11_trade 310 = .ok (.goto 4, 3) := by decide +kernel
theorem dX11_trade_313 : decode cX11_trade 313 = .ok (.iload_n 3, 1) := by decide +kernel
theorem dX11_trade_314 : decode cX11_trade 314 = .ok (.istore_n 3, 1) := by decide +kernel
theorem dX11_trade_315 : decode cX11_trade 315 = .ok (.iinc 6 1, 3) := by decide +kernel
theorem dX11_trade_318 : decode cX11_trade 318 = .ok (.goto (-188), 3) := by decide +kernel
theorem dX11_trade_321 : decode cX11_trade 321 = .ok (.iload 5, 2) := by decide +kernel
theorem dX11_trade_323 : decode cX11_trade 323 = .ok (.istore_n 1, 1) := by decide +kernel
theorem dX11_trade_324 : decode cX11_trade 324 = .ok (.goto (-253), 3) := by decide +kernel
theorem dX11_trade_327 : decode cX11_trade 327 = .ok (.iconst 0, 1) := by decide +kernel
theorem dX11_trade_328 : decode cX11_trade 328 = .ok (.istore 5, 2) := by decide +kernel
theorem dX11_trade_330 : decode cX11_trade 330 = .ok (.iconst 0, 1) := by decide +kernel
theorem dX11_trade_331 : decode cX11_trade 331 = .ok (.istore 6, 2) := by decide +kernel
theorem dX11_trade_333 : decode cX11_trade 333 = .ok (.iload 6, 2) := by decide +kernel
theorem dX11_trade_335 : decode cX11_trade 335 = .ok (.aload_n 0, 1) := by decide +kernel
theorem dX11_trade_336 : decode cX11_trade 336 = .ok (.getfield 94, 3) := by decide +kernel
theorem dX11_trade_339 : decode cX11_trade 339 = .ok (.if_icmp .ge 36, 3) := by decide +kernel
theorem dX11_trade_342 : decode cX11_trade 342 = .ok (.iload 5, 2) := by decide +kernel
theorem dX11_trade_344 : decode cX11_trade 344 = .ok (.aload_n 0, 1) := by decide +kernel
theorem dX11_trade_345 : decode cX11_trade 345 = .ok (.getfield 53, 3) := by decide +kernel
theorem dX11_trade_348 : decode cX11_trade 348 = .ok (.iload 6, 2) := by decide +kernel
theorem dX11_trade_350 : decode cX11_trade 350 = .ok (.iaload, 1) := by decide +kernel
theorem dX11_trade_351 : decode cX11_trade 351 = .ok (.aload_n 0, 1) := by decide +kernel
theorem dX11_trade_352 : decode cX11_trade 352 = .ok (.getfield 31, 3) := by decide +kernel
theorem dX11_trade_355 : decode cX11_trade 355 = .ok (.iload 6, 2) := by decide +kernel
theorem dX11_trade_357 : decode cX11_trade 357 = .ok (.iaload, 1) := by decide +kernel
theorem dX11_trade_358 : decode cX11_trade 358 = .ok (.if_icmp .eq 7, 3) := by decide +kernel
theorem dX11_trade_361 : decode cX11_trade 361 = .ok (.iconst 1, 1) := by decide +kernel
theorem dX11_trade_362 : decode cX11_trade 362 = .ok (.goto 4, 3) := by decide +kernel
theorem dX11_trade_365 : decode cX11_trade 365 = .ok (.iconst 0, 1) := by decide +kernel
theorem dX11_trade_366 : decode cX11_trade 366 = .ok (.iadd, 1) := by decide +kernel
theorem dX11_trade_367 : decode cX11_trade 367 = .ok (.istore 5, 2) := by decide +kernel
theorem dX11_trade_369 : decode cX11_trade 369 = .ok (.iinc 6 1, 3) := by decide +kernel
theorem dX11_trade_372 : decode cX11_trade 372 = .ok (.goto (-39), 3) := by decide +kernel
theorem dX11_trade_375 : decode cX11_trade 375 = .ok (.iconst 0, 1) := by decide +kernel
theorem dX11_trade_376 : decode cX11_trade 376 = .ok (.istore 6, 2) := by decide +kernel
theorem dX11_trade_378 : decode cX11_trade 378 = .ok (.iload 6, 2) := by decide +kernel
theorem dX11_trade_380 : decode cX11_trade 380 = .ok (.aload_n 0, 1) := by decide +kernel
theorem dX11_trade_381 : decode cX11_trade 381 = .ok (.getfield 94, 3) := by decide +kernel
theorem dX11_trade_384 : decode cX11_trade 384 = .ok (.if_icmp .ge 23, 3) := by decide +kernel
theorem dX11_trade_387 : decode cX11_trade 387 = .ok (.aload_n 0, 1) := by decide +kernel
theorem dX11_trade_388 : decode cX11_trade 388 = .ok (.getfield 31, 3) := by decide +kernel
theorem dX11_trade_391 : decode cX11_trade 391 = .ok (.iload 6, 2) := by decide +kernel
theorem dX11_trade_393 : decode cX11_trade 393 = .ok (.aload_n 0, 1) := by decide +kernel
theorem dX11_trade_394 : decode cX11_trade 394 = .ok (.getfield 53, 3) := by decide +kernel
theorem dX11_trade_397 : decode cX11_trade 397 = .ok (.iload 6, 2) := by decide +kernel
theorem dX11_trade_399 : decode cX11_trade 399 = .ok (.iaload, 1) := by decide +kernel
theorem dX11_trade_400 : decode cX11_trade 400 = .ok (.iastore, 1) := by decide +kernel
theorem dX11_trade_401 : decode cX11_trade 401 = .ok (.iinc 6 1, 3) := by decide +kernel
theorem dX11_trade_404 : decode cX11_trade 404 = .ok (.goto (-26), 3) := by decide +kernel
theorem dX11_trade_407 : decode cX11_trade 407 = .ok (.aload_n 0, 1) := by decide +kernel
theorem dX11_trade_408 : decode cX11_trade 408 = .ok (.getfield 47, 3) := by decide +kernel
theorem dX11_trade_411 : decode cX11_trade 411 = .ok (.iconst 0, 1) := by decide +kernel
theorem dX11_trade_412 : decode cX11_trade 412 = .ok (.iload_n 2, 1) := by decide +kernel
theorem dX11_trade_413 : decode cX11_trade 413 = .ok (.iastore, 1) := by decide +kernel
theorem dX11_trade_414 : decode cX11_trade 414 = .ok (.aload_n 0, 1) := by decide +kernel
theorem dX11_trade_415 : decode cX11_trade 415 = .ok (.getfield 47, 3) := by decide +kernel
theorem dX11_trade_418 : decode cX11_trade 418 = .ok (.iconst 1, 1) := by decide +kernel
theorem dX11_trade_419 : decode cX11_trade 419 = .ok (.iload_n 3, 1) := by decide +kernel
theorem dX11_trade_420 : decode cX11_trade 420 = .ok (.iastore, 1) := by decide +kernel
theorem dX11_trade_421 : decode cX11_trade 421 = .ok (.aload_n 0, 1) := by decide +kernel
theorem dX11_trade_422 : decode cX11_trade 422 = .ok (.getfield 47, 3) := by decide +kernel
theorem dX11_trade_425 : decode cX11_trade 425 = .ok (.iconst 2, 1) := by decide +kernel
theorem dX11_trade_426 : decode cX11_trade 426 = .ok (.iload 4, 2) := by decide +kernel
theorem dX11_trade_428 : decode cX11_trade 428 = .ok (.iastore, 1) := by decide +kernel
theorem dX11_trade_429 : decode cX11_trade 429 = .ok (.iload 5, 2) := by decide +kernel
theorem dX11_trade_431 : decode cX11_trade 431 = .ok (.ireturn, 1) := by decide +kernel
theorem dX11_traded_0 : decode cX11_traded 0 = .ok (.iload_n 1, 1) := by decide +kernel
theorem dX11_traded_1 : decode cX11_traded 1 = .ok (.i2l, 1) := by decide +kernel
theorem dX11_traded_2 : decode cX11_traded 2 = .ok (.lconst 0, 1) := by decide +kernel
theorem dX11_traded_3 : decode cX11_traded 3 = .ok (.ldc2_w 176, 3) := by decide +kernel
theorem dX11_traded_6 : decode cX11_traded 6 = .ok (.invokestatic 90, 3) := by decide +kernel
theorem dX11_traded_9 : decode cX11_traded 9 = .ok (.ifCond .eq 12, 3) := by decide +kernel
theorem dX11_traded_12 : decode cX11_traded 12 = .ok (.aload_n 0, 1) := by decide +kernel
theorem dX11_traded_13 : decode cX11_traded 13 = .ok (.getfield 47, 3) := by decide +kernel
theorem dX11_traded_16 : decode cX11_traded 16 = .ok (.iload_n 1, 1) := by decide +kernel
theorem dX11_traded_17 : decode cX11_traded 17 = .ok (.iaload, 1) := by decide +kernel
theorem dX11_traded_18 : decode cX11_traded 18 = .ok (.goto 5, 3) := by decide +kernel
theorem dX11_traded_21 : decode cX11_traded 21 = .ok (.bipush (-2), 2) := by decide +kernel
theorem dX11_traded_23 : decode cX11_traded 23 = .ok (.ireturn, 1) := by decide +kernel
theorem dX11_lays_0 : decode cX11_lays 0 = .ok (.iconst 0, 1) := by decide +kernel
theorem dX11_lays_1 : decode cX11_lays 1 = .ok (.istore_n 2, 1) := by decide +kernel
theorem dX11_lays_2 : decode cX11_lays 2 = .ok (.iconst 1, 1) := by decide +kernel
theorem dX11_lays_3 : decode cX11_lays 3 = .ok (.istore_n 3, 1) := by decide +kernel
theorem dX11_lays_4 : decode cX11_lays 4 = .ok (.aload_n 0, 1) := by decide +kernel
theorem dX11_lays_5 : decode cX11_lays 5 = .ok (.getfield 65, 3) := by decide +kernel
theorem dX11_lays_8 : decode cX11_lays 8 = .ok (.iconst 0, 1) := by decide +kernel
theorem dX11_lays_9 : decode cX11_lays 9 = .ok (.iload_n 1, 1) := by decide +kernel
theorem dX11_lays_10 : decode cX11_lays 10 = .ok (.iastore, 1) := by decide +kernel
theorem dX11_lays_11 : decode cX11_lays 11 = .ok (.iconst 0, 1) := by decide +kernel
theorem dX11_lays_12 : decode cX11_lays 12 = .ok (.istore 4, 2) := by decide +kernel
theorem dX11_lays_14 : decode cX11_lays 14 = .ok (.iload 4, 2) := by decide +kernel
theorem dX11_lays_16 : decode cX11_lays 16 = .ok (.iload_n 3, 1) := by decide +kernel
theorem dX11_lays_17 : decode cX11_lays 17 = .ok (.if_icmp .ge 195, 3) := by decide +kernel
theorem dX11_lays_20 : decode cX11_lays 20 = .ok (.aload_n 0, 1) := by decide +kernel
theorem dX11_lays_21 : decode cX11_lays 21 = .ok (.getfield 65, 3) := by decide +kernel
theorem dX11_lays_24 : decode cX11_lays 24 = .ok (.iload 4, 2) := by decide +kernel
theorem dX11_lays_26 : decode cX11_lays 26 = .ok (.iaload, 1) := by decide +kernel
theorem dX11_lays_27 : decode cX11_lays 27 = .ok (.istore 5, 2) := by decide +kernel
theorem dX11_lays_29 : decode cX11_lays 29 = .ok (.iconst 0, 1) := by decide +kernel
theorem dX11_lays_30 : decode cX11_lays 30 = .ok (.istore 6, 2) := by decide +kernel
theorem dX11_lays_32 : decode cX11_lays 32 = .ok (.iload 6, 2) := by decide +kernel
theorem dX11_lays_34 : decode cX11_lays 34 = .ok (.aload_n 0, 1) := by decide +kernel
theorem dX11_lays_35 : decode cX11_lays 35 = .ok (.getfield 86, 3) := by decide +kernel
theorem dX11_lays_38 : decode cX11_lays 38 = .ok (.if_icmp .ge 168, 3) := by decide +kernel
theorem dX11_lays_41 : decode cX11_lays 41 = .ok (.aload_n 0, 1) := by decide +kernel
theorem dX11_lays_42 : decode cX11_lays 42 = .ok (.getfield 59, 3) := by decide +kernel
theorem dX11_lays_45 : decode cX11_lays 45 = .ok (.iload 5, 2) := by decide +kernel
theorem dX11_lays_47 : decode cX11_lays 47 = .ok (.iaload, 1) := by decide +kernel
theorem dX11_lays_48 : decode cX11_lays 48 = .ok (.iload 6, 2) := by decide +kernel
theorem dX11_lays_50 : decode cX11_lays 50 = .ok (.ishr, 1) := by decide +kernel
theorem dX11_lays_51 : decode cX11_lays 51 = .ok (.iconst 1, 1) := by decide +kernel
theorem dX11_lays_52 : decode cX11_lays 52 = .ok (.iand, 1) := by decide +kernel
theorem dX11_lays_53 : decode cX11_lays 53 = .ok (.iconst 1, 1) := by decide +kernel
theorem dX11_lays_54 : decode cX11_lays 54 = .ok (.if_icmp .ne 146, 3) := by decide +kernel
theorem dX11_lays_57 : decode cX11_lays 57 = .ok (.iload_n 2, 1) := by decide +kernel
theorem dX11_lays_58 : decode cX11_lays 58 = .ok (.iload 6, 2) := by decide +kernel
theorem dX11_lays_60 : decode cX11_lays 60 = .ok (.ishr, 1) := by decide +kernel
theorem dX11_lays_61 : decode cX11_lays 61 = .ok (.iconst 1, 1) := by decide +kernel
theorem dX11_lays_62 : decode cX11_lays 62 = .ok (.iand, 1) := by decide +kernel
theorem dX11_lays_63 : decode cX11_lays 63 = .ok (.ifCond .ne 137, 3) := by decide +kernel
theorem dX11_lays_66 : decode cX11_lays 66 = .ok (.iload_n 2, 1) := by decide +kernel
theorem dX11_lays_67 : decode cX11_lays 67 = .ok (.iconst 1, 1) := by decide +kernel
theorem dX11_lays_68 : decode cX11_lays 68 = .ok (.iload 6, 2) := by decide +kernel
theorem dX11_lays_70 : decode cX11_lays 70 = .ok (.ishl, 1) := by decide +kernel
theorem dX11_lays_71 : decode cX11_lays 71 = .ok (.ior, 1) := by decide +kernel
theorem dX11_lays_72 : decode cX11_lays 72 = .ok (.istore_n 2, 1) := by decide +kernel
theorem dX11_lays_73 : decode cX11_lays 73 = .ok (.aload_n 0, 1) := by decide +kernel
theorem dX11_lays_74 : decode cX11_lays 74 = .ok (.getfield 68, 3) := by decide +kernel
theorem dX11_lays_77 : decode cX11_lays 77 = .ok (.iload 6, 2) := by decide +kernel
theorem dX11_lays_79 : decode cX11_lays 79 = .ok (.iload 5, 2) := by decide +kernel
theorem dX11_lays_81 : decode cX11_lays 81 = .ok (.iastore, 1) := by decide +kernel
theorem dX11_lays_82 : decode cX11_lays 82 = .ok (.aload_n 0, 1) := by decide +kernel
theorem dX11_lays_83 : decode cX11_lays 83 = .ok (.getfield 62, 3) := by decide +kernel
theorem dX11_lays_86 : decode cX11_lays 86 = .ok (.iload 6, 2) := by decide +kernel
theorem dX11_lays_88 : decode cX11_lays 88 = .ok (.iaload, 1) := by decide +kernel
theorem dX11_lays_89 : decode cX11_lays 89 = .ok (.iconst (-1), 1) := by decide +kernel
theorem dX11_lays_90 : decode cX11_lays 90 = .ok (.if_icmp .ne 94, 3) := by decide +kernel
theorem dX11_lays_93 : decode cX11_lays 93 = .ok (.iload 6, 2) := by decide +kernel
theorem dX11_lays_95 : decode cX11_lays 95 = .ok (.istore 7, 2) := by decide +kernel
theorem dX11_lays_97 : decode cX11_lays 97 = .ok (.iload 5, 2) := by decide +kernel
theorem dX11_lays_99 : decode cX11_lays 99 = .ok (.istore 8, 2) := by decide +kernel
theorem dX11_lays_101 : decode cX11_lays 101 = .ok (.iload 8, 2) := by decide +kernel
theorem dX11_lays_103 : decode cX11_lays 103 = .ok (.iload_n 1, 1) := by decide +kernel
theorem dX11_lays_104 : decode cX11_lays 104 = .ok (.if_icmp .eq 70, 3) := by decide +kernel
theorem dX11_lays_107 : decode cX11_lays 107 = .ok (.iconst (-1), 1) := by decide +kernel
theorem dX11_lays_108 : decode cX11_lays 108 = .ok (.istore 9, 2) := by decide +kernel
theorem dX11_lays_110 : decode cX11_lays 110 = .ok (.iconst 0, 1) := by decide +kernel
theorem dX11_lays_111 : decode cX11_lays 111 = .ok (.istore 10, 2) := by decide +kernel
theorem dX11_lays_113 : decode cX11_lays 113 = .ok (.iload 10, 2) := by decide +kernel
theorem dX11_lays_115 : decode cX11_lays 115 = .ok (.aload_n 0, 1) := by decide +kernel
theorem dX11_lays_116 : decode cX11_lays 116 = .ok (.getfield 86, 3) := by decide +kernel
theorem dX11_lays_119 : decode cX11_lays 119 = .ok (.if_icmp .ge 30, 3) := by decide +kernel
theorem dX11_lays_122 : decode cX11_lays 122 = .ok (.aload_n 0, 1) := by decide +kernel
theorem dX11_lays_123 : decode cX11_lays 123 = .ok (.getfield 62, 3) := by decide +kernel
theorem dX11_lays_126 : decode cX11_lays 126 = .ok (.iload 10, 2) := by decide +kernel
theorem dX11_lays_128 : decode cX11_lays 128 = .ok (.iaload, 1) := by decide +kernel
theorem dX11_lays_129 : decode cX11_lays 129 = .ok (.iload 8, 2) := by decide +kernel
theorem dX11_lays_131 : decode cX11_lays 131 = .ok (.if_icmp .ne 8, 3) := by decide +kernel
theorem dX11_lays_134 : decode cX11_lays 134 = .ok (.iload 10, 2) := by decide +kernel
theorem dX11_lays_136 : decode cX11_lays 136 = .ok (.goto 5, 3) := by decide +kernel
theorem dX11_lays_139 : decode cX11_lays 139 = .ok (.iload 9, 2) := by decide +kernel
theorem dX11_lays_141 : decode cX11_lays 141 = .ok (.istore 9, 2) := by decide +kernel
theorem dX11_lays_143 : decode cX11_lays 143 = .ok (.iinc 10 1, 3) := by decide +kernel
theorem dX11_lays_146 : decode cX11_lays 146 = .ok (.goto (-33), 3) := by decide +kernel
theorem dX11_lays_149 : decode cX11_lays 149 = .ok (.aload_n 0, 1) := by decide +kernel
theorem dX11_lays_150 : decode cX11_lays 150 = .ok (.getfield 62, 3) := by decide +kernel
theorem dX11_lays_153 : decode cX11_lays 153 = .ok (.iload 7, 2) := by decide +kernel
theorem dX11_lays_155 : decode cX11_lays 155 = .ok (.iload 8, 2) := by decide +kernel
theorem dX11_lays_157 : decode cX11_lays 157 = .ok (.iastore, 1) := by decide +kernel
theorem dX11_lays_158 : decode cX11_lays 158 = .ok (.iload 9, 2) := by decide +kernel
theorem dX11_lays_160 : decode cX11_lays 160 = .ok (.istore 7, 2) := by decide +kernel
theorem dX11_lays_162 : decode cX11_lays 162 = .ok (.aload_n 0, 1) := by decide +kernel
theorem dX11_lays_163 : decode cX11_lays 163 = .ok (.getfield 68, 3) := by decide +kernel
theorem dX11_lays_166 : decode cX11_lays 166 = .ok (.iload 7, 2) := by decide +kernel
theorem dX11_lays_168 : decode cX11_lays 168 = .ok (.iaload, 1) := by decide +kernel
theorem dX11_lays_169 : decode cX11_lays 169 = .ok (.istore 8, 2) := by decide +kernel
theorem dX11_lays_171 : decode cX11_lays 171 = .ok (.goto (-70), 3) := by decide +kernel
theorem dX11_lays_174 : decode cX11_lays 174 = .ok (.aload_n 0, 1) := by decide +kernel
theorem dX11_lays_175 : decode cX11_lays 175 = .ok (.getfield 62, 3) := by decide +kernel
theorem dX11_lays_178 : decode cX11_lays 178 = .ok (.iload 7, 2) := by decide +kernel
theorem dX11_lays_180 : decode cX11_lays 180 = .ok (.iload_n 1, 1) := by decide +kernel
theorem dX11_lays_181 : decode cX11_lays 181 = .ok (.iastore, 1) := by decide +kernel
theorem dX11_lays_182 : decode cX11_lays 182 = .ok (.iconst 1, 1) := by decide +kernel
theorem dX11_lays_183 : decode cX11_lays 183 = .ok (.ireturn, 1) := by decide +kernel
theorem dX11_lays_184 : decode cX11_lays 184 = .ok (.aload_n 0, 1) := by decide +kernel
theorem dX11_lays_185 : decode cX11_lays 185 = .ok (.getfield 65, 3) := by decide +kernel
theorem dX11_lays_188 : decode cX11_lays 188 = .ok (.iload_n 3, 1) := by decide +kernel
theorem dX11_lays_189 : decode cX11_lays 189 = .ok (.aload_n 0, 1) := by decide +kernel
theorem dX11_lays_190 : decode cX11_lays 190 = .ok (.getfield 62, 3) := by decide +kernel
theorem dX11_lays_193 : decode cX11_lays 193 = .ok (.iload 6, 2) := by decide +kernel
theorem dX11_lays_195 : decode cX11_lays 195 = .ok (.iaload, 1) := by decide +kernel
theorem dX11_lays_196 : decode cX11_lays 196 = .ok (.iastore, 1) := by decide +kernel
theorem dX11_lays_197 : decode cX11_lays 197 = .ok (.iinc 3 1, 3) := by decide +kernel
theorem dX11_lays_200 : decode cX11_lays 200 = .ok (.iinc 6 1, 3) := by decide +kernel
theorem dX11_lays_203 : decode cX11_lays 203 = .ok (.goto (-171), 3) := by decide +kernel
theorem dX11_lays_206 : decode cX11_lays 206 = .ok (.iinc 4 1, 3) := by decide +kernel
theorem dX11_lays_209 : decode cX11_lays 209 = .ok (.goto (-195), 3) := by decide +kernel
theorem dX11_lays_212 : decode cX11_lays 212 = .ok (.iconst 0, 1) := by decide +kernel
theorem dX11_lays_213 : decode cX11_lays 213 = .ok (.ireturn, 1) := by decide +kernel
theorem dX11_most_0 : decode cX11_most 0 = .ok (.iconst 0, 1) := by decide +kernel
theorem dX11_most_1 : decode cX11_most 1 = .ok (.istore_n 2, 1) := by decide +kernel
theorem dX11_most_2 : decode cX11_most 2 = .ok (.iload_n 2, 1) := by decide +kernel
theorem dX11_most_3 : decode cX11_most 3 = .ok (.aload_n 0, 1) := by decide +kernel
theorem dX11_most_4 : decode cX11_most 4 = .ok (.getfield 86, 3) := by decide +kernel
theorem dX11_most_7 : decode cX11_most 7 = .ok (.if_icmp .ge 16, 3) := by decide +kernel
theorem dX11_most_10 : decode cX11_most 10 = .ok (.aload_n 0, 1) := by decide +kernel
theorem dX11_most_11 : decode cX11_most 11 = .ok (.getfield 62, 3) := by decide +kernel
theorem dX11_most_14 : decode cX11_most 14 = .ok (.iload_n 2, 1) := by decide +kernel
theorem dX11_most_15 : decode cX11_most 15 = .ok (.iconst (-1), 1) := by decide +kernel
theorem dX11_most_16 : decode cX11_most 16 = .ok (.iastore, 1) := by decide +kernel
theorem dX11_most_17 : decode cX11_most 17 = .ok (.iinc 2 1, 3) := by decide +kernel
theorem dX11_most_20 : decode cX11_most 20 = .ok (.goto (-18), 3) := by decide +kernel
theorem dX11_most_23 : decode cX11_most 23 = .ok (.iconst 0, 1) := by decide +kernel
theorem dX11_most_24 : decode cX11_most 24 = .ok (.istore_n 2, 1) := by decide +kernel
theorem dX11_most_25 : decode cX11_most 25 = .ok (.iload_n 1, 1) := by decide +kernel
theorem dX11_most_26 : decode cX11_most 26 = .ok (.istore_n 3, 1) := by decide +kernel
theorem dX11_most_27 : decode cX11_most 27 = .ok (.iload_n 3, 1) := by decide +kernel
theorem dX11_most_28 : decode cX11_most 28 = .ok (.aload_n 0, 1) := by decide +kernel
theorem dX11_most_29 : decode cX11_most 29 = .ok (.getfield 178, 3) := by decide +kernel
theorem dX11_most_32 : decode cX11_most 32 = .ok (.if_icmp .ge 25, 3) := by decide +kernel
theorem dX11_most_35 : decode cX11_most 35 = .ok (.iload_n 2, 1) := by decide +kernel
theorem dX11_most_36 : decode cX11_most 36 = .ok (.aload_n 0, 1) := by decide +kernel
theorem dX11_most_37 : decode cX11_most 37 = .ok (.iload_n 3, 1) := by decide +kernel
theorem dX11_most_38 : decode cX11_most 38 = .ok (.invokevirtual 181, 3) := by decide +kernel
theorem dX11_most_41 : decode cX11_most 41 = .ok (.ifCond .eq 7, 3) := by decide +kernel
theorem dX11_most_44 : decode cX11_most 44 = .ok (.iconst 1, 1) := by decide +kernel
theorem dX11_most_45 : decode cX11_most 45 = .ok (.goto 4, 3) := by decide +kernel
theorem dX11_most_48 : decode cX11_most 48 = .ok (.iconst 0, 1) := by decide +kernel
theorem dX11_most_49 : decode cX11_most 49 = .ok (.iadd, 1) := by decide +kernel
theorem dX11_most_50 : decode cX11_most 50 = .ok (.istore_n 2, 1) := by decide +kernel
theorem dX11_most_51 : decode cX11_most 51 = .ok (.iinc 3 1, 3) := by decide +kernel
theorem dX11_most_54 : decode cX11_most 54 = .ok (.goto (-27), 3) := by decide +kernel
theorem dX11_most_57 : decode cX11_most 57 = .ok (.iload_n 2, 1) := by decide +kernel
theorem dX11_most_58 : decode cX11_most 58 = .ok (.ireturn, 1) := by decide +kernel
theorem dX11_strike_0 : decode cX11_strike 0 = .ok (.iload_n 1, 1) := by decide +kernel
theorem dX11_strike_1 : decode cX11_strike 1 = .ok (.i2l, 1) := by decide +kernel
theorem dX11_strike_2 : decode cX11_strike 2 = .ok (.lconst 0, 1) := by decide +kernel
theorem dX11_strike_3 : decode cX11_strike 3 = .ok (.ldc2_w 97, 3) := by decide +kernel
theorem dX11_strike_6 : decode cX11_strike 6 = .ok (.invokestatic 90, 3) := by decide +kernel
theorem dX11_strike_9 : decode cX11_strike 9 = .ok (.ifCond .ne 6, 3) := by decide +kernel
theorem dX11_strike_12 : decode cX11_strike 12 = .ok (.bipush (-2), 2) := by decide +kernel
theorem dX11_strike_14 : decode cX11_strike 14 = .ok (.ireturn, 1) := by decide +kernel
theorem dX11_strike_15 : decode cX11_strike 15 = .ok (.aload_n 0, 1) := by decide +kernel
theorem dX11_strike_16 : decode cX11_strike 16 = .ok (.getfield 148, 3) := by decide +kernel
theorem dX11_strike_19 : decode cX11_strike 19 = .ok (.iload_n 1, 1) := by decide +kernel
theorem dX11_strike_20 : decode cX11_strike 20 = .ok (.ishr, 1) := by decide +kernel
theorem dX11_strike_21 : decode cX11_strike 21 = .ok (.iconst 1, 1) := by decide +kernel
theorem dX11_strike_22 : decode cX11_strike 22 = .ok (.iand, 1) := by decide +kernel
theorem dX11_strike_23 : decode cX11_strike 23 = .ok (.iconst 1, 1) := by decide +kernel
theorem dX11_strike_24 : decode cX11_strike 24 = .ok (.if_icmp .ne 6, 3) := by decide +kernel
theorem dX11_strike_27 : decode cX11_strike 27 = .ok (.bipush (-3), 2) := by decide +kernel
theorem dX11_strike_29 : decode cX11_strike 29 = .ok (.ireturn, 1) := by decide +kernel
theorem dX11_strike_30 : decode cX11_strike 30 = .ok (.aload_n 0, 1) := by decide +kernel
theorem dX11_strike_31 : decode cX11_strike 31 = .ok (.dup, 1) := by decide +kernel
theorem dX11_strike_32 : decode cX11_strike 32 = .ok (.getfield 148, 3) := by decide +kernel
theorem dX11_strike_35 : decode cX11_strike 35 = .ok (.iconst 1, 1) := by decide +kernel
theorem dX11_strike_36 : decode cX11_strike 36 = .ok (.iload_n 1, 1) := by decide +kernel
theorem dX11_strike_37 : decode cX11_strike 37 = .ok (.ishl, 1) := by decide +kernel
theorem dX11_strike_38 : decode cX11_strike 38 = .ok (.ior, 1) := by decide +kernel
theorem dX11_strike_39 : decode cX11_strike 39 = .ok (.putfield 148, 3) := by decide +kernel
theorem dX11_strike_42 : decode cX11_strike 42 = .ok (.aload_n 0, 1) := by decide +kernel
theorem dX11_strike_43 : decode cX11_strike 43 = .ok (.iconst 0, 1) := by decide +kernel
theorem dX11_strike_44 : decode cX11_strike 44 = .ok (.putfield 178, 3) := by decide +kernel
theorem dX11_strike_47 : decode cX11_strike 47 = .ok (.iconst 0, 1) := by decide +kernel
theorem dX11_strike_48 : decode cX11_strike 48 = .ok (.istore_n 2, 1) := by decide +kernel
theorem dX11_strike_49 : decode cX11_strike 49 = .ok (.iload_n 2, 1) := by decide +kernel
theorem dX11_strike_50 : decode cX11_strike 50 = .ok (.aload_n 0, 1) := by decide +kernel
theorem dX11_strike_51 : decode cX11_strike 51 = .ok (.getfield 94, 3) := by decide +kernel
theorem dX11_strike_54 : decode cX11_strike 54 = .ok (.if_icmp .ge 61, 3) := by decide +kernel
theorem dX11_strike_57 : decode cX11_strike 57 = .ok (.aload_n 0, 1) := by decide +kernel
theorem dX11_strike_58 : decode cX11_strike 58 = .ok (.getfield 31, 3) := by decide +kernel
theorem dX11_strike_61 : decode cX11_strike 61 = .ok (.iload_n 2, 1) := by decide +kernel
theorem dX11_strike_62 : decode cX11_strike 62 = .ok (.iaload, 1) := by decide +kernel
theorem dX11_strike_63 : decode cX11_strike 63 = .ok (.iconst (-1), 1) := by decide +kernel
theorem dX11_strike_64 : decode cX11_strike 64 = .ok (.if_icmp .eq 45, 3) := by decide +kernel
theorem dX11_strike_67 : decode cX11_strike 67 = .ok (.aload_n 0, 1) := by decide +kernel
theorem dX11_strike_68 : decode cX11_strike 68 = .ok (.getfield 7, 3) := by decide +kernel
theorem dX11_strike_71 : decode cX11_strike 71 = .ok (.aload_n 0, 1) := by decide +kernel
theorem dX11_strike_72 : decode cX11_strike 72 = .ok (.getfield 31, 3) := by decide +kernel
theorem dX11_strike_75 : decode cX11_strike 75 = .ok (.iload_n 2, 1) := by decide +kernel
theorem dX11_strike_76 : decode cX11_strike 76 = .ok (.iaload, 1) := by decide +kernel
theorem dX11_strike_77 : decode cX11_strike 77 = .ok (.iaload, 1) := by decide +kernel
theorem dX11_strike_78 : decode cX11_strike 78 = .ok (.iload_n 1, 1) := by decide +kernel
theorem dX11_strike_79 : decode cX11_strike 79 = .ok (.if_icmp .ne 30, 3) := by decide +kernel
theorem dX11_strike_82 : decode cX11_strike 82 = .ok (.aload_n 0, 1) := by decide +kernel
theorem dX11_strike_83 : decode cX11_strike 83 = .ok (.getfield 56, 3) := by decide +kernel
theorem dX11_strike_86 : decode cX11_strike 86 = .ok (.aload_n 0, 1) := by decide +kernel
theorem dX11_strike_87 : decode cX11_strike 87 = .ok (.getfield 178, 3) := by decide +kernel
theorem dX11_strike_90 : decode cX11_strike 90 = .ok (.iload_n 2, 1) := by decide +kernel
theorem dX11_strike_91 : decode cX11_strike 91 = .ok (.iastore, 1) := by decide +kernel
theorem dX11_strike_92 : decode cX11_strike 92 = .ok (.aload_n 0, 1) := by decide +kernel
theorem dX11_strike_93 : decode cX11_strike 93 = .ok (.dup, 1) := by decide +kernel
theorem dX11_strike_94 : decode cX11_strike 94 = .ok (.getfield 178, 3) := by decide +kernel
theorem dX11_strike_97 : decode cX11_strike 97 = .ok (.iconst 1, 1) := by decide +kernel
theorem dX11_strike_98 : decode cX11_strike 98 = .ok (.iadd, 1) := by decide +kernel
theorem dX11_strike_99 : decode cX11_strike 99 = .ok (.putfield 178, 3) := by decide +kernel
theorem dX11_strike_102 : decode cX11_strike 102 = .ok (.aload_n 0, 1) := by decide +kernel
theorem dX11_strike_103 : decode cX11_strike 103 = .ok (.getfield 31, 3) := by decide +kernel
theorem dX11_strike_106 : decode cX11_strike 106 = .ok (.iload_n 2, 1) := by decide +kernel
theorem dX11_strike_107 : decode cX11_strike 107 = .ok (.iconst (-1), 1) := by decide +kernel
theorem dX11_strike_108 : decode cX11_strike 108 = .ok (.iastore, 1) := by decide +kernel
theorem dX11_strike_109 : decode cX11_strike 109 = .ok (.iinc 2 1, 3) := by decide +kernel
theorem dX11_strike_112 : decode cX11_strike 112 = .ok (.goto (-63), 3) := by decide +kernel
theorem dX11_strike_115 : decode cX11_strike 115 = .ok (.iconst 0, 1) := by decide +kernel
theorem dX11_strike_116 : decode cX11_strike 116 = .ok (.istore_n 2, 1) := by decide +kernel
theorem dX11_strike_117 : decode cX11_strike 117 = .ok (.iload_n 2, 1) := by decide +kernel
theorem dX11_strike_118 : decode cX11_strike 118 = .ok (.aload_n 0, 1) := by decide +kernel
theorem dX11_strike_119 : decode cX11_strike 119 = .ok (.getfield 178, 3) := by decide +kernel
theorem dX11_strike_122 : decode cX11_strike 122 = .ok (.if_icmp .ge 71, 3) := by decide +kernel
theorem dX11_strike_125 : decode cX11_strike 125 = .ok (.aload_n 0, 1) := by decide +kernel
theorem dX11_strike_126 : decode cX11_strike 126 = .ok (.getfield 59, 3) := by decide +kernel
theorem dX11_strike_129 : decode cX11_strike 129 = .ok (.iload_n 2, 1) := by decide +kernel
theorem dX11_strike_130 : decode cX11_strike 130 = .ok (.iconst 0, 1) := by decide +kernel
theorem dX11_strike_131 : decode cX11_strike 131 = .ok (.iastore, 1) := by decide +kernel
theorem dX11_strike_132 : decode cX11_strike 132 = .ok (.iconst 0, 1) := by decide +kernel
theorem dX11_strike_133 : decode cX11_strike 133 = .ok (.istore_n 3, 1) := by decide +kernel
theorem dX11_strike_134 : decode cX11_strike 134 = .ok (.iload_n 3, 1) := by decide +kernel
theorem dX11_strike_135 : decode cX11_strike 135 = .ok (.aload_n 0, 1) := by decide +kernel
theorem dX11_strike_136 : decode cX11_strike 136 = .ok (.getfield 86, 3) := by decide +kernel
theorem dX11_strike_139 : decode cX11_strike 139 = .ok (.if_icmp .ge 48, 3) := by decide +kernel
theorem dX11_strike_142 : decode cX11_strike 142 = .ok (.aload_n 0, 1) := by decide +kernel
theorem dX11_strike_143 : decode cX11_strike 143 = .ok (.getfield 59, 3) := by decide +kernel
theorem dX11_strike_146 : decode cX11_strike 146 = .ok (.iload_n 2, 1) := by decide +kernel
theorem dX11_strike_147 : decode cX11_strike 147 = .ok (.dup2, 1) := by decide +kernel
theorem dX11_strike_148 : decode cX11_strike 148 = .ok (.iaload, 1) := by decide +kernel
theorem dX11_strike_149 : decode cX11_strike 149 = .ok (.aload_n 0, 1) := by decide +kernel
theorem dX11_strike_150 : decode cX11_strike 150 = .ok (.iload_n 3, 1) := by decide +kernel
theorem dX11_strike_151 : decode cX11_strike 151 = .ok (.invokevirtual 120, 3) := by decide +kernel
theorem dX11_strike_154 : decode cX11_strike 154 = .ok (.iconst (-1), 1) := by decide +kernel
theorem dX11_strike_155 : decode cX11_strike 155 = .ok (.if_icmp .ne 23, 3) := by decide +kernel
theorem dX11_strike_158 : decode cX11_strike 158 = .ok (.aload_n 0, 1) := by decide +kernel
theorem dX11_strike_159 : decode cX11_strike 159 = .ok (.aload_n 0, 1) := by decide +kernel
theorem dX11_strike_160 : decode cX11_strike 160 = .ok (.getfield 56, 3) := by decide +kernel
theorem dX11_strike_163 : decode cX11_strike 163 = .ok (.iload_n 2, 1) := by decide +kernel
theorem dX11_strike_164 : decode cX11_strike 164 = .ok (.iaload, 1) := by decide +kernel
theorem dX11_strike_165 : decode cX11_strike 165 = .ok (.iload_n 3, 1) := by decide +kernel
theorem dX11_strike_166 : decode cX11_strike 166 = .ok (.invokevirtual 124, 3) := by decide +kernel
theorem dX11_strike_169 : decode cX11_strike 169 = .ok (.ifCond .eq 9, 3) := by decide +kernel
theorem dX11_strike_172 : decode cX11_strike 172 = .ok (.iconst 1, 1) := by decide +kernel
theorem dX11_strike_173 : decode cX11_strike 173 = .ok (.iload_n 3, 1) := by decide +kernel
theorem dX11_strike_174 : decode cX11_strike 174 = .ok (.ishl, 1) := by decide +kernel
theorem dX11_strike_175 : decode cX11_strike 175 = .ok (.goto 4, 3) := by decide +kernel
theorem dX11_strike_178 : decode cX11_strike 178 = .ok (.iconst 0, 1) := by decide +kernel
theorem dX11_strike_179 : decode cX11_strike 179 = .ok (.ior, 1) := by decide +kernel
theorem dX11_strike_180 : decode cX11_strike 180 = .ok (.iastore, 1) := by decide +kernel
theorem dX11_strike_181 : decode cX11_strike 181 = .ok (.iinc 3 1, 3) := by decide +kernel
theorem dX11_strike_184 : decode cX11_strike 184 = .ok (.goto (-50), 3) := by decide +kernel
theorem dX11_strike_187 : decode cX11_strike 187 = .ok (.iinc 2 1, 3) := by decide +kernel
theorem dX11_strike_190 : decode cX11_strike 190 = .ok (.goto (-73), 3) := by decide +kernel
theorem dX11_strike_193 : decode cX11_strike 193 = .ok (.aload_n 0, 1) := by decide +kernel
theorem dX11_strike_194 : decode cX11_strike 194 = .ok (.iconst 0, 1) := by decide +kernel
theorem dX11_strike_195 : decode cX11_strike 195 = .ok (.invokevirtual 184, 3) := by decide +kernel
theorem dX11_strike_198 : decode cX11_strike 198 = .ok (.istore_n 2, 1) := by decide +kernel
theorem dX11_strike_199 : decode cX11_strike 199 = .ok (.iconst 0, 1) := by decide +kernel
theorem dX11_strike_200 : decode cX11_strike 200 = .ok (.istore_n 3, 1) := by decide +kernel
theorem dX11_strike_201 : decode cX11_strike 201 = .ok (.iconst 0, 1) := by decide +kernel
theorem dX11_strike_202 : decode cX11_strike 202 = .ok (.istore 4, 2) := by decide +kernel
theorem dX11_strike_204 : decode cX11_strike 204 = .ok (.iload 4, 2) := by decide +kernel
theorem dX11_strike_206 : decode cX11_strike 206 = .ok (.aload_n 0, 1) := by decide +kernel
theorem dX11_strike_207 : decode cX11_strike 207 = .ok (.getfield 178, 3) := by decide +kernel
theorem dX11_strike_210 : decode cX11_strike 210 = .ok (.if_icmp .ge 109, 3) := by decide +kernel
theorem dX11_strike_213 : decode cX11_strike 213 = .ok (.iconst 0, 1) := by decide +kernel
theorem dX11_strike_214 : decode cX11_strike 214 = .ok (.istore 5, 2) := by decide +kernel
theorem dX11_strike_216 : decode cX11_strike 216 = .ok (.iload 5, 2) := by decide +kernel
theorem dX11_strike_218 : decode cX11_strike 218 = .ok (.aload_n 0, 1) := by decide +kernel
theorem dX11_strike_219 : decode cX11_strike 219 = .ok (.getfield 86, 3) := by decide +kernel
theorem dX11_strike_222 : decode cX11_strike 222 = .ok (.if_icmp .ge 91, 3) := by decide +kernel
theorem dX11_strike_225 : decode cX11_strike 225 = .ok (.aload_n 0, 1) := by decide +kernel
theorem dX11_strike_226 : decode cX11_strike 226 = .ok (.getfield 31, 3) := by decide +kernel
theorem dX11_strike_229 : decode cX11_strike 229 = .ok (.aload_n 0, 1) := by decide +kernel
theorem dX11_strike_230 : decode cX11_strike 230 = .ok (.getfield 56, 3) := by decide +kernel
theorem dX11_strike_233 : decode cX11_strike 233 = .ok (.iload 4, 2) := by decide +kernel
theorem dX11_strike_235 : decode cX11_strike 235 = .ok (.iaload, 1) := by decide +kernel
theorem dX11_strike_236 : decode cX11_strike 236 = .ok (.iaload, 1) := by decide +kernel
theorem dX11_strike_237 : decode cX11_strike 237 = .ok (.iconst (-1), 1) := by decide +kernel
theorem dX11_strike_238 : decode cX11_strike 238 = .ok (.if_icmp .ne 75, 3) := by decide +kernel
theorem dX11_strike_241 : decode cX11_strike 241 = .ok (.aload_n 0, 1) := by decide +kernel
theorem dX11_strike_242 : decode cX11_strike 242 = .ok (.getfield 59, 3) := by decide +kernel
theorem dX11_strike_245 : decode cX11_strike 245 = .ok (.iload 4, 2) := by decide +kernel
theorem dX11_strike_247 : decode cX11_strike 247 = .ok (.iaload, 1) := by decide +kernel
theorem dX11_strike_248 : decode cX11_strike 248 = .ok (.iload 5, 2) := by decide +kernel
theorem dX11_strike_250 : decode cX11_strike 250 = .ok (.ishr, 1) := by decide +kernel
theorem dX11_strike_251 : decode cX11_strike 251 = .ok (.iconst 1, 1) := by decide +kernel
theorem dX11_strike_252 : decode cX11_strike 252 = .ok (.iand, 1) := by decide +kernel
theorem dX11_strike_253 : decode cX11_strike 253 = .ok (.iconst 1, 1) := by decide +kernel
theorem dX11_strike_254 : decode cX11_strike 254 = .ok (.if_icmp .ne 53, 3) := by decide +kernel
theorem dX11_strike_257 : decode cX11_strike 257 = .ok (.aload_n 0, 1) := by decide +kernel
theorem dX11_strike_258 : decode cX11_strike 258 = .ok (.iload 4, 2) := by decide +kernel
theorem dX11_strike_260 : decode cX11_strike 260 = .ok (.iload 5, 2) := by decide +kernel
theorem dX11_strike_262 : decode cX11_strike 262 = .ok (.invokevirtual 187, 3) := by decide +kernel
theorem dX11_strike_265 : decode cX11_strike 265 = .ok (.iload_n 3, 1) := by decide +kernel
theorem dX11_strike_266 : decode cX11_strike 266 = .ok (.iconst 1, 1) := by decide +kernel
theorem dX11_strike_267 : decode cX11_strike 267 = .ok (.iadd, 1) := by decide +kernel
theorem dX11_strike_268 : decode cX11_strike 268 = .ok (.aload_n 0, 1) := by decide +kernel
theorem dX11_strike_269 : decode cX11_strike 269 = .ok (.iload 4, 2) := by decide +kernel
theorem dX11_strike_271 : decode cX11_strike 271 = .ok (.iconst 1, 1) := by decide +kernel
theorem dX11_strike_272 : decode cX11_strike 272 = .ok (.iadd, 1) := by decide +kernel
theorem dX11_strike_273 : decode cX11_strike 273 = .ok (.invokevirtual 184, 3) := by decide +kernel
theorem dX11_strike_276 : decode cX11_strike 276 = .ok (.iadd, 1) := by decide +kernel
theorem dX11_strike_277 : decode cX11_strike 277 = .ok (.iload_n 2, 1) := by decide +kernel
theorem dX11_strike_278 : decode cX11_strike 278 = .ok (.if_icmp .ne 23, 3) := by decide +kernel
theorem dX11_strike_281 : decode cX11_strike 281 = .ok (.aload_n 0, 1) := by decide +kernel
theorem dX11_strike_282 : decode cX11_strike 282 = .ok (.getfield 31, 3) := by decide +kernel
theorem dX11_strike_285 : decode cX11_strike 285 = .ok (.aload_n 0, 1) := by decide +kernel
theorem dX11_strike_286 : decode cX11_strike 286 = .ok (.getfield 56, 3) := by decide +kernel
theorem dX11_strike_289 : decode cX11_strike 289 = .ok (.iload 4, 2) := by decide +kernel
theorem dX11_strike_291 : decode cX11_strike 291 = .ok (.iaload, 1) := by decide +kernel
theorem dX11_strike_292 : decode cX11_strike 292 = .ok (.iload 5, 2) := by decide +kernel
theorem dX11_strike_294 : decode cX11_strike 294 = .ok (.iastore, 1) := by decide +kernel
theorem dX11_strike_295 : decode cX11_strike 295 = .ok (.iinc 3 1, 3) := by decide +kernel
theorem dX11_strike_298 : decode cX11_strike 298 = .ok (.goto 9, 3) := by decide +kernel
theorem dX11_strike_301 : decode cX11_strike 301 = .ok (.aload_n 0, 1) := by decide +kernel
theorem dX11_strike_302 : decode cX11_strike 302 = .ok (.iload 5, 2) := by decide +kernel
theorem dX11_strike_304 : decode cX11_strike 304 = .ok (.invokevirtual 191, 3) := by decide +kernel
theorem dX11_strike_307 : decode cX11_strike 307 = .ok (.iinc 5 1, 3) := by decide +kernel
theorem dX11_strike_310 : decode cX11_strike 310 = .ok (.goto (-94), 3) := by decide +kernel
theorem dX11_strike_313 : decode cX11_strike 313 = .ok (.iinc 4 1, 3) := by decide +kernel
theorem dX11_strike_316 : decode cX11_strike 316 = .ok (.goto (-112), 3) := by decide +kernel
theorem dX11_strike_319 : decode cX11_strike 319 = .ok (.aload_n 0, 1) := by decide +kernel
theorem dX11_strike_320 : decode cX11_strike 320 = .ok (.getfield 178, 3) := by decide +kernel
theorem dX11_strike_323 : decode cX11_strike 323 = .ok (.iload_n 3, 1) := by decide +kernel
theorem dX11_strike_324 : decode cX11_strike 324 = .ok (.isub, 1) := by decide +kernel
theorem dX11_strike_325 : decode cX11_strike 325 = .ok (.ireturn, 1) := by decide +kernel
theorem dX11_take_0 : decode cX11_take 0 = .ok (.iconst 0, 1) := by decide +kernel
theorem dX11_take_1 : decode cX11_take 1 = .ok (.istore_n 3, 1) := by decide +kernel
theorem dX11_take_2 : decode cX11_take 2 = .ok (.iload_n 3, 1) := by decide +kernel
theorem dX11_take_3 : decode cX11_take 3 = .ok (.aload_n 0, 1) := by decide +kernel
theorem dX11_take_4 : decode cX11_take 4 = .ok (.getfield 178, 3) := by decide +kernel
theorem dX11_take_7 : decode cX11_take 7 = .ok (.if_icmp .ge 53, 3) := by decide +kernel
theorem dX11_take_10 : decode cX11_take 10 = .ok (.aload_n 0, 1) := by decide +kernel
theorem dX11_take_11 : decode cX11_take 11 = .ok (.getfield 71, 3) := by decide +kernel
theorem dX11_take_14 : decode cX11_take 14 = .ok (.iload_n 3, 1) := by decide +kernel
theorem dX11_take_15 : decode cX11_take 15 = .ok (.aload_n 0, 1) := by decide +kernel
theorem dX11_take_16 : decode cX11_take 16 = .ok (.getfield 59, 3) := by decide +kernel
theorem dX11_take_19 : decode cX11_take 19 = .ok (.iload_n 3, 1) := by decide +kernel
theorem dX11_take_20 : decode cX11_take 20 = .ok (.iaload, 1) := by decide +kernel
theorem dX11_take_21 : decode cX11_take 21 = .ok (.iastore, 1) := by decide +kernel
theorem dX11_take_22 : decode cX11_take 22 = .ok (.aload_n 0, 1) := by decide +kernel
theorem dX11_take_23 : decode cX11_take 23 = .ok (.getfield 59, 3) := by decide +kernel
theorem dX11_take_26 : decode cX11_take 26 = .ok (.iload_n 3, 1) := by decide +kernel
theorem dX11_take_27 : decode cX11_take 27 = .ok (.iload_n 3, 1) := by decide +kernel
theorem dX11_take_28 : decode cX11_take 28 = .ok (.iload_n 1, 1) := by decide +kernel
theorem dX11_take_29 : decode cX11_take 29 = .ok (.if_icmp .le 18, 3) := by decide +kernel
theorem dX11_take_32 : decode cX11_take 32 = .ok (.aload_n 0, 1) := by decide +kernel
theorem dX11_take_33 : decode cX11_take 33 = .ok (.getfield 59, 3) := by decide +kernel
theorem dX11_take_36 : decode cX11_take 36 = .ok (.iload_n 3, 1) := by decide +kernel
theorem dX11_take_37 : decode cX11_take 37 = .ok (.iaload, 1) := by decide +kernel
theorem dX11_take_38 : decode cX11_take 38 = .ok (.iconst 1, 1) := by decide +kernel
theorem dX11_take_39 : decode cX11_take 39 = .ok (.iload_n 2, 1) := by decide +kernel
theorem dX11_take_40 : decode cX11_take 40 = .ok (.ishl, 1) := by decide +kernel
theorem dX11_take_41 : decode cX11_take 41 = .ok (.iconst (-1), 1) := by decide +kernel
theorem dX11_take_42 : decode cX11_take 42 = .ok (.ixor, 1) := by decide +kernel
theorem dX11_take_43 : decode cX11_take 43 = .ok (.iand, 1) := by decide +kernel
theorem dX11_take_44 : decode cX11_take 44 = .ok (.goto 9, 3) := by decide +kernel
theorem dX11_take_47 : decode cX11_take 47 = .ok (.aload_n 0, 1) := by decide +kernel
theorem dX11_take_48 : decode cX11_take 48 = .ok (.getfield 59, 3) := by decide +kernel
theorem dX11_take_51 : decode cX11_take 51 = .ok (.iload_n 3, 1) := by decide +kernel
theorem dX11_take_52 : decode cX11_take 52 = .ok (.iaload, 1) := by decide +kernel
theorem dX11_take_53 : decode cX11_take 53 = .ok (.iastore, 1) := by decide +kernel
theorem dX11_take_54 : decode cX11_take 54 = .ok (.iinc 3 1, 3) := by decide +kernel
theorem dX11_take_57 : decode cX11_take 57 = .ok (.goto (-55), 3) := by decide +kernel
theorem dX11_take_60 : decode cX11_take 60 = .ok (.return_, 1) := by decide +kernel
theorem dX11_untake_0 : decode cX11_untake 0 = .ok (.iconst 0, 1) := by decide +kernel
theorem dX11_untake_1 : decode cX11_untake 1 = .ok (.istore_n 2, 1) := by decide +kernel
theorem dX11_untake_2 : decode cX11_untake 2 = .ok (.iload_n 2, 1) := by decide +kernel
theorem dX11_untake_3 : decode cX11_untake 3 = .ok (.aload_n 0, 1) := by decide +kernel
theorem dX11_untake_4 : decode cX11_untake 4 = .ok (.getfield 178, 3) := by decide +kernel
theorem dX11_untake_7 : decode cX11_untake 7 = .ok (.if_icmp .ge 21, 3) := by decide +kernel
theorem dX11_untake_10 : decode cX11_untake 10 = .ok (.aload_n 0, 1) := by decide +kernel
theorem dX11_untake_11 : decode cX11_untake 11 = .ok (.getfield 59, 3) := by decide +kernel
theorem dX11_untake_14 : decode cX11_untake 14 = .ok (.iload_n 2, 1) := by decide +kernel
theorem dX11_untake_15 : decode cX11_untake 15 = .ok (.aload_n 0, 1) := by decide +kernel
theorem dX11_untake_16 : decode cX11_untake 16 = .ok (.getfield 71, 3) := by decide +kernel
theorem dX11_untake_19 : decode cX11_untake 19 = .ok (.iload_n 2, 1) := by decide +kernel
theorem dX11_untake_20 : decode cX11_untake 20 = .ok (.iaload, 1) := by decide +kernel
theorem dX11_untake_21 : decode cX11_untake 21 = .ok (.iastore, 1) := by decide +kernel
theorem dX11_untake_22 : decode cX11_untake 22 = .ok (.iinc 2 1, 3) := by decide +kernel
theorem dX11_untake_25 : decode cX11_untake 25 = .ok (.goto (-23), 3) := by decide +kernel
theorem dX11_untake_28 : decode cX11_untake 28 = .ok (.return_, 1) := by decide +kernel
theorem dX11_license_0 : decode cX11_license 0 = .ok (.iload_n 1, 1) := by decide +kernel
theorem dX11_license_1 : decode cX11_license 1 = .ok (.i2l, 1) := by decide +kernel
theorem dX11_license_2 : decode cX11_license 2 = .ok (.lconst 0, 1) := by decide +kernel
theorem dX11_license_3 : decode cX11_license 3 = .ok (.ldc2_w 97, 3) := by decide +kernel
theorem dX11_license_6 : decode cX11_license 6 = .ok (.invokestatic 90, 3) := by decide +kernel
theorem dX11_license_9 : decode cX11_license 9 = .ok (.ifCond .ne 6, 3) := by decide +kernel
theorem dX11_license_12 : decode cX11_license 12 = .ok (.bipush (-2), 2) := by decide +kernel
theorem dX11_license_14 : decode cX11_license 14 = .ok (.ireturn, 1) := by decide +kernel
theorem dX11_license_15 : decode cX11_license 15 = .ok (.aload_n 0, 1) := by decide +kernel
theorem dX11_license_16 : decode cX11_license 16 = .ok (.getfield 148, 3) := by decide +kernel
theorem dX11_license_19 : decode cX11_license 19 = .ok (.iload_n 1, 1) := by decide +kernel
theorem dX11_license_20 : decode cX11_license 20 = .ok (.ishr, 1) := by decide +kernel
theorem dX11_license_21 : decode cX11_license 21 = .ok (.iconst 1, 1) := by decide +kernel
theorem dX11_license_22 : decode cX11_license 22 = .ok (.iand, 1) := by decide +kernel
theorem dX11_license_23 : decode cX11_license 23 = .ok (.ifCond .ne 6, 3) := by decide +kernel
theorem dX11_license_26 : decode cX11_license 26 = .ok (.bipush (-3), 2) := by decide +kernel
theorem dX11_license_28 : decode cX11_license 28 = .ok (.ireturn, 1) := by decide +kernel
theorem dX11_license_29 : decode cX11_license 29 = .ok (.aload_n 0, 1) := by decide +kernel
theorem dX11_license_30 : decode cX11_license 30 = .ok (.dup, 1) := by decide +kernel
theorem dX11_license_31 : decode cX11_license 31 = .ok (.getfield 148, 3) := by decide +kernel
theorem dX11_license_34 : decode cX11_license 34 = .ok (.iconst 1, 1) := by decide +kernel
theorem dX11_license_35 : decode cX11_license 35 = .ok (.iload_n 1, 1) := by decide +kernel
theorem dX11_license_36 : decode cX11_license 36 = .ok (.ishl, 1) := by decide +kernel
theorem dX11_license_37 : decode cX11_license 37 = .ok (.iconst (-1), 1) := by decide +kernel
theorem dX11_license_38 : decode cX11_license 38 = .ok (.ixor, 1) := by decide +kernel
theorem dX11_license_39 : decode cX11_license 39 = .ok (.iand, 1) := by decide +kernel
theorem dX11_license_40 : decode cX11_license 40 = .ok (.putfield 148, 3) := by decide +kernel
theorem dX11_license_43 : decode cX11_license 43 = .ok (.iconst 1, 1) := by decide +kernel
theorem dX11_license_44 : decode cX11_license 44 = .ok (.ireturn, 1) := by decide +kernel
theorem dX11_away_0 : decode cX11_away 0 = .ok (.aload_n 0, 1) := by decide +kernel
theorem dX11_away_1 : decode cX11_away 1 = .ok (.iload_n 1, 1) := by decide +kernel
theorem dX11_away_2 : decode cX11_away 2 = .ok (.invokevirtual 107, 3) := by decide +kernel
theorem dX11_away_5 : decode cX11_away 5 = .ok (.ifCond .ne 6, 3) := by decide +kernel
theorem dX11_away_8 : decode cX11_away 8 = .ok (.bipush (-2), 2) := by decide +kernel
theorem dX11_away_10 : decode cX11_away 10 = .ok (.ireturn, 1) := by decide +kernel
theorem dX11_away_11 : decode cX11_away 11 = .ok (.aload_n 0, 1) := by decide +kernel
theorem dX11_away_12 : decode cX11_away 12 = .ok (.getfield 34, 3) := by decide +kernel
theorem dX11_away_15 : decode cX11_away 15 = .ok (.iload_n 1, 1) := by decide +kernel
theorem dX11_away_16 : decode cX11_away 16 = .ok (.iload_n 2, 1) := by decide +kernel
theorem dX11_away_17 : decode cX11_away 17 = .ok (.bastore, 1) := by decide +kernel
theorem dX11_away_18 : decode cX11_away 18 = .ok (.iconst 1, 1) := by decide +kernel
theorem dX11_away_19 : decode cX11_away 19 = .ok (.ireturn, 1) := by decide +kernel
theorem dX11_pass_0 : decode cX11_pass 0 = .ok (.iload_n 1, 1) := by decide +kernel
theorem dX11_pass_1 : decode cX11_pass 1 = .ok (.i2l, 1) := by decide +kernel
theorem dX11_pass_2 : decode cX11_pass 2 = .ok (.lconst 1, 1) := by decide +kernel
theorem dX11_pass_3 : decode cX11_pass 3 = .ok (.ldc2_w 194, 3) := by decide +kernel
theorem dX11_pass_6 : decode cX11_pass 6 = .ok (.invokestatic 90, 3) := by decide +kernel
theorem dX11_pass_9 : decode cX11_pass 9 = .ok (.ifCond .ne 6, 3) := by decide +kernel
theorem dX11_pass_12 : decode cX11_pass 12 = .ok (.bipush (-2), 2) := by decide +kernel
theorem dX11_pass_14 : decode cX11_pass 14 = .ok (.ireturn, 1) := by decide +kernel
theorem dX11_pass_15 : decode cX11_pass 15 = .ok (.aload_n 0, 1) := by decide +kernel
theorem dX11_pass_16 : decode cX11_pass 16 = .ok (.getfield 196, 3) := by decide +kernel
theorem dX11_pass_19 : decode cX11_pass 19 = .ok (.iload_n 1, 1) := by decide +kernel
theorem dX11_pass_20 : decode cX11_pass 20 = .ok (.iadd, 1) := by decide +kernel
theorem dX11_pass_21 : decode cX11_pass 21 = .ok (.bipush 60, 2) := by decide +kernel
theorem dX11_pass_23 : decode cX11_pass 23 = .ok (.if_icmp .le 6, 3) := by decide +kernel
theorem dX11_pass_26 : decode cX11_pass 26 = .ok (.bipush (-4), 2) := by decide +kernel
theorem dX11_pass_28 : decode cX11_pass 28 = .ok (.ireturn, 1) := by decide +kernel
theorem dX11_pass_29 : decode cX11_pass 29 = .ok (.iconst 0, 1) := by decide +kernel
theorem dX11_pass_30 : decode cX11_pass 30 = .ok (.istore_n 2, 1) := by decide +kernel
theorem dX11_pass_31 : decode cX11_pass 31 = .ok (.iload_n 2, 1) := by decide +kernel
theorem dX11_pass_32 : decode cX11_pass 32 = .ok (.iload_n 1, 1) := by decide +kernel
theorem dX11_pass_33 : decode cX11_pass 33 = .ok (.if_icmp .ge 88, 3) := by decide +kernel
theorem dX11_pass_36 : decode cX11_pass 36 = .ok (.iconst 0, 1) := by decide +kernel
theorem dX11_pass_37 : decode cX11_pass 37 = .ok (.istore_n 3, 1) := by decide +kernel
theorem dX11_pass_38 : decode cX11_pass 38 = .ok (.iload_n 3, 1) := by decide +kernel
theorem dX11_pass_39 : decode cX11_pass 39 = .ok (.aload_n 0, 1) := by decide +kernel
theorem dX11_pass_40 : decode cX11_pass 40 = .ok (.getfield 94, 3) := by decide +kernel
theorem dX11_pass_43 : decode cX11_pass 43 = .ok (.if_icmp .ge 62, 3) := by decide +kernel
theorem dX11_pass_46 : decode cX11_pass 46 = .ok (.aload_n 0, 1) := by decide +kernel
theorem dX11_pass_47 : decode cX11_pass 47 = .ok (.getfield 74, 3) := by decide +kernel
theorem dX11_pass_50 : decode cX11_pass 50 = .ok (.bipush 60, 2) := by decide +kernel
theorem dX11_pass_52 : decode cX11_pass 52 = .ok (.iload_n 3, 1) := by decide +kernel
theorem dX11_pass_53 : decode cX11_pass 53 = .ok (.imul, 1) := by decide +kernel
theorem dX11_pass_54 : decode cX11_pass 54 = .ok (.aload_n 0, 1) := by decide +kernel
theorem dX11_pass_55 : decode cX11_pass 55 = .ok (.getfield 196, 3) := by decide +kernel
theorem dX11_pass_58 : decode cX11_pass 58 = .ok (.iadd, 1) := by decide +kernel
theorem dX11_pass_59 : decode cX11_pass 59 = .ok (.aload_n 0, 1) := by decide +kernel
theorem dX11_pass_60 : decode cX11_pass 60 = .ok (.getfield 31, 3) := by decide +kernel
theorem dX11_pass_63 : decode cX11_pass 63 = .ok (.iload_n 3, 1) := by decide +kernel
theorem dX11_pass_64 : decode cX11_pass 64 = .ok (.iaload, 1) := by decide +kernel
theorem dX11_pass_65 : decode cX11_pass 65 = .ok (.iastore, 1) := by decide +kernel
theorem dX11_pass_66 : decode cX11_pass 66 = .ok (.aload_n 0, 1) := by decide +kernel
theorem dX11_pass_67 : decode cX11_pass 67 = .ok (.getfield 38, 3) := by decide +kernel
theorem dX11_pass_70 : decode cX11_pass 70 = .ok (.iload_n 3, 1) := by decide +kernel
theorem dX11_pass_71 : decode cX11_pass 71 = .ok (.dup2, 1) := by decide +kernel
theorem dX11_pass_72 : decode cX11_pass 72 = .ok (.iaload, 1) := by decide +kernel
theorem dX11_pass_73 : decode cX11_pass 73 = .ok (.aload_n 0, 1) := by decide +kernel
theorem dX11_pass_74 : decode cX11_pass 74 = .ok (.getfield 31, 3) := by decide +kernel
theorem dX11_pass_77 : decode cX11_pass 77 = .ok (.iload_n 3, 1) := by decide +kernel
theorem dX11_pass_78 : decode cX11_pass 78 = .ok (.iaload, 1) := by decide +kernel
theorem dX11_pass_79 : decode cX11_pass 79 = .ok (.iconst (-1), 1) := by decide +kernel
theorem dX11_pass_80 : decode cX11_pass 80 = .ok (.if_icmp .eq 16, 3) := by decide +kernel
theorem dX11_pass_83 : decode cX11_pass 83 = .ok (.aload_n 0, 1) := by decide +kernel
theorem dX11_pass_84 : decode cX11_pass 84 = .ok (.getfield 34, 3) := by decide +kernel
theorem dX11_pass_87 : decode cX11_pass 87 = .ok (.iload_n 3, 1) := by decide +kernel
theorem dX11_pass_88 : decode cX11_pass 88 = .ok (.baload, 1) := by decide +kernel
theorem dX11_pass_89 : decode cX11_pass 89 = .ok (.ifCond .ne 7, 3) := by decide +kernel
theorem dX11_pass_92 : decode cX11_pass 92 = .ok (.iconst 1, 1) := by decide +kernel
theorem dX11_pass_93 : decode cX11_pass 93 = .ok (.goto 4, 3) := by decide +kernel
theorem dX11_pass_96 : decode cX11_pass 96 = .ok (.iconst 0, 1) := by decide +kernel
theorem dX11_pass_97 : decode cX11_pass 97 = .ok (.iadd, 1) := by decide +kernel
theorem dX11_pass_98 : decode cX11_pass 98 = .ok (.iastore, 1) := by decide +kernel
theorem dX11_pass_99 : decode cX11_pass 99 = .ok (.iinc 3 1, 3) := by decide +kernel
theorem dX11_pass_102 : decode cX11_pass 102 = .ok (.goto (-64), 3) := by decide +kernel
theorem dX11_pass_105 : decode cX11_pass 105 = .ok (.aload_n 0, 1) := by decide +kernel
theorem dX11_pass_106 : decode cX11_pass 106 = .ok (.dup, 1) := by decide +kernel
theorem dX11_pass_107 : decode cX11_pass 107 = .ok (.getfield 196, 3) := by decide +kernel
theorem dX11_pass_110 : decode cX11_pass 110 = .ok (.iconst 1, 1) := by decide +kernel
theorem dX11_pass_111 : decode cX11_pass 111 = .ok (.iadd, 1) := by decide +kernel
theorem dX11_pass_112 : decode cX11_pass 112 = .ok (.putfield 196, 3) := by decide +kernel
theorem dX11_pass_115 : decode cX11_pass 115 = .ok (.iinc 2 1, 3) := by decide +kernel
theorem dX11_pass_118 : decode cX11_pass 118 = .ok (.goto (-87), 3) := by decide +kernel
theorem dX11_pass_121 : decode cX11_pass 121 = .ok (.aload_n 0, 1) := by decide +kernel
theorem dX11_pass_122 : decode cX11_pass 122 = .ok (.getfield 196, 3) := by decide +kernel
theorem dX11_pass_125 : decode cX11_pass 125 = .ok (.ireturn, 1) := by decide +kernel
theorem dX11_price_0 : decode cX11_price 0 = .ok (.iload_n 1, 1) := by decide +kernel
theorem dX11_price_1 : decode cX11_price 1 = .ok (.i2l, 1) := by decide +kernel
theorem dX11_price_2 : decode cX11_price 2 = .ok (.lconst 0, 1) := by decide +kernel
theorem dX11_price_3 : decode cX11_price 3 = .ok (.ldc2_w 97, 3) := by decide +kernel
theorem dX11_price_6 : decode cX11_price 6 = .ok (.invokestatic 90, 3) := by decide +kernel
theorem dX11_price_9 : decode cX11_price 9 = .ok (.ifCond .eq 27, 3) := by decide +kernel
theorem dX11_price_12 : decode cX11_price 12 = .ok (.iload_n 2, 1) := by decide +kernel
theorem dX11_price_13 : decode cX11_price 13 = .ok (.i2l, 1) := by decide +kernel
theorem dX11_price_14 : decode cX11_price 14 = .ok (.lconst 0, 1) := by decide +kernel
theorem dX11_price_15 : decode cX11_price 15 = .ok (.ldc2_w 199, 3) := by decide +kernel
theorem dX11_price_18 : decode cX11_price 18 = .ok (.invokestatic 90, 3) := by decide +kernel
theorem dX11_price_21 : decode cX11_price 21 = .ok (.ifCond .eq 15, 3) := by decide +kernel
theorem dX11_price_24 : decode cX11_price 24 = .ok (.iload_n 3, 1) := by decide +kernel
theorem dX11_price_25 : decode cX11_price 25 = .ok (.i2l, 1) := by decide +kernel
theorem dX11_price_26 : decode cX11_price 26 = .ok (.lconst 0, 1) := by decide +kernel
theorem dX11_price_27 : decode cX11_price 27 = .ok (.ldc2_w 201, 3) := by decide +kernel
theorem dX11_price_30 : decode cX11_price 30 = .ok (.invokestatic 90, 3) := by decide +kernel
theorem dX11_price_33 : decode cX11_price 33 = .ok (.ifCond .ne 6, 3) := by decide +kernel
theorem dX11_price_36 : decode cX11_price 36 = .ok (.bipush (-2), 2) := by decide +kernel
theorem dX11_price_38 : decode cX11_price 38 = .ok (.ireturn, 1) := by decide +kernel
theorem dX11_price_39 : decode cX11_price 39 = .ok (.aload_n 0, 1) := by decide +kernel
theorem dX11_price_40 : decode cX11_price 40 = .ok (.getfield 203, 3) := by decide +kernel
theorem dX11_price_43 : decode cX11_price 43 = .ok (.bipush 40, 2) := by decide +kernel
theorem dX11_price_45 : decode cX11_price 45 = .ok (.if_icmp .ne 6, 3) := by decide +kernel
theorem dX11_price_48 : decode cX11_price 48 = .ok (.bipush (-4), 2) := by decide +kernel
theorem dX11_price_50 : decode cX11_price 50 = .ok (.ireturn, 1) := by decide +kernel
theorem dX11_price_51 : decode cX11_price 51 = .ok (.aload_n 0, 1) := by decide +kernel
theorem dX11_price_52 : decode cX11_price 52 = .ok (.getfield 77, 3) := by decide +kernel
theorem dX11_price_55 : decode cX11_price 55 = .ok (.aload_n 0, 1) := by decide +kernel
theorem dX11_price_56 : decode cX11_price 56 = .ok (.getfield 203, 3) := by decide +kernel
theorem dX11_price_59 : decode cX11_price 59 = .ok (.iload_n 1, 1) := by decide +kernel
theorem dX11_price_60 : decode cX11_price 60 = .ok (.iastore, 1) := by decide +kernel
theorem dX11_price_61 : decode cX11_price 61 = .ok (.aload_n 0, 1) := by decide +kernel
theorem dX11_price_62 : decode cX11_price 62 = .ok (.getfield 80, 3) := by decide +kernel
theorem dX11_price_65 : decode cX11_price 65 = .ok (.aload_n 0, 1) := by decide +kernel
theorem dX11_price_66 : decode cX11_price 66 = .ok (.getfield 203, 3) := by decide +kernel
theorem dX11_price_69 : decode cX11_price 69 = .ok (.iload_n 2, 1) := by decide +kernel
theorem dX11_price_70 : decode cX11_price 70 = .ok (.iastore, 1) := by decide +kernel
theorem dX11_price_71 : decode cX11_price 71 = .ok (.aload_n 0, 1) := by decide +kernel
theorem dX11_price_72 : decode cX11_price 72 = .ok (.getfield 83, 3) := by decide +kernel
theorem dX11_price_75 : decode cX11_price 75 = .ok (.aload_n 0, 1) := by decide +kernel
theorem dX11_price_76 : decode cX11_price 76 = .ok (.getfield 203, 3) := by decide +kernel
theorem dX11_price_79 : decode cX11_price 79 = .ok (.iload_n 3, 1) := by decide +kernel
theorem dX11_price_80 : decode cX11_price 80 = .ok (.iastore, 1) := by decide +kernel
theorem dX11_price_81 : decode cX11_price 81 = .ok (.aload_n 0, 1) := by decide +kernel
theorem dX11_price_82 : decode cX11_price 82 = .ok (.dup, 1) := by decide +kernel
theorem dX11_price_83 : decode cX11_price 83 = .ok (.getfield 203, 3) := by decide +kernel
theorem dX11_price_86 : decode cX11_price 86 = .ok (.iconst 1, 1) := by decide +kernel
theorem dX11_price_87 : decode cX11_price 87 = .ok (.iadd, 1) := by decide +kernel
theorem dX11_price_88 : decode cX11_price 88 = .ok (.putfield 203, 3) := by decide +kernel
theorem dX11_price_91 : decode cX11_price 91 = .ok (.aload_n 0, 1) := by decide +kernel
theorem dX11_price_92 : decode cX11_price 92 = .ok (.getfield 203, 3) := by decide +kernel
theorem dX11_price_95 : decode cX11_price 95 = .ok (.ireturn, 1) := by decide +kernel
theorem dX11_priceOf_0 : decode cX11_priceOf 0 = .ok (.iconst (-1), 1) := by decide +kernel
theorem dX11_priceOf_1 : decode cX11_priceOf 1 = .ok (.istore 4, 2) := by decide +kernel
theorem dX11_priceOf_3 : decode cX11_priceOf 3 = .ok (.iconst 0, 1) := by decide +kernel
theorem dX11_priceOf_4 : decode cX11_priceOf 4 = .ok (.istore 5, 2) := by decide +kernel
theorem dX11_priceOf_6 : decode cX11_priceOf 6 = .ok (.iload 5, 2) := by decide +kernel
theorem dX11_priceOf_8 : decode cX11_priceOf 8 = .ok (.iload_n 3, 1) := by decide +kernel
theorem dX11_priceOf_9 : decode cX11_priceOf 9 = .ok (.if_icmp .ge 58, 3) := by decide +kernel
theorem dX11_priceOf_12 : decode cX11_priceOf 12 = .ok (.aload_n 0, 1) := by decide +kernel
theorem dX11_priceOf_13 : decode cX11_priceOf 13 = .ok (.getfield 77, 3) := by decide +kernel
theorem dX11_priceOf_16 : decode cX11_priceOf 16 = .ok (.iload 5, 2) := by decide +kernel
theorem dX11_priceOf_18 : decode cX11_priceOf 18 = .ok (.iaload, 1) := by decide +kernel
theorem dX11_priceOf_19 : decode cX11_priceOf 19 = .ok (.iload_n 1, 1) := by decide +kernel
theorem dX11_priceOf_20 : decode cX11_priceOf 20 = .ok (.if_icmp .ne 41, 3) := by decide +kernel
theorem dX11_priceOf_23 : decode cX11_priceOf 23 = .ok (.aload_n 0, 1) := by decide +kernel
theorem dX11_priceOf_24 : decode cX11_priceOf 24 = .ok (.getfield 80, 3) := by decide +kernel
theorem dX11_priceOf_27 : decode cX11_priceOf 27 = .ok (.iload 5, 2) := by decide +kernel
theorem dX11_priceOf_29 : decode cX11_priceOf 29 = .ok (.iaload, 1) := by decide +kernel
theorem dX11_priceOf_30 : decode cX11_priceOf 30 = .ok (.iload_n 2, 1) := by decide +kernel
theorem dX11_priceOf_31 : decode cX11_priceOf 31 = .ok (.if_icmp .gt 30, 3) := by decide +kernel
theorem dX11_priceOf_34 : decode cX11_priceOf 34 = .ok (.iload 4, 2) := by decide +kernel
theorem dX11_priceOf_36 : decode cX11_priceOf 36 = .ok (.iconst (-1), 1) := by decide +kernel
theorem dX11_priceOf_37 : decode cX11_priceOf 37 = .ok (.if_icmp .eq 20, 3) := by decide +kernel
theorem dX11_priceOf_40 : decode cX11_priceOf 40 = .ok (.aload_n 0, 1) := by decide +kernel
theorem dX11_priceOf_41 : decode cX11_priceOf 41 = .ok (.getfield 80, 3) := by decide +kernel
theorem dX11_priceOf_44 : decode cX11_priceOf 44 = .ok (.iload 5, 2) := by decide +kernel
theorem dX11_priceOf_46 : decode cX11_priceOf 46 = .ok (.iaload, 1) := by decide +kernel
theorem dX11_priceOf_47 : decode cX11_priceOf 47 = .ok (.aload_n 0, 1) := by decide +kernel
theorem dX11_priceOf_48 : decode cX11_priceOf 48 = .ok (.getfield 80, 3) := by decide +kernel
theorem dX11_priceOf_51 : decode cX11_priceOf 51 = .ok (.iload 4, 2) := by decide +kernel
theorem dX11_priceOf_53 : decode cX11_priceOf 53 = .ok (.iaload, 1) := by decide +kernel
theorem dX11_priceOf_54 : decode cX11_priceOf 54 = .ok (.if_icmp .lt 7, 3) := by decide +kernel
theorem dX11_priceOf_57 : decode cX11_priceOf 57 = .ok (.iload 5, 2) := by decide +kernel
theorem dX11_priceOf_59 : decode cX11_priceOf 59 = .ok (.istore 4, 2) := by decide +kernel
theorem dX11_priceOf_61 : decode cX11_priceOf 61 = .ok (.iinc 5 1, 3) := by decide +kernel
theorem dX11_priceOf_64 : decode cX11_priceOf 64 = .ok (.goto (-58), 3) := by decide +kernel
theorem dX11_priceOf_67 : decode cX11_priceOf 67 = .ok (.iload 4, 2) := by decide +kernel
theorem dX11_priceOf_69 : decode cX11_priceOf 69 = .ok (.iconst (-1), 1) := by decide +kernel
theorem dX11_priceOf_70 : decode cX11_priceOf 70 = .ok (.if_icmp .ne 7, 3) := by decide +kernel
theorem dX11_priceOf_73 : decode cX11_priceOf 73 = .ok (.iconst 0, 1) := by decide +kernel
theorem dX11_priceOf_74 : decode cX11_priceOf 74 = .ok (.goto 10, 3) := by decide +kernel
theorem dX11_priceOf_77 : decode cX11_priceOf 77 = .ok (.aload_n 0, 1) := by decide +kernel
theorem dX11_priceOf_78 : decode cX11_priceOf 78 = .ok (.getfield 83, 3) := by decide +kernel
theorem dX11_priceOf_81 : decode cX11_priceOf 81 = .ok (.iload 4, 2) := by decide +kernel
theorem dX11_priceOf_83 : decode cX11_priceOf 83 = .ok (.iaload, 1) := by decide +kernel
theorem dX11_priceOf_84 : decode cX11_priceOf 84 = .ok (.ireturn, 1) := by decide +kernel
theorem dX11_priced_0 : decode cX11_priced 0 = .ok (.iload_n 1, 1) := by decide +kernel
theorem dX11_priced_1 : decode cX11_priced 1 = .ok (.i2l, 1) := by decide +kernel
theorem dX11_priced_2 : decode cX11_priced 2 = .ok (.lconst 0, 1) := by decide +kernel
theorem dX11_priced_3 : decode cX11_priced 3 = .ok (.ldc2_w 97, 3) := by decide +kernel
theorem dX11_priced_6 : decode cX11_priced 6 = .ok (.invokestatic 90, 3) := by decide +kernel
theorem dX11_priced_9 : decode cX11_priced 9 = .ok (.ifCond .eq 28, 3) := by decide +kernel
theorem dX11_priced_12 : decode cX11_priced 12 = .ok (.iload_n 2, 1) := by decide +kernel
theorem dX11_priced_13 : decode cX11_priced 13 = .ok (.i2l, 1) := by decide +kernel
theorem dX11_priced_14 : decode cX11_priced 14 = .ok (.lconst 0, 1) := by decide +kernel
theorem dX11_priced_15 : decode cX11_priced 15 = .ok (.ldc2_w 199, 3) := by decide +kernel
theorem dX11_priced_18 : decode cX11_priced 18 = .ok (.invokestatic 90, 3) := by decide +kernel
theorem dX11_priced_21 : decode cX11_priced 21 = .ok (.ifCond .eq 16, 3) := by decide +kernel
theorem dX11_priced_24 : decode cX11_priced 24 = .ok (.aload_n 0, 1) := by decide +kernel
theorem dX11_priced_25 : decode cX11_priced 25 = .ok (.iload_n 1, 1) := by decide +kernel
theorem dX11_priced_26 : decode cX11_priced 26 = .ok (.iload_n 2, 1) := by decide +kernel
theorem dX11_priced_27 : decode cX11_priced 27 = .ok (.aload_n 0, 1) := by decide +kernel
theorem dX11_priced_28 : decode cX11_priced 28 = .ok (.getfield 203, 3) := by decide +kernel
theorem dX11_priced_31 : decode cX11_priced 31 = .ok (.invokevirtual 206, 3) := by decide +kernel
theorem dX11_priced_34 : decode cX11_priced 34 = .ok (.goto 5, 3) := by decide +kernel
theorem dX11_priced_37 : decode cX11_priced 37 = .ok (.bipush (-2), 2) := by decide +kernel
theorem dX11_priced_39 : decode cX11_priced 39 = .ok (.ireturn, 1) := by decide +kernel
theorem dX11_had_0 : decode cX11_had 0 = .ok (.aload_n 0, 1) := by decide +kernel
theorem dX11_had_1 : decode cX11_had 1 = .ok (.iload_n 1, 1) := by decide +kernel
theorem dX11_had_2 : decode cX11_had 2 = .ok (.invokevirtual 107, 3) := by decide +kernel
theorem dX11_had_5 : decode cX11_had 5 = .ok (.ifCond .eq 33, 3) := by decide +kernel
theorem dX11_had_8 : decode cX11_had 8 = .ok (.iload_n 2, 1) := by decide +kernel
theorem dX11_had_9 : decode cX11_had 9 = .ok (.i2l, 1) := by decide +kernel
theorem dX11_had_10 : decode cX11_had 10 = .ok (.lconst 0, 1) := by decide +kernel
theorem dX11_had_11 : decode cX11_had 11 = .ok (.aload_n 0, 1) := by decide +kernel
theorem dX11_had_12 : decode cX11_had 12 = .ok (.getfield 196, 3) := by decide +kernel
theorem dX11_had_15 : decode cX11_had 15 = .ok (.iconst 1, 1) := by decide +kernel
theorem dX11_had_16 : decode cX11_had 16 = .ok (.isub, 1) := by decide +kernel
theorem dX11_had_17 : decode cX11_had 17 = .ok (.i2l, 1) := by decide +kernel
theorem dX11_had_18 : decode cX11_had 18 = .ok (.invokestatic 90, 3) := by decide +kernel
theorem dX11_had_21 : decode cX11_had 21 = .ok (.ifCond .eq 17, 3) := by decide +kernel
theorem dX11_had_24 : decode cX11_had 24 = .ok (.aload_n 0, 1) := by decide +kernel
theorem dX11_had_25 : decode cX11_had 25 = .ok (.getfield 74, 3) := by decide +kernel
theorem dX11_had_28 : decode cX11_had 28 = .ok (.bipush 60, 2) := by decide +kernel
theorem dX11_had_30 : decode cX11_had 30 = .ok (.iload_n 1, 1) := by decide +kernel
theorem dX11_had_31 : decode cX11_had 31 = .ok (.imul, 1) := by decide +kernel
theorem dX11_had_32 : decode cX11_had 32 = .ok (.iload_n 2, 1) := by decide +kernel
theorem dX11_had_33 : decode cX11_had 33 = .ok (.iadd, 1) := by decide +kernel
theorem dX11_had_34 : decode cX11_had 34 = .ok (.iaload, 1) := by decide +kernel
theorem dX11_had_35 : decode cX11_had 35 = .ok (.goto 5, 3) := by decide +kernel
theorem dX11_had_38 : decode cX11_had 38 = .ok (.bipush (-2), 2) := by decide +kernel
theorem dX11_had_40 : decode cX11_had 40 = .ok (.ireturn, 1) := by decide +kernel
theorem dX11_billOf_0 : decode cX11_billOf 0 = .ok (.iconst 0, 1) := by decide +kernel
theorem dX11_billOf_1 : decode cX11_billOf 1 = .ok (.istore_n 3, 1) := by decide +kernel
theorem dX11_billOf_2 : decode cX11_billOf 2 = .ok (.iconst 0, 1) := by decide +kernel
theorem dX11_billOf_3 : decode cX11_billOf 3 = .ok (.istore 4, 2) := by decide +kernel
theorem dX11_billOf_5 : decode cX11_billOf 5 = .ok (.iload 4, 2) := by decide +kernel
theorem dX11_billOf_7 : decode cX11_billOf 7 = .ok (.aload_n 0, 1) := by decide +kernel
theorem dX11_billOf_8 : decode cX11_billOf 8 = .ok (.getfield 196, 3) := by decide +kernel
theorem dX11_billOf_11 : decode cX11_billOf 11 = .ok (.if_icmp .ge 50, 3) := by decide +kernel
theorem dX11_billOf_14 : decode cX11_billOf 14 = .ok (.aload_n 0, 1) := by decide +kernel
theorem dX11_billOf_15 : decode cX11_billOf 15 = .ok (.getfield 74, 3) := by decide +kernel
theorem dX11_billOf_18 : decode cX11_billOf 18 = .ok (.bipush 60, 2) := by decide +kernel
theorem dX11_billOf_20 : decode cX11_billOf 20 = .ok (.iload_n 1, 1) := by decide +kernel
theorem dX11_billOf_21 : decode cX11_billOf 21 = .ok (.imul, 1) := by decide +kernel
theorem dX11_billOf_22 : decode cX11_billOf 22 = .ok (.iload 4, 2) := by decide +kernel
theorem dX11_billOf_24 : decode cX11_billOf 24 = .ok (.iadd, 1) := by decide +kernel
theorem dX11_billOf_25 : decode cX11_billOf 25 = .ok (.iaload, 1) := by decide +kernel
theorem dX11_billOf_26 : decode cX11_billOf 26 = .ok (.istore 5, 2) := by decide +kernel
theorem dX11_billOf_28 : decode cX11_billOf 28 = .ok (.iload_n 3, 1) := by decide +kernel
theorem dX11_billOf_29 : decode cX11_billOf 29 = .ok (.iload 5, 2) := by decide +kernel
theorem dX11_billOf_31 : decode cX11_billOf 31 = .ok (.iconst (-1), 1) := by decide +kernel
theorem dX11_billOf_32 : decode cX11_billOf 32 = .ok (.if_icmp .ne 7, 3) := by decide +kernel
theorem dX11_billOf_35 : decode cX11_billOf 35 = .ok (.iconst 0, 1) := by decide +kernel
theorem dX11_billOf_36 : decode cX11_billOf 36 = .ok (.goto 17, 3) := by decide +kernel
theorem dX11_billOf_39 : decode cX11_billOf 39 = .ok (.aload_n 0, 1) := by decide +kernel
theorem dX11_billOf_40 : decode cX11_billOf 40 = .ok (.aload_n 0, 1) := by decide +kernel
theorem dX11_billOf_41 : decode cX11_billOf 41 = .ok (.getfield 7, 3) := by decide +kernel
theorem dX11_billOf_44 : decode cX11_billOf 44 = .ok (.iload 5, 2) := by decide +kernel
theorem dX11_billOf_46 : decode cX11_billOf 46 = .ok (.iaload, 1) := by decide +kernel
theorem dX11_billOf_47 : decode cX11_billOf 47 = .ok (.iload 4, 2) := by decide +kernel
theorem dX11_billOf_49 : decode cX11_billOf 49 = .ok (.iload_n 2, 1) := by decide +kernel
theorem dX11_billOf_50 : decode cX11_billOf 50 = .ok (.invokevirtual 206, 3) := by decide +kernel
theorem dX11_billOf_53 : decode cX11_billOf 53 = .ok (.iadd, 1) := by decide +kernel
theorem dX11_billOf_54 : decode cX11_billOf 54 = .ok (.istore_n 3, 1) := by decide +kernel
theorem dX11_billOf_55 : decode cX11_billOf 55 = .ok (.iinc 4 1, 3) := by decide +kernel
theorem dX11_billOf_58 : decode cX11_billOf 58 = .ok (.goto (-53), 3) := by decide +kernel
theorem dX11_billOf_61 : decode cX11_billOf 61 = .ok (.iload_n 3, 1) := by decide +kernel
theorem dX11_billOf_62 : decode cX11_billOf 62 = .ok (.ireturn, 1) := by decide +kernel
theorem dX11_bill_0 : decode cX11_bill 0 = .ok (.aload_n 0, 1) := by decide +kernel
theorem dX11_bill_1 : decode cX11_bill 1 = .ok (.iload_n 1, 1) := by decide +kernel
theorem dX11_bill_2 : decode cX11_bill 2 = .ok (.invokevirtual 107, 3) := by decide +kernel
theorem dX11_bill_5 : decode cX11_bill 5 = .ok (.ifCond .eq 15, 3) := by decide +kernel
theorem dX11_bill_8 : decode cX11_bill 8 = .ok (.aload_n 0, 1) := by decide +kernel
theorem dX11_bill_9 : decode cX11_bill 9 = .ok (.iload_n 1, 1) := by decide +kernel
theorem dX11_bill_10 : decode cX11_bill 10 = .ok (.aload_n 0, 1) := by decide +kernel
theorem dX11_bill_11 : decode cX11_bill 11 = .ok (.getfield 203, 3) := by decide +kernel
theorem dX11_bill_14 : decode cX11_bill 14 = .ok (.invokevirtual 210, 3) := by decide +kernel
theorem dX11_bill_17 : decode cX11_bill 17 = .ok (.goto 5, 3) := by decide +kernel
theorem dX11_bill_20 : decode cX11_bill 20 = .ok (.bipush (-2), 2) := by decide +kernel
theorem dX11_bill_22 : decode cX11_bill 22 = .ok (.ireturn, 1) := by decide +kernel
theorem dX11_matter_0 : decode cX11_matter 0 = .ok (.aload_n 0, 1) := by decide +kernel
theorem dX11_matter_1 : decode cX11_matter 1 = .ok (.getfield 203, 3) := by decide +kernel
theorem dX11_matter_4 : decode cX11_matter 4 = .ok (.ifCond .ne 6, 3) := by decide +kernel
theorem dX11_matter_7 : decode cX11_matter 7 = .ok (.ldc 213, 2) := by decide +kernel
theorem dX11_matter_9 : decode cX11_matter 9 = .ok (.ireturn, 1) := by decide +kernel
theorem dX11_matter_10 : decode cX11_matter 10 = .ok (.iconst 0, 1) := by decide +kernel
theorem dX11_matter_11 : decode cX11_matter 11 = .ok (.istore_n 1, 1) := by decide +kernel
theorem dX11_matter_12 : decode cX11_matter 12 = .ok (.iconst 0, 1) := by decide +kernel
theorem dX11_matter_13 : decode cX11_matter 13 = .ok (.istore_n 2, 1) := by decide +kernel
theorem dX11_matter_14 : decode cX11_matter 14 = .ok (.iload_n 2, 1) := by decide +kernel
theorem dX11_matter_15 : decode cX11_matter 15 = .ok (.aload_n 0, 1) := by decide +kernel
theorem dX11_matter_16 : decode cX11_matter 16 = .ok (.getfield 94, 3) := by decide +kernel
theorem dX11_matter_19 : decode cX11_matter 19 = .ok (.if_icmp .ge 33, 3) := by decide +kernel
theorem dX11_matter_22 : decode cX11_matter 22 = .ok (.iload_n 1, 1) := by decide +kernel
theorem dX11_matter_23 : decode cX11_matter 23 = .ok (.aload_n 0, 1) := by decide +kernel
theorem dX11_matter_24 : decode cX11_matter 24 = .ok (.iload_n 2, 1) := by decide +kernel
theorem dX11_matter_25 : decode cX11_matter 25 = .ok (.aload_n 0, 1) := by decide +kernel
theorem dX11_matter_26 : decode cX11_matter 26 = .ok (.getfield 203, 3) := by decide +kernel
theorem dX11_matter_29 : decode cX11_matter 29 = .ok (.iconst 1, 1) := by decide +kernel
theorem dX11_matter_30 : decode cX11_matter 30 = .ok (.isub, 1) := by decide +kernel
theorem dX11_matter_31 : decode cX11_matter 31 = .ok (.invokevirtual 210, 3) := by decide +kernel
theorem dX11_matter_34 : decode cX11_matter 34 = .ok (.aload_n 0, 1) := by decide +kernel
theorem dX11_matter_35 : decode cX11_matter 35 = .ok (.iload_n 2, 1) := by decide +kernel
theorem dX11_matter_36 : decode cX11_matter 36 = .ok (.aload_n 0, 1) := by decide +kernel
theorem dX11_matter_37 : decode cX11_matter 37 = .ok (.getfield 203, 3) := by decide +kernel
theorem dX11_matter_40 : decode cX11_matter 40 = .ok (.invokevirtual 210, 3) := by decide +kernel
theorem dX11_matter_43 : decode cX11_matter 43 = .ok (.isub, 1) := by decide +kernel
theorem dX11_matter_44 : decode cX11_matter 44 = .ok (.iadd, 1) := by decide +kernel
theorem dX11_matter_45 : decode cX11_matter 45 = .ok (.istore_n 1, 1) := by decide +kernel
theorem dX11_matter_46 : decode cX11_matter 46 = .ok (.iinc 2 1, 3) := by decide +kernel
theorem dX11_matter_49 : decode cX11_matter 49 = .ok (.goto (-35), 3) := by decide +kernel
theorem dX11_matter_52 : decode cX11_matter 52 = .ok (.iload_n 1, 1) := by decide +kernel
theorem dX11_matter_53 : decode cX11_matter 53 = .ok (.ireturn, 1) := by decide +kernel
theorem dX11_count_0 : decode cX11_count 0 = .ok (.iconst 0, 1) := by decide +kernel
theorem dX11_count_1 : decode cX11_count 1 = .ok (.istore_n 2, 1) := by decide +kernel
theorem dX11_count_2 : decode cX11_count 2 = .ok (.iload_n 1, 1) := by decide +kernel
theorem dX11_count_3 : decode cX11_count 3 = .ok (.tableswitch 98 0 6 #[41, 46, 51, 56, 83, 88, 93], 41) := by decide +kernel
theorem dX11_count_44 : decode cX11_count 44 = .ok (.aload_n 0, 1) := by decide +kernel
theorem dX11_count_45 : decode cX11_count 45 = .ok (.getfield 86, 3) := by decide +kernel
theorem dX11_count_48 : decode cX11_count 48 = .ok (.ireturn, 1) := by decide +kernel
theorem dX11_count_49 : decode cX11_count 49 = .ok (.aload_n 0, 1) := by decide +kernel
theorem dX11_count_50 : decode cX11_count 50 = .ok (.getfield 94, 3) := by decide +kernel
theorem dX11_count_53 : decode cX11_count 53 = .ok (.ireturn, 1) := by decide +kernel
theorem dX11_count_54 : decode cX11_count 54 = .ok (.aload_n 0, 1) := by decide +kernel
theorem dX11_count_55 : decode cX11_count 55 = .ok (.getfield 132, 3) := by decide +kernel
theorem dX11_count_58 : decode cX11_count 58 = .ok (.ireturn, 1) := by decide +kernel
theorem dX11_count_59 : decode cX11_count 59 = .ok (.iconst 0, 1) := by decide +kernel
theorem dX11_count_60 : decode cX11_count 60 = .ok (.istore_n 3, 1) := by decide +kernel
theorem dX11_count_61 : decode cX11_count 61 = .ok (.iload_n 3, 1) := by decide +kernel
theorem dX11_count_62 : decode cX11_count 62 = .ok (.bipush 8, 2) := by decide +kernel
theorem dX11_count_64 : decode cX11_count 64 = .ok (.if_icmp .ge 20, 3) := by decide +kernel
theorem dX11_count_67 : decode cX11_count 67 = .ok (.iload_n 2, 1) := by decide +kernel
theorem dX11_count_68 : decode cX11_count 68 = .ok (.aload_n 0, 1) := by decide +kernel
theorem dX11_count_69 : decode cX11_count 69 = .ok (.getfield 148, 3) := by decide +kernel
theorem dX11_count_72 : decode cX11_count 72 = .ok (.iload_n 3, 1) := by decide +kernel
theorem dX11_count_73 : decode cX11_count 73 = .ok (.ishr, 1) := by decide +kernel
theorem dX11_count_74 : decode cX11_count 74 = .ok (.iconst 1, 1) := by decide +kernel
theorem dX11_count_75 : decode cX11_count 75 = .ok (.iand, 1) := by decide +kernel
theorem dX11_count_76 : decode cX11_count 76 = .ok (.iadd, 1) := by decide +kernel
theorem dX11_count_77 : decode cX11_count 77 = .ok (.istore_n 2, 1) := by decide +kernel
theorem dX11_count_78 : decode cX11_count 78 = .ok (.iinc 3 1, 3) := by decide +kernel
theorem dX11_count_81 : decode cX11_count 81 = .ok (.goto (-20), 3) := by decide +kernel
theorem dX11_count_84 : decode cX11_count 84 = .ok (.iload_n 2, 1) := by decide +kernel
theorem dX11_count_85 : decode cX11_count 85 = .ok (.ireturn, 1) := by decide +kernel
theorem dX11_count_86 : decode cX11_count 86 = .ok (.aload_n 0, 1) := by decide +kernel
theorem dX11_count_87 : decode cX11_count 87 = .ok (.getfield 196, 3) := by decide +kernel
theorem dX11_count_90 : decode cX11_count 90 = .ok (.ireturn, 1) := by decide +kernel
theorem dX11_count_91 : decode cX11_count 91 = .ok (.aload_n 0, 1) := by decide +kernel
theorem dX11_count_92 : decode cX11_count 92 = .ok (.getfield 203, 3) := by decide +kernel
theorem dX11_count_95 : decode cX11_count 95 = .ok (.ireturn, 1) := by decide +kernel
theorem dX11_count_96 : decode cX11_count 96 = .ok (.aload_n 0, 1) := by decide +kernel
theorem dX11_count_97 : decode cX11_count 97 = .ok (.invokevirtual 170, 3) := by decide +kernel
theorem dX11_count_100 : decode cX11_count 100 = .ok (.ireturn, 1) := by decide +kernel
theorem dX11_count_101 : decode cX11_count 101 = .ok (.bipush (-2), 2) := by decide +kernel
theorem dX11_count_103 : decode cX11_count 103 = .ok (.ireturn, 1) := by decide +kernel
theorem dX11_digest_0 : decode cX11_digest 0 = .ok (.ldc2_w 214, 3) := by decide +kernel
theorem dX11_digest_3 : decode cX11_digest 3 = .ok (.lstore_n 1, 1) := by decide +kernel
theorem dX11_digest_4 : decode cX11_digest 4 = .ok (.iconst 0, 1) := by decide +kernel
theorem dX11_digest_5 : decode cX11_digest 5 = .ok (.istore_n 3, 1) := by decide +kernel
theorem dX11_digest_6 : decode cX11_digest 6 = .ok (.iload_n 3, 1) := by decide +kernel
theorem dX11_digest_7 : decode cX11_digest 7 = .ok (.bipush 7, 2) := by decide +kernel
theorem dX11_digest_9 : decode cX11_digest 9 = .ok (.if_icmp .ge 22, 3) := by decide +kernel
theorem dX11_digest_12 : decode cX11_digest 12 = .ok (.ldc2_w 216, 3) := by decide +kernel
theorem dX11_digest_15 : decode cX11_digest 15 = .ok (.lload_n 1, 1) := by decide +kernel
theorem dX11_digest_16 : decode cX11_digest 16 = .ok (.lmul, 1) := by decide +kernel
theorem dX11_digest_17 : decode cX11_digest 17 = .ok (.aload_n 0, 1) := by decide +kernel
theorem dX11_digest_18 : decode cX11_digest 18 = .ok (.iload_n 3, 1) := by decide +kernel
theorem dX11_digest_19 : decode cX11_digest 19 = .ok (.invokevirtual 218, 3) := by decide +kernel
theorem dX11_digest_22 : decode cX11_digest 22 = .ok (.i2l, 1) := by decide +kernel
theorem dX11_digest_23 : decode cX11_digest 23 = .ok (.ladd, 1) := by decide +kernel
theorem dX11_digest_24 : decode cX11_digest 24 = .ok (.lstore_n 1, 1) := by decide +kernel
theorem dX11_digest_25 : decode cX11_digest 25 = .ok (.iinc 3 1, 3) := by decide +kernel
theorem dX11_digest_28 : decode cX11_digest 28 = .ok (.goto (-22), 3) := by decide +kernel
theorem dX11_digest_31 : decode cX11_digest 31 = .ok (.iconst 0, 1) := by decide +kernel
theorem dX11_digest_32 : decode cX11_digest 32 = .ok (.istore_n 3, 1) := by decide +kernel
theorem dX11_digest_33 : decode cX11_digest 33 = .ok (.iload_n 3, 1) := by decide +kernel
theorem dX11_digest_34 : decode cX11_digest 34 = .ok (.aload_n 0, 1) := by decide +kernel
theorem dX11_digest_35 : decode cX11_digest 35 = .ok (.getfield 94, 3) := by decide +kernel
theorem dX11_digest_38 : decode cX11_digest 38 = .ok (.if_icmp .ge 53, 3) := by decide +kernel
theorem dX11_digest_41 : decode cX11_digest 41 = .ok (.iconst 1, 1) := by decide +kernel
theorem dX11_digest_42 : decode cX11_digest 42 = .ok (.istore 4, 2) := by decide +kernel
theorem dX11_digest_44 : decode cX11_digest 44 = .ok (.iload 4, 2) := by decide +kernel
theorem dX11_digest_46 : decode cX11_digest 46 = .ok (.bipush 6, 2) := by decide +kernel
theorem dX11_digest_48 : decode cX11_digest 48 = .ok (.if_icmp .ge 24, 3) := by decide +kernel
theorem dX11_digest_51 : decode cX11_digest 51 = .ok (.ldc2_w 216, 3) := by decide +kernel
theorem dX11_digest_54 : decode cX11_digest 54 = .ok (.lload_n 1, 1) := by decide +kernel
theorem dX11_digest_55 : decode cX11_digest 55 = .ok (.lmul, 1) := by decide +kernel
theorem dX11_digest_56 : decode cX11_digest 56 = .ok (.aload_n 0, 1) := by decide +kernel
theorem dX11_digest_57 : decode cX11_digest 57 = .ok (.iload_n 3, 1) := by decide +kernel
theorem dX11_digest_58 : decode cX11_digest 58 = .ok (.iload 4, 2) := by decide +kernel
theorem dX11_digest_60 : decode cX11_digest 60 = .ok (.invokevirtual 221, 3) := by decide +kernel
theorem dX11_digest_63 : decode cX11_digest 63 = .ok (.i2l, 1) := by decide +kernel
theorem dX11_digest_64 : decode cX11_digest 64 = .ok (.ladd, 1) := by decide +kernel
theorem dX11_digest_65 : decode cX11_digest 65 = .ok (.lstore_n 1, 1) := by decide +kernel
theorem dX11_digest_66 : decode cX11_digest 66 = .ok (.iinc 4 1, 3) := by decide +kernel
theorem dX11_digest_69 : decode cX11_digest 69 = .ok (.goto (-25), 3) := by decide +kernel
theorem dX11_digest_72 : decode cX11_digest 72 = .ok (.ldc2_w 216, 3) := by decide +kernel
theorem dX11_digest_75 : decode cX11_digest 75 = .ok (.lload_n 1, 1) := by decide +kernel
theorem dX11_digest_76 : decode cX11_digest 76 = .ok (.lmul, 1) := by decide +kernel
theorem dX11_digest_77 : decode cX11_digest 77 = .ok (.aload_n 0, 1) := by decide +kernel
theorem dX11_digest_78 : decode cX11_digest 78 = .ok (.iload_n 3, 1) := by decide +kernel
theorem dX11_digest_79 : decode cX11_digest 79 = .ok (.invokevirtual 224, 3) := by decide +kernel
theorem dX11_digest_82 : decode cX11_digest 82 = .ok (.i2l, 1) := by decide +kernel
theorem dX11_digest_83 : decode cX11_digest 83 = .ok (.ladd, 1) := by decide +kernel
theorem dX11_digest_84 : decode cX11_digest 84 = .ok (.lstore_n 1, 1) := by decide +kernel
theorem dX11_digest_85 : decode cX11_digest 85 = .ok (.iinc 3 1, 3) := by decide +kernel
theorem dX11_digest_88 : decode cX11_digest 88 = .ok (.goto (-55), 3) := by decide +kernel
theorem dX11_digest_91 : decode cX11_digest 91 = .ok (.iconst 0, 1) := by decide +kernel
theorem dX11_digest_92 : decode cX11_digest 92 = .ok (.istore_n 3, 1) := by decide +kernel
theorem dX11_digest_93 : decode cX11_digest 93 = .ok (.iload_n 3, 1) := by decide +kernel
theorem dX11_digest_94 : decode cX11_digest 94 = .ok (.aload_n 0, 1) := by decide +kernel
theorem dX11_digest_95 : decode cX11_digest 95 = .ok (.getfield 94, 3) := by decide +kernel
theorem dX11_digest_98 : decode cX11_digest 98 = .ok (.if_icmp .ge 23, 3) := by decide +kernel
theorem dX11_digest_101 : decode cX11_digest 101 = .ok (.ldc2_w 216, 3) := by decide +kernel
theorem dX11_digest_104 : decode cX11_digest 104 = .ok (.lload_n 1, 1) := by decide +kernel
theorem dX11_digest_105 : decode cX11_digest 105 = .ok (.lmul, 1) := by decide +kernel
theorem dX11_digest_106 : decode cX11_digest 106 = .ok (.aload_n 0, 1) := by decide +kernel
theorem dX11_digest_107 : decode cX11_digest 107 = .ok (.getfield 41, 3) := by decide +kernel
theorem dX11_digest_110 : decode cX11_digest 110 = .ok (.iload_n 3, 1) := by decide +kernel
theorem dX11_digest_111 : decode cX11_digest 111 = .ok (.iaload, 1) := by decide +kernel
theorem dX11_digest_112 : decode cX11_digest 112 = .ok (.i2l, 1) := by decide +kernel
theorem dX11_digest_113 : decode cX11_digest 113 = .ok (.ladd, 1) := by decide +kernel
theorem dX11_digest_114 : decode cX11_digest 114 = .ok (.lstore_n 1, 1) := by decide +kernel
theorem dX11_digest_115 : decode cX11_digest 115 = .ok (.iinc 3 1, 3) := by decide +kernel
theorem dX11_digest_118 : decode cX11_digest 118 = .ok (.goto (-25), 3) := by decide +kernel
theorem dX11_digest_121 : decode cX11_digest 121 = .ok (.iconst 0, 1) := by decide +kernel
theorem dX11_digest_122 : decode cX11_digest 122 = .ok (.istore_n 3, 1) := by decide +kernel
theorem dX11_digest_123 : decode cX11_digest 123 = .ok (.iload_n 3, 1) := by decide +kernel
theorem dX11_digest_124 : decode cX11_digest 124 = .ok (.iconst 3, 1) := by decide +kernel
theorem dX11_digest_125 : decode cX11_digest 125 = .ok (.if_icmp .ge 23, 3) := by decide +kernel
theorem dX11_digest_128 : decode cX11_digest 128 = .ok (.ldc2_w 216, 3) := by decide +kernel
theorem dX11_digest_131 : decode cX11_digest 131 = .ok (.lload_n 1, 1) := by decide +kernel
theorem dX11_digest_132 : decode cX11_digest 132 = .ok (.lmul, 1) := by decide +kernel
theorem dX11_digest_133 : decode cX11_digest 133 = .ok (.aload_n 0, 1) := by decide +kernel
theorem dX11_digest_134 : decode cX11_digest 134 = .ok (.getfield 47, 3) := by decide +kernel
theorem dX11_digest_137 : decode cX11_digest 137 = .ok (.iload_n 3, 1) := by decide +kernel
theorem dX11_digest_138 : decode cX11_digest 138 = .ok (.iaload, 1) := by decide +kernel
theorem dX11_digest_139 : decode cX11_digest 139 = .ok (.i2l, 1) := by decide +kernel
theorem dX11_digest_140 : decode cX11_digest 140 = .ok (.ladd, 1) := by decide +kernel
theorem dX11_digest_141 : decode cX11_digest 141 = .ok (.lstore_n 1, 1) := by decide +kernel
theorem dX11_digest_142 : decode cX11_digest 142 = .ok (.iinc 3 1, 3) := by decide +kernel
theorem dX11_digest_145 : decode cX11_digest 145 = .ok (.goto (-22), 3) := by decide +kernel
theorem dX11_digest_148 : decode cX11_digest 148 = .ok (.lload_n 1, 1) := by decide +kernel
theorem dX11_digest_149 : decode cX11_digest 149 = .ok (.lreturn, 1) := by decide +kernel
theorem dJ6_bitCount_0f7a4_0 : decode cJ6_bitCount_0f7a4 0 = .ok (.iload_n 0, 1) := by decide +kernel
theorem dJ6_bitCount_0f7a4_1 : decode cJ6_bitCount_0f7a4 1 = .ok (.iload_n 0, 1) := by decide +kernel
theorem dJ6_bitCount_0f7a4_2 : decode cJ6_bitCount_0f7a4 2 = .ok (.iconst 1, 1) := by decide +kernel
theorem dJ6_bitCount_0f7a4_3 : decode cJ6_bitCount_0f7a4 3 = .ok (.iushr, 1) := by decide +kernel
theorem dJ6_bitCount_0f7a4_4 : decode cJ6_bitCount_0f7a4 4 = .ok (.ldc_w 265, 3) := by decide +kernel
theorem dJ6_bitCount_0f7a4_7 : decode cJ6_bitCount_0f7a4 7 = .ok (.iand, 1) := by decide +kernel
theorem dJ6_bitCount_0f7a4_8 : decode cJ6_bitCount_0f7a4 8 = .ok (.isub, 1) := by decide +kernel
theorem dJ6_bitCount_0f7a4_9 : decode cJ6_bitCount_0f7a4 9 = .ok (.istore_n 0, 1) := by decide +kernel
theorem dJ6_bitCount_0f7a4_10 : decode cJ6_bitCount_0f7a4 10 = .ok (.iload_n 0, 1) := by decide +kernel
theorem dJ6_bitCount_0f7a4_11 : decode cJ6_bitCount_0f7a4 11 = .ok (.ldc_w 266, 3) := by decide +kernel
theorem dJ6_bitCount_0f7a4_14 : decode cJ6_bitCount_0f7a4 14 = .ok (.iand, 1) := by decide +kernel
theorem dJ6_bitCount_0f7a4_15 : decode cJ6_bitCount_0f7a4 15 = .ok (.iload_n 0, 1) := by decide +kernel
theorem dJ6_bitCount_0f7a4_16 : decode cJ6_bitCount_0f7a4 16 = .ok (.iconst 2, 1) := by decide +kernel
theorem dJ6_bitCount_0f7a4_17 : decode cJ6_bitCount_0f7a4 17 = .ok (.iushr, 1) := by decide +kernel
theorem dJ6_bitCount_0f7a4_18 : decode cJ6_bitCount_0f7a4 18 = .ok (.ldc_w 266, 3) := by decide +kernel
theorem dJ6_bitCount_0f7a4_21 : decode cJ6_bitCount_0f7a4 21 = .ok (.iand, 1) := by decide +kernel
theorem dJ6_bitCount_0f7a4_22 : decode cJ6_bitCount_0f7a4 22 = .ok (.iadd, 1) := by decide +kernel
theorem dJ6_bitCount_0f7a4_23 : decode cJ6_bitCount_0f7a4 23 = .ok (.istore_n 0, 1) := by decide +kernel
theorem dJ6_bitCount_0f7a4_24 : decode cJ6_bitCount_0f7a4 24 = .ok (.iload_n 0, 1) := by decide +kernel
theorem dJ6_bitCount_0f7a4_25 : decode cJ6_bitCount_0f7a4 25 = .ok (.iload_n 0, 1) := by decide +kernel
theorem dJ6_bitCount_0f7a4_26 : decode cJ6_bitCount_0f7a4 26 = .ok (.iconst 4, 1) := by decide +kernel
theorem dJ6_bitCount_0f7a4_27 : decode cJ6_bitCount_0f7a4 27 = .ok (.iushr, 1) := by decide +kernel
theorem dJ6_bitCount_0f7a4_28 : decode cJ6_bitCount_0f7a4 28 = .ok (.iadd, 1) := by decide +kernel
theorem dJ6_bitCount_0f7a4_29 : decode cJ6_bitCount_0f7a4 29 = .ok (.ldc_w 267, 3) := by decide +kernel
theorem dJ6_bitCount_0f7a4_32 : decode cJ6_bitCount_0f7a4 32 = .ok (.iand, 1) := by decide +kernel
theorem dJ6_bitCount_0f7a4_33 : decode cJ6_bitCount_0f7a4 33 = .ok (.istore_n 0, 1) := by decide +kernel
theorem dJ6_bitCount_0f7a4_34 : decode cJ6_bitCount_0f7a4 34 = .ok (.iload_n 0, 1) := by decide +kernel
theorem dJ6_bitCount_0f7a4_35 : decode cJ6_bitCount_0f7a4 35 = .ok (.iload_n 0, 1) := by decide +kernel
theorem dJ6_bitCount_0f7a4_36 : decode cJ6_bitCount_0f7a4 36 = .ok (.bipush 8, 2) := by decide +kernel
theorem dJ6_bitCount_0f7a4_38 : decode cJ6_bitCount_0f7a4 38 = .ok (.iushr, 1) := by decide +kernel
theorem dJ6_bitCount_0f7a4_39 : decode cJ6_bitCount_0f7a4 39 = .ok (.iadd, 1) := by decide +kernel
theorem dJ6_bitCount_0f7a4_40 : decode cJ6_bitCount_0f7a4 40 = .ok (.istore_n 0, 1) := by decide +kernel
theorem dJ6_bitCount_0f7a4_41 : decode cJ6_bitCount_0f7a4 41 = .ok (.iload_n 0, 1) := by decide +kernel
theorem dJ6_bitCount_0f7a4_42 : decode cJ6_bitCount_0f7a4 42 = .ok (.iload_n 0, 1) := by decide +kernel
theorem dJ6_bitCount_0f7a4_43 : decode cJ6_bitCount_0f7a4 43 = .ok (.bipush 16, 2) := by decide +kernel
theorem dJ6_bitCount_0f7a4_45 : decode cJ6_bitCount_0f7a4 45 = .ok (.iushr, 1) := by decide +kernel
theorem dJ6_bitCount_0f7a4_46 : decode cJ6_bitCount_0f7a4 46 = .ok (.iadd, 1) := by decide +kernel
theorem dJ6_bitCount_0f7a4_47 : decode cJ6_bitCount_0f7a4 47 = .ok (.istore_n 0, 1) := by decide +kernel
theorem dJ6_bitCount_0f7a4_48 : decode cJ6_bitCount_0f7a4 48 = .ok (.iload_n 0, 1) := by decide +kernel
theorem dJ6_bitCount_0f7a4_49 : decode cJ6_bitCount_0f7a4 49 = .ok (.bipush 63, 2) := by decide +kernel
theorem dJ6_bitCount_0f7a4_51 : decode cJ6_bitCount_0f7a4 51 = .ok (.iand, 1) := by decide +kernel
theorem dJ6_bitCount_0f7a4_52 : decode cJ6_bitCount_0f7a4 52 = .ok (.ireturn, 1) := by decide +kernel
theorem dJ9_max_7cf53_0 : decode cJ9_max_7cf53 0 = .ok (.iload_n 0, 1) := by decide +kernel
theorem dJ9_max_7cf53_1 : decode cJ9_max_7cf53 1 = .ok (.iload_n 1, 1) := by decide +kernel
theorem dJ9_max_7cf53_2 : decode cJ9_max_7cf53 2 = .ok (.if_icmp .lt 7, 3) := by decide +kernel
theorem dJ9_max_7cf53_5 : decode cJ9_max_7cf53 5 = .ok (.iload_n 0, 1) := by decide +kernel
theorem dJ9_max_7cf53_6 : decode cJ9_max_7cf53 6 = .ok (.goto 4, 3) := by decide +kernel
theorem dJ9_max_7cf53_9 : decode cJ9_max_7cf53 9 = .ok (.iload_n 1, 1) := by decide +kernel
theorem dJ9_max_7cf53_10 : decode cJ9_max_7cf53 10 = .ok (.ireturn, 1) := by decide +kernel
theorem dJ7_fill_53178_0 : decode cJ7_fill_53178 0 = .ok (.iconst 0, 1) := by decide +kernel
theorem dJ7_fill_53178_1 : decode cJ7_fill_53178 1 = .ok (.istore_n 2, 1) := by decide +kernel
theorem dJ7_fill_53178_2 : decode cJ7_fill_53178 2 = .ok (.aload_n 0, 1) := by decide +kernel
theorem dJ7_fill_53178_3 : decode cJ7_fill_53178 3 = .ok (.arraylength, 1) := by decide +kernel
theorem dJ7_fill_53178_4 : decode cJ7_fill_53178 4 = .ok (.istore_n 3, 1) := by decide +kernel
theorem dJ7_fill_53178_5 : decode cJ7_fill_53178 5 = .ok (.iload_n 2, 1) := by decide +kernel
theorem dJ7_fill_53178_6 : decode cJ7_fill_53178 6 = .ok (.iload_n 3, 1) := by decide +kernel
theorem dJ7_fill_53178_7 : decode cJ7_fill_53178 7 = .ok (.if_icmp .ge 13, 3) := by decide +kernel
theorem dJ7_fill_53178_10 : decode cJ7_fill_53178 10 = .ok (.aload_n 0, 1) := by decide +kernel
theorem dJ7_fill_53178_11 : decode cJ7_fill_53178 11 = .ok (.iload_n 2, 1) := by decide +kernel
theorem dJ7_fill_53178_12 : decode cJ7_fill_53178 12 = .ok (.iload_n 1, 1) := by decide +kernel
theorem dJ7_fill_53178_13 : decode cJ7_fill_53178 13 = .ok (.iastore, 1) := by decide +kernel
theorem dJ7_fill_53178_14 : decode cJ7_fill_53178 14 = .ok (.iinc 2 1, 3) := by decide +kernel
theorem dJ7_fill_53178_17 : decode cJ7_fill_53178 17 = .ok (.goto (-12), 3) := by decide +kernel
theorem dJ7_fill_53178_20 : decode cJ7_fill_53178 20 = .ok (.return_, 1) := by decide +kernel
theorem dL_law_0 : decode cL_law 0 = .ok (.new 7, 3) := by decide +kernel
theorem dL_law_3 : decode cL_law 3 = .ok (.dup, 1) := by decide +kernel
theorem dL_law_4 : decode cL_law 4 = .ok (.invokespecial 9, 3) := by decide +kernel
theorem dL_law_7 : decode cL_law 7 = .ok (.astore_n 1, 1) := by decide +kernel
theorem dL_law_8 : decode cL_law 8 = .ok (.new 10, 3) := by decide +kernel
theorem dL_law_11 : decode cL_law 11 = .ok (.dup, 1) := by decide +kernel
theorem dL_law_12 : decode cL_law 12 = .ok (.invokespecial 12, 3) := by decide +kernel
theorem dL_law_15 : decode cL_law 15 = .ok (.astore_n 2, 1) := by decide +kernel
theorem dL_law_16 : decode cL_law 16 = .ok (.iconst 0, 1) := by decide +kernel
theorem dL_law_17 : decode cL_law 17 = .ok (.istore_n 3, 1) := by decide +kernel
theorem dL_law_18 : decode cL_law 18 = .ok (.iload_n 3, 1) := by decide +kernel
theorem dL_law_19 : decode cL_law 19 = .ok (.aload_n 0, 1) := by decide +kernel
theorem dL_law_20 : decode cL_law 20 = .ok (.arraylength, 1) := by decide +kernel
theorem dL_law_21 : decode cL_law 21 = .ok (.iconst 4, 1) := by decide +kernel
theorem dL_law_22 : decode cL_law 22 = .ok (.isub, 1) := by decide +kernel
theorem dL_law_23 : decode cL_law 23 = .ok (.if_icmp .gt 901, 3) := by decide +kernel
theorem dL_law_26 : decode cL_law 26 = .ok (.aload_n 0, 1) := by decide +kernel
theorem dL_law_27 : decode cL_law 27 = .ok (.iload_n 3, 1) := by decide +kernel
theorem dL_law_28 : decode cL_law 28 = .ok (.iaload, 1) := by decide +kernel
theorem dL_law_29 : decode cL_law 29 = .ok (.bipush 31, 2) := by decide +kernel
theorem dL_law_31 : decode cL_law 31 = .ok (.iand, 1) := by decide +kernel
theorem dL_law_32 : decode cL_law 32 = .ok (.tableswitch 886 0 28 #[132, 175, 208, 241, 264, 297, 330, 363, 386, 399, 412, 445, 458, 481, 514, 537, 550, 563, 586, 609, 632, 681, 704, 747, 780, 813, 836, 849, 872], 132) := by decide +kernel
theorem dL_law_164 : decode cL_law 164 = .ok (.aload_n 1, 1) := by decide +kernel
theorem dL_law_165 : decode cL_law 165 = .ok (.aload_n 0, 1) := by decide +kernel
theorem dL_law_166 : decode cL_law 166 = .ok (.iload_n 3, 1) := by decide +kernel
theorem dL_law_167 : decode cL_law 167 = .ok (.iconst 1, 1) := by decide +kernel
theorem dL_law_168 : decode cL_law 168 = .ok (.iadd, 1) := by decide +kernel
theorem dL_law_169 : decode cL_law 169 = .ok (.iaload, 1) := by decide +kernel
theorem dL_law_170 : decode cL_law 170 = .ok (.aload_n 0, 1) := by decide +kernel
theorem dL_law_171 : decode cL_law 171 = .ok (.iload_n 3, 1) := by decide +kernel
theorem dL_law_172 : decode cL_law 172 = .ok (.iconst 2, 1) := by decide +kernel
theorem dL_law_173 : decode cL_law 173 = .ok (.iadd, 1) := by decide +kernel
theorem dL_law_174 : decode cL_law 174 = .ok (.iaload, 1) := by decide +kernel
theorem dL_law_175 : decode cL_law 175 = .ok (.aload_n 0, 1) := by decide +kernel
theorem dL_law_176 : decode cL_law 176 = .ok (.iload_n 3, 1) := by decide +kernel
theorem dL_law_177 : decode cL_law 177 = .ok (.iconst 3, 1) := by decide +kernel
theorem dL_law_178 : decode cL_law 178 = .ok (.iadd, 1) := by decide +kernel
theorem dL_law_179 : decode cL_law 179 = .ok (.iaload, 1) := by decide +kernel
theorem dL_law_180 : decode cL_law 180 = .ok (.invokevirtual 13, 3) := by decide +kernel
theorem dL_law_183 : decode cL_law 183 = .ok (.aload_n 2, 1) := by decide +kernel
theorem dL_law_184 : decode cL_law 184 = .ok (.aload_n 0, 1) := by decide +kernel
theorem dL_law_185 : decode cL_law 185 = .ok (.iload_n 3, 1) := by decide +kernel
theorem dL_law_186 : decode cL_law 186 = .ok (.iconst 1, 1) := by decide +kernel
theorem dL_law_187 : decode cL_law 187 = .ok (.iadd, 1) := by decide +kernel
theorem dL_law_188 : decode cL_law 188 = .ok (.iaload, 1) := by decide +kernel
theorem dL_law_189 : decode cL_law 189 = .ok (.aload_n 0, 1) := by decide +kernel
theorem dL_law_190 : decode cL_law 190 = .ok (.iload_n 3, 1) := by decide +kernel
theorem dL_law_191 : decode cL_law 191 = .ok (.iconst 2, 1) := by decide +kernel
theorem dL_law_192 : decode cL_law 192 = .ok (.iadd, 1) := by decide +kernel
theorem dL_law_193 : decode cL_law 193 = .ok (.iaload, 1) := by decide +kernel
theorem dL_law_194 : decode cL_law 194 = .ok (.aload_n 0, 1) := by decide +kernel
theorem dL_law_195 : decode cL_law 195 = .ok (.iload_n 3, 1) := by decide +kernel
theorem dL_law_196 : decode cL_law 196 = .ok (.iconst 3, 1) := by decide +kernel
theorem dL_law_197 : decode cL_law 197 = .ok (.iadd, 1) := by decide +kernel
theorem dL_law_198 : decode cL_law 198 = .ok (.iaload, 1) := by decide +kernel
theorem dL_law_199 : decode cL_law 199 = .ok (.invokevirtual 17, 3) := by decide +kernel
theorem dL_law_202 : decode cL_law 202 = .ok (.if_icmp .eq 716, 3) := by decide +kernel
theorem dL_law_205 : decode cL_law 205 = .ok (.iconst 0, 1) := by decide +kernel
theorem dL_law_206 : decode cL_law 206 = .ok (.ireturn, 1) := by decide +kernel
theorem dL_law_207 : decode cL_law 207 = .ok (.aload_n 1, 1) := by decide +kernel
theorem dL_law_208 : decode cL_law 208 = .ok (.aload_n 0, 1) := by decide +kernel
theorem dL_law_209 : decode cL_law 209 = .ok (.iload_n 3, 1) := by decide +kernel
theorem dL_law_210 : decode cL_law 210 = .ok (.iconst 1, 1) := by decide +kernel
theorem dL_law_211 : decode cL_law 211 = .ok (.iadd, 1) := by decide +kernel
theorem dL_law_212 : decode cL_law 212 = .ok (.iaload, 1) := by decide +kernel
theorem dL_law_213 : decode cL_law 213 = .ok (.aload_n 0, 1) := by decide +kernel
theorem dL_law_214 : decode cL_law 214 = .ok (.iload_n 3, 1) := by decide +kernel
theorem dL_law_215 : decode cL_law 215 = .ok (.iconst 2, 1) := by decide +kernel
theorem dL_law_216 : decode cL_law 216 = .ok (.iadd, 1) := by decide +kernel
theorem dL_law_217 : decode cL_law 217 = .ok (.iaload, 1) := by decide +kernel
theorem dL_law_218 : decode cL_law 218 = .ok (.invokevirtual 18, 3) := by decide +kernel
theorem dL_law_221 : decode cL_law 221 = .ok (.aload_n 2, 1) := by decide +kernel
theorem dL_law_222 : decode cL_law 222 = .ok (.aload_n 0, 1) := by decide +kernel
theorem dL_law_223 : decode cL_law 223 = .ok (.iload_n 3, 1) := by decide +kernel
theorem dL_law_224 : decode cL_law 224 = .ok (.iconst 1, 1) := by decide +kernel
theorem dL_law_225 : decode cL_law 225 = .ok (.iadd, 1) := by decide +kernel
theorem dL_law_226 : decode cL_law 226 = .ok (.iaload, 1) := by decide +kernel
theorem dL_law_227 : decode cL_law 227 = .ok (.aload_n 0, 1) := by decide +kernel
theorem dL_law_228 : decode cL_law 228 = .ok (.iload_n 3, 1) := by decide +kernel
theorem dL_law_229 : decode cL_law 229 = .ok (.iconst 2, 1) := by decide +kernel
theorem dL_law_230 : decode cL_law 230 = .ok (.iadd, 1) := by decide +kernel
theorem dL_law_231 : decode cL_law 231 = .ok (.iaload, 1) := by decide +kernel
theorem dL_law_232 : decode cL_law 232 = .ok (.invokevirtual 22, 3) := by decide +kernel
theorem dL_law_235 : decode cL_law 235 = .ok (.if_icmp .eq 683, 3) := by decide +kernel
theorem dL_law_238 : decode cL_law 238 = .ok (.iconst 0, 1) := by decide +kernel
theorem dL_law_239 : decode cL_law 239 = .ok (.ireturn, 1) := by decide +kernel
theorem dL_law_240 : decode cL_law 240 = .ok (.aload_n 1, 1) := by decide +kernel
theorem dL_law_241 : decode cL_law 241 = .ok (.aload_n 0, 1) := by decide +kernel
theorem dL_law_242 : decode cL_law 242 = .ok (.iload_n 3, 1) := by decide +kernel
theorem dL_law_243 : decode cL_law 243 = .ok (.iconst 1, 1) := by decide +kernel
theorem dL_law_244 : decode cL_law 244 = .ok (.iadd, 1) := by decide +kernel
theorem dL_law_245 : decode cL_law 245 = .ok (.iaload, 1) := by decide +kernel
theorem dL_law_246 : decode cL_law 246 = .ok (.aload_n 0, 1) := by decide +kernel
theorem dL_law_247 : decode cL_law 247 = .ok (.iload_n 3, 1) := by decide +kernel
theorem dL_law_248 : decode cL_law 248 = .ok (.iconst 2, 1) := by decide +kernel
theorem dL_law_249 : decode cL_law 249 = .ok (.iadd, 1) := by decide +kernel
theorem dL_law_250 : decode cL_law 250 = .ok (.iaload, 1) := by decide +kernel
theorem dL_law_251 : decode cL_law 251 = .ok (.invokevirtual 23, 3) := by decide +kernel
theorem dL_law_254 : decode cL_law 254 = .ok (.aload_n 2, 1) := by decide +kernel
theorem dL_law_255 : decode cL_law 255 = .ok (.aload_n 0, 1) := by decide +kernel
theorem dL_law_256 : decode cL_law 256 = .ok (.iload_n 3, 1) := by decide +kernel
theorem dL_law_257 : decode cL_law 257 = .ok (.iconst 1, 1) := by decide +kernel
theorem dL_law_258 : decode cL_law 258 = .ok (.iadd, 1) := by decide +kernel
theorem dL_law_259 : decode cL_law 259 = .ok (.iaload, 1) := by decide +kernel
theorem dL_law_260 : decode cL_law 260 = .ok (.aload_n 0, 1) := by decide +kernel
theorem dL_law_261 : decode cL_law 261 = .ok (.iload_n 3, 1) := by decide +kernel
theorem dL_law_262 : decode cL_law 262 = .ok (.iconst 2, 1) := by decide +kernel
theorem dL_law_263 : decode cL_law 263 = .ok (.iadd, 1) := by decide +kernel
theorem dL_law_264 : decode cL_law 264 = .ok (.iaload, 1) := by decide +kernel
theorem dL_law_265 : decode cL_law 265 = .ok (.invokevirtual 26, 3) := by decide +kernel
theorem dL_law_268 : decode cL_law 268 = .ok (.if_icmp .eq 650, 3) := by decide +kernel
theorem dL_law_271 : decode cL_law 271 = .ok (.iconst 0, 1) := by decide +kernel
theorem dL_law_272 : decode cL_law 272 = .ok (.ireturn, 1) := by decide +kernel
theorem dL_law_273 : decode cL_law 273 = .ok (.aload_n 1, 1) := by decide +kernel
theorem dL_law_274 : decode cL_law 274 = .ok (.aload_n 0, 1) := by decide +kernel
theorem dL_law_275 : decode cL_law 275 = .ok (.iload_n 3, 1) := by decide +kernel
theorem dL_law_276 : decode cL_law 276 = .ok (.iconst 1, 1) := by decide +kernel
theorem dL_law_277 : decode cL_law 277 = .ok (.iadd, 1) := by decide +kernel
theorem dL_law_278 : decode cL_law 278 = .ok (.iaload, 1) := by decide +kernel
theorem dL_law_279 : decode cL_law 279 = .ok (.invokevirtual 27, 3) := by decide +kernel
theorem dL_law_282 : decode cL_law 282 = .ok (.aload_n 2, 1) := by decide +kernel
theorem dL_law_283 : decode cL_law 283 = .ok (.aload_n 0, 1) := by decide +kernel
theorem dL_law_284 : decode cL_law 284 = .ok (.iload_n 3, 1) := by decide +kernel
theorem dL_law_285 : decode cL_law 285 = .ok (.iconst 1, 1) := by decide +kernel
theorem dL_law_286 : decode cL_law 286 = .ok (.iadd, 1) := by decide +kernel
theorem dL_law_287 : decode cL_law 287 = .ok (.iaload, 1) := by decide +kernel
theorem dL_law_288 : decode cL_law 288 = .ok (.invokevirtual 31, 3) := by decide +kernel
theorem dL_law_291 : decode cL_law 291 = .ok (.if_icmp .eq 627, 3) := by decide +kernel
theorem dL_law_294 : decode cL_law 294 = .ok (.iconst 0, 1) := by decide +kernel
theorem dL_law_295 : decode cL_law 295 = .ok (.ireturn, 1) := by decide +kernel
theorem dL_law_296 : decode cL_law 296 = .ok (.aload_n 1, 1) := by decide +kernel
theorem dL_law_297 : decode cL_law 297 = .ok (.aload_n 0, 1) := by decide +kernel
theorem dL_law_298 : decode cL_law 298 = .ok (.iload_n 3, 1) := by decide +kernel
theorem dL_law_299 : decode cL_law 299 = .ok (.iconst 1, 1) := by decide +kernel
theorem dL_law_300 : decode cL_law 300 = .ok (.iadd, 1) := by decide +kernel
theorem dL_law_301 : decode cL_law 301 = .ok (.iaload, 1) := by decide +kernel
theorem dL_law_302 : decode cL_law 302 = .ok (.aload_n 0, 1) := by decide +kernel
theorem dL_law_303 : decode cL_law 303 = .ok (.iload_n 3, 1) := by decide +kernel
theorem dL_law_304 : decode cL_law 304 = .ok (.iconst 2, 1) := by decide +kernel
theorem dL_law_305 : decode cL_law 305 = .ok (.iadd, 1) := by decide +kernel
theorem dL_law_306 : decode cL_law 306 = .ok (.iaload, 1) := by decide +kernel
theorem dL_law_307 : decode cL_law 307 = .ok (.invokevirtual 32, 3) := by decide +kernel
theorem dL_law_310 : decode cL_law 310 = .ok (.aload_n 2, 1) := by decide +kernel
theorem dL_law_311 : decode cL_law 311 = .ok (.aload_n 0, 1) := by decide +kernel
theorem dL_law_312 : decode cL_law 312 = .ok (.iload_n 3, 1) := by decide +kernel
theorem dL_law_313 : decode cL_law 313 = .ok (.iconst 1, 1) := by decide +kernel
theorem dL_law_314 : decode cL_law 314 = .ok (.iadd, 1) := by decide +kernel
theorem dL_law_315 : decode cL_law 315 = .ok (.iaload, 1) := by decide +kernel
theorem dL_law_316 : decode cL_law 316 = .ok (.aload_n 0, 1) := by decide +kernel
theorem dL_law_317 : decode cL_law 317 = .ok (.iload_n 3, 1) := by decide +kernel
theorem dL_law_318 : decode cL_law 318 = .ok (.iconst 2, 1) := by decide +kernel
theorem dL_law_319 : decode cL_law 319 = .ok (.iadd, 1) := by decide +kernel
theorem dL_law_320 : decode cL_law 320 = .ok (.iaload, 1) := by decide +kernel
theorem dL_law_321 : decode cL_law 321 = .ok (.invokevirtual 35, 3) := by decide +kernel
theorem dL_law_324 : decode cL_law 324 = .ok (.if_icmp .eq 594, 3) := by decide +kernel
theorem dL_law_327 : decode cL_law 327 = .ok (.iconst 0, 1) := by decide +kernel
theorem dL_law_328 : decode cL_law 328 = .ok (.ireturn, 1) := by decide +kernel
theorem dL_law_329 : decode cL_law 329 = .ok (.aload_n 1, 1) := by decide +kernel
theorem dL_law_330 : decode cL_law 330 = .ok (.aload_n 0, 1) := by decide +kernel
theorem dL_law_331 : decode cL_law 331 = .ok (.iload_n 3, 1) := by decide +kernel
theorem dL_law_332 : decode cL_law 332 = .ok (.iconst 1, 1) := by decide +kernel
theorem dL_law_333 : decode cL_law 333 = .ok (.iadd, 1) := by decide +kernel
theorem dL_law_334 : decode cL_law 334 = .ok (.iaload, 1) := by decide +kernel
theorem dL_law_335 : decode cL_law 335 = .ok (.aload_n 0, 1) := by decide +kernel
theorem dL_law_336 : decode cL_law 336 = .ok (.iload_n 3, 1) := by decide +kernel
theorem dL_law_337 : decode cL_law 337 = .ok (.iconst 2, 1) := by decide +kernel
theorem dL_law_338 : decode cL_law 338 = .ok (.iadd, 1) := by decide +kernel
theorem dL_law_339 : decode cL_law 339 = .ok (.iaload, 1) := by decide +kernel
theorem dL_law_340 : decode cL_law 340 = .ok (.invokevirtual 36, 3) := by decide +kernel
theorem dL_law_343 : decode cL_law 343 = .ok (.aload_n 2, 1) := by decide +kernel
theorem dL_law_344 : decode cL_law 344 = .ok (.aload_n 0, 1) := by decide +kernel
theorem dL_law_345 : decode cL_law 345 = .ok (.iload_n 3, 1) := by decide +kernel
theorem dL_law_346 : decode cL_law 346 = .ok (.iconst 1, 1) := by decide +kernel
theorem dL_law_347 : decode cL_law 347 = .ok (.iadd, 1) := by decide +kernel
theorem dL_law_348 : decode cL_law 348 = .ok (.iaload, 1) := by decide +kernel
theorem dL_law_349 : decode cL_law 349 = .ok (.aload_n 0, 1) := by decide +kernel
theorem dL_law_350 : decode cL_law 350 = .ok (.iload_n 3, 1) := by decide +kernel
theorem dL_law_351 : decode cL_law 351 = .ok (.iconst 2, 1) := by decide +kernel
theorem dL_law_352 : decode cL_law 352 = .ok (.iadd, 1) := by decide +kernel
theorem dL_law_353 : decode cL_law 353 = .ok (.iaload, 1) := by decide +kernel
theorem dL_law_354 : decode cL_law 354 = .ok (.invokevirtual 39, 3) := by decide +kernel
theorem dL_law_357 : decode cL_law 357 = .ok (.if_icmp .eq 561, 3) := by decide +kernel
theorem dL_law_360 : decode cL_law 360 = .ok (.iconst 0, 1) := by decide +kernel
theorem dL_law_361 : decode cL_law 361 = .ok (.ireturn, 1) := by decide +kernel
theorem dL_law_362 : decode cL_law 362 = .ok (.aload_n 1, 1) := by decide +kernel
theorem dL_law_363 : decode cL_law 363 = .ok (.aload_n 0, 1) := by decide +kernel
theorem dL_law_364 : decode cL_law 364 = .ok (.iload_n 3, 1) := by decide +kernel
theorem dL_law_365 : decode cL_law 365 = .ok (.iconst 1, 1) := by decide +kernel
theorem dL_law_366 : decode cL_law 366 = .ok (.iadd, 1) := by decide +kernel
theorem dL_law_367 : decode cL_law 367 = .ok (.iaload, 1) := by decide +kernel
theorem dL_law_368 : decode cL_law 368 = .ok (.aload_n 0, 1) := by decide +kernel
theorem dL_law_369 : decode cL_law 369 = .ok (.iload_n 3, 1) := by decide +kernel
theorem dL_law_370 : decode cL_law 370 = .ok (.iconst 2, 1) := by decide +kernel
theorem dL_law_371 : decode cL_law 371 = .ok (.iadd, 1) := by decide +kernel
theorem dL_law_372 : decode cL_law 372 = .ok (.iaload, 1) := by decide +kernel
theorem dL_law_373 : decode cL_law 373 = .ok (.invokevirtual 40, 3) := by decide +kernel
theorem dL_law_376 : decode cL_law 376 = .ok (.aload_n 2, 1) := by decide +kernel
theorem dL_law_377 : decode cL_law 377 = .ok (.aload_n 0, 1) := by decide +kernel
theorem dL_law_378 : decode cL_law 378 = .ok (.iload_n 3, 1) := by decide +kernel
theorem dL_law_379 : decode cL_law 379 = .ok (.iconst 1, 1) := by decide +kernel
theorem dL_law_380 : decode cL_law 380 = .ok (.iadd, 1) := by decide +kernel
theorem dL_law_381 : decode cL_law 381 = .ok (.iaload, 1) := by decide +kernel
theorem dL_law_382 : decode cL_law 382 = .ok (.aload_n 0, 1) := by decide +kernel
theorem dL_law_383 : decode cL_law 383 = .ok (.iload_n 3, 1) := by decide +kernel
theorem dL_law_384 : decode cL_law 384 = .ok (.iconst 2, 1) := by decide +kernel
theorem dL_law_385 : decode cL_law 385 = .ok (.iadd, 1) := by decide +kernel
theorem dL_law_386 : decode cL_law 386 = .ok (.iaload, 1) := by decide +kernel
theorem dL_law_387 : decode cL_law 387 = .ok (.invokevirtual 43, 3) := by decide +kernel
theorem dL_law_390 : decode cL_law 390 = .ok (.if_icmp .eq 528, 3) := by decide +kernel
theorem dL_law_393 : decode cL_law 393 = .ok (.iconst 0, 1) := by decide +kernel
theorem dL_law_394 : decode cL_law 394 = .ok (.ireturn, 1) := by decide +kernel
theorem dL_law_395 : decode cL_law 395 = .ok (.aload_n 1, 1) := by decide +kernel
theorem dL_law_396 : decode cL_law 396 = .ok (.aload_n 0, 1) := by decide +kernel
theorem dL_law_397 : decode cL_law 397 = .ok (.iload_n 3, 1) := by decide +kernel
theorem dL_law_398 : decode cL_law 398 = .ok (.iconst 1, 1) := by decide +kernel
theorem dL_law_399 : decode cL_law 399 = .ok (.iadd, 1) := by decide +kernel
theorem dL_law_400 : decode cL_law 400 = .ok (.iaload, 1) := by decide +kernel
theorem dL_law_401 : decode cL_law 401 = .ok (.invokevirtual 44, 3) := by decide +kernel
theorem dL_law_404 : decode cL_law 404 = .ok (.aload_n 2, 1) := by decide +kernel
theorem dL_law_405 : decode cL_law 405 = .ok (.aload_n 0, 1) := by decide +kernel
theorem dL_law_406 : decode cL_law 406 = .ok (.iload_n 3, 1) := by decide +kernel
theorem dL_law_407 : decode cL_law 407 = .ok (.iconst 1, 1) := by decide +kernel
theorem dL_law_408 : decode cL_law 408 = .ok (.iadd, 1) := by decide +kernel
theorem dL_law_409 : decode cL_law 409 = .ok (.iaload, 1) := by decide +kernel
theorem dL_law_410 : decode cL_law 410 = .ok (.invokevirtual 47, 3) := by decide +kernel
theorem dL_law_413 : decode cL_law 413 = .ok (.if_icmp .eq 505, 3) := by decide +kernel
theorem dL_law_416 : decode cL_law 416 = .ok (.iconst 0, 1) := by decide +kernel
theorem dL_law_417 : decode cL_law 417 = .ok (.ireturn, 1) := by decide +kernel
theorem dL_law_418 : decode cL_law 418 = .ok (.aload_n 1, 1) := by decide +kernel
theorem dL_law_419 : decode cL_law 419 = .ok (.invokevirtual 48, 3) := by decide +kernel
theorem dL_law_422 : decode cL_law 422 = .ok (.aload_n 2, 1) := by decide +kernel
theorem dL_law_423 : decode cL_law 423 = .ok (.invokevirtual 52, 3) := by decide +kernel
theorem dL_law_426 : decode cL_law 426 = .ok (.if_icmp .eq 492, 3) := by decide +kernel
theorem dL_law_429 : decode cL_law 429 = .ok (.iconst 0, 1) := by decide +kernel
theorem dL_law_430 : decode cL_law 430 = .ok (.ireturn, 1) := by decide +kernel
theorem dL_law_431 : decode cL_law 431 = .ok (.aload_n 1, 1) := by decide +kernel
theorem dL_law_432 : decode cL_law 432 = .ok (.invokevirtual 53, 3) := by decide +kernel
theorem dL_law_435 : decode cL_law 435 = .ok (.aload_n 2, 1) := by decide +kernel
theorem dL_law_436 : decode cL_law 436 = .ok (.invokevirtual 56, 3) := by decide +kernel
theorem dL_law_439 : decode cL_law 439 = .ok (.if_icmp .eq 479, 3) := by decide +kernel
theorem dL_law_442 : decode cL_law 442 = .ok (.iconst 0, 1) := by decide +kernel
theorem dL_law_443 : decode cL_law 443 = .ok (.ireturn, 1) := by decide +kernel
theorem dL_law_444 : decode cL_law 444 = .ok (.aload_n 1, 1) := by decide +kernel
theorem dL_law_445 : decode cL_law 445 = .ok (.aload_n 0, 1) := by decide +kernel
theorem dL_law_446 : decode cL_law 446 = .ok (.iload_n 3, 1) := by decide +kernel
theorem dL_law_447 : decode cL_law 447 = .ok (.iconst 1, 1) := by decide +kernel
theorem dL_law_448 : decode cL_law 448 = .ok (.iadd, 1) := by decide +kernel
theorem dL_law_449 : decode cL_law 449 = .ok (.iaload, 1) := by decide +kernel
theorem dL_law_450 : decode cL_law 450 = .ok (.aload_n 0, 1) := by decide +kernel
theorem dL_law_451 : decode cL_law 451 = .ok (.iload_n 3, 1) := by decide +kernel
theorem dL_law_452 : decode cL_law 452 = .ok (.iconst 2, 1) := by decide +kernel
theorem dL_law_453 : decode cL_law 453 = .ok (.iadd, 1) := by decide +kernel
theorem dL_law_454 : decode cL_law 454 = .ok (.iaload, 1) := by decide +kernel
theorem dL_law_455 : decode cL_law 455 = .ok (.invokevirtual 57, 3) := by decide +kernel
theorem dL_law_458 : decode cL_law 458 = .ok (.aload_n 2, 1) := by decide +kernel
theorem dL_law_459 : decode cL_law 459 = .ok (.aload_n 0, 1) := by decide +kernel
theorem dL_law_460 : decode cL_law 460 = .ok (.iload_n 3, 1) := by decide +kernel
theorem dL_law_461 : decode cL_law 461 = .ok (.iconst 1, 1) := by decide +kernel
theorem dL_law_462 : decode cL_law 462 = .ok (.iadd, 1) := by decide +kernel
theorem dL_law_463 : decode cL_law 463 = .ok (.iaload, 1) := by decide +kernel
theorem dL_law_464 : decode cL_law 464 = .ok (.aload_n 0, 1) := by decide +kernel
theorem dL_law_465 : decode cL_law 465 = .ok (.iload_n 3, 1) := by decide +kernel
theorem dL_law_466 : decode cL_law 466 = .ok (.iconst 2, 1) := by decide +kernel
theorem dL_law_467 : decode cL_law 467 = .ok (.iadd, 1) := by decide +kernel
theorem dL_law_468 : decode cL_law 468 = .ok (.iaload, 1) := by decide +kernel
theorem dL_law_469 : decode cL_law 469 = .ok (.invokevirtual 60, 3) := by decide +kernel
theorem dL_law_472 : decode cL_law 472 = .ok (.if_icmp .eq 446, 3) := by decide +kernel
theorem dL_law_475 : decode cL_law 475 = .ok (.iconst 0, 1) := by decide +kernel
theorem dL_law_476 : decode cL_law 476 = .ok (.ireturn, 1) := by decide +kernel
theorem dL_law_477 : decode cL_law 477 = .ok (.aload_n 1, 1) := by decide +kernel
theorem dL_law_478 : decode cL_law 478 = .ok (.invokevirtual 61, 3) := by decide +kernel
theorem dL_law_481 : decode cL_law 481 = .ok (.aload_n 2, 1) := by decide +kernel
theorem dL_law_482 : decode cL_law 482 = .ok (.invokevirtual 64, 3) := by decide +kernel
theorem dL_law_485 : decode cL_law 485 = .ok (.if_icmp .eq 433, 3) := by decide +kernel
theorem dL_law_488 : decode cL_law 488 = .ok (.iconst 0, 1) := by decide +kernel
theorem dL_law_489 : decode cL_law 489 = .ok (.ireturn, 1) := by decide +kernel
theorem dL_law_490 : decode cL_law 490 = .ok (.aload_n 1, 1) := by decide +kernel
theorem dL_law_491 : decode cL_law 491 = .ok (.aload_n 0, 1) := by decide +kernel
theorem dL_law_492 : decode cL_law 492 = .ok (.iload_n 3, 1) := by decide +kernel
theorem dL_law_493 : decode cL_law 493 = .ok (.iconst 1, 1) := by decide +kernel
theorem dL_law_494 : decode cL_law 494 = .ok (.iadd, 1) := by decide +kernel
theorem dL_law_495 : decode cL_law 495 = .ok (.iaload, 1) := by decide +kernel
theorem dL_law_496 : decode cL_law 496 = .ok (.invokevirtual 65, 3) := by decide +kernel
theorem dL_law_499 : decode cL_law 499 = .ok (.aload_n 2, 1) := by decide +kernel
theorem dL_law_500 : decode cL_law 500 = .ok (.aload_n 0, 1) := by decide +kernel
theorem dL_law_501 : decode cL_law 501 = .ok (.iload_n 3, 1) := by decide +kernel
theorem dL_law_502 : decode cL_law 502 = .ok (.iconst 1, 1) := by decide +kernel
theorem dL_law_503 : decode cL_law 503 = .ok (.iadd, 1) := by decide +kernel
theorem dL_law_504 : decode cL_law 504 = .ok (.iaload, 1) := by decide +kernel
theorem dL_law_505 : decode cL_law 505 = .ok (.invokevirtual 68, 3) := by decide +kernel
theorem dL_law_508 : decode cL_law 508 = .ok (.if_icmp .eq 410, 3) := by decide +kernel
theorem dL_law_511 : decode cL_law 511 = .ok (.iconst 0, 1) := by decide +kernel
theorem dL_law_512 : decode cL_law 512 = .ok (.ireturn, 1) := by decide +kernel
theorem dL_law_513 : decode cL_law 513 = .ok (.aload_n 1, 1) := by decide +kernel
theorem dL_law_514 : decode cL_law 514 = .ok (.aload_n 0, 1) := by decide +kernel
theorem dL_law_515 : decode cL_law 515 = .ok (.iload_n 3, 1) := by decide +kernel
theorem dL_law_516 : decode cL_law 516 = .ok (.iconst 1, 1) := by decide +kernel
theorem dL_law_517 : decode cL_law 517 = .ok (.iadd, 1) := by decide +kernel
theorem dL_law_518 : decode cL_law 518 = .ok (.iaload, 1) := by decide +kernel
theorem dL_law_519 : decode cL_law 519 = .ok (.aload_n 0, 1) := by decide +kernel
theorem dL_law_520 : decode cL_law 520 = .ok (.iload_n 3, 1) := by decide +kernel
theorem dL_law_521 : decode cL_law 521 = .ok (.iconst 2, 1) := by decide +kernel
theorem dL_law_522 : decode cL_law 522 = .ok (.iadd, 1) := by decide +kernel
theorem dL_law_523 : decode cL_law 523 = .ok (.iaload, 1) := by decide +kernel
theorem dL_law_524 : decode cL_law 524 = .ok (.invokevirtual 69, 3) := by decide +kernel
theorem dL_law_527 : decode cL_law 527 = .ok (.aload_n 2, 1) := by decide +kernel
theorem dL_law_528 : decode cL_law 528 = .ok (.aload_n 0, 1) := by decide +kernel
theorem dL_law_529 : decode cL_law 529 = .ok (.iload_n 3, 1) := by decide +kernel
theorem dL_law_530 : decode cL_law 530 = .ok (.iconst 1, 1) := by decide +kernel
theorem dL_law_531 : decode cL_law 531 = .ok (.iadd, 1) := by decide +kernel
theorem dL_law_532 : decode cL_law 532 = .ok (.iaload, 1) := by decide +kernel
theorem dL_law_533 : decode cL_law 533 = .ok (.aload_n 0, 1) := by decide +kernel
theorem dL_law_534 : decode cL_law 534 = .ok (.iload_n 3, 1) := by decide +kernel
theorem dL_law_535 : decode cL_law 535 = .ok (.iconst 2, 1) := by decide +kernel
theorem dL_law_536 : decode cL_law 536 = .ok (.iadd, 1) := by decide +kernel
theorem dL_law_537 : decode cL_law 537 = .ok (.iaload, 1) := by decide +kernel
theorem dL_law_538 : decode cL_law 538 = .ok (.invokevirtual 72, 3) := by decide +kernel
theorem dL_law_541 : decode cL_law 541 = .ok (.if_icmp .eq 377, 3) := by decide +kernel
theorem dL_law_544 : decode cL_law 544 = .ok (.iconst 0, 1) := by decide +kernel
theorem dL_law_545 : decode cL_law 545 = .ok (.ireturn, 1) := by decide +kernel
theorem dL_law_546 : decode cL_law 546 = .ok (.aload_n 1, 1) := by decide +kernel
theorem dL_law_547 : decode cL_law 547 = .ok (.aload_n 0, 1) := by decide +kernel
theorem dL_law_548 : decode cL_law 548 = .ok (.iload_n 3, 1) := by decide +kernel
theorem dL_law_549 : decode cL_law 549 = .ok (.iconst 1, 1) := by decide +kernel
theorem dL_law_550 : decode cL_law 550 = .ok (.iadd, 1) := by decide +kernel
theorem dL_law_551 : decode cL_law 551 = .ok (.iaload, 1) := by decide +kernel
theorem dL_law_552 : decode cL_law 552 = .ok (.invokevirtual 73, 3) := by decide +kernel
theorem dL_law_555 : decode cL_law 555 = .ok (.aload_n 2, 1) := by decide +kernel
theorem dL_law_556 : decode cL_law 556 = .ok (.aload_n 0, 1) := by decide +kernel
theorem dL_law_557 : decode cL_law 557 = .ok (.iload_n 3, 1) := by decide +kernel
theorem dL_law_558 : decode cL_law 558 = .ok (.iconst 1, 1) := by decide +kernel
theorem dL_law_559 : decode cL_law 559 = .ok (.iadd, 1) := by decide +kernel
theorem dL_law_560 : decode cL_law 560 = .ok (.iaload, 1) := by decide +kernel
theorem dL_law_561 : decode cL_law 561 = .ok (.invokevirtual 76, 3) := by decide +kernel
theorem dL_law_564 : decode cL_law 564 = .ok (.if_icmp .eq 354, 3) := by decide +kernel
theorem dL_law_567 : decode cL_law 567 = .ok (.iconst 0, 1) := by decide +kernel
theorem dL_law_568 : decode cL_law 568 = .ok (.ireturn, 1) := by decide +kernel
theorem dL_law_569 : decode cL_law 569 = .ok (.aload_n 1, 1) := by decide +kernel
theorem dL_law_570 : decode cL_law 570 = .ok (.invokevirtual 77, 3) := by decide +kernel
theorem dL_law_573 : decode cL_law 573 = .ok (.aload_n 2, 1) := by decide +kernel
theorem dL_law_574 : decode cL_law 574 = .ok (.invokevirtual 80, 3) := by decide +kernel
theorem dL_law_577 : decode cL_law 577 = .ok (.if_icmp .eq 341, 3) := by decide +kernel
theorem dL_law_580 : decode cL_law 580 = .ok (.iconst 0, 1) := by decide +kernel
theorem dL_law_581 : decode cL_law 581 = .ok (.ireturn, 1) := by decide +kernel
theorem dL_law_582 : decode cL_law 582 = .ok (.aload_n 1, 1) := by decide +kernel
theorem dL_law_583 : decode cL_law 583 = .ok (.invokevirtual 81, 3) := by decide +kernel
theorem dL_law_586 : decode cL_law 586 = .ok (.aload_n 2, 1) := by decide +kernel
theorem dL_law_587 : decode cL_law 587 = .ok (.invokevirtual 84, 3) := by decide +kernel
theorem dL_law_590 : decode cL_law 590 = .ok (.if_icmp .eq 328, 3) := by decide +kernel
theorem dL_law_593 : decode cL_law 593 = .ok (.iconst 0, 1) := by decide +kernel
theorem dL_law_594 : decode cL_law 594 = .ok (.ireturn, 1) := by decide +kernel
theorem dL_law_595 : decode cL_law 595 = .ok (.aload_n 1, 1) := by decide +kernel
theorem dL_law_596 : decode cL_law 596 = .ok (.aload_n 0, 1) := by decide +kernel
theorem dL_law_597 : decode cL_law 597 = .ok (.iload_n 3, 1) := by decide +kernel
theorem dL_law_598 : decode cL_law 598 = .ok (.iconst 1, 1) := by decide +kernel
theorem dL_law_599 : decode cL_law 599 = .ok (.iadd, 1) := by decide +kernel
theorem dL_law_600 : decode cL_law 600 = .ok (.iaload, 1) := by decide +kernel
theorem dL_law_601 : decode cL_law 601 = .ok (.invokevirtual 85, 3) := by decide +kernel
theorem dL_law_604 : decode cL_law 604 = .ok (.aload_n 2, 1) := by decide +kernel
theorem dL_law_605 : decode cL_law 605 = .ok (.aload_n 0, 1) := by decide +kernel
theorem dL_law_606 : decode cL_law 606 = .ok (.iload_n 3, 1) := by decide +kernel
theorem dL_law_607 : decode cL_law 607 = .ok (.iconst 1, 1) := by decide +kernel
theorem dL_law_608 : decode cL_law 608 = .ok (.iadd, 1) := by decide +kernel
theorem dL_law_609 : decode cL_law 609 = .ok (.iaload, 1) := by decide +kernel
theorem dL_law_610 : decode cL_law 610 = .ok (.invokevirtual 88, 3) := by decide +kernel
theorem dL_law_613 : decode cL_law 613 = .ok (.if_icmp .eq 305, 3) := by decide +kernel
theorem dL_law_616 : decode cL_law 616 = .ok (.iconst 0, 1) := by decide +kernel
theorem dL_law_617 : decode cL_law 617 = .ok (.ireturn, 1) := by decide +kernel
theorem dL_law_618 : decode cL_law 618 = .ok (.aload_n 1, 1) := by decide +kernel
theorem dL_law_619 : decode cL_law 619 = .ok (.aload_n 0, 1) := by decide +kernel
theorem dL_law_620 : decode cL_law 620 = .ok (.iload_n 3, 1) := by decide +kernel
theorem dL_law_621 : decode cL_law 621 = .ok (.iconst 1, 1) := by decide +kernel
theorem dL_law_622 : decode cL_law 622 = .ok (.iadd, 1) := by decide +kernel
theorem dL_law_623 : decode cL_law 623 = .ok (.iaload, 1) := by decide +kernel
theorem dL_law_624 : decode cL_law 624 = .ok (.invokevirtual 89, 3) := by decide +kernel
theorem dL_law_627 : decode cL_law 627 = .ok (.aload_n 2, 1) := by decide +kernel
theorem dL_law_628 : decode cL_law 628 = .ok (.aload_n 0, 1) := by decide +kernel
theorem dL_law_629 : decode cL_law 629 = .ok (.iload_n 3, 1) := by decide +kernel
theorem dL_law_630 : decode cL_law 630 = .ok (.iconst 1, 1) := by decide +kernel
theorem dL_law_631 : decode cL_law 631 = .ok (.iadd, 1) := by decide +kernel
theorem dL_law_632 : decode cL_law 632 = .ok (.iaload, 1) := by decide +kernel
theorem dL_law_633 : decode cL_law 633 = .ok (.invokevirtual 92, 3) := by decide +kernel
theorem dL_law_636 : decode cL_law 636 = .ok (.if_icmp .eq 282, 3) := by decide +kernel
theorem dL_law_639 : decode cL_law 639 = .ok (.iconst 0, 1) := by decide +kernel
theorem dL_law_640 : decode cL_law 640 = .ok (.ireturn, 1) := by decide +kernel
theorem dL_law_641 : decode cL_law 641 = .ok (.aload_n 1, 1) := by decide +kernel
theorem dL_law_642 : decode cL_law 642 = .ok (.aload_n 0, 1) := by decide +kernel
theorem dL_law_643 : decode cL_law 643 = .ok (.iload_n 3, 1) := by decide +kernel
theorem dL_law_644 : decode cL_law 644 = .ok (.iconst 1, 1) := by decide +kernel
theorem dL_law_645 : decode cL_law 645 = .ok (.iadd, 1) := by decide +kernel
theorem dL_law_646 : decode cL_law 646 = .ok (.iaload, 1) := by decide +kernel
theorem dL_law_647 : decode cL_law 647 = .ok (.invokevirtual 93, 3) := by decide +kernel
theorem dL_law_650 : decode cL_law 650 = .ok (.aload_n 2, 1) := by decide +kernel
theorem dL_law_651 : decode cL_law 651 = .ok (.aload_n 0, 1) := by decide +kernel
theorem dL_law_652 : decode cL_law 652 = .ok (.iload_n 3, 1) := by decide +kernel
theorem dL_law_653 : decode cL_law 653 = .ok (.iconst 1, 1) := by decide +kernel
theorem dL_law_654 : decode cL_law 654 = .ok (.iadd, 1) := by decide +kernel
theorem dL_law_655 : decode cL_law 655 = .ok (.iaload, 1) := by decide +kernel
theorem dL_law_656 : decode cL_law 656 = .ok (.invokevirtual 96, 3) := by decide +kernel
theorem dL_law_659 : decode cL_law 659 = .ok (.if_icmp .eq 259, 3) := by decide +kernel
theorem dL_law_662 : decode cL_law 662 = .ok (.iconst 0, 1) := by decide +kernel
theorem dL_law_663 : decode cL_law 663 = .ok (.ireturn, 1) := by decide +kernel
theorem dL_law_664 : decode cL_law 664 = .ok (.aload_n 1, 1) := by decide +kernel
theorem dL_law_665 : decode cL_law 665 = .ok (.aload_n 0, 1) := by decide +kernel
theorem dL_law_666 : decode cL_law 666 = .ok (.iload_n 3, 1) := by decide +kernel
theorem dL_law_667 : decode cL_law 667 = .ok (.iconst 1, 1) := by decide +kernel
theorem dL_law_668 : decode cL_law 668 = .ok (.iadd, 1) := by decide +kernel
theorem dL_law_669 : decode cL_law 669 = .ok (.iaload, 1) := by decide +kernel
theorem dL_law_670 : decode cL_law 670 = .ok (.aload_n 0, 1) := by decide +kernel
theorem dL_law_671 : decode cL_law 671 = .ok (.iload_n 3, 1) := by decide +kernel
theorem dL_law_672 : decode cL_law 672 = .ok (.iconst 2, 1) := by decide +kernel
theorem dL_law_673 : decode cL_law 673 = .ok (.iadd, 1) := by decide +kernel
theorem dL_law_674 : decode cL_law 674 = .ok (.iaload, 1) := by decide +kernel
theorem dL_law_675 : decode cL_law 675 = .ok (.ifCond .eq 7, 3) := by decide +kernel
theorem dL_law_678 : decode cL_law 678 = .ok (.iconst 1, 1) := by decide +kernel
theorem dL_law_679 : decode cL_law 679 = .ok (.goto 4, 3) := by decide +kernel
theorem dL_law_682 : decode cL_law 682 = .ok (.iconst 0, 1) := by decide +kernel
theorem dL_law_683 : decode cL_law 683 = .ok (.invokevirtual 97, 3) := by decide +kernel
theorem dL_law_686 : decode cL_law 686 = .ok (.aload_n 2, 1) := by decide +kernel
theorem dL_law_687 : decode cL_law 687 = .ok (.aload_n 0, 1) := by decide +kernel
theorem dL_law_688 : decode cL_law 688 = .ok (.iload_n 3, 1) := by decide +kernel
theorem dL_law_689 : decode cL_law 689 = .ok (.iconst 1, 1) := by decide +kernel
theorem dL_law_690 : decode cL_law 690 = .ok (.iadd, 1) := by decide +kernel
theorem dL_law_691 : decode cL_law 691 = .ok (.iaload, 1) := by decide +kernel
theorem dL_law_692 : decode cL_law 692 = .ok (.aload_n 0, 1) := by decide +kernel
theorem dL_law_693 : decode cL_law 693 = .ok (.iload_n 3, 1) := by decide +kernel
theorem dL_law_694 : decode cL_law 694 = .ok (.iconst 2, 1) := by decide +kernel
theorem dL_law_695 : decode cL_law 695 = .ok (.iadd, 1) := by decide +kernel
theorem dL_law_696 : decode cL_law 696 = .ok (.iaload, 1) := by decide +kernel
theorem dL_law_697 : decode cL_law 697 = .ok (.ifCond .eq 7, 3) := by decide +kernel
theorem dL_law_700 : decode cL_law 700 = .ok (.iconst 1, 1) := by decide +kernel
theorem dL_law_701 : decode cL_law 701 = .ok (.goto 4, 3) := by decide +kernel
theorem dL_law_704 : decode cL_law 704 = .ok (.iconst 0, 1) := by decide +kernel
theorem dL_law_705 : decode cL_law 705 = .ok (.invokevirtual 101, 3) := by decide +kernel
theorem dL_law_708 : decode cL_law 708 = .ok (.if_icmp .eq 210, 3) := by decide +kernel
theorem dL_law_711 : decode cL_law 711 = .ok (.iconst 0, 1) := by decide +kernel
theorem dL_law_712 : decode cL_law 712 = .ok (.ireturn, 1) := by decide +kernel
theorem dL_law_713 : decode cL_law 713 = .ok (.aload_n 1, 1) := by decide +kernel
theorem dL_law_714 : decode cL_law 714 = .ok (.aload_n 0, 1) := by decide +kernel
theorem dL_law_715 : decode cL_law 715 = .ok (.iload_n 3, 1) := by decide +kernel
theorem dL_law_716 : decode cL_law 716 = .ok (.iconst 1, 1) := by decide +kernel
theorem dL_law_717 : decode cL_law 717 = .ok (.iadd, 1) := by decide +kernel
theorem dL_law_718 : decode cL_law 718 = .ok (.iaload, 1) := by decide +kernel
theorem dL_law_719 : decode cL_law 719 = .ok (.invokevirtual 102, 3) := by decide +kernel
theorem dL_law_722 : decode cL_law 722 = .ok (.aload_n 2, 1) := by decide +kernel
theorem dL_law_723 : decode cL_law 723 = .ok (.aload_n 0, 1) := by decide +kernel
theorem dL_law_724 : decode cL_law 724 = .ok (.iload_n 3, 1) := by decide +kernel
theorem dL_law_725 : decode cL_law 725 = .ok (.iconst 1, 1) := by decide +kernel
theorem dL_law_726 : decode cL_law 726 = .ok (.iadd, 1) := by decide +kernel
theorem dL_law_727 : decode cL_law 727 = .ok (.iaload, 1) := by decide +kernel
theorem dL_law_728 : decode cL_law 728 = .ok (.invokevirtual 105, 3) := by decide +kernel
theorem dL_law_731 : decode cL_law 731 = .ok (.if_icmp .eq 187, 3) := by decide +kernel
theorem dL_law_734 : decode cL_law 734 = .ok (.iconst 0, 1) := by decide +kernel
theorem dL_law_735 : decode cL_law 735 = .ok (.ireturn, 1) := by decide +kernel
theorem dL_law_736 : decode cL_law 736 = .ok (.aload_n 1, 1) := by decide +kernel
theorem dL_law_737 : decode cL_law 737 = .ok (.aload_n 0, 1) := by decide +kernel
theorem dL_law_738 : decode cL_law 738 = .ok (.iload_n 3, 1) := by decide +kernel
theorem dL_law_739 : decode cL_law 739 = .ok (.iconst 1, 1) := by decide +kernel
theorem dL_law_740 : decode cL_law 740 = .ok (.iadd, 1) := by decide +kernel
theorem dL_law_741 : decode cL_law 741 = .ok (.iaload, 1) := by decide +kernel
theorem dL_law_742 : decode cL_law 742 = .ok (.aload_n 0, 1) := by decide +kernel
theorem dL_law_743 : decode cL_law 743 = .ok (.iload_n 3, 1) := by decide +kernel
theorem dL_law_744 : decode cL_law 744 = .ok (.iconst 2, 1) := by decide +kernel
theorem dL_law_745 : decode cL_law 745 = .ok (.iadd, 1) := by decide +kernel
theorem dL_law_746 : decode cL_law 746 = .ok (.iaload, 1) := by decide +kernel
theorem dL_law_747 : decode cL_law 747 = .ok (.aload_n 0, 1) := by decide +kernel
theorem dL_law_748 : decode cL_law 748 = .ok (.iload_n 3, 1) := by decide +kernel
theorem dL_law_749 : decode cL_law 749 = .ok (.iconst 3, 1) := by decide +kernel
theorem dL_law_750 : decode cL_law 750 = .ok (.iadd, 1) := by decide +kernel
theorem dL_law_751 : decode cL_law 751 = .ok (.iaload, 1) := by decide +kernel
theorem dL_law_752 : decode cL_law 752 = .ok (.invokevirtual 106, 3) := by decide +kernel
theorem dL_law_755 : decode cL_law 755 = .ok (.aload_n 2, 1) := by decide +kernel
theorem dL_law_756 : decode cL_law 756 = .ok (.aload_n 0, 1) := by decide +kernel
theorem dL_law_757 : decode cL_law 757 = .ok (.iload_n 3, 1) := by decide +kernel
theorem dL_law_758 : decode cL_law 758 = .ok (.iconst 1, 1) := by decide +kernel
theorem dL_law_759 : decode cL_law 759 = .ok (.iadd, 1) := by decide +kernel
theorem dL_law_760 : decode cL_law 760 = .ok (.iaload, 1) := by decide +kernel
theorem dL_law_761 : decode cL_law 761 = .ok (.aload_n 0, 1) := by decide +kernel
theorem dL_law_762 : decode cL_law 762 = .ok (.iload_n 3, 1) := by decide +kernel
theorem dL_law_763 : decode cL_law 763 = .ok (.iconst 2, 1) := by decide +kernel
theorem dL_law_764 : decode cL_law 764 = .ok (.iadd, 1) := by decide +kernel
theorem dL_law_765 : decode cL_law 765 = .ok (.iaload, 1) := by decide +kernel
theorem dL_law_766 : decode cL_law 766 = .ok (.aload_n 0, 1) := by decide +kernel
theorem dL_law_767 : decode cL_law 767 = .ok (.iload_n 3, 1) := by decide +kernel
theorem dL_law_768 : decode cL_law 768 = .ok (.iconst 3, 1) := by decide +kernel
theorem dL_law_769 : decode cL_law 769 = .ok (.iadd, 1) := by decide +kernel
theorem dL_law_770 : decode cL_law 770 = .ok (.iaload, 1) := by decide +kernel
theorem dL_law_771 : decode cL_law 771 = .ok (.invokevirtual 109, 3) := by decide +kernel
theorem dL_law_774 : decode cL_law 774 = .ok (.if_icmp .eq 144, 3) := by decide +kernel
theorem dL_law_777 : decode cL_law 777 = .ok (.iconst 0, 1) := by decide +kernel
theorem dL_law_778 : decode cL_law 778 = .ok (.ireturn, 1) := by decide +kernel
theorem dL_law_779 : decode cL_law 779 = .ok (.aload_n 1, 1) := by decide +kernel
theorem dL_law_780 : decode cL_law 780 = .ok (.aload_n 0, 1) := by decide +kernel
theorem dL_law_781 : decode cL_law 781 = .ok (.iload_n 3, 1) := by decide +kernel
theorem dL_law_782 : decode cL_law 782 = .ok (.iconst 1, 1) := by decide +kernel
theorem dL_law_783 : decode cL_law 783 = .ok (.iadd, 1) := by decide +kernel
theorem dL_law_784 : decode cL_law 784 = .ok (.iaload, 1) := by decide +kernel
theorem dL_law_785 : decode cL_law 785 = .ok (.aload_n 0, 1) := by decide +kernel
theorem dL_law_786 : decode cL_law 786 = .ok (.iload_n 3, 1) := by decide +kernel
theorem dL_law_787 : decode cL_law 787 = .ok (.iconst 2, 1) := by decide +kernel
theorem dL_law_788 : decode cL_law 788 = .ok (.iadd, 1) := by decide +kernel
theorem dL_law_789 : decode cL_law 789 = .ok (.iaload, 1) := by decide +kernel
theorem dL_law_790 : decode cL_law 790 = .ok (.invokevirtual 110, 3) := by decide +kernel
theorem dL_law_793 : decode cL_law 793 = .ok (.aload_n 2, 1) := by decide +kernel
theorem dL_law_794 : decode cL_law 794 = .ok (.aload_n 0, 1) := by decide +kernel
theorem dL_law_795 : decode cL_law 795 = .ok (.iload_n 3, 1) := by decide +kernel
theorem dL_law_796 : decode cL_law 796 = .ok (.iconst 1, 1) := by decide +kernel
theorem dL_law_797 : decode cL_law 797 = .ok (.iadd, 1) := by decide +kernel
theorem dL_law_798 : decode cL_law 798 = .ok (.iaload, 1) := by decide +kernel
theorem dL_law_799 : decode cL_law 799 = .ok (.aload_n 0, 1) := by decide +kernel
theorem dL_law_800 : decode cL_law 800 = .ok (.iload_n 3, 1) := by decide +kernel
theorem dL_law_801 : decode cL_law 801 = .ok (.iconst 2, 1) := by decide +kernel
theorem dL_law_802 : decode cL_law 802 = .ok (.iadd, 1) := by decide +kernel
theorem dL_law_803 : decode cL_law 803 = .ok (.iaload, 1) := by decide +kernel
theorem dL_law_804 : decode cL_law 804 = .ok (.invokevirtual 113, 3) := by decide +kernel
theorem dL_law_807 : decode cL_law 807 = .ok (.if_icmp .eq 111, 3) := by decide +kernel
theorem dL_law_810 : decode cL_law 810 = .ok (.iconst 0, 1) := by decide +kernel
theorem dL_law_811 : decode cL_law 811 = .ok (.ireturn, 1) := by decide +kernel
theorem dL_law_812 : decode cL_law 812 = .ok (.aload_n 1, 1) := by decide +kernel
theorem dL_law_813 : decode cL_law 813 = .ok (.aload_n 0, 1) := by decide +kernel
theorem dL_law_814 : decode cL_law 814 = .ok (.iload_n 3, 1) := by decide +kernel
theorem dL_law_815 : decode cL_law 815 = .ok (.iconst 1, 1) := by decide +kernel
theorem dL_law_816 : decode cL_law 816 = .ok (.iadd, 1) := by decide +kernel
theorem dL_law_817 : decode cL_law 817 = .ok (.iaload, 1) := by decide +kernel
theorem dL_law_818 : decode cL_law 818 = .ok (.aload_n 0, 1) := by decide +kernel
theorem dL_law_819 : decode cL_law 819 = .ok (.iload_n 3, 1) := by decide +kernel
theorem dL_law_820 : decode cL_law 820 = .ok (.iconst 2, 1) := by decide +kernel
theorem dL_law_821 : decode cL_law 821 = .ok (.iadd, 1) := by decide +kernel
theorem dL_law_822 : decode cL_law 822 = .ok (.iaload, 1) := by decide +kernel
theorem dL_law_823 : decode cL_law 823 = .ok (.invokevirtual 114, 3) := by decide +kernel
theorem dL_law_826 : decode cL_law 826 = .ok (.aload_n 2, 1) := by decide +kernel
theorem dL_law_827 : decode cL_law 827 = .ok (.aload_n 0, 1) := by decide +kernel
theorem dL_law_828 : decode cL_law 828 = .ok (.iload_n 3, 1) := by decide +kernel
theorem dL_law_829 : decode cL_law 829 = .ok (.iconst 1, 1) := by decide +kernel
theorem dL_law_830 : decode cL_law 830 = .ok (.iadd, 1) := by decide +kernel
theorem dL_law_831 : decode cL_law 831 = .ok (.iaload, 1) := by decide +kernel
theorem dL_law_832 : decode cL_law 832 = .ok (.aload_n 0, 1) := by decide +kernel
theorem dL_law_833 : decode cL_law 833 = .ok (.iload_n 3, 1) := by decide +kernel
theorem dL_law_834 : decode cL_law 834 = .ok (.iconst 2, 1) := by decide +kernel
theorem dL_law_835 : decode cL_law 835 = .ok (.iadd, 1) := by decide +kernel
theorem dL_law_836 : decode cL_law 836 = .ok (.iaload, 1) := by decide +kernel
theorem dL_law_837 : decode cL_law 837 = .ok (.invokevirtual 117, 3) := by decide +kernel
theorem dL_law_840 : decode cL_law 840 = .ok (.if_icmp .eq 78, 3) := by decide +kernel
theorem dL_law_843 : decode cL_law 843 = .ok (.iconst 0, 1) := by decide +kernel
theorem dL_law_844 : decode cL_law 844 = .ok (.ireturn, 1) := by decide +kernel
theorem dL_law_845 : decode cL_law 845 = .ok (.aload_n 1, 1) := by decide +kernel
theorem dL_law_846 : decode cL_law 846 = .ok (.aload_n 0, 1) := by decide +kernel
theorem dL_law_847 : decode cL_law 847 = .ok (.iload_n 3, 1) := by decide +kernel
theorem dL_law_848 : decode cL_law 848 = .ok (.iconst 1, 1) := by decide +kernel
theorem dL_law_849 : decode cL_law 849 = .ok (.iadd, 1) := by decide +kernel
theorem dL_law_850 : decode cL_law 850 = .ok (.iaload, 1) := by decide +kernel
theorem dL_law_851 : decode cL_law 851 = .ok (.invokevirtual 118, 3) := by decide +kernel
theorem dL_law_854 : decode cL_law 854 = .ok (.aload_n 2, 1) := by decide +kernel
theorem dL_law_855 : decode cL_law 855 = .ok (.aload_n 0, 1) := by decide +kernel
theorem dL_law_856 : decode cL_law 856 = .ok (.iload_n 3, 1) := by decide +kernel
theorem dL_law_857 : decode cL_law 857 = .ok (.iconst 1, 1) := by decide +kernel
theorem dL_law_858 : decode cL_law 858 = .ok (.iadd, 1) := by decide +kernel
theorem dL_law_859 : decode cL_law 859 = .ok (.iaload, 1) := by decide +kernel
theorem dL_law_860 : decode cL_law 860 = .ok (.invokevirtual 121, 3) := by decide +kernel
theorem dL_law_863 : decode cL_law 863 = .ok (.if_icmp .eq 55, 3) := by decide +kernel
theorem dL_law_866 : decode cL_law 866 = .ok (.iconst 0, 1) := by decide +kernel
theorem dL_law_867 : decode cL_law 867 = .ok (.ireturn, 1) := by decide +kernel
theorem dL_law_868 : decode cL_law 868 = .ok (.aload_n 1, 1) := by decide +kernel
theorem dL_law_869 : decode cL_law 869 = .ok (.invokevirtual 122, 3) := by decide +kernel
theorem dL_law_872 : decode cL_law 872 = .ok (.aload_n 2, 1) := by decide +kernel
theorem dL_law_873 : decode cL_law 873 = .ok (.invokevirtual 125, 3) := by decide +kernel
theorem dL_law_876 : decode cL_law 876 = .ok (.if_icmp .eq 42, 3) := by decide +kernel
theorem dL_law_879 : decode cL_law 879 = .ok (.iconst 0, 1) := by decide +kernel
theorem dL_law_880 : decode cL_law 880 = .ok (.ireturn, 1) := by decide +kernel
theorem dL_law_881 : decode cL_law 881 = .ok (.aload_n 1, 1) := by decide +kernel
theorem dL_law_882 : decode cL_law 882 = .ok (.aload_n 0, 1) := by decide +kernel
theorem dL_law_883 : decode cL_law 883 = .ok (.iload_n 3, 1) := by decide +kernel
theorem dL_law_884 : decode cL_law 884 = .ok (.iconst 1, 1) := by decide +kernel
theorem dL_law_885 : decode cL_law 885 = .ok (.iadd, 1) := by decide +kernel
theorem dL_law_886 : decode cL_law 886 = .ok (.iaload, 1) := by decide +kernel
theorem dL_law_887 : decode cL_law 887 = .ok (.invokevirtual 126, 3) := by decide +kernel
theorem dL_law_890 : decode cL_law 890 = .ok (.aload_n 2, 1) := by decide +kernel
theorem dL_law_891 : decode cL_law 891 = .ok (.aload_n 0, 1) := by decide +kernel
theorem dL_law_892 : decode cL_law 892 = .ok (.iload_n 3, 1) := by decide +kernel
theorem dL_law_893 : decode cL_law 893 = .ok (.iconst 1, 1) := by decide +kernel
theorem dL_law_894 : decode cL_law 894 = .ok (.iadd, 1) := by decide +kernel
theorem dL_law_895 : decode cL_law 895 = .ok (.iaload, 1) := by decide +kernel
theorem dL_law_896 : decode cL_law 896 = .ok (.invokevirtual 129, 3) := by decide +kernel
theorem dL_law_899 : decode cL_law 899 = .ok (.if_icmp .eq 19, 3) := by decide +kernel
theorem dL_law_902 : decode cL_law 902 = .ok (.iconst 0, 1) := by decide +kernel
theorem dL_law_903 : decode cL_law 903 = .ok (.ireturn, 1) := by decide +kernel
theorem dL_law_904 : decode cL_law 904 = .ok (.aload_n 1, 1) := by decide +kernel
theorem dL_law_905 : decode cL_law 905 = .ok (.invokevirtual 130, 3) := by decide +kernel
theorem dL_law_908 : decode cL_law 908 = .ok (.aload_n 2, 1) := by decide +kernel
theorem dL_law_909 : decode cL_law 909 = .ok (.invokevirtual 134, 3) := by decide +kernel
theorem dL_law_912 : decode cL_law 912 = .ok (.lcmp, 1) := by decide +kernel
theorem dL_law_913 : decode cL_law 913 = .ok (.ifCond .eq 5, 3) := by decide +kernel
theorem dL_law_916 : decode cL_law 916 = .ok (.iconst 0, 1) := by decide +kernel
theorem dL_law_917 : decode cL_law 917 = .ok (.ireturn, 1) := by decide +kernel
theorem dL_law_918 : decode cL_law 918 = .ok (.iinc 3 4, 3) := by decide +kernel
theorem dL_law_921 : decode cL_law 921 = .ok (.goto (-903), 3) := by decide +kernel
theorem dL_law_924 : decode cL_law 924 = .ok (.iconst 1, 1) := by decide +kernel
theorem dL_law_925 : decode cL_law 925 = .ok (.ireturn, 1) := by decide +kernel
abbrev vwCl : List vw_C := [(RX0, TX0, 4), (RX1, TX1, 10), (RX2, TX2, 2), (RX3, TX3, 8), (RX4, TX4, 6), (RX5, TX5, 7), (RX6, TX6, 9), (RX7, TX7, 4), (RX8, TX8, 8), (RX9, TX9, 2), (RX10, TX10, 10), (RX11, TX11, 32)]
