section
-- ===== PART A: goes FIRST, ahead of the names: the tables' words, and 'selects' of the private methods out of them =====
/-- a private method of a class that the tables say can be made, by its rows of tables_1 -/
def lw_okq (q : MethodName × Nat) : Prop := (q.1.cls ≠ "java/lang/invoke/MethodHandle" ∧ q.1.cls ≠ "java/lang/invoke/VarHandle") ∧ Cond.instantiable q.1.cls q.2 ∈ tables_1 ∧ Cond.privateMethod q.1 ∈ tables_1 ∧ Cond.instanceMethod q.1 ∈ tables_1
theorem lw_p0 : lw_okq (⟨"StickerFoundry", "beginPuzzle", "(I)V"⟩, 11) := ⟨⟨by decide +kernel, by decide +kernel⟩, List.mem_of_getElem? (i := 19) (by decide +kernel), List.mem_of_getElem? (i := 103) (by decide +kernel), List.mem_of_getElem? (i := 104) (by decide +kernel)⟩
theorem lw_p1 : lw_okq (⟨"StickerFoundry$Chain", "keepTaker", "(IJ)V"⟩, 6) := ⟨⟨by decide +kernel, by decide +kernel⟩, List.mem_of_getElem? (i := 54) (by decide +kernel), List.mem_of_getElem? (i := 116) (by decide +kernel), List.mem_of_getElem? (i := 117) (by decide +kernel)⟩
theorem lw_p2 : lw_okq (⟨"StickerFoundry$Text", "addSign", "(C)V"⟩, 6) := ⟨⟨by decide +kernel, by decide +kernel⟩, List.mem_of_getElem? (i := 27) (by decide +kernel), List.mem_of_getElem? (i := 175) (by decide +kernel), List.mem_of_getElem? (i := 176) (by decide +kernel)⟩
theorem lw_p3 : lw_okq (⟨"StickerFoundry$Chain", "holdsFrom", "(IJ)Z"⟩, 6) := ⟨⟨by decide +kernel, by decide +kernel⟩, List.mem_of_getElem? (i := 54) (by decide +kernel), List.mem_of_getElem? (i := 211) (by decide +kernel), List.mem_of_getElem? (i := 212) (by decide +kernel)⟩
theorem lw_p4 : lw_okq (⟨"StickerFoundry$Text", "stateBehind", "(IC)I"⟩, 6) := ⟨⟨by decide +kernel, by decide +kernel⟩, List.mem_of_getElem? (i := 27) (by decide +kernel), List.mem_of_getElem? (i := 250) (by decide +kernel), List.mem_of_getElem? (i := 251) (by decide +kernel)⟩
theorem lw_p5 : lw_okq (⟨"StickerFoundry$Text", "stateBehindDigit", "(II)I"⟩, 6) := ⟨⟨by decide +kernel, by decide +kernel⟩, List.mem_of_getElem? (i := 27) (by decide +kernel), List.mem_of_getElem? (i := 254) (by decide +kernel), List.mem_of_getElem? (i := 255) (by decide +kernel)⟩
theorem lw_p6 : lw_okq (⟨"java/lang/Throwable", "fillInStackTrace", "(I)Ljava/lang/Throwable;"⟩, 6) := ⟨⟨by decide +kernel, by decide +kernel⟩, List.mem_of_getElem? (i := 298) (by decide +kernel), List.mem_of_getElem? (i := 296) (by decide +kernel), List.mem_of_getElem? (i := 297) (by decide +kernel)⟩
theorem lw_p7 : lw_okq (⟨"StickerFoundry", "addTurn", "(J)I"⟩, 11) := ⟨⟨by decide +kernel, by decide +kernel⟩, List.mem_of_getElem? (i := 19) (by decide +kernel), List.mem_of_getElem? (i := 393) (by decide +kernel), List.mem_of_getElem? (i := 394) (by decide +kernel)⟩
theorem lw_p8 : lw_okq (⟨"StickerFoundry$Chain", "enlarge", "(IJ)V"⟩, 6) := ⟨⟨by decide +kernel, by decide +kernel⟩, List.mem_of_getElem? (i := 54) (by decide +kernel), List.mem_of_getElem? (i := 403) (by decide +kernel), List.mem_of_getElem? (i := 404) (by decide +kernel)⟩
theorem lw_p9 : lw_okq (⟨"StickerFoundry$Chain", "meet", "(IJ)V"⟩, 6) := ⟨⟨by decide +kernel, by decide +kernel⟩, List.mem_of_getElem? (i := 54) (by decide +kernel), List.mem_of_getElem? (i := 407) (by decide +kernel), List.mem_of_getElem? (i := 408) (by decide +kernel)⟩
theorem lw_p10 : lw_okq (⟨"StickerFoundry", "requireTurn", "(I)V"⟩, 11) := ⟨⟨by decide +kernel, by decide +kernel⟩, List.mem_of_getElem? (i := 19) (by decide +kernel), List.mem_of_getElem? (i := 418) (by decide +kernel), List.mem_of_getElem? (i := 419) (by decide +kernel)⟩
theorem lw_p11 : lw_okq (⟨"StickerFoundry", "requireSticker", "(I)V"⟩, 11) := ⟨⟨by decide +kernel, by decide +kernel⟩, List.mem_of_getElem? (i := 19) (by decide +kernel), List.mem_of_getElem? (i := 423) (by decide +kernel), List.mem_of_getElem? (i := 424) (by decide +kernel)⟩
theorem lw_p12 : lw_okq (⟨"StickerFoundry$Chain", "countLesser", "(IJI)I"⟩, 6) := ⟨⟨by decide +kernel, by decide +kernel⟩, List.mem_of_getElem? (i := 54) (by decide +kernel), List.mem_of_getElem? (i := 488) (by decide +kernel), List.mem_of_getElem? (i := 489) (by decide +kernel)⟩
theorem lw_p13 : lw_okq (⟨"StickerFoundry", "placesFrom", "(I)I"⟩, 11) := ⟨⟨by decide +kernel, by decide +kernel⟩, List.mem_of_getElem? (i := 19) (by decide +kernel), List.mem_of_getElem? (i := 528) (by decide +kernel), List.mem_of_getElem? (i := 529) (by decide +kernel)⟩
theorem lw_p14 : lw_okq (⟨"StickerFoundry", "imagesOf", "(IJ)I"⟩, 11) := ⟨⟨by decide +kernel, by decide +kernel⟩, List.mem_of_getElem? (i := 19) (by decide +kernel), List.mem_of_getElem? (i := 532) (by decide +kernel), List.mem_of_getElem? (i := 533) (by decide +kernel)⟩
theorem lw_p15 : lw_okq (⟨"StickerFoundry", "partClasses", "(II)V"⟩, 11) := ⟨⟨by decide +kernel, by decide +kernel⟩, List.mem_of_getElem? (i := 19) (by decide +kernel), List.mem_of_getElem? (i := 540) (by decide +kernel), List.mem_of_getElem? (i := 541) (by decide +kernel)⟩
def lw_privs_1 : List (MethodName × Nat) := [(⟨"StickerFoundry", "beginPuzzle", "(I)V"⟩, 11), (⟨"StickerFoundry$Chain", "keepTaker", "(IJ)V"⟩, 6), (⟨"StickerFoundry$Text", "addSign", "(C)V"⟩, 6), (⟨"StickerFoundry$Chain", "holdsFrom", "(IJ)Z"⟩, 6), (⟨"StickerFoundry$Text", "stateBehind", "(IC)I"⟩, 6), (⟨"StickerFoundry$Text", "stateBehindDigit", "(II)I"⟩, 6), (⟨"java/lang/Throwable", "fillInStackTrace", "(I)Ljava/lang/Throwable;"⟩, 6), (⟨"StickerFoundry", "addTurn", "(J)I"⟩, 11), (⟨"StickerFoundry$Chain", "enlarge", "(IJ)V"⟩, 6), (⟨"StickerFoundry$Chain", "meet", "(IJ)V"⟩, 6), (⟨"StickerFoundry", "requireTurn", "(I)V"⟩, 11), (⟨"StickerFoundry", "requireSticker", "(I)V"⟩, 11), (⟨"StickerFoundry$Chain", "countLesser", "(IJI)I"⟩, 6), (⟨"StickerFoundry", "placesFrom", "(I)I"⟩, 11), (⟨"StickerFoundry", "imagesOf", "(IJ)I"⟩, 11), (⟨"StickerFoundry", "partClasses", "(II)V"⟩, 11)]
theorem lw_r1 : ∀ q ∈ lw_privs_1, lw_okq q := List.forall_mem_cons.mpr ⟨lw_p0, List.forall_mem_cons.mpr ⟨lw_p1, List.forall_mem_cons.mpr ⟨lw_p2, List.forall_mem_cons.mpr ⟨lw_p3, List.forall_mem_cons.mpr ⟨lw_p4, List.forall_mem_cons.mpr ⟨lw_p5, List.forall_mem_cons.mpr ⟨lw_p6, List.forall_mem_cons.mpr ⟨lw_p7, List.forall_mem_cons.mpr ⟨lw_p8, List.forall_mem_cons.mpr ⟨lw_p9, List.forall_mem_cons.mpr ⟨lw_p10, List.forall_mem_cons.mpr ⟨lw_p11, List.forall_mem_cons.mpr ⟨lw_p12, List.forall_mem_cons.mpr ⟨lw_p13, List.forall_mem_cons.mpr ⟨lw_p14, List.forall_mem_cons.mpr ⟨lw_p15, fun _ h => absurd h List.not_mem_nil⟩⟩⟩⟩⟩⟩⟩⟩⟩⟩⟩⟩⟩⟩⟩⟩
theorem lw_p16 : lw_okq (⟨"StickerFoundry", "uniteClasses", "(II)Z"⟩, 11) := ⟨⟨by decide +kernel, by decide +kernel⟩, List.mem_of_getElem? (i := 19) (by decide +kernel), List.mem_of_getElem? (i := 544) (by decide +kernel), List.mem_of_getElem? (i := 545) (by decide +kernel)⟩
theorem lw_p17 : lw_okq (⟨"StickerFoundry", "carryClasses", "(J)Z"⟩, 11) := ⟨⟨by decide +kernel, by decide +kernel⟩, List.mem_of_getElem? (i := 19) (by decide +kernel), List.mem_of_getElem? (i := 554) (by decide +kernel), List.mem_of_getElem? (i := 555) (by decide +kernel)⟩
theorem lw_p18 : lw_okq (⟨"StickerFoundry", "requireFewArrangements", "()V"⟩, 11) := ⟨⟨by decide +kernel, by decide +kernel⟩, List.mem_of_getElem? (i := 19) (by decide +kernel), List.mem_of_getElem? (i := 565) (by decide +kernel), List.mem_of_getElem? (i := 566) (by decide +kernel)⟩
theorem lw_p19 : lw_okq (⟨"StickerFoundry", "fillBall", "()V"⟩, 11) := ⟨⟨by decide +kernel, by decide +kernel⟩, List.mem_of_getElem? (i := 19) (by decide +kernel), List.mem_of_getElem? (i := 571) (by decide +kernel), List.mem_of_getElem? (i := 572) (by decide +kernel)⟩
theorem lw_p20 : lw_okq (⟨"StickerFoundry$Ball", "admit", "(JI)V"⟩, 4) := ⟨⟨by decide +kernel, by decide +kernel⟩, List.mem_of_getElem? (i := 84) (by decide +kernel), List.mem_of_getElem? (i := 583) (by decide +kernel), List.mem_of_getElem? (i := 584) (by decide +kernel)⟩
theorem lw_p21 : lw_okq (⟨"StickerFoundry$Ball", "slotOf", "(J)I"⟩, 4) := ⟨⟨by decide +kernel, by decide +kernel⟩, List.mem_of_getElem? (i := 84) (by decide +kernel), List.mem_of_getElem? (i := 587) (by decide +kernel), List.mem_of_getElem? (i := 588) (by decide +kernel)⟩
theorem lw_p22 : lw_okq (⟨"StickerFoundry", "findSolution", "(I)V"⟩, 11) := ⟨⟨by decide +kernel, by decide +kernel⟩, List.mem_of_getElem? (i := 19) (by decide +kernel), List.mem_of_getElem? (i := 619) (by decide +kernel), List.mem_of_getElem? (i := 620) (by decide +kernel)⟩
theorem lw_p23 : lw_okq (⟨"StickerFoundry", "nearerMove", "(JI)I"⟩, 11) := ⟨⟨by decide +kernel, by decide +kernel⟩, List.mem_of_getElem? (i := 19) (by decide +kernel), List.mem_of_getElem? (i := 623) (by decide +kernel), List.mem_of_getElem? (i := 624) (by decide +kernel)⟩
theorem lw_p24 : lw_okq (⟨"StickerFoundry$Text", "writeCycle", "(JI)I"⟩, 6) := ⟨⟨by decide +kernel, by decide +kernel⟩, List.mem_of_getElem? (i := 27) (by decide +kernel), List.mem_of_getElem? (i := 650) (by decide +kernel), List.mem_of_getElem? (i := 651) (by decide +kernel)⟩
theorem lw_p25 : lw_okq (⟨"StickerFoundry$Text", "addNumber", "(I)V"⟩, 6) := ⟨⟨by decide +kernel, by decide +kernel⟩, List.mem_of_getElem? (i := 27) (by decide +kernel), List.mem_of_getElem? (i := 654) (by decide +kernel), List.mem_of_getElem? (i := 655) (by decide +kernel)⟩
theorem lw_p26 : lw_okq (⟨"StickerFoundryModel", "readCycles", "()I"⟩, 20) := ⟨⟨by decide +kernel, by decide +kernel⟩, List.mem_of_getElem? (i := 658) (by decide +kernel), List.mem_of_getElem? (i := 747) (by decide +kernel), List.mem_of_getElem? (i := 748) (by decide +kernel)⟩
theorem lw_p27 : lw_okq (⟨"StickerFoundryModel", "skip", "(I)I"⟩, 20) := ⟨⟨by decide +kernel, by decide +kernel⟩, List.mem_of_getElem? (i := 658) (by decide +kernel), List.mem_of_getElem? (i := 751) (by decide +kernel), List.mem_of_getElem? (i := 752) (by decide +kernel)⟩
theorem lw_p28 : lw_okq (⟨"StickerFoundryModel", "isDigit", "(I)Z"⟩, 20) := ⟨⟨by decide +kernel, by decide +kernel⟩, List.mem_of_getElem? (i := 658) (by decide +kernel), List.mem_of_getElem? (i := 755) (by decide +kernel), List.mem_of_getElem? (i := 756) (by decide +kernel)⟩
theorem lw_p29 : lw_okq (⟨"StickerFoundryModel", "isPlace", "(I)Z"⟩, 20) := ⟨⟨by decide +kernel, by decide +kernel⟩, List.mem_of_getElem? (i := 658) (by decide +kernel), List.mem_of_getElem? (i := 767) (by decide +kernel), List.mem_of_getElem? (i := 768) (by decide +kernel)⟩
theorem lw_p30 : lw_okq (⟨"StickerFoundryModel", "taken", "(II)I"⟩, 20) := ⟨⟨by decide +kernel, by decide +kernel⟩, List.mem_of_getElem? (i := 658) (by decide +kernel), List.mem_of_getElem? (i := 775) (by decide +kernel), List.mem_of_getElem? (i := 776) (by decide +kernel)⟩
theorem lw_p31 : lw_okq (⟨"StickerFoundryModel", "findRows", "()V"⟩, 20) := ⟨⟨by decide +kernel, by decide +kernel⟩, List.mem_of_getElem? (i := 658) (by decide +kernel), List.mem_of_getElem? (i := 795) (by decide +kernel), List.mem_of_getElem? (i := 796) (by decide +kernel)⟩
def lw_privs_2 : List (MethodName × Nat) := [(⟨"StickerFoundry", "uniteClasses", "(II)Z"⟩, 11), (⟨"StickerFoundry", "carryClasses", "(J)Z"⟩, 11), (⟨"StickerFoundry", "requireFewArrangements", "()V"⟩, 11), (⟨"StickerFoundry", "fillBall", "()V"⟩, 11), (⟨"StickerFoundry$Ball", "admit", "(JI)V"⟩, 4), (⟨"StickerFoundry$Ball", "slotOf", "(J)I"⟩, 4), (⟨"StickerFoundry", "findSolution", "(I)V"⟩, 11), (⟨"StickerFoundry", "nearerMove", "(JI)I"⟩, 11), (⟨"StickerFoundry$Text", "writeCycle", "(JI)I"⟩, 6), (⟨"StickerFoundry$Text", "addNumber", "(I)V"⟩, 6), (⟨"StickerFoundryModel", "readCycles", "()I"⟩, 20), (⟨"StickerFoundryModel", "skip", "(I)I"⟩, 20), (⟨"StickerFoundryModel", "isDigit", "(I)Z"⟩, 20), (⟨"StickerFoundryModel", "isPlace", "(I)Z"⟩, 20), (⟨"StickerFoundryModel", "taken", "(II)I"⟩, 20), (⟨"StickerFoundryModel", "findRows", "()V"⟩, 20)]
theorem lw_r2 : ∀ q ∈ lw_privs_2, lw_okq q := List.forall_mem_cons.mpr ⟨lw_p16, List.forall_mem_cons.mpr ⟨lw_p17, List.forall_mem_cons.mpr ⟨lw_p18, List.forall_mem_cons.mpr ⟨lw_p19, List.forall_mem_cons.mpr ⟨lw_p20, List.forall_mem_cons.mpr ⟨lw_p21, List.forall_mem_cons.mpr ⟨lw_p22, List.forall_mem_cons.mpr ⟨lw_p23, List.forall_mem_cons.mpr ⟨lw_p24, List.forall_mem_cons.mpr ⟨lw_p25, List.forall_mem_cons.mpr ⟨lw_p26, List.forall_mem_cons.mpr ⟨lw_p27, List.forall_mem_cons.mpr ⟨lw_p28, List.forall_mem_cons.mpr ⟨lw_p29, List.forall_mem_cons.mpr ⟨lw_p30, List.forall_mem_cons.mpr ⟨lw_p31, fun _ h => absurd h List.not_mem_nil⟩⟩⟩⟩⟩⟩⟩⟩⟩⟩⟩⟩⟩⟩⟩⟩
theorem lw_p32 : lw_okq (⟨"StickerFoundryModel", "sift", "()Z"⟩, 20) := ⟨⟨by decide +kernel, by decide +kernel⟩, List.mem_of_getElem? (i := 658) (by decide +kernel), List.mem_of_getElem? (i := 799) (by decide +kernel), List.mem_of_getElem? (i := 800) (by decide +kernel)⟩
theorem lw_p33 : lw_okq (⟨"StickerFoundryModel", "takeOff", "(I)V"⟩, 20) := ⟨⟨by decide +kernel, by decide +kernel⟩, List.mem_of_getElem? (i := 658) (by decide +kernel), List.mem_of_getElem? (i := 803) (by decide +kernel), List.mem_of_getElem? (i := 804) (by decide +kernel)⟩
theorem lw_p34 : lw_okq (⟨"StickerFoundryModel", "behind", "(II)V"⟩, 20) := ⟨⟨by decide +kernel, by decide +kernel⟩, List.mem_of_getElem? (i := 658) (by decide +kernel), List.mem_of_getElem? (i := 807) (by decide +kernel), List.mem_of_getElem? (i := 808) (by decide +kernel)⟩
theorem lw_p35 : lw_okq (⟨"StickerFoundryModel", "orderFrom", "(I)J"⟩, 20) := ⟨⟨by decide +kernel, by decide +kernel⟩, List.mem_of_getElem? (i := 658) (by decide +kernel), List.mem_of_getElem? (i := 811) (by decide +kernel), List.mem_of_getElem? (i := 812) (by decide +kernel)⟩
theorem lw_p36 : lw_okq (⟨"StickerFoundryModel", "orbitOf", "(I)I"⟩, 20) := ⟨⟨by decide +kernel, by decide +kernel⟩, List.mem_of_getElem? (i := 658) (by decide +kernel), List.mem_of_getElem? (i := 815) (by decide +kernel), List.mem_of_getElem? (i := 816) (by decide +kernel)⟩
theorem lw_p37 : lw_okq (⟨"StickerFoundryModel", "takeTable", "()V"⟩, 20) := ⟨⟨by decide +kernel, by decide +kernel⟩, List.mem_of_getElem? (i := 658) (by decide +kernel), List.mem_of_getElem? (i := 831) (by decide +kernel), List.mem_of_getElem? (i := 832) (by decide +kernel)⟩
theorem lw_p38 : lw_okq (⟨"StickerFoundryModel", "rankOf", "()J"⟩, 20) := ⟨⟨by decide +kernel, by decide +kernel⟩, List.mem_of_getElem? (i := 658) (by decide +kernel), List.mem_of_getElem? (i := 835) (by decide +kernel), List.mem_of_getElem? (i := 836) (by decide +kernel)⟩
theorem lw_p39 : lw_okq (⟨"StickerFoundryModel", "advance", "(I)V"⟩, 20) := ⟨⟨by decide +kernel, by decide +kernel⟩, List.mem_of_getElem? (i := 658) (by decide +kernel), List.mem_of_getElem? (i := 840) (by decide +kernel), List.mem_of_getElem? (i := 841) (by decide +kernel)⟩
theorem lw_p40 : lw_okq (⟨"StickerFoundryModel", "find", "(J)V"⟩, 20) := ⟨⟨by decide +kernel, by decide +kernel⟩, List.mem_of_getElem? (i := 658) (by decide +kernel), List.mem_of_getElem? (i := 852) (by decide +kernel), List.mem_of_getElem? (i := 853) (by decide +kernel)⟩
theorem lw_p41 : lw_okq (⟨"StickerFoundryModel", "join", "(II)V"⟩, 20) := ⟨⟨by decide +kernel, by decide +kernel⟩, List.mem_of_getElem? (i := 658) (by decide +kernel), List.mem_of_getElem? (i := 860) (by decide +kernel), List.mem_of_getElem? (i := 861) (by decide +kernel)⟩
theorem lw_p42 : lw_okq (⟨"StickerFoundryModel", "areFew", "()Z"⟩, 20) := ⟨⟨by decide +kernel, by decide +kernel⟩, List.mem_of_getElem? (i := 658) (by decide +kernel), List.mem_of_getElem? (i := 868) (by decide +kernel), List.mem_of_getElem? (i := 869) (by decide +kernel)⟩
theorem lw_p43 : lw_okq (⟨"StickerFoundryModel", "measure", "()V"⟩, 20) := ⟨⟨by decide +kernel, by decide +kernel⟩, List.mem_of_getElem? (i := 658) (by decide +kernel), List.mem_of_getElem? (i := 873) (by decide +kernel), List.mem_of_getElem? (i := 874) (by decide +kernel)⟩
theorem lw_p44 : lw_okq (⟨"StickerFoundryModel", "moved", "(II)I"⟩, 20) := ⟨⟨by decide +kernel, by decide +kernel⟩, List.mem_of_getElem? (i := 658) (by decide +kernel), List.mem_of_getElem? (i := 877) (by decide +kernel), List.mem_of_getElem? (i := 878) (by decide +kernel)⟩
theorem lw_p45 : lw_okq (⟨"StickerFoundryModel", "fail", "(I)I"⟩, 20) := ⟨⟨by decide +kernel, by decide +kernel⟩, List.mem_of_getElem? (i := 658) (by decide +kernel), List.mem_of_getElem? (i := 889) (by decide +kernel), List.mem_of_getElem? (i := 890) (by decide +kernel)⟩
theorem lw_p46 : lw_okq (⟨"StickerFoundryModel", "solves", "(II)Z"⟩, 20) := ⟨⟨by decide +kernel, by decide +kernel⟩, List.mem_of_getElem? (i := 658) (by decide +kernel), List.mem_of_getElem? (i := 901) (by decide +kernel), List.mem_of_getElem? (i := 902) (by decide +kernel)⟩
theorem lw_p47 : lw_okq (⟨"StickerFoundryModel", "say", "(I)V"⟩, 20) := ⟨⟨by decide +kernel, by decide +kernel⟩, List.mem_of_getElem? (i := 658) (by decide +kernel), List.mem_of_getElem? (i := 909) (by decide +kernel), List.mem_of_getElem? (i := 910) (by decide +kernel)⟩
def lw_privs_3 : List (MethodName × Nat) := [(⟨"StickerFoundryModel", "sift", "()Z"⟩, 20), (⟨"StickerFoundryModel", "takeOff", "(I)V"⟩, 20), (⟨"StickerFoundryModel", "behind", "(II)V"⟩, 20), (⟨"StickerFoundryModel", "orderFrom", "(I)J"⟩, 20), (⟨"StickerFoundryModel", "orbitOf", "(I)I"⟩, 20), (⟨"StickerFoundryModel", "takeTable", "()V"⟩, 20), (⟨"StickerFoundryModel", "rankOf", "()J"⟩, 20), (⟨"StickerFoundryModel", "advance", "(I)V"⟩, 20), (⟨"StickerFoundryModel", "find", "(J)V"⟩, 20), (⟨"StickerFoundryModel", "join", "(II)V"⟩, 20), (⟨"StickerFoundryModel", "areFew", "()Z"⟩, 20), (⟨"StickerFoundryModel", "measure", "()V"⟩, 20), (⟨"StickerFoundryModel", "moved", "(II)I"⟩, 20), (⟨"StickerFoundryModel", "fail", "(I)I"⟩, 20), (⟨"StickerFoundryModel", "solves", "(II)Z"⟩, 20), (⟨"StickerFoundryModel", "say", "(I)V"⟩, 20)]
theorem lw_r3 : ∀ q ∈ lw_privs_3, lw_okq q := List.forall_mem_cons.mpr ⟨lw_p32, List.forall_mem_cons.mpr ⟨lw_p33, List.forall_mem_cons.mpr ⟨lw_p34, List.forall_mem_cons.mpr ⟨lw_p35, List.forall_mem_cons.mpr ⟨lw_p36, List.forall_mem_cons.mpr ⟨lw_p37, List.forall_mem_cons.mpr ⟨lw_p38, List.forall_mem_cons.mpr ⟨lw_p39, List.forall_mem_cons.mpr ⟨lw_p40, List.forall_mem_cons.mpr ⟨lw_p41, List.forall_mem_cons.mpr ⟨lw_p42, List.forall_mem_cons.mpr ⟨lw_p43, List.forall_mem_cons.mpr ⟨lw_p44, List.forall_mem_cons.mpr ⟨lw_p45, List.forall_mem_cons.mpr ⟨lw_p46, List.forall_mem_cons.mpr ⟨lw_p47, fun _ h => absurd h List.not_mem_nil⟩⟩⟩⟩⟩⟩⟩⟩⟩⟩⟩⟩⟩⟩⟩⟩
theorem lw_p48 : lw_okq (⟨"StickerFoundryModel", "sayNumber", "(I)V"⟩, 20) := ⟨⟨by decide +kernel, by decide +kernel⟩, List.mem_of_getElem? (i := 658) (by decide +kernel), List.mem_of_getElem? (i := 913) (by decide +kernel), List.mem_of_getElem? (i := 914) (by decide +kernel)⟩
def lw_privs_4 : List (MethodName × Nat) := [(⟨"StickerFoundryModel", "sayNumber", "(I)V"⟩, 20)]
theorem lw_r4 : ∀ q ∈ lw_privs_4, lw_okq q := List.forall_mem_cons.mpr ⟨lw_p48, fun _ h => absurd h List.not_mem_nil⟩
def lw_privs : List (MethodName × Nat) := lw_privs_1 ++ (lw_privs_2 ++ (lw_privs_3 ++ (lw_privs_4)))
def lw_tbl : List Cond := k2_sels lw_privs ++ tables_1
theorem lw_privs_ok : ∀ q ∈ lw_privs, lw_okq q := by
  show ∀ q ∈ lw_privs_1 ++ (lw_privs_2 ++ (lw_privs_3 ++ (lw_privs_4))), lw_okq q
  exact List.forall_mem_append.mpr ⟨lw_r1, List.forall_mem_append.mpr ⟨lw_r2, List.forall_mem_append.mpr ⟨lw_r3, lw_r4⟩⟩⟩
/-- arrays of arrays of ty: the word, by its name -/
def va_AOA (ty : FieldType) (U : State) : Prop := (Cond.arrayOver (.array ty)).before #[] U = true
theorem va_AOA.of {ty : FieldType} {A : Array Value} {U : State} (h : (Cond.arrayOver (.array ty)).before A U = true) : va_AOA ty U := h
theorem va_AOA.use {ty : FieldType} {A : Array Value} {U : State} (h : va_AOA ty U) : (Cond.arrayOver (.array ty)).before A U = true := h
/-! ===== BEGIN words of one list among another's, by their places ===== -/
theorem goodIn_r {big : List Cond} (ws : List Cond) (ps : List Nat) (hp : ws = ps.filterMap (fun i => big[i]?)) (h : ws.all goodWord = true) : GoodIn big ws := by
  intro w hw
  have h1 := List.all_eq_true.mp h w hw
  rw [hp] at hw
  obtain ⟨i, -, hi⟩ := List.mem_filterMap.mp hw
  have hm : w ∈ big := by first | exact List.mem_of_getElem? hi | exact List.getElem?_mem hi
  exact ⟨hm, good_of_word h1⟩
theorem goodIn_app {big a b : List Cond} (ha : GoodIn big a) (hb : GoodIn big b) : GoodIn big (a ++ b) := fun w h => (List.mem_append.mp h).elim (ha w) (hb w)
theorem goodIn_ca {big a b : List Cond} {c : Cond} (ha : GoodIn big (c :: a)) (hb : GoodIn big b) : GoodIn big (c :: (a ++ b)) := fun w h => (List.mem_cons.mp h).elim (fun e => ha w (List.mem_cons.mpr (Or.inl e))) (fun h => (List.mem_append.mp h).elim (fun h => ha w (List.mem_cons.mpr (Or.inr h))) (hb w))
theorem goodIn_sub {big ws : List Cond} (hm : ∀ w ∈ ws, w ∈ big) (h : ws.all goodWord = true) : GoodIn big ws := fun w hw => ⟨hm w hw, good_of_word (List.all_eq_true.mp h w hw)⟩
/-! ===== END ===== -/

/-! ===== BEGIN new T[n][m]: the outer array a place, the inner ones among the pooled ===== -/
/-- f, but v at every address of l -/
def vr_up {α : Type} (f : Nat → α) (l : List Nat) (v : α) : Nat → α := fun a => if a ∈ l then v else f a
theorem vr_up_in {α : Type} {f : Nat → α} {l : List Nat} {v : α} {a : Nat} (h : a ∈ l) : vr_up f l v a = v := if_pos h
theorem vr_up_ne {α : Type} {f : Nat → α} {l : List Nat} {v : α} {a : Nat} (h : a ∉ l) : vr_up f l v a = f a := if_neg h
theorem vr_rows {L l : List Nat} {f : Nat → va_E} {e : va_E} (h : ∀ a, a ∈ l → a ∉ L) : va_pl L f ++ l.map (fun a => (a, e)) = va_pl (L ++ l) (vr_up f l e) := by
  unfold va_pl
  rw [List.map_append]
  congr 1
  · apply List.map_congr_left
    intro a ha
    rw [vr_up_ne (fun q => h a q ha)]
  · apply List.map_congr_left
    intro a ha
    rw [vr_up_in ha]
theorem vr_lay {X rows : va_W} {x : Nat × va_E} {pl : va_W} {D : va_G} {cl : List vw_C} {H : Heap} (hP : va_P D cl (((X ++ pl) ++ [x]) ++ rows) H) : va_P D cl ((X ++ [x]) ++ (pl ++ rows)) H := by
  rw [List.append_assoc (X ++ pl)] at hP
  have h := va_P.swap hP
  rw [← List.append_assoc X] at h
  have h2 := va_P.swap h
  rw [List.append_assoc (X ++ [x])] at h2
  exact h2
theorem vr_layD {X rows : va_W} {x : Nat × va_E} {pl : va_W} {A : Nat → Prop} (hD : va_D A (((X ++ pl) ++ [x]) ++ rows)) : va_D A ((X ++ [x]) ++ (pl ++ rows)) := by
  rw [List.append_assoc (X ++ pl)] at hD
  have h := va_D.swap hD
  rw [← List.append_assoc X] at h
  have h2 := va_D.swap h
  rw [List.append_assoc (X ++ [x])] at h2
  exact h2
theorem vr_outer (c : ClassId) (N h0 : Nat) : ∀ i : Nat, Jvm.Free.Multi.outerC c N h0 i = arrV c N (fun j => va_rf (if j < i then some (h0 + 1 + j) else none))
  | 0 => by
    show ({ cls := c, slots := Array.replicate N .null, vm := .none } : Cell) = _
    rw [arrV_new]
    refine congrArg (arrV c N) (funext fun j => ?_)
    simp [va_rf]
  | i + 1 => by
    show (Jvm.Free.Multi.outerC c N h0 i).setSlot i (.ref (h0 + 1 + i)) = _
    rw [vr_outer c N h0 i, arrV_store]
    refine congrArg (arrV c N) (funext fun j => ?_)
    by_cases e : j = i
    · subst e
      simp [updV, va_rf]
    · by_cases h : j < i
      · simp [updV, e, h, Nat.lt_succ_of_lt h]
      · simp [updV, e, h, show ¬ j < i + 1 by omega]
section VGM
variable {p : Program} {l : Launch} {e : Env} {R : Room} {s : State} {m : MethodId} {args : Array Value} {below : List Frame} {meth : Method} {c : Code} {H : Heap} {locs : List Loc} {cells slots : Nat} {Q : State → Prop}
variable {cc : ByteArray} {pc : Nat} {ls : Array Slot} {rest : List Value} {D : va_G} {cl : List vw_C} {A : Nat → Prop} {a : Nat} {tys : List (ClassId × FieldType)} {ws : va_W} {H0 : Heap}
theorem va_mna {X : va_W} {L : List Nat} {f : Nat → va_E} {cc : ByteArray} (hexec : p.tables.exec = Jvm.exec) (hb : c.code = cc) {own : String} {index : Nat} {ty : FieldType} {cy : ClassId} (hown : s.vm.findClass own = some m.cls) (hclink : (Cond.classLink own index ("[" ++ (FieldType.array ty).toString)).before args s = true) (hover : va_AOA ty s) (harr : (Cond.arrayClass ty).before args s = true) (hcy : s.vm.findClass (FieldType.array ty).toString = some cy)
    (hK : va_K D cl tys s) (hP : va_P D cl (X ++ va_pl L f) H) (hD : va_D A (X ++ va_pl L f)) (hS : va_S A H0 H locs) (hA : ∀ q, H0.size ≤ q → A q) {n k : Int32} {N' K' : Nat} {z : vp_A} (hn : ¬ n < 0) (hk : ¬ k < 0) (hN : n.toNatClampNeg = N') (hM : k.toNatClampNeg = K')
    (hb1 : N' * 4 ≤ 536870912) (hb2 : K' * componentBytes ty ≤ 536870912) (hb3 : K' ≤ 536870912) (hdf : fits ty (defaultValue ty) = true) (hdd : (defaultValue ty).isDefault = true) (hcells : cells + (1 + N') ≤ R.cells) (hslots : slots + (N' + N' * K') ≤ R.slots) (hz : ∀ c : ClassId, Jvm.Free.Multi.innerC c K' (defaultValue ty) = vp_cell c z) (hdg : decode cc pc = .ok (.multianewarray index 2, 4))
    (kk : ∀ (q : Nat) (r : Nat → Nat) (cA : ClassId) (H1 : Heap), (∀ i j : Nat, i < N' → j < N' → r i = r j → i = j) → (∀ i : Nat, i < N' → r i ∉ L) → va_K D cl (tys ++ [(cA, .array ty)]) s →
      va_P D cl ((X ++ [(q, .inl (cA, N', .inr (.inr (.inr (.inr (fun i => if i < N' then some (r i) else none))))))]) ++ va_pl (L ++ (List.range N').map r) (vr_up f ((List.range N').map r) (.inl (cy, z)))) H1 → va_D A ((X ++ [(q, .inl (cA, N', .inr (.inr (.inr (.inr (fun i => if i < N' then some (r i) else none))))))]) ++ va_pl (L ++ (List.range N').map r) (vr_up f ((List.range N').map r) (.inl (cy, z)))) → va_S A H0 H1 locs →
      W p l e R s m args below meth c H1 locs (cells + 1 + N') (slots + N' + N' * K') Q (F0 m (pc + 4) ls (.ref q :: rest))) : W p l e R s m args below meth c H locs cells slots Q (F0 m pc ls (.int k :: .int n :: rest)) := by
  subst hN
  subst hM
  intro T hT Xs
  obtain ⟨vm₁, cA, comp, -, fA, fC, hO, -, X', step⟩ := Xs.multianewarray2F hexec hown hclink (va_AOA.use hover) harr (g := F0 m pc ls (.int k :: .int n :: rest)) rfl (by rw [hb]; exact hdg) rfl hn hk hb1 hb2 hb3 hdf hdd hcells hslots
  have ec : some cy = some comp := hcy.symm.trans fC
  cases ec
  generalize hF : Jvm.Free.Multi.fill (T.setVm vm₁) cA cy n.toNatClampNeg k.toNatClampNeg (defaultValue ty) n.toNatClampNeg = F at X' step
  have hTh : (T.setVm vm₁).heap = H := hT
  obtain ⟨f1, f2, -, -⟩ := Jvm.Free.Multi.fill_facts (T.setVm vm₁) cA cy n.toNatClampNeg k.toNatClampNeg (defaultValue ty) n.toNatClampNeg
  rw [hF, hTh] at f1 f2
  have hold : ∀ x : Nat, x < H.size → F.heap[x]? = H[x]? := fun x hx => by
    have := Jvm.Free.Multi.fill_old (T.setVm vm₁) cA cy n.toNatClampNeg k.toNatClampNeg (defaultValue ty) (a := x) (by rw [hTh]; exact hx) n.toNatClampNeg
    rw [hF, hTh] at this
    exact this
  have hrow : ∀ j : Nat, j < n.toNatClampNeg → F.heap[H.size + 1 + j]? = some (vp_cell cy z) := fun j hj => by
    have := Jvm.Free.Multi.fill_inner (T.setVm vm₁) cA cy n.toNatClampNeg k.toNatClampNeg (defaultValue ty) n.toNatClampNeg j hj
    rw [hF, hTh, hz] at this
    exact this
  have hout : Jvm.Free.Multi.outerC cA n.toNatClampNeg H.size n.toNatClampNeg = vp_cell cA (n.toNatClampNeg, .inr (.inr (.inr (.inr (fun i => if i < n.toNatClampNeg then some (H.size + 1 + i) else none))))) := by
    rw [vp_cell_q]
    exact vr_outer cA n.toNatClampNeg H.size n.toNatClampNeg
  rw [hout] at f2
  have hlt : ∀ a, a ∈ L → a < H.size := fun a ha => by
    obtain ⟨k9, hk9⟩ := va_pl_get (X := X) (f := f) ha
    exact (hP k9 _ hk9).lt
  have hnl : ∀ i : Nat, i < n.toNatClampNeg → H.size + 1 + i ∉ L := fun i _ h => by
    have := hlt _ h
    omega
  have hnm : ∀ a, a ∈ (List.range n.toNatClampNeg).map (fun i => H.size + 1 + i) → a ∉ L := fun a ha h => by
    obtain ⟨i, -, rfl⟩ := List.mem_map.mp ha
    have := hlt _ h
    omega
  have hP0 : va_P D cl (X ++ va_pl L f) F.heap := hP.kept (fun k9 x hx => hold x.1 ((hP k9 x hx).lt))
  have hP1 : va_P D cl ((X ++ va_pl L f) ++ [(H.size, .inl (cA, n.toNatClampNeg, .inr (.inr (.inr (.inr (fun i => if i < n.toNatClampNeg then some (H.size + 1 + i) else none))))))]) F.heap := hP0.app (fun k9 x hx => by
    have h0 : k9 < 1 := (List.getElem?_eq_some_iff.mp hx).1
    rw [show k9 = 0 by omega] at hx
    cases hx
    exact f2)
  have hP2 : va_P D cl (((X ++ va_pl L f) ++ [(H.size, .inl (cA, n.toNatClampNeg, .inr (.inr (.inr (.inr (fun i => if i < n.toNatClampNeg then some (H.size + 1 + i) else none))))))]) ++ ((List.range n.toNatClampNeg).map (fun i => H.size + 1 + i)).map (fun a => (a, .inl (cy, z)))) F.heap := hP1.app (fun k9 x hx => by
    obtain ⟨a, ha, rfl⟩ := List.mem_map.mp (List.mem_of_getElem? hx)
    obtain ⟨i, hi, rfl⟩ := List.mem_map.mp ha
    exact hrow i (List.mem_range.mp hi))
  have hD2 : va_D A (((X ++ va_pl L f) ++ [(H.size, .inl (cA, n.toNatClampNeg, .inr (.inr (.inr (.inr (fun i => if i < n.toNatClampNeg then some (H.size + 1 + i) else none))))))]) ++ ((List.range n.toNatClampNeg).map (fun i => H.size + 1 + i)).map (fun a => (a, .inl (cy, z)))) := by
    have hD1 := hD.push (e := .inl (cA, n.toNatClampNeg, .inr (.inr (.inr (.inr (fun i => if i < n.toNatClampNeg then some (H.size + 1 + i) else none)))))) hP rfl (hA _ hS.1)
    generalize hW1 : (X ++ va_pl L f) ++ [(H.size, .inl (cA, n.toNatClampNeg, .inr (.inr (.inr (.inr (fun i => if i < n.toNatClampNeg then some (H.size + 1 + i) else none))))))] = W1 at hD1 hP1 ⊢
    have hle : ∀ (k9 : Nat) (x : Nat × va_E), W1[k9]? = some x → x.1 ≤ H.size := fun k9 x hx => by
      rw [← hW1] at hx
      by_cases hl : k9 < (X ++ va_pl L f).length
      · rw [List.getElem?_append_left hl] at hx
        exact Nat.le_of_lt ((hP k9 x hx).lt)
      · rw [List.getElem?_append_right (by omega)] at hx
        have h0 : k9 - (X ++ va_pl L f).length < 1 := (List.getElem?_eq_some_iff.mp hx).1
        rw [show k9 - (X ++ va_pl L f).length = 0 by omega] at hx
        cases hx
        exact Nat.le_refl _
    have hr : ∀ (k9 : Nat) (x : Nat × va_E), (((List.range n.toNatClampNeg).map (fun i => H.size + 1 + i)).map (fun a => ((a, .inl (cy, z)) : Nat × va_E)))[k9]? = some x → x.1 = H.size + 1 + k9 := fun k9 x hx => by
      rw [List.getElem?_map, List.getElem?_map] at hx
      by_cases h9 : k9 < n.toNatClampNeg
      · rw [List.getElem?_range h9] at hx
        cases hx
        rfl
      · have hn0 : (List.range n.toNatClampNeg)[k9]? = none := List.getElem?_eq_none (by rw [List.length_range]; omega)
        rw [hn0] at hx
        cases hx
    refine ⟨fun i j x y hi hj hxy => ?_, fun k9 x hx => ?_⟩
    · by_cases h1 : i < W1.length <;> by_cases h2 : j < W1.length
      · rw [List.getElem?_append_left h1] at hi
        rw [List.getElem?_append_left h2] at hj
        exact hD1.1 i j x y hi hj hxy
      · rw [List.getElem?_append_left h1] at hi
        rw [List.getElem?_append_right (by omega)] at hj
        have := hle _ _ hi
        have := hr _ _ hj
        omega
      · rw [List.getElem?_append_right (by omega)] at hi
        rw [List.getElem?_append_left h2] at hj
        have := hle _ _ hj
        have := hr _ _ hi
        omega
      · rw [List.getElem?_append_right (by omega)] at hi hj
        have := hr _ _ hi
        have := hr _ _ hj
        omega
    · by_cases h1 : k9 < W1.length
      · rw [List.getElem?_append_left h1] at hx
        exact hD1.2 k9 x hx
      · rw [List.getElem?_append_right (by omega)] at hx
        have := hr _ _ hx
        exact hA _ (by have := hS.1; omega)
  have hAr : ArrOfT s cA (.array ty) := fun N9 z9 => by
    obtain ⟨-, k9, hk9, cm9, hkk9⟩ := (hO 0 0 0).1
    exact ⟨(fun q hq => by cases hq), k9, hk9, cm9, hkk9⟩
  have hK2 : va_K D cl (tys ++ [(cA, .array ty)]) s := ⟨hK.1, fun k9 x hx => by
    by_cases hl : k9 < tys.length
    · rw [List.getElem?_append_left hl] at hx
      exact hK.2 k9 x hx
    · rw [List.getElem?_append_right (by omega)] at hx
      have h0 : k9 - tys.length < 1 := (List.getElem?_eq_some_iff.mp hx).1
      rw [show k9 - tys.length = 0 by omega] at hx
      cases hx
      exact ⟨hAr, fA⟩⟩
  obtain ⟨t, a1, b1⟩ := kk H.size (fun i => H.size + 1 + i) cA F.heap (fun i j _ _ h => by have h9 : H.size + 1 + i = H.size + 1 + j := h; omega) hnl hK2 (by rw [← vr_rows hnm]; exact vr_lay hP2) (by rw [← vr_rows hnm]; exact vr_layD hD2) ⟨by rw [f1]; have := hS.1; omega, fun x h1 h2 => (hold x (Nat.lt_of_lt_of_le h1 hS.1)).trans (hS.2.1 x h1 h2), hS.2.2⟩ F rfl X'
  refine ⟨t, step t ?_, b1⟩
  have e : T.heap.size = H.size := by rw [hT]
  rw [e]
  exact a1
end VGM
/-! ===== END ===== -/

/-! ===== BEGIN exceptions that leave a method, and their catching by the caller (launches without stack traces) ===== -/
section VXA
/-! The laws vx_back, vx_callV, vx_callS, vx_callSW, vx_throw0, vx_throwS follow proofs of the library, with one case more: JvmDerived/Free/Laws.lean (Back.of_free), Shelf42/LK1.lean (callV, callS), Shelf/KitTraced.lean (throwNew0V, throwNewS). -/

/-- where a method has thrown q: the class by its name, the cell, what was written, the world -/
def vx_T (XC : String → State → State → Prop) (st : State) (q : Addr) (t : State) (mc ms : Nat) (free : Addr → Prop) : Prop :=
  ∃ (E : String) (ce : Cell) (L : List Loc), XC E st t ∧ t.heap[q]? = some ce ∧ ce.vm = .none ∧ st.vm.findClass E = some ce.cls ∧ st.WarmedH t.vm ∧ st.sameButNew ({ t with vm := st.vm } : State) L mc ms ∧ ∀ z ∈ L, free z.base
def vx_Q (Qc : Array Value → State → Outcome → State → Prop) (XC : String → State → State → Prop) (mc ms : Nat) (free : Addr → Prop) : Array Value → State → Outcome → State → Prop := fun a st o t =>
  (Qc a st o t ∧ ∃ L, FrameEnd st o t L mc ms ∧ ∀ q ∈ L, free q.base) ∨ ∃ q, o = .threw q ∧ vx_T XC st q t mc ms free
/-- a callee that returns or throws -/
def vx_Met (l : Launch) (y : MethodName) (ws : List Cond) (rm : Room) (Pc : Array Value → State → Prop) (Qc : Array Value → State → Outcome → State → Prop) (XC : String → State → State → Prop) (mc ms : Nat) (free : Addr → Prop) : Prop :=
  MetFree l y (headSpec ws rm) Pc (fun _ _ _ _ _ => True) (vx_Q Qc XC mc ms free)
def vx_Post (XC : String → State → State → Prop) (mc ms : Nat) (free : Addr → Prop) : Pt → Array Value → Addr → Pt → Prop := fun A a q B =>
  ∃ (g : JFrame) (mk : MethodId) (t : State) (L : List Loc) (E : String) (ce : Cell), B.U.heap = t.heap ∧ B.U.vm = t.vm ∧ XC E (A.U.calling g mk a) t ∧ t.heap[q]? = some ce ∧ ce.vm = .none ∧ A.U.vm.findClass E = some ce.cls ∧ B.locs = A.locs ++ L ∧ (∀ z ∈ L, free z.base) ∧ B.cells = A.cells + mc ∧ B.slots = A.slots + ms
def vx_Back (l : Launch) (R : Room) (p : Program) (e : Env) (below : List Frame) (s : State) (sargs : Array Value) (y : MethodName) (len W9 : Nat)
    (Pre : Pt → Array Value → Prop) (Post : Pt → Array Value → Option Value → Pt → Prop) (PostX : Pt → Array Value → Addr → Pt → Prop) : Prop :=
  ∀ (m : MethodId) (meth : Method) (c : Code) (A : Pt) (g : JFrame) (ig : Instr) (mk : MethodId) (a : Array Value),
    Stand p l e R s m sargs below meth c A.U A.locs A.cells A.slots → g.method = m → g.locals.size = c.maxLocals → decode c.code g.pc = .ok (ig, len) →
    2 * g.monitorRoom + (g.stack.map fun v => v.category).sum ≤ W9 → A.U.methodNamed? y = some mk → Pre A a →
    (∃ (v : Option Value) (B : Pt), Stand p l e R s m sargs below meth c B.U B.locs B.cells B.slots ∧ Post A a v B ∧
      Steps p.tables e below (doInvoke e (A.U.setTop g) [] mk a).1 (B.U.setTop { g with pc := g.pc + len, stack := v.toList ++ g.stack })) ∨
    (∃ (q : Addr) (B : Pt), Stand p l e R s m sargs below meth c B.U B.locs B.cells B.slots ∧ PostX A a q B ∧
      Steps p.tables e below (doInvoke e (A.U.setTop g) [] mk a).1 ((B.U.setTop g).pushFrame (.throwing q)))
section Payer
variable {l : Launch} {R : Room} {p : Program} {e : Env} {below : List Frame} {s : State} {sargs : Array Value} {y : MethodName} {len W9 : Nat}
theorem vx_back {ws : List Cond} {rm : Room} {Pc : Array Value → State → Prop} {Qc : Array Value → State → Outcome → State → Prop} {XC : String → State → State → Prop} {mc ms : Nat} {free : Addr → Prop} {bytes : ByteArray} {maxL : Nat} {ret : Option FieldType}
    (hM : vx_Met l y ws rm Pc Qc XC mc ms free) (hblind : FrameBlind Pc) (hrc : rm.cells = mc) (hrs : rm.slots = ms)
    (hframes : rm.frames + 1 ≤ R.frames) (hlocals : W9 + (maxL + 11) + rm.locals ≤ R.locals)
    (hws : ∀ w ∈ ws, ∀ a' U, s.WarmedH U.vm → w.before a' U = true) (hcode : Cond.code y bytes maxL ret ∈ ws) (hinit : ∀ a' U, s.WarmedH U.vm → (Cond.initialized y.cls).before a' U = true) :
    vx_Back l R p e below s sargs y len W9 (PreOf R mc ms Pc) (PostOf Qc mc ms free) (vx_Post XC mc ms free) := by
  intro m meth c A g ig mk a X hg hsize hdg hW hn hp
  have h1 : (headSpec ws rm).pre.before a A.U = true := atoms_intro fun w hw => hws w hw _ _ X.warmed
  have h2 : (Cond.code y bytes maxL ret).before a A.U = true := hws _ hcode _ _ X.warmed
  have h3 : (Cond.initialized y.cls).before a A.U = true := hinit _ _ X.warmed
  have h4 : A.cells + (headSpec ws rm).room.cells ≤ R.cells := by rw [show (headSpec ws rm).room.cells = mc from hrc]; exact hp.1
  have h5 : A.slots + (headSpec ws rm).room.slots ≤ R.slots := by rw [show (headSpec ws rm).room.slots = ms from hrs]; exact hp.2.1
  have hPc : Pc a (A.U.calling g mk a) := hblind _ _ _ _ hp.2.2
  obtain ⟨U, Ls, c0, s0⟩ := A
  dsimp only [Pt.U, Pt.locs, Pt.cells, Pt.slots] at h1 h2 h3 h4 h5 X hn hPc ⊢
  obtain ⟨methY, cY, hmY, hcY, -, hlY, -, -, -, -⟩ := Cond.code_spec hn h2
  obtain ⟨kY, hkY, -⟩ := className_of_methodNamed hn
  have hinitY : kY.init = .initialized := Cond.initialized_spec (findClass_of_methodNamed hn) hkY h3
  have h : At U g.method c below := by rw [hg]; exact X.here
  have hlocals9 : W9 + (maxL + 11) + (headSpec ws rm).room.locals ≤ R.locals := hlocals
  have happ : (headSpec ws rm).appliesLoose y e.platform (U.calling g mk a) = true :=
    Spec.appliesLoose_calling (g := g) h hdg hn hkY hinitY
      (X.room_calling (g := g) (R' := (headSpec ws rm).room) hsize hmY hcY hframes (by rw [hlY]; omega) h4 h5) h1
  obtain ⟨mid, hmid⟩ := h.above
  have hfr : (U.setTop g).frames = (.java g :: mid) ++ below := by rw [State.frames_setTop' g h.top, hmid]; rfl
  obtain ⟨o, s₂, hsteps, -, hend, hq⟩ := Steps.callFree hM p X.admits X.cas X.clock (acts := []) hfr happ hPc trivial
  have hq' : vx_Q Qc XC mc ms free a (U.calling g mk a) o s₂ := hq
  rw [State.frames_setTop' g h.top] at hend
  obtain ⟨g₀, hg0⟩ := Option.isSome_iff_exists.mp h.top
  obtain ⟨r, hr⟩ := State.topJava?_eq_some.mp hg0
  have hr' : (({ U with heap := s₂.heap, slotsUsed := s₂.slotsUsed } : State).setVm s₂.vm).frames = .java g₀ :: r := hr
  rcases hq' with ⟨hqc, L, hfe, hL⟩ | ⟨q, rfl, E, ce, L, hx, hce, hcv, hcl, hW₂, hsm, hL⟩
  · obtain ⟨⟨v, rfl⟩, hW₂, e2, q2, q3, q4, q5, q6⟩ := id hfe
    have e3 : s₂ = ({ (U.calling g mk a).setFrames s₂.frames with heap := s₂.heap, slotsUsed := s₂.slotsUsed } : State).setVm s₂.vm := by
      have : s₂ = ({ s₂ with vm := (U.calling g mk a).vm } : State).setVm s₂.vm := rfl
      rw [e2] at this
      exact this
    obtain ⟨c₂, i₂, len₂, hc₂, hd₂, hf₂⟩ := hend
    have hW' : U.WarmedH s₂.vm := hW₂
    have hcc : c₂ = c := by
      have h1 : s₂.code? g.method = U.code? g.method := by
        rw [State.code?_eq, State.code?_eq, hW'.alike.method?]
      exact Option.some.inj (hc₂.symm.trans (h1.trans h.code))
    subst hcc
    have hlen : len₂ = len := by rw [hdg] at hd₂; cases hd₂; rfl
    subst hlen
    have hs₂ : s₂ = (({ U with heap := s₂.heap, slotsUsed := s₂.slotsUsed } : State).setVm s₂.vm).setTop { g with pc := g.pc + len₂, stack := v.toList ++ g.stack } := by
      refine e3.trans ?_
      rw [hf₂, State.calling_eq h.top, State.setFrames_setFrames, State.setTop_of_frames _ hr', hr]
      rfl
    have hsame : U.sameButNew ({ U with heap := s₂.heap, slotsUsed := s₂.slotsUsed } : State) L mc ms := by
      refine ⟨?_, q2, q3, q4, q5, q6⟩
      obtain ⟨t, ht, -⟩ := State.frames_cons hr
      show ({ U with heap := s₂.heap, slotsUsed := s₂.slotsUsed } : State) = { U.setFrames U.frames with heap := s₂.heap, slotsUsed := s₂.slotsUsed }
      rw [State.setFrames_self ht]
    subst hg
    refine Or.inl ⟨v, ⟨(({ U with heap := s₂.heap, slotsUsed := s₂.slotsUsed } : State).setVm s₂.vm), Ls ++ L, c0 + mc, s0 + ms⟩,
      ⟨X.admits, X.cas, X.clock, X.frames, X.room, X.hears, X.method, X.code, (X.here.setHeapUsed s₂.heap s₂.slotsUsed).setVm hW'.alike, X.tail, State.WarmedH.trans X.warmed hW', X.limits, X.bytes, X.same.trans (hsame.setVm s.vm)⟩,
      ⟨g, mk, s₂, L, rfl, rfl, hqc, rfl, hL, rfl, rfl⟩, ?_⟩
    show Steps p.tables e below _ ((({ U with heap := s₂.heap, slotsUsed := s₂.slotsUsed } : State).setVm s₂.vm).setTop { g with pc := g.pc + len₂, stack := v.toList ++ g.stack })
    rw [← hs₂]
    exact hsteps
  · obtain ⟨e2, q2, q3, q4, q5, q6⟩ := id hsm
    have e3 : s₂ = ({ (U.calling g mk a).setFrames s₂.frames with heap := s₂.heap, slotsUsed := s₂.slotsUsed } : State).setVm s₂.vm := by
      have : s₂ = ({ s₂ with vm := (U.calling g mk a).vm } : State).setVm s₂.vm := rfl
      rw [e2] at this
      exact this
    have hf₂ : s₂.frames = .throwing q :: .java g :: U.frames.tail := hend
    have hW' : U.WarmedH s₂.vm := hW₂
    have hs₂ : s₂ = ((({ U with heap := s₂.heap, slotsUsed := s₂.slotsUsed } : State).setVm s₂.vm).setTop g).pushFrame (.throwing q) := by
      refine e3.trans ?_
      rw [hf₂, State.calling_eq h.top, State.setFrames_setFrames, State.pushFrame, State.frames_setTop _ hr', State.setTop_of_frames _ hr', State.setFrames_setFrames, hr]
      rfl
    have hsame : U.sameButNew ({ U with heap := s₂.heap, slotsUsed := s₂.slotsUsed } : State) L mc ms := by
      refine ⟨?_, q2, q3, q4, q5, q6⟩
      obtain ⟨t, ht, -⟩ := State.frames_cons hr
      show ({ U with heap := s₂.heap, slotsUsed := s₂.slotsUsed } : State) = { U.setFrames U.frames with heap := s₂.heap, slotsUsed := s₂.slotsUsed }
      rw [State.setFrames_self ht]
    subst hg
    refine Or.inr ⟨q, ⟨(({ U with heap := s₂.heap, slotsUsed := s₂.slotsUsed } : State).setVm s₂.vm), Ls ++ L, c0 + mc, s0 + ms⟩,
      ⟨X.admits, X.cas, X.clock, X.frames, X.room, X.hears, X.method, X.code, (X.here.setHeapUsed s₂.heap s₂.slotsUsed).setVm hW'.alike, X.tail, State.WarmedH.trans X.warmed hW', X.limits, X.bytes, X.same.trans (hsame.setVm s.vm)⟩,
      ⟨g, mk, s₂, L, E, ce, rfl, rfl, hx, hce, hcv, hcl, rfl, hL, rfl, rfl⟩, ?_⟩
    show Steps p.tables e below _ (((({ U with heap := s₂.heap, slotsUsed := s₂.slotsUsed } : State).setVm s₂.vm).setTop g).pushFrame (.throwing q))
    rw [← hs₂]
    exact hsteps
end Payer
section Calls
variable {p : Program} {l : Launch} {e : Env} {R : Room} {s : State} {m : MethodId} {args : Array Value} {below : List Frame} {meth : Method} {c : Code} {T : State} {locs : List Loc} {cells slots : Nat}
theorem vx_callV (X : Stand p l e R s m args below meth c T locs cells slots) (hexec : p.tables.exec = Jvm.exec) {own C : String} {index : Nat} {y : MethodName} {bytes : ByteArray} {maxL : Nat} {ret : Option FieldType}
    (hown : s.vm.findClass own = some m.cls) (hlink : (Cond.methodLink own index y).before args s = true) (hinst : (Cond.instanceMethod y).before args s = true) (hsel : (Cond.selects C y y).before args s = true)
    (hcode : (Cond.code y bytes maxL ret).before args s = true) (hy : y.cls ≠ "java/lang/invoke/MethodHandle" ∧ y.cls ≠ "java/lang/invoke/VarHandle")
    {W9 : Nat} {Pre : Pt → Array Value → Prop} {Post : Pt → Array Value → Option Value → Pt → Prop} {PostX : Pt → Array Value → Addr → Pt → Prop} (hK : vx_Back l R p e below s args y 3 W9 Pre Post PostX)
    {b : Addr} {cellB : Cell} (hcell : T.heap[b]? = some cellB) (hobj : cellB.vm.isStatics = false) (hcls : s.vm.findClass C = some cellB.cls)
    {g : JFrame} (hg : g.method = m) (hsize : g.locals.size = c.maxLocals) {argsL rest : List Value} (hlen : ∀ sig, parseMethodDescriptor y.desc = some sig → argsL.length = sig.parameters.length)
    (hstack : g.stack = argsL.reverse ++ .ref b :: rest) (hW : 2 * g.monitorRoom + (rest.map fun v => v.category).sum ≤ W9) (hdg : decode c.code g.pc = .ok (.invokevirtual index, 3))
    (hpre : ∀ vm₁, s.WarmedH vm₁ → Pre ⟨T.setVm vm₁, locs, cells, slots⟩ (Value.ref b :: argsL).toArray) :
    (∃ (v : Option Value) (vm₁ : Vm) (B : Pt), s.WarmedH vm₁ ∧ Stand p l e R s m args below meth c B.U B.locs B.cells B.slots ∧ Post ⟨T.setVm vm₁, locs, cells, slots⟩ (Value.ref b :: argsL).toArray v B ∧
      ∀ target, Steps p.tables e below (B.U.setTop { g with pc := g.pc + 3, stack := v.toList ++ rest }) target → Steps p.tables e below (T.setTop g) target) ∨
    (∃ (q : Addr) (vm₁ : Vm) (B : Pt), s.WarmedH vm₁ ∧ Stand p l e R s m args below meth c B.U B.locs B.cells B.slots ∧ PostX ⟨T.setVm vm₁, locs, cells, slots⟩ (Value.ref b :: argsL).toArray q B ∧
      Steps p.tables e below (T.setTop g) ((B.U.setTop { g with stack := rest }).pushFrame (.throwing q))) := by
  obtain ⟨mk, methM, hnamed, hmethM, hstM, habM⟩ := Cond.instanceMethod_spec hinst
  obtain ⟨methM', cM, hmethM', -, -, -, -, -, -, hsigM⟩ := Cond.code_spec hnamed hcode
  cases hmethM.symm.trans hmethM'
  obtain ⟨c2, r2, m2, q1, q2, q3, q4, kP, hkP, hkPi⟩ := Cond.selects_spec hsel
  cases hcls.symm.trans q1
  cases (State.methodFound?_of_named hnamed hy).symm.trans q2
  cases hnamed.symm.trans q3
  have hselP : selectMethod e.platform s.vm cellB.cls mk = .method mk := by rw [Launch.admits_selectMethod X.admits]; exact q4
  obtain ⟨vm₁, X₁, hstep₁⟩ := X.invokevirtual hexec hown hlink hnamed hmethM hstM hkP hkPi hy (a := b) (cell := cellB) hcell
    (fun z h => by rw [h] at hobj; cases hobj) hselP hmethM habM hkP hkPi (g := g) hg (argsL := argsL) (rest := rest) (hlen _ hsigM) hstack hdg
  rcases hK m meth c ⟨T.setVm vm₁, locs, cells, slots⟩ { g with stack := rest } (.invokevirtual index) mk (Value.ref b :: argsL).toArray X₁ hg hsize hdg hW (X₁.named hnamed) (hpre vm₁ X₁.warmed) with ⟨v, B, X', hpost, hsteps⟩ | ⟨q, B, X', hpost, hsteps⟩
  · exact Or.inl ⟨v, vm₁, B, X₁.warmed, X', hpost, fun target h => hstep₁ _ fun acts => by rw [doInvoke_state]; exact hsteps.trans h⟩
  · exact Or.inr ⟨q, vm₁, B, X₁.warmed, X', hpost, hstep₁ _ fun acts => by rw [doInvoke_state]; exact hsteps⟩
theorem vx_callS (X : Stand p l e R s m args below meth c T locs cells slots) (hexec : p.tables.exec = Jvm.exec) {own : String} {index : Nat} {y : MethodName} {bytes : ByteArray} {maxL : Nat} {ret : Option FieldType}
    (hown : s.vm.findClass own = some m.cls) (hlink : (Cond.methodLink own index y).before args s = true) (hstat : (Cond.static y).before args s = true) (hinit : (Cond.initialized y.cls).before args s = true)
    (hcode : (Cond.code y bytes maxL ret).before args s = true) (hy : y.cls ≠ "java/lang/invoke/MethodHandle" ∧ y.cls ≠ "java/lang/invoke/VarHandle")
    {W9 : Nat} {Pre : Pt → Array Value → Prop} {Post : Pt → Array Value → Option Value → Pt → Prop} {PostX : Pt → Array Value → Addr → Pt → Prop} (hK : vx_Back l R p e below s args y 3 W9 Pre Post PostX)
    {g : JFrame} (hg : g.method = m) (hsize : g.locals.size = c.maxLocals) {argsL rest : List Value} (hlen : ∀ sig, parseMethodDescriptor y.desc = some sig → argsL.length = sig.parameters.length)
    (hstack : g.stack = argsL.reverse ++ rest) (hW : 2 * g.monitorRoom + (rest.map fun v => v.category).sum ≤ W9) (hdg : decode c.code g.pc = .ok (.invokestatic index, 3))
    (hpre : ∀ vm₁, s.WarmedH vm₁ → Pre ⟨T.setVm vm₁, locs, cells, slots⟩ argsL.toArray) :
    (∃ (v : Option Value) (vm₁ : Vm) (B : Pt), s.WarmedH vm₁ ∧ Stand p l e R s m args below meth c B.U B.locs B.cells B.slots ∧ Post ⟨T.setVm vm₁, locs, cells, slots⟩ argsL.toArray v B ∧
      ∀ target, Steps p.tables e below (B.U.setTop { g with pc := g.pc + 3, stack := v.toList ++ rest }) target → Steps p.tables e below (T.setTop g) target) ∨
    (∃ (q : Addr) (vm₁ : Vm) (B : Pt), s.WarmedH vm₁ ∧ Stand p l e R s m args below meth c B.U B.locs B.cells B.slots ∧ PostX ⟨T.setVm vm₁, locs, cells, slots⟩ argsL.toArray q B ∧
      Steps p.tables e below (T.setTop g) ((B.U.setTop { g with stack := rest }).pushFrame (.throwing q))) := by
  obtain ⟨mk, hnamed⟩ := Cond.code_named hcode
  obtain ⟨methM, cM, hmethM, -, -, -, -, -, -, hsigM⟩ := Cond.code_spec hnamed hcode
  have hstatic : methM.isStatic = true := Cond.static_spec hnamed hmethM hstat
  obtain ⟨kP, hkP, -⟩ := className_of_methodNamed hnamed
  have hinitP : kP.init = .initialized := Cond.initialized_spec (findClass_of_methodNamed hnamed) hkP hinit
  obtain ⟨vm₁, X₁, hstep₁⟩ := X.invokestatic hexec hown hlink hnamed hmethM hstatic hkP hinitP hy (g := g) hg (argsL := argsL) (rest := rest) (hlen _ hsigM) hstack hdg
  rcases hK m meth c ⟨T.setVm vm₁, locs, cells, slots⟩ { g with stack := rest } (.invokestatic index) mk argsL.toArray X₁ hg hsize hdg hW (X₁.named hnamed) (hpre vm₁ X₁.warmed) with ⟨v, B, X', hpost, hsteps⟩ | ⟨q, B, X', hpost, hsteps⟩
  · exact Or.inl ⟨v, vm₁, B, X₁.warmed, X', hpost, fun target h => hstep₁ _ fun acts => by rw [doInvoke_state]; exact hsteps.trans h⟩
  · exact Or.inr ⟨q, vm₁, B, X₁.warmed, X', hpost, hstep₁ _ fun acts => by rw [doInvoke_state]; exact hsteps⟩
end Calls
theorem vx_cls {s : State} {T : State} {vm₁ : Vm} {E : String} {k : ClassId} (hW : s.WarmedH vm₁) (h : (T.setVm vm₁).vm.findClass E = some k) : s.vm.findClass E = some k := by
  have h1 : vm₁.findClass E = some k := h
  rw [hW.alike.findClass] at h1
  exact h1
/-- the method's frame g, with q thrown over it -/
def vx_W (p : Program) (l : Launch) (e : Env) (R : Room) (s : State) (m : MethodId) (args : Array Value) (below : List Frame) (meth : Method) (c : Code) (H : Heap) (locs : List Loc) (cells slots : Nat) (Q : State → Prop) (g : JFrame) (q : Addr) : Prop :=
  ∀ T : State, T.heap = H → Stand p l e R s m args below meth c T locs cells slots → ∃ t, Steps p.tables e below ((T.setTop g).pushFrame (.throwing q)) t ∧ Q t
def vx_Run (p : Program) (l : Launch) (e : Env) (R : Room) (s : State) (m : MethodId) (args : Array Value) (below : List Frame) (meth : Method) (c : Code) (H : Heap) (locs : List Loc) (cells slots mc ms : Nat) (g : JFrame) (rest : List Value) (Qa : State → Outcome → State → Prop) (XC : String → State → State → Prop) (free : Addr → Prop) : Prop :=
  ∀ T : State, T.heap = H → Stand p l e R s m args below meth c T locs cells slots →
    (∃ (v : Option Value) (st₀ t T' : State) (L : List Loc), st₀.heap = H ∧ Stand p l e R s m args below meth c T' (locs ++ L) (cells + mc) (slots + ms) ∧ (∀ q ∈ L, free q.base) ∧ T'.heap = t.heap ∧ T'.vm = t.vm ∧ Qa st₀ (.returned v) t ∧
      Goes p e below T g T' { g with pc := g.pc + 3, stack := v.toList ++ rest }) ∨
    (∃ (q : Addr) (st₀ t T' : State) (L : List Loc) (E : String) (ce : Cell), st₀.heap = H ∧ Stand p l e R s m args below meth c T' (locs ++ L) (cells + mc) (slots + ms) ∧ (∀ z ∈ L, free z.base) ∧ T'.heap = t.heap ∧ T'.vm = t.vm ∧ XC E st₀ t ∧ t.heap[q]? = some ce ∧ ce.vm = .none ∧ s.vm.findClass E = some ce.cls ∧
      Steps p.tables e below (T.setTop g) ((T'.setTop { g with stack := rest }).pushFrame (.throwing q)))
def vx_X {S : Type} (px : S → Prop) (B : String → S → State → Prop) (A : Nat → Prop) : String → State → State → Prop := fun E st t => ∃ u : S, px u ∧ B E u t ∧ va_F A st t
section Runs
variable {p : Program} {l : Launch} {e : Env} {R : Room} {s : State} {m : MethodId} {args : Array Value} {below : List Frame} {meth : Method} {c : Code} {H : Heap} {locs : List Loc} {cells slots : Nat}
variable {y : MethodName} {bytes cc : ByteArray} {maxL nL mc ms n index : Nat} {ret : Option FieldType} {ws : List Cond} {rm : Room} {Pc : Array Value → State → Prop} {Qc : Array Value → State → Outcome → State → Prop} {XC : String → State → State → Prop} {free : Addr → Prop} {Ts : List Cond} {own C : String} {b : Addr} {As rest : List Value} {g : JFrame}
theorem vx_callBack (cb : CallB R s args own index y bytes maxL ret ws rm mc ms n) (hM : vx_Met l y ws rm Pc Qc XC mc ms free) (hbl : FrameBlind Pc) : vx_Back l R p e below s args y 3 8 (PreOf R mc ms Pc) (PostOf Qc mc ms free) (vx_Post XC mc ms free) := by
  obtain ⟨hrc, hrs, hfr, hlo, hws, hcw, -, hini, -⟩ := cb
  exact vx_back (bytes := bytes) (maxL := maxL) (ret := ret) hM hbl hrc hrs hfr hlo hws hcw (fun a' U hW => word_at hW (Or.inl (by first | rfl | simp [Cond.onTables, Cond.keeps, Cond.steady])) hini)
theorem vx_runV (S : CallFix p m c cc nL s args Ts own) (hM : vx_Met l y ws rm Pc Qc XC mc ms free) (cw : CallW R s args own C index y bytes maxL ret ws rm mc ms n) (hp : PreV s H C b Pc As)
    (hg : g.method = m) (hn : As.length = n) (hsize : g.locals.size = nL) (hstack : g.stack = As.reverse ++ .ref b :: rest) (hW : 2 * g.monitorRoom + (rest.map fun v => v.category).sum ≤ 8) (hdg : decode cc g.pc = .ok (.invokevirtual index, 3)) (hf : cells + mc ≤ R.cells ∧ slots + ms ≤ R.slots) :
    vx_Run p l e R s m args below meth c H locs cells slots mc ms g rest (Qc (Value.ref b :: As).toArray) XC free := by
  have hK : vx_Back l R p e below s args y 3 8 (PreOf R mc ms Pc) (PostOf Qc mc ms free) (vx_Post XC mc ms free) := vx_callBack cw.1 hM hp.1
  obtain ⟨⟨-, -, -, -, -, -, hcode, -, hy, hlen, hl⟩, hin, hse⟩ := cw
  obtain ⟨hx, hb, hml, ho, -⟩ := S
  obtain ⟨-, ⟨cellB, hcB, hoB, hclB⟩, hPc⟩ := hp
  intro T hT X
  rcases vx_callV X hx (C := C) (bytes := bytes) (maxL := maxL) (ret := ret) ho hl hin hse hcode hy hK (by rw [hT]; exact hcB) hoB hclB hg (hsize.trans hml.symm) (argsL := As) (rest := rest) (fun sig h => hn.trans (hlen sig h)) hstack hW (by rw [hb]; exact hdg)
    (fun vm₁ hW₁ => ⟨hf.1, hf.2, hPc (T.setVm vm₁) hT hW₁⟩) with ⟨v, vm₁, ⟨U', l2, c2, s2⟩, hW₁, X', ⟨g', mk, t, L, e1, e2, hq, h1, hL, h2, h3⟩, st⟩ | ⟨q, vm₁, ⟨U', l2, c2, s2⟩, hW₁, X', ⟨g', mk, t, L, E, ce, e1, e2, hq, hce, hcv, hcl, h1, hL, h2, h3⟩, st⟩
  · dsimp only [Pt.U, Pt.locs, Pt.cells, Pt.slots] at X' e1 e2 h1 h2 h3 st
    subst h1; subst h2; subst h3
    exact Or.inl ⟨v, (T.setVm vm₁).calling g' mk (Value.ref b :: As).toArray, t, U', L, hT, X', hL, e1, e2, hq, st⟩
  · dsimp only [Pt.U, Pt.locs, Pt.cells, Pt.slots] at X' e1 e2 h1 h2 h3 st hcl
    subst h1; subst h2; subst h3
    exact Or.inr ⟨q, (T.setVm vm₁).calling g' mk (Value.ref b :: As).toArray, t, U', L, E, ce, hT, X', hL, e1, e2, hq, hce, hcv, vx_cls hW₁ hcl, st⟩
theorem vx_runS (S : CallFix p m c cc nL s args Ts own) (hM : vx_Met l y ws rm Pc Qc XC mc ms free) (cw : CallB R s args own index y bytes maxL ret ws rm mc ms n ∧ (Cond.static y).before args s = true) (hp : PreS s H Pc As)
    (hg : g.method = m) (hn : As.length = n) (hsize : g.locals.size = nL) (hstack : g.stack = As.reverse ++ rest) (hW : 2 * g.monitorRoom + (rest.map fun v => v.category).sum ≤ 8) (hdg : decode cc g.pc = .ok (.invokestatic index, 3)) (hf : cells + mc ≤ R.cells ∧ slots + ms ≤ R.slots) :
    vx_Run p l e R s m args below meth c H locs cells slots mc ms g rest (Qc As.toArray) XC free := by
  have hK : vx_Back l R p e below s args y 3 8 (PreOf R mc ms Pc) (PostOf Qc mc ms free) (vx_Post XC mc ms free) := vx_callBack cw.1 hM hp.1
  obtain ⟨⟨-, -, -, -, -, -, hcode, hini, hy, hlen, hl⟩, hstt⟩ := cw
  obtain ⟨hx, hb, hml, ho, -⟩ := S
  intro T hT X
  rcases vx_callS X hx (bytes := bytes) (maxL := maxL) (ret := ret) ho hl hstt hini hcode hy hK hg (hsize.trans hml.symm) (argsL := As) (rest := rest) (fun sig h => hn.trans (hlen sig h)) hstack hW (by rw [hb]; exact hdg)
    (fun vm₁ hW₁ => ⟨hf.1, hf.2, hp.2 (T.setVm vm₁) hT hW₁⟩) with ⟨v, vm₁, ⟨U', l2, c2, s2⟩, hW₁, X', ⟨g', mk, t, L, e1, e2, hq, h1, hL, h2, h3⟩, st⟩ | ⟨q, vm₁, ⟨U', l2, c2, s2⟩, hW₁, X', ⟨g', mk, t, L, E, ce, e1, e2, hq, hce, hcv, hcl, h1, hL, h2, h3⟩, st⟩
  · dsimp only [Pt.U, Pt.locs, Pt.cells, Pt.slots] at X' e1 e2 h1 h2 h3 st
    subst h1; subst h2; subst h3
    exact Or.inl ⟨v, (T.setVm vm₁).calling g' mk As.toArray, t, U', L, hT, X', hL, e1, e2, hq, st⟩
  · dsimp only [Pt.U, Pt.locs, Pt.cells, Pt.slots] at X' e1 e2 h1 h2 h3 st hcl
    subst h1; subst h2; subst h3
    exact Or.inr ⟨q, (T.setVm vm₁).calling g' mk As.toArray, t, U', L, E, ce, hT, X', hL, e1, e2, hq, hce, hcv, vx_cls hW₁ hcl, st⟩
end Runs
section Rows
variable {p : Program} {l : Launch} {e : Env} {R : Room} {s : State} {m : MethodId} {args : Array Value} {below : List Frame} {meth : Method} {c : Code} {H : Heap} {locs : List Loc} {cells slots : Nat} {Q : State → Prop}
variable {mc ms : Nat} {free : Addr → Prop} {A0 A1 : Nat → Prop} {H0 : Heap} {a : Array Value} {pc : Nat} {ls : Array Slot} {st0 rest : List Value}
theorem vx_keep {st₀ t T' : State} {L : List Loc} (h0 : st₀.heap = H) (e1 : T'.heap = t.heap) (hS : va_S A0 H0 H locs) (hA : ∀ q, q < H.size → A1 q → A0 q) (hf : ∀ q, free q → A0 q) (hL : ∀ q ∈ L, free q.base) (hF : va_F A1 st₀ t) :
    H.size ≤ T'.heap.size ∧ (∀ q : Nat, q < H.size → ¬ A1 q → T'.heap[q]? = H[q]?) ∧ va_S A0 H0 T'.heap (locs ++ L) := by
  obtain ⟨hz, hk⟩ := hF
  rw [h0] at hz hk
  exact ⟨by rw [e1]; exact hz, fun q h1 h2 => by rw [e1]; exact hk q h1 h2,
    ⟨Nat.le_trans hS.1 (by rw [e1]; exact hz), fun q h1 h2 => by rw [e1, hk q (Nat.lt_of_lt_of_le h1 hS.1) (fun z => h2 (hA q (Nat.lt_of_lt_of_le h1 hS.1) z))]; exact hS.2.1 q h1 h2, fun q hq => by
      rcases List.mem_append.mp hq with h | h
      · exact hS.2.2 q h
      · exact hf _ (hL q h)⟩⟩
theorem vx_calli {S SX : Type} {post : Int32 → S → Prop} {px : SX → Prop} {B : S → State → Prop} {BX : String → SX → State → Prop} {AX : Nat → Prop} (hr : vx_Run p l e R s m args below meth c H locs cells slots mc ms (F0 m pc ls st0) rest (va_Qi post B A1 a) (vx_X px BX AX) free) (hS : va_S A0 H0 H locs) (hA : ∀ q, q < H.size → A1 q → A0 q) (hf : ∀ q, free q → A0 q) (hAX : ∀ q, q < H.size → AX q → A0 q)
    (kx : ∀ (E : String) (ce : Cell) (q9 : Addr) (u : SX) (t : State) (H1 : Heap) (locs1 : List Loc), t.heap = H1 → s.vm.Alike t.vm → px u → BX E u t → H.size ≤ H1.size → (∀ q : Nat, q < H.size → ¬ AX q → H1[q]? = H[q]?) → va_S A0 H0 H1 locs1 → H1[q9]? = some ce → ce.vm = .none → s.vm.findClass E = some ce.cls → vx_W p l e R s m args below meth c H1 locs1 (cells + mc) (slots + ms) Q (F0 m pc ls rest) q9)
    (kk : ∀ (r : Int32) (u : S) (t : State) (H1 : Heap) (locs1 : List Loc), t.heap = H1 → s.vm.Alike t.vm → post r u → B u t → H.size ≤ H1.size → (∀ q : Nat, q < H.size → ¬ A1 q → H1[q]? = H[q]?) → va_S A0 H0 H1 locs1 → W p l e R s m args below meth c H1 locs1 (cells + mc) (slots + ms) Q (F0 m (pc + 3) ls (.int r :: rest))) : W p l e R s m args below meth c H locs cells slots Q (F0 m pc ls st0) := by
  intro T hT X
  rcases hr T hT X with ⟨v, st₀, t, T', L, h0, X', hL, e1, e2, ⟨⟨r, u, hv, hp, hb⟩, hF⟩, st⟩ | ⟨q, st₀, t, T', L, E, ce, h0, X', hL, e1, e2, ⟨u, hp, hb, hF⟩, hce, hcv, hcl, st⟩
  · cases hv
    obtain ⟨k1, k2, k3⟩ := vx_keep h0 e1 hS hA hf hL hF
    obtain ⟨t2, a1, b1⟩ := kk r u t T'.heap (locs ++ L) e1.symm (by rw [← e2]; exact X'.warmed.alike) hp hb k1 k2 k3 T' rfl X'
    exact ⟨t2, st t2 a1, b1⟩
  · obtain ⟨k1, k2, k3⟩ := vx_keep h0 e1 hS hAX hf hL hF
    obtain ⟨t2, a1, b1⟩ := kx E ce q u t T'.heap (locs ++ L) e1.symm (by rw [← e2]; exact X'.warmed.alike) hp hb k1 k2 k3 (by rw [e1]; exact hce) hcv hcl T' rfl X'
    exact ⟨t2, st.trans a1, b1⟩
theorem vx_calll {S SX : Type} {post : Int64 → S → Prop} {px : SX → Prop} {B : S → State → Prop} {BX : String → SX → State → Prop} {AX : Nat → Prop} (hr : vx_Run p l e R s m args below meth c H locs cells slots mc ms (F0 m pc ls st0) rest (va_Ql post B A1 a) (vx_X px BX AX) free) (hS : va_S A0 H0 H locs) (hA : ∀ q, q < H.size → A1 q → A0 q) (hf : ∀ q, free q → A0 q) (hAX : ∀ q, q < H.size → AX q → A0 q)
    (kx : ∀ (E : String) (ce : Cell) (q9 : Addr) (u : SX) (t : State) (H1 : Heap) (locs1 : List Loc), t.heap = H1 → s.vm.Alike t.vm → px u → BX E u t → H.size ≤ H1.size → (∀ q : Nat, q < H.size → ¬ AX q → H1[q]? = H[q]?) → va_S A0 H0 H1 locs1 → H1[q9]? = some ce → ce.vm = .none → s.vm.findClass E = some ce.cls → vx_W p l e R s m args below meth c H1 locs1 (cells + mc) (slots + ms) Q (F0 m pc ls rest) q9)
    (kk : ∀ (r : Int64) (u : S) (t : State) (H1 : Heap) (locs1 : List Loc), t.heap = H1 → s.vm.Alike t.vm → post r u → B u t → H.size ≤ H1.size → (∀ q : Nat, q < H.size → ¬ A1 q → H1[q]? = H[q]?) → va_S A0 H0 H1 locs1 → W p l e R s m args below meth c H1 locs1 (cells + mc) (slots + ms) Q (F0 m (pc + 3) ls (.long r :: rest))) : W p l e R s m args below meth c H locs cells slots Q (F0 m pc ls st0) := by
  intro T hT X
  rcases hr T hT X with ⟨v, st₀, t, T', L, h0, X', hL, e1, e2, ⟨⟨r, u, hv, hp, hb⟩, hF⟩, st⟩ | ⟨q, st₀, t, T', L, E, ce, h0, X', hL, e1, e2, ⟨u, hp, hb, hF⟩, hce, hcv, hcl, st⟩
  · cases hv
    obtain ⟨k1, k2, k3⟩ := vx_keep h0 e1 hS hA hf hL hF
    obtain ⟨t2, a1, b1⟩ := kk r u t T'.heap (locs ++ L) e1.symm (by rw [← e2]; exact X'.warmed.alike) hp hb k1 k2 k3 T' rfl X'
    exact ⟨t2, st t2 a1, b1⟩
  · obtain ⟨k1, k2, k3⟩ := vx_keep h0 e1 hS hAX hf hL hF
    obtain ⟨t2, a1, b1⟩ := kx E ce q u t T'.heap (locs ++ L) e1.symm (by rw [← e2]; exact X'.warmed.alike) hp hb k1 k2 k3 (by rw [e1]; exact hce) hcv hcl T' rfl X'
    exact ⟨t2, st.trans a1, b1⟩
theorem vx_callf {S SX : Type} {post : UInt32 → S → Prop} {px : SX → Prop} {B : S → State → Prop} {BX : String → SX → State → Prop} {AX : Nat → Prop} (hr : vx_Run p l e R s m args below meth c H locs cells slots mc ms (F0 m pc ls st0) rest (va_Qf post B A1 a) (vx_X px BX AX) free) (hS : va_S A0 H0 H locs) (hA : ∀ q, q < H.size → A1 q → A0 q) (hf : ∀ q, free q → A0 q) (hAX : ∀ q, q < H.size → AX q → A0 q)
    (kx : ∀ (E : String) (ce : Cell) (q9 : Addr) (u : SX) (t : State) (H1 : Heap) (locs1 : List Loc), t.heap = H1 → s.vm.Alike t.vm → px u → BX E u t → H.size ≤ H1.size → (∀ q : Nat, q < H.size → ¬ AX q → H1[q]? = H[q]?) → va_S A0 H0 H1 locs1 → H1[q9]? = some ce → ce.vm = .none → s.vm.findClass E = some ce.cls → vx_W p l e R s m args below meth c H1 locs1 (cells + mc) (slots + ms) Q (F0 m pc ls rest) q9)
    (kk : ∀ (r : UInt32) (u : S) (t : State) (H1 : Heap) (locs1 : List Loc), t.heap = H1 → s.vm.Alike t.vm → post r u → B u t → H.size ≤ H1.size → (∀ q : Nat, q < H.size → ¬ A1 q → H1[q]? = H[q]?) → va_S A0 H0 H1 locs1 → W p l e R s m args below meth c H1 locs1 (cells + mc) (slots + ms) Q (F0 m (pc + 3) ls (.float r :: rest))) : W p l e R s m args below meth c H locs cells slots Q (F0 m pc ls st0) := by
  intro T hT X
  rcases hr T hT X with ⟨v, st₀, t, T', L, h0, X', hL, e1, e2, ⟨⟨r, u, hv, hp, hb⟩, hF⟩, st⟩ | ⟨q, st₀, t, T', L, E, ce, h0, X', hL, e1, e2, ⟨u, hp, hb, hF⟩, hce, hcv, hcl, st⟩
  · cases hv
    obtain ⟨k1, k2, k3⟩ := vx_keep h0 e1 hS hA hf hL hF
    obtain ⟨t2, a1, b1⟩ := kk r u t T'.heap (locs ++ L) e1.symm (by rw [← e2]; exact X'.warmed.alike) hp hb k1 k2 k3 T' rfl X'
    exact ⟨t2, st t2 a1, b1⟩
  · obtain ⟨k1, k2, k3⟩ := vx_keep h0 e1 hS hAX hf hL hF
    obtain ⟨t2, a1, b1⟩ := kx E ce q u t T'.heap (locs ++ L) e1.symm (by rw [← e2]; exact X'.warmed.alike) hp hb k1 k2 k3 (by rw [e1]; exact hce) hcv hcl T' rfl X'
    exact ⟨t2, st.trans a1, b1⟩
theorem vx_calld {S SX : Type} {post : UInt64 → S → Prop} {px : SX → Prop} {B : S → State → Prop} {BX : String → SX → State → Prop} {AX : Nat → Prop} (hr : vx_Run p l e R s m args below meth c H locs cells slots mc ms (F0 m pc ls st0) rest (va_Qd post B A1 a) (vx_X px BX AX) free) (hS : va_S A0 H0 H locs) (hA : ∀ q, q < H.size → A1 q → A0 q) (hf : ∀ q, free q → A0 q) (hAX : ∀ q, q < H.size → AX q → A0 q)
    (kx : ∀ (E : String) (ce : Cell) (q9 : Addr) (u : SX) (t : State) (H1 : Heap) (locs1 : List Loc), t.heap = H1 → s.vm.Alike t.vm → px u → BX E u t → H.size ≤ H1.size → (∀ q : Nat, q < H.size → ¬ AX q → H1[q]? = H[q]?) → va_S A0 H0 H1 locs1 → H1[q9]? = some ce → ce.vm = .none → s.vm.findClass E = some ce.cls → vx_W p l e R s m args below meth c H1 locs1 (cells + mc) (slots + ms) Q (F0 m pc ls rest) q9)
    (kk : ∀ (r : UInt64) (u : S) (t : State) (H1 : Heap) (locs1 : List Loc), t.heap = H1 → s.vm.Alike t.vm → post r u → B u t → H.size ≤ H1.size → (∀ q : Nat, q < H.size → ¬ A1 q → H1[q]? = H[q]?) → va_S A0 H0 H1 locs1 → W p l e R s m args below meth c H1 locs1 (cells + mc) (slots + ms) Q (F0 m (pc + 3) ls (.double r :: rest))) : W p l e R s m args below meth c H locs cells slots Q (F0 m pc ls st0) := by
  intro T hT X
  rcases hr T hT X with ⟨v, st₀, t, T', L, h0, X', hL, e1, e2, ⟨⟨r, u, hv, hp, hb⟩, hF⟩, st⟩ | ⟨q, st₀, t, T', L, E, ce, h0, X', hL, e1, e2, ⟨u, hp, hb, hF⟩, hce, hcv, hcl, st⟩
  · cases hv
    obtain ⟨k1, k2, k3⟩ := vx_keep h0 e1 hS hA hf hL hF
    obtain ⟨t2, a1, b1⟩ := kk r u t T'.heap (locs ++ L) e1.symm (by rw [← e2]; exact X'.warmed.alike) hp hb k1 k2 k3 T' rfl X'
    exact ⟨t2, st t2 a1, b1⟩
  · obtain ⟨k1, k2, k3⟩ := vx_keep h0 e1 hS hAX hf hL hF
    obtain ⟨t2, a1, b1⟩ := kx E ce q u t T'.heap (locs ++ L) e1.symm (by rw [← e2]; exact X'.warmed.alike) hp hb k1 k2 k3 (by rw [e1]; exact hce) hcv hcl T' rfl X'
    exact ⟨t2, st.trans a1, b1⟩
theorem vx_callv {S SX : Type} {post : S → Prop} {px : SX → Prop} {B : S → State → Prop} {BX : String → SX → State → Prop} {AX : Nat → Prop} (hr : vx_Run p l e R s m args below meth c H locs cells slots mc ms (F0 m pc ls st0) rest (va_Qv post B A1 a) (vx_X px BX AX) free) (hS : va_S A0 H0 H locs) (hA : ∀ q, q < H.size → A1 q → A0 q) (hf : ∀ q, free q → A0 q) (hAX : ∀ q, q < H.size → AX q → A0 q)
    (kx : ∀ (E : String) (ce : Cell) (q9 : Addr) (u : SX) (t : State) (H1 : Heap) (locs1 : List Loc), t.heap = H1 → s.vm.Alike t.vm → px u → BX E u t → H.size ≤ H1.size → (∀ q : Nat, q < H.size → ¬ AX q → H1[q]? = H[q]?) → va_S A0 H0 H1 locs1 → H1[q9]? = some ce → ce.vm = .none → s.vm.findClass E = some ce.cls → vx_W p l e R s m args below meth c H1 locs1 (cells + mc) (slots + ms) Q (F0 m pc ls rest) q9)
    (kk : ∀ (u : S) (t : State) (H1 : Heap) (locs1 : List Loc), t.heap = H1 → s.vm.Alike t.vm → post u → B u t → H.size ≤ H1.size → (∀ q : Nat, q < H.size → ¬ A1 q → H1[q]? = H[q]?) → va_S A0 H0 H1 locs1 → W p l e R s m args below meth c H1 locs1 (cells + mc) (slots + ms) Q (F0 m (pc + 3) ls (rest))) : W p l e R s m args below meth c H locs cells slots Q (F0 m pc ls st0) := by
  intro T hT X
  rcases hr T hT X with ⟨v, st₀, t, T', L, h0, X', hL, e1, e2, ⟨⟨u, hv, hp, hb⟩, hF⟩, st⟩ | ⟨q, st₀, t, T', L, E, ce, h0, X', hL, e1, e2, ⟨u, hp, hb, hF⟩, hce, hcv, hcl, st⟩
  · cases hv
    obtain ⟨k1, k2, k3⟩ := vx_keep h0 e1 hS hA hf hL hF
    obtain ⟨t2, a1, b1⟩ := kk u t T'.heap (locs ++ L) e1.symm (by rw [← e2]; exact X'.warmed.alike) hp hb k1 k2 k3 T' rfl X'
    exact ⟨t2, st t2 a1, b1⟩
  · obtain ⟨k1, k2, k3⟩ := vx_keep h0 e1 hS hAX hf hL hF
    obtain ⟨t2, a1, b1⟩ := kx E ce q u t T'.heap (locs ++ L) e1.symm (by rw [← e2]; exact X'.warmed.alike) hp hb k1 k2 k3 (by rw [e1]; exact hce) hcv hcl T' rfl X'
    exact ⟨t2, st.trans a1, b1⟩
/-- caught by the row x of this method's table; the rows ahead don't take it -/
theorem vx_catch {own name : String} {E : String} {ce : Cell} {q : Addr} (hown : s.vm.findClass own = some m.cls) (pre : List ExceptionTableEntry) (x : ExceptionTableEntry) (suf : List ExceptionTableEntry) (hsplit : c.exceptionTable.toList = pre ++ x :: suf)
    (hpass : ∀ z ∈ pre, covers z pc = false ∨ (z.catchType ≠ 0 ∧ ∃ nm : String, (Cond.classLink own z.catchType nm).before args s = true ∧ va_Nc E nm s)) (hx : covers x pc = true) (h0 : x.catchType ≠ 0)
    (hlink : (Cond.classLink own x.catchType name).before args s = true) (hcast : (Cond.castable E name).before args s = true) (hcell : H[q]? = some ce) (hv : ce.vm = .none) (hcl : s.vm.findClass E = some ce.cls)
    (kk : W p l e R s m args below meth c H locs cells slots Q (F0 m x.handlerPc ls [.ref q])) : vx_W p l e R s m args below meth c H locs cells slots Q (F0 m pc ls rest) q := by
  intro T hT X
  have hpl : e.platform.magicAccessors = ({} : Platform).magicAccessors := by rw [X.admits.platform]
  obtain ⟨c3, c4, hc3, hc4, hasg⟩ := Cond.castable_spec hcast
  cases Option.some.inj (hc3.symm.trans hcl)
  obtain ⟨c5, hc5, hcl5⟩ := Cond.classLink_spec hown hlink e.platform hpl
  cases Option.some.inj (hc4.symm.trans hc5)
  obtain ⟨vm', X', st⟩ := X.thenCaughtThrough q (g := F0 m pc ls rest) rfl (Steps.refl _) (by rw [hT]; exact hcell) (by rw [hv]; rfl) (by obtain ⟨k9, h9, -⟩ := Vm.findClass_spec hcl; exact ⟨k9, h9⟩) pre x suf hsplit
    (fun z hz => by
      rcases hpass z hz with h | ⟨hz0, nm, hl1, hn1⟩
      · exact Or.inl h
      · obtain ⟨c6, hc6, hcl6⟩ := Cond.classLink_spec hown hl1 e.platform hpl
        obtain ⟨a8, b8, h1, h2, h3⟩ := hn1
        cases Option.some.inj (h1.symm.trans hcl)
        cases Option.some.inj (h2.symm.trans hc6)
        exact Or.inr ⟨hz0, _, hcl6, h3⟩) hx (Or.inr ⟨h0, c4, hcl5, hasg⟩)
  obtain ⟨t, a1, b1⟩ := kk (T.setVm vm') hT X'
  exact ⟨t, st.trans a1, b1⟩
end Rows
section Ends
variable {p : Program} {l : Launch} {e : Env} {R : Room} {s : State} {m : MethodId} {args : Array Value} {below : List Frame} {meth : Method} {c : Code} {H : Heap} {locs : List Loc} {cells slots : Nat} {Q : State → Prop}
variable {mc ms : Nat} {free : Addr → Prop} {A0 A1 : Nat → Prop} {H0 : Heap} {a : Array Value} {ls : Array Slot} {st0 rest : List Value}
variable {Qc : Array Value → State → Outcome → State → Prop} {XC : String → State → State → Prop}
/-- what a body that may throw owes at its end -/
def vx_MQ (below : List Frame) (Qc : Array Value → State → Outcome → State → Prop) (XC : String → State → State → Prop) (a : Array Value) (s : State) (mc ms : Nat) (free : Addr → Prop) : State → Prop := fun t =>
  ∃ o, t.status = .running ∧ Ended t below o ∧ vx_Q Qc XC mc ms free a s o t
theorem vx_ret {g : JFrame} {mc ms : Nat} (k : W p l e R s m args below meth c H locs cells slots (MQ below Qc args s mc ms free) g) : W p l e R s m args below meth c H locs cells slots (vx_MQ below Qc XC args s mc ms free) g := by
  intro T hT X
  obtain ⟨t, a1, o, b1, b2, b3, b4⟩ := k T hT X
  exact ⟨t, a1, o, b1, b2, Or.inl ⟨b3, b4⟩⟩
/-- not caught here: it goes on to the caller -/
theorem vx_widen {g : JFrame} {q : Addr} {k n : Nat} (h1 : cells ≤ k) (h2 : slots ≤ n) (kk : vx_W p l e R s m args below meth c H locs k n Q g q) : vx_W p l e R s m args below meth c H locs cells slots Q g q := fun T hT X => kk T hT (stand_widen X h1 h2)
theorem vx_out {pc : Nat} {E : String} {ce : Cell} {q : Addr} {mc ms : Nat} (hout : ∀ x ∈ c.exceptionTable.toList, covers x pc = false) (hlocks : meth.locks = false) (hcell : H[q]? = some ce) (hv : ce.vm = .none) (hcl : s.vm.findClass E = some ce.cls)
    (hx : ∀ t : State, t.heap = H → s.vm.Alike t.vm → XC E s t) (hf : ∀ z ∈ locs, free z.base) (hc : cells ≤ mc) (hs : slots ≤ ms) :
    vx_W p l e R s m args below meth c H locs cells slots (vx_MQ below Qc XC args s mc ms free) (F0 m pc ls rest) q := by
  intro T hT X
  obtain ⟨st1, hrun, hend, hW, hsm⟩ := X.leaveThrown q (g := F0 m pc ls rest) rfl rfl rfl hout hlocks
  have hcell9 : (T.setFrames (.throwing q :: below)).heap[q]? = some ce := by
    show T.heap[q]? = some ce
    rw [hT]; exact hcell
  exact ⟨_, st1, .threw q, hrun, hend, Or.inr ⟨q, rfl, E, ce, locs, hx _ hT hW.alike, hcell9, hv, hcl, hW, hsm.mono hc hs, hf⟩⟩
theorem vx_frame {U : State} {k n : Nat} (h : s.sameButNew ({ U with vm := s.vm } : State) locs k n) : s.heap.size ≤ U.heap.size ∧ ∀ q : Nat, q < s.heap.size → (∀ z ∈ locs, z.base ≠ q) → U.heap[q]? = s.heap[q]? := by
  obtain ⟨-, h2, -, -, -, h6⟩ := h
  refine ⟨h2, fun q hq hz => ?_⟩
  obtain ⟨c9, e1, e2, e3, e4⟩ := h6 q _ (Array.getElem?_eq_getElem hq)
  have hs : c9.slots = (s.heap[q]).slots := Array.ext_getElem? fun i => e4 i fun hm => hz _ hm rfl
  have h9 : c9 = s.heap[q] := by
    rw [hs] at e2
    exact e2
  have e5 : U.heap[q]? = some c9 := e1
  rw [e5, h9, Array.getElem?_eq_getElem hq]
/-- the words of a throw but the four that speak of the heap -/
def vx_no (w : Cond) : Bool := decide (w ≠ .isRef (.static Bundle.tN "UNASSIGNED_STACK" Bundle.steD)) && decide (w ≠ .isRef (.static Bundle.tN "SUPPRESSED_SENTINEL" Bundle.listD)) && decide (w ≠ .laysStatic Bundle.tN "UNASSIGNED_STACK" Bundle.steD) && decide (w ≠ .laysStatic Bundle.tN "SUPPRESSED_SENTINEL" Bundle.listD)
def vx_at0 (own : String) (ic : Nat) (X : String) (names : List String) : List Cond := (Bundle.ownAtoms0 own ic X names).filter vx_no
def vx_atS (own : String) (ic : Nat) (X : String) (names : List String) : List Cond := (Bundle.ownAtoms own ic X names).filter vx_no
/-- a word that the tables alone decide, or a good one -/
def vx_ot (w : Cond) : Bool := w.onTables || goodWord w
theorem vx_ot_at {args a' : Array Value} {s U : State} {w : Cond} (hW : s.WarmedH U.vm) (hvm : s.vm = U.vm) (hg : vx_ot w = true) (h : w.before args s = true) : w.before a' U = true := by
  simp only [vx_ot, Bool.or_eq_true] at hg
  rcases hg with hg | hg
  · exact va_tabs hg hvm h
  · exact word_at hW (good_of_word hg) h
/-- a list's words: the good ones out of the method's own list, the others by premises of their own -/
theorem vx_hat {args : Array Value} {s : State} {L B : List Cond} (h1 : ∀ w ∈ L.filter goodWord, w.before args s = true) (h2 : ∀ w ∈ L.filter (fun w => !goodWord w), w ∈ B) (h3 : ∀ w ∈ B, w.before args s = true) : ∀ w ∈ L, w.before args s = true := by
  intro w hw
  by_cases g : goodWord w = true
  · exact h1 w (List.mem_filter.mpr ⟨hw, g⟩)
  · refine h3 w (h2 w (List.mem_filter.mpr ⟨hw, ?_⟩))
    show (!goodWord w) = true
    cases hgw : goodWord w
    · rfl
    · exact absurd hgw g
theorem vx_c {args : Array Value} {s : State} {w : Cond} {B : List Cond} (h : w.before args s = true) (t : ∀ w ∈ B, w.before args s = true) : ∀ w' ∈ w :: B, w'.before args s = true := fun w' h' => (List.mem_cons.mp h').elim (fun e => by rw [e]; exact h) (t w')
theorem vx_n {args : Array Value} {s : State} : ∀ w ∈ ([] : List Cond), w.before args s = true := fun _ h => nomatch h
theorem vx_own {args : Array Value} {s : State} {L : List Cond} (h1 : ∀ w ∈ L.filter vx_no, w.before args s = true)
    (hU : (Cond.isRef (.static Bundle.tN "UNASSIGNED_STACK" Bundle.steD)).before args s = true) (hN : (Cond.isRef (.static Bundle.tN "SUPPRESSED_SENTINEL" Bundle.listD)).before args s = true)
    (lU : (Cond.laysStatic Bundle.tN "UNASSIGNED_STACK" Bundle.steD).before args s = true) (lN : (Cond.laysStatic Bundle.tN "SUPPRESSED_SENTINEL" Bundle.listD).before args s = true) : ∀ w ∈ L, w.before args s = true := by
  intro w hw
  by_cases e1 : w = .isRef (.static Bundle.tN "UNASSIGNED_STACK" Bundle.steD)
  · rw [e1]; exact hU
  · by_cases e2 : w = .isRef (.static Bundle.tN "SUPPRESSED_SENTINEL" Bundle.listD)
    · rw [e2]; exact hN
    · by_cases e3 : w = .laysStatic Bundle.tN "UNASSIGNED_STACK" Bundle.steD
      · rw [e3]; exact lU
      · by_cases e4 : w = .laysStatic Bundle.tN "SUPPRESSED_SENTINEL" Bundle.listD
        · rw [e4]; exact lN
        · exact h1 w (List.mem_filter.mpr ⟨hw, by unfold vx_no; rw [decide_eq_true e1, decide_eq_true e2, decide_eq_true e3, decide_eq_true e4]; rfl⟩)
/-- where a static field lies, its class's statics cell in H -/
def vx_L (C n d : String) (A : Nat → Prop) (U : State) (H : Heap) : Prop := ∃ (c : ClassId) (k : Class) (i : Nat) (f : Field) (a : Nat) (cell : Cell), U.vm.findClass C = some c ∧ U.fieldFound? C n d = some (c, k, i, f) ∧ f.isStatic = true ∧ k.statics = some a ∧ H[a]? = some cell ∧ cell.vm.isStatics = true ∧ cell.cls = c ∧ f.slot < cell.slots.size ∧ k.staticTypes[f.slot]? = some f.type ∧ ¬ A a
theorem vx_L.moved {C n d : String} {A : Nat → Prop} {u U : State} {H : Heap} (hvm : u.vm.Alike U.vm) (h : vx_L C n d A u H) : vx_L C n d A U H := by
  obtain ⟨c, k, i, f, a, cell, h1, h2, h3, h4, h5, h6, h7, h8, h9, h10⟩ := h
  obtain ⟨k', hi', he⟩ := State.fieldFound?_setVm hvm h2
  exact ⟨c, k', i, f, a, cell, by rw [hvm.findClass]; exact h1, hi', h3, by rw [he]; exact h4, h5, h6, h7, h8, by rw [he]; exact h9, h10⟩
theorem vx_L.kept {C n d : String} {A : Nat → Prop} {U : State} {H H1 : Heap} (h : vx_L C n d A U H) (hq : ∀ a : Nat, a < H.size → ¬ A a → H1[a]? = H[a]?) : vx_L C n d A U H1 := by
  obtain ⟨c, k, i, f, a, cell, h1, h2, h3, h4, h5, h6, h7, h8, h9, h10⟩ := h
  exact ⟨c, k, i, f, a, cell, h1, h2, h3, h4, by rw [hq a (Array.getElem?_eq_some_iff.mp h5).1 h10]; exact h5, h6, h7, h8, h9, h10⟩
theorem vx_L.narrow {C n d : String} {A B : Nat → Prop} {U : State} {H : Heap} (h : vx_L C n d A U H) (hAB : ∀ q, B q → A q) : vx_L C n d B U H := by
  obtain ⟨c, k, i, f, a, cell, h1, h2, h3, h4, h5, h6, h7, h8, h9, h10⟩ := h
  exact ⟨c, k, i, f, a, cell, h1, h2, h3, h4, h5, h6, h7, h8, h9, fun z => h10 (hAB _ z)⟩
theorem vx_L.word {C n d : String} {A : Nat → Prop} {s : State} {args : Array Value} (h : vx_L C n d A s s.heap) : (Cond.laysStatic C n d).before args s = true := by
  obtain ⟨c, k, i, f, a, cell, h1, h2, h3, h4, h5, h6, h7, h8, h9, -⟩ := h
  show (Cond.laysStatic C n d).holds args s none s [] = true
  exact Cond.laysStatic_of h1 h2 h3 h4 h5 h6 h7 h8 h9
/-- .. and what it holds: null or some reference -/
def vx_Zq (C n d : String) (A : Nat → Prop) (U : State) (H : Heap) : Prop := va_Zq C n d A U H ∧ vx_L C n d A U H
theorem vx_Zq.moved {C n d : String} {A : Nat → Prop} {u U : State} {H : Heap} (hvm : u.vm.Alike U.vm) (h : vx_Zq C n d A u H) : vx_Zq C n d A U H := ⟨va_Zq.moved hvm h.1, vx_L.moved hvm h.2⟩
theorem vx_Zq.kept {C n d : String} {A : Nat → Prop} {U : State} {H H1 : Heap} (h : vx_Zq C n d A U H) (hq : ∀ a : Nat, a < H.size → ¬ A a → H1[a]? = H[a]?) : vx_Zq C n d A U H1 := ⟨va_Zq.kept h.1 hq, vx_L.kept h.2 hq⟩
theorem vx_Zq.narrow {C n d : String} {A B : Nat → Prop} {U : State} {H : Heap} (h : vx_Zq C n d A U H) (hAB : ∀ q, B q → A q) : vx_Zq C n d B U H := ⟨va_Zq.narrow h.1 hAB, vx_L.narrow h.2 hAB⟩
theorem vx_Zqof {args : Array Value} {s : State} {C n d : String} {A : Nat → Prop} (hl : (Cond.laysStatic C n d).before args s = true) (hini : (Cond.initialized C).before args s = true) (h : (Cond.isRef (.static C n d)).before args s = true) (hA : ∀ a : Nat, a < s.heap.size → ¬ A a) : vx_Zq C n d A s s.heap := by
  refine ⟨va_Zqof hl hini h hA, ?_⟩
  obtain ⟨c, k, i, f, a, cell, h1, h2, h3, h4, h5, h6, h7, h8, h9⟩ := Cond.laysStatic_spec hl
  exact ⟨c, k, i, f, a, cell, h1, h2, h3, h4, h5, h6, h7, h8, h9, hA a (Array.getElem?_eq_some_iff.mp h5).1⟩
theorem vx_isRef {C n d : String} {v : Value} {A : Nat → Prop} {s : State} {args : Array Value} (h : va_Z C n d v A s s.heap) (hv : v.isRef = true) : (Cond.isRef (.static C n d)).before args s = true := by
  obtain ⟨cf, kf, fi, f, a, cell, h1, h2, h3, h4, h5, h6, h7, -⟩ := h
  have he : (Term.static C n d).eval args s none [] s = some v := by
    simp [Term.eval, State.fieldNamed?, h1, h2, h4, h5, h6, h7]
  simp only [Cond.before, Cond.holds, Cond.value, he]
  cases v <;> simp_all [Value.isRef]
theorem vx_isRefq {C n d : String} {A : Nat → Prop} {s : State} {args : Array Value} (h : va_Zq C n d A s s.heap) : (Cond.isRef (.static C n d)).before args s = true := by
  rcases h with h | ⟨t, h⟩
  · exact vx_isRef h rfl
  · exact vx_isRef h rfl
/-- the same frame, seen from here: as if the method were called anew in this heap -/
theorem vx_rebase {T : State} (X : Stand p l e R s m args below meth c T locs cells slots) {R' : Room} (hf : R'.frames ≤ R.frames) (hl : R'.locals ≤ R.locals) (hc : cells + R'.cells ≤ R.cells) (hs : slots + R'.slots ≤ R.slots) :
    Stand p l e R' ((T.setVm s.vm).setFrames (.invoking m args :: below)) m args below meth c T [] 0 0 := by
  have htop : (T.setVm s.vm).topJava?.isSome := X.here.top
  have hF : ((T.setVm s.vm).setFrames (.invoking m args :: below)).frames = .invoking m args :: below := State.frames_setFrames _ (State.cur_lt_of_top htop)
  obtain ⟨g₀, hg0⟩ := Option.isSome_iff_exists.mp htop
  obtain ⟨r, hr⟩ := State.topJava?_eq_some.mp hg0
  have hl9 : e.platform.stackLimits (T.setVm s.vm).me = e.platform.stackLimits s.me := X.limits
  have hb9 : (T.setVm s.vm).me.stackBytes = s.me.stackBytes := X.bytes
  refine ⟨X.admits, X.cas, X.clock, hF, ?_, X.hears, X.method, X.code, X.here, X.tail, X.warmed, ?_, ?_, ?_⟩
  · have h := X.room
    have hU : ((T.setVm s.vm).setFrames (.invoking m args :: below)).localsInUse = s.localsInUse := by
      rw [State.localsInUse_invoking hF (meth := meth) (c := c) X.method X.code, State.localsInUse_invoking X.frames X.method X.code]
    simp only [State.hasRoom, Bool.and_eq_true, decide_eq_true_eq] at h ⊢
    obtain ⟨⟨⟨⟨h1, h2, h3, h4, h5, h6⟩, h7⟩, h8⟩, h9⟩ := h
    rw [X.frames, List.length_cons] at h2 h3
    have q1 := X.heapSize
    have q2 := X.used
    simp only [hF, hU, List.length_cons, State.stackLimits_setFrames, State.stackBytes_setFrames, hl9, hb9]
    refine ⟨⟨⟨⟨by omega, by omega, by omega, by omega, by omega, h6⟩, ?_⟩, ?_⟩, X.book⟩
    · show T.heap.size + R'.cells ≤ e.platform.maxCells
      omega
    · show T.slotsUsed + R'.slots ≤ e.platform.maxSlots
      omega
  · rw [State.stackLimits_setFrames]; rfl
  · rw [State.stackBytes_setFrames]; rfl
  · refine ⟨?_, Nat.le_refl _, Nat.le_refl _, ?_, ?_, fun a c9 h9 => ⟨c9, h9, rfl, rfl, fun _ _ => rfl⟩⟩
    · obtain ⟨t, ht, -⟩ := State.frames_cons hr
      show T.setVm s.vm = { ((T.setVm s.vm).setFrames (.invoking m args :: below)).setFrames (T.setVm s.vm).frames with heap := T.heap, slotsUsed := T.slotsUsed }
      rw [State.setFrames_setFrames, State.setFrames_self ht]
      rfl
    · show T.slotsUsed = T.slotsUsed + ((T.heap.toList.drop T.heap.size).map (·.slots.size)).sum
      rw [List.drop_eq_nil_of_le (Nat.le_of_eq Array.length_toList)]
      rfl
    · show ((T.heap.toList.drop T.heap.size).map (·.slots.size)).sum ≤ 0
      rw [List.drop_eq_nil_of_le (Nat.le_of_eq Array.length_toList)]
      exact Nat.le_refl _
/-- 'throw new E()': new; dup; invokespecial; athrow -/
theorem vx_throw0 {cc : ByteArray} {pc : Nat} (hexec : p.tables.exec = Jvm.exec) (hb : c.code = cc) (hl : l.stackTraces = false) {own cls : String} {names : List String} {ik ic mc ms : Nat} {A : Nat → Prop}
    (hown : s.vm.findClass own = some m.cls) (hcls : Bundle.fit cls = true) (hnames : ∀ n ∈ names, Bundle.fit n = true)
    (hk : (Cond.classLink own ik cls).before args s = true) (hini : (Cond.initialized cls).before args s = true) (hat : ∀ w ∈ vx_at0 own ic cls names, w.before args s = true)
    (hgood : ∀ w ∈ Cond.classLink own ik cls :: Cond.initialized cls :: vx_at0 own ic cls names, vx_ot w = true)
    (hU : vx_Zq Bundle.tN "UNASSIGNED_STACK" Bundle.steD A s s.heap) (hN : vx_Zq Bundle.tN "SUPPRESSED_SENTINEL" Bundle.listD A s s.heap) (hS : va_S A s.heap H locs) (hsize : ls.size = c.maxLocals)
    (d0 : decode cc pc = .ok (.new ik, 3)) (d3 : decode cc (pc + 3) = .ok (.dup, 1)) (d4 : decode cc (pc + 4) = .ok (.invokespecial ic, 3)) (d7 : decode cc (pc + 7) = .ok (.athrow, 1))
    (hout : ∀ x ∈ c.exceptionTable.toList, covers x (pc + 7) = false)
    (hRframes : names.length + 3 < R.frames) (hRlocals : (rest.map fun v => v.category).sum + (13 * (names.length + 1) + 42) ≤ R.locals) (hRcells : cells + 1 ≤ R.cells) (hRslots : slots + 6 ≤ R.slots) (hlocks : meth.locks = false)
    (hx : ∀ t : State, s.vm.Alike t.vm → H.size ≤ t.heap.size → (∀ q : Nat, q < H.size → t.heap[q]? = H[q]?) → XC cls s t)
    (hf : ∀ z ∈ locs, free z.base) (hc : cells + 1 ≤ mc) (hs : slots + 6 ≤ ms) :
    W p l e R s m args below meth c H locs cells slots (vx_MQ below Qc XC args s mc ms free) (F0 m pc ls rest) := by
  intro T hT X
  have htr : e.platform.stackTraces = false := (show e.platform.stackTraces = l.stackTraces by rw [X.admits.platform]).trans hl
  have Y := vx_rebase X (R' := { frames := R.frames, locals := R.locals, cells := 1, slots := 6 }) (Nat.le_refl _) (Nat.le_refl _) hRcells hRslots
  obtain ⟨s', hA⟩ : ∃ z, z = (T.setVm s.vm).setFrames (.invoking m args :: below) := ⟨_, rfl⟩
  rw [← hA] at Y
  have hvm : s'.vm = s.vm := by rw [hA]; rfl
  have hhp : s'.heap = H := by rw [hA]; exact hT
  have hW0 : s.WarmedH s'.vm := by rw [hvm]; exact State.WarmedH.refl s
  have hat' : ∀ w ∈ vx_at0 own ic cls names, w.before args s' = true := fun w hw => vx_ot_at hW0 hvm.symm (hgood w (List.mem_cons_of_mem _ (List.mem_cons_of_mem _ hw))) (hat w hw)
  have hk' : (Cond.classLink own ik cls).before args s' = true := vx_ot_at hW0 hvm.symm (hgood _ List.mem_cons_self) hk
  have hini' : (Cond.initialized cls).before args s' = true := vx_ot_at hW0 hvm.symm (hgood _ (List.mem_cons_of_mem _ List.mem_cons_self)) hini
  have hU' : vx_Zq Bundle.tN "UNASSIGNED_STACK" Bundle.steD A s' s'.heap := by rw [hhp]; exact vx_Zq.moved hW0.alike (hU.kept hS.2.1)
  have hN' : vx_Zq Bundle.tN "SUPPRESSED_SENTINEL" Bundle.listD A s' s'.heap := by rw [hhp]; exact vx_Zq.moved hW0.alike (hN.kept hS.2.1)
  have h : ∀ w ∈ Bundle.ownAtoms0 own ic cls names, w.before args s' = true := vx_own hat' (vx_isRefq hU'.1) (vx_isRefq hN'.1) hU'.2.word hN'.2.word
  have hown' : s'.vm.findClass own = some m.cls := by rw [hvm]; exact hown
  have hins : (Cond.instantiable cls 6).before args s' = true := h _ (by simp [Bundle.ownAtoms0])
  obtain ⟨vm₁, cX, kX, hfX, hkX, -, -, X₁, st1⟩ := Y.newCold hexec (own := own) (C := cls) (index := ik) (n := 6) hown' hk' hins hini'
    (g := F0 m pc ls rest) rfl (by rw [hb]; exact d0) (Nat.le_refl _) (Nat.le_refl _)
  generalize hT1 : (T.setVm vm₁).pushCell { cls := cX, slots := kX.instanceTypes.map defaultValue, vm := .none } = T1 at X₁ st1
  have hcat : (Value.ref T.heap.size).category = 1 := rfl
  have hcellA : T1.heap[T.heap.size]? = some (freshCell cX kX) := by rw [← hT1]; exact State.heap_pushCell_size _ _
  have d3' : decode c.code (pc + 3) = .ok (.dup, 1) := by rw [hb]; exact d3
  obtain ⟨U, hsteps, hrun, hend, hW, hsame, ce, hce, hO⟩ := X₁.ctorThrow0 hexec htr (own := own) (cls := cls) (names := names) (ic := ic) hown' hcls hnames h (fun x hx => nomatch hx) hfX hkX hcellA (by rw [hhp, hT]; exact Nat.le_refl _)
    (g := { method := m, pc := pc + 4, locals := ls, stack := .ref T.heap.size :: .ref T.heap.size :: rest, locked := none }) rfl hsize rfl rfl (rest := rest) rfl
    (by rw [hb]; exact d4) (by rw [hb]; exact d7) hout hRframes (by simp only [List.map_cons, List.sum_cons, hcat]; omega) hlocks
  obtain ⟨f1, f2⟩ := vx_frame hsame
  rw [hhp] at f1 f2
  have hWs : s.WarmedH U.vm := State.WarmedH.trans hW0 hW
  have hcl : s.vm.findClass cls = some ce.cls := by
    have h9 := hO.cls
    rw [hvm] at h9
    exact h9
  have hall : s.sameButNew ({ U with vm := s.vm } : State) locs mc ms := by
    subst hA
    obtain ⟨e1, e2⟩ := hsame
    rw [State.setFrames_setFrames] at e1
    have h2 : (T.setVm s.vm).sameButNew ({ U with vm := s.vm } : State) [] (0 + 1) (0 + 6) := ⟨e1, e2⟩
    have h3 := X.same.trans h2
    rw [List.append_nil] at h3
    exact h3.mono hc hs
  refine ⟨U, ?_, .threw T.heap.size, hrun, hend, Or.inr ⟨T.heap.size, rfl, cls, ce, locs, hx U hWs.alike f1 (fun q hq => f2 q hq (fun z hz => nomatch hz)), hce, hO.vm, hcl, hWs, hall, hf⟩⟩
  refine st1 _ ?_
  show Steps p.tables e below (T1.setTop { method := m, pc := pc + 3, locals := ls, stack := .ref T.heap.size :: rest, locked := none }) _
  jvm_step X₁.here [X₁.here.top, hexec, d3', Value.category]
  exact hsteps
/-- 'throw new E("text")': new; dup; ldc; invokespecial; athrow -/
theorem vx_throwS {cc : ByteArray} {pc : Nat} (hexec : p.tables.exec = Jvm.exec) (hb : c.code = cc) (hl : l.stackTraces = false) {own cls text : String} {names : List String} {ik is ic mc ms sa : Nat} {A : Nat → Prop}
    (hown : s.vm.findClass own = some m.cls) (hcls : Bundle.fit cls = true) (hnames : ∀ n ∈ names, Bundle.fit n = true)
    (hk : (Cond.classLink own ik cls).before args s = true) (hini : (Cond.initialized cls).before args s = true) (hstr : vk_R own is text sa s) (hat : ∀ w ∈ vx_atS own ic cls names, w.before args s = true)
    (hgood : ∀ w ∈ Cond.classLink own ik cls :: Cond.initialized cls :: vx_atS own ic cls names, vx_ot w = true)
    (hU : vx_Zq Bundle.tN "UNASSIGNED_STACK" Bundle.steD A s s.heap) (hN : vx_Zq Bundle.tN "SUPPRESSED_SENTINEL" Bundle.listD A s s.heap) (hS : va_S A s.heap H locs) (hsize : ls.size = c.maxLocals)
    (d0 : decode cc pc = .ok (.new ik, 3)) (d3 : decode cc (pc + 3) = .ok (.dup, 1)) (d4 : decode cc (pc + 4) = .ok (.ldc is, 2)) (d6 : decode cc (pc + 6) = .ok (.invokespecial ic, 3)) (d9 : decode cc (pc + 9) = .ok (.athrow, 1))
    (hout : ∀ x ∈ c.exceptionTable.toList, covers x (pc + 9) = false)
    (hRframes : names.length + 3 < R.frames) (hRlocals : (rest.map fun v => v.category).sum + (13 * (names.length + 1) + 43) ≤ R.locals) (hRcells : cells + 1 ≤ R.cells) (hRslots : slots + 6 ≤ R.slots) (hlocks : meth.locks = false)
    (hx : ∀ t : State, s.vm.Alike t.vm → H.size ≤ t.heap.size → (∀ q : Nat, q < H.size → t.heap[q]? = H[q]?) → XC cls s t)
    (hf : ∀ z ∈ locs, free z.base) (hc : cells + 1 ≤ mc) (hs : slots + 6 ≤ ms) :
    W p l e R s m args below meth c H locs cells slots (vx_MQ below Qc XC args s mc ms free) (F0 m pc ls rest) := by
  intro T hT X
  have htr : e.platform.stackTraces = false := (show e.platform.stackTraces = l.stackTraces by rw [X.admits.platform]).trans hl
  have Y := vx_rebase X (R' := { frames := R.frames, locals := R.locals, cells := 1, slots := 6 }) (Nat.le_refl _) (Nat.le_refl _) hRcells hRslots
  obtain ⟨s', hA⟩ : ∃ z, z = (T.setVm s.vm).setFrames (.invoking m args :: below) := ⟨_, rfl⟩
  rw [← hA] at Y
  have hvm : s'.vm = s.vm := by rw [hA]; rfl
  have hhp : s'.heap = H := by rw [hA]; exact hT
  have hW0 : s.WarmedH s'.vm := by rw [hvm]; exact State.WarmedH.refl s
  have hat' : ∀ w ∈ vx_atS own ic cls names, w.before args s' = true := fun w hw => vx_ot_at hW0 hvm.symm (hgood w (List.mem_cons_of_mem _ (List.mem_cons_of_mem _ hw))) (hat w hw)
  have hk' : (Cond.classLink own ik cls).before args s' = true := vx_ot_at hW0 hvm.symm (hgood _ List.mem_cons_self) hk
  have hini' : (Cond.initialized cls).before args s' = true := vx_ot_at hW0 hvm.symm (hgood _ (List.mem_cons_of_mem _ List.mem_cons_self)) hini
  have hU' : vx_Zq Bundle.tN "UNASSIGNED_STACK" Bundle.steD A s' s'.heap := by rw [hhp]; exact vx_Zq.moved hW0.alike (hU.kept hS.2.1)
  have hN' : vx_Zq Bundle.tN "SUPPRESSED_SENTINEL" Bundle.listD A s' s'.heap := by rw [hhp]; exact vx_Zq.moved hW0.alike (hN.kept hS.2.1)
  have h : ∀ w ∈ Bundle.ownAtoms own ic cls names, w.before args s' = true := vx_own hat' (vx_isRefq hU'.1) (vx_isRefq hN'.1) hU'.2.word hN'.2.word
  have hown' : s'.vm.findClass own = some m.cls := by rw [hvm]; exact hown
  have hins : (Cond.instantiable cls 6).before args s' = true := h _ (by simp [Bundle.ownAtoms])
  obtain ⟨vm₁, cX, kX, hfX, hkX, -, -, X₁, st1⟩ := Y.newCold hexec (own := own) (C := cls) (index := ik) (n := 6) hown' hk' hins hini'
    (g := F0 m pc ls rest) rfl (by rw [hb]; exact d0) (Nat.le_refl _) (Nat.le_refl _)
  generalize hT1 : (T.setVm vm₁).pushCell { cls := cX, slots := kX.instanceTypes.map defaultValue, vm := .none } = T1 at X₁ st1
  have hcat : (Value.ref T.heap.size).category = 1 := rfl
  have hcellA : T1.heap[T.heap.size]? = some (freshCell cX kX) := by rw [← hT1]; exact State.heap_pushCell_size _ _
  have d3' : decode c.code (pc + 3) = .ok (.dup, 1) := by rw [hb]; exact d3
  have d4' : decode c.code (pc + 4) = .ok (.ldc is, 2) := by rw [hb]; exact d4
  have hstr' : vk_R own is text sa s' := vk_R.warm hW0 hstr
  obtain ⟨U, hsteps, hrun, hend, hW, hsame, ce, hce, hO⟩ := X₁.ctorThrowS hexec htr (own := own) (cls := cls) (names := names) (ic := ic) hown' hcls hnames h (fun x hx => nomatch hx) hfX hkX hcellA (by rw [hhp, hT]; exact Nat.le_refl _) (msg := .ref sa) rfl
    (g := { method := m, pc := pc + 6, locals := ls, stack := .ref sa :: .ref T.heap.size :: .ref T.heap.size :: rest, locked := none }) rfl hsize rfl rfl (rest := rest) rfl
    (by rw [hb]; exact d6) (by rw [hb]; exact d9) hout hRframes (by simp only [List.map_cons, List.sum_cons, hcat]; omega) hlocks
  obtain ⟨f1, f2⟩ := vx_frame hsame
  rw [hhp] at f1 f2
  have hWs : s.WarmedH U.vm := State.WarmedH.trans hW0 hW
  have hcl : s.vm.findClass cls = some ce.cls := by
    have h9 := hO.cls
    rw [hvm] at h9
    exact h9
  have hall : s.sameButNew ({ U with vm := s.vm } : State) locs mc ms := by
    subst hA
    obtain ⟨e1, e2⟩ := hsame
    rw [State.setFrames_setFrames] at e1
    have h2 : (T.setVm s.vm).sameButNew ({ U with vm := s.vm } : State) [] (0 + 1) (0 + 6) := ⟨e1, e2⟩
    have h3 := X.same.trans h2
    rw [List.append_nil] at h3
    exact h3.mono hc hs
  refine ⟨U, ?_, .threw T.heap.size, hrun, hend, Or.inr ⟨T.heap.size, rfl, cls, ce, locs, hx U hWs.alike f1 (fun q hq => f2 q hq (fun z hz => nomatch hz)), hce, hO.vm, hcl, hWs, hall, hf⟩⟩
  refine st1 _ ?_
  show Steps p.tables e below (T1.setTop { method := m, pc := pc + 3, locals := ls, stack := .ref T.heap.size :: rest, locked := none }) _
  jvm_step X₁.here [X₁.here.top, hexec, d3', Value.category]
  exact X₁.ldcString hexec (own := own) (text := text) (index := is) (a := sa) hown' hstr'.1 hstr'.2
    (g := { method := m, pc := pc + 4, locals := ls, stack := .ref T.heap.size :: .ref T.heap.size :: rest, locked := none }) rfl d4' _ hsteps
/-- 'throw new E("text")', the text by a wide index -/
theorem vx_throwSW {cc : ByteArray} {pc : Nat} (hexec : p.tables.exec = Jvm.exec) (hb : c.code = cc) (hl : l.stackTraces = false) {own cls text : String} {names : List String} {ik is ic mc ms sa : Nat} {A : Nat → Prop}
    (hown : s.vm.findClass own = some m.cls) (hcls : Bundle.fit cls = true) (hnames : ∀ n ∈ names, Bundle.fit n = true)
    (hk : (Cond.classLink own ik cls).before args s = true) (hini : (Cond.initialized cls).before args s = true) (hstr : vk_R own is text sa s) (hat : ∀ w ∈ vx_atS own ic cls names, w.before args s = true)
    (hgood : ∀ w ∈ Cond.classLink own ik cls :: Cond.initialized cls :: vx_atS own ic cls names, vx_ot w = true)
    (hU : vx_Zq Bundle.tN "UNASSIGNED_STACK" Bundle.steD A s s.heap) (hN : vx_Zq Bundle.tN "SUPPRESSED_SENTINEL" Bundle.listD A s s.heap) (hS : va_S A s.heap H locs) (hsize : ls.size = c.maxLocals)
    (d0 : decode cc pc = .ok (.new ik, 3)) (d3 : decode cc (pc + 3) = .ok (.dup, 1)) (d4 : decode cc (pc + 4) = .ok (.ldc_w is, 3)) (d7 : decode cc (pc + 7) = .ok (.invokespecial ic, 3)) (d10 : decode cc (pc + 10) = .ok (.athrow, 1))
    (hout : ∀ x ∈ c.exceptionTable.toList, covers x (pc + 10) = false)
    (hRframes : names.length + 3 < R.frames) (hRlocals : (rest.map fun v => v.category).sum + (13 * (names.length + 1) + 43) ≤ R.locals) (hRcells : cells + 1 ≤ R.cells) (hRslots : slots + 6 ≤ R.slots) (hlocks : meth.locks = false)
    (hx : ∀ t : State, s.vm.Alike t.vm → H.size ≤ t.heap.size → (∀ q : Nat, q < H.size → t.heap[q]? = H[q]?) → XC cls s t)
    (hf : ∀ z ∈ locs, free z.base) (hc : cells + 1 ≤ mc) (hs : slots + 6 ≤ ms) :
    W p l e R s m args below meth c H locs cells slots (vx_MQ below Qc XC args s mc ms free) (F0 m pc ls rest) := by
  intro T hT X
  have htr : e.platform.stackTraces = false := (show e.platform.stackTraces = l.stackTraces by rw [X.admits.platform]).trans hl
  have Y := vx_rebase X (R' := { frames := R.frames, locals := R.locals, cells := 1, slots := 6 }) (Nat.le_refl _) (Nat.le_refl _) hRcells hRslots
  obtain ⟨s', hA⟩ : ∃ z, z = (T.setVm s.vm).setFrames (.invoking m args :: below) := ⟨_, rfl⟩
  rw [← hA] at Y
  have hvm : s'.vm = s.vm := by rw [hA]; rfl
  have hhp : s'.heap = H := by rw [hA]; exact hT
  have hW0 : s.WarmedH s'.vm := by rw [hvm]; exact State.WarmedH.refl s
  have hat' : ∀ w ∈ vx_atS own ic cls names, w.before args s' = true := fun w hw => vx_ot_at hW0 hvm.symm (hgood w (List.mem_cons_of_mem _ (List.mem_cons_of_mem _ hw))) (hat w hw)
  have hk' : (Cond.classLink own ik cls).before args s' = true := vx_ot_at hW0 hvm.symm (hgood _ List.mem_cons_self) hk
  have hini' : (Cond.initialized cls).before args s' = true := vx_ot_at hW0 hvm.symm (hgood _ (List.mem_cons_of_mem _ List.mem_cons_self)) hini
  have hU' : vx_Zq Bundle.tN "UNASSIGNED_STACK" Bundle.steD A s' s'.heap := by rw [hhp]; exact vx_Zq.moved hW0.alike (hU.kept hS.2.1)
  have hN' : vx_Zq Bundle.tN "SUPPRESSED_SENTINEL" Bundle.listD A s' s'.heap := by rw [hhp]; exact vx_Zq.moved hW0.alike (hN.kept hS.2.1)
  have h : ∀ w ∈ Bundle.ownAtoms own ic cls names, w.before args s' = true := vx_own hat' (vx_isRefq hU'.1) (vx_isRefq hN'.1) hU'.2.word hN'.2.word
  have hown' : s'.vm.findClass own = some m.cls := by rw [hvm]; exact hown
  have hins : (Cond.instantiable cls 6).before args s' = true := h _ (by simp [Bundle.ownAtoms])
  obtain ⟨vm₁, cX, kX, hfX, hkX, -, -, X₁, st1⟩ := Y.newCold hexec (own := own) (C := cls) (index := ik) (n := 6) hown' hk' hins hini'
    (g := F0 m pc ls rest) rfl (by rw [hb]; exact d0) (Nat.le_refl _) (Nat.le_refl _)
  generalize hT1 : (T.setVm vm₁).pushCell { cls := cX, slots := kX.instanceTypes.map defaultValue, vm := .none } = T1 at X₁ st1
  have hcat : (Value.ref T.heap.size).category = 1 := rfl
  have hcellA : T1.heap[T.heap.size]? = some (freshCell cX kX) := by rw [← hT1]; exact State.heap_pushCell_size _ _
  have d3' : decode c.code (pc + 3) = .ok (.dup, 1) := by rw [hb]; exact d3
  have d4' : decode c.code (pc + 4) = .ok (.ldc_w is, 3) := by rw [hb]; exact d4
  have hstr' : vk_R own is text sa s' := vk_R.warm hW0 hstr
  obtain ⟨U, hsteps, hrun, hend, hW, hsame, ce, hce, hO⟩ := X₁.ctorThrowS hexec htr (own := own) (cls := cls) (names := names) (ic := ic) hown' hcls hnames h (fun x hx => nomatch hx) hfX hkX hcellA (by rw [hhp, hT]; exact Nat.le_refl _) (msg := .ref sa) rfl
    (g := { method := m, pc := pc + 7, locals := ls, stack := .ref sa :: .ref T.heap.size :: .ref T.heap.size :: rest, locked := none }) rfl hsize rfl rfl (rest := rest) rfl
    (by rw [hb]; exact d7) (by rw [hb]; exact d10) hout hRframes (by simp only [List.map_cons, List.sum_cons, hcat]; omega) hlocks
  obtain ⟨f1, f2⟩ := vx_frame hsame
  rw [hhp] at f1 f2
  have hWs : s.WarmedH U.vm := State.WarmedH.trans hW0 hW
  have hcl : s.vm.findClass cls = some ce.cls := by
    have h9 := hO.cls
    rw [hvm] at h9
    exact h9
  have hall : s.sameButNew ({ U with vm := s.vm } : State) locs mc ms := by
    subst hA
    obtain ⟨e1, e2⟩ := hsame
    rw [State.setFrames_setFrames] at e1
    have h2 : (T.setVm s.vm).sameButNew ({ U with vm := s.vm } : State) [] (0 + 1) (0 + 6) := ⟨e1, e2⟩
    have h3 := X.same.trans h2
    rw [List.append_nil] at h3
    exact h3.mono hc hs
  refine ⟨U, ?_, .threw T.heap.size, hrun, hend, Or.inr ⟨T.heap.size, rfl, cls, ce, locs, hx U hWs.alike f1 (fun q hq => f2 q hq (fun z hz => nomatch hz)), hce, hO.vm, hcl, hWs, hall, hf⟩⟩
  refine st1 _ ?_
  show Steps p.tables e below (T1.setTop { method := m, pc := pc + 3, locals := ls, stack := .ref T.heap.size :: rest, locked := none }) _
  jvm_step X₁.here [X₁.here.top, hexec, d3', Value.category]
  exact X₁.ldcStringW hexec (own := own) (text := text) (index := is) (a := sa) hown' hstr'.1 hstr'.2
    (g := { method := m, pc := pc + 4, locals := ls, stack := .ref T.heap.size :: .ref T.heap.size :: rest, locked := none }) rfl d4' _ hsteps
end Ends
section Bodies
variable {l : Launch}
theorem vx_ofW {y : MethodName} {ws ws' : List Cond} {rm : Room} {Pc : Array Value → State → Prop} {Qc : Array Value → State → Outcome → State → Prop} {XC : String → State → State → Prop} {mc ms : Nat} {free : Addr → Prop} {cc : ByteArray} {maxL : Nat} {ret : Option FieldType}
    (hy : plainName y.cls = true) (hw : ws = Cond.code y cc maxL ret :: ws')
    (body : ∀ p e s m args below meth c s₁, BodyLoose p l y (headSpec ws rm) cc maxL ret e s m args below meth c s₁ → c.maxLocals = maxL → (∀ x ∈ c.exceptionTable.toList, False) → Pc args s →
      W p l e (headSpec ws rm).room s m args below meth c s.heap [] 0 0 (vx_MQ below Qc XC args s mc ms free) (entryFrame m args maxL)) : vx_Met l y ws rm Pc Qc XC mc ms free := by
  refine MetFree.of_bodyS (code := cc) (maxLocals := maxL) (ret := ret) hy ?_ ?_
  · intro args s m h hn
    obtain ⟨meth, c, h1, h2, h3, h4, h5, h6, -, -⟩ := Cond.code_spec hn (atoms_spec (ws := ws) h _ (by rw [hw]; exact List.mem_cons_self))
    exact ⟨meth, c, h1, h2, h3, h4, h5, h6⟩
  · intro p e s m args below meth c s₁ B hml hP _
    have hh0 : s₁.heap = s.heap := by rw [B.state]; rfl
    have ht : ∀ x ∈ c.exceptionTable.toList, False := by
      obtain ⟨meth9, c9, h1, h2, -, -, -, -, h7, -⟩ := Cond.code_spec B.named (atoms_spec (ws := ws) B.pre _ (by rw [hw]; exact List.mem_cons_self))
      cases Option.some.inj (h1.symm.trans B.method)
      cases Option.some.inj (h2.symm.trans (Stand.of_body B).code)
      intro x hx
      rw [Array.isEmpty_iff.mp h7] at hx
      cases hx
    obtain ⟨t, a1, o, b1, b2, b3⟩ := body p e s m args below meth c s₁ B hml ht hP s₁ hh0 (Stand.of_body B)
    exact ⟨t, o, a1, b1, b2, b3⟩
/-- the table of a body with handlers -/
theorem vx_table {p : Program} {x y : MethodName} {S : Spec} {cc bytes : ByteArray} {maxL maxL' : Nat} {ret ret' : Option FieldType} {e : Env} {s s₁ : State} {m : MethodId} {args : Array Value} {below : List Frame} {meth : Method} {c : Code} {hh : List (Nat × Nat × Nat × Nat)}
    (B : BodyLoose p l y S cc maxL ret e s m args below meth c s₁) (h : (Cond.codeWith y bytes maxL' ret' hh).before args s = true) : c.exceptionTable.toList = tableOf hh := by
  obtain ⟨m9, meth9, c9, hn9, h1, h2, -, -, h6, -⟩ := Cond.codeWith_spec h
  cases Option.some.inj (hn9.symm.trans B.named)
  cases Option.some.inj (h1.symm.trans B.method)
  cases Option.some.inj (h2.symm.trans (Stand.of_body B).code)
  rw [← h6, table_eq]
end Bodies
end VXA
/-! ===== END ===== -/
/-! ===== BEGIN a static call of a method with an exception table ===== -/
section VXS
variable {p : Program} {l : Launch} {e : Env} {R : Room} {s : State} {m : MethodId} {args : Array Value} {below : List Frame} {meth : Method} {c : Code} {T : State} {H : Heap} {locs : List Loc} {cells slots : Nat}
abbrev vx_CSW (R : Room) (s : State) (args : Array Value) (own : String) (index : Nat) (y : MethodName) (bytes : ByteArray) (maxL : Nat) (ret : Option FieldType) (hh : List (Nat × Nat × Nat × Nat)) (ws : List Cond) (rm : Room) (mc ms n : Nat) : Prop :=
  (rm.cells = mc ∧ rm.slots = ms ∧ rm.frames + 1 ≤ R.frames ∧ 8 + (maxL + 11) + rm.locals ≤ R.locals ∧ (∀ w ∈ ws, ∀ (a' : Array Value) (U : State), s.WarmedH U.vm → w.before a' U = true) ∧ Cond.codeWith y bytes maxL ret hh ∈ ws) ∧
  (Cond.codeWith y bytes maxL ret hh).before args s = true ∧ (Cond.initialized y.cls).before args s = true ∧ (y.cls ≠ "java/lang/invoke/MethodHandle" ∧ y.cls ≠ "java/lang/invoke/VarHandle") ∧
  (∀ sig, parseMethodDescriptor y.desc = some sig → n = sig.parameters.length) ∧ (Cond.methodLink own index y).before args s = true ∧ (Cond.static y).before args s = true
theorem vx_cwSW {own : String} {index maxL mc ms : Nat} {y : MethodName} {bytes : ByteArray} {ret : Option FieldType} {hh : List (Nat × Nat × Nat × Nat)} {Ts ws ws' : List Cond} {rm : Room} (n : Nat) (ht : ∀ w ∈ Ts, w.before args s = true) (hT : GoodIn Ts (va_wsS own index y ws)) (hw : ws = Cond.codeWith y bytes maxL ret hh :: ws') (hrc : rm.cells = mc) (hrs : rm.slots = ms)
    (hd : y.cls ≠ "java/lang/invoke/MethodHandle" ∧ y.cls ≠ "java/lang/invoke/VarHandle" ∧ (parseMethodDescriptor y.desc).map (fun d => d.parameters.length) = some n) (hR : rm.frames + 1 ≤ R.frames ∧ 8 + (maxL + 11) + rm.locals ≤ R.locals) :
    vx_CSW R s args own index y bytes maxL ret hh ws rm mc ms n := by
  have ok : ∀ w ∈ va_wsS own index y ws, w.before args s = true := fun w h => ht w (hT w h).1
  have hG : GoodIn Ts ws := fun w h => hT w (by unfold va_wsS; exact List.mem_append_right _ h)
  have hc : Cond.codeWith y bytes maxL ret hh ∈ ws := by rw [hw]; exact List.mem_cons_self
  refine ⟨⟨hrc, hrs, hR.1, hR.2, pay_in ht hG, hc⟩, ht _ (hG _ hc).1, ok _ (by simp [va_wsS]), ⟨hd.1, hd.2.1⟩, fun sig h => ?_, ok _ (by simp [va_wsS]), ok _ (by simp [va_wsS])⟩
  have h2 := hd.2.2
  rw [h] at h2
  exact (Option.some.inj h2).symm
theorem vx_callSW (X : Stand p l e R s m args below meth c T locs cells slots) (hexec : p.tables.exec = Jvm.exec) {own : String} {index : Nat} {y : MethodName} {bytes : ByteArray} {maxL : Nat} {ret : Option FieldType} {hh : List (Nat × Nat × Nat × Nat)}
    (hown : s.vm.findClass own = some m.cls) (hlink : (Cond.methodLink own index y).before args s = true) (hstat : (Cond.static y).before args s = true) (hinit : (Cond.initialized y.cls).before args s = true)
    (hcode : (Cond.codeWith y bytes maxL ret hh).before args s = true) (hy : y.cls ≠ "java/lang/invoke/MethodHandle" ∧ y.cls ≠ "java/lang/invoke/VarHandle")
    {W9 : Nat} {Pre : Pt → Array Value → Prop} {Post : Pt → Array Value → Option Value → Pt → Prop} (hK : Back l R p e below s args y 3 W9 Pre Post)
    {g : JFrame} (hg : g.method = m) (hsize : g.locals.size = c.maxLocals) {argsL rest : List Value} (hlen : ∀ sig, parseMethodDescriptor y.desc = some sig → argsL.length = sig.parameters.length)
    (hstack : g.stack = argsL.reverse ++ rest) (hW : 2 * g.monitorRoom + (rest.map fun v => v.category).sum ≤ W9) (hdg : decode c.code g.pc = .ok (.invokestatic index, 3))
    (hpre : ∀ vm₁, s.WarmedH vm₁ → Pre ⟨T.setVm vm₁, locs, cells, slots⟩ argsL.toArray) :
    ∃ (v : Option Value) (vm₁ : Vm) (B : Pt), s.WarmedH vm₁ ∧ Stand p l e R s m args below meth c B.U B.locs B.cells B.slots ∧ Post ⟨T.setVm vm₁, locs, cells, slots⟩ argsL.toArray v B ∧
      ∀ target, Steps p.tables e below (B.U.setTop { g with pc := g.pc + 3, stack := v.toList ++ rest }) target → Steps p.tables e below (T.setTop g) target := by
  obtain ⟨mk, methM, cM, hnamed, hmethM, -, -, -, -, -, -, hsigM⟩ := Cond.codeWith_spec hcode
  have hstatic : methM.isStatic = true := Cond.static_spec hnamed hmethM hstat
  obtain ⟨kP, hkP, -⟩ := className_of_methodNamed hnamed
  have hinitP : kP.init = .initialized := Cond.initialized_spec (findClass_of_methodNamed hnamed) hkP hinit
  obtain ⟨vm₁, X₁, hstep₁⟩ := X.invokestatic hexec hown hlink hnamed hmethM hstatic hkP hinitP hy (g := g) hg (argsL := argsL) (rest := rest) (hlen _ hsigM) hstack hdg
  obtain ⟨v, B, X', hpost, hsteps⟩ := hK m meth c ⟨T.setVm vm₁, locs, cells, slots⟩ { g with stack := rest } (.invokestatic index) mk argsL.toArray X₁ hg hsize hdg hW (X₁.named hnamed) (hpre vm₁ X₁.warmed)
  exact ⟨v, vm₁, B, X₁.warmed, X', hpost, fun target h => hstep₁ _ fun acts => by rw [doInvoke_state]; exact hsteps.trans h⟩
theorem vx_runSW {y : MethodName} {bytes cc : ByteArray} {maxL nL mc ms n index : Nat} {ret : Option FieldType} {hh : List (Nat × Nat × Nat × Nat)} {ws : List Cond} {rm : Room} {Pc : Array Value → State → Prop} {Qc : Array Value → State → Outcome → State → Prop} {free : Addr → Prop} {Ts : List Cond} {own : String} {As rest : List Value} {g : JFrame}
    (S : CallFix p m c cc nL s args Ts own) (hM : Met l y ws rm Pc Qc mc ms free) (cw : vx_CSW R s args own index y bytes maxL ret hh ws rm mc ms n) (hp : PreS s H Pc As)
    (hg : g.method = m) (hn : As.length = n) (hsize : g.locals.size = nL) (hstack : g.stack = As.reverse ++ rest) (hW : 2 * g.monitorRoom + (rest.map fun v => v.category).sum ≤ 8) (hdg : decode cc g.pc = .ok (.invokestatic index, 3)) (hf : cells + mc ≤ R.cells ∧ slots + ms ≤ R.slots) :
    va_Run p l e R s m args below meth c H locs cells slots mc ms g rest (Qc As.toArray) (free) := by
  obtain ⟨⟨hrc, hrs, hfr, hlo, hws, hcw⟩, hcode, hini, hy, hlen, hl, hstt⟩ := cw
  have hK : Back l R p e below s args y 3 8 (PreOf R mc ms Pc) (PostOf Qc mc ms free) := va_backW (hh := hh) (bytes := bytes) (maxL := maxL) (ret := ret) hM hp.1 hrc hrs hfr hlo hws hcw (fun a' U hW => word_at hW (Or.inl (by first | rfl | simp [Cond.onTables, Cond.keeps, Cond.steady])) hini)
  obtain ⟨hx, hb, hml, ho, -⟩ := S
  intro T hT X
  obtain ⟨v, vm₁, ⟨U', l2, c2, s2⟩, hW₁, X', ⟨g', mk, t, L, e1, e2, hq, h1, hL, h2, h3⟩, st⟩ := vx_callSW X hx (hh := hh) (bytes := bytes) (maxL := maxL) (ret := ret) ho hl hstt hini hcode hy hK hg (hsize.trans hml.symm) (argsL := As) (rest := rest) (fun sig h => hn.trans (hlen sig h)) hstack hW (by rw [hb]; exact hdg)
    (fun vm₁ hW₁ => ⟨hf.1, hf.2, hp.2 (T.setVm vm₁) hT hW₁⟩)
  dsimp only [Pt.U, Pt.locs, Pt.cells, Pt.slots] at X' e1 e2 h1 h2 h3 st
  subst h1; subst h2; subst h3
  exact ⟨v, (T.setVm vm₁).calling g' mk As.toArray, t, U', L, hT, X', hL, e1, e2, hq, st⟩
/-- not caught here, past rows that name other classes: it goes on to the caller -/
theorem vx_outP {p : Program} {l : Launch} {e : Env} {R : Room} {s : State} {m : MethodId} {args : Array Value} {below : List Frame} {meth : Method} {c : Code} {H : Heap} {locs : List Loc} {cells slots : Nat} {free : Addr → Prop} {ls : Array Slot} {rest : List Value} {Qc : Array Value → State → Outcome → State → Prop} {XC : String → State → State → Prop}
    {pc : Nat} {own E : String} {ce : Cell} {q : Addr} {mc ms : Nat} (hown : s.vm.findClass own = some m.cls) (hlocks : meth.locks = false)
    (hpass : ∀ z ∈ c.exceptionTable.toList, covers z pc = false ∨ (z.catchType ≠ 0 ∧ ∃ nm : String, (Cond.classLink own z.catchType nm).before args s = true ∧ va_Nc E nm s)) (hcell : H[q]? = some ce) (hv : ce.vm = .none) (hcl : s.vm.findClass E = some ce.cls)
    (hx : ∀ t : State, t.heap = H → s.vm.Alike t.vm → XC E s t) (hf : ∀ z ∈ locs, free z.base) (hc : cells ≤ mc) (hs : slots ≤ ms) :
    vx_W p l e R s m args below meth c H locs cells slots (vx_MQ below Qc XC args s mc ms free) (F0 m pc ls rest) q := by
  intro T hT X
  have hpl : e.platform.magicAccessors = ({} : Platform).magicAccessors := by rw [X.admits.platform]
  obtain ⟨vm', hW', X', st⟩ := X.outThrough hlocks q (g := F0 m pc ls rest) rfl rfl rfl (cell := ce) (by rw [hT]; exact hcell) (by rw [hv]; rfl)
    (by obtain ⟨k9, h9, -⟩ := Vm.findClass_spec hcl; exact ⟨k9, h9⟩) (fun z hz => by
      rcases hpass z hz with h | ⟨hz0, nm, hl1, hn1⟩
      · exact Or.inl h
      · obtain ⟨c6, hc6, hcl6⟩ := Cond.classLink_spec hown hl1 e.platform hpl
        obtain ⟨a8, b8, h1, h2, h3⟩ := hn1
        cases Option.some.inj (h1.symm.trans hcl)
        cases Option.some.inj (h2.symm.trans hc6)
        exact Or.inr ⟨hz0, _, hcl6, h3⟩)
  obtain ⟨g₀, hfr⟩ := X'.frames_eq
  have hcell9 : ((T.setVm vm').setFrames (.throwing q :: below)).heap[q]? = some ce := by
    show T.heap[q]? = some ce
    rw [hT]; exact hcell
  have hend : Ended ((T.setVm vm').setFrames (.throwing q :: below)) below (.threw q) := State.frames_setFrames _ (State.cur_lt_of_frames hfr)
  refine ⟨(T.setVm vm').setFrames (.throwing q :: below), ?_, .threw q, X'.here.running, hend, Or.inr ⟨q, rfl, E, ce, locs, hx _ hT (X'.ends _).1.alike, hcell9, hv, hcl, (X'.ends _).1, (X'.ends _).2.mono hc hs, hf⟩⟩
  rw [X.pushThrowing_eq]
  exact st
/-- a thing of a world lies in the heap -/
theorem vx_lt {D : va_G} {cl : List vw_C} {ws : va_W} {H1 : Heap} (h : va_P D cl ws H1) {k : Nat} {q : Nat × va_E} (hk : ws[k]? = some q) : q.1 < H1.size := (h k q hk).lt
end VXS
/-! ===== END ===== -/
/-! ===== BEGIN methods with a table of their own: called by a name, returning or throwing ===== -/
section VXH
/-! vx_backW, vx_callVX, vx_callSX, vx_callVW, vx_runVW, vx_runVX, vx_runSX, vx_ofWH follow the same proofs as their sisters above (Free/Laws.lean, Shelf42/LK1.lean); vx_outP calls Shelf42/NT130.lean (outThrough). -/
section
variable {l : Launch} {R : Room} {p : Program} {e : Env} {below : List Frame} {s : State} {sargs : Array Value} {y : MethodName} {len W9 : Nat}
theorem vx_backW {ws : List Cond} {rm : Room} {Pc : Array Value → State → Prop} {Qc : Array Value → State → Outcome → State → Prop} {XC : String → State → State → Prop} {mc ms : Nat} {free : Addr → Prop} {bytes : ByteArray} {maxL : Nat} {ret : Option FieldType} {hh : List (Nat × Nat × Nat × Nat)}
    (hM : vx_Met l y ws rm Pc Qc XC mc ms free) (hblind : FrameBlind Pc) (hrc : rm.cells = mc) (hrs : rm.slots = ms)
    (hframes : rm.frames + 1 ≤ R.frames) (hlocals : W9 + (maxL + 11) + rm.locals ≤ R.locals)
    (hws : ∀ w ∈ ws, ∀ a' U, s.WarmedH U.vm → w.before a' U = true) (hcode : Cond.codeWith y bytes maxL ret hh ∈ ws) (hinit : ∀ a' U, s.WarmedH U.vm → (Cond.initialized y.cls).before a' U = true) :
    vx_Back l R p e below s sargs y len W9 (PreOf R mc ms Pc) (PostOf Qc mc ms free) (vx_Post XC mc ms free) := by
  intro m meth c A g ig mk a X hg hsize hdg hW hn hp
  have h1 : (headSpec ws rm).pre.before a A.U = true := atoms_intro fun w hw => hws w hw _ _ X.warmed
  have h2 : (Cond.codeWith y bytes maxL ret hh).before a A.U = true := hws _ hcode _ _ X.warmed
  have h3 : (Cond.initialized y.cls).before a A.U = true := hinit _ _ X.warmed
  have h4 : A.cells + (headSpec ws rm).room.cells ≤ R.cells := by rw [show (headSpec ws rm).room.cells = mc from hrc]; exact hp.1
  have h5 : A.slots + (headSpec ws rm).room.slots ≤ R.slots := by rw [show (headSpec ws rm).room.slots = ms from hrs]; exact hp.2.1
  have hPc : Pc a (A.U.calling g mk a) := hblind _ _ _ _ hp.2.2
  obtain ⟨U, Ls, c0, s0⟩ := A
  dsimp only [Pt.U, Pt.locs, Pt.cells, Pt.slots] at h1 h2 h3 h4 h5 X hn hPc ⊢
  obtain ⟨m9, methY, cY, hn9, hmY, hcY, -, hlY, -⟩ := Cond.codeWith_spec h2
  cases Option.some.inj (hn9.symm.trans hn)
  obtain ⟨kY, hkY, -⟩ := className_of_methodNamed hn
  have hinitY : kY.init = .initialized := Cond.initialized_spec (findClass_of_methodNamed hn) hkY h3
  have h : At U g.method c below := by rw [hg]; exact X.here
  have hlocals9 : W9 + (maxL + 11) + (headSpec ws rm).room.locals ≤ R.locals := hlocals
  have happ : (headSpec ws rm).appliesLoose y e.platform (U.calling g mk a) = true :=
    Spec.appliesLoose_calling (g := g) h hdg hn hkY hinitY
      (X.room_calling (g := g) (R' := (headSpec ws rm).room) hsize hmY hcY hframes (by rw [hlY]; omega) h4 h5) h1
  obtain ⟨mid, hmid⟩ := h.above
  have hfr : (U.setTop g).frames = (.java g :: mid) ++ below := by rw [State.frames_setTop' g h.top, hmid]; rfl
  obtain ⟨o, s₂, hsteps, -, hend, hq⟩ := Steps.callFree hM p X.admits X.cas X.clock (acts := []) hfr happ hPc trivial
  have hq' : vx_Q Qc XC mc ms free a (U.calling g mk a) o s₂ := hq
  rw [State.frames_setTop' g h.top] at hend
  obtain ⟨g₀, hg0⟩ := Option.isSome_iff_exists.mp h.top
  obtain ⟨r, hr⟩ := State.topJava?_eq_some.mp hg0
  have hr' : (({ U with heap := s₂.heap, slotsUsed := s₂.slotsUsed } : State).setVm s₂.vm).frames = .java g₀ :: r := hr
  rcases hq' with ⟨hqc, L, hfe, hL⟩ | ⟨q, rfl, E, ce, L, hx, hce, hcv, hcl, hW₂, hsm, hL⟩
  · obtain ⟨⟨v, rfl⟩, hW₂, e2, q2, q3, q4, q5, q6⟩ := id hfe
    have e3 : s₂ = ({ (U.calling g mk a).setFrames s₂.frames with heap := s₂.heap, slotsUsed := s₂.slotsUsed } : State).setVm s₂.vm := by
      have : s₂ = ({ s₂ with vm := (U.calling g mk a).vm } : State).setVm s₂.vm := rfl
      rw [e2] at this
      exact this
    obtain ⟨c₂, i₂, len₂, hc₂, hd₂, hf₂⟩ := hend
    have hW' : U.WarmedH s₂.vm := hW₂
    have hcc : c₂ = c := by
      have h1 : s₂.code? g.method = U.code? g.method := by
        rw [State.code?_eq, State.code?_eq, hW'.alike.method?]
      exact Option.some.inj (hc₂.symm.trans (h1.trans h.code))
    subst hcc
    have hlen : len₂ = len := by rw [hdg] at hd₂; cases hd₂; rfl
    subst hlen
    have hs₂ : s₂ = (({ U with heap := s₂.heap, slotsUsed := s₂.slotsUsed } : State).setVm s₂.vm).setTop { g with pc := g.pc + len₂, stack := v.toList ++ g.stack } := by
      refine e3.trans ?_
      rw [hf₂, State.calling_eq h.top, State.setFrames_setFrames, State.setTop_of_frames _ hr', hr]
      rfl
    have hsame : U.sameButNew ({ U with heap := s₂.heap, slotsUsed := s₂.slotsUsed } : State) L mc ms := by
      refine ⟨?_, q2, q3, q4, q5, q6⟩
      obtain ⟨t, ht, -⟩ := State.frames_cons hr
      show ({ U with heap := s₂.heap, slotsUsed := s₂.slotsUsed } : State) = { U.setFrames U.frames with heap := s₂.heap, slotsUsed := s₂.slotsUsed }
      rw [State.setFrames_self ht]
    subst hg
    refine Or.inl ⟨v, ⟨(({ U with heap := s₂.heap, slotsUsed := s₂.slotsUsed } : State).setVm s₂.vm), Ls ++ L, c0 + mc, s0 + ms⟩,
      ⟨X.admits, X.cas, X.clock, X.frames, X.room, X.hears, X.method, X.code, (X.here.setHeapUsed s₂.heap s₂.slotsUsed).setVm hW'.alike, X.tail, State.WarmedH.trans X.warmed hW', X.limits, X.bytes, X.same.trans (hsame.setVm s.vm)⟩,
      ⟨g, mk, s₂, L, rfl, rfl, hqc, rfl, hL, rfl, rfl⟩, ?_⟩
    show Steps p.tables e below _ ((({ U with heap := s₂.heap, slotsUsed := s₂.slotsUsed } : State).setVm s₂.vm).setTop { g with pc := g.pc + len₂, stack := v.toList ++ g.stack })
    rw [← hs₂]
    exact hsteps
  · obtain ⟨e2, q2, q3, q4, q5, q6⟩ := id hsm
    have e3 : s₂ = ({ (U.calling g mk a).setFrames s₂.frames with heap := s₂.heap, slotsUsed := s₂.slotsUsed } : State).setVm s₂.vm := by
      have : s₂ = ({ s₂ with vm := (U.calling g mk a).vm } : State).setVm s₂.vm := rfl
      rw [e2] at this
      exact this
    have hf₂ : s₂.frames = .throwing q :: .java g :: U.frames.tail := hend
    have hW' : U.WarmedH s₂.vm := hW₂
    have hs₂ : s₂ = ((({ U with heap := s₂.heap, slotsUsed := s₂.slotsUsed } : State).setVm s₂.vm).setTop g).pushFrame (.throwing q) := by
      refine e3.trans ?_
      rw [hf₂, State.calling_eq h.top, State.setFrames_setFrames, State.pushFrame, State.frames_setTop _ hr', State.setTop_of_frames _ hr', State.setFrames_setFrames, hr]
      rfl
    have hsame : U.sameButNew ({ U with heap := s₂.heap, slotsUsed := s₂.slotsUsed } : State) L mc ms := by
      refine ⟨?_, q2, q3, q4, q5, q6⟩
      obtain ⟨t, ht, -⟩ := State.frames_cons hr
      show ({ U with heap := s₂.heap, slotsUsed := s₂.slotsUsed } : State) = { U.setFrames U.frames with heap := s₂.heap, slotsUsed := s₂.slotsUsed }
      rw [State.setFrames_self ht]
    subst hg
    refine Or.inr ⟨q, ⟨(({ U with heap := s₂.heap, slotsUsed := s₂.slotsUsed } : State).setVm s₂.vm), Ls ++ L, c0 + mc, s0 + ms⟩,
      ⟨X.admits, X.cas, X.clock, X.frames, X.room, X.hears, X.method, X.code, (X.here.setHeapUsed s₂.heap s₂.slotsUsed).setVm hW'.alike, X.tail, State.WarmedH.trans X.warmed hW', X.limits, X.bytes, X.same.trans (hsame.setVm s.vm)⟩,
      ⟨g, mk, s₂, L, E, ce, rfl, rfl, hx, hce, hcv, hcl, rfl, hL, rfl, rfl⟩, ?_⟩
    show Steps p.tables e below _ (((({ U with heap := s₂.heap, slotsUsed := s₂.slotsUsed } : State).setVm s₂.vm).setTop g).pushFrame (.throwing q))
    rw [← hs₂]
    exact hsteps
end
variable {p : Program} {l : Launch} {e : Env} {R : Room} {s : State} {m : MethodId} {args : Array Value} {below : List Frame} {meth : Method} {c : Code} {T : State} {H : Heap} {locs : List Loc} {cells slots : Nat}
theorem vx_callVX (X : Stand p l e R s m args below meth c T locs cells slots) (hexec : p.tables.exec = Jvm.exec) {own C : String} {index : Nat} {y : MethodName} {bytes : ByteArray} {maxL : Nat} {ret : Option FieldType} {hh : List (Nat × Nat × Nat × Nat)}
    (hown : s.vm.findClass own = some m.cls) (hlink : (Cond.methodLink own index y).before args s = true) (hinst : (Cond.instanceMethod y).before args s = true) (hsel : (Cond.selects C y y).before args s = true)
    (hcode : (Cond.codeWith y bytes maxL ret hh).before args s = true) (hy : y.cls ≠ "java/lang/invoke/MethodHandle" ∧ y.cls ≠ "java/lang/invoke/VarHandle")
    {W9 : Nat} {Pre : Pt → Array Value → Prop} {Post : Pt → Array Value → Option Value → Pt → Prop} {PostX : Pt → Array Value → Addr → Pt → Prop} (hK : vx_Back l R p e below s args y 3 W9 Pre Post PostX)
    {b : Addr} {cellB : Cell} (hcell : T.heap[b]? = some cellB) (hobj : cellB.vm.isStatics = false) (hcls : s.vm.findClass C = some cellB.cls)
    {g : JFrame} (hg : g.method = m) (hsize : g.locals.size = c.maxLocals) {argsL rest : List Value} (hlen : ∀ sig, parseMethodDescriptor y.desc = some sig → argsL.length = sig.parameters.length)
    (hstack : g.stack = argsL.reverse ++ .ref b :: rest) (hW : 2 * g.monitorRoom + (rest.map fun v => v.category).sum ≤ W9) (hdg : decode c.code g.pc = .ok (.invokevirtual index, 3))
    (hpre : ∀ vm₁, s.WarmedH vm₁ → Pre ⟨T.setVm vm₁, locs, cells, slots⟩ (Value.ref b :: argsL).toArray) :
    (∃ (v : Option Value) (vm₁ : Vm) (B : Pt), s.WarmedH vm₁ ∧ Stand p l e R s m args below meth c B.U B.locs B.cells B.slots ∧ Post ⟨T.setVm vm₁, locs, cells, slots⟩ (Value.ref b :: argsL).toArray v B ∧
      ∀ target, Steps p.tables e below (B.U.setTop { g with pc := g.pc + 3, stack := v.toList ++ rest }) target → Steps p.tables e below (T.setTop g) target) ∨
    (∃ (q : Addr) (vm₁ : Vm) (B : Pt), s.WarmedH vm₁ ∧ Stand p l e R s m args below meth c B.U B.locs B.cells B.slots ∧ PostX ⟨T.setVm vm₁, locs, cells, slots⟩ (Value.ref b :: argsL).toArray q B ∧
      Steps p.tables e below (T.setTop g) ((B.U.setTop { g with stack := rest }).pushFrame (.throwing q))) := by
  obtain ⟨mk, methM, hnamed, hmethM, hstM, habM⟩ := Cond.instanceMethod_spec hinst
  obtain ⟨m8, methM', cM, hn8, hmethM', -, -, -, -, -, -, hsigM⟩ := Cond.codeWith_spec hcode
  cases Option.some.inj (hn8.symm.trans hnamed)
  cases hmethM.symm.trans hmethM'
  obtain ⟨c2, r2, m2, q1, q2, q3, q4, kP, hkP, hkPi⟩ := Cond.selects_spec hsel
  cases hcls.symm.trans q1
  cases (State.methodFound?_of_named hnamed hy).symm.trans q2
  cases hnamed.symm.trans q3
  have hselP : selectMethod e.platform s.vm cellB.cls mk = .method mk := by rw [Launch.admits_selectMethod X.admits]; exact q4
  obtain ⟨vm₁, X₁, hstep₁⟩ := X.invokevirtual hexec hown hlink hnamed hmethM hstM hkP hkPi hy (a := b) (cell := cellB) hcell
    (fun z h => by rw [h] at hobj; cases hobj) hselP hmethM habM hkP hkPi (g := g) hg (argsL := argsL) (rest := rest) (hlen _ hsigM) hstack hdg
  rcases hK m meth c ⟨T.setVm vm₁, locs, cells, slots⟩ { g with stack := rest } (.invokevirtual index) mk (Value.ref b :: argsL).toArray X₁ hg hsize hdg hW (X₁.named hnamed) (hpre vm₁ X₁.warmed) with ⟨v, B, X', hpost, hsteps⟩ | ⟨q, B, X', hpost, hsteps⟩
  · exact Or.inl ⟨v, vm₁, B, X₁.warmed, X', hpost, fun target h => hstep₁ _ fun acts => by rw [doInvoke_state]; exact hsteps.trans h⟩
  · exact Or.inr ⟨q, vm₁, B, X₁.warmed, X', hpost, hstep₁ _ fun acts => by rw [doInvoke_state]; exact hsteps⟩
theorem vx_callSX (X : Stand p l e R s m args below meth c T locs cells slots) (hexec : p.tables.exec = Jvm.exec) {own : String} {index : Nat} {y : MethodName} {bytes : ByteArray} {maxL : Nat} {ret : Option FieldType} {hh : List (Nat × Nat × Nat × Nat)}
    (hown : s.vm.findClass own = some m.cls) (hlink : (Cond.methodLink own index y).before args s = true) (hstat : (Cond.static y).before args s = true) (hinit : (Cond.initialized y.cls).before args s = true)
    (hcode : (Cond.codeWith y bytes maxL ret hh).before args s = true) (hy : y.cls ≠ "java/lang/invoke/MethodHandle" ∧ y.cls ≠ "java/lang/invoke/VarHandle")
    {W9 : Nat} {Pre : Pt → Array Value → Prop} {Post : Pt → Array Value → Option Value → Pt → Prop} {PostX : Pt → Array Value → Addr → Pt → Prop} (hK : vx_Back l R p e below s args y 3 W9 Pre Post PostX)
    {g : JFrame} (hg : g.method = m) (hsize : g.locals.size = c.maxLocals) {argsL rest : List Value} (hlen : ∀ sig, parseMethodDescriptor y.desc = some sig → argsL.length = sig.parameters.length)
    (hstack : g.stack = argsL.reverse ++ rest) (hW : 2 * g.monitorRoom + (rest.map fun v => v.category).sum ≤ W9) (hdg : decode c.code g.pc = .ok (.invokestatic index, 3))
    (hpre : ∀ vm₁, s.WarmedH vm₁ → Pre ⟨T.setVm vm₁, locs, cells, slots⟩ argsL.toArray) :
    (∃ (v : Option Value) (vm₁ : Vm) (B : Pt), s.WarmedH vm₁ ∧ Stand p l e R s m args below meth c B.U B.locs B.cells B.slots ∧ Post ⟨T.setVm vm₁, locs, cells, slots⟩ argsL.toArray v B ∧
      ∀ target, Steps p.tables e below (B.U.setTop { g with pc := g.pc + 3, stack := v.toList ++ rest }) target → Steps p.tables e below (T.setTop g) target) ∨
    (∃ (q : Addr) (vm₁ : Vm) (B : Pt), s.WarmedH vm₁ ∧ Stand p l e R s m args below meth c B.U B.locs B.cells B.slots ∧ PostX ⟨T.setVm vm₁, locs, cells, slots⟩ argsL.toArray q B ∧
      Steps p.tables e below (T.setTop g) ((B.U.setTop { g with stack := rest }).pushFrame (.throwing q))) := by
  obtain ⟨mk, methM, cM, hnamed, hmethM, -, -, -, -, -, -, hsigM⟩ := Cond.codeWith_spec hcode
  have hstatic : methM.isStatic = true := Cond.static_spec hnamed hmethM hstat
  obtain ⟨kP, hkP, -⟩ := className_of_methodNamed hnamed
  have hinitP : kP.init = .initialized := Cond.initialized_spec (findClass_of_methodNamed hnamed) hkP hinit
  obtain ⟨vm₁, X₁, hstep₁⟩ := X.invokestatic hexec hown hlink hnamed hmethM hstatic hkP hinitP hy (g := g) hg (argsL := argsL) (rest := rest) (hlen _ hsigM) hstack hdg
  rcases hK m meth c ⟨T.setVm vm₁, locs, cells, slots⟩ { g with stack := rest } (.invokestatic index) mk argsL.toArray X₁ hg hsize hdg hW (X₁.named hnamed) (hpre vm₁ X₁.warmed) with ⟨v, B, X', hpost, hsteps⟩ | ⟨q, B, X', hpost, hsteps⟩
  · exact Or.inl ⟨v, vm₁, B, X₁.warmed, X', hpost, fun target h => hstep₁ _ fun acts => by rw [doInvoke_state]; exact hsteps.trans h⟩
  · exact Or.inr ⟨q, vm₁, B, X₁.warmed, X', hpost, hstep₁ _ fun acts => by rw [doInvoke_state]; exact hsteps⟩
theorem vx_callVW (X : Stand p l e R s m args below meth c T locs cells slots) (hexec : p.tables.exec = Jvm.exec) {own C : String} {index : Nat} {y : MethodName} {bytes : ByteArray} {maxL : Nat} {ret : Option FieldType} {hh : List (Nat × Nat × Nat × Nat)}
    (hown : s.vm.findClass own = some m.cls) (hlink : (Cond.methodLink own index y).before args s = true) (hinst : (Cond.instanceMethod y).before args s = true) (hsel : (Cond.selects C y y).before args s = true)
    (hcode : (Cond.codeWith y bytes maxL ret hh).before args s = true) (hy : y.cls ≠ "java/lang/invoke/MethodHandle" ∧ y.cls ≠ "java/lang/invoke/VarHandle")
    {W9 : Nat} {Pre : Pt → Array Value → Prop} {Post : Pt → Array Value → Option Value → Pt → Prop} (hK : Back l R p e below s args y 3 W9 Pre Post)
    {b : Addr} {cellB : Cell} (hcell : T.heap[b]? = some cellB) (hobj : cellB.vm.isStatics = false) (hcls : s.vm.findClass C = some cellB.cls)
    {g : JFrame} (hg : g.method = m) (hsize : g.locals.size = c.maxLocals) {argsL rest : List Value} (hlen : ∀ sig, parseMethodDescriptor y.desc = some sig → argsL.length = sig.parameters.length)
    (hstack : g.stack = argsL.reverse ++ .ref b :: rest) (hW : 2 * g.monitorRoom + (rest.map fun v => v.category).sum ≤ W9) (hdg : decode c.code g.pc = .ok (.invokevirtual index, 3))
    (hpre : ∀ vm₁, s.WarmedH vm₁ → Pre ⟨T.setVm vm₁, locs, cells, slots⟩ (Value.ref b :: argsL).toArray) :
    ∃ (v : Option Value) (vm₁ : Vm) (B : Pt), s.WarmedH vm₁ ∧ Stand p l e R s m args below meth c B.U B.locs B.cells B.slots ∧ Post ⟨T.setVm vm₁, locs, cells, slots⟩ (Value.ref b :: argsL).toArray v B ∧
      ∀ target, Steps p.tables e below (B.U.setTop { g with pc := g.pc + 3, stack := v.toList ++ rest }) target → Steps p.tables e below (T.setTop g) target := by
  obtain ⟨mk, methM, hnamed, hmethM, hstM, habM⟩ := Cond.instanceMethod_spec hinst
  obtain ⟨m8, methM', cM, hn8, hmethM', -, -, -, -, -, -, hsigM⟩ := Cond.codeWith_spec hcode
  cases Option.some.inj (hn8.symm.trans hnamed)
  cases hmethM.symm.trans hmethM'
  obtain ⟨c2, r2, m2, q1, q2, q3, q4, kP, hkP, hkPi⟩ := Cond.selects_spec hsel
  cases hcls.symm.trans q1
  cases (State.methodFound?_of_named hnamed hy).symm.trans q2
  cases hnamed.symm.trans q3
  have hselP : selectMethod e.platform s.vm cellB.cls mk = .method mk := by rw [Launch.admits_selectMethod X.admits]; exact q4
  obtain ⟨vm₁, X₁, hstep₁⟩ := X.invokevirtual hexec hown hlink hnamed hmethM hstM hkP hkPi hy (a := b) (cell := cellB) hcell
    (fun z h => by rw [h] at hobj; cases hobj) hselP hmethM habM hkP hkPi (g := g) hg (argsL := argsL) (rest := rest) (hlen _ hsigM) hstack hdg
  obtain ⟨v, B, X', hpost, hsteps⟩ := hK m meth c ⟨T.setVm vm₁, locs, cells, slots⟩ { g with stack := rest } (.invokevirtual index) mk (Value.ref b :: argsL).toArray X₁ hg hsize hdg hW (X₁.named hnamed) (hpre vm₁ X₁.warmed)
  exact ⟨v, vm₁, B, X₁.warmed, X', hpost, fun target h => hstep₁ _ fun acts => by rw [doInvoke_state]; exact hsteps.trans h⟩
abbrev vx_CVW (R : Room) (s : State) (args : Array Value) (own C : String) (index : Nat) (y : MethodName) (bytes : ByteArray) (maxL : Nat) (ret : Option FieldType) (hh : List (Nat × Nat × Nat × Nat)) (ws : List Cond) (rm : Room) (mc ms n : Nat) : Prop :=
  (rm.cells = mc ∧ rm.slots = ms ∧ rm.frames + 1 ≤ R.frames ∧ 8 + (maxL + 11) + rm.locals ≤ R.locals ∧ (∀ w ∈ ws, ∀ (a' : Array Value) (U : State), s.WarmedH U.vm → w.before a' U = true) ∧ Cond.codeWith y bytes maxL ret hh ∈ ws) ∧
  (Cond.codeWith y bytes maxL ret hh).before args s = true ∧ (Cond.initialized y.cls).before args s = true ∧ (y.cls ≠ "java/lang/invoke/MethodHandle" ∧ y.cls ≠ "java/lang/invoke/VarHandle") ∧
  (∀ sig, parseMethodDescriptor y.desc = some sig → n = sig.parameters.length) ∧ (Cond.methodLink own index y).before args s = true ∧ (Cond.instanceMethod y).before args s = true ∧ (Cond.selects C y y).before args s = true
theorem vx_cwVW {own C : String} {index maxL mc ms : Nat} {y : MethodName} {bytes : ByteArray} {ret : Option FieldType} {hh : List (Nat × Nat × Nat × Nat)} {Ts ws ws' : List Cond} {rm : Room} (n : Nat) (ht : ∀ w ∈ Ts, w.before args s = true) (hT : GoodIn Ts (wsV own index C y ws)) (hw : ws = Cond.codeWith y bytes maxL ret hh :: ws') (hrc : rm.cells = mc) (hrs : rm.slots = ms)
    (hd : y.cls = C ∧ y.cls ≠ "java/lang/invoke/MethodHandle" ∧ y.cls ≠ "java/lang/invoke/VarHandle" ∧ (parseMethodDescriptor y.desc).map (fun d => d.parameters.length) = some n) (hR : rm.frames + 1 ≤ R.frames ∧ 8 + (maxL + 11) + rm.locals ≤ R.locals) :
    vx_CVW R s args own C index y bytes maxL ret hh ws rm mc ms n := by
  obtain ⟨hC, hd⟩ := hd
  subst hC
  have ok : ∀ w ∈ wsV own index y.cls y ws, w.before args s = true := fun w h => ht w (hT w h).1
  have hG : GoodIn Ts ws := fun w h => hT w (by unfold wsV; exact List.mem_append_right _ h)
  have hc : Cond.codeWith y bytes maxL ret hh ∈ ws := by rw [hw]; exact List.mem_cons_self
  refine ⟨⟨hrc, hrs, hR.1, hR.2, pay_in ht hG, hc⟩, ht _ (hG _ hc).1, ok _ (by simp [wsV]), ⟨hd.1, hd.2.1⟩, fun sig h => ?_, ok _ (by simp [wsV]), ok _ (by simp [wsV]), ok _ (by simp [wsV])⟩
  have h2 := hd.2.2
  rw [h] at h2
  exact (Option.some.inj h2).symm
theorem vx_runVW {y : MethodName} {bytes cc : ByteArray} {maxL nL mc ms n index : Nat} {ret : Option FieldType} {hh : List (Nat × Nat × Nat × Nat)} {ws : List Cond} {rm : Room} {Pc : Array Value → State → Prop} {Qc : Array Value → State → Outcome → State → Prop} {free : Addr → Prop} {Ts : List Cond} {own C : String} {b : Addr} {As rest : List Value} {g : JFrame}
    (S : CallFix p m c cc nL s args Ts own) (hM : Met l y ws rm Pc Qc mc ms free) (cw : vx_CVW R s args own C index y bytes maxL ret hh ws rm mc ms n) (hp : PreV s H C b Pc As)
    (hg : g.method = m) (hn : As.length = n) (hsize : g.locals.size = nL) (hstack : g.stack = As.reverse ++ .ref b :: rest) (hW : 2 * g.monitorRoom + (rest.map fun v => v.category).sum ≤ 8) (hdg : decode cc g.pc = .ok (.invokevirtual index, 3)) (hf : cells + mc ≤ R.cells ∧ slots + ms ≤ R.slots) :
    va_Run p l e R s m args below meth c H locs cells slots mc ms g rest (Qc (Value.ref b :: As).toArray) free := by
  obtain ⟨⟨hrc, hrs, hfr, hlo, hws, hcw⟩, hcode, hini, hy, hlen, hl, hin, hse⟩ := cw
  have hK : Back l R p e below s args y 3 8 (PreOf R mc ms Pc) (PostOf Qc mc ms free) := va_backW (hh := hh) (bytes := bytes) (maxL := maxL) (ret := ret) hM hp.1 hrc hrs hfr hlo hws hcw (fun a' U hW => word_at hW (Or.inl (by first | rfl | simp [Cond.onTables, Cond.keeps, Cond.steady])) hini)
  obtain ⟨hx, hb, hml, ho, -⟩ := S
  obtain ⟨-, ⟨cellB, hcB, hoB, hclB⟩, hPc⟩ := hp
  intro T hT X
  obtain ⟨v, vm₁, ⟨U', l2, c2, s2⟩, hW₁, X', ⟨g', mk, t, L, e1, e2, hq, h1, hL, h2, h3⟩, st⟩ := vx_callVW X hx (C := C) (hh := hh) (bytes := bytes) (maxL := maxL) (ret := ret) ho hl hin hse hcode hy hK (by rw [hT]; exact hcB) hoB hclB hg (hsize.trans hml.symm) (argsL := As) (rest := rest) (fun sig h => hn.trans (hlen sig h)) hstack hW (by rw [hb]; exact hdg)
    (fun vm₁ hW₁ => ⟨hf.1, hf.2, hPc (T.setVm vm₁) hT hW₁⟩)
  dsimp only [Pt.U, Pt.locs, Pt.cells, Pt.slots] at X' e1 e2 h1 h2 h3 st
  subst h1; subst h2; subst h3
  exact ⟨v, (T.setVm vm₁).calling g' mk (Value.ref b :: As).toArray, t, U', L, hT, X', hL, e1, e2, hq, st⟩
section
variable {y : MethodName} {bytes cc : ByteArray} {maxL nL mc ms n index : Nat} {ret : Option FieldType} {ws : List Cond} {rm : Room} {Pc : Array Value → State → Prop} {Qc : Array Value → State → Outcome → State → Prop} {XC : String → State → State → Prop} {free : Addr → Prop} {Ts : List Cond} {own C : String} {b : Addr} {As rest : List Value} {g : JFrame}
theorem vx_runVX {hh : List (Nat × Nat × Nat × Nat)} (S : CallFix p m c cc nL s args Ts own) (hM : vx_Met l y ws rm Pc Qc XC mc ms free) (cw : vx_CVW R s args own C index y bytes maxL ret hh ws rm mc ms n) (hp : PreV s H C b Pc As)
    (hg : g.method = m) (hn : As.length = n) (hsize : g.locals.size = nL) (hstack : g.stack = As.reverse ++ .ref b :: rest) (hW : 2 * g.monitorRoom + (rest.map fun v => v.category).sum ≤ 8) (hdg : decode cc g.pc = .ok (.invokevirtual index, 3)) (hf : cells + mc ≤ R.cells ∧ slots + ms ≤ R.slots) :
    vx_Run p l e R s m args below meth c H locs cells slots mc ms g rest (Qc (Value.ref b :: As).toArray) XC free := by
  obtain ⟨⟨hrc, hrs, hfr, hlo, hws, hcw⟩, hcode, hini, hy, hlen, hl, hin, hse⟩ := cw
  have hK : vx_Back l R p e below s args y 3 8 (PreOf R mc ms Pc) (PostOf Qc mc ms free) (vx_Post XC mc ms free) := vx_backW (hh := hh) (bytes := bytes) (maxL := maxL) (ret := ret) hM hp.1 hrc hrs hfr hlo hws hcw (fun a' U hW => word_at hW (Or.inl (by first | rfl | simp [Cond.onTables, Cond.keeps, Cond.steady])) hini)
  obtain ⟨hx, hb, hml, ho, -⟩ := S
  obtain ⟨-, ⟨cellB, hcB, hoB, hclB⟩, hPc⟩ := hp
  intro T hT X
  rcases vx_callVX X hx (C := C) (hh := hh) (bytes := bytes) (maxL := maxL) (ret := ret) ho hl hin hse hcode hy hK (by rw [hT]; exact hcB) hoB hclB hg (hsize.trans hml.symm) (argsL := As) (rest := rest) (fun sig h => hn.trans (hlen sig h)) hstack hW (by rw [hb]; exact hdg)
    (fun vm₁ hW₁ => ⟨hf.1, hf.2, hPc (T.setVm vm₁) hT hW₁⟩) with ⟨v, vm₁, ⟨U', l2, c2, s2⟩, hW₁, X', ⟨g', mk, t, L, e1, e2, hq, h1, hL, h2, h3⟩, st⟩ | ⟨q, vm₁, ⟨U', l2, c2, s2⟩, hW₁, X', ⟨g', mk, t, L, E, ce, e1, e2, hq, hce, hcv, hcl, h1, hL, h2, h3⟩, st⟩
  · dsimp only [Pt.U, Pt.locs, Pt.cells, Pt.slots] at X' e1 e2 h1 h2 h3 st
    subst h1; subst h2; subst h3
    exact Or.inl ⟨v, (T.setVm vm₁).calling g' mk (Value.ref b :: As).toArray, t, U', L, hT, X', hL, e1, e2, hq, st⟩
  · dsimp only [Pt.U, Pt.locs, Pt.cells, Pt.slots] at X' e1 e2 h1 h2 h3 st hcl
    subst h1; subst h2; subst h3
    exact Or.inr ⟨q, (T.setVm vm₁).calling g' mk (Value.ref b :: As).toArray, t, U', L, E, ce, hT, X', hL, e1, e2, hq, hce, hcv, vx_cls hW₁ hcl, st⟩
theorem vx_runSX {hh : List (Nat × Nat × Nat × Nat)} (S : CallFix p m c cc nL s args Ts own) (hM : vx_Met l y ws rm Pc Qc XC mc ms free) (cw : vx_CSW R s args own index y bytes maxL ret hh ws rm mc ms n) (hp : PreS s H Pc As)
    (hg : g.method = m) (hn : As.length = n) (hsize : g.locals.size = nL) (hstack : g.stack = As.reverse ++ rest) (hW : 2 * g.monitorRoom + (rest.map fun v => v.category).sum ≤ 8) (hdg : decode cc g.pc = .ok (.invokestatic index, 3)) (hf : cells + mc ≤ R.cells ∧ slots + ms ≤ R.slots) :
    vx_Run p l e R s m args below meth c H locs cells slots mc ms g rest (Qc As.toArray) XC free := by
  obtain ⟨⟨hrc, hrs, hfr, hlo, hws, hcw⟩, hcode, hini, hy, hlen, hl, hstt⟩ := cw
  have hK : vx_Back l R p e below s args y 3 8 (PreOf R mc ms Pc) (PostOf Qc mc ms free) (vx_Post XC mc ms free) := vx_backW (hh := hh) (bytes := bytes) (maxL := maxL) (ret := ret) hM hp.1 hrc hrs hfr hlo hws hcw (fun a' U hW => word_at hW (Or.inl (by first | rfl | simp [Cond.onTables, Cond.keeps, Cond.steady])) hini)
  obtain ⟨hx, hb, hml, ho, -⟩ := S
  intro T hT X
  rcases vx_callSX X hx (hh := hh) (bytes := bytes) (maxL := maxL) (ret := ret) ho hl hstt hini hcode hy hK hg (hsize.trans hml.symm) (argsL := As) (rest := rest) (fun sig h => hn.trans (hlen sig h)) hstack hW (by rw [hb]; exact hdg)
    (fun vm₁ hW₁ => ⟨hf.1, hf.2, hp.2 (T.setVm vm₁) hT hW₁⟩) with ⟨v, vm₁, ⟨U', l2, c2, s2⟩, hW₁, X', ⟨g', mk, t, L, e1, e2, hq, h1, hL, h2, h3⟩, st⟩ | ⟨q, vm₁, ⟨U', l2, c2, s2⟩, hW₁, X', ⟨g', mk, t, L, E, ce, e1, e2, hq, hce, hcv, hcl, h1, hL, h2, h3⟩, st⟩
  · dsimp only [Pt.U, Pt.locs, Pt.cells, Pt.slots] at X' e1 e2 h1 h2 h3 st
    subst h1; subst h2; subst h3
    exact Or.inl ⟨v, (T.setVm vm₁).calling g' mk As.toArray, t, U', L, hT, X', hL, e1, e2, hq, st⟩
  · dsimp only [Pt.U, Pt.locs, Pt.cells, Pt.slots] at X' e1 e2 h1 h2 h3 st hcl
    subst h1; subst h2; subst h3
    exact Or.inr ⟨q, (T.setVm vm₁).calling g' mk As.toArray, t, U', L, E, ce, hT, X', hL, e1, e2, hq, hce, hcv, vx_cls hW₁ hcl, st⟩
end
end VXH
theorem vx_ofWH {l : Launch} {y : MethodName} {ws ws' : List Cond} {rm : Room} {Pc : Array Value → State → Prop} {Qc : Array Value → State → Outcome → State → Prop} {XC : String → State → State → Prop} {mc ms : Nat} {free : Addr → Prop} {cc : ByteArray} {maxL : Nat} {ret : Option FieldType} {hh : List (Nat × Nat × Nat × Nat)}
    (hy : plainName y.cls = true) (hw : ws = Cond.codeWith y cc maxL ret hh :: ws')
    (body : ∀ p e s m args below meth c s₁, BodyLoose p l y (headSpec ws rm) cc maxL ret e s m args below meth c s₁ → c.maxLocals = maxL → Pc args s →
      W p l e (headSpec ws rm).room s m args below meth c s.heap [] 0 0 (vx_MQ below Qc XC args s mc ms free) (entryFrame m args maxL)) : vx_Met l y ws rm Pc Qc XC mc ms free := by
  refine MetFree.of_bodyS (code := cc) (maxLocals := maxL) (ret := ret) hy ?_ ?_
  · intro args s m h hn
    obtain ⟨m9, meth, c, hn9, h1, h2, h3, h4, -, h5, h6, -⟩ := Cond.codeWith_spec (atoms_spec (ws := ws) h _ (by rw [hw]; exact List.mem_cons_self))
    cases hn.symm.trans hn9
    exact ⟨meth, c, h1, h2, h3, h4, h5, h6⟩
  · intro p e s m args below meth c s₁ B hml hP _
    have hh0 : s₁.heap = s.heap := by rw [B.state]; rfl
    obtain ⟨t, a1, o, b1, b2, b3⟩ := body p e s m args below meth c s₁ B hml hP s₁ hh0 (Stand.of_body B)
    exact ⟨t, o, a1, b1, b2, b3⟩
/-! ===== END ===== -/
end
section
def RX0 : String := "StickerFoundry$Ball"
def TX0 : u_T := fun k => match k with
  | 0 => ("StickerFoundry$Ball", "members", "[J", true)
  | 1 => ("StickerFoundry$Ball", "distances", "[I", true)
  | 2 => ("StickerFoundry$Ball", "slots", "[I", true)
  | _ => ("StickerFoundry$Ball", "size", "I", false)
def tyX0 : Nat → FieldType := fun k => match k with
  | 0 => .array .long
  | 1 => .array .int
  | 2 => .array .int
  | _ => .int
abbrev wsX00 : List Cond := u_ws RX0 TX0 4
theorem nmX0 : ∀ a, a < 4 → ∀ b, b < 4 → a ≠ b → (TX0 a).2.1 ≠ (TX0 b).2.1 := by decide +kernel
theorem tyX0_ok : ∀ k, k < 4 → parseFieldDescriptor (TX0 k).2.2.1 = some (tyX0 k) := by decide +kernel
abbrev cX0_init : ByteArray := prog_2_method_1_code
def yX0_init : MethodName := ⟨RX0, "<init>", "()V"⟩
abbrev cX0_fill : ByteArray := prog_2_method_2_code
def yX0_fill : MethodName := ⟨RX0, "fill", "([JII)V"⟩
abbrev cX0_farOf : ByteArray := prog_2_method_3_code
def yX0_farOf : MethodName := ⟨RX0, "farOf", "(J)I"⟩
abbrev cX0_greatest : ByteArray := prog_2_method_4_code
def yX0_greatest : MethodName := ⟨RX0, "greatest", "()I"⟩
abbrev cX0_countAt : ByteArray := prog_2_method_5_code
def yX0_countAt : MethodName := ⟨RX0, "countAt", "(I)I"⟩
abbrev cX0_admit : ByteArray := prog_2_method_6_code
def yX0_admit : MethodName := ⟨RX0, "admit", "(JI)V"⟩
abbrev cX0_slotOf : ByteArray := prog_2_method_7_code
def yX0_slotOf : MethodName := ⟨RX0, "slotOf", "(J)I"⟩
def RX1 : String := "StickerFoundry$Chain"
def TX1 : u_T := fun k => match k with
  | 0 => ("StickerFoundry$Chain", "makers", "[[J", true)
  | 1 => ("StickerFoundry$Chain", "takers", "[[J", true)
  | 2 => ("StickerFoundry$Chain", "returners", "[[J", true)
  | 3 => ("StickerFoundry$Chain", "orbits", "[[I", true)
  | 4 => ("StickerFoundry$Chain", "makerCounts", "[I", true)
  | _ => ("StickerFoundry$Chain", "orbitSizes", "[I", true)
def tyX1 : Nat → FieldType := fun k => match k with
  | 0 => .array (.array .long)
  | 1 => .array (.array .long)
  | 2 => .array (.array .long)
  | 3 => .array (.array .int)
  | 4 => .array .int
  | _ => .array .int
abbrev wsX10 : List Cond := u_ws RX1 TX1 6
theorem nmX1 : ∀ a, a < 6 → ∀ b, b < 6 → a ≠ b → (TX1 a).2.1 ≠ (TX1 b).2.1 := by decide +kernel
theorem tyX1_ok : ∀ k, k < 6 → parseFieldDescriptor (TX1 k).2.2.1 = some (tyX1 k) := by decide +kernel
abbrev cX1_init : ByteArray := prog_3_method_1_code
def yX1_init : MethodName := ⟨RX1, "<init>", "()V"⟩
abbrev cX1_clear : ByteArray := prog_3_method_2_code
def yX1_clear : MethodName := ⟨RX1, "clear", "()V"⟩
abbrev cX1_admit : ByteArray := prog_3_method_3_code
def yX1_admit : MethodName := ⟨RX1, "admit", "(J)V"⟩
abbrev cX1_holds : ByteArray := prog_3_method_4_code
def yX1_holds : MethodName := ⟨RX1, "holds", "(J)Z"⟩
abbrev cX1_takes : ByteArray := prog_3_method_5_code
def yX1_takes : MethodName := ⟨RX1, "takes", "(II)Z"⟩
abbrev cX1_orbitSize : ByteArray := prog_3_method_6_code
def yX1_orbitSize : MethodName := ⟨RX1, "orbitSize", "(I)I"⟩
abbrev cX1_countFrom : ByteArray := prog_3_method_7_code
def yX1_countFrom : MethodName := ⟨RX1, "countFrom", "(I)J"⟩
abbrev cX1_rankOf : ByteArray := prog_3_method_8_code
def yX1_rankOf : MethodName := ⟨RX1, "rankOf", "(J)J"⟩
abbrev cX1_rowOf : ByteArray := prog_3_method_9_code
def yX1_rowOf : MethodName := ⟨RX1, "rowOf", "(J)J"⟩
abbrev cX1_countLesser : ByteArray := prog_3_method_10_code
def yX1_countLesser : MethodName := ⟨RX1, "countLesser", "(IJI)I"⟩
abbrev cX1_holdsFrom : ByteArray := prog_3_method_11_code
def yX1_holdsFrom : MethodName := ⟨RX1, "holdsFrom", "(IJ)Z"⟩
abbrev cX1_enlarge : ByteArray := prog_3_method_12_code
def yX1_enlarge : MethodName := ⟨RX1, "enlarge", "(IJ)V"⟩
abbrev cX1_meet : ByteArray := prog_3_method_13_code
def yX1_meet : MethodName := ⟨RX1, "meet", "(IJ)V"⟩
abbrev cX1_keepTaker : ByteArray := prog_3_method_14_code
def yX1_keepTaker : MethodName := ⟨RX1, "keepTaker", "(IJ)V"⟩
def RX2 : String := "StickerFoundry$Rows"
def TX2 : u_T := fun k => match k with
  | _ => ("", "", "", false)
def tyX2 : Nat → FieldType := fun k => match k with
  | _ => .int
abbrev wsX20 : List Cond := u_ws RX2 TX2 0
theorem nmX2 : ∀ a, a < 0 → ∀ b, b < 0 → a ≠ b → (TX2 a).2.1 ≠ (TX2 b).2.1 := by decide +kernel
theorem tyX2_ok : ∀ k, k < 0 → parseFieldDescriptor (TX2 k).2.2.1 = some (tyX2 k) := by decide +kernel
abbrev cX2_at : ByteArray := prog_4_method_2_code
def yX2_at : MethodName := ⟨RX2, "at", "(JI)I"⟩
abbrev cX2_then : ByteArray := prog_4_method_3_code
def yX2_then : MethodName := ⟨RX2, "then", "(JJ)J"⟩
abbrev cX2_back : ByteArray := prog_4_method_4_code
def yX2_back : MethodName := ⟨RX2, "back", "(J)J"⟩
abbrev cX2_put : ByteArray := prog_4_method_5_code
def yX2_put : MethodName := ⟨RX2, "put", "(JII)J"⟩
abbrev cX2_exchange : ByteArray := prog_4_method_6_code
def yX2_exchange : MethodName := ⟨RX2, "exchange", "(II)J"⟩
def RX3 : String := "StickerFoundry$Text"
def TX3 : u_T := fun k => match k with
  | 0 => ("StickerFoundry$Text", "signs", "[C", true)
  | 1 => ("StickerFoundry$Text", "numbers", "[I", true)
  | 2 => ("StickerFoundry$Text", "heads", "[I", true)
  | 3 => ("StickerFoundry$Text", "length", "I", false)
  | 4 => ("StickerFoundry$Text", "count", "I", false)
  | _ => ("StickerFoundry$Text", "head", "I", false)
def tyX3 : Nat → FieldType := fun k => match k with
  | 0 => .array .char
  | 1 => .array .int
  | 2 => .array .int
  | 3 => .int
  | 4 => .int
  | _ => .int
abbrev wsX30 : List Cond := u_ws RX3 TX3 6
theorem nmX3 : ∀ a, a < 6 → ∀ b, b < 6 → a ≠ b → (TX3 a).2.1 ≠ (TX3 b).2.1 := by decide +kernel
theorem tyX3_ok : ∀ k, k < 6 → parseFieldDescriptor (TX3 k).2.2.1 = some (tyX3 k) := by decide +kernel
abbrev cX3_init : ByteArray := prog_5_method_1_code
def yX3_init : MethodName := ⟨RX3, "<init>", "()V"⟩
abbrev cX3_append : ByteArray := prog_5_method_2_code
def yX3_append : MethodName := ⟨RX3, "append", "(JI)Z"⟩
abbrev cX3_shorten : ByteArray := prog_5_method_3_code
def yX3_shorten : MethodName := ⟨RX3, "shorten", "(I)Z"⟩
abbrev cX3_signAt : ByteArray := prog_5_method_4_code
def yX3_signAt : MethodName := ⟨RX3, "signAt", "(I)I"⟩
abbrev cX3_readCycles : ByteArray := prog_5_method_5_code
def yX3_readCycles : MethodName := ⟨RX3, "readCycles", "()Z"⟩
abbrev cX3_readBelow : ByteArray := prog_5_method_6_code
def yX3_readBelow : MethodName := ⟨RX3, "readBelow", "(I)Z"⟩
abbrev cX3_readTwice : ByteArray := prog_5_method_7_code
def yX3_readTwice : MethodName := ⟨RX3, "readTwice", "()Z"⟩
abbrev cX3_readRow : ByteArray := prog_5_method_8_code
def yX3_readRow : MethodName := ⟨RX3, "readRow", "()J"⟩
abbrev cX3_writeCycles : ByteArray := prog_5_method_9_code
def yX3_writeCycles : MethodName := ⟨RX3, "writeCycles", "(J)I"⟩
abbrev cX3_writeCycle : ByteArray := prog_5_method_10_code
def yX3_writeCycle : MethodName := ⟨RX3, "writeCycle", "(JI)I"⟩
abbrev cX3_addNumber : ByteArray := prog_5_method_11_code
def yX3_addNumber : MethodName := ⟨RX3, "addNumber", "(I)V"⟩
abbrev cX3_addSign : ByteArray := prog_5_method_12_code
def yX3_addSign : MethodName := ⟨RX3, "addSign", "(C)V"⟩
abbrev cX3_stateBehind : ByteArray := prog_5_method_13_code
def yX3_stateBehind : MethodName := ⟨RX3, "stateBehind", "(IC)I"⟩
abbrev cX3_stateBehindDigit : ByteArray := prog_5_method_14_code
def yX3_stateBehindDigit : MethodName := ⟨RX3, "stateBehindDigit", "(II)I"⟩
abbrev cX3_byteOf : ByteArray := prog_5_method_15_code
def yX3_byteOf : MethodName := ⟨RX3, "byteOf", "(JI)I"⟩
def RX4 : String := "StickerFoundry"
def TX4 : u_T := fun k => match k with
  | 0 => ("StickerFoundry", "text", "LStickerFoundry$Text;", true)
  | 1 => ("StickerFoundry", "chain", "LStickerFoundry$Chain;", true)
  | 2 => ("StickerFoundry", "ball", "LStickerFoundry$Ball;", true)
  | 3 => ("StickerFoundry", "moveRows", "[J", true)
  | 4 => ("StickerFoundry", "found", "[I", true)
  | 5 => ("StickerFoundry", "classes", "[I", true)
  | 6 => ("StickerFoundry", "stickerCount", "I", false)
  | 7 => ("StickerFoundry", "turnCount", "I", false)
  | 8 => ("StickerFoundry", "foundLength", "I", false)
  | 9 => ("StickerFoundry", "table", "J", false)
  | _ => ("StickerFoundry", "ballStands", "Z", false)
def tyX4 : Nat → FieldType := fun k => match k with
  | 0 => .object "StickerFoundry$Text"
  | 1 => .object "StickerFoundry$Chain"
  | 2 => .object "StickerFoundry$Ball"
  | 3 => .array .long
  | 4 => .array .int
  | 5 => .array .int
  | 6 => .int
  | 7 => .int
  | 8 => .int
  | 9 => .long
  | _ => .boolean
abbrev wsX40 : List Cond := u_ws RX4 TX4 11
theorem nmX4 : ∀ a, a < 11 → ∀ b, b < 11 → a ≠ b → (TX4 a).2.1 ≠ (TX4 b).2.1 := by decide +kernel
theorem tyX4_ok : ∀ k, k < 11 → parseFieldDescriptor (TX4 k).2.2.1 = some (tyX4 k) := by decide +kernel
abbrev cX4_init : ByteArray := prog_1_method_1_code
def yX4_init : MethodName := ⟨RX4, "<init>", "()V"⟩
abbrev cX4_stickers : ByteArray := prog_1_method_2_code
def yX4_stickers : MethodName := ⟨RX4, "stickers", "(I)Z"⟩
abbrev cX4_type : ByteArray := prog_1_method_3_code
def yX4_type : MethodName := ⟨RX4, "type", "(JI)Z"⟩
abbrev cX4_cut : ByteArray := prog_1_method_4_code
def yX4_cut : MethodName := ⟨RX4, "cut", "(I)Z"⟩
abbrev cX4_turn : ByteArray := prog_1_method_5_code
def yX4_turn : MethodName := ⟨RX4, "turn", "()I"⟩
abbrev cX4_turns : ByteArray := prog_1_method_6_code
def yX4_turns : MethodName := ⟨RX4, "turns", "()I"⟩
abbrev cX4_image : ByteArray := prog_1_method_7_code
def yX4_image : MethodName := ⟨RX4, "image", "(II)I"⟩
abbrev cX4_move : ByteArray := prog_1_method_8_code
def yX4_move : MethodName := ⟨RX4, "move", "(I)V"⟩
abbrev cX4_swap : ByteArray := prog_1_method_9_code
def yX4_swap : MethodName := ⟨RX4, "swap", "(II)V"⟩
abbrev cX4_reset : ByteArray := prog_1_method_10_code
def yX4_reset : MethodName := ⟨RX4, "reset", "()V"⟩
abbrev cX4_place : ByteArray := prog_1_method_11_code
def yX4_place : MethodName := ⟨RX4, "place", "(I)I"⟩
abbrev cX4_order : ByteArray := prog_1_method_12_code
def yX4_order : MethodName := ⟨RX4, "order", "()J"⟩
abbrev cX4_orbit : ByteArray := prog_1_method_13_code
def yX4_orbit : MethodName := ⟨RX4, "orbit", "(I)I"⟩
abbrev cX4_inOrbit : ByteArray := prog_1_method_14_code
def yX4_inOrbit : MethodName := ⟨RX4, "inOrbit", "(II)Z"⟩
abbrev cX4_reachable : ByteArray := prog_1_method_15_code
def yX4_reachable : MethodName := ⟨RX4, "reachable", "()Z"⟩
abbrev cX4_rank : ByteArray := prog_1_method_16_code
def yX4_rank : MethodName := ⟨RX4, "rank", "()J"⟩
abbrev cX4_unrank : ByteArray := prog_1_method_17_code
def yX4_unrank : MethodName := ⟨RX4, "unrank", "(J)V"⟩
abbrev cX4_block : ByteArray := prog_1_method_18_code
def yX4_block : MethodName := ⟨RX4, "block", "(II)I"⟩
abbrev cX4_diameter : ByteArray := prog_1_method_19_code
def yX4_diameter : MethodName := ⟨RX4, "diameter", "()I"⟩
abbrev cX4_atDistance : ByteArray := prog_1_method_20_code
def yX4_atDistance : MethodName := ⟨RX4, "atDistance", "(I)I"⟩
abbrev cX4_solve : ByteArray := prog_1_method_21_code
def yX4_solve : MethodName := ⟨RX4, "solve", "()I"⟩
abbrev cX4_solution : ByteArray := prog_1_method_22_code
def yX4_solution : MethodName := ⟨RX4, "solution", "(I)I"⟩
abbrev cX4_within : ByteArray := prog_1_method_23_code
def yX4_within : MethodName := ⟨RX4, "within", "(I)I"⟩
abbrev cX4_write : ByteArray := prog_1_method_24_code
def yX4_write : MethodName := ⟨RX4, "write", "(I)I"⟩
abbrev cX4_character : ByteArray := prog_1_method_25_code
def yX4_character : MethodName := ⟨RX4, "character", "(I)I"⟩
abbrev cX4_beginPuzzle : ByteArray := prog_1_method_26_code
def yX4_beginPuzzle : MethodName := ⟨RX4, "beginPuzzle", "(I)V"⟩
abbrev cX4_addTurn : ByteArray := prog_1_method_27_code
def yX4_addTurn : MethodName := ⟨RX4, "addTurn", "(J)I"⟩
abbrev cX4_requireTurn : ByteArray := prog_1_method_28_code
def yX4_requireTurn : MethodName := ⟨RX4, "requireTurn", "(I)V"⟩
abbrev cX4_requireSticker : ByteArray := prog_1_method_29_code
def yX4_requireSticker : MethodName := ⟨RX4, "requireSticker", "(I)V"⟩
abbrev cX4_requireFewArrangements : ByteArray := prog_1_method_30_code
def yX4_requireFewArrangements : MethodName := ⟨RX4, "requireFewArrangements", "()V"⟩
abbrev cX4_fillBall : ByteArray := prog_1_method_31_code
def yX4_fillBall : MethodName := ⟨RX4, "fillBall", "()V"⟩
abbrev cX4_findSolution : ByteArray := prog_1_method_32_code
def yX4_findSolution : MethodName := ⟨RX4, "findSolution", "(I)V"⟩
abbrev cX4_nearerMove : ByteArray := prog_1_method_33_code
def yX4_nearerMove : MethodName := ⟨RX4, "nearerMove", "(JI)I"⟩
abbrev cX4_leastFrom : ByteArray := prog_1_method_34_code
def yX4_leastFrom : MethodName := ⟨RX4, "leastFrom", "(LStickerFoundry$Ball;[JIJI)I"⟩
abbrev cX4_placesFrom : ByteArray := prog_1_method_35_code
def yX4_placesFrom : MethodName := ⟨RX4, "placesFrom", "(I)I"⟩
abbrev cX4_imagesOf : ByteArray := prog_1_method_36_code
def yX4_imagesOf : MethodName := ⟨RX4, "imagesOf", "(IJ)I"⟩
abbrev cX4_partClasses : ByteArray := prog_1_method_37_code
def yX4_partClasses : MethodName := ⟨RX4, "partClasses", "(II)V"⟩
abbrev cX4_carryClasses : ByteArray := prog_1_method_38_code
def yX4_carryClasses : MethodName := ⟨RX4, "carryClasses", "(J)Z"⟩
abbrev cX4_uniteClasses : ByteArray := prog_1_method_39_code
def yX4_uniteClasses : MethodName := ⟨RX4, "uniteClasses", "(II)Z"⟩
def RX5 : String := "StickerFoundryModel"
def TX5 : u_T := fun k => match k with
  | 0 => ("StickerFoundryModel", "thrown", "I", false)
  | 1 => ("StickerFoundryModel", "n", "I", false)
  | 2 => ("StickerFoundryModel", "turns", "I", false)
  | 3 => ("StickerFoundryModel", "turn", "[I", true)
  | 4 => ("StickerFoundryModel", "table", "[I", true)
  | 5 => ("StickerFoundryModel", "size", "I", false)
  | 6 => ("StickerFoundryModel", "text", "[I", true)
  | 7 => ("StickerFoundryModel", "ready", "Z", false)
  | 8 => ("StickerFoundryModel", "has", "[Z", true)
  | 9 => ("StickerFoundryModel", "rows", "[I", true)
  | 10 => ("StickerFoundryModel", "work", "[I", true)
  | 11 => ("StickerFoundryModel", "other", "[I", true)
  | 12 => ("StickerFoundryModel", "back", "[I", true)
  | 13 => ("StickerFoundryModel", "measured", "Z", false)
  | 14 => ("StickerFoundryModel", "far", "[I", true)
  | 15 => ("StickerFoundryModel", "queue", "[I", true)
  | 16 => ("StickerFoundryModel", "solved", "I", false)
  | 17 => ("StickerFoundryModel", "moves", "[I", true)
  | 18 => ("StickerFoundryModel", "cycle", "[I", true)
  | _ => ("StickerFoundryModel", "group", "[I", true)
def tyX5 : Nat → FieldType := fun k => match k with
  | 0 => .int
  | 1 => .int
  | 2 => .int
  | 3 => .array .int
  | 4 => .array .int
  | 5 => .int
  | 6 => .array .int
  | 7 => .boolean
  | 8 => .array .boolean
  | 9 => .array .int
  | 10 => .array .int
  | 11 => .array .int
  | 12 => .array .int
  | 13 => .boolean
  | 14 => .array .int
  | 15 => .array .int
  | 16 => .int
  | 17 => .array .int
  | 18 => .array .int
  | _ => .array .int
abbrev wsX50 : List Cond := u_ws RX5 TX5 20
theorem nmX5 : ∀ a, a < 20 → ∀ b, b < 20 → a ≠ b → (TX5 a).2.1 ≠ (TX5 b).2.1 := by decide +kernel
theorem tyX5_ok : ∀ k, k < 20 → parseFieldDescriptor (TX5 k).2.2.1 = some (tyX5 k) := by decide +kernel
abbrev cX5_init : ByteArray := prog_7_method_1_code
def yX5_init : MethodName := ⟨RX5, "<init>", "()V"⟩
abbrev cX5_thrown : ByteArray := prog_7_method_2_code
def yX5_thrown : MethodName := ⟨RX5, "thrown", "()I"⟩
abbrev cX5_fail : ByteArray := prog_7_method_3_code
def yX5_fail : MethodName := ⟨RX5, "fail", "(I)I"⟩
abbrev cX5_stickers : ByteArray := prog_7_method_4_code
def yX5_stickers : MethodName := ⟨RX5, "stickers", "(I)Z"⟩
abbrev cX5_type : ByteArray := prog_7_method_5_code
def yX5_type : MethodName := ⟨RX5, "type", "(JI)Z"⟩
abbrev cX5_cut : ByteArray := prog_7_method_6_code
def yX5_cut : MethodName := ⟨RX5, "cut", "(I)Z"⟩
abbrev cX5_skip : ByteArray := prog_7_method_7_code
def yX5_skip : MethodName := ⟨RX5, "skip", "(I)I"⟩
abbrev cX5_isDigit : ByteArray := prog_7_method_8_code
def yX5_isDigit : MethodName := ⟨RX5, "isDigit", "(I)Z"⟩
abbrev cX5_readCycles : ByteArray := prog_7_method_9_code
def yX5_readCycles : MethodName := ⟨RX5, "readCycles", "()I"⟩
abbrev cX5_turn : ByteArray := prog_7_method_10_code
def yX5_turn : MethodName := ⟨RX5, "turn", "()I"⟩
abbrev cX5_turns : ByteArray := prog_7_method_11_code
def yX5_turns : MethodName := ⟨RX5, "turns", "()I"⟩
abbrev cX5_isPlace : ByteArray := prog_7_method_12_code
def yX5_isPlace : MethodName := ⟨RX5, "isPlace", "(I)Z"⟩
abbrev cX5_image : ByteArray := prog_7_method_13_code
def yX5_image : MethodName := ⟨RX5, "image", "(II)I"⟩
abbrev cX5_taken : ByteArray := prog_7_method_14_code
def yX5_taken : MethodName := ⟨RX5, "taken", "(II)I"⟩
abbrev cX5_move : ByteArray := prog_7_method_15_code
def yX5_move : MethodName := ⟨RX5, "move", "(I)V"⟩
abbrev cX5_swap : ByteArray := prog_7_method_16_code
def yX5_swap : MethodName := ⟨RX5, "swap", "(II)V"⟩
abbrev cX5_reset : ByteArray := prog_7_method_17_code
def yX5_reset : MethodName := ⟨RX5, "reset", "()V"⟩
abbrev cX5_place : ByteArray := prog_7_method_18_code
def yX5_place : MethodName := ⟨RX5, "place", "(I)I"⟩
abbrev cX5_behind : ByteArray := prog_7_method_19_code
def yX5_behind : MethodName := ⟨RX5, "behind", "(II)V"⟩
abbrev cX5_sift : ByteArray := prog_7_method_20_code
def yX5_sift : MethodName := ⟨RX5, "sift", "()Z"⟩
abbrev cX5_takeOff : ByteArray := prog_7_method_21_code
def yX5_takeOff : MethodName := ⟨RX5, "takeOff", "(I)V"⟩
abbrev cX5_findRows : ByteArray := prog_7_method_22_code
def yX5_findRows : MethodName := ⟨RX5, "findRows", "()V"⟩
abbrev cX5_orbitOf : ByteArray := prog_7_method_23_code
def yX5_orbitOf : MethodName := ⟨RX5, "orbitOf", "(I)I"⟩
abbrev cX5_orderFrom : ByteArray := prog_7_method_24_code
def yX5_orderFrom : MethodName := ⟨RX5, "orderFrom", "(I)J"⟩
abbrev cX5_order : ByteArray := prog_7_method_25_code
def yX5_order : MethodName := ⟨RX5, "order", "()J"⟩
abbrev cX5_orbit : ByteArray := prog_7_method_26_code
def yX5_orbit : MethodName := ⟨RX5, "orbit", "(I)I"⟩
abbrev cX5_inOrbit : ByteArray := prog_7_method_27_code
def yX5_inOrbit : MethodName := ⟨RX5, "inOrbit", "(II)Z"⟩
abbrev cX5_rankOf : ByteArray := prog_7_method_28_code
def yX5_rankOf : MethodName := ⟨RX5, "rankOf", "()J"⟩
abbrev cX5_advance : ByteArray := prog_7_method_29_code
def yX5_advance : MethodName := ⟨RX5, "advance", "(I)V"⟩
abbrev cX5_takeTable : ByteArray := prog_7_method_30_code
def yX5_takeTable : MethodName := ⟨RX5, "takeTable", "()V"⟩
abbrev cX5_find : ByteArray := prog_7_method_31_code
def yX5_find : MethodName := ⟨RX5, "find", "(J)V"⟩
abbrev cX5_reachable : ByteArray := prog_7_method_32_code
def yX5_reachable : MethodName := ⟨RX5, "reachable", "()Z"⟩
abbrev cX5_rank : ByteArray := prog_7_method_33_code
def yX5_rank : MethodName := ⟨RX5, "rank", "()J"⟩
abbrev cX5_unrank : ByteArray := prog_7_method_34_code
def yX5_unrank : MethodName := ⟨RX5, "unrank", "(J)V"⟩
abbrev cX5_block : ByteArray := prog_7_method_35_code
def yX5_block : MethodName := ⟨RX5, "block", "(II)I"⟩
abbrev cX5_join : ByteArray := prog_7_method_36_code
def yX5_join : MethodName := ⟨RX5, "join", "(II)V"⟩
abbrev cX5_measure : ByteArray := prog_7_method_37_code
def yX5_measure : MethodName := ⟨RX5, "measure", "()V"⟩
abbrev cX5_moved : ByteArray := prog_7_method_38_code
def yX5_moved : MethodName := ⟨RX5, "moved", "(II)I"⟩
abbrev cX5_areFew : ByteArray := prog_7_method_39_code
def yX5_areFew : MethodName := ⟨RX5, "areFew", "()Z"⟩
abbrev cX5_diameter : ByteArray := prog_7_method_40_code
def yX5_diameter : MethodName := ⟨RX5, "diameter", "()I"⟩
abbrev cX5_atDistance : ByteArray := prog_7_method_41_code
def yX5_atDistance : MethodName := ⟨RX5, "atDistance", "(I)I"⟩
abbrev cX5_solve : ByteArray := prog_7_method_42_code
def yX5_solve : MethodName := ⟨RX5, "solve", "()I"⟩
abbrev cX5_solution : ByteArray := prog_7_method_43_code
def yX5_solution : MethodName := ⟨RX5, "solution", "(I)I"⟩
abbrev cX5_within : ByteArray := prog_7_method_44_code
def yX5_within : MethodName := ⟨RX5, "within", "(I)I"⟩
abbrev cX5_solves : ByteArray := prog_7_method_45_code
def yX5_solves : MethodName := ⟨RX5, "solves", "(II)Z"⟩
abbrev cX5_say : ByteArray := prog_7_method_46_code
def yX5_say : MethodName := ⟨RX5, "say", "(I)V"⟩
abbrev cX5_sayNumber : ByteArray := prog_7_method_47_code
def yX5_sayNumber : MethodName := ⟨RX5, "sayNumber", "(I)V"⟩
abbrev cX5_write : ByteArray := prog_7_method_48_code
def yX5_write : MethodName := ⟨RX5, "write", "(I)I"⟩
abbrev cX5_character : ByteArray := prog_7_method_49_code
def yX5_character : MethodName := ⟨RX5, "character", "(I)I"⟩
def RJx145de : String := "java/io/Serializable"
def TJx145de : u_T := fun k => match k with
  | _ => ("", "", "", false)
def tyJx145de : Nat → FieldType := fun k => match k with
  | _ => .int
abbrev wsJx145de0 : List Cond := u_ws RJx145de TJx145de 0
theorem nmJx145de : ∀ a, a < 0 → ∀ b, b < 0 → a ≠ b → (TJx145de a).2.1 ≠ (TJx145de b).2.1 := by decide +kernel
theorem tyJx145de_ok : ∀ k, k < 0 → parseFieldDescriptor (TJx145de k).2.2.1 = some (tyJx145de k) := by decide +kernel
def RJ6 : String := "java/lang/Integer"
def TJ6 : u_T := fun k => match k with
  | _ => ("", "", "", false)
def tyJ6 : Nat → FieldType := fun k => match k with
  | _ => .int
abbrev wsJ60 : List Cond := u_ws RJ6 TJ6 0
theorem nmJ6 : ∀ a, a < 0 → ∀ b, b < 0 → a ≠ b → (TJ6 a).2.1 ≠ (TJ6 b).2.1 := by decide +kernel
theorem tyJ6_ok : ∀ k, k < 0 → parseFieldDescriptor (TJ6 k).2.2.1 = some (tyJ6 k) := by decide +kernel
abbrev cJ6_numberOfTrailingZeros_0f7a4 : ByteArray := prog_13_method_48_code
def yJ6_numberOfTrailingZeros_0f7a4 : MethodName := ⟨RJ6, "numberOfTrailingZeros", "(I)I"⟩
def RJ9 : String := "java/lang/Math"
def TJ9 : u_T := fun k => match k with
  | _ => ("", "", "", false)
def tyJ9 : Nat → FieldType := fun k => match k with
  | _ => .int
abbrev wsJ90 : List Cond := u_ws RJ9 TJ9 0
theorem nmJ9 : ∀ a, a < 0 → ∀ b, b < 0 → a ≠ b → (TJ9 a).2.1 ≠ (TJ9 b).2.1 := by decide +kernel
theorem tyJ9_ok : ∀ k, k < 0 → parseFieldDescriptor (TJ9 k).2.2.1 = some (tyJ9 k) := by decide +kernel
abbrev cJ9_max_7cf53 : ByteArray := prog_14_method_65_code
def yJ9_max_7cf53 : MethodName := ⟨RJ9, "max", "(II)I"⟩
abbrev cJ9_min_7cf53 : ByteArray := prog_14_method_69_code
def yJ9_min_7cf53 : MethodName := ⟨RJ9, "min", "(II)I"⟩
def RJ0 : String := "java/lang/String"
def TJ0 : u_T := fun k => match k with
  | _ => ("", "", "", false)
def tyJ0 : Nat → FieldType := fun k => match k with
  | _ => .int
abbrev wsJ00 : List Cond := u_ws RJ0 TJ0 0
theorem nmJ0 : ∀ a, a < 0 → ∀ b, b < 0 → a ≠ b → (TJ0 a).2.1 ≠ (TJ0 b).2.1 := by decide +kernel
theorem tyJ0_ok : ∀ k, k < 0 → parseFieldDescriptor (TJ0 k).2.2.1 = some (tyJ0 k) := by decide +kernel
def RJ7 : String := "java/util/Arrays"
def TJ7 : u_T := fun k => match k with
  | _ => ("", "", "", false)
def tyJ7 : Nat → FieldType := fun k => match k with
  | _ => .int
abbrev wsJ70 : List Cond := u_ws RJ7 TJ7 0
theorem nmJ7 : ∀ a, a < 0 → ∀ b, b < 0 → a ≠ b → (TJ7 a).2.1 ≠ (TJ7 b).2.1 := by decide +kernel
theorem tyJ7_ok : ∀ k, k < 0 → parseFieldDescriptor (TJ7 k).2.2.1 = some (tyJ7 k) := by decide +kernel
abbrev cJ7_fill_d0a16 : ByteArray := prog_19_method_101_code
def yJ7_fill_d0a16 : MethodName := ⟨RJ7, "fill", "([JJ)V"⟩
abbrev cJ7_fill_53178 : ByteArray := prog_19_method_103_code
def yJ7_fill_53178 : MethodName := ⟨RJ7, "fill", "([II)V"⟩
def RL : String := "StickerFoundryLaw"
abbrev cL_turn : ByteArray := method_3_code
def yL_turn : MethodName := ⟨RL, "turn", "(LStickerFoundry;[J)I"⟩
abbrev cL_image : ByteArray := method_4_code
def yL_image : MethodName := ⟨RL, "image", "(LStickerFoundry;II[J)I"⟩
abbrev cL_move : ByteArray := method_5_code
def yL_move : MethodName := ⟨RL, "move", "(LStickerFoundry;I)I"⟩
abbrev cL_swap : ByteArray := method_6_code
def yL_swap : MethodName := ⟨RL, "swap", "(LStickerFoundry;II)I"⟩
abbrev cL_place : ByteArray := method_7_code
def yL_place : MethodName := ⟨RL, "place", "(LStickerFoundry;I[J)I"⟩
abbrev cL_orbit : ByteArray := method_8_code
def yL_orbit : MethodName := ⟨RL, "orbit", "(LStickerFoundry;I[J)I"⟩
abbrev cL_inOrbit : ByteArray := method_9_code
def yL_inOrbit : MethodName := ⟨RL, "inOrbit", "(LStickerFoundry;II[J)I"⟩
abbrev cL_rank : ByteArray := method_10_code
def yL_rank : MethodName := ⟨RL, "rank", "(LStickerFoundry;[J)I"⟩
abbrev cL_unrank : ByteArray := method_11_code
def yL_unrank : MethodName := ⟨RL, "unrank", "(LStickerFoundry;J)I"⟩
abbrev cL_block : ByteArray := method_12_code
def yL_block : MethodName := ⟨RL, "block", "(LStickerFoundry;II[J)I"⟩
abbrev cL_diameter : ByteArray := method_13_code
def yL_diameter : MethodName := ⟨RL, "diameter", "(LStickerFoundry;[J)I"⟩
abbrev cL_atDistance : ByteArray := method_14_code
def yL_atDistance : MethodName := ⟨RL, "atDistance", "(LStickerFoundry;I[J)I"⟩
abbrev cL_solve : ByteArray := method_15_code
def yL_solve : MethodName := ⟨RL, "solve", "(LStickerFoundry;[J)I"⟩
abbrev cL_within : ByteArray := method_16_code
def yL_within : MethodName := ⟨RL, "within", "(LStickerFoundry;I[J)I"⟩
abbrev cL_write : ByteArray := method_17_code
def yL_write : MethodName := ⟨RL, "write", "(LStickerFoundry;I[J)I"⟩
abbrev cL_law : ByteArray := code
def yL_law : MethodName := ⟨RL, "law", "([I)Z"⟩
abbrev vwCl : List vw_C := [(RX0, TX0, 4), (RX1, TX1, 6), (RX3, TX3, 6), (RX4, TX4, 11), (RX5, TX5, 20)]
theorem inX0 : ∀ w ∈ wsX00, w ∈ lw_tbl := by decide +kernel
theorem inX1 : ∀ w ∈ wsX10, w ∈ lw_tbl := by decide +kernel
theorem inX3 : ∀ w ∈ wsX30, w ∈ lw_tbl := by decide +kernel
theorem inX4 : ∀ w ∈ wsX40, w ∈ lw_tbl := by decide +kernel
theorem inX5 : ∀ w ∈ wsX50, w ∈ lw_tbl := by decide +kernel
/-- the texts of the throws -/
def strsL : List (Nat × String) := [(59, "the text is not in cycles"), (73, "a number is no place"), (81, "a place is there twice"), (89, "there are five turns"), (112, "there is no such move"), (144, "the arrangement is not reachable"), (152, "there is no such rank"), (189, "the limit is not 0 .. 4"), (218, "there is no such turn"), (220, "there is no such sticker or place"), (224, "more than 1500 arrangements are reachable")]
end
section
/-! values and worlds of the abstract machine: a reference is a kind of cell (vR), a row of a family (vQ), or an address that no world holds (vO) -/
abbrev AV : Type := Int32 ⊕ (Int64 ⊕ (Nat ⊕ ((Nat × Nat) ⊕ Nat)))
abbrev vI (x : Int32) : AV := .inl x
abbrev vJ (x : Int64) : AV := .inr (.inl x)
abbrev vR (k : Nat) : AV := .inr (.inr (.inl k))
abbrev vQ (k n : Nat) : AV := .inr (.inr (.inr (.inl (k, n))))
abbrev vO (a : Nat) : AV := .inr (.inr (.inr (.inr a)))
abbrev Wd : Type := (Nat → Nat → Nat → Int32) × (Nat → Nat → Nat → Int64)
/-- the addresses, the tables' numbers, the array classes by tag, the cells that are there -/
abbrev En : Type := (Nat → Nat → Nat) × va_G × (Nat → ClassId) × List (Nat × Nat)
abbrev eA (E : En) : Nat → Nat → Nat := E.1
abbrev eD (E : En) : va_G := E.2.1
abbrev eC (E : En) : Nat → ClassId := E.2.2.1
abbrev eI (E : En) : List (Nat × Nat) := E.2.2.2
/-- the kinds: (0, class, 0) object; (1, n, 0) int[n]; (2, n, 0) long[n]; (3, n, 0) char[n]; (4, n, 0) boolean[n]; (5, n, b) int[n][], rows of kind b; (6, n, b) long[n][] -/
def shpL : List (Nat × Nat × Nat) :=
  [(0, 3, 0), (0, 2, 0), (0, 1, 0), (0, 0, 0), (2, 10, 0), (1, 1500, 0), (1, 12, 0), (3, 48, 0), (1, 48, 0), (1, 48, 0),
   (2, 1500, 0), (1, 1500, 0), (1, 4096, 0), (6, 12, 14), (2, 16, 0), (6, 12, 16), (2, 12, 0), (6, 12, 18), (2, 12, 0), (5, 12, 20),
   (1, 12, 0), (1, 12, 0), (1, 12, 0), (9, 0, 0), (9, 0, 0), (9, 0, 0), (9, 0, 0), (9, 0, 0), (9, 0, 0), (9, 0, 0),
   (0, 4, 0), (1, 120, 0), (1, 12, 0), (1, 60, 0), (4, 144, 0), (1, 1728, 0), (1, 12, 0), (1, 12, 0), (1, 12, 0), (1, 1500, 0),
   (1, 1500, 0), (1, 1500, 0), (1, 12, 0), (1, 12, 0), (9, 0, 0), (9, 0, 0), (9, 0, 0), (9, 0, 0), (9, 0, 0), (9, 0, 0),
   (2, 1, 0)]
def shp (k : Nat) : Nat × Nat × Nat := shpL.getD k (9, 0, 0)
/-- the fields of the classes, by their slots: 0 int, 1 boolean, 2 long, k + 3 a reference to the cell of kind k -/
def ftL : List (List Nat) :=
  [[13, 14, 15, 0], [16, 18, 20, 22, 24, 25], [10, 11, 12, 0, 0, 0], [4, 5, 6, 7, 8, 9, 0, 0, 0, 2, 1],
   [0, 0, 0, 34, 35, 0, 36, 1, 37, 38, 39, 40, 41, 1, 42, 43, 0, 44, 45, 46]]
def ftc (cl f : Nat) : Nat := (ftL.getD cl []).getD f 0
def nfl (cl : Nat) : Nat := (ftL.getD cl []).length
/-- how many cells a kind has -/
def cnt (k : Nat) : Nat := if k = 14 ∨ k = 16 ∨ k = 18 ∨ k = 20 then 12 else if (shp k).1 = 9 then 0 else 1
def cv (E : En) : AV → Value
  | .inl x => .int x
  | .inr (.inl x) => .long x
  | .inr (.inr (.inl k)) => .ref (eA E k 0)
  | .inr (.inr (.inr (.inl q))) => .ref (eA E q.1 q.2)
  | .inr (.inr (.inr (.inr a))) => .ref a
def fval (E : En) (w : Wd) (k i cl f : Nat) : Value := match ftc cl f with
  | 0 => .int (w.1 k i f)
  | 1 => .int (w.1 k i f)
  | 2 => .long (w.2 k i f)
  | t + 3 => .ref (eA E t 0)
def wcell (E : En) (w : Wd) (k i : Nat) : va_E := match shp k with
  | (0, n, _) => .inr (n, (List.range (nfl n)).map (fval E w k i n))
  | (1, n, _) => .inl (eC E 1, n, .inl (w.1 k i))
  | (2, n, _) => .inl (eC E 2, n, .inr (.inl (w.2 k i)))
  | (3, n, _) => .inl (eC E 3, n, .inl (w.1 k i))
  | (4, n, _) => .inl (eC E 4, n, .inl (w.1 k i))
  | (5, n, b) => .inl (eC E 5, n, .inr (.inr (.inr (.inr (fun j => if j < n then some (eA E b j) else none)))))
  | (_, n, b) => .inl (eC E 6, n, .inr (.inr (.inr (.inr (fun j => if j < n then some (eA E b j) else none)))))
def wl (E : En) (w : Wd) : va_W := (eI E).map (fun q => (eA E q.1 q.2, wcell E w q.1 q.2))
def tysE (E : En) : List (ClassId × FieldType) := [(eC E 1, .int), (eC E 2, .long), (eC E 3, .char), (eC E 4, .boolean), (eC E 5, .array .int), (eC E 6, .array .long)]
def wI (w : Wd) (k i j : Nat) (x : Int32) : Wd := (fun a b => if a = k ∧ b = i then upd (w.1 k i) j x else w.1 a b, w.2)
def wJ (w : Wd) (k i j : Nat) (x : Int64) : Wd := (w.1, fun a b => if a = k ∧ b = i then vp_updL (w.2 k i) j x else w.2 a b)
/-- the cells are apart -/
def eOK (E : En) : Prop := (eI E).Nodup
theorem wl_pos {E : En} {w : Wd} {k i : Nat} (h : (k, i) ∈ eI E) : ∃ q0 : Nat, (eI E)[q0]? = some (k, i) ∧ (wl E w)[q0]? = some (eA E k i, wcell E w k i) := by
  obtain ⟨q0, hq⟩ := List.getElem?_of_mem h
  exact ⟨q0, hq, by simp [wl, hq]⟩
theorem wl_set {E : En} {w w' : Wd} {k i q0 : Nat} (hn : eOK E) (hq : (eI E)[q0]? = some (k, i)) (ho : ∀ a b : Nat, ¬ (a = k ∧ b = i) → wcell E w' a b = wcell E w a b) :
    (wl E w).set q0 (eA E k i, wcell E w' k i) = wl E w' := by
  apply List.ext_getElem?
  intro j
  by_cases hj : j = q0
  · subst hj
    have hl : j < (eI E).length := (List.getElem?_eq_some_iff.mp hq).1
    rw [List.getElem?_set_self (by simp [wl]; exact hl)]
    simp [wl, hq]
  · rw [List.getElem?_set_ne (Ne.symm hj)]
    simp only [wl, List.getElem?_map]
    cases hc : (eI E)[j]? with
    | none => rfl
    | some q =>
      simp only [Option.map_some]
      rw [ho q.1 q.2 (fun z => hj ?_)]
      have he : (eI E)[j]? = (eI E)[q0]? := by rw [hc, hq]; obtain ⟨a, b⟩ := q; obtain ⟨rfl, rfl⟩ := z; rfl
      have hl : j < (eI E).length := (List.getElem?_eq_some_iff.mp hc).1
      exact (List.getElem?_inj hl hn).mp he
theorem wI_other {E : En} {w : Wd} {k i j : Nat} {x : Int32} : ∀ a b : Nat, ¬ (a = k ∧ b = i) → wcell E (wI w k i j x) a b = wcell E w a b := by
  intro a b h
  have h1 : (wI w k i j x).1 a b = w.1 a b := if_neg h
  have h3 : ∀ cl, fval E (wI w k i j x) a b cl = fval E w a b cl := by
    intro cl; funext f
    unfold fval
    rw [h1]
    rfl
  unfold wcell
  simp only [h3]
  rw [h1]
  rfl
theorem wJ_other {E : En} {w : Wd} {k i j : Nat} {x : Int64} : ∀ a b : Nat, ¬ (a = k ∧ b = i) → wcell E (wJ w k i j x) a b = wcell E w a b := by
  intro a b h
  have h1 : (wJ w k i j x).2 a b = w.2 a b := if_neg h
  have h3 : ∀ cl, fval E (wJ w k i j x) a b cl = fval E w a b cl := by
    intro cl; funext f
    unfold fval
    rw [h1]
    rfl
  unfold wcell
  simp only [h3]
  rw [h1]
  rfl
theorem wI_at (w : Wd) (k i j : Nat) (x : Int32) : (wI w k i j x).1 k i = upd (w.1 k i) j x := if_pos ⟨rfl, rfl⟩
theorem wJ_at (w : Wd) (k i j : Nat) (x : Int64) : (wJ w k i j x).2 k i = vp_updL (w.2 k i) j x := if_pos ⟨rfl, rfl⟩
theorem fval_setI {E : En} {w : Wd} {k i cl f : Nat} {x : Int32} (hf : ftc cl f = 0 ∨ ftc cl f = 1) (hl : f < nfl cl) :
    ((List.range (nfl cl)).map (fval E w k i cl)).set f (.int x) = (List.range (nfl cl)).map (fval E (wI w k i f x) k i cl) := by
  apply List.ext_getElem?
  intro j
  by_cases hj : j = f
  · subst hj
    rw [List.getElem?_set_self (by simp; exact hl)]
    simp only [List.getElem?_map, List.getElem?_range hl, Option.map_some]
    unfold fval
    rw [wI_at]
    rcases hf with h | h <;> simp [h, upd]
  · rw [List.getElem?_set_ne (Ne.symm hj)]
    simp only [List.getElem?_map]
    by_cases hr : j < nfl cl
    · simp only [List.getElem?_range hr, Option.map_some]
      unfold fval
      rw [wI_at]
      simp only [upd, if_neg hj]
      rfl
    · simp [List.getElem?_eq_none (by simp; omega : (List.range (nfl cl)).length ≤ j)]
theorem fval_setJ {E : En} {w : Wd} {k i cl f : Nat} {x : Int64} (hf : ftc cl f = 2) (hl : f < nfl cl) :
    ((List.range (nfl cl)).map (fval E w k i cl)).set f (.long x) = (List.range (nfl cl)).map (fval E (wJ w k i f x) k i cl) := by
  apply List.ext_getElem?
  intro j
  by_cases hj : j = f
  · subst hj
    rw [List.getElem?_set_self (by simp; exact hl)]
    simp only [List.getElem?_map, List.getElem?_range hl, Option.map_some]
    unfold fval
    rw [wJ_at]
    simp [hf, vp_updL]
  · rw [List.getElem?_set_ne (Ne.symm hj)]
    simp only [List.getElem?_map]
    by_cases hr : j < nfl cl
    · simp only [List.getElem?_range hr, Option.map_some]
      unfold fval
      rw [wJ_at]
      simp only [vp_updL, if_neg hj]
      rfl
    · simp [List.getElem?_eq_none (by simp; omega : (List.range (nfl cl)).length ≤ j)]
/-! locals: a place each, none where nothing is known -/
def isJ (v : AV) : Bool := match v with
  | .inr (.inl _) => true
  | _ => false
def LR (E : En) (nL : Nat) (ls : Array Slot) (L : List (Option AV)) : Prop := ls.size = nL ∧ lv_wf ls ∧ ∀ (i : Nat) (v : AV), L[i]? = some (some v) → ls[i]? = some (.val (cv E v))
def lvl (E : En) (L : List (Option AV)) : List (Nat × Value) := (List.range L.length).filterMap (fun i => match L[i]? with
  | some (some v) => some (i, cv E v)
  | _ => none)
theorem lvl_mem {E : En} {L : List (Option AV)} {i : Nat} {x : Value} : (i, x) ∈ lvl E L ↔ ∃ v, L[i]? = some (some v) ∧ x = cv E v := by
  unfold lvl
  rw [List.mem_filterMap]
  constructor
  · rintro ⟨j, -, h⟩
    split at h
    · rename_i v hv
      cases h
      exact ⟨v, hv, rfl⟩
    · cases h
  · rintro ⟨v, hv, rfl⟩
    exact ⟨i, List.mem_range.mpr (List.getElem?_eq_some_iff.mp hv).1, by simp [hv]⟩
theorem LR.has {E : En} {nL : Nat} {ls : Array Slot} {L : List (Option AV)} (h : LR E nL ls L) : lv_has ls nL (lvl E L) := by
  refine ⟨h.1, h.2.1, fun q hq => ?_⟩
  obtain ⟨i, x⟩ := q
  obtain ⟨v, hv, rfl⟩ := lvl_mem.mp hq
  exact h.2.2 i v hv
def drL (L : List (Option AV)) : Nat → List (Option AV)
  | 0 => L
  | j + 1 => match L[j]? with
    | some (some (.inr (.inl _))) => L.set j none
    | _ => L
def crL (L : List (Option AV)) (i : Nat) : Bool → List (Option AV)
  | true => L.set i none
  | false => L
def stL (L : List (Option AV)) (i : Nat) (v : AV) : List (Option AV) := (crL (drL L i) (i + 1) (isJ v)).set i (some v)
theorem cv_cat (E : En) (v : AV) : (cv E v).category = 2 ↔ isJ v = true := by
  rcases v with x | x | x | x | x <;> simp [cv, isJ, Value.category]
theorem set_mem {L : List (Option AV)} {i j : Nat} {o : Option AV} {u : AV} (h : (L.set i o)[j]? = some (some u)) : (j = i ∧ o = some u) ∨ (j ≠ i ∧ L[j]? = some (some u)) := by
  by_cases hj : j = i
  · subst hj
    have hl : j < (L.set j o).length := (List.getElem?_eq_some_iff.mp h).1
    rw [List.length_set] at hl
    rw [List.getElem?_set_self hl] at h
    exact Or.inl ⟨rfl, Option.some.inj h⟩
  · rw [List.getElem?_set_ne (Ne.symm hj)] at h
    exact Or.inr ⟨hj, h⟩
theorem drL_mem {L : List (Option AV)} {i j : Nat} {u : AV} (h : (drL L i)[j]? = some (some u)) : L[j]? = some (some u) ∧ ¬ (j + 1 = i ∧ isJ u = true) := by
  cases i with
  | zero => exact ⟨h, fun z => by omega⟩
  | succ i =>
    simp only [drL] at h
    split at h
    · rename_i x hx
      rcases set_mem h with ⟨-, h2⟩ | ⟨h1, h2⟩
      · cases h2
      · exact ⟨h2, fun z => h1 (by omega)⟩
    · rename_i hno
      refine ⟨h, fun z => ?_⟩
      have e2 : j = i := by omega
      subst e2
      rcases u with x | x | x
      · simp [isJ] at z
      · exact hno x h
      · simp [isJ] at z
theorem crL_mem {L : List (Option AV)} {i j : Nat} {b : Bool} {u : AV} (h : (crL L i b)[j]? = some (some u)) : L[j]? = some (some u) ∧ (b = true → j ≠ i) := by
  cases b with
  | false => exact ⟨h, fun z => by cases z⟩
  | true =>
    rcases set_mem h with ⟨-, h2⟩ | ⟨h1, h2⟩
    · cases h2
    · exact ⟨h2, fun _ => h1⟩
theorem stL_mem {L : List (Option AV)} {i : Nat} {v : AV} {j : Nat} {u : AV} (h : (stL L i v)[j]? = some (some u)) :
    (j = i ∧ u = v) ∨ (j ≠ i ∧ L[j]? = some (some u) ∧ (isJ v = true → j ≠ i + 1) ∧ ¬ (j + 1 = i ∧ isJ u = true)) := by
  rcases set_mem h with ⟨h1, h2⟩ | ⟨h1, h2⟩
  · exact Or.inl ⟨h1, (Option.some.inj h2).symm⟩
  · obtain ⟨h3, h4⟩ := crL_mem h2
    obtain ⟨h5, h6⟩ := drL_mem h3
    exact Or.inr ⟨h1, h5, h4, h6⟩
theorem LR.store1 {E : En} {nL : Nat} {ls : Array Slot} {L : List (Option AV)} {i : Nat} {v : AV} (hv : isJ v = false) (h : lv_has ls nL ((i, cv E v) :: (lvl E L).filter (fun q => !(q.1 == i) && !(q.1 + 1 == i && q.2.category == 2)))) : LR E nL ls (stL L i v) := by
  refine ⟨h.1, h.2.1, fun j u hu => ?_⟩
  rcases stL_mem hu with ⟨rfl, rfl⟩ | ⟨h1, h2, h3, h4⟩
  · exact h.2.2 (j, cv E u) List.mem_cons_self
  · refine h.2.2 (j, cv E u) (List.mem_cons_of_mem _ (List.mem_filter.mpr ⟨lvl_mem.mpr ⟨u, h2, rfl⟩, ?_⟩))
    have h5 : ¬ (j + 1 = i ∧ (cv E u).category = 2) := fun z => h4 ⟨z.1, (cv_cat E u).mp z.2⟩
    simp only [Bool.and_eq_true, Bool.not_eq_true', beq_eq_false_iff_ne, ne_eq, Bool.and_eq_false_iff]
    refine ⟨h1, ?_⟩
    by_cases e2 : j + 1 = i
    · exact Or.inr (fun z => h5 ⟨e2, z⟩)
    · exact Or.inl e2
theorem LR.store2 {E : En} {nL : Nat} {ls : Array Slot} {L : List (Option AV)} {i : Nat} {v : AV} (hv : isJ v = true) (h : lv_has ls nL ((i, cv E v) :: (lvl E L).filter (fun q => !(q.1 == i) && (!(q.1 == i + 1) && !(q.1 + 1 == i && q.2.category == 2))))) : LR E nL ls (stL L i v) := by
  refine ⟨h.1, h.2.1, fun j u hu => ?_⟩
  rcases stL_mem hu with ⟨rfl, rfl⟩ | ⟨h1, h2, h3, h4⟩
  · exact h.2.2 (j, cv E u) List.mem_cons_self
  · refine h.2.2 (j, cv E u) (List.mem_cons_of_mem _ (List.mem_filter.mpr ⟨lvl_mem.mpr ⟨u, h2, rfl⟩, ?_⟩))
    have h5 : ¬ (j + 1 = i ∧ (cv E u).category = 2) := fun z => h4 ⟨z.1, (cv_cat E u).mp z.2⟩
    simp only [Bool.and_eq_true, Bool.not_eq_true', beq_eq_false_iff_ne, ne_eq, Bool.and_eq_false_iff]
    refine ⟨h1, h3 hv, ?_⟩
    by_cases e2 : j + 1 = i
    · exact Or.inr (fun z => h5 ⟨e2, z⟩)
    · exact Or.inl e2
/-- the locals at a method's entry -/
def enL : List AV → List (Option AV)
  | [] => []
  | v :: vs => match isJ v with
    | true => some v :: none :: enL vs
    | false => some v :: enL vs
theorem enL_mem (E : En) : ∀ (vs : List AV) (b j : Nat) (u : AV), (enL vs)[j]? = some (some u) → (b + j, cv E u) ∈ lv_args b (vs.map (cv E))
  | [], b, j, u, h => by simp [enL] at h
  | v :: vs, b, j, u, h => by
    have ih := enL_mem E vs
    simp only [List.map_cons, lv_args]
    unfold enL at h
    cases hv : isJ v with
    | true =>
      rw [hv] at h
      rw [if_pos ((cv_cat E v).mpr hv)]
      match j, h with
      | 0, h => cases h; exact List.mem_cons_self
      | 1, h => cases h
      | j + 2, h =>
        refine List.mem_cons_of_mem _ ?_
        have := ih (b + 2) j u h
        rwa [show b + 2 + j = b + (j + 2) by omega] at this
    | false =>
      rw [hv] at h
      rw [if_neg (fun z => by rw [(cv_cat E v).mp z] at hv; cases hv)]
      match j, h with
      | 0, h => cases h; exact List.mem_cons_self
      | j + 1, h =>
        refine List.mem_cons_of_mem _ ?_
        have := ih (b + 1) j u h
        rwa [show b + 1 + j = b + (j + 1) by omega] at this
def padL (n : Nat) (L : List (Option AV)) : List (Option AV) := L ++ List.replicate (n - L.length) none
theorem enL_len (E : En) : ∀ vs : List AV, (enL vs).length = (lg_sl (vs.map (cv E))).length
  | [] => rfl
  | v :: vs => by
    have ih := enL_len E vs
    unfold enL
    simp only [List.map_cons, lg_sl, List.flatMap_cons, List.length_append]
    unfold lg_sl at ih
    cases hv : isJ v with
    | true => simp only [List.length_cons, ih, if_pos ((cv_cat E v).mpr hv), List.length_nil]; omega
    | false => simp only [List.length_cons, ih, if_neg (fun z => by rw [(cv_cat E v).mp z] at hv; cases hv), List.length_nil]; omega
theorem LR.entry (E : En) (vs : List AV) {n : Nat} (h : (enL vs).length ≤ n) : LR E n ((lg_sl (vs.map (cv E)) ++ List.replicate (n - (lg_sl (vs.map (cv E))).length) Slot.unset).toArray) (padL n (enL vs)) := by
  have h0 := lv_entry (vs.map (cv E)) (n := n) (by rw [← enL_len E vs]; exact h)
  refine ⟨h0.1, h0.2.1, fun i v hv => ?_⟩
  refine h0.2.2 (i, cv E v) ?_
  have hj : (enL vs)[i]? = some (some v) := by
    unfold padL at hv
    by_cases hi : i < (enL vs).length
    · rwa [List.getElem?_append_left hi] at hv
    · rw [List.getElem?_append_right (by omega)] at hv
      have := List.mem_of_getElem? hv
      rw [List.mem_replicate] at this
      cases this.2
  have := enL_mem E vs 0 i v hj
  rwa [Nat.zero_add] at this
/-- nothing is lost where less is known -/
def lesL : List (Option AV) → List Bool → List (Option AV)
  | [], _ => []
  | a :: L, [] => a :: L
  | a :: L, b :: bs => (match b with | true => a | false => none) :: lesL L bs
theorem lesL_mem : ∀ (L : List (Option AV)) (bs : List Bool) (i : Nat) (v : AV), (lesL L bs)[i]? = some (some v) → L[i]? = some (some v)
  | [], _, i, v, h => by simp [lesL] at h
  | a :: L, [], i, v, h => h
  | a :: L, b :: bs, 0, v, h => by
    cases b
    · cases h
    · exact h
  | a :: L, b :: bs, i + 1, v, h => lesL_mem L bs i v h
end
section
/-! the abstract machine's step, backwards: what must hold ahead of an instruction so that V holds there -/
abbrev Hh : Type := List (Nat × Nat × Nat × Nat)
/-- a method: name, code, locals, answer's type, arguments (without the object), the object's class, handlers -/
abbrev MI : Type := MethodName × ByteArray × Nat × Option FieldType × Nat × Nat × Hh
/-- a class's own tables: name, fields, long constants, int constants, calls -/
abbrev OT : Type := String × List (Nat × Nat × Nat) × List (Nat × Int64) × List (Nat × Int32) × List (Nat × MI)
/-- a throw: class, its entry, the text's entry, the constructor's entry, the text, by a wide index -/
abbrev TW : Type := String × Nat × Nat × Nat × String × Bool
def lk {α : Type} : List (Nat × α) → Nat → Option α
  | [], _ => none
  | q :: r, k => match Nat.beq q.1 k with
    | true => some q.2
    | false => lk r k
theorem lk_mem {α : Type} : ∀ {t : List (Nat × α)} {k : Nat} {x : α}, lk t k = some x → (k, x) ∈ t
  | [], k, x, h => by cases h
  | q :: r, k, x, h => by
    unfold lk at h
    split at h
    · rename_i hq
      have e : q.1 = k := Nat.eq_of_beq_eq_true hq
      obtain ⟨a, b⟩ := q
      cases h
      cases e
      exact List.mem_cons_self
    · exact List.mem_cons_of_mem _ (lk_mem h)
def AE (E : En) (sz : Nat) : Nat → Prop := fun a => (∃ q ∈ eI E, eA E q.1 q.2 = a) ∨ sz ≤ a
def okW (w : Cond) : Bool := (w.onTables && w.keepsFace) || goodWord w
def TBL (U : State) : Prop := ∀ w ∈ lw_tbl, okW w = true → w.before #[] U = true
theorem okW_move {A A' : Array Value} {s U : State} {w : Cond} (hW : s.WarmedH U.vm) (ho : okW w = true) (h : w.before A s = true) : w.before A' U = true := by
  unfold okW at ho
  rw [Bool.or_eq_true] at ho
  rcases ho with ho | ho
  · rw [Bool.and_eq_true] at ho
    exact va_tabs (u := s.setVm U.vm) ho.1 rfl (Cond.before_shiftedFace (State.Shifted.of_warmed hW) w ho.2 h)
  · exact word_at hW (good_of_word ho) h
theorem TBL.moved {s U : State} (hW : s.WarmedH U.vm) (h : TBL s) : TBL U := fun w hw ho => okW_move hW ho (h w hw ho)
theorem TBL.use {U : State} (h : TBL U) {w : Cond} (hw : w ∈ lw_tbl) (ho : okW w = true) (A : Array Value) : w.before A U = true := okW_move (State.WarmedH.refl U) ho (h w hw ho)
def STR (U : State) : Prop := ∀ q ∈ strsL, ∃ sa : Nat, vk_R RX4 q.1 q.2 sa U
theorem STR.moved {s U : State} (hW : s.WarmedH U.vm) (h : STR s) : STR U := fun q hq => by
  obtain ⟨sa, h1⟩ := h q hq
  exact ⟨sa, vk_R.warm hW h1⟩
/-- what stays: the tables, the texts, the two statics of Throwable -/
def SF (E : En) (U : State) (sz : Nat) (H : Heap) : Prop := va_K (eD E) vwCl (tysE E) U ∧ TBL U ∧ STR U ∧ vx_Zq Bundle.tN "UNASSIGNED_STACK" Bundle.steD (AE E sz) U H ∧ vx_Zq Bundle.tN "SUPPRESSED_SENTINEL" Bundle.listD (AE E sz) U H
theorem AE.mono {E : En} {a b q : Nat} (h : a ≤ b) (hq : AE E b q) : AE E a q := hq.elim Or.inl (fun z => Or.inr (Nat.le_trans h z))
theorem SF.moved {E : En} {s U : State} {a b : Nat} {H H1 : Heap} (hW : s.WarmedH U.vm) (hab : a ≤ b) (hk : ∀ q : Nat, q < H.size → ¬ AE E a q → H1[q]? = H[q]?) (h : SF E s a H) : SF E U b H1 := by
  obtain ⟨h1, h2, h3, h4, h5⟩ := h
  exact ⟨va_K.moved hW.alike h1, h2.moved hW, h3.moved hW, ((h4.kept hk).moved hW.alike).narrow (fun q hq => AE.mono hab hq), ((h5.kept hk).moved hW.alike).narrow (fun q hq => AE.mono hab hq)⟩
def HW (E : En) (w : Wd) (U : State) : Prop := va_P (eD E) vwCl (wl E w) U.heap ∧ va_D (fun _ => True) (wl E w) ∧ SF E U U.heap.size U.heap
def rmo (d b : Nat) : Room := { frames := d + 8, cells := b, slots := 6 * b, locals := 64 * d + 128 }
def wsOf (mi : MI) : List Cond := match mi.2.2.2.2.2.2 with
  | [] => [.code mi.1 mi.2.1 mi.2.2.1 mi.2.2.2.1]
  | q :: r => [.codeWith mi.1 mi.2.1 mi.2.2.1 mi.2.2.2.1 (q :: r)]
def Qx (E : En) (po : Option AV → Wd → Prop) (sz : Nat) : Array Value → State → Outcome → State → Prop := fun _ st oc t =>
  (∃ (r : Option AV) (u : Wd), oc = .returned (r.map (cv E)) ∧ po r u ∧ va_P (eD E) vwCl (wl E u) t.heap) ∧ va_F (AE E sz) st t
def Xx (E : En) (xo : String → Wd → Prop) (sz : Nat) : String → State → State → Prop := fun X st t => ∃ u : Wd, xo X u ∧ va_P (eD E) vwCl (wl E u) t.heap ∧ va_F (AE E sz) st t
/-- a method's contract at depth d, with at most b exceptions made -/
def Ctr (l : Launch) (E : En) (d b : Nat) (mi : MI) (As : List AV) (w : Wd) (po : Option AV → Wd → Prop) (xo : String → Wd → Prop) : Prop :=
  ∀ sz : Nat, vx_Met l mi.1 (wsOf mi) (rmo d b) (va_Pc (As.map (cv E)) (fun U => U.heap.size = sz ∧ HW E w U)) (Qx E po sz) (Xx E xo sz) b (6 * b) (AE E sz)
theorem wl_D {E : En} {w u : Wd} {A : Nat → Prop} (h : va_D A (wl E w)) : va_D A (wl E u) := by
  have key : ∀ (v v' : Wd) (k : Nat) (q : Nat × va_E), (wl E v)[k]? = some q → ∃ q', (wl E v')[k]? = some q' ∧ q'.1 = q.1 := by
    intro v v' k q hq
    simp only [wl, List.getElem?_map, Option.map_eq_some_iff] at hq ⊢
    obtain ⟨a, ha, rfl⟩ := hq
    exact ⟨_, ⟨a, ha, rfl⟩, rfl⟩
  refine ⟨fun i j p q hp hq e => ?_, fun k q hq => ?_⟩
  · obtain ⟨p', hp', e1⟩ := key u w i p hp
    obtain ⟨q', hq', e2⟩ := key u w j q hq
    exact h.1 i j p' q' hp' hq' (by rw [e1, e2, e])
  · obtain ⟨q', hq', e2⟩ := key u w k q hq
    rw [← e2]
    exact h.2 k q' hq'
theorem wl_in {E : En} {w : Wd} {sz k : Nat} {q : Nat × va_E} (h : (wl E w)[k]? = some q) : AE E sz q.1 := by
  simp only [wl, List.getElem?_map, Option.map_eq_some_iff] at h
  obtain ⟨a, ha, rfl⟩ := h
  exact Or.inl ⟨a, List.mem_of_getElem? ha, rfl⟩
theorem wl_DA {E : En} {w u : Wd} {A : Nat → Prop} (sz : Nat) (h : va_D A (wl E w)) : va_D (AE E sz) (wl E u) := ⟨(wl_D h).1, fun _ _ hq => wl_in hq⟩
def opI (S : List AV) (f : Int32 → Int32 → List AV → Prop) : Prop := match S with
  | .inl y :: .inl x :: r => f x y r
  | _ => False
def opJ (S : List AV) (f : Int64 → Int64 → List AV → Prop) : Prop := match S with
  | .inr (.inl y) :: .inr (.inl x) :: r => f x y r
  | _ => False
def opH (S : List AV) (f : Int64 → Int32 → List AV → Prop) : Prop := match S with
  | .inl y :: .inr (.inl x) :: r => f x y r
  | _ => False
def op1 (S : List AV) (f : Int32 → List AV → Prop) : Prop := match S with
  | .inl x :: r => f x r
  | _ => False
def op1J (S : List AV) (f : Int64 → List AV → Prop) : Prop := match S with
  | .inr (.inl x) :: r => f x r
  | _ => False
def rf (gk : Nat → Bool) (a : AV) (f : Nat → Nat → Prop) : Prop := match a with
  | .inr (.inr (.inl k)) => (match gk k with
    | true => f k 0
    | false => False)
  | .inr (.inr (.inr (.inl q))) => (match gk q.1 && Nat.beq (cnt q.1) 12 with
    | true => q.2 < 12 ∧ f q.1 q.2
    | false => False)
  | _ => False
def ofT (tag : Nat) (k : Nat) (f : Nat → Prop) : Prop := match shp k with
  | (t, n, _) => match Nat.beq t tag with
    | true => f n
    | false => False
def ldA (gk : Nat → Bool) (tag : Nat) (S : List AV) (f : Nat → Nat → Nat → List AV → Prop) : Prop := match S with
  | .inl i :: a :: r => rf gk a (fun k q => ofT tag k (fun len => ∃ n : Nat, i = nI n ∧ n < len ∧ f k q n r))
  | _ => False
def stA (gk : Nat → Bool) (tag : Nat) (S : List AV) (f : Nat → Nat → Nat → Int32 → List AV → Prop) : Prop := match S with
  | .inl x :: .inl i :: a :: r => rf gk a (fun k q => ofT tag k (fun len => ∃ n : Nat, i = nI n ∧ n < len ∧ f k q n x r))
  | _ => False
def stAJ (gk : Nat → Bool) (S : List AV) (f : Nat → Nat → Nat → Int64 → List AV → Prop) : Prop := match S with
  | .inr (.inl x) :: .inl i :: a :: r => rf gk a (fun k q => ofT 2 k (fun len => ∃ n : Nat, i = nI n ∧ n < len ∧ f k q n x r))
  | _ => False
/-- the field of an entry, at an object -/
def fdA (gk : Nat → Bool) (fl : List (Nat × Nat × Nat)) (idx : Nat) (a : AV) (f : Nat → Nat → Nat → Nat → Prop) : Prop := match lk fl idx with
  | some (cl, j) => rf gk a (fun k q => ofT 0 k (fun c => match Nat.beq c cl && Nat.blt j (nfl cl) with
    | true => f k q j (ftc cl j)
    | false => False))
  | none => False
def popA : Nat → List AV → List AV → Option (List AV × List AV)
  | 0, acc, S => some (acc, S)
  | n + 1, acc, v :: S => popA n (v :: acc) S
  | _ + 1, _, [] => none
def catS : List AV → Nat
  | [] => 0
  | v :: S => (match isJ v with
    | true => 2
    | false => 1) + catS S
def callP (l : Launch) (E : En) (D B : Nat) (mi : MI) (As : List AV) (w : Wd) (c : Nat) (k : Option AV → Wd → Nat → Prop) (x : String → Wd → Nat → Prop) : Prop :=
  ∃ (d b : Nat) (po : Option AV → Wd → Prop) (xo : String → Wd → Prop), d < D ∧ c + b ≤ B ∧ Ctr l E d b mi As w po xo ∧ (∀ (r : Option AV) (u : Wd), po r u → k r u (c + b)) ∧ ∀ (X : String) (u : Wd), xo X u → x X u (c + b)
def ilen : Instr → Nat
  | .aload _ => 2 | .iload _ => 2 | .lload _ => 2 | .istore _ => 2 | .lstore _ => 2 | .astore _ => 2 | .bipush _ => 2 | .ldc _ => 2
  | .sipush _ => 3 | .ldc_w _ => 3 | .ldc2_w _ => 3 | .getfield _ => 3 | .putfield _ => 3 | .goto _ => 3 | .if_icmp _ _ => 3 | .ifCond _ _ => 3 | .iinc _ _ => 3
  | .invokevirtual _ => 3 | .invokestatic _ => 3 | .invokespecial _ => 3 | .new _ => 3
  | _ => 1
/-- does the comparison hold -/
def cmpI : ClassFile.Cond → Int32 → Int32 → Prop
  | .eq, x, y => x = y
  | .ne, x, y => ¬ x = y
  | .lt, x, y => x < y
  | .ge, x, y => y ≤ x
  | .gt, x, y => y < x
  | .le, x, y => x ≤ y
section
variable (l : Launch) (E : En) (sc : Option (Nat × Nat × (Nat → Int32))) (gk : Nat → Bool) (o : OT) (tw : List (Nat × TW)) (hd : Nat → String → Option Nat) (D B : Nat) (ret : Option FieldType) (po : Option AV → Wd → Prop) (xp : String → Wd → Prop)
variable (V : Nat → List (Option AV) → List AV → Wd → Nat → Prop)
def stp (ins : Instr) (tg pc : Nat) (L : List (Option AV)) (S : List AV) (w : Wd) (c : Nat) : Prop := match ins with
  | .iconst n => V (pc + 1) L (vI (Int32.ofInt n) :: S) w c
  | .bipush n => V (pc + 2) L (vI (Int8.ofInt n).toInt32 :: S) w c
  | .sipush n => V (pc + 3) L (vI (Int16.ofInt n).toInt32 :: S) w c
  | .lconst n => V (pc + 1) L (vJ (Int64.ofNat n.val) :: S) w c
  | .ldc_w i => (match lk o.2.2.2.1 i with
    | some x => V (pc + 3) L (vI x :: S) w c
    | none => False)
  | .ldc2_w i => (match lk o.2.2.1 i with
    | some x => V (pc + 3) L (vJ x :: S) w c
    | none => False)
  | .iload_n n => (match L[n.val]? with
    | some (some (.inl x)) => V (pc + 1) L (vI x :: S) w c
    | _ => False)
  | .iload n => (match L[n]? with
    | some (some (.inl x)) => V (pc + 2) L (vI x :: S) w c
    | _ => False)
  | .lload_n n => (match L[n.val]? with
    | some (some (.inr (.inl x))) => V (pc + 1) L (vJ x :: S) w c
    | _ => False)
  | .lload n => (match L[n]? with
    | some (some (.inr (.inl x))) => V (pc + 2) L (vJ x :: S) w c
    | _ => False)
  | .aload_n n => (match L[n.val]? with
    | some (some (.inr (.inr x))) => V (pc + 1) L (.inr (.inr x) :: S) w c
    | _ => False)
  | .aload n => (match L[n]? with
    | some (some (.inr (.inr x))) => V (pc + 2) L (.inr (.inr x) :: S) w c
    | _ => False)
  | .istore_n n => (match Nat.blt n.val L.length with
    | true => op1 S (fun x r => V (pc + 1) (stL L n.val (vI x)) r w c)
    | false => False)
  | .istore n => (match Nat.blt n L.length with
    | true => op1 S (fun x r => V (pc + 2) (stL L n (vI x)) r w c)
    | false => False)
  | .lstore_n n => (match Nat.blt (n.val + 1) L.length with
    | true => op1J S (fun x r => V (pc + 1) (stL L n.val (vJ x)) r w c)
    | false => False)
  | .lstore n => (match Nat.blt (n + 1) L.length with
    | true => op1J S (fun x r => V (pc + 2) (stL L n (vJ x)) r w c)
    | false => False)
  | .astore_n n => (match Nat.blt n.val L.length, S with
    | true, .inr (.inr x) :: r => V (pc + 1) (stL L n.val (.inr (.inr x))) r w c
    | _, _ => False)
  | .astore n => (match Nat.blt n L.length, S with
    | true, .inr (.inr x) :: r => V (pc + 2) (stL L n (.inr (.inr x))) r w c
    | _, _ => False)
  | .iinc n k => (match L[n]? with
    | some (some (.inl x)) => V (pc + 3) (stL L n (vI (x + Int32.ofInt k))) S w c
    | _ => False)
  | .iadd => opI S (fun x y r => V (pc + 1) L (vI (x + y) :: r) w c)
  | .isub => opI S (fun x y r => V (pc + 1) L (vI (x - y) :: r) w c)
  | .imul => opI S (fun x y r => V (pc + 1) L (vI (x * y) :: r) w c)
  | .idiv => opI S (fun x y r => ¬ y = 0 ∧ V (pc + 1) L (vI (x / y) :: r) w c)
  | .irem => opI S (fun x y r => ¬ y = 0 ∧ V (pc + 1) L (vI (x - x / y * y) :: r) w c)
  | .iand => opI S (fun x y r => V (pc + 1) L (vI (x &&& y) :: r) w c)
  | .ior => opI S (fun x y r => V (pc + 1) L (vI (x ||| y) :: r) w c)
  | .ixor => opI S (fun x y r => V (pc + 1) L (vI (x ^^^ y) :: r) w c)
  | .ishl => opI S (fun x y r => V (pc + 1) L (vI (x <<< (y &&& 31)) :: r) w c)
  | .ishr => opI S (fun x y r => V (pc + 1) L (vI (x >>> (y &&& 31)) :: r) w c)
  | .iushr => opI S (fun x y r => V (pc + 1) L (vI (x.toUInt32 >>> (y.toUInt32 &&& Int32.toUInt32 31)).toInt32 :: r) w c)
  | .ladd => opJ S (fun x y r => V (pc + 1) L (vJ (x + y) :: r) w c)
  | .lsub => opJ S (fun x y r => V (pc + 1) L (vJ (x - y) :: r) w c)
  | .lmul => opJ S (fun x y r => V (pc + 1) L (vJ (x * y) :: r) w c)
  | .ldiv => opJ S (fun x y r => ¬ y = 0 ∧ V (pc + 1) L (vJ (x / y) :: r) w c)
  | .lrem => opJ S (fun x y r => ¬ y = 0 ∧ V (pc + 1) L (vJ (x - x / y * y) :: r) w c)
  | .land => opJ S (fun x y r => V (pc + 1) L (vJ (x &&& y) :: r) w c)
  | .lor => opJ S (fun x y r => V (pc + 1) L (vJ (x ||| y) :: r) w c)
  | .lxor => opJ S (fun x y r => V (pc + 1) L (vJ (x ^^^ y) :: r) w c)
  | .lcmp => opJ S (fun x y r => V (pc + 1) L (vI (lg_cmp x y) :: r) w c)
  | .lshl => opH S (fun x y r => V (pc + 1) L (vJ (x <<< (y.toInt64 &&& 63)) :: r) w c)
  | .lshr => opH S (fun x y r => V (pc + 1) L (vJ (x >>> (y.toInt64 &&& 63)) :: r) w c)
  | .lushr => opH S (fun x y r => V (pc + 1) L (vJ (x.toUInt64 >>> (y.toInt64.toUInt64 &&& Int64.toUInt64 63)).toInt64 :: r) w c)
  | .i2l => op1 S (fun x r => V (pc + 1) L (vJ x.toInt64 :: r) w c)
  | .i2c => op1 S (fun x r => V (pc + 1) L (vI (x.toUInt32 % 65536).toInt32 :: r) w c)
  | .l2i => op1J S (fun x r => V (pc + 1) L (vI x.toInt32 :: r) w c)
  | .dup => (match S with
    | v :: r => (match isJ v with
      | true => False
      | false => V (pc + 1) L (v :: v :: r) w c)
    | _ => False)
  | .pop => (match S with
    | v :: r => (match isJ v with
      | true => False
      | false => V (pc + 1) L r w c)
    | _ => False)
  | .dup2 => (match S with
    | v :: u :: r => (match isJ v || isJ u with
      | true => False
      | false => V (pc + 1) L (v :: u :: v :: u :: r) w c)
    | _ => False)
  | .ifCond q _ => op1 S (fun x r => (cmpI q x 0 → V tg L r w c) ∧ (¬ cmpI q x 0 → V (pc + 3) L r w c))
  | .if_icmp q _ => opI S (fun x y r => (cmpI q x y → V tg L r w c) ∧ (¬ cmpI q x y → V (pc + 3) L r w c))
  | .goto _ => V tg L S w c
  | .tableswitch df lo hi offs => op1 S (fun x r => ∃ t : Nat, (((x.toInt < lo ∨ hi < x.toInt) ∧ (pc : Int) + df = (t : Int)) ∨ (¬ x.toInt < lo ∧ ¬ hi < x.toInt ∧ ∃ off : Int, offs[(x.toInt - lo).toNat]? = some off ∧ (pc : Int) + off = (t : Int))) ∧ V t L r w c)
  | .getfield i => (match S with
    | a :: r => fdA gk o.2.1 i a (fun k q j t => match t with
      | 0 => V (pc + 3) L (vI (w.1 k q j) :: r) w c
      | 1 => V (pc + 3) L (vI (w.1 k q j) :: r) w c
      | 2 => V (pc + 3) L (vJ (w.2 k q j) :: r) w c
      | t + 3 => V (pc + 3) L (vR t :: r) w c)
    | _ => False)
  | .putfield i => (match S with
    | v :: a :: r => fdA gk o.2.1 i a (fun k q j t => match t, v with
      | 0, .inl x => V (pc + 3) L r (wI w k q j x) c
      | 1, .inl x => (x = 0 ∨ x = 1) ∧ V (pc + 3) L r (wI w k q j x) c
      | 2, .inr (.inl x) => V (pc + 3) L r (wJ w k q j x) c
      | _, _ => False)
    | _ => False)
  | .iaload => (match S with
    | .inl i :: .inr (.inr (.inr (.inr a))) :: r => (match sc with
      | some (b, n, xs) => a = b ∧ ∃ j : Nat, i = nI j ∧ j < n ∧ V (pc + 1) L (vI (xs j) :: r) w c
      | none => False)
    | _ => ldA gk 1 S (fun k q n r => V (pc + 1) L (vI (w.1 k q n) :: r) w c))
  | .laload => ldA gk 2 S (fun k q n r => V (pc + 1) L (vJ (w.2 k q n) :: r) w c)
  | .caload => ldA gk 3 S (fun k q n r => V (pc + 1) L (vI (w.1 k q n) :: r) w c)
  | .baload => ldA gk 4 S (fun k q n r => V (pc + 1) L (vI (w.1 k q n) :: r) w c)
  | .aaload => (match S with
    | .inl i :: .inr (.inr (.inl k)) :: r => (match gk k, shp k with
      | true, (5, m, b) => ∃ n : Nat, i = nI n ∧ n < m ∧ V (pc + 1) L (vQ b n :: r) w c
      | true, (6, m, b) => ∃ n : Nat, i = nI n ∧ n < m ∧ V (pc + 1) L (vQ b n :: r) w c
      | _, _ => False)
    | _ => False)
  | .iastore => stA gk 1 S (fun k q n x r => V (pc + 1) L r (wI w k q n x) c)
  | .castore => stA gk 3 S (fun k q n x r => V (pc + 1) L r (wI w k q n (vp_nar .char x)) c)
  | .bastore => stA gk 4 S (fun k q n x r => V (pc + 1) L r (wI w k q n (vp_nar .boolean x)) c)
  | .lastore => stAJ gk S (fun k q n x r => V (pc + 1) L r (wJ w k q n x) c)
  | .arraylength => (match S with
    | .inr (.inr (.inr (.inr a))) :: r => (match sc with
      | some (b, n, _) => a = b ∧ V (pc + 1) L (vI (nI n) :: r) w c
      | none => False)
    | a :: r => rf gk a (fun k _ => match shp k with
      | (1, n, _) => V (pc + 1) L (vI (nI n) :: r) w c
      | (2, n, _) => V (pc + 1) L (vI (nI n) :: r) w c
      | _ => False)
    | _ => False)
  | .invokestatic i => (match lk o.2.2.2.2 i with
    | some mi => (match Nat.beq mi.2.2.2.2.2.1 99, popA mi.2.2.2.2.1 [] S with
      | true, some (As, r) => (match Nat.ble (catS r) 8 with
        | true => callP l E D B mi As w c (fun v u k => V (pc + 3) L (v.toList ++ r) u k) (fun X u k => match hd pc X with
          | some h => ∀ q : Nat, V h L [vO q] u k
          | none => xp X u)
        | false => False)
      | _, _ => False)
    | none => False)
  | .invokevirtual i => (match lk o.2.2.2.2 i with
    | some mi => (match popA (mi.2.2.2.2.1 + 1) [] S with
      | some (.inr (.inr (.inl k)) :: As, r) => (match Nat.ble (catS r) 8 && gk k, shp k with
        | true, (0, cl, _) => (match Nat.beq mi.2.2.2.2.2.1 cl with
          | true => callP l E D B mi (vR k :: As) w c (fun v u k => V (pc + 3) L (v.toList ++ r) u k) (fun X u k => match hd pc X with
            | some h => ∀ q : Nat, V h L [vO q] u k
            | none => xp X u)
          | false => False)
        | _, _ => False)
      | _ => False)
    | none => False)
  | .ireturn => (match S with
    | [.inl x] => (match ret with
      | some .int => po (some (vI x)) w ∧ c ≤ B
      | some .boolean => (x = 0 ∨ x = 1) ∧ po (some (vI x)) w ∧ c ≤ B
      | _ => False)
    | _ => False)
  | .lreturn => (match S with
    | [.inr (.inl x)] => (match ret with
      | some .long => po (some (vJ x)) w ∧ c ≤ B
      | _ => False)
    | _ => False)
  | .return_ => (match S, ret with
    | [], none => po none w ∧ c ≤ B
    | _, _ => False)
  | .new _ => (match lk tw pc with
    | some t => xp t.1 w ∧ c + 1 ≤ B
    | none => False)
  | _ => False
end
/-- V is closed: it holds wherever a step says that it must -/
def Clo (l : Launch) (E : En) (sc : Option (Nat × Nat × (Nat → Int32))) (gk : Nat → Bool) (o : OT) (tw : List (Nat × TW)) (hd : Nat → String → Option Nat) (D B : Nat) (ret : Option FieldType) (po : Option AV → Wd → Prop) (xp : String → Wd → Prop) (pg : List (Nat × Instr × Nat)) (V : Nat → List (Option AV) → List AV → Wd → Nat → Prop) : Prop :=
  ∀ (pc : Nat) (x : Instr × Nat), lk pg pc = some x → ∀ (L : List (Option AV)) (S : List AV) (w : Wd) (c : Nat), stp l E sc gk o tw hd D B ret po xp V x.1 x.2 pc L S w c → V pc L S w c
end
section
/-! the step is sound for the machine -/
theorem shp_in (k : Nat) : shp k ∈ (9, 0, 0) :: shpL := by
  unfold shp
  rw [List.getD_eq_getElem?_getD]
  cases h : shpL[k]? with
  | none => exact List.mem_cons_self
  | some x => exact List.mem_cons_of_mem _ (List.mem_of_getElem? h)
theorem shp_small (k : Nat) : (shp k).2.1 < 5000 := by
  have h : ∀ x ∈ ((9, 0, 0) :: shpL : List (Nat × Nat × Nat)), x.2.1 < 5000 := by decide
  exact h _ (shp_in k)
theorem ofT_spec {t k : Nat} {f : Nat → Prop} (h : ofT t k f) : ∃ n b : Nat, shp k = (t, n, b) ∧ f n ∧ n < 5000 := by
  have hs := shp_small k
  unfold ofT at h
  revert h hs
  generalize shp k = q
  obtain ⟨t', n, b⟩ := q
  intro h hs
  simp only at h
  split at h
  · rename_i e
    rw [Nat.eq_of_beq_eq_true e]
    exact ⟨n, b, rfl, h, hs⟩
  · exact h.elim
theorem rf_spec {E : En} {gk : Nat → Bool} {a : AV} {f : Nat → Nat → Prop} (hI : ∀ k i : Nat, gk k = true → i < cnt k → (k, i) ∈ eI E) (hf : ∀ k i : Nat, f k i → (shp k).1 ≠ 9) (h : rf gk a f) :
    ∃ k i : Nat, (k, i) ∈ eI E ∧ cv E a = .ref (eA E k i) ∧ f k i := by
  rcases a with x | x | k | q | x
  · exact h.elim
  · exact h.elim
  · simp only [rf] at h
    split at h
    · rename_i hg
      refine ⟨k, 0, hI k 0 hg ?_, rfl, h⟩
      have h9 := hf _ _ h
      unfold cnt
      split
      · omega
      · first | (rw [if_neg h9]; omega) | omega
    · exact h.elim
  · simp only [rf] at h
    split at h
    · rename_i hg
      rw [Bool.and_eq_true] at hg
      exact ⟨q.1, q.2, hI q.1 q.2 hg.1 (by rw [Nat.eq_of_beq_eq_true hg.2]; exact h.1), rfl, h.2⟩
    · exact h.elim
  · exact h.elim
theorem wcell_0 {E : En} {w : Wd} {k i n b : Nat} (h : shp k = (0, n, b)) : wcell E w k i = .inr (n, (List.range (nfl n)).map (fval E w k i n)) := by simp only [wcell, h]
theorem wcell_1 {E : En} {w : Wd} {k i n b : Nat} (h : shp k = (1, n, b)) : wcell E w k i = .inl (eC E 1, n, .inl (w.1 k i)) := by simp only [wcell, h]
theorem wcell_2 {E : En} {w : Wd} {k i n b : Nat} (h : shp k = (2, n, b)) : wcell E w k i = .inl (eC E 2, n, .inr (.inl (w.2 k i))) := by simp only [wcell, h]
theorem wcell_3 {E : En} {w : Wd} {k i n b : Nat} (h : shp k = (3, n, b)) : wcell E w k i = .inl (eC E 3, n, .inl (w.1 k i)) := by simp only [wcell, h]
theorem wcell_4 {E : En} {w : Wd} {k i n b : Nat} (h : shp k = (4, n, b)) : wcell E w k i = .inl (eC E 4, n, .inl (w.1 k i)) := by simp only [wcell, h]
theorem wcell_5 {E : En} {w : Wd} {k i n b : Nat} (h : shp k = (5, n, b)) : wcell E w k i = .inl (eC E 5, n, .inr (.inr (.inr (.inr (fun j => if j < n then some (eA E b j) else none))))) := by simp only [wcell, h]
theorem wcell_6 {E : En} {w : Wd} {k i n b : Nat} (h : shp k = (6, n, b)) : wcell E w k i = .inl (eC E 6, n, .inr (.inr (.inr (.inr (fun j => if j < n then some (eA E b j) else none))))) := by simp only [wcell, h]
theorem drL_len (L : List (Option AV)) (i : Nat) : (drL L i).length = L.length := by
  cases i with
  | zero => rfl
  | succ i =>
    simp only [drL]
    split
    · exact List.length_set
    · rfl
theorem stL_len (L : List (Option AV)) (i : Nat) (v : AV) : (stL L i v).length = L.length := by
  unfold stL
  rw [List.length_set]
  unfold crL
  split
  · rw [List.length_set, drL_len]
  · exact drL_len L i
theorem popA_spec : ∀ (n : Nat) (acc S A r : List AV), popA n acc S = some (A, r) → ∃ P : List AV, A = P ++ acc ∧ S = P.reverse ++ r ∧ P.length = n
  | 0, acc, S, A, r, h => by
    cases h
    exact ⟨[], rfl, rfl, rfl⟩
  | n + 1, acc, v :: S, A, r, h => by
    obtain ⟨P, h1, h2, h3⟩ := popA_spec n (v :: acc) S A r h
    exact ⟨P ++ [v], by rw [h1]; simp, by rw [h2]; simp, by rw [List.length_append, h3]; rfl⟩
  | n + 1, acc, [], A, r, h => by cases h
theorem catS_sum (E : En) : ∀ S : List AV, ((S.map (cv E)).map fun v => v.category).sum = catS S
  | [] => rfl
  | v :: S => by
    have ih := catS_sum E S
    simp only [List.map_cons, List.sum_cons, ih, catS]
    rcases v with x | x | x | x | x <;> simp [cv, isJ, Value.category]
/-- the fields' classes, the constants, the calls: as the tables have them -/
def clsT (cl : Nat) : String × u_T × Nat := vwCl.getD cl ("", fun _ => ("", "", "", false), 0)
def tyT (cl : Nat) : Nat → FieldType := match cl with
  | 0 => tyX0 | 1 => tyX1 | 2 => tyX3 | 3 => tyX4 | _ => tyX5
/-- an entry of the fields' table -/
def flOK (own : String) (q : Nat × Nat × Nat) : Bool :=
  decide (q.2.1 < 5) && decide (q.2.2 < (clsT q.2.1).2.2) && decide (Cond.fieldLink own q.1 ((clsT q.2.1).2.1 q.2.2).1 ((clsT q.2.1).2.1 q.2.2).2.1 ((clsT q.2.1).2.1 q.2.2).2.2.1 ∈ lw_tbl)
/-- what a field's type code says of its type -/
def tyOK (cl f : Nat) : Bool := match ftc cl f with
  | 0 => decide (tyT cl f = .int) && !((clsT cl).2.1 f).2.2.2
  | 1 => decide (tyT cl f = .boolean) && !((clsT cl).2.1 f).2.2.2
  | 2 => decide (tyT cl f = .long) && !((clsT cl).2.1 f).2.2.2
  | _ => true
theorem cls_all : ∀ cl, cl < 5 → vwCl[cl]? = some (clsT cl) ∧ (clsT cl).2.2 = nfl cl ∧ (∀ f, f < nfl cl → tyOK cl f = true) ∧ (∀ f, f < nfl cl → parseFieldDescriptor ((clsT cl).2.1 f).2.2.1 = some (tyT cl f)) := by
  intro cl hcl
  have h0 : cl = 0 ∨ cl = 1 ∨ cl = 2 ∨ cl = 3 ∨ cl = 4 := by omega
  rcases h0 with rfl | rfl | rfl | rfl | rfl
  · exact ⟨rfl, rfl, by decide +kernel, tyX0_ok⟩
  · exact ⟨rfl, rfl, by decide +kernel, tyX1_ok⟩
  · exact ⟨rfl, rfl, by decide +kernel, tyX3_ok⟩
  · exact ⟨rfl, rfl, by decide +kernel, tyX4_ok⟩
  · exact ⟨rfl, rfl, by decide +kernel, tyX5_ok⟩
theorem cls_nm : ∀ cl, cl < 5 → ∀ a, a < (clsT cl).2.2 → ∀ b, b < (clsT cl).2.2 → a ≠ b → ((clsT cl).2.1 a).2.1 ≠ ((clsT cl).2.1 b).2.1 := by
  intro cl hcl
  have h0 : cl = 0 ∨ cl = 1 ∨ cl = 2 ∨ cl = 3 ∨ cl = 4 := by omega
  rcases h0 with rfl | rfl | rfl | rfl | rfl
  · exact nmX0
  · exact nmX1
  · exact nmX3
  · exact nmX4
  · exact nmX5
theorem cls_ws : ∀ cl, cl < 5 → ∀ w ∈ u_ws (clsT cl).1 (clsT cl).2.1 (clsT cl).2.2, w ∈ lw_tbl ∧ okW w = true := by
  intro cl hcl
  have h0 : cl = 0 ∨ cl = 1 ∨ cl = 2 ∨ cl = 3 ∨ cl = 4 := by omega
  have key : ∀ (C : String) (T : u_T) (N : Nat) (w : Cond), w ∈ u_ws C T N → okW w = true := by
    intro C T N w hw
    obtain ⟨k, -, rfl⟩ := List.mem_map.mp hw
    unfold u_lay
    split <;> rfl
  rcases h0 with rfl | rfl | rfl | rfl | rfl
  · exact fun w hw => ⟨inX0 w hw, key _ _ _ w hw⟩
  · exact fun w hw => ⟨inX1 w hw, key _ _ _ w hw⟩
  · exact fun w hw => ⟨inX3 w hw, key _ _ _ w hw⟩
  · exact fun w hw => ⟨inX4 w hw, key _ _ _ w hw⟩
  · exact fun w hw => ⟨inX5 w hw, key _ _ _ w hw⟩
end
section
theorem cnt_pos {k : Nat} (h : (shp k).1 ≠ 9) : 0 < cnt k := by
  unfold cnt
  split
  · omega
  · first | (rw [if_neg h]; omega) | omega
def inT (w : Cond) : Bool := decide (w ∈ lw_tbl) && okW w
theorem inT_use {U : State} (h : TBL U) {w : Cond} (hw : inT w = true) (A : Array Value) : w.before A U = true := by
  unfold inT at hw
  rw [Bool.and_eq_true] at hw
  exact h.use (of_decide_eq_true hw.1) hw.2 A
def miOK (own : String) (q : Nat × MI) : Bool :=
  inT (.methodLink own q.1 q.2.1) && inT (.initialized q.2.1.cls) && (wsOf q.2).all inT && decide (q.2.1.cls ≠ "java/lang/invoke/MethodHandle" ∧ q.2.1.cls ≠ "java/lang/invoke/VarHandle") &&
  decide ((parseMethodDescriptor q.2.1.desc).map (fun d => d.parameters.length) = some q.2.2.2.2.2.1) && decide (q.2.2.2.1 ≤ 45) &&
  (if q.2.2.2.2.2.2.1 = 99 then inT (.static q.2.1) else decide (q.2.2.2.2.2.2.1 < 5) && decide (((clsT q.2.2.2.2.2.2.1).1 = q.2.1.cls)) && inT (.instanceMethod q.2.1) && inT (.selects q.2.1.cls q.2.1 q.2.1))
def otOK (o : OT) : Bool := o.2.1.all (fun q => flOK o.1 q && inT (.fieldLink o.1 q.1 ((clsT q.2.1).2.1 q.2.2).1 ((clsT q.2.1).2.1 q.2.2).2.1 ((clsT q.2.1).2.1 q.2.2).2.2.1)) && o.2.2.1.all (fun q => inT (.constantLong o.1 q.1 q.2)) && o.2.2.2.1.all (fun q => inT (.constant o.1 q.1 q.2)) && o.2.2.2.2.all (miOK o.1)
def pgOK (cc : ByteArray) (q : Nat × Instr × Nat) : Bool := decide (decode cc q.1 = .ok (q.2.1, match q.2.1 with
    | .tableswitch _ _ _ _ => q.2.2
    | i => ilen i)) && (match q.2.1 with
  | .goto f => decide ((q.1 : Int) + f = (q.2.2 : Int))
  | .ifCond _ f => decide ((q.1 : Int) + f = (q.2.2 : Int))
  | .if_icmp _ f => decide ((q.1 : Int) + f = (q.2.2 : Int))
  | _ => true)
section
variable (p : Program) (l : Launch) (e : Env) (R : Room) (s : State) (m : MethodId) (args : Array Value) (below : List Frame) (meth : Method) (c : Code) (Q : State → Prop) (nL c0 s0 : Nat) (E : En)
def HS (w : Wd) (H : Heap) (locs : List Loc) : Prop := va_P (eD E) vwCl (wl E w) H ∧ va_D (AE E s.heap.size) (wl E w) ∧ va_S (AE E s.heap.size) s.heap H locs
def Wx : Nat → List (Option AV) → List AV → Wd → Nat → Prop := fun pc L S w n =>
  L.length = nL → ∀ (H : Heap) (locs : List Loc) (ls : Array Slot), HS s E w H locs → LR E nL ls L → W p l e R s m args below meth c H locs (c0 + n) (s0 + 6 * n) Q (F0 m pc ls (S.map (cv E)))
/-- what a body stands on -/
def MF (cc : ByteArray) (gk : Nat → Bool) (o : OT) (D B : Nat) : Prop :=
  p.tables.exec = Jvm.exec ∧ c.code = cc ∧ c.maxLocals = nL ∧ s.vm.findClass o.1 = some m.cls ∧ SF E s s.heap.size s.heap ∧ eOK E ∧ (∀ k i : Nat, gk k = true → i < cnt k → (k, i) ∈ eI E) ∧ otOK o = true ∧
  (D + 8 ≤ R.frames ∧ 64 * D + 128 ≤ R.locals ∧ c0 + B ≤ R.cells ∧ s0 + 6 * B ≤ R.slots)
end
section
variable {p : Program} {l : Launch} {e : Env} {R : Room} {s : State} {m : MethodId} {args : Array Value} {below : List Frame} {meth : Method} {c : Code} {Q : State → Prop} {nL c0 s0 : Nat} {E : En}
variable {cc : ByteArray} {gk : Nat → Bool} {o : OT} {D B : Nat} {pc n0 : Nat} {L : List (Option AV)} {S : List AV} {w : Wd}
theorem m_iald (F : MF p R s m c nL c0 s0 E cc gk o D B) (hdec : decode cc pc = .ok (.iaload, 1)) (h : ldA gk 1 S (fun k q n r => Wx p l e R s m args below meth c Q nL c0 s0 E (pc + 1) L (vI (w.1 k q n) :: r) w n0)) : Wx p l e R s m args below meth c Q nL c0 s0 E pc L S w n0 := by
  obtain ⟨hx, hb, -, -, hSF, -, hI, -, -⟩ := F
  intro hl H locs ls hH hL
  unfold ldA at h
  split at h
  · rename_i i a r
    obtain ⟨k, q, hm, ha, h⟩ := rf_spec hI (fun k i h => by obtain ⟨n, b, hs, -, -⟩ := ofT_spec h; rw [hs]; simp) h
    obtain ⟨len, b, hs, ⟨n, rfl, hn, h⟩, hlt⟩ := ofT_spec h
    obtain ⟨q0, -, hq⟩ := wl_pos (w := w) hm
    rw [wcell_1 hs] at hq
    show W p l e R s m args below meth c H locs _ _ Q (F0 m pc ls (Value.int (nI n) :: cv E a :: r.map (cv E)))
    rw [ha]
    refine va_iald hx hb hSF.1 hH.1 q0 0 hq rfl (vp_in_nI hn (by omega)) hdec ?_
    rw [nI_clamp (by omega)]
    exact h hl H locs ls hH hL
  · exact h.elim
theorem m_lald (F : MF p R s m c nL c0 s0 E cc gk o D B) (hdec : decode cc pc = .ok (.laload, 1)) (h : ldA gk 2 S (fun k q n r => Wx p l e R s m args below meth c Q nL c0 s0 E (pc + 1) L (vJ (w.2 k q n) :: r) w n0)) : Wx p l e R s m args below meth c Q nL c0 s0 E pc L S w n0 := by
  obtain ⟨hx, hb, -, -, hSF, -, hI, -, -⟩ := F
  intro hl H locs ls hH hL
  unfold ldA at h
  split at h
  · rename_i i a r
    obtain ⟨k, q, hm, ha, h⟩ := rf_spec hI (fun k i h => by obtain ⟨n, b, hs, -, -⟩ := ofT_spec h; rw [hs]; simp) h
    obtain ⟨len, b, hs, ⟨n, rfl, hn, h⟩, hlt⟩ := ofT_spec h
    obtain ⟨q0, -, hq⟩ := wl_pos (w := w) hm
    rw [wcell_2 hs] at hq
    show W p l e R s m args below meth c H locs _ _ Q (F0 m pc ls (Value.int (nI n) :: cv E a :: r.map (cv E)))
    rw [ha]
    refine va_lald hx hb hSF.1 hH.1 q0 1 hq rfl (vp_in_nI hn (by omega)) hdec ?_
    rw [nI_clamp (by omega)]
    exact h hl H locs ls hH hL
  · exact h.elim
theorem m_cald (F : MF p R s m c nL c0 s0 E cc gk o D B) (hdec : decode cc pc = .ok (.caload, 1)) (h : ldA gk 3 S (fun k q n r => Wx p l e R s m args below meth c Q nL c0 s0 E (pc + 1) L (vI (w.1 k q n) :: r) w n0)) : Wx p l e R s m args below meth c Q nL c0 s0 E pc L S w n0 := by
  obtain ⟨hx, hb, -, -, hSF, -, hI, -, -⟩ := F
  intro hl H locs ls hH hL
  unfold ldA at h
  split at h
  · rename_i i a r
    obtain ⟨k, q, hm, ha, h⟩ := rf_spec hI (fun k i h => by obtain ⟨n, b, hs, -, -⟩ := ofT_spec h; rw [hs]; simp) h
    obtain ⟨len, b, hs, ⟨n, rfl, hn, h⟩, hlt⟩ := ofT_spec h
    obtain ⟨q0, -, hq⟩ := wl_pos (w := w) hm
    rw [wcell_3 hs] at hq
    show W p l e R s m args below meth c H locs _ _ Q (F0 m pc ls (Value.int (nI n) :: cv E a :: r.map (cv E)))
    rw [ha]
    refine va_cald hx hb hSF.1 hH.1 q0 2 hq rfl (vp_in_nI hn (by omega)) hdec ?_
    rw [nI_clamp (by omega)]
    exact h hl H locs ls hH hL
  · exact h.elim
theorem m_zald (F : MF p R s m c nL c0 s0 E cc gk o D B) (hdec : decode cc pc = .ok (.baload, 1)) (h : ldA gk 4 S (fun k q n r => Wx p l e R s m args below meth c Q nL c0 s0 E (pc + 1) L (vI (w.1 k q n) :: r) w n0)) : Wx p l e R s m args below meth c Q nL c0 s0 E pc L S w n0 := by
  obtain ⟨hx, hb, -, -, hSF, -, hI, -, -⟩ := F
  intro hl H locs ls hH hL
  unfold ldA at h
  split at h
  · rename_i i a r
    obtain ⟨k, q, hm, ha, h⟩ := rf_spec hI (fun k i h => by obtain ⟨n, b, hs, -, -⟩ := ofT_spec h; rw [hs]; simp) h
    obtain ⟨len, b, hs, ⟨n, rfl, hn, h⟩, hlt⟩ := ofT_spec h
    obtain ⟨q0, -, hq⟩ := wl_pos (w := w) hm
    rw [wcell_4 hs] at hq
    show W p l e R s m args below meth c H locs _ _ Q (F0 m pc ls (Value.int (nI n) :: cv E a :: r.map (cv E)))
    rw [ha]
    refine va_zald hx hb hSF.1 hH.1 q0 3 hq rfl (vp_in_nI hn (by omega)) hdec ?_
    rw [nI_clamp (by omega)]
    exact h hl H locs ls hH hL
  · exact h.elim
theorem m_iast (F : MF p R s m c nL c0 s0 E cc gk o D B) (hdec : decode cc pc = .ok (.iastore, 1)) (h : stA gk 1 S (fun k q n x r => Wx p l e R s m args below meth c Q nL c0 s0 E (pc + 1) L r (wI w k q n x) n0)) : Wx p l e R s m args below meth c Q nL c0 s0 E pc L S w n0 := by
  obtain ⟨hx, hb, -, -, hSF, hok, hI, -, -⟩ := F
  intro hl H locs ls hH hL
  unfold stA at h
  split at h
  · rename_i x i a r
    obtain ⟨k, q, hm, ha, h⟩ := rf_spec hI (fun k i h => by obtain ⟨n, b, hs, -, -⟩ := ofT_spec h; rw [hs]; simp) h
    obtain ⟨len, b, hs, ⟨n, rfl, hn, h⟩, hlt⟩ := ofT_spec h
    obtain ⟨q0, hq0, hq⟩ := wl_pos (w := w) hm
    have he := wl_set (w := w) (w' := wI w k q n x) hok hq0 wI_other
    rw [wcell_1 hs, wI_at] at he
    rw [wcell_1 hs] at hq
    show W p l e R s m args below meth c H locs _ _ Q (F0 m pc ls (Value.int x :: Value.int (nI n) :: cv E a :: r.map (cv E)))
    rw [ha]
    refine va_iast hx hb hSF.1 hH.1 hH.2.1 hH.2.2 q0 0 hq rfl (vp_in_nI hn (by omega)) hdec (fun H1 locs1 hP hD hS => ?_)
    rw [nI_clamp (by omega), he] at hP hD
    exact h hl H1 locs1 ls ⟨hP, hD, hS⟩ hL
  · exact h.elim
theorem m_cast (F : MF p R s m c nL c0 s0 E cc gk o D B) (hdec : decode cc pc = .ok (.castore, 1)) (h : stA gk 3 S (fun k q n x r => Wx p l e R s m args below meth c Q nL c0 s0 E (pc + 1) L r (wI w k q n (vp_nar .char x)) n0)) : Wx p l e R s m args below meth c Q nL c0 s0 E pc L S w n0 := by
  obtain ⟨hx, hb, -, -, hSF, hok, hI, -, -⟩ := F
  intro hl H locs ls hH hL
  unfold stA at h
  split at h
  · rename_i x i a r
    obtain ⟨k, q, hm, ha, h⟩ := rf_spec hI (fun k i h => by obtain ⟨n, b, hs, -, -⟩ := ofT_spec h; rw [hs]; simp) h
    obtain ⟨len, b, hs, ⟨n, rfl, hn, h⟩, hlt⟩ := ofT_spec h
    obtain ⟨q0, hq0, hq⟩ := wl_pos (w := w) hm
    have he := wl_set (w := w) (w' := wI w k q n (vp_nar .char x)) hok hq0 wI_other
    rw [wcell_3 hs, wI_at] at he
    rw [wcell_3 hs] at hq
    show W p l e R s m args below meth c H locs _ _ Q (F0 m pc ls (Value.int x :: Value.int (nI n) :: cv E a :: r.map (cv E)))
    rw [ha]
    refine va_cast hx hb hSF.1 hH.1 hH.2.1 hH.2.2 q0 2 hq rfl (vp_in_nI hn (by omega)) hdec (fun H1 locs1 hP hD hS => ?_)
    rw [nI_clamp (by omega), he] at hP hD
    exact h hl H1 locs1 ls ⟨hP, hD, hS⟩ hL
  · exact h.elim
theorem m_zast (F : MF p R s m c nL c0 s0 E cc gk o D B) (hdec : decode cc pc = .ok (.bastore, 1)) (h : stA gk 4 S (fun k q n x r => Wx p l e R s m args below meth c Q nL c0 s0 E (pc + 1) L r (wI w k q n (vp_nar .boolean x)) n0)) : Wx p l e R s m args below meth c Q nL c0 s0 E pc L S w n0 := by
  obtain ⟨hx, hb, -, -, hSF, hok, hI, -, -⟩ := F
  intro hl H locs ls hH hL
  unfold stA at h
  split at h
  · rename_i x i a r
    obtain ⟨k, q, hm, ha, h⟩ := rf_spec hI (fun k i h => by obtain ⟨n, b, hs, -, -⟩ := ofT_spec h; rw [hs]; simp) h
    obtain ⟨len, b, hs, ⟨n, rfl, hn, h⟩, hlt⟩ := ofT_spec h
    obtain ⟨q0, hq0, hq⟩ := wl_pos (w := w) hm
    have he := wl_set (w := w) (w' := wI w k q n (vp_nar .boolean x)) hok hq0 wI_other
    rw [wcell_4 hs, wI_at] at he
    rw [wcell_4 hs] at hq
    show W p l e R s m args below meth c H locs _ _ Q (F0 m pc ls (Value.int x :: Value.int (nI n) :: cv E a :: r.map (cv E)))
    rw [ha]
    refine va_zast hx hb hSF.1 hH.1 hH.2.1 hH.2.2 q0 3 hq rfl (vp_in_nI hn (by omega)) hdec (fun H1 locs1 hP hD hS => ?_)
    rw [nI_clamp (by omega), he] at hP hD
    exact h hl H1 locs1 ls ⟨hP, hD, hS⟩ hL
  · exact h.elim
theorem m_last (F : MF p R s m c nL c0 s0 E cc gk o D B) (hdec : decode cc pc = .ok (.lastore, 1)) (h : stAJ gk S (fun k q n x r => Wx p l e R s m args below meth c Q nL c0 s0 E (pc + 1) L r (wJ w k q n x) n0)) : Wx p l e R s m args below meth c Q nL c0 s0 E pc L S w n0 := by
  obtain ⟨hx, hb, -, -, hSF, hok, hI, -, -⟩ := F
  intro hl H locs ls hH hL
  unfold stAJ at h
  split at h
  · rename_i x i a r
    obtain ⟨k, q, hm, ha, h⟩ := rf_spec hI (fun k i h => by obtain ⟨n, b, hs, -, -⟩ := ofT_spec h; rw [hs]; simp) h
    obtain ⟨len, b, hs, ⟨n, rfl, hn, h⟩, hlt⟩ := ofT_spec h
    obtain ⟨q0, hq0, hq⟩ := wl_pos (w := w) hm
    have he := wl_set (w := w) (w' := wJ w k q n x) hok hq0 wJ_other
    rw [wcell_2 hs, wJ_at] at he
    rw [wcell_2 hs] at hq
    show W p l e R s m args below meth c H locs _ _ Q (F0 m pc ls (Value.long x :: Value.int (nI n) :: cv E a :: r.map (cv E)))
    rw [ha]
    refine va_last hx hb hSF.1 hH.1 hH.2.1 hH.2.2 q0 1 hq rfl (vp_in_nI hn (by omega)) hdec (fun H1 locs1 hP hD hS => ?_)
    rw [nI_clamp (by omega), he] at hP hD
    exact h hl H1 locs1 ls ⟨hP, hD, hS⟩ hL
  · exact h.elim
theorem fdA_spec {E : En} {gk : Nat → Bool} {o : OT} {idx : Nat} {a : AV} {f : Nat → Nat → Nat → Nat → Prop} (hI : ∀ k i : Nat, gk k = true → i < cnt k → (k, i) ∈ eI E) (ho : otOK o = true) (h : fdA gk o.2.1 idx a f) :
    ∃ k q cl j b : Nat, (k, q) ∈ eI E ∧ cv E a = .ref (eA E k q) ∧ shp k = (0, cl, b) ∧ cl < 5 ∧ j < nfl cl ∧ f k q j (ftc cl j) ∧ inT (.fieldLink o.1 idx ((clsT cl).2.1 j).1 ((clsT cl).2.1 j).2.1 ((clsT cl).2.1 j).2.2.1) = true := by
  unfold fdA at h
  split at h
  · rename_i cl j hlk
    obtain ⟨k, q, hm, ha, h⟩ := rf_spec hI (fun k i h => by obtain ⟨n, b, hs, -, -⟩ := ofT_spec h; rw [hs]; simp) h
    obtain ⟨n, b, hs, h, -⟩ := ofT_spec h
    split at h
    · rename_i hbb
      rw [Bool.and_eq_true] at hbb
      have e1 : n = cl := Nat.eq_of_beq_eq_true hbb.1
      have e2 : j < nfl cl := by
        have := hbb.2
        unfold Nat.blt at this
        exact Nat.le_of_ble_eq_true this
      subst e1
      unfold otOK at ho
      simp only [Bool.and_eq_true] at ho
      have h3 := List.all_eq_true.mp ho.1.1.1 _ (lk_mem hlk)
      rw [Bool.and_eq_true] at h3
      unfold flOK at h3
      simp only [Bool.and_eq_true, decide_eq_true_eq] at h3
      exact ⟨k, q, n, j, b, hm, ha, hs, h3.1.1.1, e2, h, h3.2⟩
    · exact h.elim
  · exact h.elim
theorem m_get {idx : Nat} (F : MF p R s m c nL c0 s0 E cc gk o D B) (hdec : decode cc pc = .ok (.getfield idx, 3)) {a : AV} {r : List AV} (h : fdA gk o.2.1 idx a (fun k q j t => match t with
      | 0 => Wx p l e R s m args below meth c Q nL c0 s0 E (pc + 3) L (vI (w.1 k q j) :: r) w n0
      | 1 => Wx p l e R s m args below meth c Q nL c0 s0 E (pc + 3) L (vI (w.1 k q j) :: r) w n0
      | 2 => Wx p l e R s m args below meth c Q nL c0 s0 E (pc + 3) L (vJ (w.2 k q j) :: r) w n0
      | t + 3 => Wx p l e R s m args below meth c Q nL c0 s0 E (pc + 3) L (vR t :: r) w n0)) : Wx p l e R s m args below meth c Q nL c0 s0 E pc L (a :: r) w n0 := by
  obtain ⟨hx, hb, -, hown, hSF, hok, hI, ho, -⟩ := F
  obtain ⟨k, q, cl, j, b, hm, ha, hs, h5, hj, h, hin⟩ := fdA_spec hI ho h
  intro hl H locs ls hH hL
  obtain ⟨q0, -, hq⟩ := wl_pos (w := w) hm
  rw [wcell_0 hs] at hq
  obtain ⟨hc, hN, -, -⟩ := cls_all cl h5
  show W p l e R s m args below meth c H locs _ _ Q (F0 m pc ls (cv E a :: r.map (cv E)))
  rw [ha]
  have hv : ((List.range (nfl cl)).map (fval E w k q cl))[j]? = some (fval E w k q cl j) := by simp [hj]
  refine va_get (C := (clsT cl).1) (T := (clsT cl).2.1) (N := (clsT cl).2.2) (ref := ((clsT cl).2.1 j).1) hx hb (Ts := u_ws (clsT cl).1 (clsT cl).2.1 (clsT cl).2.2) (fun w hw => hSF.2.1.use (cls_ws cl h5 w hw).1 (cls_ws cl h5 w hw).2 args) (fun w hw => hw) hown hSF.1 hH.1 q0 hq hc j (by rw [hN]; exact hj) (inT_use hSF.2.1 hin args) (fun x hx => hx) hv hdec ?_
  unfold fval
  revert h
  generalize ftc cl j = t
  match t with
  | 0 => exact fun h => h hl H locs ls hH hL
  | 1 => exact fun h => h hl H locs ls hH hL
  | 2 => exact fun h => h hl H locs ls hH hL
  | t + 3 => exact fun h => h hl H locs ls hH hL
theorem m_put {idx : Nat} (F : MF p R s m c nL c0 s0 E cc gk o D B) (hdec : decode cc pc = .ok (.putfield idx, 3)) {v a : AV} {r : List AV} (h : fdA gk o.2.1 idx a (fun k q j t => match t, v with
      | 0, .inl x => Wx p l e R s m args below meth c Q nL c0 s0 E (pc + 3) L r (wI w k q j x) n0
      | 1, .inl x => (x = 0 ∨ x = 1) ∧ Wx p l e R s m args below meth c Q nL c0 s0 E (pc + 3) L r (wI w k q j x) n0
      | 2, .inr (.inl x) => Wx p l e R s m args below meth c Q nL c0 s0 E (pc + 3) L r (wJ w k q j x) n0
      | _, _ => False)) : Wx p l e R s m args below meth c Q nL c0 s0 E pc L (v :: a :: r) w n0 := by
  obtain ⟨hx, hb, -, hown, hSF, hok, hI, ho, -⟩ := F
  obtain ⟨k, q, cl, j, b, hm, ha, hs, h5, hj, h, hin⟩ := fdA_spec hI ho h
  intro hl H locs ls hH hL
  obtain ⟨q0, hq0, hq⟩ := wl_pos (w := w) hm
  rw [wcell_0 hs] at hq
  obtain ⟨hc, hN, hty, hpd⟩ := cls_all cl h5
  have hty := hty j hj
  have hpd := hpd j hj
  have key : ∀ (V : Value) (w' : Wd), (clsT cl).2.1 j |>.2.2.2 = false → narrow (tyT cl j) V = V → fits (tyT cl j) V = true → (∀ a b : Nat, ¬ (a = k ∧ b = q) → wcell E w' a b = wcell E w a b) →
      ((List.range (nfl cl)).map (fval E w k q cl)).set j V = (List.range (nfl cl)).map (fval E w' k q cl) → Wx p l e R s m args below meth c Q nL c0 s0 E (pc + 3) L r w' n0 →
      W p l e R s m args below meth c H locs (c0 + n0) (s0 + 6 * n0) Q (F0 m pc ls (V :: cv E a :: r.map (cv E))) := by
    intro V w' hfin hn hfit ho2 hset hk
    have he := wl_set (w := w) (w' := w') hok hq0 ho2
    rw [wcell_0 hs, ← hset] at he
    rw [ha]
    refine va_put (C := (clsT cl).1) (T := (clsT cl).2.1) (N := (clsT cl).2.2) (ref := ((clsT cl).2.1 j).1) hx hb (Ts := u_ws (clsT cl).1 (clsT cl).2.1 (clsT cl).2.2) (fun w hw => hSF.2.1.use (cls_ws cl h5 w hw).1 (cls_ws cl h5 w hw).2 args) (fun w hw => hw) (tyT cl) (fun k hk => (cls_all cl h5).2.2.2 k (by rw [← hN]; exact hk)) (cls_nm cl h5) hown hSF.1 hH.1 hH.2.1 hH.2.2 q0 hq hc j (by rw [hN]; exact hj) (inT_use hSF.2.1 hin args) (fun x hx => hx) hfin hpd hn hfit (by simp; exact hj) hdec (fun H1 locs1 hP hD hS => ?_)
    rw [he] at hP hD
    exact hk hl H1 locs1 ls ⟨hP, hD, hS⟩ hL
  unfold tyOK at hty
  have hset0 : ∀ x, ftc cl j = 0 ∨ ftc cl j = 1 → _ := fun x z => fval_setI (E := E) (w := w) (k := k) (i := q) (x := x) z hj
  have hset2 : ∀ x, ftc cl j = 2 → _ := fun x z => fval_setJ (E := E) (w := w) (k := k) (i := q) (x := x) z hj
  revert h hty hset0 hset2
  generalize ftc cl j = t
  intro h hty hset0 hset2
  match t, v, h, hty, hset0, hset2 with
  | 0, .inl x, h, hty, hset0, hset2 =>
    simp only [Bool.and_eq_true, decide_eq_true_eq, Bool.not_eq_true'] at hty
    exact key (.int x) (wI w k q j x) hty.2 (by rw [hty.1]; rfl) (by rw [hty.1]; rfl) wI_other (hset0 x (Or.inl rfl)) h
  | 1, .inl x, h, hty, hset0, hset2 =>
    simp only [Bool.and_eq_true, decide_eq_true_eq, Bool.not_eq_true'] at hty
    exact key (.int x) (wI w k q j x) hty.2 (by rw [hty.1]; rcases h.1 with rfl | rfl <;> rfl) (by rw [hty.1]; rcases h.1 with rfl | rfl <;> rfl) wI_other (hset0 x (Or.inr rfl)) h.2
  | 2, .inr (.inl x), h, hty, hset0, hset2 =>
    simp only [Bool.and_eq_true, decide_eq_true_eq, Bool.not_eq_true'] at hty
    exact key (.long x) (wJ w k q j x) hty.2 (by rw [hty.1]; rfl) (by rw [hty.1]; rfl) wJ_other (hset2 x rfl) h
  | 0, .inr _, h, _, _, _ => exact h.elim
  | 1, .inr _, h, _, _, _ => exact h.elim
  | 2, .inl _, h, _, _, _ => exact h.elim
  | 2, .inr (.inr _), h, _, _, _ => exact h.elim
  | t + 3, _, h, _, _, _ => exact h.elim
theorem m_aald (F : MF p R s m c nL c0 s0 E cc gk o D B) (hdec : decode cc pc = .ok (.aaload, 1)) {i : Int32} {k : Nat} {r : List AV} (h : match gk k, shp k with
      | true, (5, m', b) => ∃ n : Nat, i = nI n ∧ n < m' ∧ Wx p l e R s m args below meth c Q nL c0 s0 E (pc + 1) L (vQ b n :: r) w n0
      | true, (6, m', b) => ∃ n : Nat, i = nI n ∧ n < m' ∧ Wx p l e R s m args below meth c Q nL c0 s0 E (pc + 1) L (vQ b n :: r) w n0
      | _, _ => False) : Wx p l e R s m args below meth c Q nL c0 s0 E pc L (.inl i :: .inr (.inr (.inl k)) :: r) w n0 := by
  obtain ⟨hx, hb, -, -, hSF, -, hI, -, -⟩ := F
  intro hl H locs ls hH hL
  have hsm := shp_small k
  split at h
  · rename_i m' b hg hs
    obtain ⟨n, rfl, hn, h⟩ := h
    rw [hs] at hsm
    have hm : (k, 0) ∈ eI E := hI k 0 hg (cnt_pos (by rw [hs]; simp))
    obtain ⟨q0, -, hq⟩ := wl_pos (w := w) hm
    rw [wcell_5 hs] at hq
    have hlt : (nI n).toNatClampNeg < m' := by rw [nI_clamp (by simp only at hsm; omega)]; exact hn
    have hin : vp_in (nI n) m' := vp_in_nI hn (by simp only at hsm; omega)
    refine W.aald (v := .ref (eA E b n)) (ty := .array .int) hx hb (hH.1 q0 _ hq) ((hSF.1.2 4 _ rfl).1 m' (fun j => va_rf (if j < m' then some (eA E b j) else none))) rfl (fun z => by cases z) (by show ¬ (nI n < 0 ∨ (arrV _ _ _).slots.size ≤ _); rw [arrV_size]; exact hin) (by show (arrV _ _ _).slots[_]? = _; rw [arrV_read _ _ hlt, nI_clamp (by simp only at hsm; omega)]; simp [hn, va_rf]) rfl rfl hdec ?_
    exact h hl H locs ls hH hL
  · rename_i m' b hg hs
    obtain ⟨n, rfl, hn, h⟩ := h
    rw [hs] at hsm
    have hm : (k, 0) ∈ eI E := hI k 0 hg (cnt_pos (by rw [hs]; simp))
    obtain ⟨q0, -, hq⟩ := wl_pos (w := w) hm
    rw [wcell_6 hs] at hq
    have hlt : (nI n).toNatClampNeg < m' := by rw [nI_clamp (by simp only at hsm; omega)]; exact hn
    have hin : vp_in (nI n) m' := vp_in_nI hn (by simp only at hsm; omega)
    refine W.aald (v := .ref (eA E b n)) (ty := .array .long) hx hb (hH.1 q0 _ hq) ((hSF.1.2 5 _ rfl).1 m' (fun j => va_rf (if j < m' then some (eA E b j) else none))) rfl (fun z => by cases z) (by show ¬ (nI n < 0 ∨ (arrV _ _ _).slots.size ≤ _); rw [arrV_size]; exact hin) (by show (arrV _ _ _).slots[_]? = _; rw [arrV_read _ _ hlt, nI_clamp (by simp only at hsm; omega)]; simp [hn, va_rf]) rfl rfl hdec ?_
    exact h hl H locs ls hH hL
  · exact h.elim
end
end
section
/-! calls, and all instructions together -/
section
variable {p : Program} {l : Launch} {e : Env} {R : Room} {s : State} {m : MethodId} {args : Array Value} {below : List Frame} {meth : Method} {c : Code} {Q : State → Prop} {nL c0 s0 : Nat} {E : En}
variable {cc : ByteArray} {gk : Nat → Bool} {o : OT} {D B : Nat} {pc n0 : Nat} {L : List (Option AV)} {S : List AV} {w : Wd}
theorem m_call {H : Heap} {locs : List Loc} {cells slots mc ms : Nat} {ls : Array Slot} {st0 rest : List Value} {a : Array Value} {po : Option AV → Wd → Prop} {xo : String → Wd → Prop}
    (hr : vx_Run p l e R s m args below meth c H locs cells slots mc ms (F0 m pc ls st0) rest (Qx E po H.size a) (Xx E xo H.size) (AE E H.size)) (hS : va_S (AE E s.heap.size) s.heap H locs)
    (kx : ∀ (X : String) (ce : Cell) (q9 : Addr) (u : Wd) (H1 : Heap) (locs1 : List Loc), xo X u → va_P (eD E) vwCl (wl E u) H1 → va_S (AE E s.heap.size) s.heap H1 locs1 → H1[q9]? = some ce → ce.vm = .none → s.vm.findClass X = some ce.cls → vx_W p l e R s m args below meth c H1 locs1 (cells + mc) (slots + ms) Q (F0 m pc ls rest) q9)
    (kk : ∀ (r : Option AV) (u : Wd) (H1 : Heap) (locs1 : List Loc), po r u → va_P (eD E) vwCl (wl E u) H1 → va_S (AE E s.heap.size) s.heap H1 locs1 → W p l e R s m args below meth c H1 locs1 (cells + mc) (slots + ms) Q (F0 m (pc + 3) ls ((r.map (cv E)).toList ++ rest))) :
    W p l e R s m args below meth c H locs cells slots Q (F0 m pc ls st0) := by
  have hA : ∀ q, q < H.size → AE E H.size q → AE E s.heap.size q := fun q _ h => AE.mono hS.1 h
  have hf : ∀ q, AE E H.size q → AE E s.heap.size q := fun q h => AE.mono hS.1 h
  intro T hT X
  rcases hr T hT X with ⟨v, st₀, t, T', L, h0, X', hL, e1, e2, ⟨⟨r, u, hv, hp, hb⟩, hF⟩, st⟩ | ⟨q, st₀, t, T', L, E', ce, h0, X', hL, e1, e2, ⟨u, hp, hb, hF⟩, hce, hcv, hcl, st⟩
  · cases hv
    obtain ⟨k1, k2, k3⟩ := vx_keep h0 e1 hS hA hf hL hF
    obtain ⟨t2, a1, b1⟩ := kk r u T'.heap (locs ++ L) hp (by rw [e1]; exact hb) k3 T' rfl X'
    exact ⟨t2, st t2 a1, b1⟩
  · obtain ⟨k1, k2, k3⟩ := vx_keep h0 e1 hS hA hf hL hF
    obtain ⟨t2, a1, b1⟩ := kx E' ce q u T'.heap (locs ++ L) hp (by rw [e1]; exact hb) k3 (by rw [e1]; exact hce) hcv hcl T' rfl X'
    exact ⟨t2, st.trans a1, b1⟩
theorem HW.blind {As : List AV} {sz : Nat} : FrameBlind (va_Pc (As.map (cv E)) (fun U => U.heap.size = sz ∧ HW E w U)) := by
  intro a U g mk ⟨h1, h2, h3, h4, h5⟩
  exact ⟨h1, h2, h3, h4, h5.moved (U := U.calling g mk a) (State.WarmedH.refl U) (Nat.le_refl _) (fun _ _ _ => rfl)⟩
theorem HW.pre {H : Heap} {locs : List Loc} (hSF : SF E s s.heap.size s.heap) (hH : HS s E w H locs) (As : List AV) (U : State) (hU : U.heap = H) (hW : s.WarmedH U.vm) : va_Pc (As.map (cv E)) (fun U => U.heap.size = H.size ∧ HW E w U) (As.map (cv E)).toArray U := by
  refine ⟨rfl, by rw [hU], by rw [hU]; exact hH.1, hH.2.1.weaken (fun _ _ _ _ => trivial), ?_⟩
  rw [hU]
  exact hSF.moved hW hH.2.2.1 hH.2.2.2.1
/-- what becomes of an exception that a call at pc leaves -/
def XK (p : Program) (l : Launch) (e : Env) (R : Room) (s : State) (m : MethodId) (args : Array Value) (below : List Frame) (meth : Method) (c : Code) (Q : State → Prop) (nL c0 s0 : Nat) (E : En) (hd : Nat → String → Option Nat) (B : Nat) (xp : String → Wd → Prop) : Prop :=
  ∀ (pc : Nat) (X : String) (u : Wd) (n : Nat) (H1 : Heap) (locs1 : List Loc) (L : List (Option AV)) (ls : Array Slot) (rest : List Value) (ce : Cell) (q9 : Addr), n ≤ B → L.length = nL → LR E nL ls L → HS s E u H1 locs1 → H1[q9]? = some ce → ce.vm = .none → s.vm.findClass X = some ce.cls →
    (match hd pc X with
      | some h => ∀ q : Nat, Wx p l e R s m args below meth c Q nL c0 s0 E h L [vO q] u n
      | none => xp X u) → vx_W p l e R s m args below meth c H1 locs1 (c0 + n) (s0 + 6 * n) Q (F0 m pc ls rest) q9
theorem wsOf_use {mi : MI} (hT : TBL s) (h : (wsOf mi).all inT = true) : ∀ w ∈ wsOf mi, ∀ (a' : Array Value) (U : State), s.WarmedH U.vm → w.before a' U = true := fun w hw a' U hW => inT_use (hT.moved hW) (List.all_eq_true.mp h w hw) a'
theorem desc_len {y : MethodName} {n : Nat} (h : (parseMethodDescriptor y.desc).map (fun d => d.parameters.length) = some n) : ∀ sig, parseMethodDescriptor y.desc = some sig → n = sig.parameters.length := fun sig hs => by
  rw [hs] at h
  exact (Option.some.inj h).symm
theorem m_callS {idx : Nat} {hd : Nat → String → Option Nat} {xp : String → Wd → Prop} (F : MF p R s m c nL c0 s0 E cc gk o D B) (hX : XK p l e R s m args below meth c Q nL c0 s0 E hd B xp) (hdec : decode cc pc = .ok (.invokestatic idx, 3)) {mi : MI} (hlk : lk o.2.2.2.2 idx = some mi) (h99 : mi.2.2.2.2.2.1 = 99) {As r : List AV} (hpop : popA mi.2.2.2.2.1 [] S = some (As, r)) (hcat : catS r ≤ 8)
    (h : callP l E D B mi As w n0 (fun v u k => Wx p l e R s m args below meth c Q nL c0 s0 E (pc + 3) L (v.toList ++ r) u k) (fun X u k => match hd pc X with
          | some h => ∀ q : Nat, Wx p l e R s m args below meth c Q nL c0 s0 E h L [vO q] u k
          | none => xp X u)) : Wx p l e R s m args below meth c Q nL c0 s0 E pc L S w n0 := by
  obtain ⟨hx, hb, hml, hown, hSF, hok, hI, ho, hR1, hR2, hR3, hR4⟩ := F
  obtain ⟨d, b, po, xo, hd1, hb1, hC, hk, hxk⟩ := h
  intro hl H locs ls hH hL
  obtain ⟨P, hP1, hP2, hP3⟩ := popA_spec _ _ _ _ _ hpop
  rw [List.append_nil] at hP1
  subst hP1
  have hM := hC H.size
  unfold otOK at ho
  simp only [Bool.and_eq_true] at ho
  have hmi := List.all_eq_true.mp ho.2 _ (lk_mem hlk)
  unfold miOK at hmi
  simp only [Bool.and_eq_true, decide_eq_true_eq] at hmi
  obtain ⟨⟨⟨⟨⟨⟨w1, w2⟩, w3⟩, w4⟩, w5⟩, w6⟩, w7⟩ := hmi
  rw [if_pos h99] at w7
  have hS0 : S.map (cv E) = (As.map (cv E)).reverse ++ r.map (cv E) := by rw [hP2, List.map_append, List.map_reverse]
  have hroom : 2 * (F0 m pc ls (S.map (cv E))).monitorRoom + ((r.map (cv E)).map fun v => v.category).sum ≤ 8 := lv_room (by rw [catS_sum]; exact hcat)
  have hr : vx_Run p l e R s m args below meth c H locs (c0 + n0) (s0 + 6 * n0) b (6 * b) (F0 m pc ls (S.map (cv E))) (r.map (cv E)) (Qx E po H.size (As.map (cv E)).toArray) (Xx E xo H.size) (AE E H.size) := by
    have hws := wsOf_use (mi := mi) hSF.2.1 w3
    have hPre : PreS s H (va_Pc (As.map (cv E)) (fun U => U.heap.size = H.size ∧ HW E w U)) (As.map (cv E)) := ⟨HW.blind, fun U hU hW => HW.pre hSF hH As U hU hW⟩
    have hlen : (As.map (cv E)).length = mi.2.2.2.2.1 := by rw [List.length_map]; exact hP3
    have hfit : (c0 + n0) + b ≤ R.cells ∧ (s0 + 6 * n0) + 6 * b ≤ R.slots := ⟨by omega, by omega⟩
    have hrm : (rmo d b).frames + 1 ≤ R.frames ∧ 8 + (mi.2.2.1 + 11) + (rmo d b).locals ≤ R.locals := ⟨by show d + 8 + 1 ≤ _; omega, by show 8 + (mi.2.2.1 + 11) + (64 * d + 128) ≤ _; omega⟩
    cases hhh : mi.2.2.2.2.2.2 with
    | nil =>
      have hw : wsOf mi = [.code mi.1 mi.2.1 mi.2.2.1 mi.2.2.2.1] := by unfold wsOf; rw [hhh]
      have hcw : Cond.code mi.1 mi.2.1 mi.2.2.1 mi.2.2.2.1 ∈ wsOf mi := by rw [hw]; exact List.mem_cons_self
      exact vx_runS (Ts := []) (own := o.1) (bytes := mi.2.1) (maxL := mi.2.2.1) (ret := mi.2.2.2.1) (index := idx) ⟨hx, hb, hml, hown, fun _ z => nomatch z⟩ hM
        ⟨⟨rfl, rfl, hrm.1, hrm.2, hws, hcw, hws _ hcw args s (State.WarmedH.refl s), inT_use hSF.2.1 w2 args, w4, desc_len w5, inT_use hSF.2.1 w1 args⟩, inT_use hSF.2.1 w7 args⟩ hPre rfl hlen hL.1 hS0 hroom hdec hfit
    | cons q qs =>
      have hw : wsOf mi = [.codeWith mi.1 mi.2.1 mi.2.2.1 mi.2.2.2.1 (q :: qs)] := by unfold wsOf; rw [hhh]
      have hcw : Cond.codeWith mi.1 mi.2.1 mi.2.2.1 mi.2.2.2.1 (q :: qs) ∈ wsOf mi := by rw [hw]; exact List.mem_cons_self
      exact vx_runSX (Ts := []) (own := o.1) (bytes := mi.2.1) (maxL := mi.2.2.1) (ret := mi.2.2.2.1) (index := idx) (hh := q :: qs) ⟨hx, hb, hml, hown, fun _ z => nomatch z⟩ hM
        ⟨⟨rfl, rfl, hrm.1, hrm.2, hws, hcw⟩, hws _ hcw args s (State.WarmedH.refl s), inT_use hSF.2.1 w2 args, w4, desc_len w5, inT_use hSF.2.1 w1 args, inT_use hSF.2.1 w7 args⟩ hPre rfl hlen hL.1 hS0 hroom hdec hfit
  refine m_call hr hH.2.2 (fun X ce q9 u H1 locs1 hxo hP hS hce hcv hcl => ?_) (fun v u H1 locs1 hpo hP hS => ?_)
  · have := hX pc X u (n0 + b) H1 locs1 L ls (r.map (cv E)) ce q9 hb1 hl hL ⟨hP, wl_D hH.2.1, hS⟩ hce hcv hcl (hxk X u hxo)
    rwa [show c0 + n0 + b = c0 + (n0 + b) by omega, show s0 + 6 * n0 + 6 * b = s0 + 6 * (n0 + b) by omega]
  · have := hk v u hpo hl H1 locs1 ls ⟨hP, wl_D hH.2.1, hS⟩ hL
    rw [show c0 + n0 + b = c0 + (n0 + b) by omega, show s0 + 6 * n0 + 6 * b = s0 + 6 * (n0 + b) by omega]
    rw [List.map_append] at this
    cases v <;> exact this
theorem m_callV {idx : Nat} {hd : Nat → String → Option Nat} {xp : String → Wd → Prop} (F : MF p R s m c nL c0 s0 E cc gk o D B) (hX : XK p l e R s m args below meth c Q nL c0 s0 E hd B xp) (hdec : decode cc pc = .ok (.invokevirtual idx, 3)) {mi : MI} (hlk : lk o.2.2.2.2 idx = some mi) {k cl b0 : Nat} (hg : gk k = true) (hs : shp k = (0, cl, b0)) (hcl : mi.2.2.2.2.2.1 = cl) {As r : List AV} (hpop : popA (mi.2.2.2.2.1 + 1) [] S = some (vR k :: As, r)) (hcat : catS r ≤ 8)
    (h : callP l E D B mi (vR k :: As) w n0 (fun v u k => Wx p l e R s m args below meth c Q nL c0 s0 E (pc + 3) L (v.toList ++ r) u k) (fun X u k => match hd pc X with
          | some h => ∀ q : Nat, Wx p l e R s m args below meth c Q nL c0 s0 E h L [vO q] u k
          | none => xp X u)) : Wx p l e R s m args below meth c Q nL c0 s0 E pc L S w n0 := by
  obtain ⟨hx, hb, hml, hown, hSF, hok, hI, ho, hR1, hR2, hR3, hR4⟩ := F
  obtain ⟨d, b, po, xo, hd1, hb1, hC, hk, hxk⟩ := h
  intro hl H locs ls hH hL
  obtain ⟨P, hP1, hP2, hP3⟩ := popA_spec _ _ _ _ _ hpop
  rw [List.append_nil] at hP1
  subst hP1
  have hM := hC H.size
  unfold otOK at ho
  simp only [Bool.and_eq_true] at ho
  have hmi := List.all_eq_true.mp ho.2 _ (lk_mem hlk)
  unfold miOK at hmi
  simp only [Bool.and_eq_true, decide_eq_true_eq] at hmi
  obtain ⟨⟨⟨⟨⟨⟨w1, w2⟩, w3⟩, w4⟩, w5⟩, w6⟩, w7⟩ := hmi
  rw [hcl] at w7
  have hm : (k, 0) ∈ eI E := hI k 0 hg (cnt_pos (by rw [hs]; simp))
  obtain ⟨q0, -, hq⟩ := wl_pos (w := w) hm
  rw [wcell_0 hs] at hq
  have h99 : cl ≠ 99 := by
    rintro rfl
    have := shp_in k
    rw [hs] at this
    have key : ∀ x ∈ ((9, 0, 0) :: shpL : List (Nat × Nat × Nat)), x.1 = 0 → x.2.1 ≠ 99 := by decide
    exact key _ this rfl rfl
  rw [if_neg h99] at w7
  simp only [Bool.and_eq_true, decide_eq_true_eq] at w7
  obtain ⟨⟨⟨v1, v2⟩, v3⟩, v4⟩ := w7
  have hS0 : S.map (cv E) = (As.map (cv E)).reverse ++ .ref (eA E k 0) :: r.map (cv E) := by
    rw [hP2, List.map_append, List.map_reverse, List.map_cons, List.reverse_cons, List.append_assoc]
    rfl
  have hroom : 2 * (F0 m pc ls (S.map (cv E))).monitorRoom + ((r.map (cv E)).map fun v => v.category).sum ≤ 8 := lv_room (by rw [catS_sum]; exact hcat)
  have hr : vx_Run p l e R s m args below meth c H locs (c0 + n0) (s0 + 6 * n0) b (6 * b) (F0 m pc ls (S.map (cv E))) (r.map (cv E)) (Qx E po H.size ((vR k :: As).map (cv E)).toArray) (Xx E xo H.size) (AE E H.size) := by
    have hws := wsOf_use (mi := mi) hSF.2.1 w3
    have hPre : PreV s H mi.1.cls (eA E k 0) (va_Pc ((vR k :: As).map (cv E)) (fun U => U.heap.size = H.size ∧ HW E w U)) (As.map (cv E)) := ⟨HW.blind, by
      have := va_recv hSF.1 hH.1 (cls_all cl v1).1 hq
      rw [v2] at this
      exact this, fun U hU hW => HW.pre hSF hH (vR k :: As) U hU hW⟩
    have hlen : (As.map (cv E)).length = mi.2.2.2.2.1 := by rw [List.length_map]; exact Nat.succ.inj hP3
    have hfit : (c0 + n0) + b ≤ R.cells ∧ (s0 + 6 * n0) + 6 * b ≤ R.slots := ⟨by omega, by omega⟩
    have hrm : (rmo d b).frames + 1 ≤ R.frames ∧ 8 + (mi.2.2.1 + 11) + (rmo d b).locals ≤ R.locals := ⟨by show d + 8 + 1 ≤ _; omega, by show 8 + (mi.2.2.1 + 11) + (64 * d + 128) ≤ _; omega⟩
    cases hhh : mi.2.2.2.2.2.2 with
    | nil =>
      have hw : wsOf mi = [.code mi.1 mi.2.1 mi.2.2.1 mi.2.2.2.1] := by unfold wsOf; rw [hhh]
      have hcw : Cond.code mi.1 mi.2.1 mi.2.2.1 mi.2.2.2.1 ∈ wsOf mi := by rw [hw]; exact List.mem_cons_self
      exact vx_runV (Ts := []) (own := o.1) (C := mi.1.cls) (b := eA E k 0) (As := As.map (cv E)) (bytes := mi.2.1) (maxL := mi.2.2.1) (ret := mi.2.2.2.1) (index := idx) ⟨hx, hb, hml, hown, fun _ z => nomatch z⟩ hM
        ⟨⟨rfl, rfl, hrm.1, hrm.2, hws, hcw, hws _ hcw args s (State.WarmedH.refl s), inT_use hSF.2.1 w2 args, w4, desc_len w5, inT_use hSF.2.1 w1 args⟩, inT_use hSF.2.1 v3 args, inT_use hSF.2.1 v4 args⟩ hPre rfl hlen hL.1 hS0 hroom hdec hfit
    | cons q qs =>
      have hw : wsOf mi = [.codeWith mi.1 mi.2.1 mi.2.2.1 mi.2.2.2.1 (q :: qs)] := by unfold wsOf; rw [hhh]
      have hcw : Cond.codeWith mi.1 mi.2.1 mi.2.2.1 mi.2.2.2.1 (q :: qs) ∈ wsOf mi := by rw [hw]; exact List.mem_cons_self
      exact vx_runVX (Ts := []) (own := o.1) (C := mi.1.cls) (b := eA E k 0) (As := As.map (cv E)) (bytes := mi.2.1) (maxL := mi.2.2.1) (ret := mi.2.2.2.1) (index := idx) (hh := q :: qs) ⟨hx, hb, hml, hown, fun _ z => nomatch z⟩ hM
        ⟨⟨rfl, rfl, hrm.1, hrm.2, hws, hcw⟩, hws _ hcw args s (State.WarmedH.refl s), inT_use hSF.2.1 w2 args, w4, desc_len w5, inT_use hSF.2.1 w1 args, inT_use hSF.2.1 v3 args, inT_use hSF.2.1 v4 args⟩ hPre rfl hlen hL.1 hS0 hroom hdec hfit
  refine m_call hr hH.2.2 (fun X ce q9 u H1 locs1 hxo hP hS hce hcv hcl => ?_) (fun v u H1 locs1 hpo hP hS => ?_)
  · have := hX pc X u (n0 + b) H1 locs1 L ls (r.map (cv E)) ce q9 hb1 hl hL ⟨hP, wl_D hH.2.1, hS⟩ hce hcv hcl (hxk X u hxo)
    rwa [show c0 + n0 + b = c0 + (n0 + b) by omega, show s0 + 6 * n0 + 6 * b = s0 + 6 * (n0 + b) by omega]
  · have := hk v u hpo hl H1 locs1 ls ⟨hP, wl_D hH.2.1, hS⟩ hL
    rw [show c0 + n0 + b = c0 + (n0 + b) by omega, show s0 + 6 * n0 + 6 * b = s0 + 6 * (n0 + b) by omega]
    rw [List.map_append] at this
    cases v <;> exact this
end
end
section
section
variable {p : Program} {l : Launch} {e : Env} {R : Room} {s : State} {m : MethodId} {args : Array Value} {below : List Frame} {meth : Method} {c : Code} {Q : State → Prop} {nL c0 s0 : Nat} {E : En}
variable {cc : ByteArray} {gk : Nat → Bool} {o : OT} {D B : Nat} {sc : Option (Nat × Nat × (Nat → Int32))} {tw : List (Nat × TW)} {hd : Nat → String → Option Nat} {ret : Option FieldType} {po : Option AV → Wd → Prop} {xp : String → Wd → Prop}
def retI (ret : Option FieldType) (x : Int32) : Prop := match ret with
  | some .int => True
  | some .boolean => x = 0 ∨ x = 1
  | _ => False
def RET (p : Program) (l : Launch) (e : Env) (R : Room) (s : State) (m : MethodId) (args : Array Value) (below : List Frame) (meth : Method) (c : Code) (Q : State → Prop) (c0 s0 : Nat) (E : En) (cc : ByteArray) (B : Nat) (ret : Option FieldType) (po : Option AV → Wd → Prop) : Prop :=
  (∀ (pc : Nat) (x : Int32) (w : Wd) (n : Nat) (H : Heap) (locs : List Loc) (ls : Array Slot), decode cc pc = .ok (.ireturn, 1) → HS s E w H locs → n ≤ B → retI ret x → po (some (vI x)) w → W p l e R s m args below meth c H locs (c0 + n) (s0 + 6 * n) Q (F0 m pc ls [.int x])) ∧
  (∀ (pc : Nat) (x : Int64) (w : Wd) (n : Nat) (H : Heap) (locs : List Loc) (ls : Array Slot), decode cc pc = .ok (.lreturn, 1) → HS s E w H locs → n ≤ B → ret = some .long → po (some (vJ x)) w → W p l e R s m args below meth c H locs (c0 + n) (s0 + 6 * n) Q (F0 m pc ls [.long x])) ∧
  (∀ (pc : Nat) (w : Wd) (n : Nat) (H : Heap) (locs : List Loc) (ls : Array Slot), decode cc pc = .ok (.return_, 1) → HS s E w H locs → n ≤ B → ret = none → po none w → W p l e R s m args below meth c H locs (c0 + n) (s0 + 6 * n) Q (F0 m pc ls []))
def NEWS (p : Program) (l : Launch) (e : Env) (R : Room) (s : State) (m : MethodId) (args : Array Value) (below : List Frame) (meth : Method) (c : Code) (Q : State → Prop) (nL c0 s0 : Nat) (E : En) (tw : List (Nat × TW)) (B : Nat) (xp : String → Wd → Prop) : Prop :=
  ∀ (pc : Nat) (t : TW) (w : Wd) (n : Nat) (H : Heap) (locs : List Loc) (ls : Array Slot) (S : List AV), lk tw pc = some t → HS s E w H locs → ls.size = nL → n + 1 ≤ B → xp t.1 w → W p l e R s m args below meth c H locs (c0 + n) (s0 + 6 * n) Q (F0 m pc ls (S.map (cv E)))
def SCR (s : State) (E : En) (sc : Option (Nat × Nat × (Nat → Int32))) : Prop := match sc with
  | none => True
  | some (b, n, xs) => va_X b n xs s s.heap ∧ b < s.heap.size ∧ ¬ AE E s.heap.size b ∧ n < 2 ^ 31
set_option maxHeartbeats 4000000 in
theorem stp_sound (F : MF p R s m c nL c0 s0 E cc gk o D B) (hX : XK p l e R s m args below meth c Q nL c0 s0 E hd B xp) (hRet : RET p l e R s m args below meth c Q c0 s0 E cc B ret po) (hNew : NEWS p l e R s m args below meth c Q nL c0 s0 E tw B xp) (hSc : SCR s E sc)
    {ins : Instr} {tg pc n0 : Nat} {L : List (Option AV)} {S : List AV} {w : Wd} (hpg : pgOK cc (pc, ins, tg) = true) (h : stp l E sc gk o tw hd D B ret po xp (Wx p l e R s m args below meth c Q nL c0 s0 E) ins tg pc L S w n0) :
    Wx p l e R s m args below meth c Q nL c0 s0 E pc L S w n0 := by
  obtain ⟨hx, hb, hml, hown, hSF, hok, hI, ho, hR⟩ := id F
  have ho2 := ho
  unfold otOK at ho2
  simp only [Bool.and_eq_true] at ho2
  unfold pgOK at hpg
  rw [Bool.and_eq_true] at hpg
  obtain ⟨hdec, hj⟩ := hpg
  replace hdec := of_decide_eq_true hdec
  cases ins
  case iconst n => exact fun hl H locs ls hH hL => lv_iconst hx hb hdec rfl (h hl H locs ls hH hL)
  case bipush n => exact fun hl H locs ls hH hL => lv_bipush hx hb hdec rfl (h hl H locs ls hH hL)
  case sipush n => exact fun hl H locs ls hH hL => lv_sipush hx hb hdec rfl (h hl H locs ls hH hL)
  case lconst n => exact fun hl H locs ls hH hL => lv_lconst hx hb hdec rfl (h hl H locs ls hH hL)
  case ldc_w i =>
    simp only [stp] at h
    split at h
    · rename_i x hlk
      exact fun hl H locs ls hH hL => lv_ldcw hx hb hown (inT_use hSF.2.1 (List.all_eq_true.mp ho2.1.2 _ (lk_mem hlk)) args) hdec (h hl H locs ls hH hL)
    · exact h.elim
  case ldc2_w i =>
    simp only [stp] at h
    split at h
    · rename_i x hlk
      exact fun hl H locs ls hH hL => lv_ldc2 hx hb hown (inT_use hSF.2.1 (List.all_eq_true.mp ho2.1.1.2 _ (lk_mem hlk)) args) hdec (h hl H locs ls hH hL)
    · exact h.elim
  case iload_n n =>
    simp only [stp] at h
    split at h
    · rename_i x hv
      exact fun hl H locs ls hH hL => lv_iload_n hx hb hdec rfl (hL.2.2 _ _ hv) (h hl H locs ls hH hL)
    · exact h.elim
  case iload n =>
    simp only [stp] at h
    split at h
    · rename_i x hv
      exact fun hl H locs ls hH hL => lv_iload hx hb hdec (hL.2.2 _ _ hv) (h hl H locs ls hH hL)
    · exact h.elim
  case lload_n n =>
    simp only [stp] at h
    split at h
    · rename_i x hv
      exact fun hl H locs ls hH hL => lv_lload_n hx hb hdec rfl (hL.2.2 _ _ hv) (h hl H locs ls hH hL)
    · exact h.elim
  case lload n =>
    simp only [stp] at h
    split at h
    · rename_i x hv
      exact fun hl H locs ls hH hL => lv_lload hx hb hdec (hL.2.2 _ _ hv) (h hl H locs ls hH hL)
    · exact h.elim
  case aload_n n =>
    simp only [stp] at h
    split at h
    · rename_i x hv
      intro hl H locs ls hH hL
      have h1 := hL.2.2 _ _ hv
      have h2 := h hl H locs ls hH hL
      rcases x with k | q | a
      · exact lv_aload_n hx hb hdec rfl h1 h2
      · exact lv_aload_n hx hb hdec rfl h1 h2
      · exact lv_aload_n hx hb hdec rfl h1 h2
    · exact h.elim
  case aload n =>
    simp only [stp] at h
    split at h
    · rename_i x hv
      intro hl H locs ls hH hL
      have h1 := hL.2.2 _ _ hv
      have h2 := h hl H locs ls hH hL
      rcases x with k | q | a
      · exact lv_aload hx hb hdec h1 h2
      · exact lv_aload hx hb hdec h1 h2
      · exact lv_aload hx hb hdec h1 h2
    · exact h.elim
  case istore_n n =>
    simp only [stp] at h
    split at h
    · rename_i hlt
      have hlt : n.val < L.length := Nat.le_of_ble_eq_true hlt
      unfold op1 at h
      split at h
      · rename_i x r
        exact fun hl H locs ls hH hL => lv_istore_n hx hb hdec rfl hL.has (by omega) rfl (fun ls' hls => h (by rw [stL_len]; exact hl) H locs ls' hH (LR.store1 (v := vI x) rfl hls))
      · exact h.elim
    · exact h.elim
  case istore n =>
    simp only [stp] at h
    split at h
    · rename_i hlt
      have hlt : n < L.length := Nat.le_of_ble_eq_true hlt
      unfold op1 at h
      split at h
      · rename_i x r
        exact fun hl H locs ls hH hL => lv_istore hx hb hdec hL.has (by omega) rfl (fun ls' hls => h (by rw [stL_len]; exact hl) H locs ls' hH (LR.store1 (v := vI x) rfl hls))
      · exact h.elim
    · exact h.elim
  case lstore_n n =>
    simp only [stp] at h
    split at h
    · rename_i hlt
      have hlt : n.val + 1 < L.length := Nat.le_of_ble_eq_true hlt
      unfold op1J at h
      split at h
      · rename_i x r
        exact fun hl H locs ls hH hL => lv_lstore_n hx hb hdec rfl hL.has (by omega) rfl (fun ls' hls => h (by rw [stL_len]; exact hl) H locs ls' hH (LR.store2 (v := vJ x) rfl hls))
      · exact h.elim
    · exact h.elim
  case lstore n =>
    simp only [stp] at h
    split at h
    · rename_i hlt
      have hlt : n + 1 < L.length := Nat.le_of_ble_eq_true hlt
      unfold op1J at h
      split at h
      · rename_i x r
        exact fun hl H locs ls hH hL => lv_lstore hx hb hdec hL.has (by omega) rfl (fun ls' hls => h (by rw [stL_len]; exact hl) H locs ls' hH (LR.store2 (v := vJ x) rfl hls))
      · exact h.elim
    · exact h.elim
  case astore_n n =>
    simp only [stp] at h
    split at h
    · rename_i x r hlt
      have hlt : n.val < L.length := Nat.le_of_ble_eq_true hlt
      intro hl H locs ls hH hL
      rcases x with k | q | a
      · exact lv_astore_n hx hb hdec rfl hL.has (by omega) rfl (fun ls' hls => h (by rw [stL_len]; exact hl) H locs ls' hH (LR.store1 rfl hls))
      · exact lv_astore_n hx hb hdec rfl hL.has (by omega) rfl (fun ls' hls => h (by rw [stL_len]; exact hl) H locs ls' hH (LR.store1 rfl hls))
      · exact lv_astore_n hx hb hdec rfl hL.has (by omega) rfl (fun ls' hls => h (by rw [stL_len]; exact hl) H locs ls' hH (LR.store1 rfl hls))
    · exact h.elim
  case astore n =>
    simp only [stp] at h
    split at h
    · rename_i x r hlt
      have hlt : n < L.length := Nat.le_of_ble_eq_true hlt
      intro hl H locs ls hH hL
      rcases x with k | q | a
      · exact lv_astore hx hb hdec hL.has (by omega) rfl (fun ls' hls => h (by rw [stL_len]; exact hl) H locs ls' hH (LR.store1 rfl hls))
      · exact lv_astore hx hb hdec hL.has (by omega) rfl (fun ls' hls => h (by rw [stL_len]; exact hl) H locs ls' hH (LR.store1 rfl hls))
      · exact lv_astore hx hb hdec hL.has (by omega) rfl (fun ls' hls => h (by rw [stL_len]; exact hl) H locs ls' hH (LR.store1 rfl hls))
    · exact h.elim
  case iinc n k =>
    simp only [stp] at h
    split at h
    · rename_i x hv
      intro hl H locs ls hH hL
      obtain ⟨j, hj9⟩ := List.getElem?_of_mem (lvl_mem (E := E).mpr ⟨_, hv, rfl⟩)
      exact lv_iinc hx hb hdec hL.has (k := j) hj9 rfl (by have := (List.getElem?_eq_some_iff.mp hv).1; omega) rfl (fun ls' hls => h (by rw [stL_len]; exact hl) H locs ls' hH (LR.store1 (v := vI (x + Int32.ofInt k)) rfl hls))
    · exact h.elim
  case iadd =>
    simp only [stp, opI] at h
    split at h
    · exact fun hl H locs ls hH hL => lv_iadd hx hb hdec (h hl H locs ls hH hL)
    · exact h.elim
  case isub =>
    simp only [stp, opI] at h
    split at h
    · exact fun hl H locs ls hH hL => lv_isub hx hb hdec (h hl H locs ls hH hL)
    · exact h.elim
  case imul =>
    simp only [stp, opI] at h
    split at h
    · exact fun hl H locs ls hH hL => lv_imul hx hb hdec (h hl H locs ls hH hL)
    · exact h.elim
  case idiv =>
    simp only [stp, opI] at h
    split at h
    · exact fun hl H locs ls hH hL => lv_idiv hx hb hdec h.1 (h.2 hl H locs ls hH hL)
    · exact h.elim
  case irem =>
    simp only [stp, opI] at h
    split at h
    · exact fun hl H locs ls hH hL => lv_irem hx hb hdec h.1 (h.2 hl H locs ls hH hL)
    · exact h.elim
  case iand =>
    simp only [stp, opI] at h
    split at h
    · exact fun hl H locs ls hH hL => lv_iand hx hb hdec (h hl H locs ls hH hL)
    · exact h.elim
  case ior =>
    simp only [stp, opI] at h
    split at h
    · exact fun hl H locs ls hH hL => lv_ior hx hb hdec (h hl H locs ls hH hL)
    · exact h.elim
  case ixor =>
    simp only [stp, opI] at h
    split at h
    · exact fun hl H locs ls hH hL => lv_ixor hx hb hdec (h hl H locs ls hH hL)
    · exact h.elim
  case ishl =>
    simp only [stp, opI] at h
    split at h
    · exact fun hl H locs ls hH hL => lv_ishl hx hb hdec (h hl H locs ls hH hL)
    · exact h.elim
  case ishr =>
    simp only [stp, opI] at h
    split at h
    · exact fun hl H locs ls hH hL => lv_ishr hx hb hdec (h hl H locs ls hH hL)
    · exact h.elim
  case iushr =>
    simp only [stp, opI] at h
    split at h
    · exact fun hl H locs ls hH hL => lv_iushr hx hb hdec rfl (h hl H locs ls hH hL)
    · exact h.elim
  case ladd =>
    simp only [stp, opJ] at h
    split at h
    · exact fun hl H locs ls hH hL => lv_ladd hx hb hdec (h hl H locs ls hH hL)
    · exact h.elim
  case lsub =>
    simp only [stp, opJ] at h
    split at h
    · exact fun hl H locs ls hH hL => lv_lsub hx hb hdec (h hl H locs ls hH hL)
    · exact h.elim
  case lmul =>
    simp only [stp, opJ] at h
    split at h
    · exact fun hl H locs ls hH hL => lv_lmul hx hb hdec (h hl H locs ls hH hL)
    · exact h.elim
  case ldiv =>
    simp only [stp, opJ] at h
    split at h
    · exact fun hl H locs ls hH hL => lv_ldiv hx hb hdec h.1 (h.2 hl H locs ls hH hL)
    · exact h.elim
  case lrem =>
    simp only [stp, opJ] at h
    split at h
    · exact fun hl H locs ls hH hL => lv_lrem hx hb hdec h.1 (h.2 hl H locs ls hH hL)
    · exact h.elim
  case land =>
    simp only [stp, opJ] at h
    split at h
    · exact fun hl H locs ls hH hL => lv_land hx hb hdec (h hl H locs ls hH hL)
    · exact h.elim
  case lor =>
    simp only [stp, opJ] at h
    split at h
    · exact fun hl H locs ls hH hL => lv_lor hx hb hdec (h hl H locs ls hH hL)
    · exact h.elim
  case lxor =>
    simp only [stp, opJ] at h
    split at h
    · exact fun hl H locs ls hH hL => lv_lxor hx hb hdec (h hl H locs ls hH hL)
    · exact h.elim
  case lcmp =>
    simp only [stp, opJ] at h
    split at h
    · exact fun hl H locs ls hH hL => W.lcmp hx hb hdec (h hl H locs ls hH hL)
    · exact h.elim
  case lshl =>
    simp only [stp, opH] at h
    split at h
    · exact fun hl H locs ls hH hL => lv_lshl hx hb hdec rfl (h hl H locs ls hH hL)
    · exact h.elim
  case lshr =>
    simp only [stp, opH] at h
    split at h
    · exact fun hl H locs ls hH hL => lv_lshr hx hb hdec rfl (h hl H locs ls hH hL)
    · exact h.elim
  case lushr =>
    simp only [stp, opH] at h
    split at h
    · exact fun hl H locs ls hH hL => lv_lushr hx hb hdec rfl (h hl H locs ls hH hL)
    · exact h.elim
  case i2l =>
    simp only [stp, op1] at h
    split at h
    · exact fun hl H locs ls hH hL => lv_i2l hx hb hdec rfl (h hl H locs ls hH hL)
    · exact h.elim
  case i2c =>
    simp only [stp, op1] at h
    split at h
    · exact fun hl H locs ls hH hL => lv_i2c hx hb hdec rfl (h hl H locs ls hH hL)
    · exact h.elim
  case l2i =>
    simp only [stp, op1J] at h
    split at h
    · exact fun hl H locs ls hH hL => lv_l2i hx hb hdec rfl (h hl H locs ls hH hL)
    · exact h.elim
  case dup =>
    simp only [stp] at h
    split at h
    · rename_i v r
      split at h
      · exact h.elim
      · rename_i hv
        exact fun hl H locs ls hH hL => lv_dup hx hb hdec ((lv_cat (cv E v)).resolve_right (fun z => by rw [(cv_cat E v).mp z] at hv; cases hv)) (h hl H locs ls hH hL)
    · exact h.elim
  case pop =>
    simp only [stp] at h
    split at h
    · rename_i v r
      split at h
      · exact h.elim
      · rename_i hv
        exact fun hl H locs ls hH hL => lv_pop hx hb hdec ((lv_cat (cv E v)).resolve_right (fun z => by rw [(cv_cat E v).mp z] at hv; cases hv)) (h hl H locs ls hH hL)
    · exact h.elim
  case dup2 =>
    simp only [stp] at h
    split at h
    · rename_i v u r
      split at h
      · exact h.elim
      · rename_i hv
        rw [Bool.or_eq_false_iff] at hv
        exact fun hl H locs ls hH hL => lv_dup2_11 hx hb hdec ((lv_cat (cv E v)).resolve_right (fun z => by rw [(cv_cat E v).mp z] at hv; cases hv.1)) ((lv_cat (cv E u)).resolve_right (fun z => by rw [(cv_cat E u).mp z] at hv; cases hv.2)) (h hl H locs ls hH hL)
    · exact h.elim
  case ifCond q f =>
    replace hj : (pc : Int) + f = (tg : Int) := of_decide_eq_true hj
    simp only [stp, op1] at h
    split at h
    · rename_i x r
      intro hl H locs ls hH hL
      cases q
      case eq => exact lv_if_eq hx hb hdec hj (fun z => h.1 z hl H locs ls hH hL) (fun z => h.2 z hl H locs ls hH hL)
      case ge => exact lv_if_ge hx hb hdec hj (fun z => h.1 z hl H locs ls hH hL) (fun z => h.2 z hl H locs ls hH hL)
      case gt => exact lv_if_gt hx hb hdec hj (fun z => h.1 z hl H locs ls hH hL) (fun z => h.2 z hl H locs ls hH hL)
      case le => exact lv_if_le hx hb hdec hj (fun z => h.1 z hl H locs ls hH hL) (fun z => h.2 z hl H locs ls hH hL)
      case lt => exact lv_if_lt hx hb hdec hj (fun z => h.1 z hl H locs ls hH hL) (fun z => h.2 z hl H locs ls hH hL)
      case ne => exact lv_if_ne hx hb hdec hj (fun z => h.1 z hl H locs ls hH hL) (fun z => h.2 (fun y => y z) hl H locs ls hH hL)
    · exact h.elim
  case if_icmp q f =>
    replace hj : (pc : Int) + f = (tg : Int) := of_decide_eq_true hj
    simp only [stp, opI] at h
    split at h
    · rename_i x y r
      intro hl H locs ls hH hL
      cases q
      case eq => exact lv_icmp_eq hx hb hdec hj (fun z => h.1 z hl H locs ls hH hL) (fun z => h.2 z hl H locs ls hH hL)
      case ge => exact lv_icmp_ge hx hb hdec hj (fun z => h.1 z hl H locs ls hH hL) (fun z => h.2 z hl H locs ls hH hL)
      case gt => exact lv_icmp_gt hx hb hdec hj (fun z => h.1 z hl H locs ls hH hL) (fun z => h.2 z hl H locs ls hH hL)
      case le => exact lv_icmp_le hx hb hdec hj (fun z => h.1 z hl H locs ls hH hL) (fun z => h.2 z hl H locs ls hH hL)
      case lt => exact lv_icmp_lt hx hb hdec hj (fun z => h.1 z hl H locs ls hH hL) (fun z => h.2 z hl H locs ls hH hL)
      case ne => exact lv_icmp_ne hx hb hdec hj (fun z => h.1 z hl H locs ls hH hL) (fun z => h.2 (fun y => y z) hl H locs ls hH hL)
    · exact h.elim
  case goto f =>
    replace hj : (pc : Int) + f = (tg : Int) := of_decide_eq_true hj
    exact fun hl H locs ls hH hL => lv_goto hx hb hdec hj (h hl H locs ls hH hL)
  case tableswitch df lo hi offs =>
    simp only [stp, op1] at h
    split at h
    · obtain ⟨t, ht, h⟩ := h
      intro hl H locs ls hH hL
      rcases ht with ⟨h1, h2⟩ | ⟨h1, h2, off, h3, h4⟩
      · exact lv_tableOut hx hb hdec h1 h2 (h hl H locs ls hH hL)
      · exact lv_tableIn hx hb hdec h1 h2 h3 h4 (h hl H locs ls hH hL)
    · exact h.elim
  case getfield i =>
    simp only [stp] at h
    split at h
    · exact m_get F hdec h
    · exact h.elim
  case putfield i =>
    simp only [stp] at h
    split at h
    · exact m_put F hdec h
    · exact h.elim
  case iaload =>
    simp only [stp] at h
    split at h
    · rename_i i a r
      split at h
      · rename_i b n xs
        obtain ⟨rfl, j, rfl, hjn, h⟩ := h
        obtain ⟨s1, s2, s3, s4⟩ := hSc
        intro hl H locs ls hH hL
        refine va_sld hx hb s1 s2 s3 hH.2.2 (vp_in_nI hjn s4) hdec ?_
        rw [nI_clamp (by omega)]
        exact h hl H locs ls hH hL
      · exact h.elim
    · exact m_iald F hdec h
  case laload => exact m_lald F hdec h
  case caload => exact m_cald F hdec h
  case baload => exact m_zald F hdec h
  case aaload =>
    simp only [stp] at h
    split at h
    · exact m_aald F hdec h
    · exact h.elim
  case iastore => exact m_iast F hdec h
  case castore => exact m_cast F hdec h
  case bastore => exact m_zast F hdec h
  case lastore => exact m_last F hdec h
  case arraylength =>
    simp only [stp] at h
    split at h
    · rename_i a r
      split at h
      · rename_i b n xs
        obtain ⟨rfl, h⟩ := h
        obtain ⟨s1, s2, s3, s4⟩ := hSc
        exact fun hl H locs ls hH hL => va_slen hx hb s1 s2 s3 hH.2.2 hdec (h hl H locs ls hH hL)
      · exact h.elim
    · rename_i a r hna
      obtain ⟨k, q, hm, ha, h⟩ := rf_spec hI (fun k i h => by
        revert h
        generalize shp k = z
        obtain ⟨t, n, b⟩ := z
        intro h
        split at h
        · rename_i e; cases e; simp
        · rename_i e; cases e; simp
        · exact h.elim) h
      intro hl H locs ls hH hL
      obtain ⟨q0, -, hq⟩ := wl_pos (w := w) hm
      show W p l e R s m args below meth c H locs _ _ Q (F0 m pc ls (cv E a :: r.map (cv E)))
      rw [ha]
      split at h
      · rename_i n b hs
        rw [wcell_1 hs] at hq
        exact va_alen hx hb hSF.1 hH.1 q0 0 hq rfl rfl hdec (h hl H locs ls hH hL)
      · rename_i n b hs
        rw [wcell_2 hs] at hq
        exact va_alen hx hb hSF.1 hH.1 q0 1 hq rfl rfl hdec (h hl H locs ls hH hL)
      · exact h.elim
    · exact h.elim
  case invokestatic i =>
    simp only [stp] at h
    split at h
    · rename_i mi hlk
      split at h
      · rename_i As r h99 hpop
        split at h
        · rename_i hcat
          exact m_callS F hX hdec hlk (Nat.eq_of_beq_eq_true h99) hpop (Nat.le_of_ble_eq_true hcat) h
        · exact h.elim
      · exact h.elim
    · exact h.elim
  case invokevirtual i =>
    simp only [stp] at h
    split at h
    · rename_i mi hlk
      split at h
      · rename_i k As r hpop
        split at h
        · rename_i cl b0 hg hs
          rw [Bool.and_eq_true] at hg
          split at h
          · rename_i hcl
            exact m_callV F hX hdec hlk hg.2 hs (Nat.eq_of_beq_eq_true hcl) hpop (Nat.le_of_ble_eq_true hg.1) h
          · exact h.elim
        · exact h.elim
      · exact h.elim
    · exact h.elim
  case ireturn =>
    simp only [stp] at h
    split at h
    · rename_i x
      intro hl H locs ls hH hL
      split at h
      · exact hRet.1 pc x w n0 H locs ls hdec hH h.2 trivial h.1
      · exact hRet.1 pc x w n0 H locs ls hdec hH h.2.2 h.1 h.2.1
      · exact h.elim
    · exact h.elim
  case lreturn =>
    simp only [stp] at h
    split at h
    · rename_i x
      intro hl H locs ls hH hL
      split at h
      · exact hRet.2.1 pc x w n0 H locs ls hdec hH h.2 rfl h.1
      · exact h.elim
    · exact h.elim
  case return_ =>
    simp only [stp] at h
    split at h
    · exact fun hl H locs ls hH hL => hRet.2.2 pc w n0 H locs ls hdec hH h.2 rfl h.1
    · exact h.elim
  case new i =>
    simp only [stp] at h
    split at h
    · rename_i t ht
      exact fun hl H locs ls hH hL => hNew pc t w n0 H locs ls S ht hH hL.1 h.2 h.1
    · exact h.elim
  all_goals exact False.elim h
end
end
