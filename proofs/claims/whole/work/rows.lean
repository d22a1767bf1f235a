section
-- ===== PART A: goes FIRST, ahead of the names: the tables' words, and 'selects' of the private methods out of them =====
/-- a private method of a class that the tables say can be made, by its rows of tables_1 -/
def lw_okq (q : MethodName × Nat) : Prop := (q.1.cls ≠ "java/lang/invoke/MethodHandle" ∧ q.1.cls ≠ "java/lang/invoke/VarHandle") ∧ Cond.instantiable q.1.cls q.2 ∈ tables_1 ∧ Cond.privateMethod q.1 ∈ tables_1 ∧ Cond.instanceMethod q.1 ∈ tables_1
theorem lw_p0 : lw_okq (⟨"FirmStore$Tree", "firstOf", "(I)I"⟩, 2) := ⟨⟨by decide +kernel, by decide +kernel⟩, List.mem_of_getElem? (i := 68) (by decide +kernel), List.mem_of_getElem? (i := 126) (by decide +kernel), List.mem_of_getElem? (i := 127) (by decide +kernel)⟩
theorem lw_p1 : lw_okq (⟨"FirmStore$Tree", "endOf", "(I)I"⟩, 2) := ⟨⟨by decide +kernel, by decide +kernel⟩, List.mem_of_getElem? (i := 68) (by decide +kernel), List.mem_of_getElem? (i := 154) (by decide +kernel), List.mem_of_getElem? (i := 155) (by decide +kernel)⟩
theorem lw_p2 : lw_okq (⟨"FirmStore$Tree", "keyAt", "(II)I"⟩, 2) := ⟨⟨by decide +kernel, by decide +kernel⟩, List.mem_of_getElem? (i := 68) (by decide +kernel), List.mem_of_getElem? (i := 170) (by decide +kernel), List.mem_of_getElem? (i := 171) (by decide +kernel)⟩
theorem lw_p3 : lw_okq (⟨"FirmStore$Table", "countEntries", "(I)I"⟩, 2) := ⟨⟨by decide +kernel, by decide +kernel⟩, List.mem_of_getElem? (i := 81) (by decide +kernel), List.mem_of_getElem? (i := 186) (by decide +kernel), List.mem_of_getElem? (i := 187) (by decide +kernel)⟩
theorem lw_p4 : lw_okq (⟨"FirmStore$Blocks", "freeSet", "()I"⟩, 1) := ⟨⟨by decide +kernel, by decide +kernel⟩, List.mem_of_getElem? (i := 58) (by decide +kernel), List.mem_of_getElem? (i := 200) (by decide +kernel), List.mem_of_getElem? (i := 201) (by decide +kernel)⟩
theorem lw_p5 : lw_okq (⟨"java/lang/Throwable", "fillInStackTrace", "(I)Ljava/lang/Throwable;"⟩, 6) := ⟨⟨by decide +kernel, by decide +kernel⟩, List.mem_of_getElem? (i := 291) (by decide +kernel), List.mem_of_getElem? (i := 289) (by decide +kernel), List.mem_of_getElem? (i := 290) (by decide +kernel)⟩
theorem lw_p6 : lw_okq (⟨"FirmStore$Tree", "plant", "(J)I"⟩, 2) := ⟨⟨by decide +kernel, by decide +kernel⟩, List.mem_of_getElem? (i := 68) (by decide +kernel), List.mem_of_getElem? (i := 339) (by decide +kernel), List.mem_of_getElem? (i := 340) (by decide +kernel)⟩
theorem lw_p7 : lw_okq (⟨"FirmStore$Memory", "cutPower", "()V"⟩, 8) := ⟨⟨by decide +kernel, by decide +kernel⟩, List.mem_of_getElem? (i := 23) (by decide +kernel), List.mem_of_getElem? (i := 352) (by decide +kernel), List.mem_of_getElem? (i := 353) (by decide +kernel)⟩
theorem lw_p8 : lw_okq (⟨"FirmStore$Tree", "find", "(II)I"⟩, 2) := ⟨⟨by decide +kernel, by decide +kernel⟩, List.mem_of_getElem? (i := 68) (by decide +kernel), List.mem_of_getElem? (i := 370) (by decide +kernel), List.mem_of_getElem? (i := 371) (by decide +kernel)⟩
theorem lw_p9 : lw_okq (⟨"FirmStore$Tree", "childFor", "(II)I"⟩, 2) := ⟨⟨by decide +kernel, by decide +kernel⟩, List.mem_of_getElem? (i := 68) (by decide +kernel), List.mem_of_getElem? (i := 374) (by decide +kernel), List.mem_of_getElem? (i := 375) (by decide +kernel)⟩
theorem lw_p10 : lw_okq (⟨"FirmStore$Tree", "countLesser", "(II)I"⟩, 2) := ⟨⟨by decide +kernel, by decide +kernel⟩, List.mem_of_getElem? (i := 68) (by decide +kernel), List.mem_of_getElem? (i := 378) (by decide +kernel), List.mem_of_getElem? (i := 379) (by decide +kernel)⟩
theorem lw_p11 : lw_okq (⟨"FirmStore$Tree", "blocksToSplit", "(I)I"⟩, 2) := ⟨⟨by decide +kernel, by decide +kernel⟩, List.mem_of_getElem? (i := 68) (by decide +kernel), List.mem_of_getElem? (i := 390) (by decide +kernel), List.mem_of_getElem? (i := 391) (by decide +kernel)⟩
theorem lw_p12 : lw_okq (⟨"FirmStore$Tree", "split", "(I)I"⟩, 2) := ⟨⟨by decide +kernel, by decide +kernel⟩, List.mem_of_getElem? (i := 68) (by decide +kernel), List.mem_of_getElem? (i := 395) (by decide +kernel), List.mem_of_getElem? (i := 396) (by decide +kernel)⟩
theorem lw_p13 : lw_okq (⟨"FirmStore$Tree", "hang", "(II)Z"⟩, 2) := ⟨⟨by decide +kernel, by decide +kernel⟩, List.mem_of_getElem? (i := 68) (by decide +kernel), List.mem_of_getElem? (i := 406) (by decide +kernel), List.mem_of_getElem? (i := 407) (by decide +kernel)⟩
theorem lw_p14 : lw_okq (⟨"FirmStore$Tree", "raise", "(II)Z"⟩, 2) := ⟨⟨by decide +kernel, by decide +kernel⟩, List.mem_of_getElem? (i := 68) (by decide +kernel), List.mem_of_getElem? (i := 410) (by decide +kernel), List.mem_of_getElem? (i := 411) (by decide +kernel)⟩
theorem lw_p15 : lw_okq (⟨"FirmStore$Tree", "insert", "(IJ)Z"⟩, 2) := ⟨⟨by decide +kernel, by decide +kernel⟩, List.mem_of_getElem? (i := 68) (by decide +kernel), List.mem_of_getElem? (i := 414) (by decide +kernel), List.mem_of_getElem? (i := 415) (by decide +kernel)⟩
def lw_privs_1 : List (MethodName × Nat) := [(⟨"FirmStore$Tree", "firstOf", "(I)I"⟩, 2), (⟨"FirmStore$Tree", "endOf", "(I)I"⟩, 2), (⟨"FirmStore$Tree", "keyAt", "(II)I"⟩, 2), (⟨"FirmStore$Table", "countEntries", "(I)I"⟩, 2), (⟨"FirmStore$Blocks", "freeSet", "()I"⟩, 1), (⟨"java/lang/Throwable", "fillInStackTrace", "(I)Ljava/lang/Throwable;"⟩, 6), (⟨"FirmStore$Tree", "plant", "(J)I"⟩, 2), (⟨"FirmStore$Memory", "cutPower", "()V"⟩, 8), (⟨"FirmStore$Tree", "find", "(II)I"⟩, 2), (⟨"FirmStore$Tree", "childFor", "(II)I"⟩, 2), (⟨"FirmStore$Tree", "countLesser", "(II)I"⟩, 2), (⟨"FirmStore$Tree", "blocksToSplit", "(I)I"⟩, 2), (⟨"FirmStore$Tree", "split", "(I)I"⟩, 2), (⟨"FirmStore$Tree", "hang", "(II)Z"⟩, 2), (⟨"FirmStore$Tree", "raise", "(II)Z"⟩, 2), (⟨"FirmStore$Tree", "insert", "(IJ)Z"⟩, 2)]
theorem lw_r1 : ∀ q ∈ lw_privs_1, lw_okq q := List.forall_mem_cons.mpr ⟨lw_p0, List.forall_mem_cons.mpr ⟨lw_p1, List.forall_mem_cons.mpr ⟨lw_p2, List.forall_mem_cons.mpr ⟨lw_p3, List.forall_mem_cons.mpr ⟨lw_p4, List.forall_mem_cons.mpr ⟨lw_p5, List.forall_mem_cons.mpr ⟨lw_p6, List.forall_mem_cons.mpr ⟨lw_p7, List.forall_mem_cons.mpr ⟨lw_p8, List.forall_mem_cons.mpr ⟨lw_p9, List.forall_mem_cons.mpr ⟨lw_p10, List.forall_mem_cons.mpr ⟨lw_p11, List.forall_mem_cons.mpr ⟨lw_p12, List.forall_mem_cons.mpr ⟨lw_p13, List.forall_mem_cons.mpr ⟨lw_p14, List.forall_mem_cons.mpr ⟨lw_p15, fun _ h => absurd h List.not_mem_nil⟩⟩⟩⟩⟩⟩⟩⟩⟩⟩⟩⟩⟩⟩⟩⟩
theorem lw_p16 : lw_okq (⟨"FirmStore$Table", "headOf", "(I)I"⟩, 2) := ⟨⟨by decide +kernel, by decide +kernel⟩, List.mem_of_getElem? (i := 81) (by decide +kernel), List.mem_of_getElem? (i := 427) (by decide +kernel), List.mem_of_getElem? (i := 428) (by decide +kernel)⟩
theorem lw_p17 : lw_okq (⟨"FirmStore$Table", "seekInChain", "(II)I"⟩, 2) := ⟨⟨by decide +kernel, by decide +kernel⟩, List.mem_of_getElem? (i := 81) (by decide +kernel), List.mem_of_getElem? (i := 431) (by decide +kernel), List.mem_of_getElem? (i := 432) (by decide +kernel)⟩
theorem lw_p18 : lw_okq (⟨"FirmStore", "addressOf", "(II)I"⟩, 4) := ⟨⟨by decide +kernel, by decide +kernel⟩, List.mem_of_getElem? (i := 15) (by decide +kernel), List.mem_of_getElem? (i := 448) (by decide +kernel), List.mem_of_getElem? (i := 449) (by decide +kernel)⟩
theorem lw_p19 : lw_okq (⟨"FirmStore$Tree", "dropPlace", "(II)Z"⟩, 2) := ⟨⟨by decide +kernel, by decide +kernel⟩, List.mem_of_getElem? (i := 68) (by decide +kernel), List.mem_of_getElem? (i := 473) (by decide +kernel), List.mem_of_getElem? (i := 474) (by decide +kernel)⟩
theorem lw_p20 : lw_okq (⟨"FirmStore$Tree", "clearWrong", "(I)Z"⟩, 2) := ⟨⟨by decide +kernel, by decide +kernel⟩, List.mem_of_getElem? (i := 68) (by decide +kernel), List.mem_of_getElem? (i := 508) (by decide +kernel), List.mem_of_getElem? (i := 509) (by decide +kernel)⟩
theorem lw_p21 : lw_okq (⟨"FirmStore$Tree", "isWrong", "(II)Z"⟩, 2) := ⟨⟨by decide +kernel, by decide +kernel⟩, List.mem_of_getElem? (i := 68) (by decide +kernel), List.mem_of_getElem? (i := 512) (by decide +kernel), List.mem_of_getElem? (i := 513) (by decide +kernel)⟩
theorem lw_p22 : lw_okq (⟨"FirmStore$Tree", "dropTwins", "(I)Z"⟩, 2) := ⟨⟨by decide +kernel, by decide +kernel⟩, List.mem_of_getElem? (i := 68) (by decide +kernel), List.mem_of_getElem? (i := 516) (by decide +kernel), List.mem_of_getElem? (i := 517) (by decide +kernel)⟩
theorem lw_p23 : lw_okq (⟨"FirmStore$Tree", "secondTwin", "(I)I"⟩, 2) := ⟨⟨by decide +kernel, by decide +kernel⟩, List.mem_of_getElem? (i := 68) (by decide +kernel), List.mem_of_getElem? (i := 520) (by decide +kernel), List.mem_of_getElem? (i := 521) (by decide +kernel)⟩
theorem lw_p24 : lw_okq (⟨"FirmStore$Tree", "isHung", "(II)Z"⟩, 2) := ⟨⟨by decide +kernel, by decide +kernel⟩, List.mem_of_getElem? (i := 68) (by decide +kernel), List.mem_of_getElem? (i := 528) (by decide +kernel), List.mem_of_getElem? (i := 529) (by decide +kernel)⟩
theorem lw_p25 : lw_okq (⟨"FirmStoreModel", "putTree", "(II)I"⟩, 12) := ⟨⟨by decide +kernel, by decide +kernel⟩, List.mem_of_getElem? (i := 532) (by decide +kernel), List.mem_of_getElem? (i := 587) (by decide +kernel), List.mem_of_getElem? (i := 588) (by decide +kernel)⟩
theorem lw_p26 : lw_okq (⟨"FirmStoreModel", "root", "()I"⟩, 12) := ⟨⟨by decide +kernel, by decide +kernel⟩, List.mem_of_getElem? (i := 532) (by decide +kernel), List.mem_of_getElem? (i := 591) (by decide +kernel), List.mem_of_getElem? (i := 592) (by decide +kernel)⟩
theorem lw_p27 : lw_okq (⟨"FirmStoreModel", "countFree", "()I"⟩, 12) := ⟨⟨by decide +kernel, by decide +kernel⟩, List.mem_of_getElem? (i := 532) (by decide +kernel), List.mem_of_getElem? (i := 595) (by decide +kernel), List.mem_of_getElem? (i := 596) (by decide +kernel)⟩
theorem lw_p28 : lw_okq (⟨"FirmStoreModel", "mark", "()V"⟩, 12) := ⟨⟨by decide +kernel, by decide +kernel⟩, List.mem_of_getElem? (i := 532) (by decide +kernel), List.mem_of_getElem? (i := 599) (by decide +kernel), List.mem_of_getElem? (i := 600) (by decide +kernel)⟩
theorem lw_p29 : lw_okq (⟨"FirmStoreModel", "reach", "(I)Z"⟩, 12) := ⟨⟨by decide +kernel, by decide +kernel⟩, List.mem_of_getElem? (i := 532) (by decide +kernel), List.mem_of_getElem? (i := 603) (by decide +kernel), List.mem_of_getElem? (i := 604) (by decide +kernel)⟩
theorem lw_p30 : lw_okq (⟨"FirmStoreModel", "next", "(I)I"⟩, 12) := ⟨⟨by decide +kernel, by decide +kernel⟩, List.mem_of_getElem? (i := 532) (by decide +kernel), List.mem_of_getElem? (i := 607) (by decide +kernel), List.mem_of_getElem? (i := 608) (by decide +kernel)⟩
theorem lw_p31 : lw_okq (⟨"FirmStoreModel", "level", "(I)I"⟩, 12) := ⟨⟨by decide +kernel, by decide +kernel⟩, List.mem_of_getElem? (i := 532) (by decide +kernel), List.mem_of_getElem? (i := 611) (by decide +kernel), List.mem_of_getElem? (i := 612) (by decide +kernel)⟩
def lw_privs_2 : List (MethodName × Nat) := [(⟨"FirmStore$Table", "headOf", "(I)I"⟩, 2), (⟨"FirmStore$Table", "seekInChain", "(II)I"⟩, 2), (⟨"FirmStore", "addressOf", "(II)I"⟩, 4), (⟨"FirmStore$Tree", "dropPlace", "(II)Z"⟩, 2), (⟨"FirmStore$Tree", "clearWrong", "(I)Z"⟩, 2), (⟨"FirmStore$Tree", "isWrong", "(II)Z"⟩, 2), (⟨"FirmStore$Tree", "dropTwins", "(I)Z"⟩, 2), (⟨"FirmStore$Tree", "secondTwin", "(I)I"⟩, 2), (⟨"FirmStore$Tree", "isHung", "(II)Z"⟩, 2), (⟨"FirmStoreModel", "putTree", "(II)I"⟩, 12), (⟨"FirmStoreModel", "root", "()I"⟩, 12), (⟨"FirmStoreModel", "countFree", "()I"⟩, 12), (⟨"FirmStoreModel", "mark", "()V"⟩, 12), (⟨"FirmStoreModel", "reach", "(I)Z"⟩, 12), (⟨"FirmStoreModel", "next", "(I)I"⟩, 12), (⟨"FirmStoreModel", "level", "(I)I"⟩, 12)]
theorem lw_r2 : ∀ q ∈ lw_privs_2, lw_okq q := List.forall_mem_cons.mpr ⟨lw_p16, List.forall_mem_cons.mpr ⟨lw_p17, List.forall_mem_cons.mpr ⟨lw_p18, List.forall_mem_cons.mpr ⟨lw_p19, List.forall_mem_cons.mpr ⟨lw_p20, List.forall_mem_cons.mpr ⟨lw_p21, List.forall_mem_cons.mpr ⟨lw_p22, List.forall_mem_cons.mpr ⟨lw_p23, List.forall_mem_cons.mpr ⟨lw_p24, List.forall_mem_cons.mpr ⟨lw_p25, List.forall_mem_cons.mpr ⟨lw_p26, List.forall_mem_cons.mpr ⟨lw_p27, List.forall_mem_cons.mpr ⟨lw_p28, List.forall_mem_cons.mpr ⟨lw_p29, List.forall_mem_cons.mpr ⟨lw_p30, List.forall_mem_cons.mpr ⟨lw_p31, fun _ h => absurd h List.not_mem_nil⟩⟩⟩⟩⟩⟩⟩⟩⟩⟩⟩⟩⟩⟩⟩⟩
theorem lw_p32 : lw_okq (⟨"FirmStoreModel", "length", "(I)I"⟩, 12) := ⟨⟨by decide +kernel, by decide +kernel⟩, List.mem_of_getElem? (i := 532) (by decide +kernel), List.mem_of_getElem? (i := 615) (by decide +kernel), List.mem_of_getElem? (i := 616) (by decide +kernel)⟩
theorem lw_p33 : lw_okq (⟨"FirmStoreModel", "at", "(II)J"⟩, 12) := ⟨⟨by decide +kernel, by decide +kernel⟩, List.mem_of_getElem? (i := 532) (by decide +kernel), List.mem_of_getElem? (i := 619) (by decide +kernel), List.mem_of_getElem? (i := 620) (by decide +kernel)⟩
theorem lw_p34 : lw_okq (⟨"FirmStoreModel", "blockAt", "(II)I"⟩, 12) := ⟨⟨by decide +kernel, by decide +kernel⟩, List.mem_of_getElem? (i := 532) (by decide +kernel), List.mem_of_getElem? (i := 623) (by decide +kernel), List.mem_of_getElem? (i := 624) (by decide +kernel)⟩
theorem lw_p35 : lw_okq (⟨"FirmStoreModel", "make", "(IIIJJJ)I"⟩, 12) := ⟨⟨by decide +kernel, by decide +kernel⟩, List.mem_of_getElem? (i := 532) (by decide +kernel), List.mem_of_getElem? (i := 632) (by decide +kernel), List.mem_of_getElem? (i := 633) (by decide +kernel)⟩
theorem lw_p36 : lw_okq (⟨"FirmStoreModel", "store", "(IJ)V"⟩, 12) := ⟨⟨by decide +kernel, by decide +kernel⟩, List.mem_of_getElem? (i := 532) (by decide +kernel), List.mem_of_getElem? (i := 636) (by decide +kernel), List.mem_of_getElem? (i := 637) (by decide +kernel)⟩
theorem lw_p37 : lw_okq (⟨"FirmStoreModel", "cutNow", "()V"⟩, 12) := ⟨⟨by decide +kernel, by decide +kernel⟩, List.mem_of_getElem? (i := 532) (by decide +kernel), List.mem_of_getElem? (i := 640) (by decide +kernel), List.mem_of_getElem? (i := 641) (by decide +kernel)⟩
theorem lw_p38 : lw_okq (⟨"FirmStoreModel", "fence", "()V"⟩, 12) := ⟨⟨by decide +kernel, by decide +kernel⟩, List.mem_of_getElem? (i := 532) (by decide +kernel), List.mem_of_getElem? (i := 644) (by decide +kernel), List.mem_of_getElem? (i := 645) (by decide +kernel)⟩
theorem lw_p39 : lw_okq (⟨"FirmStoreModel", "firm", "(IJ)V"⟩, 12) := ⟨⟨by decide +kernel, by decide +kernel⟩, List.mem_of_getElem? (i := 532) (by decide +kernel), List.mem_of_getElem? (i := 648) (by decide +kernel), List.mem_of_getElem? (i := 649) (by decide +kernel)⟩
theorem lw_p40 : lw_okq (⟨"FirmStoreModel", "find", "(II)I"⟩, 12) := ⟨⟨by decide +kernel, by decide +kernel⟩, List.mem_of_getElem? (i := 532) (by decide +kernel), List.mem_of_getElem? (i := 652) (by decide +kernel), List.mem_of_getElem? (i := 653) (by decide +kernel)⟩
theorem lw_p41 : lw_okq (⟨"FirmStoreModel", "low", "(I)I"⟩, 12) := ⟨⟨by decide +kernel, by decide +kernel⟩, List.mem_of_getElem? (i := 532) (by decide +kernel), List.mem_of_getElem? (i := 656) (by decide +kernel), List.mem_of_getElem? (i := 657) (by decide +kernel)⟩
theorem lw_p42 : lw_okq (⟨"FirmStoreModel", "below", "(II)I"⟩, 12) := ⟨⟨by decide +kernel, by decide +kernel⟩, List.mem_of_getElem? (i := 532) (by decide +kernel), List.mem_of_getElem? (i := 660) (by decide +kernel), List.mem_of_getElem? (i := 661) (by decide +kernel)⟩
theorem lw_p43 : lw_okq (⟨"FirmStoreModel", "keyAt", "(II)I"⟩, 12) := ⟨⟨by decide +kernel, by decide +kernel⟩, List.mem_of_getElem? (i := 532) (by decide +kernel), List.mem_of_getElem? (i := 664) (by decide +kernel), List.mem_of_getElem? (i := 665) (by decide +kernel)⟩
theorem lw_p44 : lw_okq (⟨"FirmStoreModel", "placeIn", "(II)I"⟩, 12) := ⟨⟨by decide +kernel, by decide +kernel⟩, List.mem_of_getElem? (i := 532) (by decide +kernel), List.mem_of_getElem? (i := 671) (by decide +kernel), List.mem_of_getElem? (i := 672) (by decide +kernel)⟩
theorem lw_p45 : lw_okq (⟨"FirmStoreModel", "needed", "(I)I"⟩, 12) := ⟨⟨by decide +kernel, by decide +kernel⟩, List.mem_of_getElem? (i := 532) (by decide +kernel), List.mem_of_getElem? (i := 675) (by decide +kernel), List.mem_of_getElem? (i := 676) (by decide +kernel)⟩
theorem lw_p46 : lw_okq (⟨"FirmStoreModel", "split", "(I)I"⟩, 12) := ⟨⟨by decide +kernel, by decide +kernel⟩, List.mem_of_getElem? (i := 532) (by decide +kernel), List.mem_of_getElem? (i := 679) (by decide +kernel), List.mem_of_getElem? (i := 680) (by decide +kernel)⟩
theorem lw_p47 : lw_okq (⟨"FirmStoreModel", "hang", "(II)V"⟩, 12) := ⟨⟨by decide +kernel, by decide +kernel⟩, List.mem_of_getElem? (i := 532) (by decide +kernel), List.mem_of_getElem? (i := 683) (by decide +kernel), List.mem_of_getElem? (i := 684) (by decide +kernel)⟩
def lw_privs_3 : List (MethodName × Nat) := [(⟨"FirmStoreModel", "length", "(I)I"⟩, 12), (⟨"FirmStoreModel", "at", "(II)J"⟩, 12), (⟨"FirmStoreModel", "blockAt", "(II)I"⟩, 12), (⟨"FirmStoreModel", "make", "(IIIJJJ)I"⟩, 12), (⟨"FirmStoreModel", "store", "(IJ)V"⟩, 12), (⟨"FirmStoreModel", "cutNow", "()V"⟩, 12), (⟨"FirmStoreModel", "fence", "()V"⟩, 12), (⟨"FirmStoreModel", "firm", "(IJ)V"⟩, 12), (⟨"FirmStoreModel", "find", "(II)I"⟩, 12), (⟨"FirmStoreModel", "low", "(I)I"⟩, 12), (⟨"FirmStoreModel", "below", "(II)I"⟩, 12), (⟨"FirmStoreModel", "keyAt", "(II)I"⟩, 12), (⟨"FirmStoreModel", "placeIn", "(II)I"⟩, 12), (⟨"FirmStoreModel", "needed", "(I)I"⟩, 12), (⟨"FirmStoreModel", "split", "(I)I"⟩, 12), (⟨"FirmStoreModel", "hang", "(II)V"⟩, 12)]
theorem lw_r3 : ∀ q ∈ lw_privs_3, lw_okq q := List.forall_mem_cons.mpr ⟨lw_p32, List.forall_mem_cons.mpr ⟨lw_p33, List.forall_mem_cons.mpr ⟨lw_p34, List.forall_mem_cons.mpr ⟨lw_p35, List.forall_mem_cons.mpr ⟨lw_p36, List.forall_mem_cons.mpr ⟨lw_p37, List.forall_mem_cons.mpr ⟨lw_p38, List.forall_mem_cons.mpr ⟨lw_p39, List.forall_mem_cons.mpr ⟨lw_p40, List.forall_mem_cons.mpr ⟨lw_p41, List.forall_mem_cons.mpr ⟨lw_p42, List.forall_mem_cons.mpr ⟨lw_p43, List.forall_mem_cons.mpr ⟨lw_p44, List.forall_mem_cons.mpr ⟨lw_p45, List.forall_mem_cons.mpr ⟨lw_p46, List.forall_mem_cons.mpr ⟨lw_p47, fun _ h => absurd h List.not_mem_nil⟩⟩⟩⟩⟩⟩⟩⟩⟩⟩⟩⟩⟩⟩⟩⟩
theorem lw_p48 : lw_okq (⟨"FirmStoreModel", "entryOf", "(I)J"⟩, 12) := ⟨⟨by decide +kernel, by decide +kernel⟩, List.mem_of_getElem? (i := 532) (by decide +kernel), List.mem_of_getElem? (i := 687) (by decide +kernel), List.mem_of_getElem? (i := 688) (by decide +kernel)⟩
theorem lw_p49 : lw_okq (⟨"FirmStoreModel", "insert", "(IJ)V"⟩, 12) := ⟨⟨by decide +kernel, by decide +kernel⟩, List.mem_of_getElem? (i := 532) (by decide +kernel), List.mem_of_getElem? (i := 691) (by decide +kernel), List.mem_of_getElem? (i := 692) (by decide +kernel)⟩
theorem lw_p50 : lw_okq (⟨"FirmStoreModel", "putTable", "(II)I"⟩, 12) := ⟨⟨by decide +kernel, by decide +kernel⟩, List.mem_of_getElem? (i := 532) (by decide +kernel), List.mem_of_getElem? (i := 695) (by decide +kernel), List.mem_of_getElem? (i := 696) (by decide +kernel)⟩
theorem lw_p51 : lw_okq (⟨"FirmStoreModel", "placeOf", "(I)I"⟩, 12) := ⟨⟨by decide +kernel, by decide +kernel⟩, List.mem_of_getElem? (i := 532) (by decide +kernel), List.mem_of_getElem? (i := 699) (by decide +kernel), List.mem_of_getElem? (i := 700) (by decide +kernel)⟩
theorem lw_p52 : lw_okq (⟨"FirmStoreModel", "gapOf", "(I)I"⟩, 12) := ⟨⟨by decide +kernel, by decide +kernel⟩, List.mem_of_getElem? (i := 532) (by decide +kernel), List.mem_of_getElem? (i := 703) (by decide +kernel), List.mem_of_getElem? (i := 704) (by decide +kernel)⟩
theorem lw_p53 : lw_okq (⟨"FirmStoreModel", "read", "(II)I"⟩, 12) := ⟨⟨by decide +kernel, by decide +kernel⟩, List.mem_of_getElem? (i := 532) (by decide +kernel), List.mem_of_getElem? (i := 711) (by decide +kernel), List.mem_of_getElem? (i := 712) (by decide +kernel)⟩
theorem lw_p54 : lw_okq (⟨"FirmStoreModel", "drop", "(II)V"⟩, 12) := ⟨⟨by decide +kernel, by decide +kernel⟩, List.mem_of_getElem? (i := 532) (by decide +kernel), List.mem_of_getElem? (i := 715) (by decide +kernel), List.mem_of_getElem? (i := 716) (by decide +kernel)⟩
theorem lw_p55 : lw_okq (⟨"FirmStoreModel", "isRead", "(II)Z"⟩, 12) := ⟨⟨by decide +kernel, by decide +kernel⟩, List.mem_of_getElem? (i := 532) (by decide +kernel), List.mem_of_getElem? (i := 727) (by decide +kernel), List.mem_of_getElem? (i := 728) (by decide +kernel)⟩
theorem lw_p56 : lw_okq (⟨"FirmStoreModel", "repair", "()V"⟩, 12) := ⟨⟨by decide +kernel, by decide +kernel⟩, List.mem_of_getElem? (i := 532) (by decide +kernel), List.mem_of_getElem? (i := 739) (by decide +kernel), List.mem_of_getElem? (i := 740) (by decide +kernel)⟩
theorem lw_p57 : lw_okq (⟨"FirmStoreModel", "firstAt", "(I)I"⟩, 12) := ⟨⟨by decide +kernel, by decide +kernel⟩, List.mem_of_getElem? (i := 532) (by decide +kernel), List.mem_of_getElem? (i := 743) (by decide +kernel), List.mem_of_getElem? (i := 744) (by decide +kernel)⟩
theorem lw_p58 : lw_okq (⟨"FirmStoreModel", "putRight", "(I)V"⟩, 12) := ⟨⟨by decide +kernel, by decide +kernel⟩, List.mem_of_getElem? (i := 532) (by decide +kernel), List.mem_of_getElem? (i := 747) (by decide +kernel), List.mem_of_getElem? (i := 748) (by decide +kernel)⟩
theorem lw_p59 : lw_okq (⟨"FirmStoreModel", "isValue", "(II)Z"⟩, 12) := ⟨⟨by decide +kernel, by decide +kernel⟩, List.mem_of_getElem? (i := 532) (by decide +kernel), List.mem_of_getElem? (i := 751) (by decide +kernel), List.mem_of_getElem? (i := 752) (by decide +kernel)⟩
def lw_privs_4 : List (MethodName × Nat) := [(⟨"FirmStoreModel", "entryOf", "(I)J"⟩, 12), (⟨"FirmStoreModel", "insert", "(IJ)V"⟩, 12), (⟨"FirmStoreModel", "putTable", "(II)I"⟩, 12), (⟨"FirmStoreModel", "placeOf", "(I)I"⟩, 12), (⟨"FirmStoreModel", "gapOf", "(I)I"⟩, 12), (⟨"FirmStoreModel", "read", "(II)I"⟩, 12), (⟨"FirmStoreModel", "drop", "(II)V"⟩, 12), (⟨"FirmStoreModel", "isRead", "(II)Z"⟩, 12), (⟨"FirmStoreModel", "repair", "()V"⟩, 12), (⟨"FirmStoreModel", "firstAt", "(I)I"⟩, 12), (⟨"FirmStoreModel", "putRight", "(I)V"⟩, 12), (⟨"FirmStoreModel", "isValue", "(II)Z"⟩, 12)]
theorem lw_r4 : ∀ q ∈ lw_privs_4, lw_okq q := List.forall_mem_cons.mpr ⟨lw_p48, List.forall_mem_cons.mpr ⟨lw_p49, List.forall_mem_cons.mpr ⟨lw_p50, List.forall_mem_cons.mpr ⟨lw_p51, List.forall_mem_cons.mpr ⟨lw_p52, List.forall_mem_cons.mpr ⟨lw_p53, List.forall_mem_cons.mpr ⟨lw_p54, List.forall_mem_cons.mpr ⟨lw_p55, List.forall_mem_cons.mpr ⟨lw_p56, List.forall_mem_cons.mpr ⟨lw_p57, List.forall_mem_cons.mpr ⟨lw_p58, List.forall_mem_cons.mpr ⟨lw_p59, fun _ h => absurd h List.not_mem_nil⟩⟩⟩⟩⟩⟩⟩⟩⟩⟩⟩⟩
def lw_privs : List (MethodName × Nat) := lw_privs_1 ++ (lw_privs_2 ++ (lw_privs_3 ++ (lw_privs_4)))
def lw_tbl : List Cond := k2_sels lw_privs ++ tables_1
theorem lw_privs_ok : ∀ q ∈ lw_privs, lw_okq q := by
  show ∀ q ∈ lw_privs_1 ++ (lw_privs_2 ++ (lw_privs_3 ++ (lw_privs_4))), lw_okq q
  exact List.forall_mem_append.mpr ⟨lw_r1, List.forall_mem_append.mpr ⟨lw_r2, List.forall_mem_append.mpr ⟨lw_r3, lw_r4⟩⟩⟩
end
section
/-! BASE: uniform words, contracts over a world, entering, calling. -/
def tbG : List Cond := lw_tbl.filter goodWord
theorem tbG_in {w : Cond} (h : w ∈ lw_tbl) (g : goodWord w = true) : w ∈ tbG := List.mem_filter.mpr ⟨h, g⟩
def wz (y : MethodName) (b : ByteArray) (n : Nat) (r : Option FieldType) : List Cond := .code y b n r :: tbG
theorem wz_good {y y' : MethodName} {b b' : ByteArray} {n n' : Nat} {r r' : Option FieldType} (h : Cond.code y' b' n' r' ∈ tbG) : GoodIn (wz y b n r) (wz y' b' n' r') := by
  intro w hw
  rcases List.mem_cons.mp hw with rfl | hw
  · exact ⟨List.mem_cons_of_mem _ h, good_of_word (List.mem_filter.mp h).2⟩
  · exact ⟨List.mem_cons_of_mem _ hw, good_of_word (List.mem_filter.mp hw).2⟩
theorem tb_good {y' : MethodName} {b' : ByteArray} {n' : Nat} {r' : Option FieldType} (h : Cond.code y' b' n' r' ∈ tbG) : GoodIn tbG (wz y' b' n' r') := by
  intro w hw
  rcases List.mem_cons.mp hw with rfl | hw
  · exact ⟨h, good_of_word (List.mem_filter.mp h).2⟩
  · exact ⟨hw, good_of_word (List.mem_filter.mp hw).2⟩
/-- the links to private members of nest mates -/
def NL (U : State) : Prop := va_Nw (.methodLinkNest "FirmStore$Blocks" 25 ⟨"FirmStore", "valueOf", "(J)I"⟩ "FirmStore") U ∧ va_Nw (.methodLinkNest "FirmStore$Tree" 122 ⟨"FirmStore", "keyOf", "(J)I"⟩ "FirmStore") U ∧ va_Nw (.methodLinkNest "FirmStore$Tree" 53 ⟨"FirmStore", "entryOf", "(II)J"⟩ "FirmStore") U ∧ va_Nw (.methodLinkNest "FirmStore$Table" 38 ⟨"FirmStore", "entryOf", "(II)J"⟩ "FirmStore") U ∧ va_Nw (.methodLinkNest "FirmStore$Table" 62 ⟨"FirmStore", "keyOf", "(J)I"⟩ "FirmStore") U
theorem NL.warm {s U : State} (hW : s.WarmedH U.vm) (h : NL s) : NL U := ⟨va_Nw.warmM hW h.1, va_Nw.warmM hW h.2.1, va_Nw.warmM hW h.2.2.1, va_Nw.warmM hW h.2.2.2.1, va_Nw.warmM hW h.2.2.2.2⟩
theorem NL.call {U : State} {g : JFrame} {mk : MethodId} {a : Array Value} (h : NL U) : NL (U.calling g mk a) := ⟨va_Nw.same rfl rfl h.1, va_Nw.same rfl rfl h.2.1, va_Nw.same rfl rfl h.2.2.1, va_Nw.same rfl rfl h.2.2.2.1, va_Nw.same rfl rfl h.2.2.2.2⟩
def kPc {σ : Type} (D : va_G) (cl : List vw_C) (tys : List (ClassId × FieldType)) (Wd : σ → va_W) (u : σ) (sz : Nat) : State → Prop := fun U => U.heap.size = sz ∧ va_P D cl (Wd u) U.heap ∧ va_K D cl tys U ∧ va_D (fun _ => True) (Wd u) ∧ NL U
def kB {σ : Type} (D : va_G) (cl : List vw_C) (tys : List (ClassId × FieldType)) (Wd : σ → va_W) (u : σ) (sz : Nat) : σ → State → Prop := fun v t => va_P D cl (Wd v) t.heap ∧ va_K D cl tys t ∧ va_D (va_A (Wd u) sz) (Wd v)
def zRm (fr lo : Nat) : Room := { frames := fr, cells := 0, slots := 0, locals := lo }
def KI {σ : Type} (l : Launch) (D : va_G) (cl : List vw_C) (tys : List (ClassId × FieldType)) (Wd : σ → va_W) (y : MethodName) (b : ByteArray) (n : Nat) (rt : Option FieldType) (fr lo : Nat) (av : List Value) (u : σ) (r : Int32) (u' : σ) : Prop :=
  ∀ sz : Nat, Met l y (wz y b n rt) (zRm fr lo) (va_Pc av (kPc D cl tys Wd u sz)) (va_Qi (fun r' v => r' = r ∧ v = u') (kB D cl tys Wd u sz) (va_A (Wd u) sz)) 0 0 (va_A (Wd u) sz)
def KZ {σ : Type} (l : Launch) (D : va_G) (cl : List vw_C) (tys : List (ClassId × FieldType)) (Wd : σ → va_W) (y : MethodName) (b : ByteArray) (n : Nat) (rt : Option FieldType) (fr lo : Nat) (av : List Value) (u : σ) (r : Int32) (u' : σ) : Prop :=
  ∀ sz : Nat, Met l y (wz y b n rt) (zRm fr lo) (va_Pc av (kPc D cl tys Wd u sz)) (va_Qi (fun r' v => r' = r ∧ v = u' ∧ (r = 0 ∨ r = 1)) (kB D cl tys Wd u sz) (va_A (Wd u) sz)) 0 0 (va_A (Wd u) sz)
def KL {σ : Type} (l : Launch) (D : va_G) (cl : List vw_C) (tys : List (ClassId × FieldType)) (Wd : σ → va_W) (y : MethodName) (b : ByteArray) (n : Nat) (rt : Option FieldType) (fr lo : Nat) (av : List Value) (u : σ) (r : Int64) (u' : σ) : Prop :=
  ∀ sz : Nat, Met l y (wz y b n rt) (zRm fr lo) (va_Pc av (kPc D cl tys Wd u sz)) (va_Ql (fun r' v => r' = r ∧ v = u') (kB D cl tys Wd u sz) (va_A (Wd u) sz)) 0 0 (va_A (Wd u) sz)
def KV {σ : Type} (l : Launch) (D : va_G) (cl : List vw_C) (tys : List (ClassId × FieldType)) (Wd : σ → va_W) (y : MethodName) (b : ByteArray) (n : Nat) (rt : Option FieldType) (fr lo : Nat) (av : List Value) (u : σ) (u' : σ) : Prop :=
  ∀ sz : Nat, Met l y (wz y b n rt) (zRm fr lo) (va_Pc av (kPc D cl tys Wd u sz)) (va_Qv (fun v => v = u') (kB D cl tys Wd u sz) (va_A (Wd u) sz)) 0 0 (va_A (Wd u) sz)
theorem kPc_blind {σ : Type} {D : va_G} {cl : List vw_C} {tys : List (ClassId × FieldType)} {Wd : σ → va_W} {u : σ} {sz : Nat} {av : List Value} : FrameBlind (va_Pc av (kPc D cl tys Wd u sz)) := fun a U g mk q => by
  obtain ⟨q0, q1, qP, qK, qD, qN⟩ := q
  exact ⟨q0, q1, qP, va_K.moved (u := U) (U := U.calling g mk a) (Vm.Alike.refl U.vm) qK, qD, qN.call⟩
theorem nz {v : Int32} (h : v = 0 ∨ v = 1) : narrow .boolean (.int v) = .int v := by rcases h with rfl | rfl <;> decide
section Enter
variable {σ : Type} {l : Launch} {D : va_G} {cl : List vw_C} {tys : List (ClassId × FieldType)} {Wd : σ → va_W} {y : MethodName} {b : ByteArray} {n fr lo : Nat} {av : List Value} {u u' : σ}
/-- what a body has at its entry -/
def Ctx (l : Launch) (D : va_G) (cl : List vw_C) (tys : List (ClassId × FieldType)) (own : String) (b : ByteArray) (n : Nat) (av : List Value) (p : Program) (s : State) (m : MethodId) (c : Code) (A : Nat → Prop) : Prop :=
  p.tables.exec = Jvm.exec ∧ c.code = b ∧ c.maxLocals = n ∧ s.vm.findClass own = some m.cls ∧ (∀ w ∈ tbG, w.before av.toArray s = true) ∧ va_K D cl tys s ∧ NL s ∧ (∀ q : Nat, s.heap.size ≤ q → A q)
theorem mkI {r : Int32} (hy : plainName y.cls = true) (hn : (lg_sl av).length ≤ n)
    (body : ∀ (p : Program) (e : Env) (s : State) (m : MethodId) (below : List Frame) (meth : Method) (c : Code) (A : Nat → Prop) (Z : State → Prop) (ls : Array Slot), Ctx l D cl tys y.cls b n av p s m c A → va_P D cl (Wd u) s.heap → va_D A (Wd u) → va_S A s.heap s.heap [] → lv_has ls n (lv_args 0 av) →
      (∀ (H : Heap) (locs : List Loc) (pc : Nat) (ls : Array Slot) (r0 : Int32) (u0 : σ), (r0, u0) = (r, u') → va_P D cl (Wd u0) H → va_D A (Wd u0) → va_S A s.heap H locs → decode b pc = .ok (.ireturn, 1) → W p l e (zRm fr lo) s m av.toArray below meth c H locs 0 0 Z (F0 m pc ls [.int r0])) →
      W p l e (zRm fr lo) s m av.toArray below meth c s.heap [] 0 0 Z (F0 m 0 ls [])) : KI l D cl tys Wd y b n (some .int) fr lo av u r u' := by
  intro sz
  refine Met.ofW (cc := b) (maxL := n) (ret := some .int) hy rfl ?_
  intro p e s m args below meth c s₁ B hml hv
  obtain ⟨rfl, hsz, hP, hK, hD0, hN⟩ := hv
  have hts := atoms_spec (ws := wz y b n (some .int)) B.pre
  have hlocks := B.notSynchronized
  subst hsz
  have hD := hD0.self (sz := s.heap.size)
  rw [lg_entry_eq]
  refine body p e s m below meth c (va_A (Wd u) s.heap.size) _ _ ⟨B.exec, B.bytes, hml, findClass_of_methodNamed B.named, fun w h => hts w (List.mem_cons_of_mem _ h), hK, hN, fun q h => Or.inr h⟩ hP hD va_S.rf (lv_entry av hn) ?_
  intro H locs pc ls r0 u0 hru hP' hD' hS' hdg
  obtain ⟨rfl, rfl⟩ := Prod.mk.inj hru
  exact W.iret (v := r0) B.exec B.bytes B.returns (fun t ht hW => ⟨⟨r0, u0, rfl, ⟨rfl, rfl⟩, by rw [ht]; exact hP', va_K.moved hW.alike hK, hD'⟩, hS'.F ht⟩) hS'.2.2 hdg
theorem mkJ {r : Int32} (hy : plainFor y = true) (hn : (lg_sl av).length ≤ n)
    (body : ∀ (p : Program) (e : Env) (s : State) (m : MethodId) (below : List Frame) (meth : Method) (c : Code) (A : Nat → Prop) (Z : State → Prop) (ls : Array Slot), Ctx l D cl tys y.cls b n av p s m c A → va_P D cl (Wd u) s.heap → va_D A (Wd u) → va_S A s.heap s.heap [] → lv_has ls n (lv_args 0 av) →
      (∀ (H : Heap) (locs : List Loc) (pc : Nat) (ls : Array Slot) (r0 : Int32) (u0 : σ), (r0, u0) = (r, u') → va_P D cl (Wd u0) H → va_D A (Wd u0) → va_S A s.heap H locs → decode b pc = .ok (.ireturn, 1) → W p l e (zRm fr lo) s m av.toArray below meth c H locs 0 0 Z (F0 m pc ls [.int r0])) →
      W p l e (zRm fr lo) s m av.toArray below meth c s.heap [] 0 0 Z (F0 m 0 ls [])) : KI l D cl tys Wd y b n (some .int) fr lo av u r u' := by
  intro sz
  refine va_MetF (cc := b) (maxL := n) (ret := some .int) hy rfl ?_
  intro p e s m args below meth c s₁ B hml hv
  obtain ⟨rfl, hsz, hP, hK, hD0, hN⟩ := hv
  have hts := atoms_spec (ws := wz y b n (some .int)) B.pre
  have hlocks := B.notSynchronized
  subst hsz
  have hD := hD0.self (sz := s.heap.size)
  rw [lg_entry_eq]
  refine body p e s m below meth c (va_A (Wd u) s.heap.size) _ _ ⟨B.exec, B.bytes, hml, findClass_of_methodNamed B.named, fun w h => hts w (List.mem_cons_of_mem _ h), hK, hN, fun q h => Or.inr h⟩ hP hD va_S.rf (lv_entry av hn) ?_
  intro H locs pc ls r0 u0 hru hP' hD' hS' hdg
  obtain ⟨rfl, rfl⟩ := Prod.mk.inj hru
  exact W.iret (v := r0) B.exec B.bytes B.returns (fun t ht hW => ⟨⟨r0, u0, rfl, ⟨rfl, rfl⟩, by rw [ht]; exact hP', va_K.moved hW.alike hK, hD'⟩, hS'.F ht⟩) hS'.2.2 hdg
theorem mkZ {r : Int32} (hy : plainName y.cls = true) (hn : (lg_sl av).length ≤ n)
    (body : ∀ (p : Program) (e : Env) (s : State) (m : MethodId) (below : List Frame) (meth : Method) (c : Code) (A : Nat → Prop) (Z : State → Prop) (ls : Array Slot), Ctx l D cl tys y.cls b n av p s m c A → va_P D cl (Wd u) s.heap → va_D A (Wd u) → va_S A s.heap s.heap [] → lv_has ls n (lv_args 0 av) →
      (∀ (H : Heap) (locs : List Loc) (pc : Nat) (ls : Array Slot) (r0 : Int32) (u0 : σ), (r0, u0) = (r, u') → (r0 = 0 ∨ r0 = 1) → va_P D cl (Wd u0) H → va_D A (Wd u0) → va_S A s.heap H locs → decode b pc = .ok (.ireturn, 1) → W p l e (zRm fr lo) s m av.toArray below meth c H locs 0 0 Z (F0 m pc ls [.int r0])) →
      W p l e (zRm fr lo) s m av.toArray below meth c s.heap [] 0 0 Z (F0 m 0 ls [])) : KZ l D cl tys Wd y b n (some .boolean) fr lo av u r u' := by
  intro sz
  refine Met.ofW (cc := b) (maxL := n) (ret := some .boolean) hy rfl ?_
  intro p e s m args below meth c s₁ B hml hv
  obtain ⟨rfl, hsz, hP, hK, hD0, hN⟩ := hv
  have hts := atoms_spec (ws := wz y b n (some .boolean)) B.pre
  have hlocks := B.notSynchronized
  subst hsz
  have hD := hD0.self (sz := s.heap.size)
  rw [lg_entry_eq]
  refine body p e s m below meth c (va_A (Wd u) s.heap.size) _ _ ⟨B.exec, B.bytes, hml, findClass_of_methodNamed B.named, fun w h => hts w (List.mem_cons_of_mem _ h), hK, hN, fun q h => Or.inr h⟩ hP hD va_S.rf (lv_entry av hn) ?_
  intro H locs pc ls r0 u0 hru hz hP' hD' hS' hdg
  obtain ⟨rfl, rfl⟩ := Prod.mk.inj hru
  exact W.zret (v := r0) B.exec B.bytes B.returns (nz hz) (fun t ht hW => ⟨⟨r0, u0, rfl, ⟨rfl, rfl, hz⟩, by rw [ht]; exact hP', va_K.moved hW.alike hK, hD'⟩, hS'.F ht⟩) hS'.2.2 hdg
theorem mkL {r : Int64} (hy : plainName y.cls = true) (hn : (lg_sl av).length ≤ n)
    (body : ∀ (p : Program) (e : Env) (s : State) (m : MethodId) (below : List Frame) (meth : Method) (c : Code) (A : Nat → Prop) (Z : State → Prop) (ls : Array Slot), Ctx l D cl tys y.cls b n av p s m c A → va_P D cl (Wd u) s.heap → va_D A (Wd u) → va_S A s.heap s.heap [] → lv_has ls n (lv_args 0 av) →
      (∀ (H : Heap) (locs : List Loc) (pc : Nat) (ls : Array Slot) (r0 : Int64) (u0 : σ), (r0, u0) = (r, u') → va_P D cl (Wd u0) H → va_D A (Wd u0) → va_S A s.heap H locs → decode b pc = .ok (.lreturn, 1) → W p l e (zRm fr lo) s m av.toArray below meth c H locs 0 0 Z (F0 m pc ls [.long r0])) →
      W p l e (zRm fr lo) s m av.toArray below meth c s.heap [] 0 0 Z (F0 m 0 ls [])) : KL l D cl tys Wd y b n (some .long) fr lo av u r u' := by
  intro sz
  refine Met.ofW (cc := b) (maxL := n) (ret := some .long) hy rfl ?_
  intro p e s m args below meth c s₁ B hml hv
  obtain ⟨rfl, hsz, hP, hK, hD0, hN⟩ := hv
  have hts := atoms_spec (ws := wz y b n (some .long)) B.pre
  have hlocks := B.notSynchronized
  subst hsz
  have hD := hD0.self (sz := s.heap.size)
  rw [lg_entry_eq]
  refine body p e s m below meth c (va_A (Wd u) s.heap.size) _ _ ⟨B.exec, B.bytes, hml, findClass_of_methodNamed B.named, fun w h => hts w (List.mem_cons_of_mem _ h), hK, hN, fun q h => Or.inr h⟩ hP hD va_S.rf (lv_entry av hn) ?_
  intro H locs pc ls r0 u0 hru hP' hD' hS' hdg
  obtain ⟨rfl, rfl⟩ := Prod.mk.inj hru
  exact W.lret (v := r0) B.exec B.bytes B.returns (fun t ht hW => ⟨⟨r0, u0, rfl, ⟨rfl, rfl⟩, by rw [ht]; exact hP', va_K.moved hW.alike hK, hD'⟩, hS'.F ht⟩) hS'.2.2 hdg
theorem mkV (hy : plainName y.cls = true) (hn : (lg_sl av).length ≤ n)
    (body : ∀ (p : Program) (e : Env) (s : State) (m : MethodId) (below : List Frame) (meth : Method) (c : Code) (A : Nat → Prop) (Z : State → Prop) (ls : Array Slot), Ctx l D cl tys y.cls b n av p s m c A → va_P D cl (Wd u) s.heap → va_D A (Wd u) → va_S A s.heap s.heap [] → lv_has ls n (lv_args 0 av) →
      (∀ (H : Heap) (locs : List Loc) (pc : Nat) (ls : Array Slot) (r0 : Unit) (u0 : σ), (r0, u0) = ((), u') → va_P D cl (Wd u0) H → va_D A (Wd u0) → va_S A s.heap H locs → decode b pc = .ok (.return_, 1) → W p l e (zRm fr lo) s m av.toArray below meth c H locs 0 0 Z (F0 m pc ls [])) →
      W p l e (zRm fr lo) s m av.toArray below meth c s.heap [] 0 0 Z (F0 m 0 ls [])) : KV l D cl tys Wd y b n none fr lo av u u' := by
  intro sz
  refine Met.ofW (cc := b) (maxL := n) (ret := none) hy rfl ?_
  intro p e s m args below meth c s₁ B hml hv
  obtain ⟨rfl, hsz, hP, hK, hD0, hN⟩ := hv
  have hts := atoms_spec (ws := wz y b n none) B.pre
  have hlocks := B.notSynchronized
  subst hsz
  have hD := hD0.self (sz := s.heap.size)
  rw [lg_entry_eq]
  refine body p e s m below meth c (va_A (Wd u) s.heap.size) _ _ ⟨B.exec, B.bytes, hml, findClass_of_methodNamed B.named, fun w h => hts w (List.mem_cons_of_mem _ h), hK, hN, fun q h => Or.inr h⟩ hP hD va_S.rf (lv_entry av hn) ?_
  intro H locs pc ls r0 u0 hru hP' hD' hS' hdg
  obtain ⟨rfl, rfl⟩ := Prod.mk.inj hru
  exact W.vret B.exec B.bytes B.returns (fun t ht hW => ⟨⟨u0, rfl, rfl, by rw [ht]; exact hP', va_K.moved hW.alike hK, hD'⟩, hS'.F ht⟩) hS'.2.2 hdg
end Enter
end
section
/-! CALLS: of a method with a contract over the same world. -/
section Call
variable {σ : Type} {l : Launch} {D : va_G} {cl : List vw_C} {tys : List (ClassId × FieldType)} {Wd : σ → va_W} {y y' : MethodName} {b b' : ByteArray} {n n' fr lo fr' lo' : Nat} {rt' : Option FieldType} {av : List Value} {u u' : σ}
variable {p : Program} {e : Env} {s : State} {m : MethodId} {below : List Frame} {meth : Method} {c : Code} {A : Nat → Prop} {Z : State → Prop} {ls : Array Slot} {H : Heap} {locs : List Loc} {own : String}
theorem wA (hA : ∀ q : Nat, s.heap.size ≤ q → A q) (hD : va_D A (Wd u)) (hS : va_S A s.heap H locs) : ∀ q, va_A (Wd u) H.size q → A q := by
  intro q h
  rcases h with ⟨k, e, h⟩ | h
  · exact hD.2 k (q, e) h
  · exact hA q (Nat.le_trans hS.1 h)
theorem prS {As : List Value} (hK : va_K D cl tys s) (hN : NL s) (hP : va_P D cl (Wd u) H) (hD : va_D A (Wd u)) : PreS s H (va_Pc As (kPc D cl tys Wd u H.size)) As :=
  ⟨kPc_blind, fun U hU hW => ⟨rfl, by rw [hU], by rw [hU]; exact hP, va_K.moved hW.alike hK, hD.weaken (fun _ _ _ _ => trivial), hN.warm hW⟩⟩
theorem prV {As : List Value} {b0 ci q0 : Nat} {q : vw_C} {fs : List Value} (hK : va_K D cl tys s) (hN : NL s) (hP : va_P D cl (Wd u) H) (hD : va_D A (Wd u)) (hc : cl[ci]? = some q) (he : (Wd u)[q0]? = some (b0, .inr (ci, fs))) : PreV s H q.1 b0 (va_Pc (.ref b0 :: As) (kPc D cl tys Wd u H.size)) As :=
  ⟨kPc_blind, va_recv hK hP hc he, fun U hU hW => ⟨rfl, by rw [hU], by rw [hU]; exact hP, va_K.moved hW.alike hK, hD.weaken (fun _ _ _ _ => trivial), hN.warm hW⟩⟩
theorem cbB {index : Nat} (k : Nat) (hts : ∀ w ∈ tbG, w.before av.toArray s = true) (hcode : Cond.code y' b' n' rt' ∈ tbG) (hini : Cond.initialized y'.cls ∈ tbG) (hlink : Cond.methodLink own index y' ∈ tbG)
    (hd : y'.cls ≠ "java/lang/invoke/MethodHandle" ∧ y'.cls ≠ "java/lang/invoke/VarHandle" ∧ (parseMethodDescriptor y'.desc).map (fun d => d.parameters.length) = some k) (hR : fr' + 1 ≤ fr ∧ 8 + (n' + 11) + lo' ≤ lo) :
    CallB (zRm fr lo) s av.toArray own index y' b' n' rt' (wz y' b' n' rt') (zRm fr' lo') 0 0 k :=
  callB_of k hts (tb_good hcode) rfl rfl rfl (hts _ hini) (hts _ hlink) hd hR
theorem afI {r : Int32} {rest st0 : List Value} {pc : Nat} {a : Array Value} (hA : ∀ q : Nat, s.heap.size ≤ q → A q) (hD : va_D A (Wd u)) (hS : va_S A s.heap H locs)
    (hr : va_Run p l e (zRm fr lo) s m av.toArray below meth c H locs 0 0 0 0 (F0 m pc ls st0) rest (va_Qi (fun r' v => r' = r ∧ v = u') (kB D cl tys Wd u H.size) (va_A (Wd u) H.size) a) (va_A (Wd u) H.size))
    (kk : ∀ (H1 : Heap) (locs1 : List Loc), va_P D cl (Wd u') H1 → va_D A (Wd u') → va_S A s.heap H1 locs1 → W p l e (zRm fr lo) s m av.toArray below meth c H1 locs1 0 0 Z (F0 m (pc + 3) ls (.int r :: rest))) : W p l e (zRm fr lo) s m av.toArray below meth c H locs 0 0 Z (F0 m pc ls st0) := by
  have hF := wA hA hD hS
  refine va_calli hr hS (fun q _ h => hF q h) hF (fun r_ v t H1 locs1 ht hvm hw hB hz1 hk1 hS1 => ?_)
  obtain ⟨rfl, rfl⟩ := hw
  obtain ⟨hP1, hK1, hD1⟩ := hB
  rw [ht] at hP1
  exact kk H1 locs1 hP1 (hD1.weaken (fun k q _ h => hF _ h)) hS1
theorem goVI {r : Int32} {rest st0 : List Value} {pc index : Nat} {As : List Value} {b0 ci : Nat} (q0 : Nat) {T : u_T} {N : Nat} {fs : List Value} (C0 : Ctx l D cl tys own b n av p s m c A) (hM : KI l D cl tys Wd y' b' n' rt' fr' lo' (.ref b0 :: As) u r u') (hcode : Cond.code y' b' n' rt' ∈ tbG) (hini : Cond.initialized y'.cls ∈ tbG) (hlink : Cond.methodLink own index y' ∈ tbG) (hinst : Cond.instanceMethod y' ∈ tbG) (hsel : Cond.selects y'.cls y' y' ∈ tbG)
    (hd : y'.cls ≠ "java/lang/invoke/MethodHandle" ∧ y'.cls ≠ "java/lang/invoke/VarHandle" ∧ (parseMethodDescriptor y'.desc).map (fun d => d.parameters.length) = some As.length) (hR : fr' + 1 ≤ fr ∧ 8 + (n' + 11) + lo' ≤ lo)
    (he : (Wd u)[q0]? = some (b0, .inr (ci, fs))) (hc : cl[ci]? = some (y'.cls, T, N)) (hP : va_P D cl (Wd u) H) (hD : va_D A (Wd u)) (hS : va_S A s.heap H locs) (hsz : ls.size = n) (hst : st0 = As.reverse ++ .ref b0 :: rest) (hw : (rest.map fun v => v.category).sum ≤ 8) (hdg : decode b pc = .ok (.invokevirtual index, 3))
    (kk : ∀ (H1 : Heap) (locs1 : List Loc), va_P D cl (Wd u') H1 → va_D A (Wd u') → va_S A s.heap H1 locs1 → W p l e (zRm fr lo) s m av.toArray below meth c H1 locs1 0 0 Z (F0 m (pc + 3) ls (.int r :: rest))) : W p l e (zRm fr lo) s m av.toArray below meth c H locs 0 0 Z (F0 m pc ls st0) := by
  obtain ⟨hx, hb, hml, hown, hts, hK, hN, hA⟩ := C0
  exact afI hA hD hS (va_runV (As := As) (rest := rest) ⟨hx, hb, hml, hown, hts⟩ (hM H.size) ⟨cbB As.length hts hcode hini hlink hd hR, hts _ hinst, hts _ hsel⟩ (prV hK hN hP hD hc he) rfl rfl hsz hst (lv_room (rest := st0) hw) hdg ⟨Nat.le_refl _, Nat.le_refl _⟩) kk
theorem goSI {r : Int32} {rest st0 : List Value} {pc index : Nat} {As : List Value} (C0 : Ctx l D cl tys own b n av p s m c A) (hM : KI l D cl tys Wd y' b' n' rt' fr' lo' As u r u') (hcode : Cond.code y' b' n' rt' ∈ tbG) (hini : Cond.initialized y'.cls ∈ tbG) (hlink : Cond.methodLink own index y' ∈ tbG) (hsta : Cond.static y' ∈ tbG)
    (hd : y'.cls ≠ "java/lang/invoke/MethodHandle" ∧ y'.cls ≠ "java/lang/invoke/VarHandle" ∧ (parseMethodDescriptor y'.desc).map (fun d => d.parameters.length) = some As.length) (hR : fr' + 1 ≤ fr ∧ 8 + (n' + 11) + lo' ≤ lo)
    (hP : va_P D cl (Wd u) H) (hD : va_D A (Wd u)) (hS : va_S A s.heap H locs) (hsz : ls.size = n) (hst : st0 = As.reverse ++ rest) (hw : (rest.map fun v => v.category).sum ≤ 8) (hdg : decode b pc = .ok (.invokestatic index, 3))
    (kk : ∀ (H1 : Heap) (locs1 : List Loc), va_P D cl (Wd u') H1 → va_D A (Wd u') → va_S A s.heap H1 locs1 → W p l e (zRm fr lo) s m av.toArray below meth c H1 locs1 0 0 Z (F0 m (pc + 3) ls (.int r :: rest))) : W p l e (zRm fr lo) s m av.toArray below meth c H locs 0 0 Z (F0 m pc ls st0) := by
  obtain ⟨hx, hb, hml, hown, hts, hK, hN, hA⟩ := C0
  exact afI hA hD hS (va_runS (As := As) (rest := rest) ⟨hx, hb, hml, hown, hts⟩ (hM H.size) ⟨cbB As.length hts hcode hini hlink hd hR, hts _ hsta⟩ (prS hK hN hP hD) rfl rfl hsz hst (lv_room (rest := st0) hw) hdg ⟨Nat.le_refl _, Nat.le_refl _⟩) kk
theorem goNI {r : Int32} {rest st0 : List Value} {pc index : Nat} {As : List Value} {host : String} (C0 : Ctx l D cl tys own b n av p s m c A) (hM : KI l D cl tys Wd y' b' n' rt' fr' lo' As u r u') (hcode : Cond.code y' b' n' rt' ∈ tbG) (hini : Cond.initialized y'.cls ∈ tbG) (hlink : va_Nw (.methodLinkNest own index y' host) s) (hsta : Cond.static y' ∈ tbG)
    (hd : y'.cls ≠ "java/lang/invoke/MethodHandle" ∧ y'.cls ≠ "java/lang/invoke/VarHandle" ∧ (parseMethodDescriptor y'.desc).map (fun d => d.parameters.length) = some As.length) (hR : fr' + 1 ≤ fr ∧ 8 + (n' + 11) + lo' ≤ lo)
    (hP : va_P D cl (Wd u) H) (hD : va_D A (Wd u)) (hS : va_S A s.heap H locs) (hsz : ls.size = n) (hst : st0 = As.reverse ++ rest) (hw : (rest.map fun v => v.category).sum ≤ 8) (hdg : decode b pc = .ok (.invokestatic index, 3))
    (kk : ∀ (H1 : Heap) (locs1 : List Loc), va_P D cl (Wd u') H1 → va_D A (Wd u') → va_S A s.heap H1 locs1 → W p l e (zRm fr lo) s m av.toArray below meth c H1 locs1 0 0 Z (F0 m (pc + 3) ls (.int r :: rest))) : W p l e (zRm fr lo) s m av.toArray below meth c H locs 0 0 Z (F0 m pc ls st0) := by
  obtain ⟨hx, hb, hml, hown, hts, hK, hN, hA⟩ := C0
  exact afI hA hD hS (va_runSN (As := As) (rest := rest) ⟨hx, hb, hml, hown, hts⟩ (hM H.size) ⟨va_cnB As.length hts (tb_good hcode) rfl rfl rfl hlink (hts _ hini) hd hR, hts _ hsta, trivial⟩ (prS hK hN hP hD) rfl rfl hsz hst (lv_room (rest := st0) hw) hdg ⟨Nat.le_refl _, Nat.le_refl _⟩) kk
theorem afZ {r : Int32} {rest st0 : List Value} {pc : Nat} {a : Array Value} (hA : ∀ q : Nat, s.heap.size ≤ q → A q) (hD : va_D A (Wd u)) (hS : va_S A s.heap H locs)
    (hr : va_Run p l e (zRm fr lo) s m av.toArray below meth c H locs 0 0 0 0 (F0 m pc ls st0) rest (va_Qi (fun r' v => r' = r ∧ v = u' ∧ (r = 0 ∨ r = 1)) (kB D cl tys Wd u H.size) (va_A (Wd u) H.size) a) (va_A (Wd u) H.size))
    (kk : ∀ (H1 : Heap) (locs1 : List Loc), (r = 0 ∨ r = 1) → va_P D cl (Wd u') H1 → va_D A (Wd u') → va_S A s.heap H1 locs1 → W p l e (zRm fr lo) s m av.toArray below meth c H1 locs1 0 0 Z (F0 m (pc + 3) ls (.int r :: rest))) : W p l e (zRm fr lo) s m av.toArray below meth c H locs 0 0 Z (F0 m pc ls st0) := by
  have hF := wA hA hD hS
  refine va_calli hr hS (fun q _ h => hF q h) hF (fun r_ v t H1 locs1 ht hvm hw hB hz1 hk1 hS1 => ?_)
  obtain ⟨rfl, rfl, hz⟩ := hw
  obtain ⟨hP1, hK1, hD1⟩ := hB
  rw [ht] at hP1
  exact kk H1 locs1 hz hP1 (hD1.weaken (fun k q _ h => hF _ h)) hS1
theorem goVZ {r : Int32} {rest st0 : List Value} {pc index : Nat} {As : List Value} {b0 ci : Nat} (q0 : Nat) {T : u_T} {N : Nat} {fs : List Value} (C0 : Ctx l D cl tys own b n av p s m c A) (hM : KZ l D cl tys Wd y' b' n' rt' fr' lo' (.ref b0 :: As) u r u') (hcode : Cond.code y' b' n' rt' ∈ tbG) (hini : Cond.initialized y'.cls ∈ tbG) (hlink : Cond.methodLink own index y' ∈ tbG) (hinst : Cond.instanceMethod y' ∈ tbG) (hsel : Cond.selects y'.cls y' y' ∈ tbG)
    (hd : y'.cls ≠ "java/lang/invoke/MethodHandle" ∧ y'.cls ≠ "java/lang/invoke/VarHandle" ∧ (parseMethodDescriptor y'.desc).map (fun d => d.parameters.length) = some As.length) (hR : fr' + 1 ≤ fr ∧ 8 + (n' + 11) + lo' ≤ lo)
    (he : (Wd u)[q0]? = some (b0, .inr (ci, fs))) (hc : cl[ci]? = some (y'.cls, T, N)) (hP : va_P D cl (Wd u) H) (hD : va_D A (Wd u)) (hS : va_S A s.heap H locs) (hsz : ls.size = n) (hst : st0 = As.reverse ++ .ref b0 :: rest) (hw : (rest.map fun v => v.category).sum ≤ 8) (hdg : decode b pc = .ok (.invokevirtual index, 3))
    (kk : ∀ (H1 : Heap) (locs1 : List Loc), (r = 0 ∨ r = 1) → va_P D cl (Wd u') H1 → va_D A (Wd u') → va_S A s.heap H1 locs1 → W p l e (zRm fr lo) s m av.toArray below meth c H1 locs1 0 0 Z (F0 m (pc + 3) ls (.int r :: rest))) : W p l e (zRm fr lo) s m av.toArray below meth c H locs 0 0 Z (F0 m pc ls st0) := by
  obtain ⟨hx, hb, hml, hown, hts, hK, hN, hA⟩ := C0
  exact afZ hA hD hS (va_runV (As := As) (rest := rest) ⟨hx, hb, hml, hown, hts⟩ (hM H.size) ⟨cbB As.length hts hcode hini hlink hd hR, hts _ hinst, hts _ hsel⟩ (prV hK hN hP hD hc he) rfl rfl hsz hst (lv_room (rest := st0) hw) hdg ⟨Nat.le_refl _, Nat.le_refl _⟩) kk
theorem goSZ {r : Int32} {rest st0 : List Value} {pc index : Nat} {As : List Value} (C0 : Ctx l D cl tys own b n av p s m c A) (hM : KZ l D cl tys Wd y' b' n' rt' fr' lo' As u r u') (hcode : Cond.code y' b' n' rt' ∈ tbG) (hini : Cond.initialized y'.cls ∈ tbG) (hlink : Cond.methodLink own index y' ∈ tbG) (hsta : Cond.static y' ∈ tbG)
    (hd : y'.cls ≠ "java/lang/invoke/MethodHandle" ∧ y'.cls ≠ "java/lang/invoke/VarHandle" ∧ (parseMethodDescriptor y'.desc).map (fun d => d.parameters.length) = some As.length) (hR : fr' + 1 ≤ fr ∧ 8 + (n' + 11) + lo' ≤ lo)
    (hP : va_P D cl (Wd u) H) (hD : va_D A (Wd u)) (hS : va_S A s.heap H locs) (hsz : ls.size = n) (hst : st0 = As.reverse ++ rest) (hw : (rest.map fun v => v.category).sum ≤ 8) (hdg : decode b pc = .ok (.invokestatic index, 3))
    (kk : ∀ (H1 : Heap) (locs1 : List Loc), (r = 0 ∨ r = 1) → va_P D cl (Wd u') H1 → va_D A (Wd u') → va_S A s.heap H1 locs1 → W p l e (zRm fr lo) s m av.toArray below meth c H1 locs1 0 0 Z (F0 m (pc + 3) ls (.int r :: rest))) : W p l e (zRm fr lo) s m av.toArray below meth c H locs 0 0 Z (F0 m pc ls st0) := by
  obtain ⟨hx, hb, hml, hown, hts, hK, hN, hA⟩ := C0
  exact afZ hA hD hS (va_runS (As := As) (rest := rest) ⟨hx, hb, hml, hown, hts⟩ (hM H.size) ⟨cbB As.length hts hcode hini hlink hd hR, hts _ hsta⟩ (prS hK hN hP hD) rfl rfl hsz hst (lv_room (rest := st0) hw) hdg ⟨Nat.le_refl _, Nat.le_refl _⟩) kk
theorem goNZ {r : Int32} {rest st0 : List Value} {pc index : Nat} {As : List Value} {host : String} (C0 : Ctx l D cl tys own b n av p s m c A) (hM : KZ l D cl tys Wd y' b' n' rt' fr' lo' As u r u') (hcode : Cond.code y' b' n' rt' ∈ tbG) (hini : Cond.initialized y'.cls ∈ tbG) (hlink : va_Nw (.methodLinkNest own index y' host) s) (hsta : Cond.static y' ∈ tbG)
    (hd : y'.cls ≠ "java/lang/invoke/MethodHandle" ∧ y'.cls ≠ "java/lang/invoke/VarHandle" ∧ (parseMethodDescriptor y'.desc).map (fun d => d.parameters.length) = some As.length) (hR : fr' + 1 ≤ fr ∧ 8 + (n' + 11) + lo' ≤ lo)
    (hP : va_P D cl (Wd u) H) (hD : va_D A (Wd u)) (hS : va_S A s.heap H locs) (hsz : ls.size = n) (hst : st0 = As.reverse ++ rest) (hw : (rest.map fun v => v.category).sum ≤ 8) (hdg : decode b pc = .ok (.invokestatic index, 3))
    (kk : ∀ (H1 : Heap) (locs1 : List Loc), (r = 0 ∨ r = 1) → va_P D cl (Wd u') H1 → va_D A (Wd u') → va_S A s.heap H1 locs1 → W p l e (zRm fr lo) s m av.toArray below meth c H1 locs1 0 0 Z (F0 m (pc + 3) ls (.int r :: rest))) : W p l e (zRm fr lo) s m av.toArray below meth c H locs 0 0 Z (F0 m pc ls st0) := by
  obtain ⟨hx, hb, hml, hown, hts, hK, hN, hA⟩ := C0
  exact afZ hA hD hS (va_runSN (As := As) (rest := rest) ⟨hx, hb, hml, hown, hts⟩ (hM H.size) ⟨va_cnB As.length hts (tb_good hcode) rfl rfl rfl hlink (hts _ hini) hd hR, hts _ hsta, trivial⟩ (prS hK hN hP hD) rfl rfl hsz hst (lv_room (rest := st0) hw) hdg ⟨Nat.le_refl _, Nat.le_refl _⟩) kk
theorem afL {r : Int64} {rest st0 : List Value} {pc : Nat} {a : Array Value} (hA : ∀ q : Nat, s.heap.size ≤ q → A q) (hD : va_D A (Wd u)) (hS : va_S A s.heap H locs)
    (hr : va_Run p l e (zRm fr lo) s m av.toArray below meth c H locs 0 0 0 0 (F0 m pc ls st0) rest (va_Ql (fun r' v => r' = r ∧ v = u') (kB D cl tys Wd u H.size) (va_A (Wd u) H.size) a) (va_A (Wd u) H.size))
    (kk : ∀ (H1 : Heap) (locs1 : List Loc), va_P D cl (Wd u') H1 → va_D A (Wd u') → va_S A s.heap H1 locs1 → W p l e (zRm fr lo) s m av.toArray below meth c H1 locs1 0 0 Z (F0 m (pc + 3) ls (.long r :: rest))) : W p l e (zRm fr lo) s m av.toArray below meth c H locs 0 0 Z (F0 m pc ls st0) := by
  have hF := wA hA hD hS
  refine va_calll hr hS (fun q _ h => hF q h) hF (fun r_ v t H1 locs1 ht hvm hw hB hz1 hk1 hS1 => ?_)
  obtain ⟨rfl, rfl⟩ := hw
  obtain ⟨hP1, hK1, hD1⟩ := hB
  rw [ht] at hP1
  exact kk H1 locs1 hP1 (hD1.weaken (fun k q _ h => hF _ h)) hS1
theorem goVL {r : Int64} {rest st0 : List Value} {pc index : Nat} {As : List Value} {b0 ci : Nat} (q0 : Nat) {T : u_T} {N : Nat} {fs : List Value} (C0 : Ctx l D cl tys own b n av p s m c A) (hM : KL l D cl tys Wd y' b' n' rt' fr' lo' (.ref b0 :: As) u r u') (hcode : Cond.code y' b' n' rt' ∈ tbG) (hini : Cond.initialized y'.cls ∈ tbG) (hlink : Cond.methodLink own index y' ∈ tbG) (hinst : Cond.instanceMethod y' ∈ tbG) (hsel : Cond.selects y'.cls y' y' ∈ tbG)
    (hd : y'.cls ≠ "java/lang/invoke/MethodHandle" ∧ y'.cls ≠ "java/lang/invoke/VarHandle" ∧ (parseMethodDescriptor y'.desc).map (fun d => d.parameters.length) = some As.length) (hR : fr' + 1 ≤ fr ∧ 8 + (n' + 11) + lo' ≤ lo)
    (he : (Wd u)[q0]? = some (b0, .inr (ci, fs))) (hc : cl[ci]? = some (y'.cls, T, N)) (hP : va_P D cl (Wd u) H) (hD : va_D A (Wd u)) (hS : va_S A s.heap H locs) (hsz : ls.size = n) (hst : st0 = As.reverse ++ .ref b0 :: rest) (hw : (rest.map fun v => v.category).sum ≤ 8) (hdg : decode b pc = .ok (.invokevirtual index, 3))
    (kk : ∀ (H1 : Heap) (locs1 : List Loc), va_P D cl (Wd u') H1 → va_D A (Wd u') → va_S A s.heap H1 locs1 → W p l e (zRm fr lo) s m av.toArray below meth c H1 locs1 0 0 Z (F0 m (pc + 3) ls (.long r :: rest))) : W p l e (zRm fr lo) s m av.toArray below meth c H locs 0 0 Z (F0 m pc ls st0) := by
  obtain ⟨hx, hb, hml, hown, hts, hK, hN, hA⟩ := C0
  exact afL hA hD hS (va_runV (As := As) (rest := rest) ⟨hx, hb, hml, hown, hts⟩ (hM H.size) ⟨cbB As.length hts hcode hini hlink hd hR, hts _ hinst, hts _ hsel⟩ (prV hK hN hP hD hc he) rfl rfl hsz hst (lv_room (rest := st0) hw) hdg ⟨Nat.le_refl _, Nat.le_refl _⟩) kk
theorem goSL {r : Int64} {rest st0 : List Value} {pc index : Nat} {As : List Value} (C0 : Ctx l D cl tys own b n av p s m c A) (hM : KL l D cl tys Wd y' b' n' rt' fr' lo' As u r u') (hcode : Cond.code y' b' n' rt' ∈ tbG) (hini : Cond.initialized y'.cls ∈ tbG) (hlink : Cond.methodLink own index y' ∈ tbG) (hsta : Cond.static y' ∈ tbG)
    (hd : y'.cls ≠ "java/lang/invoke/MethodHandle" ∧ y'.cls ≠ "java/lang/invoke/VarHandle" ∧ (parseMethodDescriptor y'.desc).map (fun d => d.parameters.length) = some As.length) (hR : fr' + 1 ≤ fr ∧ 8 + (n' + 11) + lo' ≤ lo)
    (hP : va_P D cl (Wd u) H) (hD : va_D A (Wd u)) (hS : va_S A s.heap H locs) (hsz : ls.size = n) (hst : st0 = As.reverse ++ rest) (hw : (rest.map fun v => v.category).sum ≤ 8) (hdg : decode b pc = .ok (.invokestatic index, 3))
    (kk : ∀ (H1 : Heap) (locs1 : List Loc), va_P D cl (Wd u') H1 → va_D A (Wd u') → va_S A s.heap H1 locs1 → W p l e (zRm fr lo) s m av.toArray below meth c H1 locs1 0 0 Z (F0 m (pc + 3) ls (.long r :: rest))) : W p l e (zRm fr lo) s m av.toArray below meth c H locs 0 0 Z (F0 m pc ls st0) := by
  obtain ⟨hx, hb, hml, hown, hts, hK, hN, hA⟩ := C0
  exact afL hA hD hS (va_runS (As := As) (rest := rest) ⟨hx, hb, hml, hown, hts⟩ (hM H.size) ⟨cbB As.length hts hcode hini hlink hd hR, hts _ hsta⟩ (prS hK hN hP hD) rfl rfl hsz hst (lv_room (rest := st0) hw) hdg ⟨Nat.le_refl _, Nat.le_refl _⟩) kk
theorem goNL {r : Int64} {rest st0 : List Value} {pc index : Nat} {As : List Value} {host : String} (C0 : Ctx l D cl tys own b n av p s m c A) (hM : KL l D cl tys Wd y' b' n' rt' fr' lo' As u r u') (hcode : Cond.code y' b' n' rt' ∈ tbG) (hini : Cond.initialized y'.cls ∈ tbG) (hlink : va_Nw (.methodLinkNest own index y' host) s) (hsta : Cond.static y' ∈ tbG)
    (hd : y'.cls ≠ "java/lang/invoke/MethodHandle" ∧ y'.cls ≠ "java/lang/invoke/VarHandle" ∧ (parseMethodDescriptor y'.desc).map (fun d => d.parameters.length) = some As.length) (hR : fr' + 1 ≤ fr ∧ 8 + (n' + 11) + lo' ≤ lo)
    (hP : va_P D cl (Wd u) H) (hD : va_D A (Wd u)) (hS : va_S A s.heap H locs) (hsz : ls.size = n) (hst : st0 = As.reverse ++ rest) (hw : (rest.map fun v => v.category).sum ≤ 8) (hdg : decode b pc = .ok (.invokestatic index, 3))
    (kk : ∀ (H1 : Heap) (locs1 : List Loc), va_P D cl (Wd u') H1 → va_D A (Wd u') → va_S A s.heap H1 locs1 → W p l e (zRm fr lo) s m av.toArray below meth c H1 locs1 0 0 Z (F0 m (pc + 3) ls (.long r :: rest))) : W p l e (zRm fr lo) s m av.toArray below meth c H locs 0 0 Z (F0 m pc ls st0) := by
  obtain ⟨hx, hb, hml, hown, hts, hK, hN, hA⟩ := C0
  exact afL hA hD hS (va_runSN (As := As) (rest := rest) ⟨hx, hb, hml, hown, hts⟩ (hM H.size) ⟨va_cnB As.length hts (tb_good hcode) rfl rfl rfl hlink (hts _ hini) hd hR, hts _ hsta, trivial⟩ (prS hK hN hP hD) rfl rfl hsz hst (lv_room (rest := st0) hw) hdg ⟨Nat.le_refl _, Nat.le_refl _⟩) kk
theorem afV {rest st0 : List Value} {pc : Nat} {a : Array Value} (hA : ∀ q : Nat, s.heap.size ≤ q → A q) (hD : va_D A (Wd u)) (hS : va_S A s.heap H locs)
    (hr : va_Run p l e (zRm fr lo) s m av.toArray below meth c H locs 0 0 0 0 (F0 m pc ls st0) rest (va_Qv (fun v => v = u') (kB D cl tys Wd u H.size) (va_A (Wd u) H.size) a) (va_A (Wd u) H.size))
    (kk : ∀ (H1 : Heap) (locs1 : List Loc), va_P D cl (Wd u') H1 → va_D A (Wd u') → va_S A s.heap H1 locs1 → W p l e (zRm fr lo) s m av.toArray below meth c H1 locs1 0 0 Z (F0 m (pc + 3) ls (rest))) : W p l e (zRm fr lo) s m av.toArray below meth c H locs 0 0 Z (F0 m pc ls st0) := by
  have hF := wA hA hD hS
  refine va_callv hr hS (fun q _ h => hF q h) hF (fun v t H1 locs1 ht hvm hw hB hz1 hk1 hS1 => ?_)
  obtain rfl := hw
  obtain ⟨hP1, hK1, hD1⟩ := hB
  rw [ht] at hP1
  exact kk H1 locs1 hP1 (hD1.weaken (fun k q _ h => hF _ h)) hS1
theorem goVV {rest st0 : List Value} {pc index : Nat} {As : List Value} {b0 ci : Nat} (q0 : Nat) {T : u_T} {N : Nat} {fs : List Value} (C0 : Ctx l D cl tys own b n av p s m c A) (hM : KV l D cl tys Wd y' b' n' rt' fr' lo' (.ref b0 :: As) u u') (hcode : Cond.code y' b' n' rt' ∈ tbG) (hini : Cond.initialized y'.cls ∈ tbG) (hlink : Cond.methodLink own index y' ∈ tbG) (hinst : Cond.instanceMethod y' ∈ tbG) (hsel : Cond.selects y'.cls y' y' ∈ tbG)
    (hd : y'.cls ≠ "java/lang/invoke/MethodHandle" ∧ y'.cls ≠ "java/lang/invoke/VarHandle" ∧ (parseMethodDescriptor y'.desc).map (fun d => d.parameters.length) = some As.length) (hR : fr' + 1 ≤ fr ∧ 8 + (n' + 11) + lo' ≤ lo)
    (he : (Wd u)[q0]? = some (b0, .inr (ci, fs))) (hc : cl[ci]? = some (y'.cls, T, N)) (hP : va_P D cl (Wd u) H) (hD : va_D A (Wd u)) (hS : va_S A s.heap H locs) (hsz : ls.size = n) (hst : st0 = As.reverse ++ .ref b0 :: rest) (hw : (rest.map fun v => v.category).sum ≤ 8) (hdg : decode b pc = .ok (.invokevirtual index, 3))
    (kk : ∀ (H1 : Heap) (locs1 : List Loc), va_P D cl (Wd u') H1 → va_D A (Wd u') → va_S A s.heap H1 locs1 → W p l e (zRm fr lo) s m av.toArray below meth c H1 locs1 0 0 Z (F0 m (pc + 3) ls (rest))) : W p l e (zRm fr lo) s m av.toArray below meth c H locs 0 0 Z (F0 m pc ls st0) := by
  obtain ⟨hx, hb, hml, hown, hts, hK, hN, hA⟩ := C0
  exact afV hA hD hS (va_runV (As := As) (rest := rest) ⟨hx, hb, hml, hown, hts⟩ (hM H.size) ⟨cbB As.length hts hcode hini hlink hd hR, hts _ hinst, hts _ hsel⟩ (prV hK hN hP hD hc he) rfl rfl hsz hst (lv_room (rest := st0) hw) hdg ⟨Nat.le_refl _, Nat.le_refl _⟩) kk
theorem goSV {rest st0 : List Value} {pc index : Nat} {As : List Value} (C0 : Ctx l D cl tys own b n av p s m c A) (hM : KV l D cl tys Wd y' b' n' rt' fr' lo' As u u') (hcode : Cond.code y' b' n' rt' ∈ tbG) (hini : Cond.initialized y'.cls ∈ tbG) (hlink : Cond.methodLink own index y' ∈ tbG) (hsta : Cond.static y' ∈ tbG)
    (hd : y'.cls ≠ "java/lang/invoke/MethodHandle" ∧ y'.cls ≠ "java/lang/invoke/VarHandle" ∧ (parseMethodDescriptor y'.desc).map (fun d => d.parameters.length) = some As.length) (hR : fr' + 1 ≤ fr ∧ 8 + (n' + 11) + lo' ≤ lo)
    (hP : va_P D cl (Wd u) H) (hD : va_D A (Wd u)) (hS : va_S A s.heap H locs) (hsz : ls.size = n) (hst : st0 = As.reverse ++ rest) (hw : (rest.map fun v => v.category).sum ≤ 8) (hdg : decode b pc = .ok (.invokestatic index, 3))
    (kk : ∀ (H1 : Heap) (locs1 : List Loc), va_P D cl (Wd u') H1 → va_D A (Wd u') → va_S A s.heap H1 locs1 → W p l e (zRm fr lo) s m av.toArray below meth c H1 locs1 0 0 Z (F0 m (pc + 3) ls (rest))) : W p l e (zRm fr lo) s m av.toArray below meth c H locs 0 0 Z (F0 m pc ls st0) := by
  obtain ⟨hx, hb, hml, hown, hts, hK, hN, hA⟩ := C0
  exact afV hA hD hS (va_runS (As := As) (rest := rest) ⟨hx, hb, hml, hown, hts⟩ (hM H.size) ⟨cbB As.length hts hcode hini hlink hd hR, hts _ hsta⟩ (prS hK hN hP hD) rfl rfl hsz hst (lv_room (rest := st0) hw) hdg ⟨Nat.le_refl _, Nat.le_refl _⟩) kk
theorem goNV {rest st0 : List Value} {pc index : Nat} {As : List Value} {host : String} (C0 : Ctx l D cl tys own b n av p s m c A) (hM : KV l D cl tys Wd y' b' n' rt' fr' lo' As u u') (hcode : Cond.code y' b' n' rt' ∈ tbG) (hini : Cond.initialized y'.cls ∈ tbG) (hlink : va_Nw (.methodLinkNest own index y' host) s) (hsta : Cond.static y' ∈ tbG)
    (hd : y'.cls ≠ "java/lang/invoke/MethodHandle" ∧ y'.cls ≠ "java/lang/invoke/VarHandle" ∧ (parseMethodDescriptor y'.desc).map (fun d => d.parameters.length) = some As.length) (hR : fr' + 1 ≤ fr ∧ 8 + (n' + 11) + lo' ≤ lo)
    (hP : va_P D cl (Wd u) H) (hD : va_D A (Wd u)) (hS : va_S A s.heap H locs) (hsz : ls.size = n) (hst : st0 = As.reverse ++ rest) (hw : (rest.map fun v => v.category).sum ≤ 8) (hdg : decode b pc = .ok (.invokestatic index, 3))
    (kk : ∀ (H1 : Heap) (locs1 : List Loc), va_P D cl (Wd u') H1 → va_D A (Wd u') → va_S A s.heap H1 locs1 → W p l e (zRm fr lo) s m av.toArray below meth c H1 locs1 0 0 Z (F0 m (pc + 3) ls (rest))) : W p l e (zRm fr lo) s m av.toArray below meth c H locs 0 0 Z (F0 m pc ls st0) := by
  obtain ⟨hx, hb, hml, hown, hts, hK, hN, hA⟩ := C0
  exact afV hA hD hS (va_runSN (As := As) (rest := rest) ⟨hx, hb, hml, hown, hts⟩ (hM H.size) ⟨va_cnB As.length hts (tb_good hcode) rfl rfl rfl hlink (hts _ hini) hd hR, hts _ hsta, trivial⟩ (prS hK hN hP hD) rfl rfl hsz hst (lv_room (rest := st0) hw) hdg ⟨Nat.le_refl _, Nat.le_refl _⟩) kk
end Call
end
section
/-! MODEL HELPERS: binding, guards, loops as functions -/
def fz : Nat := 4000
def inb (i : Int32) (n : Nat) : Bool := decide (0 ≤ i.toInt ∧ i.toInt < n)
theorem inb_in {i : Int32} {n : Nat} (h : inb i n = true) : vp_in i n := vp_in_iff.mpr (of_decide_eq_true h)
theorem gd {α : Type} {b : Bool} {X : Option α} {o : α} (h : (if b = true then X else none) = some o) : b = true ∧ X = some o := by
  by_cases hb : b = true
  · rw [if_pos hb] at h; exact ⟨hb, h⟩
  · rw [if_neg hb] at h; cases h
def ob {α σ β : Type} (x : Option (α × σ)) (f : α → σ → Option β) : Option β := match x with
  | none => none
  | some q => f q.1 q.2
theorem ob_some {α σ β : Type} {x : Option (α × σ)} {f : α → σ → Option β} {o : β} (h : ob x f = some o) : ∃ r u, x = some (r, u) ∧ f r u = some o := by
  cases x with
  | none => cases h
  | some q => exact ⟨q.1, q.2, rfl, h⟩
def zb (v : Int32) : Bool := decide (v = 0 ∨ v = 1)
def zLushr (x : Int64) (y : Int32) : Int64 := (x.toUInt64 >>> (y.toInt64.toUInt64 &&& Int64.toUInt64 63)).toInt64
def zLshl (x : Int64) (y : Int32) : Int64 := x <<< (y.toInt64 &&& 63)
def zIushr (x y : Int32) : Int32 := (x.toUInt32 >>> (y.toUInt32 &&& Int32.toUInt32 31)).toInt32
def ol0 {ρ  σ γ : Type} (x : Option (ρ ⊕ (σ))) (g : ρ → γ) (f : σ → Option γ) : Option γ := match x with
  | none => none
  | some (.inl z) => some (g z)
  | some (.inr y) => f y
theorem ol0_some {ρ  σ γ : Type} {x : Option (ρ ⊕ (σ))} {g : ρ → γ} {f : σ → Option γ} {o : γ} (h : ol0 x g f = some o) : ∃ q, x = some q ∧ (∀ z, q = .inl z → g z = o) ∧ (∀ u, q = .inr u → f u = some o) := by
  cases x with
  | none => cases h
  | some q =>
    refine ⟨q, rfl, ?_, ?_⟩
    · intro z hz; subst hz; exact Option.some.inj h
    · intro u hz; subst hz; exact h
def ol1 {ρ A0 σ γ : Type} (x : Option (ρ ⊕ (A0 × σ))) (g : ρ → γ) (f : A0 → σ → Option γ) : Option γ := match x with
  | none => none
  | some (.inl z) => some (g z)
  | some (.inr y) => f y.1 y.2
theorem ol1_some {ρ A0 σ γ : Type} {x : Option (ρ ⊕ (A0 × σ))} {g : ρ → γ} {f : A0 → σ → Option γ} {o : γ} (h : ol1 x g f = some o) : ∃ q, x = some q ∧ (∀ z, q = .inl z → g z = o) ∧ (∀ a0 u, q = .inr (a0, u) → f a0 u = some o) := by
  cases x with
  | none => cases h
  | some q =>
    refine ⟨q, rfl, ?_, ?_⟩
    · intro z hz; subst hz; exact Option.some.inj h
    · intro a0 u hz; subst hz; exact h
def ol2 {ρ A0 A1 σ γ : Type} (x : Option (ρ ⊕ (A0 × A1 × σ))) (g : ρ → γ) (f : A0 → A1 → σ → Option γ) : Option γ := match x with
  | none => none
  | some (.inl z) => some (g z)
  | some (.inr y) => f y.1 y.2.1 y.2.2
theorem ol2_some {ρ A0 A1 σ γ : Type} {x : Option (ρ ⊕ (A0 × A1 × σ))} {g : ρ → γ} {f : A0 → A1 → σ → Option γ} {o : γ} (h : ol2 x g f = some o) : ∃ q, x = some q ∧ (∀ z, q = .inl z → g z = o) ∧ (∀ a0 a1 u, q = .inr (a0, a1, u) → f a0 a1 u = some o) := by
  cases x with
  | none => cases h
  | some q =>
    refine ⟨q, rfl, ?_, ?_⟩
    · intro z hz; subst hz; exact Option.some.inj h
    · intro a0 a1 u hz; subst hz; exact h
def ol3 {ρ A0 A1 A2 σ γ : Type} (x : Option (ρ ⊕ (A0 × A1 × A2 × σ))) (g : ρ → γ) (f : A0 → A1 → A2 → σ → Option γ) : Option γ := match x with
  | none => none
  | some (.inl z) => some (g z)
  | some (.inr y) => f y.1 y.2.1 y.2.2.1 y.2.2.2
theorem ol3_some {ρ A0 A1 A2 σ γ : Type} {x : Option (ρ ⊕ (A0 × A1 × A2 × σ))} {g : ρ → γ} {f : A0 → A1 → A2 → σ → Option γ} {o : γ} (h : ol3 x g f = some o) : ∃ q, x = some q ∧ (∀ z, q = .inl z → g z = o) ∧ (∀ a0 a1 a2 u, q = .inr (a0, a1, a2, u) → f a0 a1 a2 u = some o) := by
  cases x with
  | none => cases h
  | some q =>
    refine ⟨q, rfl, ?_, ?_⟩
    · intro z hz; subst hz; exact Option.some.inj h
    · intro a0 a1 a2 u hz; subst hz; exact h
def ol4 {ρ A0 A1 A2 A3 σ γ : Type} (x : Option (ρ ⊕ (A0 × A1 × A2 × A3 × σ))) (g : ρ → γ) (f : A0 → A1 → A2 → A3 → σ → Option γ) : Option γ := match x with
  | none => none
  | some (.inl z) => some (g z)
  | some (.inr y) => f y.1 y.2.1 y.2.2.1 y.2.2.2.1 y.2.2.2.2
theorem ol4_some {ρ A0 A1 A2 A3 σ γ : Type} {x : Option (ρ ⊕ (A0 × A1 × A2 × A3 × σ))} {g : ρ → γ} {f : A0 → A1 → A2 → A3 → σ → Option γ} {o : γ} (h : ol4 x g f = some o) : ∃ q, x = some q ∧ (∀ z, q = .inl z → g z = o) ∧ (∀ a0 a1 a2 a3 u, q = .inr (a0, a1, a2, a3, u) → f a0 a1 a2 a3 u = some o) := by
  cases x with
  | none => cases h
  | some q =>
    refine ⟨q, rfl, ?_, ?_⟩
    · intro z hz; subst hz; exact Option.some.inj h
    · intro a0 a1 a2 a3 u hz; subst hz; exact h
def ol5 {ρ A0 A1 A2 A3 A4 σ γ : Type} (x : Option (ρ ⊕ (A0 × A1 × A2 × A3 × A4 × σ))) (g : ρ → γ) (f : A0 → A1 → A2 → A3 → A4 → σ → Option γ) : Option γ := match x with
  | none => none
  | some (.inl z) => some (g z)
  | some (.inr y) => f y.1 y.2.1 y.2.2.1 y.2.2.2.1 y.2.2.2.2.1 y.2.2.2.2.2
theorem ol5_some {ρ A0 A1 A2 A3 A4 σ γ : Type} {x : Option (ρ ⊕ (A0 × A1 × A2 × A3 × A4 × σ))} {g : ρ → γ} {f : A0 → A1 → A2 → A3 → A4 → σ → Option γ} {o : γ} (h : ol5 x g f = some o) : ∃ q, x = some q ∧ (∀ z, q = .inl z → g z = o) ∧ (∀ a0 a1 a2 a3 a4 u, q = .inr (a0, a1, a2, a3, a4, u) → f a0 a1 a2 a3 a4 u = some o) := by
  cases x with
  | none => cases h
  | some q =>
    refine ⟨q, rfl, ?_, ?_⟩
    · intro z hz; subst hz; exact Option.some.inj h
    · intro a0 a1 a2 a3 a4 u hz; subst hz; exact h
def ol6 {ρ A0 A1 A2 A3 A4 A5 σ γ : Type} (x : Option (ρ ⊕ (A0 × A1 × A2 × A3 × A4 × A5 × σ))) (g : ρ → γ) (f : A0 → A1 → A2 → A3 → A4 → A5 → σ → Option γ) : Option γ := match x with
  | none => none
  | some (.inl z) => some (g z)
  | some (.inr y) => f y.1 y.2.1 y.2.2.1 y.2.2.2.1 y.2.2.2.2.1 y.2.2.2.2.2.1 y.2.2.2.2.2.2
theorem ol6_some {ρ A0 A1 A2 A3 A4 A5 σ γ : Type} {x : Option (ρ ⊕ (A0 × A1 × A2 × A3 × A4 × A5 × σ))} {g : ρ → γ} {f : A0 → A1 → A2 → A3 → A4 → A5 → σ → Option γ} {o : γ} (h : ol6 x g f = some o) : ∃ q, x = some q ∧ (∀ z, q = .inl z → g z = o) ∧ (∀ a0 a1 a2 a3 a4 a5 u, q = .inr (a0, a1, a2, a3, a4, a5, u) → f a0 a1 a2 a3 a4 a5 u = some o) := by
  cases x with
  | none => cases h
  | some q =>
    refine ⟨q, rfl, ?_, ?_⟩
    · intro z hz; subst hz; exact Option.some.inj h
    · intro a0 a1 a2 a3 a4 a5 u hz; subst hz; exact h
end
section
/-! NAMES: classes, fields, methods, words. Written by wip/whole/gen.py out of javap's listing -/
def F_Firm : u_T := fun k => match k with
  | 0 => ("FirmStore", "memory", "LFirmStore$Memory;", true)
  | 1 => ("FirmStore", "blocks", "LFirmStore$Blocks;", true)
  | 2 => ("FirmStore", "tree", "LFirmStore$Tree;", true)
  | _ => ("FirmStore", "table", "LFirmStore$Table;", true)
def t_Firm : Nat → FieldType := fun k => match k with
  | 0 => .object "FirmStore$Memory"
  | 1 => .object "FirmStore$Blocks"
  | 2 => .object "FirmStore$Tree"
  | _ => .object "FirmStore$Table"
theorem n_Firm : ∀ a, a < 4 → ∀ b, b < 4 → a ≠ b → (F_Firm a).2.1 ≠ (F_Firm b).2.1 := by decide +kernel
theorem t_Firm_ok : ∀ k, k < 4 → parseFieldDescriptor (F_Firm k).2.2.1 = some (t_Firm k) := by decide +kernel
def F_Memory : u_T := fun k => match k with
  | 0 => ("FirmStore$Memory", "words", "[J", true)
  | 1 => ("FirmStore$Memory", "looseAt", "[I", true)
  | 2 => ("FirmStore$Memory", "firmWas", "[J", true)
  | 3 => ("FirmStore$Memory", "looseCount", "I", false)
  | 4 => ("FirmStore$Memory", "storesBeforeCut", "I", false)
  | 5 => ("FirmStore$Memory", "cutMask", "I", false)
  | 6 => ("FirmStore$Memory", "storeCount", "I", false)
  | _ => ("FirmStore$Memory", "isDown", "Z", false)
def t_Memory : Nat → FieldType := fun k => match k with
  | 0 => .array .long
  | 1 => .array .int
  | 2 => .array .long
  | 3 => .int
  | 4 => .int
  | 5 => .int
  | 6 => .int
  | _ => .boolean
theorem n_Memory : ∀ a, a < 8 → ∀ b, b < 8 → a ≠ b → (F_Memory a).2.1 ≠ (F_Memory b).2.1 := by decide +kernel
theorem t_Memory_ok : ∀ k, k < 8 → parseFieldDescriptor (F_Memory k).2.2.1 = some (t_Memory k) := by decide +kernel
def F_Blocks : u_T := fun k => match k with
  | _ => ("FirmStore$Blocks", "memory", "LFirmStore$Memory;", true)
def t_Blocks : Nat → FieldType := fun k => match k with
  | _ => .object "FirmStore$Memory"
theorem n_Blocks : ∀ a, a < 1 → ∀ b, b < 1 → a ≠ b → (F_Blocks a).2.1 ≠ (F_Blocks b).2.1 := by decide +kernel
theorem t_Blocks_ok : ∀ k, k < 1 → parseFieldDescriptor (F_Blocks k).2.2.1 = some (t_Blocks k) := by decide +kernel
def F_Tree : u_T := fun k => match k with
  | 0 => ("FirmStore$Tree", "memory", "LFirmStore$Memory;", true)
  | _ => ("FirmStore$Tree", "blocks", "LFirmStore$Blocks;", true)
def t_Tree : Nat → FieldType := fun k => match k with
  | 0 => .object "FirmStore$Memory"
  | _ => .object "FirmStore$Blocks"
theorem n_Tree : ∀ a, a < 2 → ∀ b, b < 2 → a ≠ b → (F_Tree a).2.1 ≠ (F_Tree b).2.1 := by decide +kernel
theorem t_Tree_ok : ∀ k, k < 2 → parseFieldDescriptor (F_Tree k).2.2.1 = some (t_Tree k) := by decide +kernel
def F_Table : u_T := fun k => match k with
  | 0 => ("FirmStore$Table", "memory", "LFirmStore$Memory;", true)
  | _ => ("FirmStore$Table", "blocks", "LFirmStore$Blocks;", true)
def t_Table : Nat → FieldType := fun k => match k with
  | 0 => .object "FirmStore$Memory"
  | _ => .object "FirmStore$Blocks"
theorem n_Table : ∀ a, a < 2 → ∀ b, b < 2 → a ≠ b → (F_Table a).2.1 ≠ (F_Table b).2.1 := by decide +kernel
theorem t_Table_ok : ∀ k, k < 2 → parseFieldDescriptor (F_Table k).2.2.1 = some (t_Table k) := by decide +kernel
def F_Ref : u_T := fun k => match k with
  | 0 => ("FirmStoreModel", "memory", "[J", true)
  | 1 => ("FirmStoreModel", "loose", "I", false)
  | 2 => ("FirmStoreModel", "looseAt", "[I", true)
  | 3 => ("FirmStoreModel", "looseOld", "[J", true)
  | 4 => ("FirmStoreModel", "cutAfter", "I", false)
  | 5 => ("FirmStoreModel", "cutMask", "I", false)
  | 6 => ("FirmStoreModel", "stores", "I", false)
  | 7 => ("FirmStoreModel", "down", "Z", false)
  | 8 => ("FirmStoreModel", "broken", "Z", false)
  | 9 => ("FirmStoreModel", "code", "I", false)
  | 10 => ("FirmStoreModel", "reached", "[Z", true)
  | _ => ("FirmStoreModel", "rising", "[I", true)
def t_Ref : Nat → FieldType := fun k => match k with
  | 0 => .array .long
  | 1 => .int
  | 2 => .array .int
  | 3 => .array .long
  | 4 => .int
  | 5 => .int
  | 6 => .int
  | 7 => .boolean
  | 8 => .boolean
  | 9 => .int
  | 10 => .array .boolean
  | _ => .array .int
theorem n_Ref : ∀ a, a < 12 → ∀ b, b < 12 → a ≠ b → (F_Ref a).2.1 ≠ (F_Ref b).2.1 := by decide +kernel
theorem t_Ref_ok : ∀ k, k < 12 → parseFieldDescriptor (F_Ref k).2.2.1 = some (t_Ref k) := by decide +kernel

abbrev b_Memory_wordAt : ByteArray := prog_3_method_2_code
def y_Memory_wordAt : MethodName := ⟨"FirmStore$Memory", "wordAt", "(I)J"⟩
theorem e_Memory_wordAt : y_Memory_wordAt.cls ≠ "java/lang/invoke/MethodHandle" ∧ y_Memory_wordAt.cls ≠ "java/lang/invoke/VarHandle" ∧ (parseMethodDescriptor y_Memory_wordAt.desc).map (fun d => d.parameters.length) = some 1 := by decide +kernel
abbrev b_Memory_orderCut : ByteArray := prog_3_method_3_code
def y_Memory_orderCut : MethodName := ⟨"FirmStore$Memory", "orderCut", "(II)V"⟩
theorem e_Memory_orderCut : y_Memory_orderCut.cls ≠ "java/lang/invoke/MethodHandle" ∧ y_Memory_orderCut.cls ≠ "java/lang/invoke/VarHandle" ∧ (parseMethodDescriptor y_Memory_orderCut.desc).map (fun d => d.parameters.length) = some 2 := by decide +kernel
abbrev b_Memory_cutPower : ByteArray := prog_3_method_7_code
def y_Memory_cutPower : MethodName := ⟨"FirmStore$Memory", "cutPower", "()V"⟩
theorem e_Memory_cutPower : y_Memory_cutPower.cls ≠ "java/lang/invoke/MethodHandle" ∧ y_Memory_cutPower.cls ≠ "java/lang/invoke/VarHandle" ∧ (parseMethodDescriptor y_Memory_cutPower.desc).map (fun d => d.parameters.length) = some 0 := by decide +kernel
abbrev b_Memory_store : ByteArray := prog_3_method_4_code
def y_Memory_store : MethodName := ⟨"FirmStore$Memory", "store", "(IJ)Z"⟩
theorem e_Memory_store : y_Memory_store.cls ≠ "java/lang/invoke/MethodHandle" ∧ y_Memory_store.cls ≠ "java/lang/invoke/VarHandle" ∧ (parseMethodDescriptor y_Memory_store.desc).map (fun d => d.parameters.length) = some 2 := by decide +kernel
abbrev b_Memory_fence : ByteArray := prog_3_method_5_code
def y_Memory_fence : MethodName := ⟨"FirmStore$Memory", "fence", "()V"⟩
theorem e_Memory_fence : y_Memory_fence.cls ≠ "java/lang/invoke/MethodHandle" ∧ y_Memory_fence.cls ≠ "java/lang/invoke/VarHandle" ∧ (parseMethodDescriptor y_Memory_fence.desc).map (fun d => d.parameters.length) = some 0 := by decide +kernel
abbrev b_Memory_firmStore : ByteArray := prog_3_method_6_code
def y_Memory_firmStore : MethodName := ⟨"FirmStore$Memory", "firmStore", "(IJ)Z"⟩
theorem e_Memory_firmStore : y_Memory_firmStore.cls ≠ "java/lang/invoke/MethodHandle" ∧ y_Memory_firmStore.cls ≠ "java/lang/invoke/VarHandle" ∧ (parseMethodDescriptor y_Memory_firmStore.desc).map (fun d => d.parameters.length) = some 2 := by decide +kernel
abbrev b_Firm_isPart : ByteArray := prog_1_method_15_code
def y_Firm_isPart : MethodName := ⟨"FirmStore", "isPart", "(I)Z"⟩
theorem e_Firm_isPart : y_Firm_isPart.cls ≠ "java/lang/invoke/MethodHandle" ∧ y_Firm_isPart.cls ≠ "java/lang/invoke/VarHandle" ∧ (parseMethodDescriptor y_Firm_isPart.desc).map (fun d => d.parameters.length) = some 1 := by decide +kernel
abbrev b_Firm_isKey : ByteArray := prog_1_method_16_code
def y_Firm_isKey : MethodName := ⟨"FirmStore", "isKey", "(I)Z"⟩
theorem e_Firm_isKey : y_Firm_isKey.cls ≠ "java/lang/invoke/MethodHandle" ∧ y_Firm_isKey.cls ≠ "java/lang/invoke/VarHandle" ∧ (parseMethodDescriptor y_Firm_isKey.desc).map (fun d => d.parameters.length) = some 1 := by decide +kernel
abbrev b_Firm_entryOf : ByteArray := prog_1_method_17_code
def y_Firm_entryOf : MethodName := ⟨"FirmStore", "entryOf", "(II)J"⟩
theorem e_Firm_entryOf : y_Firm_entryOf.cls ≠ "java/lang/invoke/MethodHandle" ∧ y_Firm_entryOf.cls ≠ "java/lang/invoke/VarHandle" ∧ (parseMethodDescriptor y_Firm_entryOf.desc).map (fun d => d.parameters.length) = some 2 := by decide +kernel
abbrev b_Firm_keyOf : ByteArray := prog_1_method_18_code
def y_Firm_keyOf : MethodName := ⟨"FirmStore", "keyOf", "(J)I"⟩
theorem e_Firm_keyOf : y_Firm_keyOf.cls ≠ "java/lang/invoke/MethodHandle" ∧ y_Firm_keyOf.cls ≠ "java/lang/invoke/VarHandle" ∧ (parseMethodDescriptor y_Firm_keyOf.desc).map (fun d => d.parameters.length) = some 1 := by decide +kernel
abbrev b_Firm_valueOf : ByteArray := prog_1_method_19_code
def y_Firm_valueOf : MethodName := ⟨"FirmStore", "valueOf", "(J)I"⟩
theorem e_Firm_valueOf : y_Firm_valueOf.cls ≠ "java/lang/invoke/MethodHandle" ∧ y_Firm_valueOf.cls ≠ "java/lang/invoke/VarHandle" ∧ (parseMethodDescriptor y_Firm_valueOf.desc).map (fun d => d.parameters.length) = some 1 := by decide +kernel
abbrev b_Int_bitCount : ByteArray := prog_11_method_49_code
def y_Int_bitCount : MethodName := ⟨"java/lang/Integer", "bitCount", "(I)I"⟩
theorem e_Int_bitCount : y_Int_bitCount.cls ≠ "java/lang/invoke/MethodHandle" ∧ y_Int_bitCount.cls ≠ "java/lang/invoke/VarHandle" ∧ (parseMethodDescriptor y_Int_bitCount.desc).map (fun d => d.parameters.length) = some 1 := by decide +kernel
abbrev b_Int_numberOfTrailingZeros : ByteArray := prog_11_method_48_code
def y_Int_numberOfTrailingZeros : MethodName := ⟨"java/lang/Integer", "numberOfTrailingZeros", "(I)I"⟩
theorem e_Int_numberOfTrailingZeros : y_Int_numberOfTrailingZeros.cls ≠ "java/lang/invoke/MethodHandle" ∧ y_Int_numberOfTrailingZeros.cls ≠ "java/lang/invoke/VarHandle" ∧ (parseMethodDescriptor y_Int_numberOfTrailingZeros.desc).map (fun d => d.parameters.length) = some 1 := by decide +kernel
abbrev b_Blocks_blockOf : ByteArray := prog_2_method_2_code
def y_Blocks_blockOf : MethodName := ⟨"FirmStore$Blocks", "blockOf", "(J)I"⟩
theorem e_Blocks_blockOf : y_Blocks_blockOf.cls ≠ "java/lang/invoke/MethodHandle" ∧ y_Blocks_blockOf.cls ≠ "java/lang/invoke/VarHandle" ∧ (parseMethodDescriptor y_Blocks_blockOf.desc).map (fun d => d.parameters.length) = some 1 := by decide +kernel
abbrev b_Blocks_blockIn : ByteArray := prog_2_method_3_code
def y_Blocks_blockIn : MethodName := ⟨"FirmStore$Blocks", "blockIn", "(I)I"⟩
theorem e_Blocks_blockIn : y_Blocks_blockIn.cls ≠ "java/lang/invoke/MethodHandle" ∧ y_Blocks_blockIn.cls ≠ "java/lang/invoke/VarHandle" ∧ (parseMethodDescriptor y_Blocks_blockIn.desc).map (fun d => d.parameters.length) = some 1 := by decide +kernel
abbrev b_Blocks_levelOf : ByteArray := prog_2_method_4_code
def y_Blocks_levelOf : MethodName := ⟨"FirmStore$Blocks", "levelOf", "(I)I"⟩
theorem e_Blocks_levelOf : y_Blocks_levelOf.cls ≠ "java/lang/invoke/MethodHandle" ∧ y_Blocks_levelOf.cls ≠ "java/lang/invoke/VarHandle" ∧ (parseMethodDescriptor y_Blocks_levelOf.desc).map (fun d => d.parameters.length) = some 1 := by decide +kernel
abbrev b_Blocks_nextOf : ByteArray := prog_2_method_5_code
def y_Blocks_nextOf : MethodName := ⟨"FirmStore$Blocks", "nextOf", "(I)I"⟩
theorem e_Blocks_nextOf : y_Blocks_nextOf.cls ≠ "java/lang/invoke/MethodHandle" ∧ y_Blocks_nextOf.cls ≠ "java/lang/invoke/VarHandle" ∧ (parseMethodDescriptor y_Blocks_nextOf.desc).map (fun d => d.parameters.length) = some 1 := by decide +kernel
abbrev b_Blocks_lowOf : ByteArray := prog_2_method_6_code
def y_Blocks_lowOf : MethodName := ⟨"FirmStore$Blocks", "lowOf", "(I)I"⟩
theorem e_Blocks_lowOf : y_Blocks_lowOf.cls ≠ "java/lang/invoke/MethodHandle" ∧ y_Blocks_lowOf.cls ≠ "java/lang/invoke/VarHandle" ∧ (parseMethodDescriptor y_Blocks_lowOf.desc).map (fun d => d.parameters.length) = some 1 := by decide +kernel
abbrev b_Blocks_addressOfPlace : ByteArray := prog_2_method_7_code
def y_Blocks_addressOfPlace : MethodName := ⟨"FirmStore$Blocks", "addressOfPlace", "(II)I"⟩
theorem e_Blocks_addressOfPlace : y_Blocks_addressOfPlace.cls ≠ "java/lang/invoke/MethodHandle" ∧ y_Blocks_addressOfPlace.cls ≠ "java/lang/invoke/VarHandle" ∧ (parseMethodDescriptor y_Blocks_addressOfPlace.desc).map (fun d => d.parameters.length) = some 2 := by decide +kernel
abbrev b_Blocks_entryAt : ByteArray := prog_2_method_8_code
def y_Blocks_entryAt : MethodName := ⟨"FirmStore$Blocks", "entryAt", "(II)J"⟩
theorem e_Blocks_entryAt : y_Blocks_entryAt.cls ≠ "java/lang/invoke/MethodHandle" ∧ y_Blocks_entryAt.cls ≠ "java/lang/invoke/VarHandle" ∧ (parseMethodDescriptor y_Blocks_entryAt.desc).map (fun d => d.parameters.length) = some 2 := by decide +kernel
abbrev b_Blocks_childAt : ByteArray := prog_2_method_9_code
def y_Blocks_childAt : MethodName := ⟨"FirmStore$Blocks", "childAt", "(II)I"⟩
theorem e_Blocks_childAt : y_Blocks_childAt.cls ≠ "java/lang/invoke/MethodHandle" ∧ y_Blocks_childAt.cls ≠ "java/lang/invoke/VarHandle" ∧ (parseMethodDescriptor y_Blocks_childAt.desc).map (fun d => d.parameters.length) = some 2 := by decide +kernel
abbrev b_Blocks_rowLength : ByteArray := prog_2_method_10_code
def y_Blocks_rowLength : MethodName := ⟨"FirmStore$Blocks", "rowLength", "(I)I"⟩
theorem e_Blocks_rowLength : y_Blocks_rowLength.cls ≠ "java/lang/invoke/MethodHandle" ∧ y_Blocks_rowLength.cls ≠ "java/lang/invoke/VarHandle" ∧ (parseMethodDescriptor y_Blocks_rowLength.desc).map (fun d => d.parameters.length) = some 1 := by decide +kernel
abbrev b_Blocks_isFull : ByteArray := prog_2_method_11_code
def y_Blocks_isFull : MethodName := ⟨"FirmStore$Blocks", "isFull", "(I)Z"⟩
theorem e_Blocks_isFull : y_Blocks_isFull.cls ≠ "java/lang/invoke/MethodHandle" ∧ y_Blocks_isFull.cls ≠ "java/lang/invoke/VarHandle" ∧ (parseMethodDescriptor y_Blocks_isFull.desc).map (fun d => d.parameters.length) = some 1 := by decide +kernel
abbrev b_Blocks_linkNext : ByteArray := prog_2_method_12_code
def y_Blocks_linkNext : MethodName := ⟨"FirmStore$Blocks", "linkNext", "(II)Z"⟩
theorem e_Blocks_linkNext : y_Blocks_linkNext.cls ≠ "java/lang/invoke/MethodHandle" ∧ y_Blocks_linkNext.cls ≠ "java/lang/invoke/VarHandle" ∧ (parseMethodDescriptor y_Blocks_linkNext.desc).map (fun d => d.parameters.length) = some 2 := by decide +kernel
abbrev b_Blocks_freeSet : ByteArray := prog_2_method_15_code
def y_Blocks_freeSet : MethodName := ⟨"FirmStore$Blocks", "freeSet", "()I"⟩
theorem e_Blocks_freeSet : y_Blocks_freeSet.cls ≠ "java/lang/invoke/MethodHandle" ∧ y_Blocks_freeSet.cls ≠ "java/lang/invoke/VarHandle" ∧ (parseMethodDescriptor y_Blocks_freeSet.desc).map (fun d => d.parameters.length) = some 0 := by decide +kernel
abbrev b_Blocks_countFree : ByteArray := prog_2_method_14_code
def y_Blocks_countFree : MethodName := ⟨"FirmStore$Blocks", "countFree", "()I"⟩
theorem e_Blocks_countFree : y_Blocks_countFree.cls ≠ "java/lang/invoke/MethodHandle" ∧ y_Blocks_countFree.cls ≠ "java/lang/invoke/VarHandle" ∧ (parseMethodDescriptor y_Blocks_countFree.desc).map (fun d => d.parameters.length) = some 0 := by decide +kernel
abbrev b_Blocks_make : ByteArray := prog_2_method_13_code
def y_Blocks_make : MethodName := ⟨"FirmStore$Blocks", "make", "(IIIJJJ)I"⟩
theorem e_Blocks_make : y_Blocks_make.cls ≠ "java/lang/invoke/MethodHandle" ∧ y_Blocks_make.cls ≠ "java/lang/invoke/VarHandle" ∧ (parseMethodDescriptor y_Blocks_make.desc).map (fun d => d.parameters.length) = some 6 := by decide +kernel
abbrev b_Table_headOf : ByteArray := prog_4_method_5_code
def y_Table_headOf : MethodName := ⟨"FirmStore$Table", "headOf", "(I)I"⟩
theorem e_Table_headOf : y_Table_headOf.cls ≠ "java/lang/invoke/MethodHandle" ∧ y_Table_headOf.cls ≠ "java/lang/invoke/VarHandle" ∧ (parseMethodDescriptor y_Table_headOf.desc).map (fun d => d.parameters.length) = some 1 := by decide +kernel
abbrev b_Table_countEntries : ByteArray := prog_4_method_7_code
def y_Table_countEntries : MethodName := ⟨"FirmStore$Table", "countEntries", "(I)I"⟩
theorem e_Table_countEntries : y_Table_countEntries.cls ≠ "java/lang/invoke/MethodHandle" ∧ y_Table_countEntries.cls ≠ "java/lang/invoke/VarHandle" ∧ (parseMethodDescriptor y_Table_countEntries.desc).map (fun d => d.parameters.length) = some 1 := by decide +kernel
abbrev b_Table_seekInChain : ByteArray := prog_4_method_6_code
def y_Table_seekInChain : MethodName := ⟨"FirmStore$Table", "seekInChain", "(II)I"⟩
theorem e_Table_seekInChain : y_Table_seekInChain.cls ≠ "java/lang/invoke/MethodHandle" ∧ y_Table_seekInChain.cls ≠ "java/lang/invoke/VarHandle" ∧ (parseMethodDescriptor y_Table_seekInChain.desc).map (fun d => d.parameters.length) = some 2 := by decide +kernel
abbrev b_Table_seek : ByteArray := prog_4_method_2_code
def y_Table_seek : MethodName := ⟨"FirmStore$Table", "seek", "(I)I"⟩
theorem e_Table_seek : y_Table_seek.cls ≠ "java/lang/invoke/MethodHandle" ∧ y_Table_seek.cls ≠ "java/lang/invoke/VarHandle" ∧ (parseMethodDescriptor y_Table_seek.desc).map (fun d => d.parameters.length) = some 1 := by decide +kernel
abbrev b_Table_countKeys : ByteArray := prog_4_method_3_code
def y_Table_countKeys : MethodName := ⟨"FirmStore$Table", "countKeys", "()I"⟩
theorem e_Table_countKeys : y_Table_countKeys.cls ≠ "java/lang/invoke/MethodHandle" ∧ y_Table_countKeys.cls ≠ "java/lang/invoke/VarHandle" ∧ (parseMethodDescriptor y_Table_countKeys.desc).map (fun d => d.parameters.length) = some 0 := by decide +kernel
abbrev b_Table_enter : ByteArray := prog_4_method_4_code
def y_Table_enter : MethodName := ⟨"FirmStore$Table", "enter", "(II)I"⟩
theorem e_Table_enter : y_Table_enter.cls ≠ "java/lang/invoke/MethodHandle" ∧ y_Table_enter.cls ≠ "java/lang/invoke/VarHandle" ∧ (parseMethodDescriptor y_Table_enter.desc).map (fun d => d.parameters.length) = some 2 := by decide +kernel
abbrev b_Tree_topLevel : ByteArray := prog_5_method_2_code
def y_Tree_topLevel : MethodName := ⟨"FirmStore$Tree", "topLevel", "()I"⟩
theorem e_Tree_topLevel : y_Tree_topLevel.cls ≠ "java/lang/invoke/MethodHandle" ∧ y_Tree_topLevel.cls ≠ "java/lang/invoke/VarHandle" ∧ (parseMethodDescriptor y_Tree_topLevel.desc).map (fun d => d.parameters.length) = some 0 := by decide +kernel
abbrev b_Tree_keyAt : ByteArray := prog_5_method_15_code
def y_Tree_keyAt : MethodName := ⟨"FirmStore$Tree", "keyAt", "(II)I"⟩
theorem e_Tree_keyAt : y_Tree_keyAt.cls ≠ "java/lang/invoke/MethodHandle" ∧ y_Tree_keyAt.cls ≠ "java/lang/invoke/VarHandle" ∧ (parseMethodDescriptor y_Tree_keyAt.desc).map (fun d => d.parameters.length) = some 2 := by decide +kernel
abbrev b_Tree_endOf : ByteArray := prog_5_method_16_code
def y_Tree_endOf : MethodName := ⟨"FirmStore$Tree", "endOf", "(I)I"⟩
theorem e_Tree_endOf : y_Tree_endOf.cls ≠ "java/lang/invoke/MethodHandle" ∧ y_Tree_endOf.cls ≠ "java/lang/invoke/VarHandle" ∧ (parseMethodDescriptor y_Tree_endOf.desc).map (fun d => d.parameters.length) = some 1 := by decide +kernel
abbrev b_Tree_firstOf : ByteArray := prog_5_method_13_code
def y_Tree_firstOf : MethodName := ⟨"FirmStore$Tree", "firstOf", "(I)I"⟩
theorem e_Tree_firstOf : y_Tree_firstOf.cls ≠ "java/lang/invoke/MethodHandle" ∧ y_Tree_firstOf.cls ≠ "java/lang/invoke/VarHandle" ∧ (parseMethodDescriptor y_Tree_firstOf.desc).map (fun d => d.parameters.length) = some 1 := by decide +kernel
abbrev b_Tree_countLesser : ByteArray := prog_5_method_14_code
def y_Tree_countLesser : MethodName := ⟨"FirmStore$Tree", "countLesser", "(II)I"⟩
theorem e_Tree_countLesser : y_Tree_countLesser.cls ≠ "java/lang/invoke/MethodHandle" ∧ y_Tree_countLesser.cls ≠ "java/lang/invoke/VarHandle" ∧ (parseMethodDescriptor y_Tree_countLesser.desc).map (fun d => d.parameters.length) = some 2 := by decide +kernel
abbrev b_Tree_childFor : ByteArray := prog_5_method_12_code
def y_Tree_childFor : MethodName := ⟨"FirmStore$Tree", "childFor", "(II)I"⟩
theorem e_Tree_childFor : y_Tree_childFor.cls ≠ "java/lang/invoke/MethodHandle" ∧ y_Tree_childFor.cls ≠ "java/lang/invoke/VarHandle" ∧ (parseMethodDescriptor y_Tree_childFor.desc).map (fun d => d.parameters.length) = some 2 := by decide +kernel
abbrev b_Tree_find : ByteArray := prog_5_method_11_code
def y_Tree_find : MethodName := ⟨"FirmStore$Tree", "find", "(II)I"⟩
theorem e_Tree_find : y_Tree_find.cls ≠ "java/lang/invoke/MethodHandle" ∧ y_Tree_find.cls ≠ "java/lang/invoke/VarHandle" ∧ (parseMethodDescriptor y_Tree_find.desc).map (fun d => d.parameters.length) = some 2 := by decide +kernel
abbrev b_Tree_seek : ByteArray := prog_5_method_3_code
def y_Tree_seek : MethodName := ⟨"FirmStore$Tree", "seek", "(I)I"⟩
theorem e_Tree_seek : y_Tree_seek.cls ≠ "java/lang/invoke/MethodHandle" ∧ y_Tree_seek.cls ≠ "java/lang/invoke/VarHandle" ∧ (parseMethodDescriptor y_Tree_seek.desc).map (fun d => d.parameters.length) = some 1 := by decide +kernel
abbrev b_Tree_leastKeyFrom : ByteArray := prog_5_method_4_code
def y_Tree_leastKeyFrom : MethodName := ⟨"FirmStore$Tree", "leastKeyFrom", "(I)I"⟩
theorem e_Tree_leastKeyFrom : y_Tree_leastKeyFrom.cls ≠ "java/lang/invoke/MethodHandle" ∧ y_Tree_leastKeyFrom.cls ≠ "java/lang/invoke/VarHandle" ∧ (parseMethodDescriptor y_Tree_leastKeyFrom.desc).map (fun d => d.parameters.length) = some 1 := by decide +kernel
abbrev b_Tree_countKeys : ByteArray := prog_5_method_5_code
def y_Tree_countKeys : MethodName := ⟨"FirmStore$Tree", "countKeys", "()I"⟩
theorem e_Tree_countKeys : y_Tree_countKeys.cls ≠ "java/lang/invoke/MethodHandle" ∧ y_Tree_countKeys.cls ≠ "java/lang/invoke/VarHandle" ∧ (parseMethodDescriptor y_Tree_countKeys.desc).map (fun d => d.parameters.length) = some 0 := by decide +kernel
abbrev b_Tree_dropPlace : ByteArray := prog_5_method_23_code
def y_Tree_dropPlace : MethodName := ⟨"FirmStore$Tree", "dropPlace", "(II)Z"⟩
theorem e_Tree_dropPlace : y_Tree_dropPlace.cls ≠ "java/lang/invoke/MethodHandle" ∧ y_Tree_dropPlace.cls ≠ "java/lang/invoke/VarHandle" ∧ (parseMethodDescriptor y_Tree_dropPlace.desc).map (fun d => d.parameters.length) = some 2 := by decide +kernel
abbrev b_Tree_dropAt : ByteArray := prog_5_method_7_code
def y_Tree_dropAt : MethodName := ⟨"FirmStore$Tree", "dropAt", "(I)Z"⟩
theorem e_Tree_dropAt : y_Tree_dropAt.cls ≠ "java/lang/invoke/MethodHandle" ∧ y_Tree_dropAt.cls ≠ "java/lang/invoke/VarHandle" ∧ (parseMethodDescriptor y_Tree_dropAt.desc).map (fun d => d.parameters.length) = some 1 := by decide +kernel
abbrev b_Tree_insert : ByteArray := prog_5_method_22_code
def y_Tree_insert : MethodName := ⟨"FirmStore$Tree", "insert", "(IJ)Z"⟩
theorem e_Tree_insert : y_Tree_insert.cls ≠ "java/lang/invoke/MethodHandle" ∧ y_Tree_insert.cls ≠ "java/lang/invoke/VarHandle" ∧ (parseMethodDescriptor y_Tree_insert.desc).map (fun d => d.parameters.length) = some 2 := by decide +kernel
abbrev b_Tree_raise : ByteArray := prog_5_method_21_code
def y_Tree_raise : MethodName := ⟨"FirmStore$Tree", "raise", "(II)Z"⟩
theorem e_Tree_raise : y_Tree_raise.cls ≠ "java/lang/invoke/MethodHandle" ∧ y_Tree_raise.cls ≠ "java/lang/invoke/VarHandle" ∧ (parseMethodDescriptor y_Tree_raise.desc).map (fun d => d.parameters.length) = some 2 := by decide +kernel
abbrev b_Tree_split : ByteArray := prog_5_method_19_code
def y_Tree_split : MethodName := ⟨"FirmStore$Tree", "split", "(I)I"⟩
theorem e_Tree_split : y_Tree_split.cls ≠ "java/lang/invoke/MethodHandle" ∧ y_Tree_split.cls ≠ "java/lang/invoke/VarHandle" ∧ (parseMethodDescriptor y_Tree_split.desc).map (fun d => d.parameters.length) = some 1 := by decide +kernel
abbrev b_Tree_hang : ByteArray := prog_5_method_20_code
def y_Tree_hang : MethodName := ⟨"FirmStore$Tree", "hang", "(II)Z"⟩
theorem e_Tree_hang : y_Tree_hang.cls ≠ "java/lang/invoke/MethodHandle" ∧ y_Tree_hang.cls ≠ "java/lang/invoke/VarHandle" ∧ (parseMethodDescriptor y_Tree_hang.desc).map (fun d => d.parameters.length) = some 2 := by decide +kernel
abbrev b_Tree_isHung : ByteArray := prog_5_method_17_code
def y_Tree_isHung : MethodName := ⟨"FirmStore$Tree", "isHung", "(II)Z"⟩
theorem e_Tree_isHung : y_Tree_isHung.cls ≠ "java/lang/invoke/MethodHandle" ∧ y_Tree_isHung.cls ≠ "java/lang/invoke/VarHandle" ∧ (parseMethodDescriptor y_Tree_isHung.desc).map (fun d => d.parameters.length) = some 2 := by decide +kernel
abbrev b_Tree_blocksToSplit : ByteArray := prog_5_method_18_code
def y_Tree_blocksToSplit : MethodName := ⟨"FirmStore$Tree", "blocksToSplit", "(I)I"⟩
theorem e_Tree_blocksToSplit : y_Tree_blocksToSplit.cls ≠ "java/lang/invoke/MethodHandle" ∧ y_Tree_blocksToSplit.cls ≠ "java/lang/invoke/VarHandle" ∧ (parseMethodDescriptor y_Tree_blocksToSplit.desc).map (fun d => d.parameters.length) = some 1 := by decide +kernel
abbrev b_Tree_plant : ByteArray := prog_5_method_10_code
def y_Tree_plant : MethodName := ⟨"FirmStore$Tree", "plant", "(J)I"⟩
theorem e_Tree_plant : y_Tree_plant.cls ≠ "java/lang/invoke/MethodHandle" ∧ y_Tree_plant.cls ≠ "java/lang/invoke/VarHandle" ∧ (parseMethodDescriptor y_Tree_plant.desc).map (fun d => d.parameters.length) = some 1 := by decide +kernel
abbrev b_Tree_enter : ByteArray := prog_5_method_6_code
def y_Tree_enter : MethodName := ⟨"FirmStore$Tree", "enter", "(II)I"⟩
theorem e_Tree_enter : y_Tree_enter.cls ≠ "java/lang/invoke/MethodHandle" ∧ y_Tree_enter.cls ≠ "java/lang/invoke/VarHandle" ∧ (parseMethodDescriptor y_Tree_enter.desc).map (fun d => d.parameters.length) = some 2 := by decide +kernel
abbrev b_Tree_secondTwin : ByteArray := prog_5_method_27_code
def y_Tree_secondTwin : MethodName := ⟨"FirmStore$Tree", "secondTwin", "(I)I"⟩
theorem e_Tree_secondTwin : y_Tree_secondTwin.cls ≠ "java/lang/invoke/MethodHandle" ∧ y_Tree_secondTwin.cls ≠ "java/lang/invoke/VarHandle" ∧ (parseMethodDescriptor y_Tree_secondTwin.desc).map (fun d => d.parameters.length) = some 1 := by decide +kernel
abbrev b_Tree_dropTwins : ByteArray := prog_5_method_26_code
def y_Tree_dropTwins : MethodName := ⟨"FirmStore$Tree", "dropTwins", "(I)Z"⟩
theorem e_Tree_dropTwins : y_Tree_dropTwins.cls ≠ "java/lang/invoke/MethodHandle" ∧ y_Tree_dropTwins.cls ≠ "java/lang/invoke/VarHandle" ∧ (parseMethodDescriptor y_Tree_dropTwins.desc).map (fun d => d.parameters.length) = some 1 := by decide +kernel
abbrev b_Tree_isWrong : ByteArray := prog_5_method_25_code
def y_Tree_isWrong : MethodName := ⟨"FirmStore$Tree", "isWrong", "(II)Z"⟩
theorem e_Tree_isWrong : y_Tree_isWrong.cls ≠ "java/lang/invoke/MethodHandle" ∧ y_Tree_isWrong.cls ≠ "java/lang/invoke/VarHandle" ∧ (parseMethodDescriptor y_Tree_isWrong.desc).map (fun d => d.parameters.length) = some 2 := by decide +kernel
abbrev b_Tree_clearWrong : ByteArray := prog_5_method_24_code
def y_Tree_clearWrong : MethodName := ⟨"FirmStore$Tree", "clearWrong", "(I)Z"⟩
theorem e_Tree_clearWrong : y_Tree_clearWrong.cls ≠ "java/lang/invoke/MethodHandle" ∧ y_Tree_clearWrong.cls ≠ "java/lang/invoke/VarHandle" ∧ (parseMethodDescriptor y_Tree_clearWrong.desc).map (fun d => d.parameters.length) = some 1 := by decide +kernel
abbrev b_Tree_putRight : ByteArray := prog_5_method_8_code
def y_Tree_putRight : MethodName := ⟨"FirmStore$Tree", "putRight", "()Z"⟩
theorem e_Tree_putRight : y_Tree_putRight.cls ≠ "java/lang/invoke/MethodHandle" ∧ y_Tree_putRight.cls ≠ "java/lang/invoke/VarHandle" ∧ (parseMethodDescriptor y_Tree_putRight.desc).map (fun d => d.parameters.length) = some 0 := by decide +kernel
abbrev b_Tree_hangStrays : ByteArray := prog_5_method_9_code
def y_Tree_hangStrays : MethodName := ⟨"FirmStore$Tree", "hangStrays", "()Z"⟩
theorem e_Tree_hangStrays : y_Tree_hangStrays.cls ≠ "java/lang/invoke/MethodHandle" ∧ y_Tree_hangStrays.cls ≠ "java/lang/invoke/VarHandle" ∧ (parseMethodDescriptor y_Tree_hangStrays.desc).map (fun d => d.parameters.length) = some 0 := by decide +kernel
abbrev b_Firm_addressOf : ByteArray := prog_1_method_14_code
def y_Firm_addressOf : MethodName := ⟨"FirmStore", "addressOf", "(II)I"⟩
theorem e_Firm_addressOf : y_Firm_addressOf.cls ≠ "java/lang/invoke/MethodHandle" ∧ y_Firm_addressOf.cls ≠ "java/lang/invoke/VarHandle" ∧ (parseMethodDescriptor y_Firm_addressOf.desc).map (fun d => d.parameters.length) = some 2 := by decide +kernel
abbrev b_Firm_order : ByteArray := prog_1_method_6_code
def y_Firm_order : MethodName := ⟨"FirmStore", "order", "(II)Z"⟩
theorem e_Firm_order : y_Firm_order.cls ≠ "java/lang/invoke/MethodHandle" ∧ y_Firm_order.cls ≠ "java/lang/invoke/VarHandle" ∧ (parseMethodDescriptor y_Firm_order.desc).map (fun d => d.parameters.length) = some 2 := by decide +kernel
abbrev b_Firm_size : ByteArray := prog_1_method_8_code
def y_Firm_size : MethodName := ⟨"FirmStore", "size", "(I)I"⟩
theorem e_Firm_size : y_Firm_size.cls ≠ "java/lang/invoke/MethodHandle" ∧ y_Firm_size.cls ≠ "java/lang/invoke/VarHandle" ∧ (parseMethodDescriptor y_Firm_size.desc).map (fun d => d.parameters.length) = some 1 := by decide +kernel
abbrev b_Firm_free : ByteArray := prog_1_method_9_code
def y_Firm_free : MethodName := ⟨"FirmStore", "free", "()I"⟩
theorem e_Firm_free : y_Firm_free.cls ≠ "java/lang/invoke/MethodHandle" ∧ y_Firm_free.cls ≠ "java/lang/invoke/VarHandle" ∧ (parseMethodDescriptor y_Firm_free.desc).map (fun d => d.parameters.length) = some 0 := by decide +kernel
abbrev b_Firm_height : ByteArray := prog_1_method_10_code
def y_Firm_height : MethodName := ⟨"FirmStore", "height", "()I"⟩
theorem e_Firm_height : y_Firm_height.cls ≠ "java/lang/invoke/MethodHandle" ∧ y_Firm_height.cls ≠ "java/lang/invoke/VarHandle" ∧ (parseMethodDescriptor y_Firm_height.desc).map (fun d => d.parameters.length) = some 0 := by decide +kernel
abbrev b_Firm_word : ByteArray := prog_1_method_11_code
def y_Firm_word : MethodName := ⟨"FirmStore", "word", "(I)J"⟩
theorem e_Firm_word : y_Firm_word.cls ≠ "java/lang/invoke/MethodHandle" ∧ y_Firm_word.cls ≠ "java/lang/invoke/VarHandle" ∧ (parseMethodDescriptor y_Firm_word.desc).map (fun d => d.parameters.length) = some 1 := by decide +kernel
abbrev b_Firm_stores : ByteArray := prog_1_method_12_code
def y_Firm_stores : MethodName := ⟨"FirmStore", "stores", "()I"⟩
theorem e_Firm_stores : y_Firm_stores.cls ≠ "java/lang/invoke/MethodHandle" ∧ y_Firm_stores.cls ≠ "java/lang/invoke/VarHandle" ∧ (parseMethodDescriptor y_Firm_stores.desc).map (fun d => d.parameters.length) = some 0 := by decide +kernel
abbrev b_Firm_down : ByteArray := prog_1_method_13_code
def y_Firm_down : MethodName := ⟨"FirmStore", "down", "()Z"⟩
theorem e_Firm_down : y_Firm_down.cls ≠ "java/lang/invoke/MethodHandle" ∧ y_Firm_down.cls ≠ "java/lang/invoke/VarHandle" ∧ (parseMethodDescriptor y_Firm_down.desc).map (fun d => d.parameters.length) = some 0 := by decide +kernel
abbrev b_Ref_thrown : ByteArray := prog_7_method_2_code
def y_Ref_thrown : MethodName := ⟨"FirmStoreModel", "thrown", "()I"⟩
theorem e_Ref_thrown : y_Ref_thrown.cls ≠ "java/lang/invoke/MethodHandle" ∧ y_Ref_thrown.cls ≠ "java/lang/invoke/VarHandle" ∧ (parseMethodDescriptor y_Ref_thrown.desc).map (fun d => d.parameters.length) = some 0 := by decide +kernel
abbrev b_Ref_cutNow : ByteArray := prog_7_method_3_code
def y_Ref_cutNow : MethodName := ⟨"FirmStoreModel", "cutNow", "()V"⟩
theorem e_Ref_cutNow : y_Ref_cutNow.cls ≠ "java/lang/invoke/MethodHandle" ∧ y_Ref_cutNow.cls ≠ "java/lang/invoke/VarHandle" ∧ (parseMethodDescriptor y_Ref_cutNow.desc).map (fun d => d.parameters.length) = some 0 := by decide +kernel
abbrev b_Ref_store : ByteArray := prog_7_method_4_code
def y_Ref_store : MethodName := ⟨"FirmStoreModel", "store", "(IJ)V"⟩
theorem e_Ref_store : y_Ref_store.cls ≠ "java/lang/invoke/MethodHandle" ∧ y_Ref_store.cls ≠ "java/lang/invoke/VarHandle" ∧ (parseMethodDescriptor y_Ref_store.desc).map (fun d => d.parameters.length) = some 2 := by decide +kernel
abbrev b_Ref_fence : ByteArray := prog_7_method_5_code
def y_Ref_fence : MethodName := ⟨"FirmStoreModel", "fence", "()V"⟩
theorem e_Ref_fence : y_Ref_fence.cls ≠ "java/lang/invoke/MethodHandle" ∧ y_Ref_fence.cls ≠ "java/lang/invoke/VarHandle" ∧ (parseMethodDescriptor y_Ref_fence.desc).map (fun d => d.parameters.length) = some 0 := by decide +kernel
abbrev b_Ref_firm : ByteArray := prog_7_method_6_code
def y_Ref_firm : MethodName := ⟨"FirmStoreModel", "firm", "(IJ)V"⟩
theorem e_Ref_firm : y_Ref_firm.cls ≠ "java/lang/invoke/MethodHandle" ∧ y_Ref_firm.cls ≠ "java/lang/invoke/VarHandle" ∧ (parseMethodDescriptor y_Ref_firm.desc).map (fun d => d.parameters.length) = some 2 := by decide +kernel
abbrev b_Ref_entry : ByteArray := prog_7_method_7_code
def y_Ref_entry : MethodName := ⟨"FirmStoreModel", "entry", "(II)J"⟩
theorem e_Ref_entry : y_Ref_entry.cls ≠ "java/lang/invoke/MethodHandle" ∧ y_Ref_entry.cls ≠ "java/lang/invoke/VarHandle" ∧ (parseMethodDescriptor y_Ref_entry.desc).map (fun d => d.parameters.length) = some 2 := by decide +kernel
abbrev b_Ref_keyOf : ByteArray := prog_7_method_8_code
def y_Ref_keyOf : MethodName := ⟨"FirmStoreModel", "keyOf", "(J)I"⟩
theorem e_Ref_keyOf : y_Ref_keyOf.cls ≠ "java/lang/invoke/MethodHandle" ∧ y_Ref_keyOf.cls ≠ "java/lang/invoke/VarHandle" ∧ (parseMethodDescriptor y_Ref_keyOf.desc).map (fun d => d.parameters.length) = some 1 := by decide +kernel
abbrev b_Ref_root : ByteArray := prog_7_method_9_code
def y_Ref_root : MethodName := ⟨"FirmStoreModel", "root", "()I"⟩
theorem e_Ref_root : y_Ref_root.cls ≠ "java/lang/invoke/MethodHandle" ∧ y_Ref_root.cls ≠ "java/lang/invoke/VarHandle" ∧ (parseMethodDescriptor y_Ref_root.desc).map (fun d => d.parameters.length) = some 0 := by decide +kernel
abbrev b_Ref_level : ByteArray := prog_7_method_10_code
def y_Ref_level : MethodName := ⟨"FirmStoreModel", "level", "(I)I"⟩
theorem e_Ref_level : y_Ref_level.cls ≠ "java/lang/invoke/MethodHandle" ∧ y_Ref_level.cls ≠ "java/lang/invoke/VarHandle" ∧ (parseMethodDescriptor y_Ref_level.desc).map (fun d => d.parameters.length) = some 1 := by decide +kernel
abbrev b_Ref_next : ByteArray := prog_7_method_11_code
def y_Ref_next : MethodName := ⟨"FirmStoreModel", "next", "(I)I"⟩
theorem e_Ref_next : y_Ref_next.cls ≠ "java/lang/invoke/MethodHandle" ∧ y_Ref_next.cls ≠ "java/lang/invoke/VarHandle" ∧ (parseMethodDescriptor y_Ref_next.desc).map (fun d => d.parameters.length) = some 1 := by decide +kernel
abbrev b_Ref_low : ByteArray := prog_7_method_12_code
def y_Ref_low : MethodName := ⟨"FirmStoreModel", "low", "(I)I"⟩
theorem e_Ref_low : y_Ref_low.cls ≠ "java/lang/invoke/MethodHandle" ∧ y_Ref_low.cls ≠ "java/lang/invoke/VarHandle" ∧ (parseMethodDescriptor y_Ref_low.desc).map (fun d => d.parameters.length) = some 1 := by decide +kernel
abbrev b_Ref_at : ByteArray := prog_7_method_13_code
def y_Ref_at : MethodName := ⟨"FirmStoreModel", "at", "(II)J"⟩
theorem e_Ref_at : y_Ref_at.cls ≠ "java/lang/invoke/MethodHandle" ∧ y_Ref_at.cls ≠ "java/lang/invoke/VarHandle" ∧ (parseMethodDescriptor y_Ref_at.desc).map (fun d => d.parameters.length) = some 2 := by decide +kernel
abbrev b_Ref_keyAt : ByteArray := prog_7_method_14_code
def y_Ref_keyAt : MethodName := ⟨"FirmStoreModel", "keyAt", "(II)I"⟩
theorem e_Ref_keyAt : y_Ref_keyAt.cls ≠ "java/lang/invoke/MethodHandle" ∧ y_Ref_keyAt.cls ≠ "java/lang/invoke/VarHandle" ∧ (parseMethodDescriptor y_Ref_keyAt.desc).map (fun d => d.parameters.length) = some 2 := by decide +kernel
abbrev b_Ref_blockAt : ByteArray := prog_7_method_15_code
def y_Ref_blockAt : MethodName := ⟨"FirmStoreModel", "blockAt", "(II)I"⟩
theorem e_Ref_blockAt : y_Ref_blockAt.cls ≠ "java/lang/invoke/MethodHandle" ∧ y_Ref_blockAt.cls ≠ "java/lang/invoke/VarHandle" ∧ (parseMethodDescriptor y_Ref_blockAt.desc).map (fun d => d.parameters.length) = some 2 := by decide +kernel
abbrev b_Ref_length : ByteArray := prog_7_method_16_code
def y_Ref_length : MethodName := ⟨"FirmStoreModel", "length", "(I)I"⟩
theorem e_Ref_length : y_Ref_length.cls ≠ "java/lang/invoke/MethodHandle" ∧ y_Ref_length.cls ≠ "java/lang/invoke/VarHandle" ∧ (parseMethodDescriptor y_Ref_length.desc).map (fun d => d.parameters.length) = some 1 := by decide +kernel
abbrev b_Ref_reach : ByteArray := prog_7_method_17_code
def y_Ref_reach : MethodName := ⟨"FirmStoreModel", "reach", "(I)Z"⟩
theorem e_Ref_reach : y_Ref_reach.cls ≠ "java/lang/invoke/MethodHandle" ∧ y_Ref_reach.cls ≠ "java/lang/invoke/VarHandle" ∧ (parseMethodDescriptor y_Ref_reach.desc).map (fun d => d.parameters.length) = some 1 := by decide +kernel
abbrev b_Ref_mark : ByteArray := prog_7_method_18_code
def y_Ref_mark : MethodName := ⟨"FirmStoreModel", "mark", "()V"⟩
theorem e_Ref_mark : y_Ref_mark.cls ≠ "java/lang/invoke/MethodHandle" ∧ y_Ref_mark.cls ≠ "java/lang/invoke/VarHandle" ∧ (parseMethodDescriptor y_Ref_mark.desc).map (fun d => d.parameters.length) = some 0 := by decide +kernel
abbrev b_Ref_countFree : ByteArray := prog_7_method_19_code
def y_Ref_countFree : MethodName := ⟨"FirmStoreModel", "countFree", "()I"⟩
theorem e_Ref_countFree : y_Ref_countFree.cls ≠ "java/lang/invoke/MethodHandle" ∧ y_Ref_countFree.cls ≠ "java/lang/invoke/VarHandle" ∧ (parseMethodDescriptor y_Ref_countFree.desc).map (fun d => d.parameters.length) = some 0 := by decide +kernel
abbrev b_Ref_make : ByteArray := prog_7_method_20_code
def y_Ref_make : MethodName := ⟨"FirmStoreModel", "make", "(IIIJJJ)I"⟩
theorem e_Ref_make : y_Ref_make.cls ≠ "java/lang/invoke/MethodHandle" ∧ y_Ref_make.cls ≠ "java/lang/invoke/VarHandle" ∧ (parseMethodDescriptor y_Ref_make.desc).map (fun d => d.parameters.length) = some 6 := by decide +kernel
abbrev b_Ref_below : ByteArray := prog_7_method_22_code
def y_Ref_below : MethodName := ⟨"FirmStoreModel", "below", "(II)I"⟩
theorem e_Ref_below : y_Ref_below.cls ≠ "java/lang/invoke/MethodHandle" ∧ y_Ref_below.cls ≠ "java/lang/invoke/VarHandle" ∧ (parseMethodDescriptor y_Ref_below.desc).map (fun d => d.parameters.length) = some 2 := by decide +kernel
abbrev b_Ref_find : ByteArray := prog_7_method_21_code
def y_Ref_find : MethodName := ⟨"FirmStoreModel", "find", "(II)I"⟩
theorem e_Ref_find : y_Ref_find.cls ≠ "java/lang/invoke/MethodHandle" ∧ y_Ref_find.cls ≠ "java/lang/invoke/VarHandle" ∧ (parseMethodDescriptor y_Ref_find.desc).map (fun d => d.parameters.length) = some 2 := by decide +kernel
abbrev b_Ref_placeIn : ByteArray := prog_7_method_23_code
def y_Ref_placeIn : MethodName := ⟨"FirmStoreModel", "placeIn", "(II)I"⟩
theorem e_Ref_placeIn : y_Ref_placeIn.cls ≠ "java/lang/invoke/MethodHandle" ∧ y_Ref_placeIn.cls ≠ "java/lang/invoke/VarHandle" ∧ (parseMethodDescriptor y_Ref_placeIn.desc).map (fun d => d.parameters.length) = some 2 := by decide +kernel
abbrev b_Ref_insert : ByteArray := prog_7_method_24_code
def y_Ref_insert : MethodName := ⟨"FirmStoreModel", "insert", "(IJ)V"⟩
theorem e_Ref_insert : y_Ref_insert.cls ≠ "java/lang/invoke/MethodHandle" ∧ y_Ref_insert.cls ≠ "java/lang/invoke/VarHandle" ∧ (parseMethodDescriptor y_Ref_insert.desc).map (fun d => d.parameters.length) = some 2 := by decide +kernel
abbrev b_Ref_drop : ByteArray := prog_7_method_25_code
def y_Ref_drop : MethodName := ⟨"FirmStoreModel", "drop", "(II)V"⟩
theorem e_Ref_drop : y_Ref_drop.cls ≠ "java/lang/invoke/MethodHandle" ∧ y_Ref_drop.cls ≠ "java/lang/invoke/VarHandle" ∧ (parseMethodDescriptor y_Ref_drop.desc).map (fun d => d.parameters.length) = some 2 := by decide +kernel
abbrev b_Ref_split : ByteArray := prog_7_method_26_code
def y_Ref_split : MethodName := ⟨"FirmStoreModel", "split", "(I)I"⟩
theorem e_Ref_split : y_Ref_split.cls ≠ "java/lang/invoke/MethodHandle" ∧ y_Ref_split.cls ≠ "java/lang/invoke/VarHandle" ∧ (parseMethodDescriptor y_Ref_split.desc).map (fun d => d.parameters.length) = some 1 := by decide +kernel
abbrev b_Ref_entryOf : ByteArray := prog_7_method_27_code
def y_Ref_entryOf : MethodName := ⟨"FirmStoreModel", "entryOf", "(I)J"⟩
theorem e_Ref_entryOf : y_Ref_entryOf.cls ≠ "java/lang/invoke/MethodHandle" ∧ y_Ref_entryOf.cls ≠ "java/lang/invoke/VarHandle" ∧ (parseMethodDescriptor y_Ref_entryOf.desc).map (fun d => d.parameters.length) = some 1 := by decide +kernel
abbrev b_Ref_hang : ByteArray := prog_7_method_28_code
def y_Ref_hang : MethodName := ⟨"FirmStoreModel", "hang", "(II)V"⟩
theorem e_Ref_hang : y_Ref_hang.cls ≠ "java/lang/invoke/MethodHandle" ∧ y_Ref_hang.cls ≠ "java/lang/invoke/VarHandle" ∧ (parseMethodDescriptor y_Ref_hang.desc).map (fun d => d.parameters.length) = some 2 := by decide +kernel
abbrev b_Ref_needed : ByteArray := prog_7_method_29_code
def y_Ref_needed : MethodName := ⟨"FirmStoreModel", "needed", "(I)I"⟩
theorem e_Ref_needed : y_Ref_needed.cls ≠ "java/lang/invoke/MethodHandle" ∧ y_Ref_needed.cls ≠ "java/lang/invoke/VarHandle" ∧ (parseMethodDescriptor y_Ref_needed.desc).map (fun d => d.parameters.length) = some 1 := by decide +kernel
abbrev b_Ref_putTree : ByteArray := prog_7_method_30_code
def y_Ref_putTree : MethodName := ⟨"FirmStoreModel", "putTree", "(II)I"⟩
theorem e_Ref_putTree : y_Ref_putTree.cls ≠ "java/lang/invoke/MethodHandle" ∧ y_Ref_putTree.cls ≠ "java/lang/invoke/VarHandle" ∧ (parseMethodDescriptor y_Ref_putTree.desc).map (fun d => d.parameters.length) = some 2 := by decide +kernel
abbrev b_Ref_placeOf : ByteArray := prog_7_method_31_code
def y_Ref_placeOf : MethodName := ⟨"FirmStoreModel", "placeOf", "(I)I"⟩
theorem e_Ref_placeOf : y_Ref_placeOf.cls ≠ "java/lang/invoke/MethodHandle" ∧ y_Ref_placeOf.cls ≠ "java/lang/invoke/VarHandle" ∧ (parseMethodDescriptor y_Ref_placeOf.desc).map (fun d => d.parameters.length) = some 1 := by decide +kernel
abbrev b_Ref_gapOf : ByteArray := prog_7_method_32_code
def y_Ref_gapOf : MethodName := ⟨"FirmStoreModel", "gapOf", "(I)I"⟩
theorem e_Ref_gapOf : y_Ref_gapOf.cls ≠ "java/lang/invoke/MethodHandle" ∧ y_Ref_gapOf.cls ≠ "java/lang/invoke/VarHandle" ∧ (parseMethodDescriptor y_Ref_gapOf.desc).map (fun d => d.parameters.length) = some 1 := by decide +kernel
abbrev b_Ref_putTable : ByteArray := prog_7_method_33_code
def y_Ref_putTable : MethodName := ⟨"FirmStoreModel", "putTable", "(II)I"⟩
theorem e_Ref_putTable : y_Ref_putTable.cls ≠ "java/lang/invoke/MethodHandle" ∧ y_Ref_putTable.cls ≠ "java/lang/invoke/VarHandle" ∧ (parseMethodDescriptor y_Ref_putTable.desc).map (fun d => d.parameters.length) = some 2 := by decide +kernel
abbrev b_Ref_isGood : ByteArray := prog_7_method_34_code
def y_Ref_isGood : MethodName := ⟨"FirmStoreModel", "isGood", "(II)Z"⟩
theorem e_Ref_isGood : y_Ref_isGood.cls ≠ "java/lang/invoke/MethodHandle" ∧ y_Ref_isGood.cls ≠ "java/lang/invoke/VarHandle" ∧ (parseMethodDescriptor y_Ref_isGood.desc).map (fun d => d.parameters.length) = some 2 := by decide +kernel
abbrev b_Ref_put : ByteArray := prog_7_method_35_code
def y_Ref_put : MethodName := ⟨"FirmStoreModel", "put", "(III)I"⟩
theorem e_Ref_put : y_Ref_put.cls ≠ "java/lang/invoke/MethodHandle" ∧ y_Ref_put.cls ≠ "java/lang/invoke/VarHandle" ∧ (parseMethodDescriptor y_Ref_put.desc).map (fun d => d.parameters.length) = some 3 := by decide +kernel
abbrev b_Ref_read : ByteArray := prog_7_method_36_code
def y_Ref_read : MethodName := ⟨"FirmStoreModel", "read", "(II)I"⟩
theorem e_Ref_read : y_Ref_read.cls ≠ "java/lang/invoke/MethodHandle" ∧ y_Ref_read.cls ≠ "java/lang/invoke/VarHandle" ∧ (parseMethodDescriptor y_Ref_read.desc).map (fun d => d.parameters.length) = some 2 := by decide +kernel
abbrev b_Ref_remove : ByteArray := prog_7_method_37_code
def y_Ref_remove : MethodName := ⟨"FirmStoreModel", "remove", "(II)I"⟩
theorem e_Ref_remove : y_Ref_remove.cls ≠ "java/lang/invoke/MethodHandle" ∧ y_Ref_remove.cls ≠ "java/lang/invoke/VarHandle" ∧ (parseMethodDescriptor y_Ref_remove.desc).map (fun d => d.parameters.length) = some 2 := by decide +kernel
abbrev b_Ref_get : ByteArray := prog_7_method_38_code
def y_Ref_get : MethodName := ⟨"FirmStoreModel", "get", "(II)I"⟩
theorem e_Ref_get : y_Ref_get.cls ≠ "java/lang/invoke/MethodHandle" ∧ y_Ref_get.cls ≠ "java/lang/invoke/VarHandle" ∧ (parseMethodDescriptor y_Ref_get.desc).map (fun d => d.parameters.length) = some 2 := by decide +kernel
abbrev b_Ref_isRead : ByteArray := prog_7_method_39_code
def y_Ref_isRead : MethodName := ⟨"FirmStoreModel", "isRead", "(II)Z"⟩
theorem e_Ref_isRead : y_Ref_isRead.cls ≠ "java/lang/invoke/MethodHandle" ∧ y_Ref_isRead.cls ≠ "java/lang/invoke/VarHandle" ∧ (parseMethodDescriptor y_Ref_isRead.desc).map (fun d => d.parameters.length) = some 2 := by decide +kernel
abbrev b_Ref_from : ByteArray := prog_7_method_40_code
def y_Ref_from : MethodName := ⟨"FirmStoreModel", "from", "(I)I"⟩
theorem e_Ref_from : y_Ref_from.cls ≠ "java/lang/invoke/MethodHandle" ∧ y_Ref_from.cls ≠ "java/lang/invoke/VarHandle" ∧ (parseMethodDescriptor y_Ref_from.desc).map (fun d => d.parameters.length) = some 1 := by decide +kernel
abbrev b_Ref_order : ByteArray := prog_7_method_41_code
def y_Ref_order : MethodName := ⟨"FirmStoreModel", "order", "(II)Z"⟩
theorem e_Ref_order : y_Ref_order.cls ≠ "java/lang/invoke/MethodHandle" ∧ y_Ref_order.cls ≠ "java/lang/invoke/VarHandle" ∧ (parseMethodDescriptor y_Ref_order.desc).map (fun d => d.parameters.length) = some 2 := by decide +kernel
abbrev b_Ref_firstAt : ByteArray := prog_7_method_42_code
def y_Ref_firstAt : MethodName := ⟨"FirmStoreModel", "firstAt", "(I)I"⟩
theorem e_Ref_firstAt : y_Ref_firstAt.cls ≠ "java/lang/invoke/MethodHandle" ∧ y_Ref_firstAt.cls ≠ "java/lang/invoke/VarHandle" ∧ (parseMethodDescriptor y_Ref_firstAt.desc).map (fun d => d.parameters.length) = some 1 := by decide +kernel
abbrev b_Ref_putRight : ByteArray := prog_7_method_43_code
def y_Ref_putRight : MethodName := ⟨"FirmStoreModel", "putRight", "(I)V"⟩
theorem e_Ref_putRight : y_Ref_putRight.cls ≠ "java/lang/invoke/MethodHandle" ∧ y_Ref_putRight.cls ≠ "java/lang/invoke/VarHandle" ∧ (parseMethodDescriptor y_Ref_putRight.desc).map (fun d => d.parameters.length) = some 1 := by decide +kernel
abbrev b_Ref_isValue : ByteArray := prog_7_method_44_code
def y_Ref_isValue : MethodName := ⟨"FirmStoreModel", "isValue", "(II)Z"⟩
theorem e_Ref_isValue : y_Ref_isValue.cls ≠ "java/lang/invoke/MethodHandle" ∧ y_Ref_isValue.cls ≠ "java/lang/invoke/VarHandle" ∧ (parseMethodDescriptor y_Ref_isValue.desc).map (fun d => d.parameters.length) = some 2 := by decide +kernel
abbrev b_Ref_repair : ByteArray := prog_7_method_45_code
def y_Ref_repair : MethodName := ⟨"FirmStoreModel", "repair", "()V"⟩
theorem e_Ref_repair : y_Ref_repair.cls ≠ "java/lang/invoke/MethodHandle" ∧ y_Ref_repair.cls ≠ "java/lang/invoke/VarHandle" ∧ (parseMethodDescriptor y_Ref_repair.desc).map (fun d => d.parameters.length) = some 0 := by decide +kernel
abbrev b_Ref_recover : ByteArray := prog_7_method_46_code
def y_Ref_recover : MethodName := ⟨"FirmStoreModel", "recover", "()I"⟩
theorem e_Ref_recover : y_Ref_recover.cls ≠ "java/lang/invoke/MethodHandle" ∧ y_Ref_recover.cls ≠ "java/lang/invoke/VarHandle" ∧ (parseMethodDescriptor y_Ref_recover.desc).map (fun d => d.parameters.length) = some 0 := by decide +kernel
abbrev b_Ref_size : ByteArray := prog_7_method_47_code
def y_Ref_size : MethodName := ⟨"FirmStoreModel", "size", "(I)I"⟩
theorem e_Ref_size : y_Ref_size.cls ≠ "java/lang/invoke/MethodHandle" ∧ y_Ref_size.cls ≠ "java/lang/invoke/VarHandle" ∧ (parseMethodDescriptor y_Ref_size.desc).map (fun d => d.parameters.length) = some 1 := by decide +kernel
abbrev b_Ref_free : ByteArray := prog_7_method_48_code
def y_Ref_free : MethodName := ⟨"FirmStoreModel", "free", "()I"⟩
theorem e_Ref_free : y_Ref_free.cls ≠ "java/lang/invoke/MethodHandle" ∧ y_Ref_free.cls ≠ "java/lang/invoke/VarHandle" ∧ (parseMethodDescriptor y_Ref_free.desc).map (fun d => d.parameters.length) = some 0 := by decide +kernel
abbrev b_Ref_height : ByteArray := prog_7_method_49_code
def y_Ref_height : MethodName := ⟨"FirmStoreModel", "height", "()I"⟩
theorem e_Ref_height : y_Ref_height.cls ≠ "java/lang/invoke/MethodHandle" ∧ y_Ref_height.cls ≠ "java/lang/invoke/VarHandle" ∧ (parseMethodDescriptor y_Ref_height.desc).map (fun d => d.parameters.length) = some 0 := by decide +kernel
abbrev b_Ref_word : ByteArray := prog_7_method_50_code
def y_Ref_word : MethodName := ⟨"FirmStoreModel", "word", "(I)J"⟩
theorem e_Ref_word : y_Ref_word.cls ≠ "java/lang/invoke/MethodHandle" ∧ y_Ref_word.cls ≠ "java/lang/invoke/VarHandle" ∧ (parseMethodDescriptor y_Ref_word.desc).map (fun d => d.parameters.length) = some 1 := by decide +kernel
abbrev b_Ref_stores : ByteArray := prog_7_method_51_code
def y_Ref_stores : MethodName := ⟨"FirmStoreModel", "stores", "()I"⟩
theorem e_Ref_stores : y_Ref_stores.cls ≠ "java/lang/invoke/MethodHandle" ∧ y_Ref_stores.cls ≠ "java/lang/invoke/VarHandle" ∧ (parseMethodDescriptor y_Ref_stores.desc).map (fun d => d.parameters.length) = some 0 := by decide +kernel
abbrev b_Ref_down : ByteArray := prog_7_method_52_code
def y_Ref_down : MethodName := ⟨"FirmStoreModel", "down", "()Z"⟩
theorem e_Ref_down : y_Ref_down.cls ≠ "java/lang/invoke/MethodHandle" ∧ y_Ref_down.cls ≠ "java/lang/invoke/VarHandle" ∧ (parseMethodDescriptor y_Ref_down.desc).map (fun d => d.parameters.length) = some 0 := by decide +kernel
abbrev clz : List vw_C := [("FirmStore", F_Firm, 4), ("FirmStore$Memory", F_Memory, 8), ("FirmStore$Blocks", F_Blocks, 1), ("FirmStore$Tree", F_Tree, 2), ("FirmStore$Table", F_Table, 2), ("FirmStoreModel", F_Ref, 12)]
abbrev tyz (Y : Nat → ClassId) : List (ClassId × FieldType) := [(Y 0, .long), (Y 1, .int), (Y 2, .boolean)]
abbrev SM : Type := (Nat → Int64) × (Nat → Int32) × (Nat → Int64) × Int32 × Int32 × Int32 × Int32 × Int32
def cg_w (u : SM) : Nat → Int64 := u.1
def cg_la (u : SM) : Nat → Int32 := u.2.1
def cg_fw (u : SM) : Nat → Int64 := u.2.2.1
def cg_lc (u : SM) : Int32 := u.2.2.2.1
def cg_sb (u : SM) : Int32 := u.2.2.2.2.1
def cg_cm (u : SM) : Int32 := u.2.2.2.2.2.1
def cg_sc (u : SM) : Int32 := u.2.2.2.2.2.2.1
def cg_dn (u : SM) : Int32 := u.2.2.2.2.2.2.2
def cs_w (u : SM) (v : Nat → Int64) : SM := (v, u.2.1, u.2.2.1, u.2.2.2.1, u.2.2.2.2.1, u.2.2.2.2.2.1, u.2.2.2.2.2.2.1, u.2.2.2.2.2.2.2)
def cs_la (u : SM) (v : Nat → Int32) : SM := (u.1, v, u.2.2.1, u.2.2.2.1, u.2.2.2.2.1, u.2.2.2.2.2.1, u.2.2.2.2.2.2.1, u.2.2.2.2.2.2.2)
def cs_fw (u : SM) (v : Nat → Int64) : SM := (u.1, u.2.1, v, u.2.2.2.1, u.2.2.2.2.1, u.2.2.2.2.2.1, u.2.2.2.2.2.2.1, u.2.2.2.2.2.2.2)
def cs_lc (u : SM) (v : Int32) : SM := (u.1, u.2.1, u.2.2.1, v, u.2.2.2.2.1, u.2.2.2.2.2.1, u.2.2.2.2.2.2.1, u.2.2.2.2.2.2.2)
def cs_sb (u : SM) (v : Int32) : SM := (u.1, u.2.1, u.2.2.1, u.2.2.2.1, v, u.2.2.2.2.2.1, u.2.2.2.2.2.2.1, u.2.2.2.2.2.2.2)
def cs_cm (u : SM) (v : Int32) : SM := (u.1, u.2.1, u.2.2.1, u.2.2.2.1, u.2.2.2.2.1, v, u.2.2.2.2.2.2.1, u.2.2.2.2.2.2.2)
def cs_sc (u : SM) (v : Int32) : SM := (u.1, u.2.1, u.2.2.1, u.2.2.2.1, u.2.2.2.2.1, u.2.2.2.2.2.1, v, u.2.2.2.2.2.2.2)
def cs_dn (u : SM) (v : Int32) : SM := (u.1, u.2.1, u.2.2.1, u.2.2.2.1, u.2.2.2.2.1, u.2.2.2.2.2.1, u.2.2.2.2.2.2.1, v)
abbrev SR : Type := (Nat → Int64) × (Nat → Int32) × (Nat → Int64) × (Nat → Int32) × (Nat → Int32) × Int32 × Int32 × Int32 × Int32 × Int32 × Int32 × Int32
def rg_mem (u : SR) : Nat → Int64 := u.1
def rg_lat (u : SR) : Nat → Int32 := u.2.1
def rg_old (u : SR) : Nat → Int64 := u.2.2.1
def rg_rea (u : SR) : Nat → Int32 := u.2.2.2.1
def rg_ris (u : SR) : Nat → Int32 := u.2.2.2.2.1
def rg_lo (u : SR) : Int32 := u.2.2.2.2.2.1
def rg_ca (u : SR) : Int32 := u.2.2.2.2.2.2.1
def rg_cm (u : SR) : Int32 := u.2.2.2.2.2.2.2.1
def rg_st (u : SR) : Int32 := u.2.2.2.2.2.2.2.2.1
def rg_dn (u : SR) : Int32 := u.2.2.2.2.2.2.2.2.2.1
def rg_br (u : SR) : Int32 := u.2.2.2.2.2.2.2.2.2.2.1
def rg_cd (u : SR) : Int32 := u.2.2.2.2.2.2.2.2.2.2.2
def rs_mem (u : SR) (v : Nat → Int64) : SR := (v, u.2.1, u.2.2.1, u.2.2.2.1, u.2.2.2.2.1, u.2.2.2.2.2.1, u.2.2.2.2.2.2.1, u.2.2.2.2.2.2.2.1, u.2.2.2.2.2.2.2.2.1, u.2.2.2.2.2.2.2.2.2.1, u.2.2.2.2.2.2.2.2.2.2.1, u.2.2.2.2.2.2.2.2.2.2.2)
def rs_lat (u : SR) (v : Nat → Int32) : SR := (u.1, v, u.2.2.1, u.2.2.2.1, u.2.2.2.2.1, u.2.2.2.2.2.1, u.2.2.2.2.2.2.1, u.2.2.2.2.2.2.2.1, u.2.2.2.2.2.2.2.2.1, u.2.2.2.2.2.2.2.2.2.1, u.2.2.2.2.2.2.2.2.2.2.1, u.2.2.2.2.2.2.2.2.2.2.2)
def rs_old (u : SR) (v : Nat → Int64) : SR := (u.1, u.2.1, v, u.2.2.2.1, u.2.2.2.2.1, u.2.2.2.2.2.1, u.2.2.2.2.2.2.1, u.2.2.2.2.2.2.2.1, u.2.2.2.2.2.2.2.2.1, u.2.2.2.2.2.2.2.2.2.1, u.2.2.2.2.2.2.2.2.2.2.1, u.2.2.2.2.2.2.2.2.2.2.2)
def rs_rea (u : SR) (v : Nat → Int32) : SR := (u.1, u.2.1, u.2.2.1, v, u.2.2.2.2.1, u.2.2.2.2.2.1, u.2.2.2.2.2.2.1, u.2.2.2.2.2.2.2.1, u.2.2.2.2.2.2.2.2.1, u.2.2.2.2.2.2.2.2.2.1, u.2.2.2.2.2.2.2.2.2.2.1, u.2.2.2.2.2.2.2.2.2.2.2)
def rs_ris (u : SR) (v : Nat → Int32) : SR := (u.1, u.2.1, u.2.2.1, u.2.2.2.1, v, u.2.2.2.2.2.1, u.2.2.2.2.2.2.1, u.2.2.2.2.2.2.2.1, u.2.2.2.2.2.2.2.2.1, u.2.2.2.2.2.2.2.2.2.1, u.2.2.2.2.2.2.2.2.2.2.1, u.2.2.2.2.2.2.2.2.2.2.2)
def rs_lo (u : SR) (v : Int32) : SR := (u.1, u.2.1, u.2.2.1, u.2.2.2.1, u.2.2.2.2.1, v, u.2.2.2.2.2.2.1, u.2.2.2.2.2.2.2.1, u.2.2.2.2.2.2.2.2.1, u.2.2.2.2.2.2.2.2.2.1, u.2.2.2.2.2.2.2.2.2.2.1, u.2.2.2.2.2.2.2.2.2.2.2)
def rs_ca (u : SR) (v : Int32) : SR := (u.1, u.2.1, u.2.2.1, u.2.2.2.1, u.2.2.2.2.1, u.2.2.2.2.2.1, v, u.2.2.2.2.2.2.2.1, u.2.2.2.2.2.2.2.2.1, u.2.2.2.2.2.2.2.2.2.1, u.2.2.2.2.2.2.2.2.2.2.1, u.2.2.2.2.2.2.2.2.2.2.2)
def rs_cm (u : SR) (v : Int32) : SR := (u.1, u.2.1, u.2.2.1, u.2.2.2.1, u.2.2.2.2.1, u.2.2.2.2.2.1, u.2.2.2.2.2.2.1, v, u.2.2.2.2.2.2.2.2.1, u.2.2.2.2.2.2.2.2.2.1, u.2.2.2.2.2.2.2.2.2.2.1, u.2.2.2.2.2.2.2.2.2.2.2)
def rs_st (u : SR) (v : Int32) : SR := (u.1, u.2.1, u.2.2.1, u.2.2.2.1, u.2.2.2.2.1, u.2.2.2.2.2.1, u.2.2.2.2.2.2.1, u.2.2.2.2.2.2.2.1, v, u.2.2.2.2.2.2.2.2.2.1, u.2.2.2.2.2.2.2.2.2.2.1, u.2.2.2.2.2.2.2.2.2.2.2)
def rs_dn (u : SR) (v : Int32) : SR := (u.1, u.2.1, u.2.2.1, u.2.2.2.1, u.2.2.2.2.1, u.2.2.2.2.2.1, u.2.2.2.2.2.2.1, u.2.2.2.2.2.2.2.1, u.2.2.2.2.2.2.2.2.1, v, u.2.2.2.2.2.2.2.2.2.2.1, u.2.2.2.2.2.2.2.2.2.2.2)
def rs_br (u : SR) (v : Int32) : SR := (u.1, u.2.1, u.2.2.1, u.2.2.2.1, u.2.2.2.2.1, u.2.2.2.2.2.1, u.2.2.2.2.2.2.1, u.2.2.2.2.2.2.2.1, u.2.2.2.2.2.2.2.2.1, u.2.2.2.2.2.2.2.2.2.1, v, u.2.2.2.2.2.2.2.2.2.2.2)
def rs_cd (u : SR) (v : Int32) : SR := (u.1, u.2.1, u.2.2.1, u.2.2.2.1, u.2.2.2.2.1, u.2.2.2.2.2.1, u.2.2.2.2.2.2.1, u.2.2.2.2.2.2.2.1, u.2.2.2.2.2.2.2.2.1, u.2.2.2.2.2.2.2.2.2.1, u.2.2.2.2.2.2.2.2.2.2.1, v)
def wdC (G : Nat → Nat) (Y : Nat → ClassId) (u : SM) : va_W := [(G 0, .inr (0, [.ref (G 1), .ref (G 5), .ref (G 6), .ref (G 7)])), (G 1, .inr (1, [.ref (G 2), .ref (G 3), .ref (G 4), .int (cg_lc u), .int (cg_sb u), .int (cg_cm u), .int (cg_sc u), .int (cg_dn u)])), (G 2, .inl (Y 0, 279, .inr (.inl (cg_w u)))), (G 3, .inl (Y 1, 9, .inl (cg_la u))), (G 4, .inl (Y 0, 9, .inr (.inl (cg_fw u)))), (G 5, .inr (2, [.ref (G 1)])), (G 6, .inr (3, [.ref (G 1), .ref (G 5)])), (G 7, .inr (4, [.ref (G 1), .ref (G 5)]))]
def wdR (G : Nat → Nat) (Y : Nat → ClassId) (u : SR) : va_W := [(G 0, .inr (5, [.ref (G 1), .int (rg_lo u), .ref (G 2), .ref (G 3), .int (rg_ca u), .int (rg_cm u), .int (rg_st u), .int (rg_dn u), .int (rg_br u), .int (rg_cd u), .ref (G 4), .ref (G 5)])), (G 1, .inl (Y 0, 279, .inr (.inl (rg_mem u)))), (G 2, .inl (Y 1, 16, .inl (rg_lat u))), (G 3, .inl (Y 0, 16, .inr (.inl (rg_old u)))), (G 4, .inl (Y 2, 31, .inl (rg_rea u))), (G 5, .inl (Y 1, 16, .inl (rg_ris u)))]
end
section
/-! WORDS of the tables, by their places -/
theorem q_1 : (Jvm.Cond.initialized "FirmStore") ∈ tbG := tbG_in (List.mem_of_getElem? (i := 61) (by decide +kernel)) rfl
theorem q_2 : (Jvm.Cond.initialized "FirmStore$Memory") ∈ tbG := tbG_in (List.mem_of_getElem? (i := 62) (by decide +kernel)) rfl
theorem q_3 : (Jvm.Cond.initialized "FirmStore$Blocks") ∈ tbG := tbG_in (List.mem_of_getElem? (i := 63) (by decide +kernel)) rfl
theorem q_4 : (Jvm.Cond.initialized "FirmStore$Tree") ∈ tbG := tbG_in (List.mem_of_getElem? (i := 64) (by decide +kernel)) rfl
theorem q_5 : (Jvm.Cond.initialized "FirmStore$Table") ∈ tbG := tbG_in (List.mem_of_getElem? (i := 65) (by decide +kernel)) rfl
theorem q_6 : (Jvm.Cond.initialized "FirmStoreModel") ∈ tbG := tbG_in (List.mem_of_getElem? (i := 66) (by decide +kernel)) rfl
theorem q_12 : (Jvm.Cond.initialized "java/lang/Integer") ∈ tbG := tbG_in (List.mem_of_getElem? (i := 72) (by decide +kernel)) rfl
theorem q_28 : (Jvm.Cond.fieldLink "FirmStore$Memory" (9 : Nat) "FirmStore$Memory" "words" "[J") ∈ tbG := tbG_in (List.mem_of_getElem? (i := 88) (by decide +kernel)) rfl
theorem q_29 : (Jvm.Cond.fieldLink "FirmStore$Memory" (13 : Nat) "FirmStore$Memory" "looseAt" "[I") ∈ tbG := tbG_in (List.mem_of_getElem? (i := 89) (by decide +kernel)) rfl
theorem q_30 : (Jvm.Cond.fieldLink "FirmStore$Memory" (17 : Nat) "FirmStore$Memory" "firmWas" "[J") ∈ tbG := tbG_in (List.mem_of_getElem? (i := 90) (by decide +kernel)) rfl
theorem q_31 : (Jvm.Cond.fieldLink "FirmStore$Memory" (20 : Nat) "FirmStore$Memory" "looseCount" "I") ∈ tbG := tbG_in (List.mem_of_getElem? (i := 91) (by decide +kernel)) rfl
theorem q_32 : (Jvm.Cond.fieldLink "FirmStore$Memory" (24 : Nat) "FirmStore$Memory" "storesBeforeCut" "I") ∈ tbG := tbG_in (List.mem_of_getElem? (i := 92) (by decide +kernel)) rfl
theorem q_33 : (Jvm.Cond.fieldLink "FirmStore$Memory" (27 : Nat) "FirmStore$Memory" "cutMask" "I") ∈ tbG := tbG_in (List.mem_of_getElem? (i := 93) (by decide +kernel)) rfl
theorem q_34 : (Jvm.Cond.fieldLink "FirmStore$Memory" (30 : Nat) "FirmStore$Memory" "storeCount" "I") ∈ tbG := tbG_in (List.mem_of_getElem? (i := 94) (by decide +kernel)) rfl
theorem q_35 : (Jvm.Cond.fieldLink "FirmStore" (92 : Nat) "FirmStore$Memory" "storeCount" "I") ∈ tbG := tbG_in (List.mem_of_getElem? (i := 95) (by decide +kernel)) rfl
theorem q_36 : (Jvm.Cond.fieldLink "FirmStore$Memory" (33 : Nat) "FirmStore$Memory" "isDown" "Z") ∈ tbG := tbG_in (List.mem_of_getElem? (i := 96) (by decide +kernel)) rfl
theorem q_37 : (Jvm.Cond.fieldLink "FirmStore" (51 : Nat) "FirmStore$Memory" "isDown" "Z") ∈ tbG := tbG_in (List.mem_of_getElem? (i := 97) (by decide +kernel)) rfl
theorem q_38 : (Jvm.Cond.laysFinal "FirmStore$Memory" "FirmStore$Memory" "words" "[J") ∈ tbG := tbG_in (List.mem_of_getElem? (i := 98) (by decide +kernel)) rfl
theorem q_40 : (Jvm.Cond.laysFinal "FirmStore$Memory" "FirmStore$Memory" "looseAt" "[I") ∈ tbG := tbG_in (List.mem_of_getElem? (i := 100) (by decide +kernel)) rfl
theorem q_42 : (Jvm.Cond.laysFinal "FirmStore$Memory" "FirmStore$Memory" "firmWas" "[J") ∈ tbG := tbG_in (List.mem_of_getElem? (i := 102) (by decide +kernel)) rfl
theorem q_44 : (Jvm.Cond.lays "FirmStore$Memory" "FirmStore$Memory" "looseCount" "I") ∈ tbG := tbG_in (List.mem_of_getElem? (i := 104) (by decide +kernel)) rfl
theorem q_46 : (Jvm.Cond.lays "FirmStore$Memory" "FirmStore$Memory" "storesBeforeCut" "I") ∈ tbG := tbG_in (List.mem_of_getElem? (i := 106) (by decide +kernel)) rfl
theorem q_48 : (Jvm.Cond.lays "FirmStore$Memory" "FirmStore$Memory" "cutMask" "I") ∈ tbG := tbG_in (List.mem_of_getElem? (i := 108) (by decide +kernel)) rfl
theorem q_50 : (Jvm.Cond.lays "FirmStore$Memory" "FirmStore$Memory" "storeCount" "I") ∈ tbG := tbG_in (List.mem_of_getElem? (i := 110) (by decide +kernel)) rfl
theorem q_52 : (Jvm.Cond.lays "FirmStore$Memory" "FirmStore$Memory" "isDown" "Z") ∈ tbG := tbG_in (List.mem_of_getElem? (i := 112) (by decide +kernel)) rfl
theorem q_63 : (Jvm.Cond.fieldLink "FirmStore$Blocks" (9 : Nat) "FirmStore$Blocks" "memory" "LFirmStore$Memory;") ∈ tbG := tbG_in (List.mem_of_getElem? (i := 123) (by decide +kernel)) rfl
theorem q_64 : (Jvm.Cond.laysFinal "FirmStore$Blocks" "FirmStore$Blocks" "memory" "LFirmStore$Memory;") ∈ tbG := tbG_in (List.mem_of_getElem? (i := 124) (by decide +kernel)) rfl
theorem q_73 : (Jvm.Cond.fieldLink "FirmStore$Tree" (9 : Nat) "FirmStore$Tree" "memory" "LFirmStore$Memory;") ∈ tbG := tbG_in (List.mem_of_getElem? (i := 133) (by decide +kernel)) rfl
theorem q_74 : (Jvm.Cond.fieldLink "FirmStore$Tree" (15 : Nat) "FirmStore$Tree" "blocks" "LFirmStore$Blocks;") ∈ tbG := tbG_in (List.mem_of_getElem? (i := 134) (by decide +kernel)) rfl
theorem q_75 : (Jvm.Cond.laysFinal "FirmStore$Tree" "FirmStore$Tree" "memory" "LFirmStore$Memory;") ∈ tbG := tbG_in (List.mem_of_getElem? (i := 135) (by decide +kernel)) rfl
theorem q_77 : (Jvm.Cond.laysFinal "FirmStore$Tree" "FirmStore$Tree" "blocks" "LFirmStore$Blocks;") ∈ tbG := tbG_in (List.mem_of_getElem? (i := 137) (by decide +kernel)) rfl
theorem q_86 : (Jvm.Cond.fieldLink "FirmStore$Table" (9 : Nat) "FirmStore$Table" "memory" "LFirmStore$Memory;") ∈ tbG := tbG_in (List.mem_of_getElem? (i := 146) (by decide +kernel)) rfl
theorem q_87 : (Jvm.Cond.fieldLink "FirmStore$Table" (15 : Nat) "FirmStore$Table" "blocks" "LFirmStore$Blocks;") ∈ tbG := tbG_in (List.mem_of_getElem? (i := 147) (by decide +kernel)) rfl
theorem q_88 : (Jvm.Cond.laysFinal "FirmStore$Table" "FirmStore$Table" "memory" "LFirmStore$Memory;") ∈ tbG := tbG_in (List.mem_of_getElem? (i := 148) (by decide +kernel)) rfl
theorem q_90 : (Jvm.Cond.laysFinal "FirmStore$Table" "FirmStore$Table" "blocks" "LFirmStore$Blocks;") ∈ tbG := tbG_in (List.mem_of_getElem? (i := 150) (by decide +kernel)) rfl
theorem q_93 : (Jvm.Cond.fieldLink "FirmStore" (10 : Nat) "FirmStore" "memory" "LFirmStore$Memory;") ∈ tbG := tbG_in (List.mem_of_getElem? (i := 153) (by decide +kernel)) rfl
theorem q_94 : (Jvm.Cond.fieldLink "FirmStore" (21 : Nat) "FirmStore" "blocks" "LFirmStore$Blocks;") ∈ tbG := tbG_in (List.mem_of_getElem? (i := 154) (by decide +kernel)) rfl
theorem q_95 : (Jvm.Cond.fieldLink "FirmStore" (30 : Nat) "FirmStore" "tree" "LFirmStore$Tree;") ∈ tbG := tbG_in (List.mem_of_getElem? (i := 155) (by decide +kernel)) rfl
theorem q_96 : (Jvm.Cond.fieldLink "FirmStore" (37 : Nat) "FirmStore" "table" "LFirmStore$Table;") ∈ tbG := tbG_in (List.mem_of_getElem? (i := 156) (by decide +kernel)) rfl
theorem q_97 : (Jvm.Cond.laysFinal "FirmStore" "FirmStore" "memory" "LFirmStore$Memory;") ∈ tbG := tbG_in (List.mem_of_getElem? (i := 157) (by decide +kernel)) rfl
theorem q_99 : (Jvm.Cond.laysFinal "FirmStore" "FirmStore" "blocks" "LFirmStore$Blocks;") ∈ tbG := tbG_in (List.mem_of_getElem? (i := 159) (by decide +kernel)) rfl
theorem q_101 : (Jvm.Cond.laysFinal "FirmStore" "FirmStore" "tree" "LFirmStore$Tree;") ∈ tbG := tbG_in (List.mem_of_getElem? (i := 161) (by decide +kernel)) rfl
theorem q_103 : (Jvm.Cond.laysFinal "FirmStore" "FirmStore" "table" "LFirmStore$Table;") ∈ tbG := tbG_in (List.mem_of_getElem? (i := 163) (by decide +kernel)) rfl
theorem q_110 : (Jvm.Cond.methodLink "FirmStore" (88 : Nat) ({ cls := "FirmStore$Memory", name := "orderCut", desc := "(II)V" } : Jvm.MethodName)) ∈ tbG := tbG_in (List.mem_of_getElem? (i := 170) (by decide +kernel)) rfl
theorem q_111 : (Jvm.Cond.instanceMethod ({ cls := "FirmStore$Memory", name := "orderCut", desc := "(II)V" } : Jvm.MethodName)) ∈ tbG := tbG_in (List.mem_of_getElem? (i := 171) (by decide +kernel)) rfl
theorem q_112 : (Jvm.Cond.selects "FirmStore$Memory" ({ cls := "FirmStore$Memory", name := "orderCut", desc := "(II)V" } : Jvm.MethodName) ({ cls := "FirmStore$Memory", name := "orderCut", desc := "(II)V" } : Jvm.MethodName)) ∈ tbG := tbG_in (List.mem_of_getElem? (i := 172) (by decide +kernel)) rfl
theorem q_113 : (Jvm.Cond.code ({ cls := "FirmStore$Memory", name := "orderCut", desc := "(II)V" } : Jvm.MethodName) prog_3_method_3_code (3 : Nat) (Option.none : Option Jvm.ClassFile.FieldType)) ∈ tbG := tbG_in (List.mem_of_getElem? (i := 173) (by decide +kernel)) rfl
theorem q_118 : (Jvm.Cond.methodLink "FirmStore" (41 : Nat) ({ cls := "FirmStore", name := "isPart", desc := "(I)Z" } : Jvm.MethodName)) ∈ tbG := tbG_in (List.mem_of_getElem? (i := 178) (by decide +kernel)) rfl
theorem q_119 : (Jvm.Cond.static ({ cls := "FirmStore", name := "isPart", desc := "(I)Z" } : Jvm.MethodName)) ∈ tbG := tbG_in (List.mem_of_getElem? (i := 179) (by decide +kernel)) rfl
theorem q_120 : (Jvm.Cond.code ({ cls := "FirmStore", name := "isPart", desc := "(I)Z" } : Jvm.MethodName) prog_1_method_15_code (1 : Nat) (Option.some Jvm.ClassFile.FieldType.boolean)) ∈ tbG := tbG_in (List.mem_of_getElem? (i := 180) (by decide +kernel)) rfl
theorem q_121 : (Jvm.Cond.methodLink "FirmStore" (103 : Nat) ({ cls := "FirmStore$Tree", name := "countKeys", desc := "()I" } : Jvm.MethodName)) ∈ tbG := tbG_in (List.mem_of_getElem? (i := 181) (by decide +kernel)) rfl
theorem q_122 : (Jvm.Cond.instanceMethod ({ cls := "FirmStore$Tree", name := "countKeys", desc := "()I" } : Jvm.MethodName)) ∈ tbG := tbG_in (List.mem_of_getElem? (i := 182) (by decide +kernel)) rfl
theorem q_123 : (Jvm.Cond.selects "FirmStore$Tree" ({ cls := "FirmStore$Tree", name := "countKeys", desc := "()I" } : Jvm.MethodName) ({ cls := "FirmStore$Tree", name := "countKeys", desc := "()I" } : Jvm.MethodName)) ∈ tbG := tbG_in (List.mem_of_getElem? (i := 183) (by decide +kernel)) rfl
theorem q_124 : (Jvm.Cond.code ({ cls := "FirmStore$Tree", name := "countKeys", desc := "()I" } : Jvm.MethodName) prog_5_method_5_code (8 : Nat) (Option.some Jvm.ClassFile.FieldType.int)) ∈ tbG := tbG_in (List.mem_of_getElem? (i := 184) (by decide +kernel)) rfl
theorem q_125 : (Jvm.Cond.methodLink "FirmStore$Tree" (50 : Nat) ({ cls := "FirmStore$Tree", name := "firstOf", desc := "(I)I" } : Jvm.MethodName)) ∈ tbG := tbG_in (List.mem_of_getElem? (i := 185) (by decide +kernel)) rfl
theorem q_127 : (Jvm.Cond.instanceMethod ({ cls := "FirmStore$Tree", name := "firstOf", desc := "(I)I" } : Jvm.MethodName)) ∈ tbG := tbG_in (List.mem_of_getElem? (i := 187) (by decide +kernel)) rfl
theorem q_128 : (Jvm.Cond.code ({ cls := "FirmStore$Tree", name := "firstOf", desc := "(I)I" } : Jvm.MethodName) prog_5_method_13_code (4 : Nat) (Option.some Jvm.ClassFile.FieldType.int)) ∈ tbG := tbG_in (List.mem_of_getElem? (i := 188) (by decide +kernel)) rfl
theorem q_129 : (Jvm.Cond.methodLink "FirmStore$Tree" (19 : Nat) ({ cls := "FirmStore$Blocks", name := "blockIn", desc := "(I)I" } : Jvm.MethodName)) ∈ tbG := tbG_in (List.mem_of_getElem? (i := 189) (by decide +kernel)) rfl
theorem q_130 : (Jvm.Cond.instanceMethod ({ cls := "FirmStore$Blocks", name := "blockIn", desc := "(I)I" } : Jvm.MethodName)) ∈ tbG := tbG_in (List.mem_of_getElem? (i := 190) (by decide +kernel)) rfl
theorem q_131 : (Jvm.Cond.selects "FirmStore$Blocks" ({ cls := "FirmStore$Blocks", name := "blockIn", desc := "(I)I" } : Jvm.MethodName) ({ cls := "FirmStore$Blocks", name := "blockIn", desc := "(I)I" } : Jvm.MethodName)) ∈ tbG := tbG_in (List.mem_of_getElem? (i := 191) (by decide +kernel)) rfl
theorem q_132 : (Jvm.Cond.code ({ cls := "FirmStore$Blocks", name := "blockIn", desc := "(I)I" } : Jvm.MethodName) prog_2_method_3_code (2 : Nat) (Option.some Jvm.ClassFile.FieldType.int)) ∈ tbG := tbG_in (List.mem_of_getElem? (i := 192) (by decide +kernel)) rfl
theorem q_133 : (Jvm.Cond.methodLink "FirmStore$Blocks" (15 : Nat) ({ cls := "FirmStore$Memory", name := "wordAt", desc := "(I)J" } : Jvm.MethodName)) ∈ tbG := tbG_in (List.mem_of_getElem? (i := 193) (by decide +kernel)) rfl
theorem q_134 : (Jvm.Cond.instanceMethod ({ cls := "FirmStore$Memory", name := "wordAt", desc := "(I)J" } : Jvm.MethodName)) ∈ tbG := tbG_in (List.mem_of_getElem? (i := 194) (by decide +kernel)) rfl
theorem q_135 : (Jvm.Cond.selects "FirmStore$Memory" ({ cls := "FirmStore$Memory", name := "wordAt", desc := "(I)J" } : Jvm.MethodName) ({ cls := "FirmStore$Memory", name := "wordAt", desc := "(I)J" } : Jvm.MethodName)) ∈ tbG := tbG_in (List.mem_of_getElem? (i := 195) (by decide +kernel)) rfl
theorem q_136 : (Jvm.Cond.code ({ cls := "FirmStore$Memory", name := "wordAt", desc := "(I)J" } : Jvm.MethodName) prog_3_method_2_code (2 : Nat) (Option.some Jvm.ClassFile.FieldType.long)) ∈ tbG := tbG_in (List.mem_of_getElem? (i := 196) (by decide +kernel)) rfl
theorem q_137 : (Jvm.Cond.methodLink "FirmStore$Blocks" (21 : Nat) ({ cls := "FirmStore$Blocks", name := "blockOf", desc := "(J)I" } : Jvm.MethodName)) ∈ tbG := tbG_in (List.mem_of_getElem? (i := 197) (by decide +kernel)) rfl
theorem q_138 : (Jvm.Cond.instanceMethod ({ cls := "FirmStore$Blocks", name := "blockOf", desc := "(J)I" } : Jvm.MethodName)) ∈ tbG := tbG_in (List.mem_of_getElem? (i := 198) (by decide +kernel)) rfl
theorem q_139 : (Jvm.Cond.selects "FirmStore$Blocks" ({ cls := "FirmStore$Blocks", name := "blockOf", desc := "(J)I" } : Jvm.MethodName) ({ cls := "FirmStore$Blocks", name := "blockOf", desc := "(J)I" } : Jvm.MethodName)) ∈ tbG := tbG_in (List.mem_of_getElem? (i := 199) (by decide +kernel)) rfl
theorem q_140 : (Jvm.Cond.code ({ cls := "FirmStore$Blocks", name := "blockOf", desc := "(J)I" } : Jvm.MethodName) prog_2_method_2_code (3 : Nat) (Option.some Jvm.ClassFile.FieldType.int)) ∈ tbG := tbG_in (List.mem_of_getElem? (i := 200) (by decide +kernel)) rfl
theorem q_141 : (Jvm.Cond.constantLong "FirmStore$Blocks" (13 : Nat) (30 : Int64)) ∈ tbG := tbG_in (List.mem_of_getElem? (i := 201) (by decide +kernel)) rfl
theorem q_142 : (Jvm.Cond.methodLink "FirmStore$Tree" (25 : Nat) ({ cls := "FirmStore$Blocks", name := "levelOf", desc := "(I)I" } : Jvm.MethodName)) ∈ tbG := tbG_in (List.mem_of_getElem? (i := 202) (by decide +kernel)) rfl
theorem q_143 : (Jvm.Cond.instanceMethod ({ cls := "FirmStore$Blocks", name := "levelOf", desc := "(I)I" } : Jvm.MethodName)) ∈ tbG := tbG_in (List.mem_of_getElem? (i := 203) (by decide +kernel)) rfl
theorem q_144 : (Jvm.Cond.selects "FirmStore$Blocks" ({ cls := "FirmStore$Blocks", name := "levelOf", desc := "(I)I" } : Jvm.MethodName) ({ cls := "FirmStore$Blocks", name := "levelOf", desc := "(I)I" } : Jvm.MethodName)) ∈ tbG := tbG_in (List.mem_of_getElem? (i := 204) (by decide +kernel)) rfl
theorem q_145 : (Jvm.Cond.code ({ cls := "FirmStore$Blocks", name := "levelOf", desc := "(I)I" } : Jvm.MethodName) prog_2_method_4_code (2 : Nat) (Option.some Jvm.ClassFile.FieldType.int)) ∈ tbG := tbG_in (List.mem_of_getElem? (i := 205) (by decide +kernel)) rfl
theorem q_146 : (Jvm.Cond.methodLink "FirmStore$Tree" (116 : Nat) ({ cls := "FirmStore$Blocks", name := "childAt", desc := "(II)I" } : Jvm.MethodName)) ∈ tbG := tbG_in (List.mem_of_getElem? (i := 206) (by decide +kernel)) rfl
theorem q_147 : (Jvm.Cond.instanceMethod ({ cls := "FirmStore$Blocks", name := "childAt", desc := "(II)I" } : Jvm.MethodName)) ∈ tbG := tbG_in (List.mem_of_getElem? (i := 207) (by decide +kernel)) rfl
theorem q_148 : (Jvm.Cond.selects "FirmStore$Blocks" ({ cls := "FirmStore$Blocks", name := "childAt", desc := "(II)I" } : Jvm.MethodName) ({ cls := "FirmStore$Blocks", name := "childAt", desc := "(II)I" } : Jvm.MethodName)) ∈ tbG := tbG_in (List.mem_of_getElem? (i := 208) (by decide +kernel)) rfl
theorem q_149 : (Jvm.Cond.code ({ cls := "FirmStore$Blocks", name := "childAt", desc := "(II)I" } : Jvm.MethodName) prog_2_method_9_code (3 : Nat) (Option.some Jvm.ClassFile.FieldType.int)) ∈ tbG := tbG_in (List.mem_of_getElem? (i := 209) (by decide +kernel)) rfl
theorem q_151 : (Jvm.Cond.static ({ cls := "FirmStore", name := "valueOf", desc := "(J)I" } : Jvm.MethodName)) ∈ tbG := tbG_in (List.mem_of_getElem? (i := 211) (by decide +kernel)) rfl
theorem q_152 : (Jvm.Cond.code ({ cls := "FirmStore", name := "valueOf", desc := "(J)I" } : Jvm.MethodName) prog_1_method_19_code (2 : Nat) (Option.some Jvm.ClassFile.FieldType.int)) ∈ tbG := tbG_in (List.mem_of_getElem? (i := 212) (by decide +kernel)) rfl
theorem q_153 : (Jvm.Cond.methodLink "FirmStore$Tree" (44 : Nat) ({ cls := "FirmStore$Tree", name := "endOf", desc := "(I)I" } : Jvm.MethodName)) ∈ tbG := tbG_in (List.mem_of_getElem? (i := 213) (by decide +kernel)) rfl
theorem q_155 : (Jvm.Cond.instanceMethod ({ cls := "FirmStore$Tree", name := "endOf", desc := "(I)I" } : Jvm.MethodName)) ∈ tbG := tbG_in (List.mem_of_getElem? (i := 215) (by decide +kernel)) rfl
theorem q_156 : (Jvm.Cond.code ({ cls := "FirmStore$Tree", name := "endOf", desc := "(I)I" } : Jvm.MethodName) prog_5_method_16_code (3 : Nat) (Option.some Jvm.ClassFile.FieldType.int)) ∈ tbG := tbG_in (List.mem_of_getElem? (i := 216) (by decide +kernel)) rfl
theorem q_157 : (Jvm.Cond.methodLink "FirmStore$Tree" (47 : Nat) ({ cls := "FirmStore$Blocks", name := "nextOf", desc := "(I)I" } : Jvm.MethodName)) ∈ tbG := tbG_in (List.mem_of_getElem? (i := 217) (by decide +kernel)) rfl
theorem q_158 : (Jvm.Cond.instanceMethod ({ cls := "FirmStore$Blocks", name := "nextOf", desc := "(I)I" } : Jvm.MethodName)) ∈ tbG := tbG_in (List.mem_of_getElem? (i := 218) (by decide +kernel)) rfl
theorem q_159 : (Jvm.Cond.selects "FirmStore$Blocks" ({ cls := "FirmStore$Blocks", name := "nextOf", desc := "(I)I" } : Jvm.MethodName) ({ cls := "FirmStore$Blocks", name := "nextOf", desc := "(I)I" } : Jvm.MethodName)) ∈ tbG := tbG_in (List.mem_of_getElem? (i := 219) (by decide +kernel)) rfl
theorem q_160 : (Jvm.Cond.code ({ cls := "FirmStore$Blocks", name := "nextOf", desc := "(I)I" } : Jvm.MethodName) prog_2_method_5_code (2 : Nat) (Option.some Jvm.ClassFile.FieldType.int)) ∈ tbG := tbG_in (List.mem_of_getElem? (i := 220) (by decide +kernel)) rfl
theorem q_161 : (Jvm.Cond.methodLink "FirmStore$Tree" (110 : Nat) ({ cls := "FirmStore$Blocks", name := "lowOf", desc := "(I)I" } : Jvm.MethodName)) ∈ tbG := tbG_in (List.mem_of_getElem? (i := 221) (by decide +kernel)) rfl
theorem q_162 : (Jvm.Cond.instanceMethod ({ cls := "FirmStore$Blocks", name := "lowOf", desc := "(I)I" } : Jvm.MethodName)) ∈ tbG := tbG_in (List.mem_of_getElem? (i := 222) (by decide +kernel)) rfl
theorem q_163 : (Jvm.Cond.selects "FirmStore$Blocks" ({ cls := "FirmStore$Blocks", name := "lowOf", desc := "(I)I" } : Jvm.MethodName) ({ cls := "FirmStore$Blocks", name := "lowOf", desc := "(I)I" } : Jvm.MethodName)) ∈ tbG := tbG_in (List.mem_of_getElem? (i := 223) (by decide +kernel)) rfl
theorem q_164 : (Jvm.Cond.code ({ cls := "FirmStore$Blocks", name := "lowOf", desc := "(I)I" } : Jvm.MethodName) prog_2_method_6_code (2 : Nat) (Option.some Jvm.ClassFile.FieldType.int)) ∈ tbG := tbG_in (List.mem_of_getElem? (i := 224) (by decide +kernel)) rfl
theorem q_165 : (Jvm.Cond.methodLink "FirmStore$Tree" (35 : Nat) ({ cls := "FirmStore$Blocks", name := "rowLength", desc := "(I)I" } : Jvm.MethodName)) ∈ tbG := tbG_in (List.mem_of_getElem? (i := 225) (by decide +kernel)) rfl
theorem q_166 : (Jvm.Cond.instanceMethod ({ cls := "FirmStore$Blocks", name := "rowLength", desc := "(I)I" } : Jvm.MethodName)) ∈ tbG := tbG_in (List.mem_of_getElem? (i := 226) (by decide +kernel)) rfl
theorem q_167 : (Jvm.Cond.selects "FirmStore$Blocks" ({ cls := "FirmStore$Blocks", name := "rowLength", desc := "(I)I" } : Jvm.MethodName) ({ cls := "FirmStore$Blocks", name := "rowLength", desc := "(I)I" } : Jvm.MethodName)) ∈ tbG := tbG_in (List.mem_of_getElem? (i := 227) (by decide +kernel)) rfl
theorem q_168 : (Jvm.Cond.code ({ cls := "FirmStore$Blocks", name := "rowLength", desc := "(I)I" } : Jvm.MethodName) prog_2_method_10_code (3 : Nat) (Option.some Jvm.ClassFile.FieldType.int)) ∈ tbG := tbG_in (List.mem_of_getElem? (i := 228) (by decide +kernel)) rfl
theorem q_169 : (Jvm.Cond.methodLink "FirmStore$Tree" (38 : Nat) ({ cls := "FirmStore$Tree", name := "keyAt", desc := "(II)I" } : Jvm.MethodName)) ∈ tbG := tbG_in (List.mem_of_getElem? (i := 229) (by decide +kernel)) rfl
theorem q_171 : (Jvm.Cond.instanceMethod ({ cls := "FirmStore$Tree", name := "keyAt", desc := "(II)I" } : Jvm.MethodName)) ∈ tbG := tbG_in (List.mem_of_getElem? (i := 231) (by decide +kernel)) rfl
theorem q_172 : (Jvm.Cond.code ({ cls := "FirmStore$Tree", name := "keyAt", desc := "(II)I" } : Jvm.MethodName) prog_5_method_15_code (3 : Nat) (Option.some Jvm.ClassFile.FieldType.int)) ∈ tbG := tbG_in (List.mem_of_getElem? (i := 232) (by decide +kernel)) rfl
theorem q_173 : (Jvm.Cond.methodLink "FirmStore$Tree" (119 : Nat) ({ cls := "FirmStore$Blocks", name := "entryAt", desc := "(II)J" } : Jvm.MethodName)) ∈ tbG := tbG_in (List.mem_of_getElem? (i := 233) (by decide +kernel)) rfl
theorem q_174 : (Jvm.Cond.instanceMethod ({ cls := "FirmStore$Blocks", name := "entryAt", desc := "(II)J" } : Jvm.MethodName)) ∈ tbG := tbG_in (List.mem_of_getElem? (i := 234) (by decide +kernel)) rfl
theorem q_175 : (Jvm.Cond.selects "FirmStore$Blocks" ({ cls := "FirmStore$Blocks", name := "entryAt", desc := "(II)J" } : Jvm.MethodName) ({ cls := "FirmStore$Blocks", name := "entryAt", desc := "(II)J" } : Jvm.MethodName)) ∈ tbG := tbG_in (List.mem_of_getElem? (i := 235) (by decide +kernel)) rfl
theorem q_176 : (Jvm.Cond.code ({ cls := "FirmStore$Blocks", name := "entryAt", desc := "(II)J" } : Jvm.MethodName) prog_2_method_8_code (3 : Nat) (Option.some Jvm.ClassFile.FieldType.long)) ∈ tbG := tbG_in (List.mem_of_getElem? (i := 236) (by decide +kernel)) rfl
theorem q_178 : (Jvm.Cond.static ({ cls := "FirmStore", name := "keyOf", desc := "(J)I" } : Jvm.MethodName)) ∈ tbG := tbG_in (List.mem_of_getElem? (i := 238) (by decide +kernel)) rfl
theorem q_179 : (Jvm.Cond.code ({ cls := "FirmStore", name := "keyOf", desc := "(J)I" } : Jvm.MethodName) prog_1_method_18_code (2 : Nat) (Option.some Jvm.ClassFile.FieldType.int)) ∈ tbG := tbG_in (List.mem_of_getElem? (i := 239) (by decide +kernel)) rfl
theorem q_180 : (Jvm.Cond.methodLink "FirmStore" (107 : Nat) ({ cls := "FirmStore$Table", name := "countKeys", desc := "()I" } : Jvm.MethodName)) ∈ tbG := tbG_in (List.mem_of_getElem? (i := 240) (by decide +kernel)) rfl
theorem q_181 : (Jvm.Cond.instanceMethod ({ cls := "FirmStore$Table", name := "countKeys", desc := "()I" } : Jvm.MethodName)) ∈ tbG := tbG_in (List.mem_of_getElem? (i := 241) (by decide +kernel)) rfl
theorem q_182 : (Jvm.Cond.selects "FirmStore$Table" ({ cls := "FirmStore$Table", name := "countKeys", desc := "()I" } : Jvm.MethodName) ({ cls := "FirmStore$Table", name := "countKeys", desc := "()I" } : Jvm.MethodName)) ∈ tbG := tbG_in (List.mem_of_getElem? (i := 242) (by decide +kernel)) rfl
theorem q_183 : (Jvm.Cond.code ({ cls := "FirmStore$Table", name := "countKeys", desc := "()I" } : Jvm.MethodName) prog_4_method_3_code (5 : Nat) (Option.some Jvm.ClassFile.FieldType.int)) ∈ tbG := tbG_in (List.mem_of_getElem? (i := 243) (by decide +kernel)) rfl
theorem q_184 : (Jvm.Cond.methodLink "FirmStore$Table" (27 : Nat) ({ cls := "FirmStore$Blocks", name := "blockIn", desc := "(I)I" } : Jvm.MethodName)) ∈ tbG := tbG_in (List.mem_of_getElem? (i := 244) (by decide +kernel)) rfl
theorem q_185 : (Jvm.Cond.methodLink "FirmStore$Table" (32 : Nat) ({ cls := "FirmStore$Table", name := "countEntries", desc := "(I)I" } : Jvm.MethodName)) ∈ tbG := tbG_in (List.mem_of_getElem? (i := 245) (by decide +kernel)) rfl
theorem q_187 : (Jvm.Cond.instanceMethod ({ cls := "FirmStore$Table", name := "countEntries", desc := "(I)I" } : Jvm.MethodName)) ∈ tbG := tbG_in (List.mem_of_getElem? (i := 247) (by decide +kernel)) rfl
theorem q_188 : (Jvm.Cond.code ({ cls := "FirmStore$Table", name := "countEntries", desc := "(I)I" } : Jvm.MethodName) prog_4_method_7_code (4 : Nat) (Option.some Jvm.ClassFile.FieldType.int)) ∈ tbG := tbG_in (List.mem_of_getElem? (i := 248) (by decide +kernel)) rfl
theorem q_189 : (Jvm.Cond.methodLink "FirmStore$Table" (59 : Nat) ({ cls := "FirmStore$Blocks", name := "entryAt", desc := "(II)J" } : Jvm.MethodName)) ∈ tbG := tbG_in (List.mem_of_getElem? (i := 249) (by decide +kernel)) rfl
theorem q_190 : (Jvm.Cond.methodLink "FirmStore$Table" (35 : Nat) ({ cls := "FirmStore$Blocks", name := "nextOf", desc := "(I)I" } : Jvm.MethodName)) ∈ tbG := tbG_in (List.mem_of_getElem? (i := 250) (by decide +kernel)) rfl
theorem q_195 : (Jvm.Cond.methodLink "FirmStore" (108 : Nat) ({ cls := "FirmStore$Blocks", name := "countFree", desc := "()I" } : Jvm.MethodName)) ∈ tbG := tbG_in (List.mem_of_getElem? (i := 255) (by decide +kernel)) rfl
theorem q_196 : (Jvm.Cond.instanceMethod ({ cls := "FirmStore$Blocks", name := "countFree", desc := "()I" } : Jvm.MethodName)) ∈ tbG := tbG_in (List.mem_of_getElem? (i := 256) (by decide +kernel)) rfl
theorem q_197 : (Jvm.Cond.selects "FirmStore$Blocks" ({ cls := "FirmStore$Blocks", name := "countFree", desc := "()I" } : Jvm.MethodName) ({ cls := "FirmStore$Blocks", name := "countFree", desc := "()I" } : Jvm.MethodName)) ∈ tbG := tbG_in (List.mem_of_getElem? (i := 257) (by decide +kernel)) rfl
theorem q_198 : (Jvm.Cond.code ({ cls := "FirmStore$Blocks", name := "countFree", desc := "()I" } : Jvm.MethodName) prog_2_method_14_code (1 : Nat) (Option.some Jvm.ClassFile.FieldType.int)) ∈ tbG := tbG_in (List.mem_of_getElem? (i := 258) (by decide +kernel)) rfl
theorem q_199 : (Jvm.Cond.methodLink "FirmStore$Blocks" (38 : Nat) ({ cls := "FirmStore$Blocks", name := "freeSet", desc := "()I" } : Jvm.MethodName)) ∈ tbG := tbG_in (List.mem_of_getElem? (i := 259) (by decide +kernel)) rfl
theorem q_201 : (Jvm.Cond.instanceMethod ({ cls := "FirmStore$Blocks", name := "freeSet", desc := "()I" } : Jvm.MethodName)) ∈ tbG := tbG_in (List.mem_of_getElem? (i := 261) (by decide +kernel)) rfl
theorem q_202 : (Jvm.Cond.code ({ cls := "FirmStore$Blocks", name := "freeSet", desc := "()I" } : Jvm.MethodName) prog_2_method_15_code (8 : Nat) (Option.some Jvm.ClassFile.FieldType.int)) ∈ tbG := tbG_in (List.mem_of_getElem? (i := 262) (by decide +kernel)) rfl
theorem q_203 : (Jvm.Cond.methodLink "FirmStore$Blocks" (56 : Nat) ({ cls := "FirmStore$Blocks", name := "blockIn", desc := "(I)I" } : Jvm.MethodName)) ∈ tbG := tbG_in (List.mem_of_getElem? (i := 263) (by decide +kernel)) rfl
theorem q_204 : (Jvm.Cond.constant "FirmStore$Blocks" (59 : Nat) (2147483646 : Int32)) ∈ tbG := tbG_in (List.mem_of_getElem? (i := 264) (by decide +kernel)) rfl
theorem q_205 : (Jvm.Cond.methodLink "FirmStore$Blocks" (42 : Nat) ({ cls := "java/lang/Integer", name := "numberOfTrailingZeros", desc := "(I)I" } : Jvm.MethodName)) ∈ tbG := tbG_in (List.mem_of_getElem? (i := 265) (by decide +kernel)) rfl
theorem q_206 : (Jvm.Cond.static ({ cls := "java/lang/Integer", name := "numberOfTrailingZeros", desc := "(I)I" } : Jvm.MethodName)) ∈ tbG := tbG_in (List.mem_of_getElem? (i := 266) (by decide +kernel)) rfl
theorem q_207 : (Jvm.Cond.code ({ cls := "java/lang/Integer", name := "numberOfTrailingZeros", desc := "(I)I" } : Jvm.MethodName) prog_11_method_48_code (2 : Nat) (Option.some Jvm.ClassFile.FieldType.int)) ∈ tbG := tbG_in (List.mem_of_getElem? (i := 267) (by decide +kernel)) rfl
theorem q_208 : (Jvm.Cond.constant "java/lang/Integer" (264 : Nat) (65536 : Int32)) ∈ tbG := tbG_in (List.mem_of_getElem? (i := 268) (by decide +kernel)) rfl
theorem q_209 : (Jvm.Cond.methodLink "FirmStore$Blocks" (60 : Nat) ({ cls := "FirmStore$Blocks", name := "nextOf", desc := "(I)I" } : Jvm.MethodName)) ∈ tbG := tbG_in (List.mem_of_getElem? (i := 269) (by decide +kernel)) rfl
theorem q_210 : (Jvm.Cond.methodLink "FirmStore$Blocks" (63 : Nat) ({ cls := "FirmStore$Blocks", name := "levelOf", desc := "(I)I" } : Jvm.MethodName)) ∈ tbG := tbG_in (List.mem_of_getElem? (i := 270) (by decide +kernel)) rfl
theorem q_211 : (Jvm.Cond.methodLink "FirmStore$Blocks" (30 : Nat) ({ cls := "FirmStore$Blocks", name := "rowLength", desc := "(I)I" } : Jvm.MethodName)) ∈ tbG := tbG_in (List.mem_of_getElem? (i := 271) (by decide +kernel)) rfl
theorem q_212 : (Jvm.Cond.methodLink "FirmStore$Blocks" (66 : Nat) ({ cls := "FirmStore$Blocks", name := "childAt", desc := "(II)I" } : Jvm.MethodName)) ∈ tbG := tbG_in (List.mem_of_getElem? (i := 272) (by decide +kernel)) rfl
theorem q_213 : (Jvm.Cond.methodLink "FirmStore$Blocks" (53 : Nat) ({ cls := "java/lang/Integer", name := "bitCount", desc := "(I)I" } : Jvm.MethodName)) ∈ tbG := tbG_in (List.mem_of_getElem? (i := 273) (by decide +kernel)) rfl
theorem q_214 : (Jvm.Cond.static ({ cls := "java/lang/Integer", name := "bitCount", desc := "(I)I" } : Jvm.MethodName)) ∈ tbG := tbG_in (List.mem_of_getElem? (i := 274) (by decide +kernel)) rfl
theorem q_215 : (Jvm.Cond.code ({ cls := "java/lang/Integer", name := "bitCount", desc := "(I)I" } : Jvm.MethodName) prog_11_method_49_code (1 : Nat) (Option.some Jvm.ClassFile.FieldType.int)) ∈ tbG := tbG_in (List.mem_of_getElem? (i := 275) (by decide +kernel)) rfl
theorem q_216 : (Jvm.Cond.constant "java/lang/Integer" (265 : Nat) (1431655765 : Int32)) ∈ tbG := tbG_in (List.mem_of_getElem? (i := 276) (by decide +kernel)) rfl
theorem q_217 : (Jvm.Cond.constant "java/lang/Integer" (266 : Nat) (858993459 : Int32)) ∈ tbG := tbG_in (List.mem_of_getElem? (i := 277) (by decide +kernel)) rfl
theorem q_218 : (Jvm.Cond.constant "java/lang/Integer" (267 : Nat) (252645135 : Int32)) ∈ tbG := tbG_in (List.mem_of_getElem? (i := 278) (by decide +kernel)) rfl
theorem q_223 : (Jvm.Cond.methodLink "FirmStore" (111 : Nat) ({ cls := "FirmStore$Tree", name := "topLevel", desc := "()I" } : Jvm.MethodName)) ∈ tbG := tbG_in (List.mem_of_getElem? (i := 283) (by decide +kernel)) rfl
theorem q_224 : (Jvm.Cond.instanceMethod ({ cls := "FirmStore$Tree", name := "topLevel", desc := "()I" } : Jvm.MethodName)) ∈ tbG := tbG_in (List.mem_of_getElem? (i := 284) (by decide +kernel)) rfl
theorem q_225 : (Jvm.Cond.selects "FirmStore$Tree" ({ cls := "FirmStore$Tree", name := "topLevel", desc := "()I" } : Jvm.MethodName) ({ cls := "FirmStore$Tree", name := "topLevel", desc := "()I" } : Jvm.MethodName)) ∈ tbG := tbG_in (List.mem_of_getElem? (i := 285) (by decide +kernel)) rfl
theorem q_226 : (Jvm.Cond.code ({ cls := "FirmStore$Tree", name := "topLevel", desc := "()I" } : Jvm.MethodName) prog_5_method_2_code (2 : Nat) (Option.some Jvm.ClassFile.FieldType.int)) ∈ tbG := tbG_in (List.mem_of_getElem? (i := 286) (by decide +kernel)) rfl
theorem q_231 : (Jvm.Cond.methodLink "FirmStore" (76 : Nat) ({ cls := "FirmStore$Memory", name := "wordAt", desc := "(I)J" } : Jvm.MethodName)) ∈ tbG := tbG_in (List.mem_of_getElem? (i := 291) (by decide +kernel)) rfl
theorem q_335 : (Jvm.Cond.static ({ cls := "FirmStore", name := "entryOf", desc := "(II)J" } : Jvm.MethodName)) ∈ tbG := tbG_in (List.mem_of_getElem? (i := 395) (by decide +kernel)) rfl
theorem q_336 : (Jvm.Cond.code ({ cls := "FirmStore", name := "entryOf", desc := "(II)J" } : Jvm.MethodName) prog_1_method_17_code (2 : Nat) (Option.some Jvm.ClassFile.FieldType.long)) ∈ tbG := tbG_in (List.mem_of_getElem? (i := 396) (by decide +kernel)) rfl
theorem q_337 : (Jvm.Cond.constantLong "FirmStore" (118 : Nat) (4294967295 : Int64)) ∈ tbG := tbG_in (List.mem_of_getElem? (i := 397) (by decide +kernel)) rfl
theorem q_338 : (Jvm.Cond.methodLink "FirmStore$Tree" (57 : Nat) ({ cls := "FirmStore$Tree", name := "plant", desc := "(J)I" } : Jvm.MethodName)) ∈ tbG := tbG_in (List.mem_of_getElem? (i := 398) (by decide +kernel)) rfl
theorem q_340 : (Jvm.Cond.instanceMethod ({ cls := "FirmStore$Tree", name := "plant", desc := "(J)I" } : Jvm.MethodName)) ∈ tbG := tbG_in (List.mem_of_getElem? (i := 400) (by decide +kernel)) rfl
theorem q_341 : (Jvm.Cond.code ({ cls := "FirmStore$Tree", name := "plant", desc := "(J)I" } : Jvm.MethodName) prog_5_method_10_code (4 : Nat) (Option.some Jvm.ClassFile.FieldType.int)) ∈ tbG := tbG_in (List.mem_of_getElem? (i := 401) (by decide +kernel)) rfl
theorem q_342 : (Jvm.Cond.methodLink "FirmStore$Tree" (74 : Nat) ({ cls := "FirmStore$Blocks", name := "countFree", desc := "()I" } : Jvm.MethodName)) ∈ tbG := tbG_in (List.mem_of_getElem? (i := 402) (by decide +kernel)) rfl
theorem q_343 : (Jvm.Cond.methodLink "FirmStore$Tree" (106 : Nat) ({ cls := "FirmStore$Blocks", name := "make", desc := "(IIIJJJ)I" } : Jvm.MethodName)) ∈ tbG := tbG_in (List.mem_of_getElem? (i := 403) (by decide +kernel)) rfl
theorem q_344 : (Jvm.Cond.instanceMethod ({ cls := "FirmStore$Blocks", name := "make", desc := "(IIIJJJ)I" } : Jvm.MethodName)) ∈ tbG := tbG_in (List.mem_of_getElem? (i := 404) (by decide +kernel)) rfl
theorem q_345 : (Jvm.Cond.selects "FirmStore$Blocks" ({ cls := "FirmStore$Blocks", name := "make", desc := "(IIIJJJ)I" } : Jvm.MethodName) ({ cls := "FirmStore$Blocks", name := "make", desc := "(IIIJJJ)I" } : Jvm.MethodName)) ∈ tbG := tbG_in (List.mem_of_getElem? (i := 405) (by decide +kernel)) rfl
theorem q_346 : (Jvm.Cond.code ({ cls := "FirmStore$Blocks", name := "make", desc := "(IIIJJJ)I" } : Jvm.MethodName) prog_2_method_13_code (14 : Nat) (Option.some Jvm.ClassFile.FieldType.int)) ∈ tbG := tbG_in (List.mem_of_getElem? (i := 406) (by decide +kernel)) rfl
theorem q_347 : (Jvm.Cond.methodLink "FirmStore$Blocks" (47 : Nat) ({ cls := "FirmStore$Memory", name := "store", desc := "(IJ)Z" } : Jvm.MethodName)) ∈ tbG := tbG_in (List.mem_of_getElem? (i := 407) (by decide +kernel)) rfl
theorem q_348 : (Jvm.Cond.instanceMethod ({ cls := "FirmStore$Memory", name := "store", desc := "(IJ)Z" } : Jvm.MethodName)) ∈ tbG := tbG_in (List.mem_of_getElem? (i := 408) (by decide +kernel)) rfl
theorem q_349 : (Jvm.Cond.selects "FirmStore$Memory" ({ cls := "FirmStore$Memory", name := "store", desc := "(IJ)Z" } : Jvm.MethodName) ({ cls := "FirmStore$Memory", name := "store", desc := "(IJ)Z" } : Jvm.MethodName)) ∈ tbG := tbG_in (List.mem_of_getElem? (i := 409) (by decide +kernel)) rfl
theorem q_350 : (Jvm.Cond.code ({ cls := "FirmStore$Memory", name := "store", desc := "(IJ)Z" } : Jvm.MethodName) prog_3_method_4_code (4 : Nat) (Option.some Jvm.ClassFile.FieldType.boolean)) ∈ tbG := tbG_in (List.mem_of_getElem? (i := 410) (by decide +kernel)) rfl
theorem q_351 : (Jvm.Cond.methodLink "FirmStore$Memory" (37 : Nat) ({ cls := "FirmStore$Memory", name := "cutPower", desc := "()V" } : Jvm.MethodName)) ∈ tbG := tbG_in (List.mem_of_getElem? (i := 411) (by decide +kernel)) rfl
theorem q_353 : (Jvm.Cond.instanceMethod ({ cls := "FirmStore$Memory", name := "cutPower", desc := "()V" } : Jvm.MethodName)) ∈ tbG := tbG_in (List.mem_of_getElem? (i := 413) (by decide +kernel)) rfl
theorem q_354 : (Jvm.Cond.code ({ cls := "FirmStore$Memory", name := "cutPower", desc := "()V" } : Jvm.MethodName) prog_3_method_7_code (2 : Nat) (Option.none : Option Jvm.ClassFile.FieldType)) ∈ tbG := tbG_in (List.mem_of_getElem? (i := 414) (by decide +kernel)) rfl
theorem q_355 : (Jvm.Cond.methodLink "FirmStore$Blocks" (50 : Nat) ({ cls := "FirmStore$Memory", name := "fence", desc := "()V" } : Jvm.MethodName)) ∈ tbG := tbG_in (List.mem_of_getElem? (i := 415) (by decide +kernel)) rfl
theorem q_356 : (Jvm.Cond.instanceMethod ({ cls := "FirmStore$Memory", name := "fence", desc := "()V" } : Jvm.MethodName)) ∈ tbG := tbG_in (List.mem_of_getElem? (i := 416) (by decide +kernel)) rfl
theorem q_357 : (Jvm.Cond.selects "FirmStore$Memory" ({ cls := "FirmStore$Memory", name := "fence", desc := "()V" } : Jvm.MethodName) ({ cls := "FirmStore$Memory", name := "fence", desc := "()V" } : Jvm.MethodName)) ∈ tbG := tbG_in (List.mem_of_getElem? (i := 417) (by decide +kernel)) rfl
theorem q_358 : (Jvm.Cond.code ({ cls := "FirmStore$Memory", name := "fence", desc := "()V" } : Jvm.MethodName) prog_3_method_5_code (1 : Nat) (Option.none : Option Jvm.ClassFile.FieldType)) ∈ tbG := tbG_in (List.mem_of_getElem? (i := 418) (by decide +kernel)) rfl
theorem q_359 : (Jvm.Cond.methodLink "FirmStore$Tree" (64 : Nat) ({ cls := "FirmStore$Memory", name := "firmStore", desc := "(IJ)Z" } : Jvm.MethodName)) ∈ tbG := tbG_in (List.mem_of_getElem? (i := 419) (by decide +kernel)) rfl
theorem q_360 : (Jvm.Cond.instanceMethod ({ cls := "FirmStore$Memory", name := "firmStore", desc := "(IJ)Z" } : Jvm.MethodName)) ∈ tbG := tbG_in (List.mem_of_getElem? (i := 420) (by decide +kernel)) rfl
theorem q_361 : (Jvm.Cond.selects "FirmStore$Memory" ({ cls := "FirmStore$Memory", name := "firmStore", desc := "(IJ)Z" } : Jvm.MethodName) ({ cls := "FirmStore$Memory", name := "firmStore", desc := "(IJ)Z" } : Jvm.MethodName)) ∈ tbG := tbG_in (List.mem_of_getElem? (i := 421) (by decide +kernel)) rfl
theorem q_362 : (Jvm.Cond.code ({ cls := "FirmStore$Memory", name := "firmStore", desc := "(IJ)Z" } : Jvm.MethodName) prog_3_method_6_code (4 : Nat) (Option.some Jvm.ClassFile.FieldType.boolean)) ∈ tbG := tbG_in (List.mem_of_getElem? (i := 422) (by decide +kernel)) rfl
theorem q_363 : (Jvm.Cond.methodLink "FirmStore$Memory" (40 : Nat) ({ cls := "FirmStore$Memory", name := "store", desc := "(IJ)Z" } : Jvm.MethodName)) ∈ tbG := tbG_in (List.mem_of_getElem? (i := 423) (by decide +kernel)) rfl
theorem q_364 : (Jvm.Cond.methodLink "FirmStore$Memory" (44 : Nat) ({ cls := "FirmStore$Memory", name := "fence", desc := "()V" } : Jvm.MethodName)) ∈ tbG := tbG_in (List.mem_of_getElem? (i := 424) (by decide +kernel)) rfl
theorem q_365 : (Jvm.Cond.methodLink "FirmStore$Tree" (61 : Nat) ({ cls := "FirmStore$Tree", name := "seek", desc := "(I)I" } : Jvm.MethodName)) ∈ tbG := tbG_in (List.mem_of_getElem? (i := 425) (by decide +kernel)) rfl
theorem q_366 : (Jvm.Cond.instanceMethod ({ cls := "FirmStore$Tree", name := "seek", desc := "(I)I" } : Jvm.MethodName)) ∈ tbG := tbG_in (List.mem_of_getElem? (i := 426) (by decide +kernel)) rfl
theorem q_367 : (Jvm.Cond.selects "FirmStore$Tree" ({ cls := "FirmStore$Tree", name := "seek", desc := "(I)I" } : Jvm.MethodName) ({ cls := "FirmStore$Tree", name := "seek", desc := "(I)I" } : Jvm.MethodName)) ∈ tbG := tbG_in (List.mem_of_getElem? (i := 427) (by decide +kernel)) rfl
theorem q_368 : (Jvm.Cond.code ({ cls := "FirmStore$Tree", name := "seek", desc := "(I)I" } : Jvm.MethodName) prog_5_method_3_code (5 : Nat) (Option.some Jvm.ClassFile.FieldType.int)) ∈ tbG := tbG_in (List.mem_of_getElem? (i := 428) (by decide +kernel)) rfl
theorem q_369 : (Jvm.Cond.methodLink "FirmStore$Tree" (28 : Nat) ({ cls := "FirmStore$Tree", name := "find", desc := "(II)I" } : Jvm.MethodName)) ∈ tbG := tbG_in (List.mem_of_getElem? (i := 429) (by decide +kernel)) rfl
theorem q_371 : (Jvm.Cond.instanceMethod ({ cls := "FirmStore$Tree", name := "find", desc := "(II)I" } : Jvm.MethodName)) ∈ tbG := tbG_in (List.mem_of_getElem? (i := 431) (by decide +kernel)) rfl
theorem q_372 : (Jvm.Cond.code ({ cls := "FirmStore$Tree", name := "find", desc := "(II)I" } : Jvm.MethodName) prog_5_method_11_code (6 : Nat) (Option.some Jvm.ClassFile.FieldType.int)) ∈ tbG := tbG_in (List.mem_of_getElem? (i := 432) (by decide +kernel)) rfl
theorem q_373 : (Jvm.Cond.methodLink "FirmStore$Tree" (113 : Nat) ({ cls := "FirmStore$Tree", name := "childFor", desc := "(II)I" } : Jvm.MethodName)) ∈ tbG := tbG_in (List.mem_of_getElem? (i := 433) (by decide +kernel)) rfl
theorem q_375 : (Jvm.Cond.instanceMethod ({ cls := "FirmStore$Tree", name := "childFor", desc := "(II)I" } : Jvm.MethodName)) ∈ tbG := tbG_in (List.mem_of_getElem? (i := 435) (by decide +kernel)) rfl
theorem q_376 : (Jvm.Cond.code ({ cls := "FirmStore$Tree", name := "childFor", desc := "(II)I" } : Jvm.MethodName) prog_5_method_12_code (5 : Nat) (Option.some Jvm.ClassFile.FieldType.int)) ∈ tbG := tbG_in (List.mem_of_getElem? (i := 436) (by decide +kernel)) rfl
theorem q_377 : (Jvm.Cond.methodLink "FirmStore$Tree" (32 : Nat) ({ cls := "FirmStore$Tree", name := "countLesser", desc := "(II)I" } : Jvm.MethodName)) ∈ tbG := tbG_in (List.mem_of_getElem? (i := 437) (by decide +kernel)) rfl
theorem q_379 : (Jvm.Cond.instanceMethod ({ cls := "FirmStore$Tree", name := "countLesser", desc := "(II)I" } : Jvm.MethodName)) ∈ tbG := tbG_in (List.mem_of_getElem? (i := 439) (by decide +kernel)) rfl
theorem q_380 : (Jvm.Cond.code ({ cls := "FirmStore$Tree", name := "countLesser", desc := "(II)I" } : Jvm.MethodName) prog_5_method_14_code (5 : Nat) (Option.some Jvm.ClassFile.FieldType.int)) ∈ tbG := tbG_in (List.mem_of_getElem? (i := 440) (by decide +kernel)) rfl
theorem q_381 : (Jvm.Cond.methodLink "FirmStore$Tree" (41 : Nat) ({ cls := "FirmStore$Blocks", name := "addressOfPlace", desc := "(II)I" } : Jvm.MethodName)) ∈ tbG := tbG_in (List.mem_of_getElem? (i := 441) (by decide +kernel)) rfl
theorem q_382 : (Jvm.Cond.instanceMethod ({ cls := "FirmStore$Blocks", name := "addressOfPlace", desc := "(II)I" } : Jvm.MethodName)) ∈ tbG := tbG_in (List.mem_of_getElem? (i := 442) (by decide +kernel)) rfl
theorem q_383 : (Jvm.Cond.selects "FirmStore$Blocks" ({ cls := "FirmStore$Blocks", name := "addressOfPlace", desc := "(II)I" } : Jvm.MethodName) ({ cls := "FirmStore$Blocks", name := "addressOfPlace", desc := "(II)I" } : Jvm.MethodName)) ∈ tbG := tbG_in (List.mem_of_getElem? (i := 443) (by decide +kernel)) rfl
theorem q_384 : (Jvm.Cond.code ({ cls := "FirmStore$Blocks", name := "addressOfPlace", desc := "(II)I" } : Jvm.MethodName) prog_2_method_7_code (3 : Nat) (Option.some Jvm.ClassFile.FieldType.int)) ∈ tbG := tbG_in (List.mem_of_getElem? (i := 444) (by decide +kernel)) rfl
theorem q_385 : (Jvm.Cond.methodLink "FirmStore$Tree" (70 : Nat) ({ cls := "FirmStore$Blocks", name := "isFull", desc := "(I)Z" } : Jvm.MethodName)) ∈ tbG := tbG_in (List.mem_of_getElem? (i := 445) (by decide +kernel)) rfl
theorem q_386 : (Jvm.Cond.instanceMethod ({ cls := "FirmStore$Blocks", name := "isFull", desc := "(I)Z" } : Jvm.MethodName)) ∈ tbG := tbG_in (List.mem_of_getElem? (i := 446) (by decide +kernel)) rfl
theorem q_387 : (Jvm.Cond.selects "FirmStore$Blocks" ({ cls := "FirmStore$Blocks", name := "isFull", desc := "(I)Z" } : Jvm.MethodName) ({ cls := "FirmStore$Blocks", name := "isFull", desc := "(I)Z" } : Jvm.MethodName)) ∈ tbG := tbG_in (List.mem_of_getElem? (i := 447) (by decide +kernel)) rfl
theorem q_388 : (Jvm.Cond.code ({ cls := "FirmStore$Blocks", name := "isFull", desc := "(I)Z" } : Jvm.MethodName) prog_2_method_11_code (2 : Nat) (Option.some Jvm.ClassFile.FieldType.boolean)) ∈ tbG := tbG_in (List.mem_of_getElem? (i := 448) (by decide +kernel)) rfl
theorem q_389 : (Jvm.Cond.methodLink "FirmStore$Tree" (78 : Nat) ({ cls := "FirmStore$Tree", name := "blocksToSplit", desc := "(I)I" } : Jvm.MethodName)) ∈ tbG := tbG_in (List.mem_of_getElem? (i := 449) (by decide +kernel)) rfl
theorem q_391 : (Jvm.Cond.instanceMethod ({ cls := "FirmStore$Tree", name := "blocksToSplit", desc := "(I)I" } : Jvm.MethodName)) ∈ tbG := tbG_in (List.mem_of_getElem? (i := 451) (by decide +kernel)) rfl
theorem q_392 : (Jvm.Cond.code ({ cls := "FirmStore$Tree", name := "blocksToSplit", desc := "(I)I" } : Jvm.MethodName) prog_5_method_18_code (6 : Nat) (Option.some Jvm.ClassFile.FieldType.int)) ∈ tbG := tbG_in (List.mem_of_getElem? (i := 452) (by decide +kernel)) rfl
theorem q_393 : (Jvm.Cond.methodLink "FirmStore$Tree" (94 : Nat) ({ cls := "FirmStore$Tree", name := "topLevel", desc := "()I" } : Jvm.MethodName)) ∈ tbG := tbG_in (List.mem_of_getElem? (i := 453) (by decide +kernel)) rfl
theorem q_394 : (Jvm.Cond.methodLink "FirmStore$Tree" (81 : Nat) ({ cls := "FirmStore$Tree", name := "split", desc := "(I)I" } : Jvm.MethodName)) ∈ tbG := tbG_in (List.mem_of_getElem? (i := 454) (by decide +kernel)) rfl
theorem q_396 : (Jvm.Cond.instanceMethod ({ cls := "FirmStore$Tree", name := "split", desc := "(I)I" } : Jvm.MethodName)) ∈ tbG := tbG_in (List.mem_of_getElem? (i := 456) (by decide +kernel)) rfl
theorem q_397 : (Jvm.Cond.code ({ cls := "FirmStore$Tree", name := "split", desc := "(I)I" } : Jvm.MethodName) prog_5_method_19_code (6 : Nat) (Option.some Jvm.ClassFile.FieldType.int)) ∈ tbG := tbG_in (List.mem_of_getElem? (i := 457) (by decide +kernel)) rfl
theorem q_398 : (Jvm.Cond.methodLink "FirmStore$Tree" (125 : Nat) ({ cls := "FirmStore$Blocks", name := "linkNext", desc := "(II)Z" } : Jvm.MethodName)) ∈ tbG := tbG_in (List.mem_of_getElem? (i := 458) (by decide +kernel)) rfl
theorem q_399 : (Jvm.Cond.instanceMethod ({ cls := "FirmStore$Blocks", name := "linkNext", desc := "(II)Z" } : Jvm.MethodName)) ∈ tbG := tbG_in (List.mem_of_getElem? (i := 459) (by decide +kernel)) rfl
theorem q_400 : (Jvm.Cond.selects "FirmStore$Blocks" ({ cls := "FirmStore$Blocks", name := "linkNext", desc := "(II)Z" } : Jvm.MethodName) ({ cls := "FirmStore$Blocks", name := "linkNext", desc := "(II)Z" } : Jvm.MethodName)) ∈ tbG := tbG_in (List.mem_of_getElem? (i := 460) (by decide +kernel)) rfl
theorem q_401 : (Jvm.Cond.code ({ cls := "FirmStore$Blocks", name := "linkNext", desc := "(II)Z" } : Jvm.MethodName) prog_2_method_12_code (3 : Nat) (Option.some Jvm.ClassFile.FieldType.boolean)) ∈ tbG := tbG_in (List.mem_of_getElem? (i := 461) (by decide +kernel)) rfl
theorem q_402 : (Jvm.Cond.methodLink "FirmStore$Blocks" (34 : Nat) ({ cls := "FirmStore$Memory", name := "firmStore", desc := "(IJ)Z" } : Jvm.MethodName)) ∈ tbG := tbG_in (List.mem_of_getElem? (i := 462) (by decide +kernel)) rfl
theorem q_403 : (Jvm.Cond.methodLink "FirmStore$Tree" (128 : Nat) ({ cls := "FirmStore$Memory", name := "store", desc := "(IJ)Z" } : Jvm.MethodName)) ∈ tbG := tbG_in (List.mem_of_getElem? (i := 463) (by decide +kernel)) rfl
theorem q_404 : (Jvm.Cond.methodLink "FirmStore$Tree" (131 : Nat) ({ cls := "FirmStore$Memory", name := "fence", desc := "()V" } : Jvm.MethodName)) ∈ tbG := tbG_in (List.mem_of_getElem? (i := 464) (by decide +kernel)) rfl
theorem q_405 : (Jvm.Cond.methodLink "FirmStore$Tree" (84 : Nat) ({ cls := "FirmStore$Tree", name := "hang", desc := "(II)Z" } : Jvm.MethodName)) ∈ tbG := tbG_in (List.mem_of_getElem? (i := 465) (by decide +kernel)) rfl
theorem q_407 : (Jvm.Cond.instanceMethod ({ cls := "FirmStore$Tree", name := "hang", desc := "(II)Z" } : Jvm.MethodName)) ∈ tbG := tbG_in (List.mem_of_getElem? (i := 467) (by decide +kernel)) rfl
theorem q_408 : (Jvm.Cond.code ({ cls := "FirmStore$Tree", name := "hang", desc := "(II)Z" } : Jvm.MethodName) prog_5_method_20_code (6 : Nat) (Option.some Jvm.ClassFile.FieldType.boolean)) ∈ tbG := tbG_in (List.mem_of_getElem? (i := 468) (by decide +kernel)) rfl
theorem q_409 : (Jvm.Cond.methodLink "FirmStore$Tree" (134 : Nat) ({ cls := "FirmStore$Tree", name := "raise", desc := "(II)Z" } : Jvm.MethodName)) ∈ tbG := tbG_in (List.mem_of_getElem? (i := 469) (by decide +kernel)) rfl
theorem q_411 : (Jvm.Cond.instanceMethod ({ cls := "FirmStore$Tree", name := "raise", desc := "(II)Z" } : Jvm.MethodName)) ∈ tbG := tbG_in (List.mem_of_getElem? (i := 471) (by decide +kernel)) rfl
theorem q_412 : (Jvm.Cond.code ({ cls := "FirmStore$Tree", name := "raise", desc := "(II)Z" } : Jvm.MethodName) prog_5_method_21_code (6 : Nat) (Option.some Jvm.ClassFile.FieldType.boolean)) ∈ tbG := tbG_in (List.mem_of_getElem? (i := 472) (by decide +kernel)) rfl
theorem q_413 : (Jvm.Cond.methodLink "FirmStore$Tree" (88 : Nat) ({ cls := "FirmStore$Tree", name := "insert", desc := "(IJ)Z" } : Jvm.MethodName)) ∈ tbG := tbG_in (List.mem_of_getElem? (i := 473) (by decide +kernel)) rfl
theorem q_415 : (Jvm.Cond.instanceMethod ({ cls := "FirmStore$Tree", name := "insert", desc := "(IJ)Z" } : Jvm.MethodName)) ∈ tbG := tbG_in (List.mem_of_getElem? (i := 475) (by decide +kernel)) rfl
theorem q_416 : (Jvm.Cond.code ({ cls := "FirmStore$Tree", name := "insert", desc := "(IJ)Z" } : Jvm.MethodName) prog_5_method_22_code (8 : Nat) (Option.some Jvm.ClassFile.FieldType.boolean)) ∈ tbG := tbG_in (List.mem_of_getElem? (i := 476) (by decide +kernel)) rfl
theorem q_422 : (Jvm.Cond.methodLink "FirmStore$Table" (42 : Nat) ({ cls := "FirmStore$Table", name := "seek", desc := "(I)I" } : Jvm.MethodName)) ∈ tbG := tbG_in (List.mem_of_getElem? (i := 482) (by decide +kernel)) rfl
theorem q_423 : (Jvm.Cond.instanceMethod ({ cls := "FirmStore$Table", name := "seek", desc := "(I)I" } : Jvm.MethodName)) ∈ tbG := tbG_in (List.mem_of_getElem? (i := 483) (by decide +kernel)) rfl
theorem q_424 : (Jvm.Cond.selects "FirmStore$Table" ({ cls := "FirmStore$Table", name := "seek", desc := "(I)I" } : Jvm.MethodName) ({ cls := "FirmStore$Table", name := "seek", desc := "(I)I" } : Jvm.MethodName)) ∈ tbG := tbG_in (List.mem_of_getElem? (i := 484) (by decide +kernel)) rfl
theorem q_425 : (Jvm.Cond.code ({ cls := "FirmStore$Table", name := "seek", desc := "(I)I" } : Jvm.MethodName) prog_4_method_2_code (2 : Nat) (Option.some Jvm.ClassFile.FieldType.int)) ∈ tbG := tbG_in (List.mem_of_getElem? (i := 485) (by decide +kernel)) rfl
theorem q_426 : (Jvm.Cond.methodLink "FirmStore$Table" (19 : Nat) ({ cls := "FirmStore$Table", name := "headOf", desc := "(I)I" } : Jvm.MethodName)) ∈ tbG := tbG_in (List.mem_of_getElem? (i := 486) (by decide +kernel)) rfl
theorem q_428 : (Jvm.Cond.instanceMethod ({ cls := "FirmStore$Table", name := "headOf", desc := "(I)I" } : Jvm.MethodName)) ∈ tbG := tbG_in (List.mem_of_getElem? (i := 488) (by decide +kernel)) rfl
theorem q_429 : (Jvm.Cond.code ({ cls := "FirmStore$Table", name := "headOf", desc := "(I)I" } : Jvm.MethodName) prog_4_method_5_code (2 : Nat) (Option.some Jvm.ClassFile.FieldType.int)) ∈ tbG := tbG_in (List.mem_of_getElem? (i := 489) (by decide +kernel)) rfl
theorem q_430 : (Jvm.Cond.methodLink "FirmStore$Table" (23 : Nat) ({ cls := "FirmStore$Table", name := "seekInChain", desc := "(II)I" } : Jvm.MethodName)) ∈ tbG := tbG_in (List.mem_of_getElem? (i := 490) (by decide +kernel)) rfl
theorem q_432 : (Jvm.Cond.instanceMethod ({ cls := "FirmStore$Table", name := "seekInChain", desc := "(II)I" } : Jvm.MethodName)) ∈ tbG := tbG_in (List.mem_of_getElem? (i := 492) (by decide +kernel)) rfl
theorem q_433 : (Jvm.Cond.code ({ cls := "FirmStore$Table", name := "seekInChain", desc := "(II)I" } : Jvm.MethodName) prog_4_method_6_code (6 : Nat) (Option.some Jvm.ClassFile.FieldType.int)) ∈ tbG := tbG_in (List.mem_of_getElem? (i := 493) (by decide +kernel)) rfl
theorem q_435 : (Jvm.Cond.methodLink "FirmStore$Table" (66 : Nat) ({ cls := "FirmStore$Blocks", name := "addressOfPlace", desc := "(II)I" } : Jvm.MethodName)) ∈ tbG := tbG_in (List.mem_of_getElem? (i := 495) (by decide +kernel)) rfl
theorem q_436 : (Jvm.Cond.methodLink "FirmStore$Table" (45 : Nat) ({ cls := "FirmStore$Memory", name := "firmStore", desc := "(IJ)Z" } : Jvm.MethodName)) ∈ tbG := tbG_in (List.mem_of_getElem? (i := 496) (by decide +kernel)) rfl
theorem q_437 : (Jvm.Cond.methodLink "FirmStore$Table" (51 : Nat) ({ cls := "FirmStore$Blocks", name := "countFree", desc := "()I" } : Jvm.MethodName)) ∈ tbG := tbG_in (List.mem_of_getElem? (i := 497) (by decide +kernel)) rfl
theorem q_438 : (Jvm.Cond.methodLink "FirmStore$Table" (55 : Nat) ({ cls := "FirmStore$Blocks", name := "make", desc := "(IIIJJJ)I" } : Jvm.MethodName)) ∈ tbG := tbG_in (List.mem_of_getElem? (i := 498) (by decide +kernel)) rfl
theorem q_451 : (Jvm.Cond.methodLink "FirmStore" (114 : Nat) ({ cls := "FirmStore$Tree", name := "seek", desc := "(I)I" } : Jvm.MethodName)) ∈ tbG := tbG_in (List.mem_of_getElem? (i := 511) (by decide +kernel)) rfl
theorem q_452 : (Jvm.Cond.methodLink "FirmStore" (117 : Nat) ({ cls := "FirmStore$Table", name := "seek", desc := "(I)I" } : Jvm.MethodName)) ∈ tbG := tbG_in (List.mem_of_getElem? (i := 512) (by decide +kernel)) rfl
theorem q_472 : (Jvm.Cond.methodLink "FirmStore$Tree" (91 : Nat) ({ cls := "FirmStore$Tree", name := "dropPlace", desc := "(II)Z" } : Jvm.MethodName)) ∈ tbG := tbG_in (List.mem_of_getElem? (i := 532) (by decide +kernel)) rfl
theorem q_474 : (Jvm.Cond.instanceMethod ({ cls := "FirmStore$Tree", name := "dropPlace", desc := "(II)Z" } : Jvm.MethodName)) ∈ tbG := tbG_in (List.mem_of_getElem? (i := 534) (by decide +kernel)) rfl
theorem q_475 : (Jvm.Cond.code ({ cls := "FirmStore$Tree", name := "dropPlace", desc := "(II)Z" } : Jvm.MethodName) prog_5_method_23_code (6 : Nat) (Option.some Jvm.ClassFile.FieldType.boolean)) ∈ tbG := tbG_in (List.mem_of_getElem? (i := 535) (by decide +kernel)) rfl
theorem q_507 : (Jvm.Cond.methodLink "FirmStore$Tree" (97 : Nat) ({ cls := "FirmStore$Tree", name := "clearWrong", desc := "(I)Z" } : Jvm.MethodName)) ∈ tbG := tbG_in (List.mem_of_getElem? (i := 567) (by decide +kernel)) rfl
theorem q_509 : (Jvm.Cond.instanceMethod ({ cls := "FirmStore$Tree", name := "clearWrong", desc := "(I)Z" } : Jvm.MethodName)) ∈ tbG := tbG_in (List.mem_of_getElem? (i := 569) (by decide +kernel)) rfl
theorem q_510 : (Jvm.Cond.code ({ cls := "FirmStore$Tree", name := "clearWrong", desc := "(I)Z" } : Jvm.MethodName) prog_5_method_24_code (3 : Nat) (Option.some Jvm.ClassFile.FieldType.boolean)) ∈ tbG := tbG_in (List.mem_of_getElem? (i := 570) (by decide +kernel)) rfl
theorem q_511 : (Jvm.Cond.methodLink "FirmStore$Tree" (137 : Nat) ({ cls := "FirmStore$Tree", name := "isWrong", desc := "(II)Z" } : Jvm.MethodName)) ∈ tbG := tbG_in (List.mem_of_getElem? (i := 571) (by decide +kernel)) rfl
theorem q_513 : (Jvm.Cond.instanceMethod ({ cls := "FirmStore$Tree", name := "isWrong", desc := "(II)Z" } : Jvm.MethodName)) ∈ tbG := tbG_in (List.mem_of_getElem? (i := 573) (by decide +kernel)) rfl
theorem q_514 : (Jvm.Cond.code ({ cls := "FirmStore$Tree", name := "isWrong", desc := "(II)Z" } : Jvm.MethodName) prog_5_method_25_code (6 : Nat) (Option.some Jvm.ClassFile.FieldType.boolean)) ∈ tbG := tbG_in (List.mem_of_getElem? (i := 574) (by decide +kernel)) rfl
theorem q_515 : (Jvm.Cond.methodLink "FirmStore$Tree" (100 : Nat) ({ cls := "FirmStore$Tree", name := "dropTwins", desc := "(I)Z" } : Jvm.MethodName)) ∈ tbG := tbG_in (List.mem_of_getElem? (i := 575) (by decide +kernel)) rfl
theorem q_517 : (Jvm.Cond.instanceMethod ({ cls := "FirmStore$Tree", name := "dropTwins", desc := "(I)Z" } : Jvm.MethodName)) ∈ tbG := tbG_in (List.mem_of_getElem? (i := 577) (by decide +kernel)) rfl
theorem q_518 : (Jvm.Cond.code ({ cls := "FirmStore$Tree", name := "dropTwins", desc := "(I)Z" } : Jvm.MethodName) prog_5_method_26_code (4 : Nat) (Option.some Jvm.ClassFile.FieldType.boolean)) ∈ tbG := tbG_in (List.mem_of_getElem? (i := 578) (by decide +kernel)) rfl
theorem q_519 : (Jvm.Cond.methodLink "FirmStore$Tree" (140 : Nat) ({ cls := "FirmStore$Tree", name := "secondTwin", desc := "(I)I" } : Jvm.MethodName)) ∈ tbG := tbG_in (List.mem_of_getElem? (i := 579) (by decide +kernel)) rfl
theorem q_521 : (Jvm.Cond.instanceMethod ({ cls := "FirmStore$Tree", name := "secondTwin", desc := "(I)I" } : Jvm.MethodName)) ∈ tbG := tbG_in (List.mem_of_getElem? (i := 581) (by decide +kernel)) rfl
theorem q_522 : (Jvm.Cond.code ({ cls := "FirmStore$Tree", name := "secondTwin", desc := "(I)I" } : Jvm.MethodName) prog_5_method_27_code (4 : Nat) (Option.some Jvm.ClassFile.FieldType.int)) ∈ tbG := tbG_in (List.mem_of_getElem? (i := 582) (by decide +kernel)) rfl
theorem q_527 : (Jvm.Cond.methodLink "FirmStore$Tree" (103 : Nat) ({ cls := "FirmStore$Tree", name := "isHung", desc := "(II)Z" } : Jvm.MethodName)) ∈ tbG := tbG_in (List.mem_of_getElem? (i := 587) (by decide +kernel)) rfl
theorem q_529 : (Jvm.Cond.instanceMethod ({ cls := "FirmStore$Tree", name := "isHung", desc := "(II)Z" } : Jvm.MethodName)) ∈ tbG := tbG_in (List.mem_of_getElem? (i := 589) (by decide +kernel)) rfl
theorem q_530 : (Jvm.Cond.code ({ cls := "FirmStore$Tree", name := "isHung", desc := "(II)Z" } : Jvm.MethodName) prog_5_method_17_code (7 : Nat) (Option.some Jvm.ClassFile.FieldType.boolean)) ∈ tbG := tbG_in (List.mem_of_getElem? (i := 590) (by decide +kernel)) rfl
theorem q_537 : (Jvm.Cond.fieldLink "FirmStoreModel" (7 : Nat) "FirmStoreModel" "memory" "[J") ∈ tbG := tbG_in (List.mem_of_getElem? (i := 597) (by decide +kernel)) rfl
theorem q_538 : (Jvm.Cond.fieldLink "FirmStoreModel" (34 : Nat) "FirmStoreModel" "loose" "I") ∈ tbG := tbG_in (List.mem_of_getElem? (i := 598) (by decide +kernel)) rfl
theorem q_539 : (Jvm.Cond.fieldLink "FirmStoreModel" (13 : Nat) "FirmStoreModel" "looseAt" "[I") ∈ tbG := tbG_in (List.mem_of_getElem? (i := 599) (by decide +kernel)) rfl
theorem q_540 : (Jvm.Cond.fieldLink "FirmStoreModel" (17 : Nat) "FirmStoreModel" "looseOld" "[J") ∈ tbG := tbG_in (List.mem_of_getElem? (i := 600) (by decide +kernel)) rfl
theorem q_541 : (Jvm.Cond.fieldLink "FirmStoreModel" (20 : Nat) "FirmStoreModel" "cutAfter" "I") ∈ tbG := tbG_in (List.mem_of_getElem? (i := 601) (by decide +kernel)) rfl
theorem q_542 : (Jvm.Cond.fieldLink "FirmStoreModel" (37 : Nat) "FirmStoreModel" "cutMask" "I") ∈ tbG := tbG_in (List.mem_of_getElem? (i := 602) (by decide +kernel)) rfl
theorem q_543 : (Jvm.Cond.fieldLink "FirmStoreModel" (50 : Nat) "FirmStoreModel" "stores" "I") ∈ tbG := tbG_in (List.mem_of_getElem? (i := 603) (by decide +kernel)) rfl
theorem q_544 : (Jvm.Cond.fieldLink "FirmStoreModel" (40 : Nat) "FirmStoreModel" "down" "Z") ∈ tbG := tbG_in (List.mem_of_getElem? (i := 604) (by decide +kernel)) rfl
theorem q_545 : (Jvm.Cond.fieldLink "FirmStoreModel" (44 : Nat) "FirmStoreModel" "broken" "Z") ∈ tbG := tbG_in (List.mem_of_getElem? (i := 605) (by decide +kernel)) rfl
theorem q_546 : (Jvm.Cond.fieldLink "FirmStoreModel" (31 : Nat) "FirmStoreModel" "code" "I") ∈ tbG := tbG_in (List.mem_of_getElem? (i := 606) (by decide +kernel)) rfl
theorem q_547 : (Jvm.Cond.fieldLink "FirmStoreModel" (24 : Nat) "FirmStoreModel" "reached" "[Z") ∈ tbG := tbG_in (List.mem_of_getElem? (i := 607) (by decide +kernel)) rfl
theorem q_548 : (Jvm.Cond.fieldLink "FirmStoreModel" (28 : Nat) "FirmStoreModel" "rising" "[I") ∈ tbG := tbG_in (List.mem_of_getElem? (i := 608) (by decide +kernel)) rfl
theorem q_549 : (Jvm.Cond.laysFinal "FirmStoreModel" "FirmStoreModel" "memory" "[J") ∈ tbG := tbG_in (List.mem_of_getElem? (i := 609) (by decide +kernel)) rfl
theorem q_551 : (Jvm.Cond.lays "FirmStoreModel" "FirmStoreModel" "loose" "I") ∈ tbG := tbG_in (List.mem_of_getElem? (i := 611) (by decide +kernel)) rfl
theorem q_553 : (Jvm.Cond.laysFinal "FirmStoreModel" "FirmStoreModel" "looseAt" "[I") ∈ tbG := tbG_in (List.mem_of_getElem? (i := 613) (by decide +kernel)) rfl
theorem q_555 : (Jvm.Cond.laysFinal "FirmStoreModel" "FirmStoreModel" "looseOld" "[J") ∈ tbG := tbG_in (List.mem_of_getElem? (i := 615) (by decide +kernel)) rfl
theorem q_557 : (Jvm.Cond.lays "FirmStoreModel" "FirmStoreModel" "cutAfter" "I") ∈ tbG := tbG_in (List.mem_of_getElem? (i := 617) (by decide +kernel)) rfl
theorem q_559 : (Jvm.Cond.lays "FirmStoreModel" "FirmStoreModel" "cutMask" "I") ∈ tbG := tbG_in (List.mem_of_getElem? (i := 619) (by decide +kernel)) rfl
theorem q_561 : (Jvm.Cond.lays "FirmStoreModel" "FirmStoreModel" "stores" "I") ∈ tbG := tbG_in (List.mem_of_getElem? (i := 621) (by decide +kernel)) rfl
theorem q_563 : (Jvm.Cond.lays "FirmStoreModel" "FirmStoreModel" "down" "Z") ∈ tbG := tbG_in (List.mem_of_getElem? (i := 623) (by decide +kernel)) rfl
theorem q_565 : (Jvm.Cond.lays "FirmStoreModel" "FirmStoreModel" "broken" "Z") ∈ tbG := tbG_in (List.mem_of_getElem? (i := 625) (by decide +kernel)) rfl
theorem q_567 : (Jvm.Cond.lays "FirmStoreModel" "FirmStoreModel" "code" "I") ∈ tbG := tbG_in (List.mem_of_getElem? (i := 627) (by decide +kernel)) rfl
theorem q_569 : (Jvm.Cond.laysFinal "FirmStoreModel" "FirmStoreModel" "reached" "[Z") ∈ tbG := tbG_in (List.mem_of_getElem? (i := 629) (by decide +kernel)) rfl
theorem q_571 : (Jvm.Cond.laysFinal "FirmStoreModel" "FirmStoreModel" "rising" "[I") ∈ tbG := tbG_in (List.mem_of_getElem? (i := 631) (by decide +kernel)) rfl
theorem q_583 : (Jvm.Cond.methodLink "FirmStoreModel" (148 : Nat) ({ cls := "FirmStoreModel", name := "isGood", desc := "(II)Z" } : Jvm.MethodName)) ∈ tbG := tbG_in (List.mem_of_getElem? (i := 643) (by decide +kernel)) rfl
theorem q_584 : (Jvm.Cond.static ({ cls := "FirmStoreModel", name := "isGood", desc := "(II)Z" } : Jvm.MethodName)) ∈ tbG := tbG_in (List.mem_of_getElem? (i := 644) (by decide +kernel)) rfl
theorem q_585 : (Jvm.Cond.code ({ cls := "FirmStoreModel", name := "isGood", desc := "(II)Z" } : Jvm.MethodName) prog_7_method_34_code (2 : Nat) (Option.some Jvm.ClassFile.FieldType.boolean)) ∈ tbG := tbG_in (List.mem_of_getElem? (i := 645) (by decide +kernel)) rfl
theorem q_586 : (Jvm.Cond.methodLink "FirmStoreModel" (152 : Nat) ({ cls := "FirmStoreModel", name := "putTree", desc := "(II)I" } : Jvm.MethodName)) ∈ tbG := tbG_in (List.mem_of_getElem? (i := 646) (by decide +kernel)) rfl
theorem q_588 : (Jvm.Cond.instanceMethod ({ cls := "FirmStoreModel", name := "putTree", desc := "(II)I" } : Jvm.MethodName)) ∈ tbG := tbG_in (List.mem_of_getElem? (i := 648) (by decide +kernel)) rfl
theorem q_589 : (Jvm.Cond.code ({ cls := "FirmStoreModel", name := "putTree", desc := "(II)I" } : Jvm.MethodName) prog_7_method_30_code (6 : Nat) (Option.some Jvm.ClassFile.FieldType.int)) ∈ tbG := tbG_in (List.mem_of_getElem? (i := 649) (by decide +kernel)) rfl
theorem q_590 : (Jvm.Cond.methodLink "FirmStoreModel" (72 : Nat) ({ cls := "FirmStoreModel", name := "root", desc := "()I" } : Jvm.MethodName)) ∈ tbG := tbG_in (List.mem_of_getElem? (i := 650) (by decide +kernel)) rfl
theorem q_592 : (Jvm.Cond.instanceMethod ({ cls := "FirmStoreModel", name := "root", desc := "()I" } : Jvm.MethodName)) ∈ tbG := tbG_in (List.mem_of_getElem? (i := 652) (by decide +kernel)) rfl
theorem q_593 : (Jvm.Cond.code ({ cls := "FirmStoreModel", name := "root", desc := "()I" } : Jvm.MethodName) prog_7_method_9_code (1 : Nat) (Option.some Jvm.ClassFile.FieldType.int)) ∈ tbG := tbG_in (List.mem_of_getElem? (i := 653) (by decide +kernel)) rfl
theorem q_594 : (Jvm.Cond.methodLink "FirmStoreModel" (129 : Nat) ({ cls := "FirmStoreModel", name := "countFree", desc := "()I" } : Jvm.MethodName)) ∈ tbG := tbG_in (List.mem_of_getElem? (i := 654) (by decide +kernel)) rfl
theorem q_596 : (Jvm.Cond.instanceMethod ({ cls := "FirmStoreModel", name := "countFree", desc := "()I" } : Jvm.MethodName)) ∈ tbG := tbG_in (List.mem_of_getElem? (i := 656) (by decide +kernel)) rfl
theorem q_597 : (Jvm.Cond.code ({ cls := "FirmStoreModel", name := "countFree", desc := "()I" } : Jvm.MethodName) prog_7_method_19_code (3 : Nat) (Option.some Jvm.ClassFile.FieldType.int)) ∈ tbG := tbG_in (List.mem_of_getElem? (i := 657) (by decide +kernel)) rfl
theorem q_598 : (Jvm.Cond.methodLink "FirmStoreModel" (94 : Nat) ({ cls := "FirmStoreModel", name := "mark", desc := "()V" } : Jvm.MethodName)) ∈ tbG := tbG_in (List.mem_of_getElem? (i := 658) (by decide +kernel)) rfl
theorem q_600 : (Jvm.Cond.instanceMethod ({ cls := "FirmStoreModel", name := "mark", desc := "()V" } : Jvm.MethodName)) ∈ tbG := tbG_in (List.mem_of_getElem? (i := 660) (by decide +kernel)) rfl
theorem q_601 : (Jvm.Cond.code ({ cls := "FirmStoreModel", name := "mark", desc := "()V" } : Jvm.MethodName) prog_7_method_18_code (5 : Nat) (Option.none : Option Jvm.ClassFile.FieldType)) ∈ tbG := tbG_in (List.mem_of_getElem? (i := 661) (by decide +kernel)) rfl
theorem q_602 : (Jvm.Cond.methodLink "FirmStoreModel" (76 : Nat) ({ cls := "FirmStoreModel", name := "reach", desc := "(I)Z" } : Jvm.MethodName)) ∈ tbG := tbG_in (List.mem_of_getElem? (i := 662) (by decide +kernel)) rfl
theorem q_604 : (Jvm.Cond.instanceMethod ({ cls := "FirmStoreModel", name := "reach", desc := "(I)Z" } : Jvm.MethodName)) ∈ tbG := tbG_in (List.mem_of_getElem? (i := 664) (by decide +kernel)) rfl
theorem q_605 : (Jvm.Cond.code ({ cls := "FirmStoreModel", name := "reach", desc := "(I)Z" } : Jvm.MethodName) prog_7_method_17_code (3 : Nat) (Option.some Jvm.ClassFile.FieldType.boolean)) ∈ tbG := tbG_in (List.mem_of_getElem? (i := 665) (by decide +kernel)) rfl
theorem q_606 : (Jvm.Cond.methodLink "FirmStoreModel" (80 : Nat) ({ cls := "FirmStoreModel", name := "next", desc := "(I)I" } : Jvm.MethodName)) ∈ tbG := tbG_in (List.mem_of_getElem? (i := 666) (by decide +kernel)) rfl
theorem q_608 : (Jvm.Cond.instanceMethod ({ cls := "FirmStoreModel", name := "next", desc := "(I)I" } : Jvm.MethodName)) ∈ tbG := tbG_in (List.mem_of_getElem? (i := 668) (by decide +kernel)) rfl
theorem q_609 : (Jvm.Cond.code ({ cls := "FirmStoreModel", name := "next", desc := "(I)I" } : Jvm.MethodName) prog_7_method_11_code (2 : Nat) (Option.some Jvm.ClassFile.FieldType.int)) ∈ tbG := tbG_in (List.mem_of_getElem? (i := 669) (by decide +kernel)) rfl
theorem q_610 : (Jvm.Cond.methodLink "FirmStoreModel" (84 : Nat) ({ cls := "FirmStoreModel", name := "level", desc := "(I)I" } : Jvm.MethodName)) ∈ tbG := tbG_in (List.mem_of_getElem? (i := 670) (by decide +kernel)) rfl
theorem q_612 : (Jvm.Cond.instanceMethod ({ cls := "FirmStoreModel", name := "level", desc := "(I)I" } : Jvm.MethodName)) ∈ tbG := tbG_in (List.mem_of_getElem? (i := 672) (by decide +kernel)) rfl
theorem q_613 : (Jvm.Cond.code ({ cls := "FirmStoreModel", name := "level", desc := "(I)I" } : Jvm.MethodName) prog_7_method_10_code (2 : Nat) (Option.some Jvm.ClassFile.FieldType.int)) ∈ tbG := tbG_in (List.mem_of_getElem? (i := 673) (by decide +kernel)) rfl
theorem q_614 : (Jvm.Cond.methodLink "FirmStoreModel" (87 : Nat) ({ cls := "FirmStoreModel", name := "length", desc := "(I)I" } : Jvm.MethodName)) ∈ tbG := tbG_in (List.mem_of_getElem? (i := 674) (by decide +kernel)) rfl
theorem q_616 : (Jvm.Cond.instanceMethod ({ cls := "FirmStoreModel", name := "length", desc := "(I)I" } : Jvm.MethodName)) ∈ tbG := tbG_in (List.mem_of_getElem? (i := 676) (by decide +kernel)) rfl
theorem q_617 : (Jvm.Cond.code ({ cls := "FirmStoreModel", name := "length", desc := "(I)I" } : Jvm.MethodName) prog_7_method_16_code (3 : Nat) (Option.some Jvm.ClassFile.FieldType.int)) ∈ tbG := tbG_in (List.mem_of_getElem? (i := 677) (by decide +kernel)) rfl
theorem q_618 : (Jvm.Cond.methodLink "FirmStoreModel" (64 : Nat) ({ cls := "FirmStoreModel", name := "at", desc := "(II)J" } : Jvm.MethodName)) ∈ tbG := tbG_in (List.mem_of_getElem? (i := 678) (by decide +kernel)) rfl
theorem q_620 : (Jvm.Cond.instanceMethod ({ cls := "FirmStoreModel", name := "at", desc := "(II)J" } : Jvm.MethodName)) ∈ tbG := tbG_in (List.mem_of_getElem? (i := 680) (by decide +kernel)) rfl
theorem q_621 : (Jvm.Cond.code ({ cls := "FirmStoreModel", name := "at", desc := "(II)J" } : Jvm.MethodName) prog_7_method_13_code (3 : Nat) (Option.some Jvm.ClassFile.FieldType.long)) ∈ tbG := tbG_in (List.mem_of_getElem? (i := 681) (by decide +kernel)) rfl
theorem q_622 : (Jvm.Cond.methodLink "FirmStoreModel" (90 : Nat) ({ cls := "FirmStoreModel", name := "blockAt", desc := "(II)I" } : Jvm.MethodName)) ∈ tbG := tbG_in (List.mem_of_getElem? (i := 682) (by decide +kernel)) rfl
theorem q_624 : (Jvm.Cond.instanceMethod ({ cls := "FirmStoreModel", name := "blockAt", desc := "(II)I" } : Jvm.MethodName)) ∈ tbG := tbG_in (List.mem_of_getElem? (i := 684) (by decide +kernel)) rfl
theorem q_625 : (Jvm.Cond.code ({ cls := "FirmStoreModel", name := "blockAt", desc := "(II)I" } : Jvm.MethodName) prog_7_method_15_code (3 : Nat) (Option.some Jvm.ClassFile.FieldType.int)) ∈ tbG := tbG_in (List.mem_of_getElem? (i := 685) (by decide +kernel)) rfl
theorem q_626 : (Jvm.Cond.methodLink "FirmStoreModel" (113 : Nat) ({ cls := "FirmStoreModel", name := "entry", desc := "(II)J" } : Jvm.MethodName)) ∈ tbG := tbG_in (List.mem_of_getElem? (i := 686) (by decide +kernel)) rfl
theorem q_627 : (Jvm.Cond.static ({ cls := "FirmStoreModel", name := "entry", desc := "(II)J" } : Jvm.MethodName)) ∈ tbG := tbG_in (List.mem_of_getElem? (i := 687) (by decide +kernel)) rfl
theorem q_628 : (Jvm.Cond.code ({ cls := "FirmStoreModel", name := "entry", desc := "(II)J" } : Jvm.MethodName) prog_7_method_7_code (2 : Nat) (Option.some Jvm.ClassFile.FieldType.long)) ∈ tbG := tbG_in (List.mem_of_getElem? (i := 688) (by decide +kernel)) rfl
theorem q_629 : (Jvm.Cond.constantLong "FirmStoreModel" (60 : Nat) (4294967296 : Int64)) ∈ tbG := tbG_in (List.mem_of_getElem? (i := 689) (by decide +kernel)) rfl
theorem q_630 : (Jvm.Cond.constantLong "FirmStoreModel" (62 : Nat) (4294967295 : Int64)) ∈ tbG := tbG_in (List.mem_of_getElem? (i := 690) (by decide +kernel)) rfl
theorem q_631 : (Jvm.Cond.methodLink "FirmStoreModel" (109 : Nat) ({ cls := "FirmStoreModel", name := "make", desc := "(IIIJJJ)I" } : Jvm.MethodName)) ∈ tbG := tbG_in (List.mem_of_getElem? (i := 691) (by decide +kernel)) rfl
theorem q_633 : (Jvm.Cond.instanceMethod ({ cls := "FirmStoreModel", name := "make", desc := "(IIIJJJ)I" } : Jvm.MethodName)) ∈ tbG := tbG_in (List.mem_of_getElem? (i := 693) (by decide +kernel)) rfl
theorem q_634 : (Jvm.Cond.code ({ cls := "FirmStoreModel", name := "make", desc := "(IIIJJJ)I" } : Jvm.MethodName) prog_7_method_20_code (12 : Nat) (Option.some Jvm.ClassFile.FieldType.int)) ∈ tbG := tbG_in (List.mem_of_getElem? (i := 694) (by decide +kernel)) rfl
theorem q_635 : (Jvm.Cond.methodLink "FirmStoreModel" (53 : Nat) ({ cls := "FirmStoreModel", name := "store", desc := "(IJ)V" } : Jvm.MethodName)) ∈ tbG := tbG_in (List.mem_of_getElem? (i := 695) (by decide +kernel)) rfl
theorem q_637 : (Jvm.Cond.instanceMethod ({ cls := "FirmStoreModel", name := "store", desc := "(IJ)V" } : Jvm.MethodName)) ∈ tbG := tbG_in (List.mem_of_getElem? (i := 697) (by decide +kernel)) rfl
theorem q_638 : (Jvm.Cond.code ({ cls := "FirmStoreModel", name := "store", desc := "(IJ)V" } : Jvm.MethodName) prog_7_method_4_code (4 : Nat) (Option.none : Option Jvm.ClassFile.FieldType)) ∈ tbG := tbG_in (List.mem_of_getElem? (i := 698) (by decide +kernel)) rfl
theorem q_639 : (Jvm.Cond.methodLink "FirmStoreModel" (47 : Nat) ({ cls := "FirmStoreModel", name := "cutNow", desc := "()V" } : Jvm.MethodName)) ∈ tbG := tbG_in (List.mem_of_getElem? (i := 699) (by decide +kernel)) rfl
theorem q_641 : (Jvm.Cond.instanceMethod ({ cls := "FirmStoreModel", name := "cutNow", desc := "()V" } : Jvm.MethodName)) ∈ tbG := tbG_in (List.mem_of_getElem? (i := 701) (by decide +kernel)) rfl
theorem q_642 : (Jvm.Cond.code ({ cls := "FirmStoreModel", name := "cutNow", desc := "()V" } : Jvm.MethodName) prog_7_method_3_code (2 : Nat) (Option.none : Option Jvm.ClassFile.FieldType)) ∈ tbG := tbG_in (List.mem_of_getElem? (i := 702) (by decide +kernel)) rfl
theorem q_643 : (Jvm.Cond.methodLink "FirmStoreModel" (57 : Nat) ({ cls := "FirmStoreModel", name := "fence", desc := "()V" } : Jvm.MethodName)) ∈ tbG := tbG_in (List.mem_of_getElem? (i := 703) (by decide +kernel)) rfl
theorem q_645 : (Jvm.Cond.instanceMethod ({ cls := "FirmStoreModel", name := "fence", desc := "()V" } : Jvm.MethodName)) ∈ tbG := tbG_in (List.mem_of_getElem? (i := 705) (by decide +kernel)) rfl
theorem q_646 : (Jvm.Cond.code ({ cls := "FirmStoreModel", name := "fence", desc := "()V" } : Jvm.MethodName) prog_7_method_5_code (1 : Nat) (Option.none : Option Jvm.ClassFile.FieldType)) ∈ tbG := tbG_in (List.mem_of_getElem? (i := 706) (by decide +kernel)) rfl
theorem q_647 : (Jvm.Cond.methodLink "FirmStoreModel" (106 : Nat) ({ cls := "FirmStoreModel", name := "firm", desc := "(IJ)V" } : Jvm.MethodName)) ∈ tbG := tbG_in (List.mem_of_getElem? (i := 707) (by decide +kernel)) rfl
theorem q_649 : (Jvm.Cond.instanceMethod ({ cls := "FirmStoreModel", name := "firm", desc := "(IJ)V" } : Jvm.MethodName)) ∈ tbG := tbG_in (List.mem_of_getElem? (i := 709) (by decide +kernel)) rfl
theorem q_650 : (Jvm.Cond.code ({ cls := "FirmStoreModel", name := "firm", desc := "(IJ)V" } : Jvm.MethodName) prog_7_method_6_code (4 : Nat) (Option.none : Option Jvm.ClassFile.FieldType)) ∈ tbG := tbG_in (List.mem_of_getElem? (i := 710) (by decide +kernel)) rfl
theorem q_651 : (Jvm.Cond.methodLink "FirmStoreModel" (116 : Nat) ({ cls := "FirmStoreModel", name := "find", desc := "(II)I" } : Jvm.MethodName)) ∈ tbG := tbG_in (List.mem_of_getElem? (i := 711) (by decide +kernel)) rfl
theorem q_653 : (Jvm.Cond.instanceMethod ({ cls := "FirmStoreModel", name := "find", desc := "(II)I" } : Jvm.MethodName)) ∈ tbG := tbG_in (List.mem_of_getElem? (i := 713) (by decide +kernel)) rfl
theorem q_654 : (Jvm.Cond.code ({ cls := "FirmStoreModel", name := "find", desc := "(II)I" } : Jvm.MethodName) prog_7_method_21_code (6 : Nat) (Option.some Jvm.ClassFile.FieldType.int)) ∈ tbG := tbG_in (List.mem_of_getElem? (i := 714) (by decide +kernel)) rfl
theorem q_655 : (Jvm.Cond.methodLink "FirmStoreModel" (97 : Nat) ({ cls := "FirmStoreModel", name := "low", desc := "(I)I" } : Jvm.MethodName)) ∈ tbG := tbG_in (List.mem_of_getElem? (i := 715) (by decide +kernel)) rfl
theorem q_657 : (Jvm.Cond.instanceMethod ({ cls := "FirmStoreModel", name := "low", desc := "(I)I" } : Jvm.MethodName)) ∈ tbG := tbG_in (List.mem_of_getElem? (i := 717) (by decide +kernel)) rfl
theorem q_658 : (Jvm.Cond.code ({ cls := "FirmStoreModel", name := "low", desc := "(I)I" } : Jvm.MethodName) prog_7_method_12_code (2 : Nat) (Option.some Jvm.ClassFile.FieldType.int)) ∈ tbG := tbG_in (List.mem_of_getElem? (i := 718) (by decide +kernel)) rfl
theorem q_659 : (Jvm.Cond.methodLink "FirmStoreModel" (100 : Nat) ({ cls := "FirmStoreModel", name := "below", desc := "(II)I" } : Jvm.MethodName)) ∈ tbG := tbG_in (List.mem_of_getElem? (i := 719) (by decide +kernel)) rfl
theorem q_661 : (Jvm.Cond.instanceMethod ({ cls := "FirmStoreModel", name := "below", desc := "(II)I" } : Jvm.MethodName)) ∈ tbG := tbG_in (List.mem_of_getElem? (i := 721) (by decide +kernel)) rfl
theorem q_662 : (Jvm.Cond.code ({ cls := "FirmStoreModel", name := "below", desc := "(II)I" } : Jvm.MethodName) prog_7_method_22_code (5 : Nat) (Option.some Jvm.ClassFile.FieldType.int)) ∈ tbG := tbG_in (List.mem_of_getElem? (i := 722) (by decide +kernel)) rfl
theorem q_663 : (Jvm.Cond.methodLink "FirmStoreModel" (103 : Nat) ({ cls := "FirmStoreModel", name := "keyAt", desc := "(II)I" } : Jvm.MethodName)) ∈ tbG := tbG_in (List.mem_of_getElem? (i := 723) (by decide +kernel)) rfl
theorem q_665 : (Jvm.Cond.instanceMethod ({ cls := "FirmStoreModel", name := "keyAt", desc := "(II)I" } : Jvm.MethodName)) ∈ tbG := tbG_in (List.mem_of_getElem? (i := 725) (by decide +kernel)) rfl
theorem q_666 : (Jvm.Cond.code ({ cls := "FirmStoreModel", name := "keyAt", desc := "(II)I" } : Jvm.MethodName) prog_7_method_14_code (3 : Nat) (Option.some Jvm.ClassFile.FieldType.int)) ∈ tbG := tbG_in (List.mem_of_getElem? (i := 726) (by decide +kernel)) rfl
theorem q_667 : (Jvm.Cond.methodLink "FirmStoreModel" (68 : Nat) ({ cls := "FirmStoreModel", name := "keyOf", desc := "(J)I" } : Jvm.MethodName)) ∈ tbG := tbG_in (List.mem_of_getElem? (i := 727) (by decide +kernel)) rfl
theorem q_668 : (Jvm.Cond.static ({ cls := "FirmStoreModel", name := "keyOf", desc := "(J)I" } : Jvm.MethodName)) ∈ tbG := tbG_in (List.mem_of_getElem? (i := 728) (by decide +kernel)) rfl
theorem q_669 : (Jvm.Cond.code ({ cls := "FirmStoreModel", name := "keyOf", desc := "(J)I" } : Jvm.MethodName) prog_7_method_8_code (2 : Nat) (Option.some Jvm.ClassFile.FieldType.int)) ∈ tbG := tbG_in (List.mem_of_getElem? (i := 729) (by decide +kernel)) rfl
theorem q_670 : (Jvm.Cond.methodLink "FirmStoreModel" (132 : Nat) ({ cls := "FirmStoreModel", name := "placeIn", desc := "(II)I" } : Jvm.MethodName)) ∈ tbG := tbG_in (List.mem_of_getElem? (i := 730) (by decide +kernel)) rfl
theorem q_672 : (Jvm.Cond.instanceMethod ({ cls := "FirmStoreModel", name := "placeIn", desc := "(II)I" } : Jvm.MethodName)) ∈ tbG := tbG_in (List.mem_of_getElem? (i := 732) (by decide +kernel)) rfl
theorem q_673 : (Jvm.Cond.code ({ cls := "FirmStoreModel", name := "placeIn", desc := "(II)I" } : Jvm.MethodName) prog_7_method_23_code (4 : Nat) (Option.some Jvm.ClassFile.FieldType.int)) ∈ tbG := tbG_in (List.mem_of_getElem? (i := 733) (by decide +kernel)) rfl
theorem q_674 : (Jvm.Cond.methodLink "FirmStoreModel" (135 : Nat) ({ cls := "FirmStoreModel", name := "needed", desc := "(I)I" } : Jvm.MethodName)) ∈ tbG := tbG_in (List.mem_of_getElem? (i := 734) (by decide +kernel)) rfl
theorem q_676 : (Jvm.Cond.instanceMethod ({ cls := "FirmStoreModel", name := "needed", desc := "(I)I" } : Jvm.MethodName)) ∈ tbG := tbG_in (List.mem_of_getElem? (i := 736) (by decide +kernel)) rfl
theorem q_677 : (Jvm.Cond.code ({ cls := "FirmStoreModel", name := "needed", desc := "(I)I" } : Jvm.MethodName) prog_7_method_29_code (6 : Nat) (Option.some Jvm.ClassFile.FieldType.int)) ∈ tbG := tbG_in (List.mem_of_getElem? (i := 737) (by decide +kernel)) rfl
theorem q_678 : (Jvm.Cond.methodLink "FirmStoreModel" (123 : Nat) ({ cls := "FirmStoreModel", name := "split", desc := "(I)I" } : Jvm.MethodName)) ∈ tbG := tbG_in (List.mem_of_getElem? (i := 738) (by decide +kernel)) rfl
theorem q_680 : (Jvm.Cond.instanceMethod ({ cls := "FirmStoreModel", name := "split", desc := "(I)I" } : Jvm.MethodName)) ∈ tbG := tbG_in (List.mem_of_getElem? (i := 740) (by decide +kernel)) rfl
theorem q_681 : (Jvm.Cond.code ({ cls := "FirmStoreModel", name := "split", desc := "(I)I" } : Jvm.MethodName) prog_7_method_26_code (5 : Nat) (Option.some Jvm.ClassFile.FieldType.int)) ∈ tbG := tbG_in (List.mem_of_getElem? (i := 741) (by decide +kernel)) rfl
theorem q_682 : (Jvm.Cond.methodLink "FirmStoreModel" (138 : Nat) ({ cls := "FirmStoreModel", name := "hang", desc := "(II)V" } : Jvm.MethodName)) ∈ tbG := tbG_in (List.mem_of_getElem? (i := 742) (by decide +kernel)) rfl
theorem q_684 : (Jvm.Cond.instanceMethod ({ cls := "FirmStoreModel", name := "hang", desc := "(II)V" } : Jvm.MethodName)) ∈ tbG := tbG_in (List.mem_of_getElem? (i := 744) (by decide +kernel)) rfl
theorem q_685 : (Jvm.Cond.code ({ cls := "FirmStoreModel", name := "hang", desc := "(II)V" } : Jvm.MethodName) prog_7_method_28_code (14 : Nat) (Option.none : Option Jvm.ClassFile.FieldType)) ∈ tbG := tbG_in (List.mem_of_getElem? (i := 745) (by decide +kernel)) rfl
theorem q_686 : (Jvm.Cond.methodLink "FirmStoreModel" (119 : Nat) ({ cls := "FirmStoreModel", name := "entryOf", desc := "(I)J" } : Jvm.MethodName)) ∈ tbG := tbG_in (List.mem_of_getElem? (i := 746) (by decide +kernel)) rfl
theorem q_688 : (Jvm.Cond.instanceMethod ({ cls := "FirmStoreModel", name := "entryOf", desc := "(I)J" } : Jvm.MethodName)) ∈ tbG := tbG_in (List.mem_of_getElem? (i := 748) (by decide +kernel)) rfl
theorem q_689 : (Jvm.Cond.code ({ cls := "FirmStoreModel", name := "entryOf", desc := "(I)J" } : Jvm.MethodName) prog_7_method_27_code (2 : Nat) (Option.some Jvm.ClassFile.FieldType.long)) ∈ tbG := tbG_in (List.mem_of_getElem? (i := 749) (by decide +kernel)) rfl
theorem q_690 : (Jvm.Cond.methodLink "FirmStoreModel" (126 : Nat) ({ cls := "FirmStoreModel", name := "insert", desc := "(IJ)V" } : Jvm.MethodName)) ∈ tbG := tbG_in (List.mem_of_getElem? (i := 750) (by decide +kernel)) rfl
theorem q_692 : (Jvm.Cond.instanceMethod ({ cls := "FirmStoreModel", name := "insert", desc := "(IJ)V" } : Jvm.MethodName)) ∈ tbG := tbG_in (List.mem_of_getElem? (i := 752) (by decide +kernel)) rfl
theorem q_693 : (Jvm.Cond.code ({ cls := "FirmStoreModel", name := "insert", desc := "(IJ)V" } : Jvm.MethodName) prog_7_method_24_code (7 : Nat) (Option.none : Option Jvm.ClassFile.FieldType)) ∈ tbG := tbG_in (List.mem_of_getElem? (i := 753) (by decide +kernel)) rfl
theorem q_694 : (Jvm.Cond.methodLink "FirmStoreModel" (155 : Nat) ({ cls := "FirmStoreModel", name := "putTable", desc := "(II)I" } : Jvm.MethodName)) ∈ tbG := tbG_in (List.mem_of_getElem? (i := 754) (by decide +kernel)) rfl
theorem q_696 : (Jvm.Cond.instanceMethod ({ cls := "FirmStoreModel", name := "putTable", desc := "(II)I" } : Jvm.MethodName)) ∈ tbG := tbG_in (List.mem_of_getElem? (i := 756) (by decide +kernel)) rfl
theorem q_697 : (Jvm.Cond.code ({ cls := "FirmStoreModel", name := "putTable", desc := "(II)I" } : Jvm.MethodName) prog_7_method_33_code (6 : Nat) (Option.some Jvm.ClassFile.FieldType.int)) ∈ tbG := tbG_in (List.mem_of_getElem? (i := 757) (by decide +kernel)) rfl
theorem q_698 : (Jvm.Cond.methodLink "FirmStoreModel" (142 : Nat) ({ cls := "FirmStoreModel", name := "placeOf", desc := "(I)I" } : Jvm.MethodName)) ∈ tbG := tbG_in (List.mem_of_getElem? (i := 758) (by decide +kernel)) rfl
theorem q_700 : (Jvm.Cond.instanceMethod ({ cls := "FirmStoreModel", name := "placeOf", desc := "(I)I" } : Jvm.MethodName)) ∈ tbG := tbG_in (List.mem_of_getElem? (i := 760) (by decide +kernel)) rfl
theorem q_701 : (Jvm.Cond.code ({ cls := "FirmStoreModel", name := "placeOf", desc := "(I)I" } : Jvm.MethodName) prog_7_method_31_code (4 : Nat) (Option.some Jvm.ClassFile.FieldType.int)) ∈ tbG := tbG_in (List.mem_of_getElem? (i := 761) (by decide +kernel)) rfl
theorem q_702 : (Jvm.Cond.methodLink "FirmStoreModel" (145 : Nat) ({ cls := "FirmStoreModel", name := "gapOf", desc := "(I)I" } : Jvm.MethodName)) ∈ tbG := tbG_in (List.mem_of_getElem? (i := 762) (by decide +kernel)) rfl
theorem q_704 : (Jvm.Cond.instanceMethod ({ cls := "FirmStoreModel", name := "gapOf", desc := "(I)I" } : Jvm.MethodName)) ∈ tbG := tbG_in (List.mem_of_getElem? (i := 764) (by decide +kernel)) rfl
theorem q_705 : (Jvm.Cond.code ({ cls := "FirmStoreModel", name := "gapOf", desc := "(I)I" } : Jvm.MethodName) prog_7_method_32_code (4 : Nat) (Option.some Jvm.ClassFile.FieldType.int)) ∈ tbG := tbG_in (List.mem_of_getElem? (i := 765) (by decide +kernel)) rfl
theorem q_710 : (Jvm.Cond.methodLink "FirmStoreModel" (158 : Nat) ({ cls := "FirmStoreModel", name := "read", desc := "(II)I" } : Jvm.MethodName)) ∈ tbG := tbG_in (List.mem_of_getElem? (i := 770) (by decide +kernel)) rfl
theorem q_712 : (Jvm.Cond.instanceMethod ({ cls := "FirmStoreModel", name := "read", desc := "(II)I" } : Jvm.MethodName)) ∈ tbG := tbG_in (List.mem_of_getElem? (i := 772) (by decide +kernel)) rfl
theorem q_713 : (Jvm.Cond.code ({ cls := "FirmStoreModel", name := "read", desc := "(II)I" } : Jvm.MethodName) prog_7_method_36_code (5 : Nat) (Option.some Jvm.ClassFile.FieldType.int)) ∈ tbG := tbG_in (List.mem_of_getElem? (i := 773) (by decide +kernel)) rfl
theorem q_714 : (Jvm.Cond.methodLink "FirmStoreModel" (161 : Nat) ({ cls := "FirmStoreModel", name := "drop", desc := "(II)V" } : Jvm.MethodName)) ∈ tbG := tbG_in (List.mem_of_getElem? (i := 774) (by decide +kernel)) rfl
theorem q_716 : (Jvm.Cond.instanceMethod ({ cls := "FirmStoreModel", name := "drop", desc := "(II)V" } : Jvm.MethodName)) ∈ tbG := tbG_in (List.mem_of_getElem? (i := 776) (by decide +kernel)) rfl
theorem q_717 : (Jvm.Cond.code ({ cls := "FirmStoreModel", name := "drop", desc := "(II)V" } : Jvm.MethodName) prog_7_method_25_code (6 : Nat) (Option.none : Option Jvm.ClassFile.FieldType)) ∈ tbG := tbG_in (List.mem_of_getElem? (i := 777) (by decide +kernel)) rfl
theorem q_726 : (Jvm.Cond.methodLink "FirmStoreModel" (164 : Nat) ({ cls := "FirmStoreModel", name := "isRead", desc := "(II)Z" } : Jvm.MethodName)) ∈ tbG := tbG_in (List.mem_of_getElem? (i := 786) (by decide +kernel)) rfl
theorem q_728 : (Jvm.Cond.instanceMethod ({ cls := "FirmStoreModel", name := "isRead", desc := "(II)Z" } : Jvm.MethodName)) ∈ tbG := tbG_in (List.mem_of_getElem? (i := 788) (by decide +kernel)) rfl
theorem q_729 : (Jvm.Cond.code ({ cls := "FirmStoreModel", name := "isRead", desc := "(II)Z" } : Jvm.MethodName) prog_7_method_39_code (4 : Nat) (Option.some Jvm.ClassFile.FieldType.boolean)) ∈ tbG := tbG_in (List.mem_of_getElem? (i := 789) (by decide +kernel)) rfl
theorem q_738 : (Jvm.Cond.methodLink "FirmStoreModel" (177 : Nat) ({ cls := "FirmStoreModel", name := "repair", desc := "()V" } : Jvm.MethodName)) ∈ tbG := tbG_in (List.mem_of_getElem? (i := 798) (by decide +kernel)) rfl
theorem q_740 : (Jvm.Cond.instanceMethod ({ cls := "FirmStoreModel", name := "repair", desc := "()V" } : Jvm.MethodName)) ∈ tbG := tbG_in (List.mem_of_getElem? (i := 800) (by decide +kernel)) rfl
theorem q_741 : (Jvm.Cond.code ({ cls := "FirmStoreModel", name := "repair", desc := "()V" } : Jvm.MethodName) prog_7_method_45_code (3 : Nat) (Option.none : Option Jvm.ClassFile.FieldType)) ∈ tbG := tbG_in (List.mem_of_getElem? (i := 801) (by decide +kernel)) rfl
theorem q_742 : (Jvm.Cond.methodLink "FirmStoreModel" (167 : Nat) ({ cls := "FirmStoreModel", name := "firstAt", desc := "(I)I" } : Jvm.MethodName)) ∈ tbG := tbG_in (List.mem_of_getElem? (i := 802) (by decide +kernel)) rfl
theorem q_744 : (Jvm.Cond.instanceMethod ({ cls := "FirmStoreModel", name := "firstAt", desc := "(I)I" } : Jvm.MethodName)) ∈ tbG := tbG_in (List.mem_of_getElem? (i := 804) (by decide +kernel)) rfl
theorem q_745 : (Jvm.Cond.code ({ cls := "FirmStoreModel", name := "firstAt", desc := "(I)I" } : Jvm.MethodName) prog_7_method_42_code (3 : Nat) (Option.some Jvm.ClassFile.FieldType.int)) ∈ tbG := tbG_in (List.mem_of_getElem? (i := 805) (by decide +kernel)) rfl
theorem q_746 : (Jvm.Cond.methodLink "FirmStoreModel" (170 : Nat) ({ cls := "FirmStoreModel", name := "putRight", desc := "(I)V" } : Jvm.MethodName)) ∈ tbG := tbG_in (List.mem_of_getElem? (i := 806) (by decide +kernel)) rfl
theorem q_748 : (Jvm.Cond.instanceMethod ({ cls := "FirmStoreModel", name := "putRight", desc := "(I)V" } : Jvm.MethodName)) ∈ tbG := tbG_in (List.mem_of_getElem? (i := 808) (by decide +kernel)) rfl
theorem q_749 : (Jvm.Cond.code ({ cls := "FirmStoreModel", name := "putRight", desc := "(I)V" } : Jvm.MethodName) prog_7_method_43_code (7 : Nat) (Option.none : Option Jvm.ClassFile.FieldType)) ∈ tbG := tbG_in (List.mem_of_getElem? (i := 809) (by decide +kernel)) rfl
theorem q_750 : (Jvm.Cond.methodLink "FirmStoreModel" (174 : Nat) ({ cls := "FirmStoreModel", name := "isValue", desc := "(II)Z" } : Jvm.MethodName)) ∈ tbG := tbG_in (List.mem_of_getElem? (i := 810) (by decide +kernel)) rfl
theorem q_752 : (Jvm.Cond.instanceMethod ({ cls := "FirmStoreModel", name := "isValue", desc := "(II)Z" } : Jvm.MethodName)) ∈ tbG := tbG_in (List.mem_of_getElem? (i := 812) (by decide +kernel)) rfl
theorem q_753 : (Jvm.Cond.code ({ cls := "FirmStoreModel", name := "isValue", desc := "(II)Z" } : Jvm.MethodName) prog_7_method_44_code (6 : Nat) (Option.some Jvm.ClassFile.FieldType.boolean)) ∈ tbG := tbG_in (List.mem_of_getElem? (i := 813) (by decide +kernel)) rfl
theorem qs_0 : Jvm.Cond.selects "FirmStore$Tree" ({ cls := "FirmStore$Tree", name := "firstOf", desc := "(I)I" } : Jvm.MethodName) ({ cls := "FirmStore$Tree", name := "firstOf", desc := "(I)I" } : Jvm.MethodName) ∈ tbG := tbG_in (List.mem_of_getElem? (i := 0) (by decide +kernel)) rfl
theorem qs_1 : Jvm.Cond.selects "FirmStore$Tree" ({ cls := "FirmStore$Tree", name := "endOf", desc := "(I)I" } : Jvm.MethodName) ({ cls := "FirmStore$Tree", name := "endOf", desc := "(I)I" } : Jvm.MethodName) ∈ tbG := tbG_in (List.mem_of_getElem? (i := 1) (by decide +kernel)) rfl
theorem qs_2 : Jvm.Cond.selects "FirmStore$Tree" ({ cls := "FirmStore$Tree", name := "keyAt", desc := "(II)I" } : Jvm.MethodName) ({ cls := "FirmStore$Tree", name := "keyAt", desc := "(II)I" } : Jvm.MethodName) ∈ tbG := tbG_in (List.mem_of_getElem? (i := 2) (by decide +kernel)) rfl
theorem qs_3 : Jvm.Cond.selects "FirmStore$Table" ({ cls := "FirmStore$Table", name := "countEntries", desc := "(I)I" } : Jvm.MethodName) ({ cls := "FirmStore$Table", name := "countEntries", desc := "(I)I" } : Jvm.MethodName) ∈ tbG := tbG_in (List.mem_of_getElem? (i := 3) (by decide +kernel)) rfl
theorem qs_4 : Jvm.Cond.selects "FirmStore$Blocks" ({ cls := "FirmStore$Blocks", name := "freeSet", desc := "()I" } : Jvm.MethodName) ({ cls := "FirmStore$Blocks", name := "freeSet", desc := "()I" } : Jvm.MethodName) ∈ tbG := tbG_in (List.mem_of_getElem? (i := 4) (by decide +kernel)) rfl
theorem qs_6 : Jvm.Cond.selects "FirmStore$Tree" ({ cls := "FirmStore$Tree", name := "plant", desc := "(J)I" } : Jvm.MethodName) ({ cls := "FirmStore$Tree", name := "plant", desc := "(J)I" } : Jvm.MethodName) ∈ tbG := tbG_in (List.mem_of_getElem? (i := 6) (by decide +kernel)) rfl
theorem qs_7 : Jvm.Cond.selects "FirmStore$Memory" ({ cls := "FirmStore$Memory", name := "cutPower", desc := "()V" } : Jvm.MethodName) ({ cls := "FirmStore$Memory", name := "cutPower", desc := "()V" } : Jvm.MethodName) ∈ tbG := tbG_in (List.mem_of_getElem? (i := 7) (by decide +kernel)) rfl
theorem qs_8 : Jvm.Cond.selects "FirmStore$Tree" ({ cls := "FirmStore$Tree", name := "find", desc := "(II)I" } : Jvm.MethodName) ({ cls := "FirmStore$Tree", name := "find", desc := "(II)I" } : Jvm.MethodName) ∈ tbG := tbG_in (List.mem_of_getElem? (i := 8) (by decide +kernel)) rfl
theorem qs_9 : Jvm.Cond.selects "FirmStore$Tree" ({ cls := "FirmStore$Tree", name := "childFor", desc := "(II)I" } : Jvm.MethodName) ({ cls := "FirmStore$Tree", name := "childFor", desc := "(II)I" } : Jvm.MethodName) ∈ tbG := tbG_in (List.mem_of_getElem? (i := 9) (by decide +kernel)) rfl
theorem qs_10 : Jvm.Cond.selects "FirmStore$Tree" ({ cls := "FirmStore$Tree", name := "countLesser", desc := "(II)I" } : Jvm.MethodName) ({ cls := "FirmStore$Tree", name := "countLesser", desc := "(II)I" } : Jvm.MethodName) ∈ tbG := tbG_in (List.mem_of_getElem? (i := 10) (by decide +kernel)) rfl
theorem qs_11 : Jvm.Cond.selects "FirmStore$Tree" ({ cls := "FirmStore$Tree", name := "blocksToSplit", desc := "(I)I" } : Jvm.MethodName) ({ cls := "FirmStore$Tree", name := "blocksToSplit", desc := "(I)I" } : Jvm.MethodName) ∈ tbG := tbG_in (List.mem_of_getElem? (i := 11) (by decide +kernel)) rfl
theorem qs_12 : Jvm.Cond.selects "FirmStore$Tree" ({ cls := "FirmStore$Tree", name := "split", desc := "(I)I" } : Jvm.MethodName) ({ cls := "FirmStore$Tree", name := "split", desc := "(I)I" } : Jvm.MethodName) ∈ tbG := tbG_in (List.mem_of_getElem? (i := 12) (by decide +kernel)) rfl
theorem qs_13 : Jvm.Cond.selects "FirmStore$Tree" ({ cls := "FirmStore$Tree", name := "hang", desc := "(II)Z" } : Jvm.MethodName) ({ cls := "FirmStore$Tree", name := "hang", desc := "(II)Z" } : Jvm.MethodName) ∈ tbG := tbG_in (List.mem_of_getElem? (i := 13) (by decide +kernel)) rfl
theorem qs_14 : Jvm.Cond.selects "FirmStore$Tree" ({ cls := "FirmStore$Tree", name := "raise", desc := "(II)Z" } : Jvm.MethodName) ({ cls := "FirmStore$Tree", name := "raise", desc := "(II)Z" } : Jvm.MethodName) ∈ tbG := tbG_in (List.mem_of_getElem? (i := 14) (by decide +kernel)) rfl
theorem qs_15 : Jvm.Cond.selects "FirmStore$Tree" ({ cls := "FirmStore$Tree", name := "insert", desc := "(IJ)Z" } : Jvm.MethodName) ({ cls := "FirmStore$Tree", name := "insert", desc := "(IJ)Z" } : Jvm.MethodName) ∈ tbG := tbG_in (List.mem_of_getElem? (i := 15) (by decide +kernel)) rfl
theorem qs_16 : Jvm.Cond.selects "FirmStore$Table" ({ cls := "FirmStore$Table", name := "headOf", desc := "(I)I" } : Jvm.MethodName) ({ cls := "FirmStore$Table", name := "headOf", desc := "(I)I" } : Jvm.MethodName) ∈ tbG := tbG_in (List.mem_of_getElem? (i := 16) (by decide +kernel)) rfl
theorem qs_17 : Jvm.Cond.selects "FirmStore$Table" ({ cls := "FirmStore$Table", name := "seekInChain", desc := "(II)I" } : Jvm.MethodName) ({ cls := "FirmStore$Table", name := "seekInChain", desc := "(II)I" } : Jvm.MethodName) ∈ tbG := tbG_in (List.mem_of_getElem? (i := 17) (by decide +kernel)) rfl
theorem qs_19 : Jvm.Cond.selects "FirmStore$Tree" ({ cls := "FirmStore$Tree", name := "dropPlace", desc := "(II)Z" } : Jvm.MethodName) ({ cls := "FirmStore$Tree", name := "dropPlace", desc := "(II)Z" } : Jvm.MethodName) ∈ tbG := tbG_in (List.mem_of_getElem? (i := 19) (by decide +kernel)) rfl
theorem qs_20 : Jvm.Cond.selects "FirmStore$Tree" ({ cls := "FirmStore$Tree", name := "clearWrong", desc := "(I)Z" } : Jvm.MethodName) ({ cls := "FirmStore$Tree", name := "clearWrong", desc := "(I)Z" } : Jvm.MethodName) ∈ tbG := tbG_in (List.mem_of_getElem? (i := 20) (by decide +kernel)) rfl
theorem qs_21 : Jvm.Cond.selects "FirmStore$Tree" ({ cls := "FirmStore$Tree", name := "isWrong", desc := "(II)Z" } : Jvm.MethodName) ({ cls := "FirmStore$Tree", name := "isWrong", desc := "(II)Z" } : Jvm.MethodName) ∈ tbG := tbG_in (List.mem_of_getElem? (i := 21) (by decide +kernel)) rfl
theorem qs_22 : Jvm.Cond.selects "FirmStore$Tree" ({ cls := "FirmStore$Tree", name := "dropTwins", desc := "(I)Z" } : Jvm.MethodName) ({ cls := "FirmStore$Tree", name := "dropTwins", desc := "(I)Z" } : Jvm.MethodName) ∈ tbG := tbG_in (List.mem_of_getElem? (i := 22) (by decide +kernel)) rfl
theorem qs_23 : Jvm.Cond.selects "FirmStore$Tree" ({ cls := "FirmStore$Tree", name := "secondTwin", desc := "(I)I" } : Jvm.MethodName) ({ cls := "FirmStore$Tree", name := "secondTwin", desc := "(I)I" } : Jvm.MethodName) ∈ tbG := tbG_in (List.mem_of_getElem? (i := 23) (by decide +kernel)) rfl
theorem qs_24 : Jvm.Cond.selects "FirmStore$Tree" ({ cls := "FirmStore$Tree", name := "isHung", desc := "(II)Z" } : Jvm.MethodName) ({ cls := "FirmStore$Tree", name := "isHung", desc := "(II)Z" } : Jvm.MethodName) ∈ tbG := tbG_in (List.mem_of_getElem? (i := 24) (by decide +kernel)) rfl
theorem qs_25 : Jvm.Cond.selects "FirmStoreModel" ({ cls := "FirmStoreModel", name := "putTree", desc := "(II)I" } : Jvm.MethodName) ({ cls := "FirmStoreModel", name := "putTree", desc := "(II)I" } : Jvm.MethodName) ∈ tbG := tbG_in (List.mem_of_getElem? (i := 25) (by decide +kernel)) rfl
theorem qs_26 : Jvm.Cond.selects "FirmStoreModel" ({ cls := "FirmStoreModel", name := "root", desc := "()I" } : Jvm.MethodName) ({ cls := "FirmStoreModel", name := "root", desc := "()I" } : Jvm.MethodName) ∈ tbG := tbG_in (List.mem_of_getElem? (i := 26) (by decide +kernel)) rfl
theorem qs_27 : Jvm.Cond.selects "FirmStoreModel" ({ cls := "FirmStoreModel", name := "countFree", desc := "()I" } : Jvm.MethodName) ({ cls := "FirmStoreModel", name := "countFree", desc := "()I" } : Jvm.MethodName) ∈ tbG := tbG_in (List.mem_of_getElem? (i := 27) (by decide +kernel)) rfl
theorem qs_28 : Jvm.Cond.selects "FirmStoreModel" ({ cls := "FirmStoreModel", name := "mark", desc := "()V" } : Jvm.MethodName) ({ cls := "FirmStoreModel", name := "mark", desc := "()V" } : Jvm.MethodName) ∈ tbG := tbG_in (List.mem_of_getElem? (i := 28) (by decide +kernel)) rfl
theorem qs_29 : Jvm.Cond.selects "FirmStoreModel" ({ cls := "FirmStoreModel", name := "reach", desc := "(I)Z" } : Jvm.MethodName) ({ cls := "FirmStoreModel", name := "reach", desc := "(I)Z" } : Jvm.MethodName) ∈ tbG := tbG_in (List.mem_of_getElem? (i := 29) (by decide +kernel)) rfl
theorem qs_30 : Jvm.Cond.selects "FirmStoreModel" ({ cls := "FirmStoreModel", name := "next", desc := "(I)I" } : Jvm.MethodName) ({ cls := "FirmStoreModel", name := "next", desc := "(I)I" } : Jvm.MethodName) ∈ tbG := tbG_in (List.mem_of_getElem? (i := 30) (by decide +kernel)) rfl
theorem qs_31 : Jvm.Cond.selects "FirmStoreModel" ({ cls := "FirmStoreModel", name := "level", desc := "(I)I" } : Jvm.MethodName) ({ cls := "FirmStoreModel", name := "level", desc := "(I)I" } : Jvm.MethodName) ∈ tbG := tbG_in (List.mem_of_getElem? (i := 31) (by decide +kernel)) rfl
theorem qs_32 : Jvm.Cond.selects "FirmStoreModel" ({ cls := "FirmStoreModel", name := "length", desc := "(I)I" } : Jvm.MethodName) ({ cls := "FirmStoreModel", name := "length", desc := "(I)I" } : Jvm.MethodName) ∈ tbG := tbG_in (List.mem_of_getElem? (i := 32) (by decide +kernel)) rfl
theorem qs_33 : Jvm.Cond.selects "FirmStoreModel" ({ cls := "FirmStoreModel", name := "at", desc := "(II)J" } : Jvm.MethodName) ({ cls := "FirmStoreModel", name := "at", desc := "(II)J" } : Jvm.MethodName) ∈ tbG := tbG_in (List.mem_of_getElem? (i := 33) (by decide +kernel)) rfl
theorem qs_34 : Jvm.Cond.selects "FirmStoreModel" ({ cls := "FirmStoreModel", name := "blockAt", desc := "(II)I" } : Jvm.MethodName) ({ cls := "FirmStoreModel", name := "blockAt", desc := "(II)I" } : Jvm.MethodName) ∈ tbG := tbG_in (List.mem_of_getElem? (i := 34) (by decide +kernel)) rfl
theorem qs_35 : Jvm.Cond.selects "FirmStoreModel" ({ cls := "FirmStoreModel", name := "make", desc := "(IIIJJJ)I" } : Jvm.MethodName) ({ cls := "FirmStoreModel", name := "make", desc := "(IIIJJJ)I" } : Jvm.MethodName) ∈ tbG := tbG_in (List.mem_of_getElem? (i := 35) (by decide +kernel)) rfl
theorem qs_36 : Jvm.Cond.selects "FirmStoreModel" ({ cls := "FirmStoreModel", name := "store", desc := "(IJ)V" } : Jvm.MethodName) ({ cls := "FirmStoreModel", name := "store", desc := "(IJ)V" } : Jvm.MethodName) ∈ tbG := tbG_in (List.mem_of_getElem? (i := 36) (by decide +kernel)) rfl
theorem qs_37 : Jvm.Cond.selects "FirmStoreModel" ({ cls := "FirmStoreModel", name := "cutNow", desc := "()V" } : Jvm.MethodName) ({ cls := "FirmStoreModel", name := "cutNow", desc := "()V" } : Jvm.MethodName) ∈ tbG := tbG_in (List.mem_of_getElem? (i := 37) (by decide +kernel)) rfl
theorem qs_38 : Jvm.Cond.selects "FirmStoreModel" ({ cls := "FirmStoreModel", name := "fence", desc := "()V" } : Jvm.MethodName) ({ cls := "FirmStoreModel", name := "fence", desc := "()V" } : Jvm.MethodName) ∈ tbG := tbG_in (List.mem_of_getElem? (i := 38) (by decide +kernel)) rfl
theorem qs_39 : Jvm.Cond.selects "FirmStoreModel" ({ cls := "FirmStoreModel", name := "firm", desc := "(IJ)V" } : Jvm.MethodName) ({ cls := "FirmStoreModel", name := "firm", desc := "(IJ)V" } : Jvm.MethodName) ∈ tbG := tbG_in (List.mem_of_getElem? (i := 39) (by decide +kernel)) rfl
theorem qs_40 : Jvm.Cond.selects "FirmStoreModel" ({ cls := "FirmStoreModel", name := "find", desc := "(II)I" } : Jvm.MethodName) ({ cls := "FirmStoreModel", name := "find", desc := "(II)I" } : Jvm.MethodName) ∈ tbG := tbG_in (List.mem_of_getElem? (i := 40) (by decide +kernel)) rfl
theorem qs_41 : Jvm.Cond.selects "FirmStoreModel" ({ cls := "FirmStoreModel", name := "low", desc := "(I)I" } : Jvm.MethodName) ({ cls := "FirmStoreModel", name := "low", desc := "(I)I" } : Jvm.MethodName) ∈ tbG := tbG_in (List.mem_of_getElem? (i := 41) (by decide +kernel)) rfl
theorem qs_42 : Jvm.Cond.selects "FirmStoreModel" ({ cls := "FirmStoreModel", name := "below", desc := "(II)I" } : Jvm.MethodName) ({ cls := "FirmStoreModel", name := "below", desc := "(II)I" } : Jvm.MethodName) ∈ tbG := tbG_in (List.mem_of_getElem? (i := 42) (by decide +kernel)) rfl
theorem qs_43 : Jvm.Cond.selects "FirmStoreModel" ({ cls := "FirmStoreModel", name := "keyAt", desc := "(II)I" } : Jvm.MethodName) ({ cls := "FirmStoreModel", name := "keyAt", desc := "(II)I" } : Jvm.MethodName) ∈ tbG := tbG_in (List.mem_of_getElem? (i := 43) (by decide +kernel)) rfl
theorem qs_44 : Jvm.Cond.selects "FirmStoreModel" ({ cls := "FirmStoreModel", name := "placeIn", desc := "(II)I" } : Jvm.MethodName) ({ cls := "FirmStoreModel", name := "placeIn", desc := "(II)I" } : Jvm.MethodName) ∈ tbG := tbG_in (List.mem_of_getElem? (i := 44) (by decide +kernel)) rfl
theorem qs_45 : Jvm.Cond.selects "FirmStoreModel" ({ cls := "FirmStoreModel", name := "needed", desc := "(I)I" } : Jvm.MethodName) ({ cls := "FirmStoreModel", name := "needed", desc := "(I)I" } : Jvm.MethodName) ∈ tbG := tbG_in (List.mem_of_getElem? (i := 45) (by decide +kernel)) rfl
theorem qs_46 : Jvm.Cond.selects "FirmStoreModel" ({ cls := "FirmStoreModel", name := "split", desc := "(I)I" } : Jvm.MethodName) ({ cls := "FirmStoreModel", name := "split", desc := "(I)I" } : Jvm.MethodName) ∈ tbG := tbG_in (List.mem_of_getElem? (i := 46) (by decide +kernel)) rfl
theorem qs_47 : Jvm.Cond.selects "FirmStoreModel" ({ cls := "FirmStoreModel", name := "hang", desc := "(II)V" } : Jvm.MethodName) ({ cls := "FirmStoreModel", name := "hang", desc := "(II)V" } : Jvm.MethodName) ∈ tbG := tbG_in (List.mem_of_getElem? (i := 47) (by decide +kernel)) rfl
theorem qs_48 : Jvm.Cond.selects "FirmStoreModel" ({ cls := "FirmStoreModel", name := "entryOf", desc := "(I)J" } : Jvm.MethodName) ({ cls := "FirmStoreModel", name := "entryOf", desc := "(I)J" } : Jvm.MethodName) ∈ tbG := tbG_in (List.mem_of_getElem? (i := 48) (by decide +kernel)) rfl
theorem qs_49 : Jvm.Cond.selects "FirmStoreModel" ({ cls := "FirmStoreModel", name := "insert", desc := "(IJ)V" } : Jvm.MethodName) ({ cls := "FirmStoreModel", name := "insert", desc := "(IJ)V" } : Jvm.MethodName) ∈ tbG := tbG_in (List.mem_of_getElem? (i := 49) (by decide +kernel)) rfl
theorem qs_50 : Jvm.Cond.selects "FirmStoreModel" ({ cls := "FirmStoreModel", name := "putTable", desc := "(II)I" } : Jvm.MethodName) ({ cls := "FirmStoreModel", name := "putTable", desc := "(II)I" } : Jvm.MethodName) ∈ tbG := tbG_in (List.mem_of_getElem? (i := 50) (by decide +kernel)) rfl
theorem qs_51 : Jvm.Cond.selects "FirmStoreModel" ({ cls := "FirmStoreModel", name := "placeOf", desc := "(I)I" } : Jvm.MethodName) ({ cls := "FirmStoreModel", name := "placeOf", desc := "(I)I" } : Jvm.MethodName) ∈ tbG := tbG_in (List.mem_of_getElem? (i := 51) (by decide +kernel)) rfl
theorem qs_52 : Jvm.Cond.selects "FirmStoreModel" ({ cls := "FirmStoreModel", name := "gapOf", desc := "(I)I" } : Jvm.MethodName) ({ cls := "FirmStoreModel", name := "gapOf", desc := "(I)I" } : Jvm.MethodName) ∈ tbG := tbG_in (List.mem_of_getElem? (i := 52) (by decide +kernel)) rfl
theorem qs_53 : Jvm.Cond.selects "FirmStoreModel" ({ cls := "FirmStoreModel", name := "read", desc := "(II)I" } : Jvm.MethodName) ({ cls := "FirmStoreModel", name := "read", desc := "(II)I" } : Jvm.MethodName) ∈ tbG := tbG_in (List.mem_of_getElem? (i := 53) (by decide +kernel)) rfl
theorem qs_54 : Jvm.Cond.selects "FirmStoreModel" ({ cls := "FirmStoreModel", name := "drop", desc := "(II)V" } : Jvm.MethodName) ({ cls := "FirmStoreModel", name := "drop", desc := "(II)V" } : Jvm.MethodName) ∈ tbG := tbG_in (List.mem_of_getElem? (i := 54) (by decide +kernel)) rfl
theorem qs_55 : Jvm.Cond.selects "FirmStoreModel" ({ cls := "FirmStoreModel", name := "isRead", desc := "(II)Z" } : Jvm.MethodName) ({ cls := "FirmStoreModel", name := "isRead", desc := "(II)Z" } : Jvm.MethodName) ∈ tbG := tbG_in (List.mem_of_getElem? (i := 55) (by decide +kernel)) rfl
theorem qs_56 : Jvm.Cond.selects "FirmStoreModel" ({ cls := "FirmStoreModel", name := "repair", desc := "()V" } : Jvm.MethodName) ({ cls := "FirmStoreModel", name := "repair", desc := "()V" } : Jvm.MethodName) ∈ tbG := tbG_in (List.mem_of_getElem? (i := 56) (by decide +kernel)) rfl
theorem qs_57 : Jvm.Cond.selects "FirmStoreModel" ({ cls := "FirmStoreModel", name := "firstAt", desc := "(I)I" } : Jvm.MethodName) ({ cls := "FirmStoreModel", name := "firstAt", desc := "(I)I" } : Jvm.MethodName) ∈ tbG := tbG_in (List.mem_of_getElem? (i := 57) (by decide +kernel)) rfl
theorem qs_58 : Jvm.Cond.selects "FirmStoreModel" ({ cls := "FirmStoreModel", name := "putRight", desc := "(I)V" } : Jvm.MethodName) ({ cls := "FirmStoreModel", name := "putRight", desc := "(I)V" } : Jvm.MethodName) ∈ tbG := tbG_in (List.mem_of_getElem? (i := 58) (by decide +kernel)) rfl
theorem qs_59 : Jvm.Cond.selects "FirmStoreModel" ({ cls := "FirmStoreModel", name := "isValue", desc := "(II)Z" } : Jvm.MethodName) ({ cls := "FirmStoreModel", name := "isValue", desc := "(II)Z" } : Jvm.MethodName) ∈ tbG := tbG_in (List.mem_of_getElem? (i := 59) (by decide +kernel)) rfl
theorem iz_Firm : ∀ w ∈ u_ws "FirmStore" F_Firm 4, w ∈ tbG := by
  show ∀ w ∈ [(Jvm.Cond.laysFinal "FirmStore" "FirmStore" "memory" "LFirmStore$Memory;"), (Jvm.Cond.laysFinal "FirmStore" "FirmStore" "blocks" "LFirmStore$Blocks;"), (Jvm.Cond.laysFinal "FirmStore" "FirmStore" "tree" "LFirmStore$Tree;"), (Jvm.Cond.laysFinal "FirmStore" "FirmStore" "table" "LFirmStore$Table;")], w ∈ tbG
  exact List.forall_mem_cons.mpr ⟨q_97, List.forall_mem_cons.mpr ⟨q_99, List.forall_mem_cons.mpr ⟨q_101, List.forall_mem_cons.mpr ⟨q_103, fun _ h => absurd h List.not_mem_nil⟩⟩⟩⟩
theorem iz_Memory : ∀ w ∈ u_ws "FirmStore$Memory" F_Memory 8, w ∈ tbG := by
  show ∀ w ∈ [(Jvm.Cond.laysFinal "FirmStore$Memory" "FirmStore$Memory" "words" "[J"), (Jvm.Cond.laysFinal "FirmStore$Memory" "FirmStore$Memory" "looseAt" "[I"), (Jvm.Cond.laysFinal "FirmStore$Memory" "FirmStore$Memory" "firmWas" "[J"), (Jvm.Cond.lays "FirmStore$Memory" "FirmStore$Memory" "looseCount" "I"), (Jvm.Cond.lays "FirmStore$Memory" "FirmStore$Memory" "storesBeforeCut" "I"), (Jvm.Cond.lays "FirmStore$Memory" "FirmStore$Memory" "cutMask" "I"), (Jvm.Cond.lays "FirmStore$Memory" "FirmStore$Memory" "storeCount" "I"), (Jvm.Cond.lays "FirmStore$Memory" "FirmStore$Memory" "isDown" "Z")], w ∈ tbG
  exact List.forall_mem_cons.mpr ⟨q_38, List.forall_mem_cons.mpr ⟨q_40, List.forall_mem_cons.mpr ⟨q_42, List.forall_mem_cons.mpr ⟨q_44, List.forall_mem_cons.mpr ⟨q_46, List.forall_mem_cons.mpr ⟨q_48, List.forall_mem_cons.mpr ⟨q_50, List.forall_mem_cons.mpr ⟨q_52, fun _ h => absurd h List.not_mem_nil⟩⟩⟩⟩⟩⟩⟩⟩
theorem iz_Blocks : ∀ w ∈ u_ws "FirmStore$Blocks" F_Blocks 1, w ∈ tbG := by
  show ∀ w ∈ [(Jvm.Cond.laysFinal "FirmStore$Blocks" "FirmStore$Blocks" "memory" "LFirmStore$Memory;")], w ∈ tbG
  exact List.forall_mem_cons.mpr ⟨q_64, fun _ h => absurd h List.not_mem_nil⟩
theorem iz_Tree : ∀ w ∈ u_ws "FirmStore$Tree" F_Tree 2, w ∈ tbG := by
  show ∀ w ∈ [(Jvm.Cond.laysFinal "FirmStore$Tree" "FirmStore$Tree" "memory" "LFirmStore$Memory;"), (Jvm.Cond.laysFinal "FirmStore$Tree" "FirmStore$Tree" "blocks" "LFirmStore$Blocks;")], w ∈ tbG
  exact List.forall_mem_cons.mpr ⟨q_75, List.forall_mem_cons.mpr ⟨q_77, fun _ h => absurd h List.not_mem_nil⟩⟩
theorem iz_Table : ∀ w ∈ u_ws "FirmStore$Table" F_Table 2, w ∈ tbG := by
  show ∀ w ∈ [(Jvm.Cond.laysFinal "FirmStore$Table" "FirmStore$Table" "memory" "LFirmStore$Memory;"), (Jvm.Cond.laysFinal "FirmStore$Table" "FirmStore$Table" "blocks" "LFirmStore$Blocks;")], w ∈ tbG
  exact List.forall_mem_cons.mpr ⟨q_88, List.forall_mem_cons.mpr ⟨q_90, fun _ h => absurd h List.not_mem_nil⟩⟩
theorem iz_Ref : ∀ w ∈ u_ws "FirmStoreModel" F_Ref 12, w ∈ tbG := by
  show ∀ w ∈ [(Jvm.Cond.laysFinal "FirmStoreModel" "FirmStoreModel" "memory" "[J"), (Jvm.Cond.lays "FirmStoreModel" "FirmStoreModel" "loose" "I"), (Jvm.Cond.laysFinal "FirmStoreModel" "FirmStoreModel" "looseAt" "[I"), (Jvm.Cond.laysFinal "FirmStoreModel" "FirmStoreModel" "looseOld" "[J"), (Jvm.Cond.lays "FirmStoreModel" "FirmStoreModel" "cutAfter" "I"), (Jvm.Cond.lays "FirmStoreModel" "FirmStoreModel" "cutMask" "I"), (Jvm.Cond.lays "FirmStoreModel" "FirmStoreModel" "stores" "I"), (Jvm.Cond.lays "FirmStoreModel" "FirmStoreModel" "down" "Z"), (Jvm.Cond.lays "FirmStoreModel" "FirmStoreModel" "broken" "Z"), (Jvm.Cond.lays "FirmStoreModel" "FirmStoreModel" "code" "I"), (Jvm.Cond.laysFinal "FirmStoreModel" "FirmStoreModel" "reached" "[Z"), (Jvm.Cond.laysFinal "FirmStoreModel" "FirmStoreModel" "rising" "[I")], w ∈ tbG
  exact List.forall_mem_cons.mpr ⟨q_549, List.forall_mem_cons.mpr ⟨q_551, List.forall_mem_cons.mpr ⟨q_553, List.forall_mem_cons.mpr ⟨q_555, List.forall_mem_cons.mpr ⟨q_557, List.forall_mem_cons.mpr ⟨q_559, List.forall_mem_cons.mpr ⟨q_561, List.forall_mem_cons.mpr ⟨q_563, List.forall_mem_cons.mpr ⟨q_565, List.forall_mem_cons.mpr ⟨q_567, List.forall_mem_cons.mpr ⟨q_569, List.forall_mem_cons.mpr ⟨q_571, fun _ h => absurd h List.not_mem_nil⟩⟩⟩⟩⟩⟩⟩⟩⟩⟩⟩⟩
end
section
/-! models and contracts; written by wip/whole/gen.py -/
def m_Memory_wordAt (u : SM) (a1 : Int32) : Option (Int64 × SM) := if a1 < 0 then (some ((0 : Int64), u)) else (if (279 : Int32) ≤ a1 then (some ((0 : Int64), u)) else (if inb a1 279 = true then some (((cg_w u) a1.toNatClampNeg), u) else none))
def m_Memory_orderCut (u : SM) (a1 : Int32) (a2 : Int32) : Option (Unit × SM) := some ((), (cs_cm (cs_sb u a1) a2))
def m_Memory_cutPower_L2 : Nat → SM → Int32 → Option ((Unit × SM) ⊕ (SM))
  | 0, _, _ => none
  | n0 + 1, ua, x1 => if (cg_lc ua) ≤ x1 then (some (.inr ua)) else (if ((zIushr (cg_cm ua) x1) &&& (1 : Int32)) = 0 then (if inb x1 9 = true then if inb x1 9 = true then if inb ((cg_la ua) x1.toNatClampNeg) 279 = true then m_Memory_cutPower_L2 n0 (cs_w ua (vp_updL (cg_w ua) ((cg_la ua) x1.toNatClampNeg).toNatClampNeg ((cg_fw ua) x1.toNatClampNeg))) (x1 + (1 : Int32)) else none else none else none) else (m_Memory_cutPower_L2 n0 ua (x1 + (1 : Int32))))
def m_Memory_cutPower (u : SM)  : Option (Unit × SM) := ol0 (m_Memory_cutPower_L2 fz u (0 : Int32)) id (fun u1 => some ((), (cs_dn (cs_sb (cs_lc u1 (0 : Int32)) (-1 : Int32)) (1 : Int32))))
def m_Memory_store_J30 (ua : SM) (x1 : Int32) (x2 : Int64) : Option (Int32 × SM) := if x1 < 0 then (some ((1 : Int32), (cs_sc ua ((cg_sc ua) + (1 : Int32))))) else (if (279 : Int32) ≤ x1 then (some ((1 : Int32), (cs_sc ua ((cg_sc ua) + (1 : Int32))))) else (if (9 : Int32) ≤ (cg_lc ua) then (some ((1 : Int32), (cs_sc ua ((cg_sc ua) + (1 : Int32))))) else (if inb (cg_lc ua) 9 = true then if inb x1 279 = true then if inb (cg_lc ua) 9 = true then if inb x1 279 = true then some ((1 : Int32), (cs_sc (cs_w (cs_lc (cs_fw (cs_la ua (upd (cg_la ua) (cg_lc ua).toNatClampNeg x1)) (vp_updL (cg_fw ua) (cg_lc ua).toNatClampNeg ((cg_w ua) x1.toNatClampNeg))) ((cg_lc ua) + (1 : Int32))) (vp_updL (cg_w ua) x1.toNatClampNeg x2)) ((cg_sc ua) + (1 : Int32)))) else none else none else none else none)))
def m_Memory_store (u : SM) (a1 : Int32) (a2 : Int64) : Option (Int32 × SM) := if (cg_sb u) = 0 then (ob (m_Memory_cutPower u) (fun _ u2 => some ((0 : Int32), u2))) else (if (cg_sb u) ≤ 0 then (m_Memory_store_J30 u a1 a2) else (m_Memory_store_J30 (cs_sb u ((cg_sb u) - (1 : Int32))) a1 a2))
def m_Memory_fence (u : SM)  : Option (Unit × SM) := some ((), (cs_lc u (0 : Int32)))
def m_Memory_firmStore (u : SM) (a1 : Int32) (a2 : Int64) : Option (Int32 × SM) := ob (m_Memory_store u a1 a2) (fun r1 u2 => if r1 = 0 then (some ((0 : Int32), u2)) else (ob (m_Memory_fence u2) (fun _ u6 => some ((1 : Int32), u6))))
theorem d_Memory_wordAt_0 : decode b_Memory_wordAt 0 = .ok (.iload_n 1, 1) := by decide +kernel
theorem d_Memory_wordAt_1 : decode b_Memory_wordAt 1 = .ok (.ifCond .lt 19, 3) := by decide +kernel
theorem d_Memory_wordAt_4 : decode b_Memory_wordAt 4 = .ok (.iload_n 1, 1) := by decide +kernel
theorem d_Memory_wordAt_5 : decode b_Memory_wordAt 5 = .ok (.sipush 279, 3) := by decide +kernel
theorem d_Memory_wordAt_8 : decode b_Memory_wordAt 8 = .ok (.if_icmp .ge 12, 3) := by decide +kernel
theorem d_Memory_wordAt_11 : decode b_Memory_wordAt 11 = .ok (.aload_n 0, 1) := by decide +kernel
theorem d_Memory_wordAt_12 : decode b_Memory_wordAt 12 = .ok (.getfield 9, 3) := by decide +kernel
theorem d_Memory_wordAt_15 : decode b_Memory_wordAt 15 = .ok (.iload_n 1, 1) := by decide +kernel
theorem d_Memory_wordAt_16 : decode b_Memory_wordAt 16 = .ok (.laload, 1) := by decide +kernel
theorem d_Memory_wordAt_17 : decode b_Memory_wordAt 17 = .ok (.goto 4, 3) := by decide +kernel
theorem d_Memory_wordAt_20 : decode b_Memory_wordAt 20 = .ok (.lconst 0, 1) := by decide +kernel
theorem d_Memory_wordAt_21 : decode b_Memory_wordAt 21 = .ok (.lreturn, 1) := by decide +kernel
set_option maxRecDepth 100000 in
set_option maxHeartbeats 4000000 in
theorem k_Memory_wordAt (l : Launch) (D : va_G) (G : Nat → Nat) (Y : Nat → ClassId) {u : SM} {a1 : Int32} {r : Int64} {u' : SM} (hm : m_Memory_wordAt u a1 = some (r, u')) : KL l D clz (tyz Y) (wdC G Y) y_Memory_wordAt b_Memory_wordAt 2 (some .long) 0 0 [.ref (G 1), .int a1] u r u' := by
  refine mkL (by decide) (Nat.le_of_ble_eq_true rfl) ?_
  intro p e s m below meth c A Z ls C0 hP hD hS hl hret
  obtain ⟨hx, hb, hml, hown, hts, hK, hN, hA⟩ := id C0
  have hl : lv_has ls 2 [(0, .ref (G 1)), (1, .int a1)] := hl
  rw [m_Memory_wordAt] at hm
  refine lv_iload_n hx hb d_Memory_wordAt_0 rfl (lv_at hl 1 rfl) ?_
  refine lv_if_lt (tgt := 20) hx hb d_Memory_wordAt_1 (by decide) (fun hc => ?_) (fun hc => ?_)
  · rw [if_pos hc] at hm
    refine lv_lconst (v := (0 : Int64)) hx hb d_Memory_wordAt_20 (by decide) ?_
    exact hret _ _ _ _ (0 : Int64) u (Option.some.inj hm) hP hD hS d_Memory_wordAt_21
  · rw [if_neg hc] at hm
    refine lv_iload_n hx hb d_Memory_wordAt_4 rfl (lv_at hl 1 rfl) ?_
    refine lv_sipush (v := (279 : Int32)) hx hb d_Memory_wordAt_5 (by decide) ?_
    refine lv_icmp_ge (tgt := 20) hx hb d_Memory_wordAt_8 (by decide) (fun hc => ?_) (fun hc => ?_)
    · rw [if_pos hc] at hm
      refine lv_lconst (v := (0 : Int64)) hx hb d_Memory_wordAt_20 (by decide) ?_
      exact hret _ _ _ _ (0 : Int64) u (Option.some.inj hm) hP hD hS d_Memory_wordAt_21
    · rw [if_neg hc] at hm
      refine lv_aload_n hx hb d_Memory_wordAt_11 rfl (lv_at hl 0 rfl) ?_
      refine va_get (D := D) (ci := 1) (v := .ref (G 2)) (C := "FirmStore$Memory") (T := F_Memory) (N := 8) hx hb hts iz_Memory hown hK hP 1 rfl rfl 0 (by decide) (hts _ q_28) (fun _ h9 => h9) rfl d_Memory_wordAt_12 ?_
      refine lv_iload_n hx hb d_Memory_wordAt_15 rfl (lv_at hl 1 rfl) ?_
      obtain ⟨hg, hm⟩ := gd hm
      refine va_lald hx hb hK hP 2 0 (f := (cg_w u)) rfl rfl (inb_in hg) d_Memory_wordAt_16 ?_
      refine lv_goto (tgt := 21) hx hb d_Memory_wordAt_17 (by decide) ?_
      exact hret _ _ _ _ ((cg_w u) a1.toNatClampNeg) u (Option.some.inj hm) hP hD hS d_Memory_wordAt_21
theorem d_Memory_orderCut_0 : decode b_Memory_orderCut 0 = .ok (.aload_n 0, 1) := by decide +kernel
theorem d_Memory_orderCut_1 : decode b_Memory_orderCut 1 = .ok (.iload_n 1, 1) := by decide +kernel
theorem d_Memory_orderCut_2 : decode b_Memory_orderCut 2 = .ok (.putfield 24, 3) := by decide +kernel
theorem d_Memory_orderCut_5 : decode b_Memory_orderCut 5 = .ok (.aload_n 0, 1) := by decide +kernel
theorem d_Memory_orderCut_6 : decode b_Memory_orderCut 6 = .ok (.iload_n 2, 1) := by decide +kernel
theorem d_Memory_orderCut_7 : decode b_Memory_orderCut 7 = .ok (.putfield 27, 3) := by decide +kernel
theorem d_Memory_orderCut_10 : decode b_Memory_orderCut 10 = .ok (.return_, 1) := by decide +kernel
set_option maxRecDepth 100000 in
set_option maxHeartbeats 4000000 in
theorem k_Memory_orderCut (l : Launch) (D : va_G) (G : Nat → Nat) (Y : Nat → ClassId) {u : SM} {a1 : Int32} {a2 : Int32} {u' : SM} (hm : m_Memory_orderCut u a1 a2 = some ((), u')) : KV l D clz (tyz Y) (wdC G Y) y_Memory_orderCut b_Memory_orderCut 3 none 0 0 [.ref (G 1), .int a1, .int a2] u u' := by
  refine mkV (by decide) (Nat.le_of_ble_eq_true rfl) ?_
  intro p e s m below meth c A Z ls C0 hP hD hS hl hret
  obtain ⟨hx, hb, hml, hown, hts, hK, hN, hA⟩ := id C0
  have hl : lv_has ls 3 [(0, .ref (G 1)), (1, .int a1), (2, .int a2)] := hl
  rw [m_Memory_orderCut] at hm
  refine lv_aload_n hx hb d_Memory_orderCut_0 rfl (lv_at hl 0 rfl) ?_
  refine lv_iload_n hx hb d_Memory_orderCut_1 rfl (lv_at hl 1 rfl) ?_
  refine va_put (D := D) (ci := 1) (v := .int a1) (ty := .int) (C := "FirmStore$Memory") (T := F_Memory) (N := 8) hx hb hts iz_Memory t_Memory t_Memory_ok n_Memory hown hK hP hD hS 1 rfl rfl 4 (by decide) (hts _ q_32) (fun _ h9 => h9) rfl (by decide +kernel) rfl rfl (Nat.le_of_ble_eq_true rfl) d_Memory_orderCut_2 (fun H locs hP hD hS => ?_)
  have hP : va_P D clz (wdC G Y (cs_sb u a1)) H := hP
  have hD : va_D A (wdC G Y (cs_sb u a1)) := hD
  refine lv_aload_n hx hb d_Memory_orderCut_5 rfl (lv_at hl 0 rfl) ?_
  refine lv_iload_n hx hb d_Memory_orderCut_6 rfl (lv_at hl 2 rfl) ?_
  refine va_put (D := D) (ci := 1) (v := .int a2) (ty := .int) (C := "FirmStore$Memory") (T := F_Memory) (N := 8) hx hb hts iz_Memory t_Memory t_Memory_ok n_Memory hown hK hP hD hS 1 rfl rfl 5 (by decide) (hts _ q_33) (fun _ h9 => h9) rfl (by decide +kernel) rfl rfl (Nat.le_of_ble_eq_true rfl) d_Memory_orderCut_7 (fun H locs hP hD hS => ?_)
  have hP : va_P D clz (wdC G Y (cs_cm (cs_sb u a1) a2)) H := hP
  have hD : va_D A (wdC G Y (cs_cm (cs_sb u a1) a2)) := hD
  exact hret _ _ _ _ () (cs_cm (cs_sb u a1) a2) (Option.some.inj hm) hP hD hS d_Memory_orderCut_10
theorem d_Memory_cutPower_0 : decode b_Memory_cutPower 0 = .ok (.iconst 0, 1) := by decide +kernel
theorem d_Memory_cutPower_1 : decode b_Memory_cutPower 1 = .ok (.istore_n 1, 1) := by decide +kernel
theorem d_Memory_cutPower_2 : decode b_Memory_cutPower 2 = .ok (.iload_n 1, 1) := by decide +kernel
theorem d_Memory_cutPower_3 : decode b_Memory_cutPower 3 = .ok (.aload_n 0, 1) := by decide +kernel
theorem d_Memory_cutPower_4 : decode b_Memory_cutPower 4 = .ok (.getfield 20, 3) := by decide +kernel
theorem d_Memory_cutPower_7 : decode b_Memory_cutPower 7 = .ok (.if_icmp .ge 37, 3) := by decide +kernel
theorem d_Memory_cutPower_10 : decode b_Memory_cutPower 10 = .ok (.aload_n 0, 1) := by decide +kernel
theorem d_Memory_cutPower_11 : decode b_Memory_cutPower 11 = .ok (.getfield 27, 3) := by decide +kernel
theorem d_Memory_cutPower_14 : decode b_Memory_cutPower 14 = .ok (.iload_n 1, 1) := by decide +kernel
theorem d_Memory_cutPower_15 : decode b_Memory_cutPower 15 = .ok (.iushr, 1) := by decide +kernel
theorem d_Memory_cutPower_16 : decode b_Memory_cutPower 16 = .ok (.iconst 1, 1) := by decide +kernel
theorem d_Memory_cutPower_17 : decode b_Memory_cutPower 17 = .ok (.iand, 1) := by decide +kernel
theorem d_Memory_cutPower_18 : decode b_Memory_cutPower 18 = .ok (.ifCond .ne 20, 3) := by decide +kernel
theorem d_Memory_cutPower_21 : decode b_Memory_cutPower 21 = .ok (.aload_n 0, 1) := by decide +kernel
theorem d_Memory_cutPower_22 : decode b_Memory_cutPower 22 = .ok (.getfield 9, 3) := by decide +kernel
theorem d_Memory_cutPower_25 : decode b_Memory_cutPower 25 = .ok (.aload_n 0, 1) := by decide +kernel
theorem d_Memory_cutPower_26 : decode b_Memory_cutPower 26 = .ok (.getfield 13, 3) := by decide +kernel
theorem d_Memory_cutPower_29 : decode b_Memory_cutPower 29 = .ok (.iload_n 1, 1) := by decide +kernel
theorem d_Memory_cutPower_30 : decode b_Memory_cutPower 30 = .ok (.iaload, 1) := by decide +kernel
theorem d_Memory_cutPower_31 : decode b_Memory_cutPower 31 = .ok (.aload_n 0, 1) := by decide +kernel
theorem d_Memory_cutPower_32 : decode b_Memory_cutPower 32 = .ok (.getfield 17, 3) := by decide +kernel
theorem d_Memory_cutPower_35 : decode b_Memory_cutPower 35 = .ok (.iload_n 1, 1) := by decide +kernel
theorem d_Memory_cutPower_36 : decode b_Memory_cutPower 36 = .ok (.laload, 1) := by decide +kernel
theorem d_Memory_cutPower_37 : decode b_Memory_cutPower 37 = .ok (.lastore, 1) := by decide +kernel
theorem d_Memory_cutPower_38 : decode b_Memory_cutPower 38 = .ok (.iinc 1 1, 3) := by decide +kernel
theorem d_Memory_cutPower_41 : decode b_Memory_cutPower 41 = .ok (.goto (-39), 3) := by decide +kernel
theorem d_Memory_cutPower_44 : decode b_Memory_cutPower 44 = .ok (.aload_n 0, 1) := by decide +kernel
theorem d_Memory_cutPower_45 : decode b_Memory_cutPower 45 = .ok (.iconst 0, 1) := by decide +kernel
theorem d_Memory_cutPower_46 : decode b_Memory_cutPower 46 = .ok (.putfield 20, 3) := by decide +kernel
theorem d_Memory_cutPower_49 : decode b_Memory_cutPower 49 = .ok (.aload_n 0, 1) := by decide +kernel
theorem d_Memory_cutPower_50 : decode b_Memory_cutPower 50 = .ok (.iconst (-1), 1) := by decide +kernel
theorem d_Memory_cutPower_51 : decode b_Memory_cutPower 51 = .ok (.putfield 24, 3) := by decide +kernel
theorem d_Memory_cutPower_54 : decode b_Memory_cutPower 54 = .ok (.aload_n 0, 1) := by decide +kernel
theorem d_Memory_cutPower_55 : decode b_Memory_cutPower 55 = .ok (.iconst 1, 1) := by decide +kernel
theorem d_Memory_cutPower_56 : decode b_Memory_cutPower 56 = .ok (.putfield 33, 3) := by decide +kernel
theorem d_Memory_cutPower_59 : decode b_Memory_cutPower 59 = .ok (.return_, 1) := by decide +kernel
set_option maxRecDepth 100000 in
set_option maxHeartbeats 4000000 in
theorem k_Memory_cutPower (l : Launch) (D : va_G) (G : Nat → Nat) (Y : Nat → ClassId) {u : SM}  {u' : SM} (hm : m_Memory_cutPower u  = some ((), u')) : KV l D clz (tyz Y) (wdC G Y) y_Memory_cutPower b_Memory_cutPower 2 none 0 0 [.ref (G 1)] u u' := by
  refine mkV (by decide) (Nat.le_of_ble_eq_true rfl) ?_
  intro p e s m below meth c A Z ls C0 hP hD hS hl hret
  obtain ⟨hx, hb, hml, hown, hts, hK, hN, hA⟩ := id C0
  have hl : lv_has ls 2 [(0, .ref (G 1))] := hl
  have L2 : ∀  (o : (Unit × SM) ⊕ (SM)) (kr : ∀ z, o = .inl z → z = ((), u')) (kx : ∀  (ub : SM), o = .inr ub → ∀ (H : Heap) (locs : List Loc) (ls : Array Slot), va_P D clz (wdC G Y ub) H → va_D A (wdC G Y ub) → va_S A s.heap H locs → lv_has ls 2 [(0, .ref (G 1))] → W p l e (zRm 0 0) s m ([.ref (G 1)] : List Value).toArray below meth c H locs 0 0 Z (F0 m 44 ls [])) (n0 : Nat) (ua : SM) (x1 : Int32), m_Memory_cutPower_L2 n0 ua x1 = some o → ∀ (H : Heap) (locs : List Loc) (ls : Array Slot), va_P D clz (wdC G Y ua) H → va_D A (wdC G Y ua) → va_S A s.heap H locs → lv_has ls 2 [(0, .ref (G 1)), (1, .int x1)] → W p l e (zRm 0 0) s m ([.ref (G 1)] : List Value).toArray below meth c H locs 0 0 Z (F0 m 2 ls []) := by
    intro  o kr kx n0
    induction n0 with
    | zero => intro ua x1 hm; rw [m_Memory_cutPower_L2] at hm; cases hm
    | succ n0 ih =>
      intro ua x1 hm H locs ls hP hD hS hl
      rw [m_Memory_cutPower_L2] at hm
      refine lv_iload_n hx hb d_Memory_cutPower_2 rfl (lv_at hl 1 rfl) ?_
      refine lv_aload_n hx hb d_Memory_cutPower_3 rfl (lv_at hl 0 rfl) ?_
      refine va_get (D := D) (ci := 1) (v := .int (cg_lc ua)) (C := "FirmStore$Memory") (T := F_Memory) (N := 8) hx hb hts iz_Memory hown hK hP 1 rfl rfl 3 (by decide) (hts _ q_31) (fun _ h9 => h9) rfl d_Memory_cutPower_4 ?_
      refine lv_icmp_ge (tgt := 44) hx hb d_Memory_cutPower_7 (by decide) (fun hc => ?_) (fun hc => ?_)
      · rw [if_pos hc] at hm
        exact kx  ua (Option.some.inj hm).symm _ _ _ hP hD hS (lv_sub hl [0] rfl)
      · rw [if_neg hc] at hm
        refine lv_aload_n hx hb d_Memory_cutPower_10 rfl (lv_at hl 0 rfl) ?_
        refine va_get (D := D) (ci := 1) (v := .int (cg_cm ua)) (C := "FirmStore$Memory") (T := F_Memory) (N := 8) hx hb hts iz_Memory hown hK hP 1 rfl rfl 5 (by decide) (hts _ q_33) (fun _ h9 => h9) rfl d_Memory_cutPower_11 ?_
        refine lv_iload_n hx hb d_Memory_cutPower_14 rfl (lv_at hl 1 rfl) ?_
        refine lv_iushr (v := (zIushr (cg_cm ua) x1)) hx hb d_Memory_cutPower_15 rfl ?_
        refine lv_iconst (v := (1 : Int32)) hx hb d_Memory_cutPower_16 (by decide) ?_
        refine lv_iand hx hb d_Memory_cutPower_17 ?_
        refine lv_if_ne (tgt := 38) hx hb d_Memory_cutPower_18 (by decide) (fun hc => ?_) (fun hc => ?_)
        · rw [if_neg hc] at hm
          refine lv_iinc (v := (x1 + (1 : Int32))) (lv' := [(1, .int (x1 + (1 : Int32))), (0, .ref (G 1))]) hx hb d_Memory_cutPower_38 hl (k := 1) rfl rfl (by decide) rfl (fun ls hl => ?_)
          refine lv_goto (tgt := 2) hx hb d_Memory_cutPower_41 (by decide) ?_
          exact ih ua (x1 + (1 : Int32)) hm _ _ _ hP hD hS (lv_sub hl [1, 0] rfl)
        · rw [if_pos hc] at hm
          refine lv_aload_n hx hb d_Memory_cutPower_21 rfl (lv_at hl 0 rfl) ?_
          refine va_get (D := D) (ci := 1) (v := .ref (G 2)) (C := "FirmStore$Memory") (T := F_Memory) (N := 8) hx hb hts iz_Memory hown hK hP 1 rfl rfl 0 (by decide) (hts _ q_28) (fun _ h9 => h9) rfl d_Memory_cutPower_22 ?_
          refine lv_aload_n hx hb d_Memory_cutPower_25 rfl (lv_at hl 0 rfl) ?_
          refine va_get (D := D) (ci := 1) (v := .ref (G 3)) (C := "FirmStore$Memory") (T := F_Memory) (N := 8) hx hb hts iz_Memory hown hK hP 1 rfl rfl 1 (by decide) (hts _ q_29) (fun _ h9 => h9) rfl d_Memory_cutPower_26 ?_
          refine lv_iload_n hx hb d_Memory_cutPower_29 rfl (lv_at hl 1 rfl) ?_
          obtain ⟨hg, hm⟩ := gd hm
          refine va_iald hx hb hK hP 3 1 (f := (cg_la ua)) rfl rfl (inb_in hg) d_Memory_cutPower_30 ?_
          refine lv_aload_n hx hb d_Memory_cutPower_31 rfl (lv_at hl 0 rfl) ?_
          refine va_get (D := D) (ci := 1) (v := .ref (G 4)) (C := "FirmStore$Memory") (T := F_Memory) (N := 8) hx hb hts iz_Memory hown hK hP 1 rfl rfl 2 (by decide) (hts _ q_30) (fun _ h9 => h9) rfl d_Memory_cutPower_32 ?_
          refine lv_iload_n hx hb d_Memory_cutPower_35 rfl (lv_at hl 1 rfl) ?_
          obtain ⟨hg, hm⟩ := gd hm
          refine va_lald hx hb hK hP 4 0 (f := (cg_fw ua)) rfl rfl (inb_in hg) d_Memory_cutPower_36 ?_
          obtain ⟨hg, hm⟩ := gd hm
          refine va_last hx hb hK hP hD hS 2 0 (f := (cg_w ua)) rfl rfl (inb_in hg) d_Memory_cutPower_37 (fun H locs hP hD hS => ?_)
          have hP : va_P D clz (wdC G Y (cs_w ua (vp_updL (cg_w ua) ((cg_la ua) x1.toNatClampNeg).toNatClampNeg ((cg_fw ua) x1.toNatClampNeg)))) H := hP
          have hD : va_D A (wdC G Y (cs_w ua (vp_updL (cg_w ua) ((cg_la ua) x1.toNatClampNeg).toNatClampNeg ((cg_fw ua) x1.toNatClampNeg)))) := hD
          refine lv_iinc (v := (x1 + (1 : Int32))) (lv' := [(1, .int (x1 + (1 : Int32))), (0, .ref (G 1))]) hx hb d_Memory_cutPower_38 hl (k := 1) rfl rfl (by decide) rfl (fun ls hl => ?_)
          refine lv_goto (tgt := 2) hx hb d_Memory_cutPower_41 (by decide) ?_
          exact ih (cs_w ua (vp_updL (cg_w ua) ((cg_la ua) x1.toNatClampNeg).toNatClampNeg ((cg_fw ua) x1.toNatClampNeg))) (x1 + (1 : Int32)) hm _ _ _ hP hD hS (lv_sub hl [1, 0] rfl)
  rw [m_Memory_cutPower] at hm
  refine lv_iconst (v := (0 : Int32)) hx hb d_Memory_cutPower_0 (by decide) ?_
  refine lv_istore_n (lv' := [(1, .int (0 : Int32)), (0, .ref (G 1))]) hx hb d_Memory_cutPower_1 rfl hl (by decide) rfl (fun ls hl => ?_)
  obtain ⟨qq, hq, hi, ho⟩ := ol0_some hm
  refine L2  qq (fun z hz => hi z hz) (fun  u1 hz H locs ls hP hD hS hl => ?_) fz u (0 : Int32) hq _ _ _ hP hD hS (lv_sub hl [1, 0] rfl)
  have hm := ho  u1 hz
  refine lv_aload_n hx hb d_Memory_cutPower_44 rfl (lv_at hl 0 rfl) ?_
  refine lv_iconst (v := (0 : Int32)) hx hb d_Memory_cutPower_45 (by decide) ?_
  refine va_put (D := D) (ci := 1) (v := .int (0 : Int32)) (ty := .int) (C := "FirmStore$Memory") (T := F_Memory) (N := 8) hx hb hts iz_Memory t_Memory t_Memory_ok n_Memory hown hK hP hD hS 1 rfl rfl 3 (by decide) (hts _ q_31) (fun _ h9 => h9) rfl (by decide +kernel) rfl rfl (Nat.le_of_ble_eq_true rfl) d_Memory_cutPower_46 (fun H locs hP hD hS => ?_)
  have hP : va_P D clz (wdC G Y (cs_lc u1 (0 : Int32))) H := hP
  have hD : va_D A (wdC G Y (cs_lc u1 (0 : Int32))) := hD
  refine lv_aload_n hx hb d_Memory_cutPower_49 rfl (lv_at hl 0 rfl) ?_
  refine lv_iconst (v := (-1 : Int32)) hx hb d_Memory_cutPower_50 (by decide) ?_
  refine va_put (D := D) (ci := 1) (v := .int (-1 : Int32)) (ty := .int) (C := "FirmStore$Memory") (T := F_Memory) (N := 8) hx hb hts iz_Memory t_Memory t_Memory_ok n_Memory hown hK hP hD hS 1 rfl rfl 4 (by decide) (hts _ q_32) (fun _ h9 => h9) rfl (by decide +kernel) rfl rfl (Nat.le_of_ble_eq_true rfl) d_Memory_cutPower_51 (fun H locs hP hD hS => ?_)
  have hP : va_P D clz (wdC G Y (cs_sb (cs_lc u1 (0 : Int32)) (-1 : Int32))) H := hP
  have hD : va_D A (wdC G Y (cs_sb (cs_lc u1 (0 : Int32)) (-1 : Int32))) := hD
  refine lv_aload_n hx hb d_Memory_cutPower_54 rfl (lv_at hl 0 rfl) ?_
  refine lv_iconst (v := (1 : Int32)) hx hb d_Memory_cutPower_55 (by decide) ?_
  refine va_put (D := D) (ci := 1) (v := .int (1 : Int32)) (ty := .boolean) (C := "FirmStore$Memory") (T := F_Memory) (N := 8) hx hb hts iz_Memory t_Memory t_Memory_ok n_Memory hown hK hP hD hS 1 rfl rfl 7 (by decide) (hts _ q_36) (fun _ h9 => h9) rfl (by decide +kernel) (nz (Or.inr rfl)) (by decide) (Nat.le_of_ble_eq_true rfl) d_Memory_cutPower_56 (fun H locs hP hD hS => ?_)
  have hP : va_P D clz (wdC G Y (cs_dn (cs_sb (cs_lc u1 (0 : Int32)) (-1 : Int32)) (1 : Int32))) H := hP
  have hD : va_D A (wdC G Y (cs_dn (cs_sb (cs_lc u1 (0 : Int32)) (-1 : Int32)) (1 : Int32))) := hD
  exact hret _ _ _ _ () (cs_dn (cs_sb (cs_lc u1 (0 : Int32)) (-1 : Int32)) (1 : Int32)) (Option.some.inj hm) hP hD hS d_Memory_cutPower_59
theorem d_Memory_store_0 : decode b_Memory_store 0 = .ok (.aload_n 0, 1) := by decide +kernel
theorem d_Memory_store_1 : decode b_Memory_store 1 = .ok (.getfield 24, 3) := by decide +kernel
theorem d_Memory_store_4 : decode b_Memory_store 4 = .ok (.ifCond .ne 9, 3) := by decide +kernel
theorem d_Memory_store_7 : decode b_Memory_store 7 = .ok (.aload_n 0, 1) := by decide +kernel
theorem d_Memory_store_8 : decode b_Memory_store 8 = .ok (.invokevirtual 37, 3) := by decide +kernel
theorem d_Memory_store_11 : decode b_Memory_store 11 = .ok (.iconst 0, 1) := by decide +kernel
theorem d_Memory_store_12 : decode b_Memory_store 12 = .ok (.ireturn, 1) := by decide +kernel
theorem d_Memory_store_13 : decode b_Memory_store 13 = .ok (.aload_n 0, 1) := by decide +kernel
theorem d_Memory_store_14 : decode b_Memory_store 14 = .ok (.getfield 24, 3) := by decide +kernel
theorem d_Memory_store_17 : decode b_Memory_store 17 = .ok (.ifCond .le 13, 3) := by decide +kernel
theorem d_Memory_store_20 : decode b_Memory_store 20 = .ok (.aload_n 0, 1) := by decide +kernel
theorem d_Memory_store_21 : decode b_Memory_store 21 = .ok (.dup, 1) := by decide +kernel
theorem d_Memory_store_22 : decode b_Memory_store 22 = .ok (.getfield 24, 3) := by decide +kernel
theorem d_Memory_store_25 : decode b_Memory_store 25 = .ok (.iconst 1, 1) := by decide +kernel
theorem d_Memory_store_26 : decode b_Memory_store 26 = .ok (.isub, 1) := by decide +kernel
theorem d_Memory_store_27 : decode b_Memory_store 27 = .ok (.putfield 24, 3) := by decide +kernel
theorem d_Memory_store_30 : decode b_Memory_store 30 = .ok (.iload_n 1, 1) := by decide +kernel
theorem d_Memory_store_31 : decode b_Memory_store 31 = .ok (.ifCond .lt 61, 3) := by decide +kernel
theorem d_Memory_store_34 : decode b_Memory_store 34 = .ok (.iload_n 1, 1) := by decide +kernel
theorem d_Memory_store_35 : decode b_Memory_store 35 = .ok (.sipush 279, 3) := by decide +kernel
theorem d_Memory_store_38 : decode b_Memory_store 38 = .ok (.if_icmp .ge 54, 3) := by decide +kernel
theorem d_Memory_store_41 : decode b_Memory_store 41 = .ok (.aload_n 0, 1) := by decide +kernel
theorem d_Memory_store_42 : decode b_Memory_store 42 = .ok (.getfield 20, 3) := by decide +kernel
theorem d_Memory_store_45 : decode b_Memory_store 45 = .ok (.bipush 9, 2) := by decide +kernel
theorem d_Memory_store_47 : decode b_Memory_store 47 = .ok (.if_icmp .ge 45, 3) := by decide +kernel
theorem d_Memory_store_50 : decode b_Memory_store 50 = .ok (.aload_n 0, 1) := by decide +kernel
theorem d_Memory_store_51 : decode b_Memory_store 51 = .ok (.getfield 13, 3) := by decide +kernel
theorem d_Memory_store_54 : decode b_Memory_store 54 = .ok (.aload_n 0, 1) := by decide +kernel
theorem d_Memory_store_55 : decode b_Memory_store 55 = .ok (.getfield 20, 3) := by decide +kernel
theorem d_Memory_store_58 : decode b_Memory_store 58 = .ok (.iload_n 1, 1) := by decide +kernel
theorem d_Memory_store_59 : decode b_Memory_store 59 = .ok (.iastore, 1) := by decide +kernel
theorem d_Memory_store_60 : decode b_Memory_store 60 = .ok (.aload_n 0, 1) := by decide +kernel
theorem d_Memory_store_61 : decode b_Memory_store 61 = .ok (.getfield 17, 3) := by decide +kernel
theorem d_Memory_store_64 : decode b_Memory_store 64 = .ok (.aload_n 0, 1) := by decide +kernel
theorem d_Memory_store_65 : decode b_Memory_store 65 = .ok (.getfield 20, 3) := by decide +kernel
theorem d_Memory_store_68 : decode b_Memory_store 68 = .ok (.aload_n 0, 1) := by decide +kernel
theorem d_Memory_store_69 : decode b_Memory_store 69 = .ok (.getfield 9, 3) := by decide +kernel
theorem d_Memory_store_72 : decode b_Memory_store 72 = .ok (.iload_n 1, 1) := by decide +kernel
theorem d_Memory_store_73 : decode b_Memory_store 73 = .ok (.laload, 1) := by decide +kernel
theorem d_Memory_store_74 : decode b_Memory_store 74 = .ok (.lastore, 1) := by decide +kernel
theorem d_Memory_store_75 : decode b_Memory_store 75 = .ok (.aload_n 0, 1) := by decide +kernel
theorem d_Memory_store_76 : decode b_Memory_store 76 = .ok (.dup, 1) := by decide +kernel
theorem d_Memory_store_77 : decode b_Memory_store 77 = .ok (.getfield 20, 3) := by decide +kernel
theorem d_Memory_store_80 : decode b_Memory_store 80 = .ok (.iconst 1, 1) := by decide +kernel
theorem d_Memory_store_81 : decode b_Memory_store 81 = .ok (.iadd, 1) := by decide +kernel
theorem d_Memory_store_82 : decode b_Memory_store 82 = .ok (.putfield 20, 3) := by decide +kernel
theorem d_Memory_store_85 : decode b_Memory_store 85 = .ok (.aload_n 0, 1) := by decide +kernel
theorem d_Memory_store_86 : decode b_Memory_store 86 = .ok (.getfield 9, 3) := by decide +kernel
theorem d_Memory_store_89 : decode b_Memory_store 89 = .ok (.iload_n 1, 1) := by decide +kernel
theorem d_Memory_store_90 : decode b_Memory_store 90 = .ok (.lload_n 2, 1) := by decide +kernel
theorem d_Memory_store_91 : decode b_Memory_store 91 = .ok (.lastore, 1) := by decide +kernel
theorem d_Memory_store_92 : decode b_Memory_store 92 = .ok (.aload_n 0, 1) := by decide +kernel
theorem d_Memory_store_93 : decode b_Memory_store 93 = .ok (.dup, 1) := by decide +kernel
theorem d_Memory_store_94 : decode b_Memory_store 94 = .ok (.getfield 30, 3) := by decide +kernel
theorem d_Memory_store_97 : decode b_Memory_store 97 = .ok (.iconst 1, 1) := by decide +kernel
theorem d_Memory_store_98 : decode b_Memory_store 98 = .ok (.iadd, 1) := by decide +kernel
theorem d_Memory_store_99 : decode b_Memory_store 99 = .ok (.putfield 30, 3) := by decide +kernel
theorem d_Memory_store_102 : decode b_Memory_store 102 = .ok (.iconst 1, 1) := by decide +kernel
theorem d_Memory_store_103 : decode b_Memory_store 103 = .ok (.ireturn, 1) := by decide +kernel
set_option maxRecDepth 100000 in
set_option maxHeartbeats 4000000 in
theorem k_Memory_store (l : Launch) (D : va_G) (G : Nat → Nat) (Y : Nat → ClassId) {u : SM} {a1 : Int32} {a2 : Int64} {r : Int32} {u' : SM} (hm : m_Memory_store u a1 a2 = some (r, u')) : KZ l D clz (tyz Y) (wdC G Y) y_Memory_store b_Memory_store 4 (some .boolean) 1 21 [.ref (G 1), .int a1, .long a2] u r u' := by
  refine mkZ (by decide) (Nat.le_of_ble_eq_true rfl) ?_
  intro p e s m below meth c A Z ls C0 hP hD hS hl hret
  obtain ⟨hx, hb, hml, hown, hts, hK, hN, hA⟩ := id C0
  have hl : lv_has ls 4 [(0, .ref (G 1)), (1, .int a1), (2, .long a2)] := hl
  have J30 : ∀ (ua : SM) (x1 : Int32) (x2 : Int64), m_Memory_store_J30 ua x1 x2 = some (r, u') → ∀ (H : Heap) (locs : List Loc) (ls : Array Slot), va_P D clz (wdC G Y ua) H → va_D A (wdC G Y ua) → va_S A s.heap H locs → lv_has ls 4 [(0, .ref (G 1)), (1, .int x1), (2, .long x2)] → W p l e (zRm 1 21) s m ([.ref (G 1), .int a1, .long a2] : List Value).toArray below meth c H locs 0 0 Z (F0 m 30 ls []) := by
    intro ua x1 x2 hm H locs ls hP hD hS hl
    rw [m_Memory_store_J30] at hm
    refine lv_iload_n hx hb d_Memory_store_30 rfl (lv_at hl 1 rfl) ?_
    refine lv_if_lt (tgt := 92) hx hb d_Memory_store_31 (by decide) (fun hc => ?_) (fun hc => ?_)
    · rw [if_pos hc] at hm
      refine lv_aload_n hx hb d_Memory_store_92 rfl (lv_at hl 0 rfl) ?_
      refine lv_dup hx hb d_Memory_store_93 rfl ?_
      refine va_get (D := D) (ci := 1) (v := .int (cg_sc ua)) (C := "FirmStore$Memory") (T := F_Memory) (N := 8) hx hb hts iz_Memory hown hK hP 1 rfl rfl 6 (by decide) (hts _ q_34) (fun _ h9 => h9) rfl d_Memory_store_94 ?_
      refine lv_iconst (v := (1 : Int32)) hx hb d_Memory_store_97 (by decide) ?_
      refine lv_iadd hx hb d_Memory_store_98 ?_
      refine va_put (D := D) (ci := 1) (v := .int ((cg_sc ua) + (1 : Int32))) (ty := .int) (C := "FirmStore$Memory") (T := F_Memory) (N := 8) hx hb hts iz_Memory t_Memory t_Memory_ok n_Memory hown hK hP hD hS 1 rfl rfl 6 (by decide) (hts _ q_34) (fun _ h9 => h9) rfl (by decide +kernel) rfl rfl (Nat.le_of_ble_eq_true rfl) d_Memory_store_99 (fun H locs hP hD hS => ?_)
      have hP : va_P D clz (wdC G Y (cs_sc ua ((cg_sc ua) + (1 : Int32)))) H := hP
      have hD : va_D A (wdC G Y (cs_sc ua ((cg_sc ua) + (1 : Int32)))) := hD
      refine lv_iconst (v := (1 : Int32)) hx hb d_Memory_store_102 (by decide) ?_
      exact hret _ _ _ _ (1 : Int32) (cs_sc ua ((cg_sc ua) + (1 : Int32))) (Option.some.inj hm) (Or.inr rfl) hP hD hS d_Memory_store_103
    · rw [if_neg hc] at hm
      refine lv_iload_n hx hb d_Memory_store_34 rfl (lv_at hl 1 rfl) ?_
      refine lv_sipush (v := (279 : Int32)) hx hb d_Memory_store_35 (by decide) ?_
      refine lv_icmp_ge (tgt := 92) hx hb d_Memory_store_38 (by decide) (fun hc => ?_) (fun hc => ?_)
      · rw [if_pos hc] at hm
        refine lv_aload_n hx hb d_Memory_store_92 rfl (lv_at hl 0 rfl) ?_
        refine lv_dup hx hb d_Memory_store_93 rfl ?_
        refine va_get (D := D) (ci := 1) (v := .int (cg_sc ua)) (C := "FirmStore$Memory") (T := F_Memory) (N := 8) hx hb hts iz_Memory hown hK hP 1 rfl rfl 6 (by decide) (hts _ q_34) (fun _ h9 => h9) rfl d_Memory_store_94 ?_
        refine lv_iconst (v := (1 : Int32)) hx hb d_Memory_store_97 (by decide) ?_
        refine lv_iadd hx hb d_Memory_store_98 ?_
        refine va_put (D := D) (ci := 1) (v := .int ((cg_sc ua) + (1 : Int32))) (ty := .int) (C := "FirmStore$Memory") (T := F_Memory) (N := 8) hx hb hts iz_Memory t_Memory t_Memory_ok n_Memory hown hK hP hD hS 1 rfl rfl 6 (by decide) (hts _ q_34) (fun _ h9 => h9) rfl (by decide +kernel) rfl rfl (Nat.le_of_ble_eq_true rfl) d_Memory_store_99 (fun H locs hP hD hS => ?_)
        have hP : va_P D clz (wdC G Y (cs_sc ua ((cg_sc ua) + (1 : Int32)))) H := hP
        have hD : va_D A (wdC G Y (cs_sc ua ((cg_sc ua) + (1 : Int32)))) := hD
        refine lv_iconst (v := (1 : Int32)) hx hb d_Memory_store_102 (by decide) ?_
        exact hret _ _ _ _ (1 : Int32) (cs_sc ua ((cg_sc ua) + (1 : Int32))) (Option.some.inj hm) (Or.inr rfl) hP hD hS d_Memory_store_103
      · rw [if_neg hc] at hm
        refine lv_aload_n hx hb d_Memory_store_41 rfl (lv_at hl 0 rfl) ?_
        refine va_get (D := D) (ci := 1) (v := .int (cg_lc ua)) (C := "FirmStore$Memory") (T := F_Memory) (N := 8) hx hb hts iz_Memory hown hK hP 1 rfl rfl 3 (by decide) (hts _ q_31) (fun _ h9 => h9) rfl d_Memory_store_42 ?_
        refine lv_bipush (v := (9 : Int32)) hx hb d_Memory_store_45 (by decide) ?_
        refine lv_icmp_ge (tgt := 92) hx hb d_Memory_store_47 (by decide) (fun hc => ?_) (fun hc => ?_)
        · rw [if_pos hc] at hm
          refine lv_aload_n hx hb d_Memory_store_92 rfl (lv_at hl 0 rfl) ?_
          refine lv_dup hx hb d_Memory_store_93 rfl ?_
          refine va_get (D := D) (ci := 1) (v := .int (cg_sc ua)) (C := "FirmStore$Memory") (T := F_Memory) (N := 8) hx hb hts iz_Memory hown hK hP 1 rfl rfl 6 (by decide) (hts _ q_34) (fun _ h9 => h9) rfl d_Memory_store_94 ?_
          refine lv_iconst (v := (1 : Int32)) hx hb d_Memory_store_97 (by decide) ?_
          refine lv_iadd hx hb d_Memory_store_98 ?_
          refine va_put (D := D) (ci := 1) (v := .int ((cg_sc ua) + (1 : Int32))) (ty := .int) (C := "FirmStore$Memory") (T := F_Memory) (N := 8) hx hb hts iz_Memory t_Memory t_Memory_ok n_Memory hown hK hP hD hS 1 rfl rfl 6 (by decide) (hts _ q_34) (fun _ h9 => h9) rfl (by decide +kernel) rfl rfl (Nat.le_of_ble_eq_true rfl) d_Memory_store_99 (fun H locs hP hD hS => ?_)
          have hP : va_P D clz (wdC G Y (cs_sc ua ((cg_sc ua) + (1 : Int32)))) H := hP
          have hD : va_D A (wdC G Y (cs_sc ua ((cg_sc ua) + (1 : Int32)))) := hD
          refine lv_iconst (v := (1 : Int32)) hx hb d_Memory_store_102 (by decide) ?_
          exact hret _ _ _ _ (1 : Int32) (cs_sc ua ((cg_sc ua) + (1 : Int32))) (Option.some.inj hm) (Or.inr rfl) hP hD hS d_Memory_store_103
        · rw [if_neg hc] at hm
          refine lv_aload_n hx hb d_Memory_store_50 rfl (lv_at hl 0 rfl) ?_
          refine va_get (D := D) (ci := 1) (v := .ref (G 3)) (C := "FirmStore$Memory") (T := F_Memory) (N := 8) hx hb hts iz_Memory hown hK hP 1 rfl rfl 1 (by decide) (hts _ q_29) (fun _ h9 => h9) rfl d_Memory_store_51 ?_
          refine lv_aload_n hx hb d_Memory_store_54 rfl (lv_at hl 0 rfl) ?_
          refine va_get (D := D) (ci := 1) (v := .int (cg_lc ua)) (C := "FirmStore$Memory") (T := F_Memory) (N := 8) hx hb hts iz_Memory hown hK hP 1 rfl rfl 3 (by decide) (hts _ q_31) (fun _ h9 => h9) rfl d_Memory_store_55 ?_
          refine lv_iload_n hx hb d_Memory_store_58 rfl (lv_at hl 1 rfl) ?_
          obtain ⟨hg, hm⟩ := gd hm
          refine va_iast hx hb hK hP hD hS 3 1 (f := (cg_la ua)) rfl rfl (inb_in hg) d_Memory_store_59 (fun H locs hP hD hS => ?_)
          have hP : va_P D clz (wdC G Y (cs_la ua (upd (cg_la ua) (cg_lc ua).toNatClampNeg x1))) H := hP
          have hD : va_D A (wdC G Y (cs_la ua (upd (cg_la ua) (cg_lc ua).toNatClampNeg x1))) := hD
          refine lv_aload_n hx hb d_Memory_store_60 rfl (lv_at hl 0 rfl) ?_
          refine va_get (D := D) (ci := 1) (v := .ref (G 4)) (C := "FirmStore$Memory") (T := F_Memory) (N := 8) hx hb hts iz_Memory hown hK hP 1 rfl rfl 2 (by decide) (hts _ q_30) (fun _ h9 => h9) rfl d_Memory_store_61 ?_
          refine lv_aload_n hx hb d_Memory_store_64 rfl (lv_at hl 0 rfl) ?_
          refine va_get (D := D) (ci := 1) (v := .int (cg_lc ua)) (C := "FirmStore$Memory") (T := F_Memory) (N := 8) hx hb hts iz_Memory hown hK hP 1 rfl rfl 3 (by decide) (hts _ q_31) (fun _ h9 => h9) rfl d_Memory_store_65 ?_
          refine lv_aload_n hx hb d_Memory_store_68 rfl (lv_at hl 0 rfl) ?_
          refine va_get (D := D) (ci := 1) (v := .ref (G 2)) (C := "FirmStore$Memory") (T := F_Memory) (N := 8) hx hb hts iz_Memory hown hK hP 1 rfl rfl 0 (by decide) (hts _ q_28) (fun _ h9 => h9) rfl d_Memory_store_69 ?_
          refine lv_iload_n hx hb d_Memory_store_72 rfl (lv_at hl 1 rfl) ?_
          obtain ⟨hg, hm⟩ := gd hm
          refine va_lald hx hb hK hP 2 0 (f := (cg_w ua)) rfl rfl (inb_in hg) d_Memory_store_73 ?_
          obtain ⟨hg, hm⟩ := gd hm
          refine va_last hx hb hK hP hD hS 4 0 (f := (cg_fw ua)) rfl rfl (inb_in hg) d_Memory_store_74 (fun H locs hP hD hS => ?_)
          have hP : va_P D clz (wdC G Y (cs_fw (cs_la ua (upd (cg_la ua) (cg_lc ua).toNatClampNeg x1)) (vp_updL (cg_fw ua) (cg_lc ua).toNatClampNeg ((cg_w ua) x1.toNatClampNeg)))) H := hP
          have hD : va_D A (wdC G Y (cs_fw (cs_la ua (upd (cg_la ua) (cg_lc ua).toNatClampNeg x1)) (vp_updL (cg_fw ua) (cg_lc ua).toNatClampNeg ((cg_w ua) x1.toNatClampNeg)))) := hD
          refine lv_aload_n hx hb d_Memory_store_75 rfl (lv_at hl 0 rfl) ?_
          refine lv_dup hx hb d_Memory_store_76 rfl ?_
          refine va_get (D := D) (ci := 1) (v := .int (cg_lc ua)) (C := "FirmStore$Memory") (T := F_Memory) (N := 8) hx hb hts iz_Memory hown hK hP 1 rfl rfl 3 (by decide) (hts _ q_31) (fun _ h9 => h9) rfl d_Memory_store_77 ?_
          refine lv_iconst (v := (1 : Int32)) hx hb d_Memory_store_80 (by decide) ?_
          refine lv_iadd hx hb d_Memory_store_81 ?_
          refine va_put (D := D) (ci := 1) (v := .int ((cg_lc ua) + (1 : Int32))) (ty := .int) (C := "FirmStore$Memory") (T := F_Memory) (N := 8) hx hb hts iz_Memory t_Memory t_Memory_ok n_Memory hown hK hP hD hS 1 rfl rfl 3 (by decide) (hts _ q_31) (fun _ h9 => h9) rfl (by decide +kernel) rfl rfl (Nat.le_of_ble_eq_true rfl) d_Memory_store_82 (fun H locs hP hD hS => ?_)
          have hP : va_P D clz (wdC G Y (cs_lc (cs_fw (cs_la ua (upd (cg_la ua) (cg_lc ua).toNatClampNeg x1)) (vp_updL (cg_fw ua) (cg_lc ua).toNatClampNeg ((cg_w ua) x1.toNatClampNeg))) ((cg_lc ua) + (1 : Int32)))) H := hP
          have hD : va_D A (wdC G Y (cs_lc (cs_fw (cs_la ua (upd (cg_la ua) (cg_lc ua).toNatClampNeg x1)) (vp_updL (cg_fw ua) (cg_lc ua).toNatClampNeg ((cg_w ua) x1.toNatClampNeg))) ((cg_lc ua) + (1 : Int32)))) := hD
          refine lv_aload_n hx hb d_Memory_store_85 rfl (lv_at hl 0 rfl) ?_
          refine va_get (D := D) (ci := 1) (v := .ref (G 2)) (C := "FirmStore$Memory") (T := F_Memory) (N := 8) hx hb hts iz_Memory hown hK hP 1 rfl rfl 0 (by decide) (hts _ q_28) (fun _ h9 => h9) rfl d_Memory_store_86 ?_
          refine lv_iload_n hx hb d_Memory_store_89 rfl (lv_at hl 1 rfl) ?_
          refine lv_lload_n hx hb d_Memory_store_90 rfl (lv_at hl 2 rfl) ?_
          obtain ⟨hg, hm⟩ := gd hm
          refine va_last hx hb hK hP hD hS 2 0 (f := (cg_w ua)) rfl rfl (inb_in hg) d_Memory_store_91 (fun H locs hP hD hS => ?_)
          have hP : va_P D clz (wdC G Y (cs_w (cs_lc (cs_fw (cs_la ua (upd (cg_la ua) (cg_lc ua).toNatClampNeg x1)) (vp_updL (cg_fw ua) (cg_lc ua).toNatClampNeg ((cg_w ua) x1.toNatClampNeg))) ((cg_lc ua) + (1 : Int32))) (vp_updL (cg_w ua) x1.toNatClampNeg x2))) H := hP
          have hD : va_D A (wdC G Y (cs_w (cs_lc (cs_fw (cs_la ua (upd (cg_la ua) (cg_lc ua).toNatClampNeg x1)) (vp_updL (cg_fw ua) (cg_lc ua).toNatClampNeg ((cg_w ua) x1.toNatClampNeg))) ((cg_lc ua) + (1 : Int32))) (vp_updL (cg_w ua) x1.toNatClampNeg x2))) := hD
          refine lv_aload_n hx hb d_Memory_store_92 rfl (lv_at hl 0 rfl) ?_
          refine lv_dup hx hb d_Memory_store_93 rfl ?_
          refine va_get (D := D) (ci := 1) (v := .int (cg_sc ua)) (C := "FirmStore$Memory") (T := F_Memory) (N := 8) hx hb hts iz_Memory hown hK hP 1 rfl rfl 6 (by decide) (hts _ q_34) (fun _ h9 => h9) rfl d_Memory_store_94 ?_
          refine lv_iconst (v := (1 : Int32)) hx hb d_Memory_store_97 (by decide) ?_
          refine lv_iadd hx hb d_Memory_store_98 ?_
          refine va_put (D := D) (ci := 1) (v := .int ((cg_sc ua) + (1 : Int32))) (ty := .int) (C := "FirmStore$Memory") (T := F_Memory) (N := 8) hx hb hts iz_Memory t_Memory t_Memory_ok n_Memory hown hK hP hD hS 1 rfl rfl 6 (by decide) (hts _ q_34) (fun _ h9 => h9) rfl (by decide +kernel) rfl rfl (Nat.le_of_ble_eq_true rfl) d_Memory_store_99 (fun H locs hP hD hS => ?_)
          have hP : va_P D clz (wdC G Y (cs_sc (cs_w (cs_lc (cs_fw (cs_la ua (upd (cg_la ua) (cg_lc ua).toNatClampNeg x1)) (vp_updL (cg_fw ua) (cg_lc ua).toNatClampNeg ((cg_w ua) x1.toNatClampNeg))) ((cg_lc ua) + (1 : Int32))) (vp_updL (cg_w ua) x1.toNatClampNeg x2)) ((cg_sc ua) + (1 : Int32)))) H := hP
          have hD : va_D A (wdC G Y (cs_sc (cs_w (cs_lc (cs_fw (cs_la ua (upd (cg_la ua) (cg_lc ua).toNatClampNeg x1)) (vp_updL (cg_fw ua) (cg_lc ua).toNatClampNeg ((cg_w ua) x1.toNatClampNeg))) ((cg_lc ua) + (1 : Int32))) (vp_updL (cg_w ua) x1.toNatClampNeg x2)) ((cg_sc ua) + (1 : Int32)))) := hD
          refine lv_iconst (v := (1 : Int32)) hx hb d_Memory_store_102 (by decide) ?_
          exact hret _ _ _ _ (1 : Int32) (cs_sc (cs_w (cs_lc (cs_fw (cs_la ua (upd (cg_la ua) (cg_lc ua).toNatClampNeg x1)) (vp_updL (cg_fw ua) (cg_lc ua).toNatClampNeg ((cg_w ua) x1.toNatClampNeg))) ((cg_lc ua) + (1 : Int32))) (vp_updL (cg_w ua) x1.toNatClampNeg x2)) ((cg_sc ua) + (1 : Int32))) (Option.some.inj hm) (Or.inr rfl) hP hD hS d_Memory_store_103
  rw [m_Memory_store] at hm
  refine lv_aload_n hx hb d_Memory_store_0 rfl (lv_at hl 0 rfl) ?_
  refine va_get (D := D) (ci := 1) (v := .int (cg_sb u)) (C := "FirmStore$Memory") (T := F_Memory) (N := 8) hx hb hts iz_Memory hown hK hP 1 rfl rfl 4 (by decide) (hts _ q_32) (fun _ h9 => h9) rfl d_Memory_store_1 ?_
  refine lv_if_ne (tgt := 13) hx hb d_Memory_store_4 (by decide) (fun hc => ?_) (fun hc => ?_)
  · rw [if_neg hc] at hm
    refine lv_aload_n hx hb d_Memory_store_13 rfl (lv_at hl 0 rfl) ?_
    refine va_get (D := D) (ci := 1) (v := .int (cg_sb u)) (C := "FirmStore$Memory") (T := F_Memory) (N := 8) hx hb hts iz_Memory hown hK hP 1 rfl rfl 4 (by decide) (hts _ q_32) (fun _ h9 => h9) rfl d_Memory_store_14 ?_
    refine lv_if_le (tgt := 30) hx hb d_Memory_store_17 (by decide) (fun hc => ?_) (fun hc => ?_)
    · rw [if_pos hc] at hm
      exact J30 u a1 a2 hm _ _ _ hP hD hS (lv_sub hl [0, 1, 2] rfl)
    · rw [if_neg hc] at hm
      refine lv_aload_n hx hb d_Memory_store_20 rfl (lv_at hl 0 rfl) ?_
      refine lv_dup hx hb d_Memory_store_21 rfl ?_
      refine va_get (D := D) (ci := 1) (v := .int (cg_sb u)) (C := "FirmStore$Memory") (T := F_Memory) (N := 8) hx hb hts iz_Memory hown hK hP 1 rfl rfl 4 (by decide) (hts _ q_32) (fun _ h9 => h9) rfl d_Memory_store_22 ?_
      refine lv_iconst (v := (1 : Int32)) hx hb d_Memory_store_25 (by decide) ?_
      refine lv_isub hx hb d_Memory_store_26 ?_
      refine va_put (D := D) (ci := 1) (v := .int ((cg_sb u) - (1 : Int32))) (ty := .int) (C := "FirmStore$Memory") (T := F_Memory) (N := 8) hx hb hts iz_Memory t_Memory t_Memory_ok n_Memory hown hK hP hD hS 1 rfl rfl 4 (by decide) (hts _ q_32) (fun _ h9 => h9) rfl (by decide +kernel) rfl rfl (Nat.le_of_ble_eq_true rfl) d_Memory_store_27 (fun H locs hP hD hS => ?_)
      have hP : va_P D clz (wdC G Y (cs_sb u ((cg_sb u) - (1 : Int32)))) H := hP
      have hD : va_D A (wdC G Y (cs_sb u ((cg_sb u) - (1 : Int32)))) := hD
      exact J30 (cs_sb u ((cg_sb u) - (1 : Int32))) a1 a2 hm _ _ _ hP hD hS (lv_sub hl [0, 1, 2] rfl)
  · rw [if_pos hc] at hm
    refine lv_aload_n hx hb d_Memory_store_7 rfl (lv_at hl 0 rfl) ?_
    obtain ⟨r1, u2, h3, hm⟩ := ob_some hm
    refine goVV (As := []) (rest := []) (b0 := G 1) 1 C0 (k_Memory_cutPower l D G Y h3) q_354 q_2 q_351 q_353 qs_7 e_Memory_cutPower (by decide) rfl rfl hP hD hS hl.1 rfl (Nat.le_of_ble_eq_true rfl) d_Memory_store_8 (fun H locs hP hD hS => ?_)
    refine lv_iconst (v := (0 : Int32)) hx hb d_Memory_store_11 (by decide) ?_
    exact hret _ _ _ _ (0 : Int32) u2 (Option.some.inj hm) (Or.inl rfl) hP hD hS d_Memory_store_12
theorem d_Memory_fence_0 : decode b_Memory_fence 0 = .ok (.aload_n 0, 1) := by decide +kernel
theorem d_Memory_fence_1 : decode b_Memory_fence 1 = .ok (.iconst 0, 1) := by decide +kernel
theorem d_Memory_fence_2 : decode b_Memory_fence 2 = .ok (.putfield 20, 3) := by decide +kernel
theorem d_Memory_fence_5 : decode b_Memory_fence 5 = .ok (.return_, 1) := by decide +kernel
set_option maxRecDepth 100000 in
set_option maxHeartbeats 4000000 in
theorem k_Memory_fence (l : Launch) (D : va_G) (G : Nat → Nat) (Y : Nat → ClassId) {u : SM}  {u' : SM} (hm : m_Memory_fence u  = some ((), u')) : KV l D clz (tyz Y) (wdC G Y) y_Memory_fence b_Memory_fence 1 none 0 0 [.ref (G 1)] u u' := by
  refine mkV (by decide) (Nat.le_of_ble_eq_true rfl) ?_
  intro p e s m below meth c A Z ls C0 hP hD hS hl hret
  obtain ⟨hx, hb, hml, hown, hts, hK, hN, hA⟩ := id C0
  have hl : lv_has ls 1 [(0, .ref (G 1))] := hl
  rw [m_Memory_fence] at hm
  refine lv_aload_n hx hb d_Memory_fence_0 rfl (lv_at hl 0 rfl) ?_
  refine lv_iconst (v := (0 : Int32)) hx hb d_Memory_fence_1 (by decide) ?_
  refine va_put (D := D) (ci := 1) (v := .int (0 : Int32)) (ty := .int) (C := "FirmStore$Memory") (T := F_Memory) (N := 8) hx hb hts iz_Memory t_Memory t_Memory_ok n_Memory hown hK hP hD hS 1 rfl rfl 3 (by decide) (hts _ q_31) (fun _ h9 => h9) rfl (by decide +kernel) rfl rfl (Nat.le_of_ble_eq_true rfl) d_Memory_fence_2 (fun H locs hP hD hS => ?_)
  have hP : va_P D clz (wdC G Y (cs_lc u (0 : Int32))) H := hP
  have hD : va_D A (wdC G Y (cs_lc u (0 : Int32))) := hD
  exact hret _ _ _ _ () (cs_lc u (0 : Int32)) (Option.some.inj hm) hP hD hS d_Memory_fence_5
theorem d_Memory_firmStore_0 : decode b_Memory_firmStore 0 = .ok (.aload_n 0, 1) := by decide +kernel
theorem d_Memory_firmStore_1 : decode b_Memory_firmStore 1 = .ok (.iload_n 1, 1) := by decide +kernel
theorem d_Memory_firmStore_2 : decode b_Memory_firmStore 2 = .ok (.lload_n 2, 1) := by decide +kernel
theorem d_Memory_firmStore_3 : decode b_Memory_firmStore 3 = .ok (.invokevirtual 40, 3) := by decide +kernel
theorem d_Memory_firmStore_6 : decode b_Memory_firmStore 6 = .ok (.ifCond .ne 5, 3) := by decide +kernel
theorem d_Memory_firmStore_9 : decode b_Memory_firmStore 9 = .ok (.iconst 0, 1) := by decide +kernel
theorem d_Memory_firmStore_10 : decode b_Memory_firmStore 10 = .ok (.ireturn, 1) := by decide +kernel
theorem d_Memory_firmStore_11 : decode b_Memory_firmStore 11 = .ok (.aload_n 0, 1) := by decide +kernel
theorem d_Memory_firmStore_12 : decode b_Memory_firmStore 12 = .ok (.invokevirtual 44, 3) := by decide +kernel
theorem d_Memory_firmStore_15 : decode b_Memory_firmStore 15 = .ok (.iconst 1, 1) := by decide +kernel
theorem d_Memory_firmStore_16 : decode b_Memory_firmStore 16 = .ok (.ireturn, 1) := by decide +kernel
set_option maxRecDepth 100000 in
set_option maxHeartbeats 4000000 in
theorem k_Memory_firmStore (l : Launch) (D : va_G) (G : Nat → Nat) (Y : Nat → ClassId) {u : SM} {a1 : Int32} {a2 : Int64} {r : Int32} {u' : SM} (hm : m_Memory_firmStore u a1 a2 = some (r, u')) : KZ l D clz (tyz Y) (wdC G Y) y_Memory_firmStore b_Memory_firmStore 4 (some .boolean) 2 44 [.ref (G 1), .int a1, .long a2] u r u' := by
  refine mkZ (by decide) (Nat.le_of_ble_eq_true rfl) ?_
  intro p e s m below meth c A Z ls C0 hP hD hS hl hret
  obtain ⟨hx, hb, hml, hown, hts, hK, hN, hA⟩ := id C0
  have hl : lv_has ls 4 [(0, .ref (G 1)), (1, .int a1), (2, .long a2)] := hl
  rw [m_Memory_firmStore] at hm
  refine lv_aload_n hx hb d_Memory_firmStore_0 rfl (lv_at hl 0 rfl) ?_
  refine lv_iload_n hx hb d_Memory_firmStore_1 rfl (lv_at hl 1 rfl) ?_
  refine lv_lload_n hx hb d_Memory_firmStore_2 rfl (lv_at hl 2 rfl) ?_
  obtain ⟨r1, u2, h3, hm⟩ := ob_some hm
  refine goVZ (As := [.int a1, .long a2]) (rest := []) (b0 := G 1) 1 C0 (k_Memory_store l D G Y h3) q_350 q_2 q_363 q_348 q_349 e_Memory_store (by decide) rfl rfl hP hD hS hl.1 rfl (Nat.le_of_ble_eq_true rfl) d_Memory_firmStore_3 (fun H locs hz4 hP hD hS => ?_)
  refine lv_if_ne (tgt := 11) hx hb d_Memory_firmStore_6 (by decide) (fun hc => ?_) (fun hc => ?_)
  · rw [if_neg hc] at hm
    refine lv_aload_n hx hb d_Memory_firmStore_11 rfl (lv_at hl 0 rfl) ?_
    obtain ⟨r5, u6, h7, hm⟩ := ob_some hm
    refine goVV (As := []) (rest := []) (b0 := G 1) 1 C0 (k_Memory_fence l D G Y h7) q_358 q_2 q_364 q_356 q_357 e_Memory_fence (by decide) rfl rfl hP hD hS hl.1 rfl (Nat.le_of_ble_eq_true rfl) d_Memory_firmStore_12 (fun H locs hP hD hS => ?_)
    refine lv_iconst (v := (1 : Int32)) hx hb d_Memory_firmStore_15 (by decide) ?_
    exact hret _ _ _ _ (1 : Int32) u6 (Option.some.inj hm) (Or.inr rfl) hP hD hS d_Memory_firmStore_16
  · rw [if_pos hc] at hm
    refine lv_iconst (v := (0 : Int32)) hx hb d_Memory_firmStore_9 (by decide) ?_
    exact hret _ _ _ _ (0 : Int32) u2 (Option.some.inj hm) (Or.inl rfl) hP hD hS d_Memory_firmStore_10
end
section
/-! models and contracts; written by wip/whole/gen.py -/
def m_Firm_isPart (u : SM) (a1 : Int32) : Option (Int32 × SM) := if a1 = 0 then (some ((1 : Int32), u)) else (if a1 = (1 : Int32) then (some ((1 : Int32), u)) else (some ((0 : Int32), u)))
def m_Firm_isKey (u : SM) (a1 : Int32) : Option (Int32 × SM) := if a1 < 0 then (some ((0 : Int32), u)) else (if (1000 : Int32) ≤ a1 then (some ((0 : Int32), u)) else (some ((1 : Int32), u)))
def m_Firm_entryOf (u : SM) (a1 : Int32) (a2 : Int32) : Option (Int64 × SM) := some (((zLshl ((a1.toInt64) + (1 : Int64)) (32 : Int32)) ||| ((a2.toInt64) &&& (4294967295 : Int64))), u)
def m_Firm_keyOf (u : SM) (a1 : Int64) : Option (Int32 × SM) := some ((((zLushr a1 (32 : Int32)).toInt32) - (1 : Int32)), u)
def m_Firm_valueOf (u : SM) (a1 : Int64) : Option (Int32 × SM) := some ((a1.toInt32), u)
def m_Int_bitCount (u : SM) (a1 : Int32) : Option (Int32 × SM) := some (((((((((a1 - ((zIushr a1 (1 : Int32)) &&& (1431655765 : Int32))) &&& (858993459 : Int32)) + ((zIushr (a1 - ((zIushr a1 (1 : Int32)) &&& (1431655765 : Int32))) (2 : Int32)) &&& (858993459 : Int32))) + (zIushr (((a1 - ((zIushr a1 (1 : Int32)) &&& (1431655765 : Int32))) &&& (858993459 : Int32)) + ((zIushr (a1 - ((zIushr a1 (1 : Int32)) &&& (1431655765 : Int32))) (2 : Int32)) &&& (858993459 : Int32))) (4 : Int32))) &&& (252645135 : Int32)) + (zIushr (((((a1 - ((zIushr a1 (1 : Int32)) &&& (1431655765 : Int32))) &&& (858993459 : Int32)) + ((zIushr (a1 - ((zIushr a1 (1 : Int32)) &&& (1431655765 : Int32))) (2 : Int32)) &&& (858993459 : Int32))) + (zIushr (((a1 - ((zIushr a1 (1 : Int32)) &&& (1431655765 : Int32))) &&& (858993459 : Int32)) + ((zIushr (a1 - ((zIushr a1 (1 : Int32)) &&& (1431655765 : Int32))) (2 : Int32)) &&& (858993459 : Int32))) (4 : Int32))) &&& (252645135 : Int32)) (8 : Int32))) + (zIushr ((((((a1 - ((zIushr a1 (1 : Int32)) &&& (1431655765 : Int32))) &&& (858993459 : Int32)) + ((zIushr (a1 - ((zIushr a1 (1 : Int32)) &&& (1431655765 : Int32))) (2 : Int32)) &&& (858993459 : Int32))) + (zIushr (((a1 - ((zIushr a1 (1 : Int32)) &&& (1431655765 : Int32))) &&& (858993459 : Int32)) + ((zIushr (a1 - ((zIushr a1 (1 : Int32)) &&& (1431655765 : Int32))) (2 : Int32)) &&& (858993459 : Int32))) (4 : Int32))) &&& (252645135 : Int32)) + (zIushr (((((a1 - ((zIushr a1 (1 : Int32)) &&& (1431655765 : Int32))) &&& (858993459 : Int32)) + ((zIushr (a1 - ((zIushr a1 (1 : Int32)) &&& (1431655765 : Int32))) (2 : Int32)) &&& (858993459 : Int32))) + (zIushr (((a1 - ((zIushr a1 (1 : Int32)) &&& (1431655765 : Int32))) &&& (858993459 : Int32)) + ((zIushr (a1 - ((zIushr a1 (1 : Int32)) &&& (1431655765 : Int32))) (2 : Int32)) &&& (858993459 : Int32))) (4 : Int32))) &&& (252645135 : Int32)) (8 : Int32))) (16 : Int32))) &&& (63 : Int32)), u)
def m_Int_numberOfTrailingZeros_J62 (ua : SM) (x0 : Int32) (x1 : Int32) : Option (Int32 × SM) := if x0 ≤ (4 : Int32) then (some ((x1 + (zIushr x0 (1 : Int32))), ua)) else (some (((x1 + (2 : Int32)) + (zIushr (zIushr x0 (2 : Int32)) (1 : Int32))), ua))
def m_Int_numberOfTrailingZeros_J49 (ua : SM) (x0 : Int32) (x1 : Int32) : Option (Int32 × SM) := if x0 ≤ (16 : Int32) then (m_Int_numberOfTrailingZeros_J62 ua x0 x1) else (m_Int_numberOfTrailingZeros_J62 ua (zIushr x0 (4 : Int32)) (x1 + (4 : Int32)))
def m_Int_numberOfTrailingZeros_J34 (ua : SM) (x0 : Int32) (x1 : Int32) : Option (Int32 × SM) := if x0 ≤ (256 : Int32) then (m_Int_numberOfTrailingZeros_J49 ua x0 x1) else (m_Int_numberOfTrailingZeros_J49 ua (zIushr x0 (8 : Int32)) (x1 + (8 : Int32)))
def m_Int_numberOfTrailingZeros (u : SM) (a1 : Int32) : Option (Int32 × SM) := if 0 < ((a1 ^^^ (-1 : Int32)) &&& (a1 - (1 : Int32))) then (if ((a1 ^^^ (-1 : Int32)) &&& (a1 - (1 : Int32))) ≤ (65536 : Int32) then (m_Int_numberOfTrailingZeros_J34 u ((a1 ^^^ (-1 : Int32)) &&& (a1 - (1 : Int32))) (1 : Int32)) else (m_Int_numberOfTrailingZeros_J34 u (zIushr ((a1 ^^^ (-1 : Int32)) &&& (a1 - (1 : Int32))) (16 : Int32)) ((1 : Int32) + (16 : Int32)))) else (some ((((a1 ^^^ (-1 : Int32)) &&& (a1 - (1 : Int32))) &&& (32 : Int32)), u))
theorem d_Firm_isPart_0 : decode b_Firm_isPart 0 = .ok (.iload_n 0, 1) := by decide +kernel
theorem d_Firm_isPart_1 : decode b_Firm_isPart 1 = .ok (.ifCond .eq 8, 3) := by decide +kernel
theorem d_Firm_isPart_4 : decode b_Firm_isPart 4 = .ok (.iload_n 0, 1) := by decide +kernel
theorem d_Firm_isPart_5 : decode b_Firm_isPart 5 = .ok (.iconst 1, 1) := by decide +kernel
theorem d_Firm_isPart_6 : decode b_Firm_isPart 6 = .ok (.if_icmp .ne 7, 3) := by decide +kernel
theorem d_Firm_isPart_9 : decode b_Firm_isPart 9 = .ok (.iconst 1, 1) := by decide +kernel
theorem d_Firm_isPart_10 : decode b_Firm_isPart 10 = .ok (.goto 4, 3) := by decide +kernel
theorem d_Firm_isPart_13 : decode b_Firm_isPart 13 = .ok (.iconst 0, 1) := by decide +kernel
theorem d_Firm_isPart_14 : decode b_Firm_isPart 14 = .ok (.ireturn, 1) := by decide +kernel
set_option maxRecDepth 100000 in
set_option maxHeartbeats 4000000 in
theorem k_Firm_isPart (l : Launch) (D : va_G) (G : Nat → Nat) (Y : Nat → ClassId) {u : SM} {a1 : Int32} {r : Int32} {u' : SM} (hm : m_Firm_isPart u a1 = some (r, u')) : KZ l D clz (tyz Y) (wdC G Y) y_Firm_isPart b_Firm_isPart 1 (some .boolean) 0 0 [.int a1] u r u' := by
  refine mkZ (by decide) (Nat.le_of_ble_eq_true rfl) ?_
  intro p e s m below meth c A Z ls C0 hP hD hS hl hret
  obtain ⟨hx, hb, hml, hown, hts, hK, hN, hA⟩ := id C0
  have hl : lv_has ls 1 [(0, .int a1)] := hl
  rw [m_Firm_isPart] at hm
  refine lv_iload_n hx hb d_Firm_isPart_0 rfl (lv_at hl 0 rfl) ?_
  refine lv_if_eq (tgt := 9) hx hb d_Firm_isPart_1 (by decide) (fun hc => ?_) (fun hc => ?_)
  · rw [if_pos hc] at hm
    refine lv_iconst (v := (1 : Int32)) hx hb d_Firm_isPart_9 (by decide) ?_
    refine lv_goto (tgt := 14) hx hb d_Firm_isPart_10 (by decide) ?_
    exact hret _ _ _ _ (1 : Int32) u (Option.some.inj hm) (Or.inr rfl) hP hD hS d_Firm_isPart_14
  · rw [if_neg hc] at hm
    refine lv_iload_n hx hb d_Firm_isPart_4 rfl (lv_at hl 0 rfl) ?_
    refine lv_iconst (v := (1 : Int32)) hx hb d_Firm_isPart_5 (by decide) ?_
    refine lv_icmp_ne (tgt := 13) hx hb d_Firm_isPart_6 (by decide) (fun hc => ?_) (fun hc => ?_)
    · rw [if_neg hc] at hm
      refine lv_iconst (v := (0 : Int32)) hx hb d_Firm_isPart_13 (by decide) ?_
      exact hret _ _ _ _ (0 : Int32) u (Option.some.inj hm) (Or.inl rfl) hP hD hS d_Firm_isPart_14
    · rw [if_pos hc] at hm
      refine lv_iconst (v := (1 : Int32)) hx hb d_Firm_isPart_9 (by decide) ?_
      refine lv_goto (tgt := 14) hx hb d_Firm_isPart_10 (by decide) ?_
      exact hret _ _ _ _ (1 : Int32) u (Option.some.inj hm) (Or.inr rfl) hP hD hS d_Firm_isPart_14
theorem d_Firm_isKey_0 : decode b_Firm_isKey 0 = .ok (.iload_n 0, 1) := by decide +kernel
theorem d_Firm_isKey_1 : decode b_Firm_isKey 1 = .ok (.ifCond .lt 14, 3) := by decide +kernel
theorem d_Firm_isKey_4 : decode b_Firm_isKey 4 = .ok (.iload_n 0, 1) := by decide +kernel
theorem d_Firm_isKey_5 : decode b_Firm_isKey 5 = .ok (.sipush 1000, 3) := by decide +kernel
theorem d_Firm_isKey_8 : decode b_Firm_isKey 8 = .ok (.if_icmp .ge 7, 3) := by decide +kernel
theorem d_Firm_isKey_11 : decode b_Firm_isKey 11 = .ok (.iconst 1, 1) := by decide +kernel
theorem d_Firm_isKey_12 : decode b_Firm_isKey 12 = .ok (.goto 4, 3) := by decide +kernel
theorem d_Firm_isKey_15 : decode b_Firm_isKey 15 = .ok (.iconst 0, 1) := by decide +kernel
theorem d_Firm_isKey_16 : decode b_Firm_isKey 16 = .ok (.ireturn, 1) := by decide +kernel
set_option maxRecDepth 100000 in
set_option maxHeartbeats 4000000 in
theorem k_Firm_isKey (l : Launch) (D : va_G) (G : Nat → Nat) (Y : Nat → ClassId) {u : SM} {a1 : Int32} {r : Int32} {u' : SM} (hm : m_Firm_isKey u a1 = some (r, u')) : KZ l D clz (tyz Y) (wdC G Y) y_Firm_isKey b_Firm_isKey 1 (some .boolean) 0 0 [.int a1] u r u' := by
  refine mkZ (by decide) (Nat.le_of_ble_eq_true rfl) ?_
  intro p e s m below meth c A Z ls C0 hP hD hS hl hret
  obtain ⟨hx, hb, hml, hown, hts, hK, hN, hA⟩ := id C0
  have hl : lv_has ls 1 [(0, .int a1)] := hl
  rw [m_Firm_isKey] at hm
  refine lv_iload_n hx hb d_Firm_isKey_0 rfl (lv_at hl 0 rfl) ?_
  refine lv_if_lt (tgt := 15) hx hb d_Firm_isKey_1 (by decide) (fun hc => ?_) (fun hc => ?_)
  · rw [if_pos hc] at hm
    refine lv_iconst (v := (0 : Int32)) hx hb d_Firm_isKey_15 (by decide) ?_
    exact hret _ _ _ _ (0 : Int32) u (Option.some.inj hm) (Or.inl rfl) hP hD hS d_Firm_isKey_16
  · rw [if_neg hc] at hm
    refine lv_iload_n hx hb d_Firm_isKey_4 rfl (lv_at hl 0 rfl) ?_
    refine lv_sipush (v := (1000 : Int32)) hx hb d_Firm_isKey_5 (by decide) ?_
    refine lv_icmp_ge (tgt := 15) hx hb d_Firm_isKey_8 (by decide) (fun hc => ?_) (fun hc => ?_)
    · rw [if_pos hc] at hm
      refine lv_iconst (v := (0 : Int32)) hx hb d_Firm_isKey_15 (by decide) ?_
      exact hret _ _ _ _ (0 : Int32) u (Option.some.inj hm) (Or.inl rfl) hP hD hS d_Firm_isKey_16
    · rw [if_neg hc] at hm
      refine lv_iconst (v := (1 : Int32)) hx hb d_Firm_isKey_11 (by decide) ?_
      refine lv_goto (tgt := 16) hx hb d_Firm_isKey_12 (by decide) ?_
      exact hret _ _ _ _ (1 : Int32) u (Option.some.inj hm) (Or.inr rfl) hP hD hS d_Firm_isKey_16
theorem d_Firm_entryOf_0 : decode b_Firm_entryOf 0 = .ok (.iload_n 0, 1) := by decide +kernel
theorem d_Firm_entryOf_1 : decode b_Firm_entryOf 1 = .ok (.i2l, 1) := by decide +kernel
theorem d_Firm_entryOf_2 : decode b_Firm_entryOf 2 = .ok (.lconst 1, 1) := by decide +kernel
theorem d_Firm_entryOf_3 : decode b_Firm_entryOf 3 = .ok (.ladd, 1) := by decide +kernel
theorem d_Firm_entryOf_4 : decode b_Firm_entryOf 4 = .ok (.bipush 32, 2) := by decide +kernel
theorem d_Firm_entryOf_6 : decode b_Firm_entryOf 6 = .ok (.lshl, 1) := by decide +kernel
theorem d_Firm_entryOf_7 : decode b_Firm_entryOf 7 = .ok (.iload_n 1, 1) := by decide +kernel
theorem d_Firm_entryOf_8 : decode b_Firm_entryOf 8 = .ok (.i2l, 1) := by decide +kernel
theorem d_Firm_entryOf_9 : decode b_Firm_entryOf 9 = .ok (.ldc2_w 118, 3) := by decide +kernel
theorem d_Firm_entryOf_12 : decode b_Firm_entryOf 12 = .ok (.land, 1) := by decide +kernel
theorem d_Firm_entryOf_13 : decode b_Firm_entryOf 13 = .ok (.lor, 1) := by decide +kernel
theorem d_Firm_entryOf_14 : decode b_Firm_entryOf 14 = .ok (.lreturn, 1) := by decide +kernel
set_option maxRecDepth 100000 in
set_option maxHeartbeats 4000000 in
theorem k_Firm_entryOf (l : Launch) (D : va_G) (G : Nat → Nat) (Y : Nat → ClassId) {u : SM} {a1 : Int32} {a2 : Int32} {r : Int64} {u' : SM} (hm : m_Firm_entryOf u a1 a2 = some (r, u')) : KL l D clz (tyz Y) (wdC G Y) y_Firm_entryOf b_Firm_entryOf 2 (some .long) 0 0 [.int a1, .int a2] u r u' := by
  refine mkL (by decide) (Nat.le_of_ble_eq_true rfl) ?_
  intro p e s m below meth c A Z ls C0 hP hD hS hl hret
  obtain ⟨hx, hb, hml, hown, hts, hK, hN, hA⟩ := id C0
  have hl : lv_has ls 2 [(0, .int a1), (1, .int a2)] := hl
  rw [m_Firm_entryOf] at hm
  refine lv_iload_n hx hb d_Firm_entryOf_0 rfl (lv_at hl 0 rfl) ?_
  refine lv_i2l (v := (a1.toInt64)) hx hb d_Firm_entryOf_1 rfl ?_
  refine lv_lconst (v := (1 : Int64)) hx hb d_Firm_entryOf_2 (by decide) ?_
  refine lv_ladd hx hb d_Firm_entryOf_3 ?_
  refine lv_bipush (v := (32 : Int32)) hx hb d_Firm_entryOf_4 (by decide) ?_
  refine lv_lshl (v := (zLshl ((a1.toInt64) + (1 : Int64)) (32 : Int32))) hx hb d_Firm_entryOf_6 rfl ?_
  refine lv_iload_n hx hb d_Firm_entryOf_7 rfl (lv_at hl 1 rfl) ?_
  refine lv_i2l (v := (a2.toInt64)) hx hb d_Firm_entryOf_8 rfl ?_
  refine lv_ldc2 (v := (4294967295 : Int64)) hx hb hown (hts _ q_337) d_Firm_entryOf_9 ?_
  refine lv_land hx hb d_Firm_entryOf_12 ?_
  refine lv_lor hx hb d_Firm_entryOf_13 ?_
  exact hret _ _ _ _ ((zLshl ((a1.toInt64) + (1 : Int64)) (32 : Int32)) ||| ((a2.toInt64) &&& (4294967295 : Int64))) u (Option.some.inj hm) hP hD hS d_Firm_entryOf_14
theorem d_Firm_keyOf_0 : decode b_Firm_keyOf 0 = .ok (.lload_n 0, 1) := by decide +kernel
theorem d_Firm_keyOf_1 : decode b_Firm_keyOf 1 = .ok (.bipush 32, 2) := by decide +kernel
theorem d_Firm_keyOf_3 : decode b_Firm_keyOf 3 = .ok (.lushr, 1) := by decide +kernel
theorem d_Firm_keyOf_4 : decode b_Firm_keyOf 4 = .ok (.l2i, 1) := by decide +kernel
theorem d_Firm_keyOf_5 : decode b_Firm_keyOf 5 = .ok (.iconst 1, 1) := by decide +kernel
theorem d_Firm_keyOf_6 : decode b_Firm_keyOf 6 = .ok (.isub, 1) := by decide +kernel
theorem d_Firm_keyOf_7 : decode b_Firm_keyOf 7 = .ok (.ireturn, 1) := by decide +kernel
set_option maxRecDepth 100000 in
set_option maxHeartbeats 4000000 in
theorem k_Firm_keyOf (l : Launch) (D : va_G) (G : Nat → Nat) (Y : Nat → ClassId) {u : SM} {a1 : Int64} {r : Int32} {u' : SM} (hm : m_Firm_keyOf u a1 = some (r, u')) : KI l D clz (tyz Y) (wdC G Y) y_Firm_keyOf b_Firm_keyOf 2 (some .int) 0 0 [.long a1] u r u' := by
  refine mkI (by decide) (Nat.le_of_ble_eq_true rfl) ?_
  intro p e s m below meth c A Z ls C0 hP hD hS hl hret
  obtain ⟨hx, hb, hml, hown, hts, hK, hN, hA⟩ := id C0
  have hl : lv_has ls 2 [(0, .long a1)] := hl
  rw [m_Firm_keyOf] at hm
  refine lv_lload_n hx hb d_Firm_keyOf_0 rfl (lv_at hl 0 rfl) ?_
  refine lv_bipush (v := (32 : Int32)) hx hb d_Firm_keyOf_1 (by decide) ?_
  refine lv_lushr (v := (zLushr a1 (32 : Int32))) hx hb d_Firm_keyOf_3 rfl ?_
  refine lv_l2i (v := ((zLushr a1 (32 : Int32)).toInt32)) hx hb d_Firm_keyOf_4 rfl ?_
  refine lv_iconst (v := (1 : Int32)) hx hb d_Firm_keyOf_5 (by decide) ?_
  refine lv_isub hx hb d_Firm_keyOf_6 ?_
  exact hret _ _ _ _ (((zLushr a1 (32 : Int32)).toInt32) - (1 : Int32)) u (Option.some.inj hm) hP hD hS d_Firm_keyOf_7
theorem d_Firm_valueOf_0 : decode b_Firm_valueOf 0 = .ok (.lload_n 0, 1) := by decide +kernel
theorem d_Firm_valueOf_1 : decode b_Firm_valueOf 1 = .ok (.l2i, 1) := by decide +kernel
theorem d_Firm_valueOf_2 : decode b_Firm_valueOf 2 = .ok (.ireturn, 1) := by decide +kernel
set_option maxRecDepth 100000 in
set_option maxHeartbeats 4000000 in
theorem k_Firm_valueOf (l : Launch) (D : va_G) (G : Nat → Nat) (Y : Nat → ClassId) {u : SM} {a1 : Int64} {r : Int32} {u' : SM} (hm : m_Firm_valueOf u a1 = some (r, u')) : KI l D clz (tyz Y) (wdC G Y) y_Firm_valueOf b_Firm_valueOf 2 (some .int) 0 0 [.long a1] u r u' := by
  refine mkI (by decide) (Nat.le_of_ble_eq_true rfl) ?_
  intro p e s m below meth c A Z ls C0 hP hD hS hl hret
  obtain ⟨hx, hb, hml, hown, hts, hK, hN, hA⟩ := id C0
  have hl : lv_has ls 2 [(0, .long a1)] := hl
  rw [m_Firm_valueOf] at hm
  refine lv_lload_n hx hb d_Firm_valueOf_0 rfl (lv_at hl 0 rfl) ?_
  refine lv_l2i (v := (a1.toInt32)) hx hb d_Firm_valueOf_1 rfl ?_
  exact hret _ _ _ _ (a1.toInt32) u (Option.some.inj hm) hP hD hS d_Firm_valueOf_2
theorem d_Int_bitCount_0 : decode b_Int_bitCount 0 = .ok (.iload_n 0, 1) := by decide +kernel
theorem d_Int_bitCount_1 : decode b_Int_bitCount 1 = .ok (.iload_n 0, 1) := by decide +kernel
theorem d_Int_bitCount_2 : decode b_Int_bitCount 2 = .ok (.iconst 1, 1) := by decide +kernel
theorem d_Int_bitCount_3 : decode b_Int_bitCount 3 = .ok (.iushr, 1) := by decide +kernel
theorem d_Int_bitCount_4 : decode b_Int_bitCount 4 = .ok (.ldc_w 265, 3) := by decide +kernel
theorem d_Int_bitCount_7 : decode b_Int_bitCount 7 = .ok (.iand, 1) := by decide +kernel
theorem d_Int_bitCount_8 : decode b_Int_bitCount 8 = .ok (.isub, 1) := by decide +kernel
theorem d_Int_bitCount_9 : decode b_Int_bitCount 9 = .ok (.istore_n 0, 1) := by decide +kernel
theorem d_Int_bitCount_10 : decode b_Int_bitCount 10 = .ok (.iload_n 0, 1) := by decide +kernel
theorem d_Int_bitCount_11 : decode b_Int_bitCount 11 = .ok (.ldc_w 266, 3) := by decide +kernel
theorem d_Int_bitCount_14 : decode b_Int_bitCount 14 = .ok (.iand, 1) := by decide +kernel
theorem d_Int_bitCount_15 : decode b_Int_bitCount 15 = .ok (.iload_n 0, 1) := by decide +kernel
theorem d_Int_bitCount_16 : decode b_Int_bitCount 16 = .ok (.iconst 2, 1) := by decide +kernel
theorem d_Int_bitCount_17 : decode b_Int_bitCount 17 = .ok (.iushr, 1) := by decide +kernel
theorem d_Int_bitCount_18 : decode b_Int_bitCount 18 = .ok (.ldc_w 266, 3) := by decide +kernel
theorem d_Int_bitCount_21 : decode b_Int_bitCount 21 = .ok (.iand, 1) := by decide +kernel
theorem d_Int_bitCount_22 : decode b_Int_bitCount 22 = .ok (.iadd, 1) := by decide +kernel
theorem d_Int_bitCount_23 : decode b_Int_bitCount 23 = .ok (.istore_n 0, 1) := by decide +kernel
theorem d_Int_bitCount_24 : decode b_Int_bitCount 24 = .ok (.iload_n 0, 1) := by decide +kernel
theorem d_Int_bitCount_25 : decode b_Int_bitCount 25 = .ok (.iload_n 0, 1) := by decide +kernel
theorem d_Int_bitCount_26 : decode b_Int_bitCount 26 = .ok (.iconst 4, 1) := by decide +kernel
theorem d_Int_bitCount_27 : decode b_Int_bitCount 27 = .ok (.iushr, 1) := by decide +kernel
theorem d_Int_bitCount_28 : decode b_Int_bitCount 28 = .ok (.iadd, 1) := by decide +kernel
theorem d_Int_bitCount_29 : decode b_Int_bitCount 29 = .ok (.ldc_w 267, 3) := by decide +kernel
theorem d_Int_bitCount_32 : decode b_Int_bitCount 32 = .ok (.iand, 1) := by decide +kernel
theorem d_Int_bitCount_33 : decode b_Int_bitCount 33 = .ok (.istore_n 0, 1) := by decide +kernel
theorem d_Int_bitCount_34 : decode b_Int_bitCount 34 = .ok (.iload_n 0, 1) := by decide +kernel
theorem d_Int_bitCount_35 : decode b_Int_bitCount 35 = .ok (.iload_n 0, 1) := by decide +kernel
theorem d_Int_bitCount_36 : decode b_Int_bitCount 36 = .ok (.bipush 8, 2) := by decide +kernel
theorem d_Int_bitCount_38 : decode b_Int_bitCount 38 = .ok (.iushr, 1) := by decide +kernel
theorem d_Int_bitCount_39 : decode b_Int_bitCount 39 = .ok (.iadd, 1) := by decide +kernel
theorem d_Int_bitCount_40 : decode b_Int_bitCount 40 = .ok (.istore_n 0, 1) := by decide +kernel
theorem d_Int_bitCount_41 : decode b_Int_bitCount 41 = .ok (.iload_n 0, 1) := by decide +kernel
theorem d_Int_bitCount_42 : decode b_Int_bitCount 42 = .ok (.iload_n 0, 1) := by decide +kernel
theorem d_Int_bitCount_43 : decode b_Int_bitCount 43 = .ok (.bipush 16, 2) := by decide +kernel
theorem d_Int_bitCount_45 : decode b_Int_bitCount 45 = .ok (.iushr, 1) := by decide +kernel
theorem d_Int_bitCount_46 : decode b_Int_bitCount 46 = .ok (.iadd, 1) := by decide +kernel
theorem d_Int_bitCount_47 : decode b_Int_bitCount 47 = .ok (.istore_n 0, 1) := by decide +kernel
theorem d_Int_bitCount_48 : decode b_Int_bitCount 48 = .ok (.iload_n 0, 1) := by decide +kernel
theorem d_Int_bitCount_49 : decode b_Int_bitCount 49 = .ok (.bipush 63, 2) := by decide +kernel
theorem d_Int_bitCount_51 : decode b_Int_bitCount 51 = .ok (.iand, 1) := by decide +kernel
theorem d_Int_bitCount_52 : decode b_Int_bitCount 52 = .ok (.ireturn, 1) := by decide +kernel
set_option maxRecDepth 100000 in
set_option maxHeartbeats 4000000 in
theorem k_Int_bitCount (l : Launch) (D : va_G) (G : Nat → Nat) (Y : Nat → ClassId) {u : SM} {a1 : Int32} {r : Int32} {u' : SM} (hm : m_Int_bitCount u a1 = some (r, u')) : KI l D clz (tyz Y) (wdC G Y) y_Int_bitCount b_Int_bitCount 1 (some .int) 0 0 [.int a1] u r u' := by
  refine mkJ (by decide) (Nat.le_of_ble_eq_true rfl) ?_
  intro p e s m below meth c A Z ls C0 hP hD hS hl hret
  obtain ⟨hx, hb, hml, hown, hts, hK, hN, hA⟩ := id C0
  have hl : lv_has ls 1 [(0, .int a1)] := hl
  rw [m_Int_bitCount] at hm
  refine lv_iload_n hx hb d_Int_bitCount_0 rfl (lv_at hl 0 rfl) ?_
  refine lv_iload_n hx hb d_Int_bitCount_1 rfl (lv_at hl 0 rfl) ?_
  refine lv_iconst (v := (1 : Int32)) hx hb d_Int_bitCount_2 (by decide) ?_
  refine lv_iushr (v := (zIushr a1 (1 : Int32))) hx hb d_Int_bitCount_3 rfl ?_
  refine lv_ldcw (v := (1431655765 : Int32)) hx hb hown (hts _ q_216) d_Int_bitCount_4 ?_
  refine lv_iand hx hb d_Int_bitCount_7 ?_
  refine lv_isub hx hb d_Int_bitCount_8 ?_
  refine lv_istore_n (lv' := [(0, .int (a1 - ((zIushr a1 (1 : Int32)) &&& (1431655765 : Int32))))]) hx hb d_Int_bitCount_9 rfl hl (by decide) rfl (fun ls hl => ?_)
  refine lv_iload_n hx hb d_Int_bitCount_10 rfl (lv_at hl 0 rfl) ?_
  refine lv_ldcw (v := (858993459 : Int32)) hx hb hown (hts _ q_217) d_Int_bitCount_11 ?_
  refine lv_iand hx hb d_Int_bitCount_14 ?_
  refine lv_iload_n hx hb d_Int_bitCount_15 rfl (lv_at hl 0 rfl) ?_
  refine lv_iconst (v := (2 : Int32)) hx hb d_Int_bitCount_16 (by decide) ?_
  refine lv_iushr (v := (zIushr (a1 - ((zIushr a1 (1 : Int32)) &&& (1431655765 : Int32))) (2 : Int32))) hx hb d_Int_bitCount_17 rfl ?_
  refine lv_ldcw (v := (858993459 : Int32)) hx hb hown (hts _ q_217) d_Int_bitCount_18 ?_
  refine lv_iand hx hb d_Int_bitCount_21 ?_
  refine lv_iadd hx hb d_Int_bitCount_22 ?_
  refine lv_istore_n (lv' := [(0, .int (((a1 - ((zIushr a1 (1 : Int32)) &&& (1431655765 : Int32))) &&& (858993459 : Int32)) + ((zIushr (a1 - ((zIushr a1 (1 : Int32)) &&& (1431655765 : Int32))) (2 : Int32)) &&& (858993459 : Int32))))]) hx hb d_Int_bitCount_23 rfl hl (by decide) rfl (fun ls hl => ?_)
  refine lv_iload_n hx hb d_Int_bitCount_24 rfl (lv_at hl 0 rfl) ?_
  refine lv_iload_n hx hb d_Int_bitCount_25 rfl (lv_at hl 0 rfl) ?_
  refine lv_iconst (v := (4 : Int32)) hx hb d_Int_bitCount_26 (by decide) ?_
  refine lv_iushr (v := (zIushr (((a1 - ((zIushr a1 (1 : Int32)) &&& (1431655765 : Int32))) &&& (858993459 : Int32)) + ((zIushr (a1 - ((zIushr a1 (1 : Int32)) &&& (1431655765 : Int32))) (2 : Int32)) &&& (858993459 : Int32))) (4 : Int32))) hx hb d_Int_bitCount_27 rfl ?_
  refine lv_iadd hx hb d_Int_bitCount_28 ?_
  refine lv_ldcw (v := (252645135 : Int32)) hx hb hown (hts _ q_218) d_Int_bitCount_29 ?_
  refine lv_iand hx hb d_Int_bitCount_32 ?_
  refine lv_istore_n (lv' := [(0, .int (((((a1 - ((zIushr a1 (1 : Int32)) &&& (1431655765 : Int32))) &&& (858993459 : Int32)) + ((zIushr (a1 - ((zIushr a1 (1 : Int32)) &&& (1431655765 : Int32))) (2 : Int32)) &&& (858993459 : Int32))) + (zIushr (((a1 - ((zIushr a1 (1 : Int32)) &&& (1431655765 : Int32))) &&& (858993459 : Int32)) + ((zIushr (a1 - ((zIushr a1 (1 : Int32)) &&& (1431655765 : Int32))) (2 : Int32)) &&& (858993459 : Int32))) (4 : Int32))) &&& (252645135 : Int32)))]) hx hb d_Int_bitCount_33 rfl hl (by decide) rfl (fun ls hl => ?_)
  refine lv_iload_n hx hb d_Int_bitCount_34 rfl (lv_at hl 0 rfl) ?_
  refine lv_iload_n hx hb d_Int_bitCount_35 rfl (lv_at hl 0 rfl) ?_
  refine lv_bipush (v := (8 : Int32)) hx hb d_Int_bitCount_36 (by decide) ?_
  refine lv_iushr (v := (zIushr (((((a1 - ((zIushr a1 (1 : Int32)) &&& (1431655765 : Int32))) &&& (858993459 : Int32)) + ((zIushr (a1 - ((zIushr a1 (1 : Int32)) &&& (1431655765 : Int32))) (2 : Int32)) &&& (858993459 : Int32))) + (zIushr (((a1 - ((zIushr a1 (1 : Int32)) &&& (1431655765 : Int32))) &&& (858993459 : Int32)) + ((zIushr (a1 - ((zIushr a1 (1 : Int32)) &&& (1431655765 : Int32))) (2 : Int32)) &&& (858993459 : Int32))) (4 : Int32))) &&& (252645135 : Int32)) (8 : Int32))) hx hb d_Int_bitCount_38 rfl ?_
  refine lv_iadd hx hb d_Int_bitCount_39 ?_
  refine lv_istore_n (lv' := [(0, .int ((((((a1 - ((zIushr a1 (1 : Int32)) &&& (1431655765 : Int32))) &&& (858993459 : Int32)) + ((zIushr (a1 - ((zIushr a1 (1 : Int32)) &&& (1431655765 : Int32))) (2 : Int32)) &&& (858993459 : Int32))) + (zIushr (((a1 - ((zIushr a1 (1 : Int32)) &&& (1431655765 : Int32))) &&& (858993459 : Int32)) + ((zIushr (a1 - ((zIushr a1 (1 : Int32)) &&& (1431655765 : Int32))) (2 : Int32)) &&& (858993459 : Int32))) (4 : Int32))) &&& (252645135 : Int32)) + (zIushr (((((a1 - ((zIushr a1 (1 : Int32)) &&& (1431655765 : Int32))) &&& (858993459 : Int32)) + ((zIushr (a1 - ((zIushr a1 (1 : Int32)) &&& (1431655765 : Int32))) (2 : Int32)) &&& (858993459 : Int32))) + (zIushr (((a1 - ((zIushr a1 (1 : Int32)) &&& (1431655765 : Int32))) &&& (858993459 : Int32)) + ((zIushr (a1 - ((zIushr a1 (1 : Int32)) &&& (1431655765 : Int32))) (2 : Int32)) &&& (858993459 : Int32))) (4 : Int32))) &&& (252645135 : Int32)) (8 : Int32))))]) hx hb d_Int_bitCount_40 rfl hl (by decide) rfl (fun ls hl => ?_)
  refine lv_iload_n hx hb d_Int_bitCount_41 rfl (lv_at hl 0 rfl) ?_
  refine lv_iload_n hx hb d_Int_bitCount_42 rfl (lv_at hl 0 rfl) ?_
  refine lv_bipush (v := (16 : Int32)) hx hb d_Int_bitCount_43 (by decide) ?_
  refine lv_iushr (v := (zIushr ((((((a1 - ((zIushr a1 (1 : Int32)) &&& (1431655765 : Int32))) &&& (858993459 : Int32)) + ((zIushr (a1 - ((zIushr a1 (1 : Int32)) &&& (1431655765 : Int32))) (2 : Int32)) &&& (858993459 : Int32))) + (zIushr (((a1 - ((zIushr a1 (1 : Int32)) &&& (1431655765 : Int32))) &&& (858993459 : Int32)) + ((zIushr (a1 - ((zIushr a1 (1 : Int32)) &&& (1431655765 : Int32))) (2 : Int32)) &&& (858993459 : Int32))) (4 : Int32))) &&& (252645135 : Int32)) + (zIushr (((((a1 - ((zIushr a1 (1 : Int32)) &&& (1431655765 : Int32))) &&& (858993459 : Int32)) + ((zIushr (a1 - ((zIushr a1 (1 : Int32)) &&& (1431655765 : Int32))) (2 : Int32)) &&& (858993459 : Int32))) + (zIushr (((a1 - ((zIushr a1 (1 : Int32)) &&& (1431655765 : Int32))) &&& (858993459 : Int32)) + ((zIushr (a1 - ((zIushr a1 (1 : Int32)) &&& (1431655765 : Int32))) (2 : Int32)) &&& (858993459 : Int32))) (4 : Int32))) &&& (252645135 : Int32)) (8 : Int32))) (16 : Int32))) hx hb d_Int_bitCount_45 rfl ?_
  refine lv_iadd hx hb d_Int_bitCount_46 ?_
  refine lv_istore_n (lv' := [(0, .int (((((((a1 - ((zIushr a1 (1 : Int32)) &&& (1431655765 : Int32))) &&& (858993459 : Int32)) + ((zIushr (a1 - ((zIushr a1 (1 : Int32)) &&& (1431655765 : Int32))) (2 : Int32)) &&& (858993459 : Int32))) + (zIushr (((a1 - ((zIushr a1 (1 : Int32)) &&& (1431655765 : Int32))) &&& (858993459 : Int32)) + ((zIushr (a1 - ((zIushr a1 (1 : Int32)) &&& (1431655765 : Int32))) (2 : Int32)) &&& (858993459 : Int32))) (4 : Int32))) &&& (252645135 : Int32)) + (zIushr (((((a1 - ((zIushr a1 (1 : Int32)) &&& (1431655765 : Int32))) &&& (858993459 : Int32)) + ((zIushr (a1 - ((zIushr a1 (1 : Int32)) &&& (1431655765 : Int32))) (2 : Int32)) &&& (858993459 : Int32))) + (zIushr (((a1 - ((zIushr a1 (1 : Int32)) &&& (1431655765 : Int32))) &&& (858993459 : Int32)) + ((zIushr (a1 - ((zIushr a1 (1 : Int32)) &&& (1431655765 : Int32))) (2 : Int32)) &&& (858993459 : Int32))) (4 : Int32))) &&& (252645135 : Int32)) (8 : Int32))) + (zIushr ((((((a1 - ((zIushr a1 (1 : Int32)) &&& (1431655765 : Int32))) &&& (858993459 : Int32)) + ((zIushr (a1 - ((zIushr a1 (1 : Int32)) &&& (1431655765 : Int32))) (2 : Int32)) &&& (858993459 : Int32))) + (zIushr (((a1 - ((zIushr a1 (1 : Int32)) &&& (1431655765 : Int32))) &&& (858993459 : Int32)) + ((zIushr (a1 - ((zIushr a1 (1 : Int32)) &&& (1431655765 : Int32))) (2 : Int32)) &&& (858993459 : Int32))) (4 : Int32))) &&& (252645135 : Int32)) + (zIushr (((((a1 - ((zIushr a1 (1 : Int32)) &&& (1431655765 : Int32))) &&& (858993459 : Int32)) + ((zIushr (a1 - ((zIushr a1 (1 : Int32)) &&& (1431655765 : Int32))) (2 : Int32)) &&& (858993459 : Int32))) + (zIushr (((a1 - ((zIushr a1 (1 : Int32)) &&& (1431655765 : Int32))) &&& (858993459 : Int32)) + ((zIushr (a1 - ((zIushr a1 (1 : Int32)) &&& (1431655765 : Int32))) (2 : Int32)) &&& (858993459 : Int32))) (4 : Int32))) &&& (252645135 : Int32)) (8 : Int32))) (16 : Int32))))]) hx hb d_Int_bitCount_47 rfl hl (by decide) rfl (fun ls hl => ?_)
  refine lv_iload_n hx hb d_Int_bitCount_48 rfl (lv_at hl 0 rfl) ?_
  refine lv_bipush (v := (63 : Int32)) hx hb d_Int_bitCount_49 (by decide) ?_
  refine lv_iand hx hb d_Int_bitCount_51 ?_
  exact hret _ _ _ _ ((((((((a1 - ((zIushr a1 (1 : Int32)) &&& (1431655765 : Int32))) &&& (858993459 : Int32)) + ((zIushr (a1 - ((zIushr a1 (1 : Int32)) &&& (1431655765 : Int32))) (2 : Int32)) &&& (858993459 : Int32))) + (zIushr (((a1 - ((zIushr a1 (1 : Int32)) &&& (1431655765 : Int32))) &&& (858993459 : Int32)) + ((zIushr (a1 - ((zIushr a1 (1 : Int32)) &&& (1431655765 : Int32))) (2 : Int32)) &&& (858993459 : Int32))) (4 : Int32))) &&& (252645135 : Int32)) + (zIushr (((((a1 - ((zIushr a1 (1 : Int32)) &&& (1431655765 : Int32))) &&& (858993459 : Int32)) + ((zIushr (a1 - ((zIushr a1 (1 : Int32)) &&& (1431655765 : Int32))) (2 : Int32)) &&& (858993459 : Int32))) + (zIushr (((a1 - ((zIushr a1 (1 : Int32)) &&& (1431655765 : Int32))) &&& (858993459 : Int32)) + ((zIushr (a1 - ((zIushr a1 (1 : Int32)) &&& (1431655765 : Int32))) (2 : Int32)) &&& (858993459 : Int32))) (4 : Int32))) &&& (252645135 : Int32)) (8 : Int32))) + (zIushr ((((((a1 - ((zIushr a1 (1 : Int32)) &&& (1431655765 : Int32))) &&& (858993459 : Int32)) + ((zIushr (a1 - ((zIushr a1 (1 : Int32)) &&& (1431655765 : Int32))) (2 : Int32)) &&& (858993459 : Int32))) + (zIushr (((a1 - ((zIushr a1 (1 : Int32)) &&& (1431655765 : Int32))) &&& (858993459 : Int32)) + ((zIushr (a1 - ((zIushr a1 (1 : Int32)) &&& (1431655765 : Int32))) (2 : Int32)) &&& (858993459 : Int32))) (4 : Int32))) &&& (252645135 : Int32)) + (zIushr (((((a1 - ((zIushr a1 (1 : Int32)) &&& (1431655765 : Int32))) &&& (858993459 : Int32)) + ((zIushr (a1 - ((zIushr a1 (1 : Int32)) &&& (1431655765 : Int32))) (2 : Int32)) &&& (858993459 : Int32))) + (zIushr (((a1 - ((zIushr a1 (1 : Int32)) &&& (1431655765 : Int32))) &&& (858993459 : Int32)) + ((zIushr (a1 - ((zIushr a1 (1 : Int32)) &&& (1431655765 : Int32))) (2 : Int32)) &&& (858993459 : Int32))) (4 : Int32))) &&& (252645135 : Int32)) (8 : Int32))) (16 : Int32))) &&& (63 : Int32)) u (Option.some.inj hm) hP hD hS d_Int_bitCount_52
theorem d_Int_numberOfTrailingZeros_0 : decode b_Int_numberOfTrailingZeros 0 = .ok (.iload_n 0, 1) := by decide +kernel
theorem d_Int_numberOfTrailingZeros_1 : decode b_Int_numberOfTrailingZeros 1 = .ok (.iconst (-1), 1) := by decide +kernel
theorem d_Int_numberOfTrailingZeros_2 : decode b_Int_numberOfTrailingZeros 2 = .ok (.ixor, 1) := by decide +kernel
theorem d_Int_numberOfTrailingZeros_3 : decode b_Int_numberOfTrailingZeros 3 = .ok (.iload_n 0, 1) := by decide +kernel
theorem d_Int_numberOfTrailingZeros_4 : decode b_Int_numberOfTrailingZeros 4 = .ok (.iconst 1, 1) := by decide +kernel
theorem d_Int_numberOfTrailingZeros_5 : decode b_Int_numberOfTrailingZeros 5 = .ok (.isub, 1) := by decide +kernel
theorem d_Int_numberOfTrailingZeros_6 : decode b_Int_numberOfTrailingZeros 6 = .ok (.iand, 1) := by decide +kernel
theorem d_Int_numberOfTrailingZeros_7 : decode b_Int_numberOfTrailingZeros 7 = .ok (.istore_n 0, 1) := by decide +kernel
theorem d_Int_numberOfTrailingZeros_8 : decode b_Int_numberOfTrailingZeros 8 = .ok (.iload_n 0, 1) := by decide +kernel
theorem d_Int_numberOfTrailingZeros_9 : decode b_Int_numberOfTrailingZeros 9 = .ok (.ifCond .gt 8, 3) := by decide +kernel
theorem d_Int_numberOfTrailingZeros_12 : decode b_Int_numberOfTrailingZeros 12 = .ok (.iload_n 0, 1) := by decide +kernel
theorem d_Int_numberOfTrailingZeros_13 : decode b_Int_numberOfTrailingZeros 13 = .ok (.bipush 32, 2) := by decide +kernel
theorem d_Int_numberOfTrailingZeros_15 : decode b_Int_numberOfTrailingZeros 15 = .ok (.iand, 1) := by decide +kernel
theorem d_Int_numberOfTrailingZeros_16 : decode b_Int_numberOfTrailingZeros 16 = .ok (.ireturn, 1) := by decide +kernel
theorem d_Int_numberOfTrailingZeros_17 : decode b_Int_numberOfTrailingZeros 17 = .ok (.iconst 1, 1) := by decide +kernel
theorem d_Int_numberOfTrailingZeros_18 : decode b_Int_numberOfTrailingZeros 18 = .ok (.istore_n 1, 1) := by decide +kernel
theorem d_Int_numberOfTrailingZeros_19 : decode b_Int_numberOfTrailingZeros 19 = .ok (.iload_n 0, 1) := by decide +kernel
theorem d_Int_numberOfTrailingZeros_20 : decode b_Int_numberOfTrailingZeros 20 = .ok (.ldc_w 264, 3) := by decide +kernel
theorem d_Int_numberOfTrailingZeros_23 : decode b_Int_numberOfTrailingZeros 23 = .ok (.if_icmp .le 11, 3) := by decide +kernel
theorem d_Int_numberOfTrailingZeros_26 : decode b_Int_numberOfTrailingZeros 26 = .ok (.iinc 1 16, 3) := by decide +kernel
theorem d_Int_numberOfTrailingZeros_29 : decode b_Int_numberOfTrailingZeros 29 = .ok (.iload_n 0, 1) := by decide +kernel
theorem d_Int_numberOfTrailingZeros_30 : decode b_Int_numberOfTrailingZeros 30 = .ok (.bipush 16, 2) := by decide +kernel
theorem d_Int_numberOfTrailingZeros_32 : decode b_Int_numberOfTrailingZeros 32 = .ok (.iushr, 1) := by decide +kernel
theorem d_Int_numberOfTrailingZeros_33 : decode b_Int_numberOfTrailingZeros 33 = .ok (.istore_n 0, 1) := by decide +kernel
theorem d_Int_numberOfTrailingZeros_34 : decode b_Int_numberOfTrailingZeros 34 = .ok (.iload_n 0, 1) := by decide +kernel
theorem d_Int_numberOfTrailingZeros_35 : decode b_Int_numberOfTrailingZeros 35 = .ok (.sipush 256, 3) := by decide +kernel
theorem d_Int_numberOfTrailingZeros_38 : decode b_Int_numberOfTrailingZeros 38 = .ok (.if_icmp .le 11, 3) := by decide +kernel
theorem d_Int_numberOfTrailingZeros_41 : decode b_Int_numberOfTrailingZeros 41 = .ok (.iinc 1 8, 3) := by decide +kernel
theorem d_Int_numberOfTrailingZeros_44 : decode b_Int_numberOfTrailingZeros 44 = .ok (.iload_n 0, 1) := by decide +kernel
theorem d_Int_numberOfTrailingZeros_45 : decode b_Int_numberOfTrailingZeros 45 = .ok (.bipush 8, 2) := by decide +kernel
theorem d_Int_numberOfTrailingZeros_47 : decode b_Int_numberOfTrailingZeros 47 = .ok (.iushr, 1) := by decide +kernel
theorem d_Int_numberOfTrailingZeros_48 : decode b_Int_numberOfTrailingZeros 48 = .ok (.istore_n 0, 1) := by decide +kernel
theorem d_Int_numberOfTrailingZeros_49 : decode b_Int_numberOfTrailingZeros 49 = .ok (.iload_n 0, 1) := by decide +kernel
theorem d_Int_numberOfTrailingZeros_50 : decode b_Int_numberOfTrailingZeros 50 = .ok (.bipush 16, 2) := by decide +kernel
theorem d_Int_numberOfTrailingZeros_52 : decode b_Int_numberOfTrailingZeros 52 = .ok (.if_icmp .le 10, 3) := by decide +kernel
theorem d_Int_numberOfTrailingZeros_55 : decode b_Int_numberOfTrailingZeros 55 = .ok (.iinc 1 4, 3) := by decide +kernel
theorem d_Int_numberOfTrailingZeros_58 : decode b_Int_numberOfTrailingZeros 58 = .ok (.iload_n 0, 1) := by decide +kernel
theorem d_Int_numberOfTrailingZeros_59 : decode b_Int_numberOfTrailingZeros 59 = .ok (.iconst 4, 1) := by decide +kernel
theorem d_Int_numberOfTrailingZeros_60 : decode b_Int_numberOfTrailingZeros 60 = .ok (.iushr, 1) := by decide +kernel
theorem d_Int_numberOfTrailingZeros_61 : decode b_Int_numberOfTrailingZeros 61 = .ok (.istore_n 0, 1) := by decide +kernel
theorem d_Int_numberOfTrailingZeros_62 : decode b_Int_numberOfTrailingZeros 62 = .ok (.iload_n 0, 1) := by decide +kernel
theorem d_Int_numberOfTrailingZeros_63 : decode b_Int_numberOfTrailingZeros 63 = .ok (.iconst 4, 1) := by decide +kernel
theorem d_Int_numberOfTrailingZeros_64 : decode b_Int_numberOfTrailingZeros 64 = .ok (.if_icmp .le 10, 3) := by decide +kernel
theorem d_Int_numberOfTrailingZeros_67 : decode b_Int_numberOfTrailingZeros 67 = .ok (.iinc 1 2, 3) := by decide +kernel
theorem d_Int_numberOfTrailingZeros_70 : decode b_Int_numberOfTrailingZeros 70 = .ok (.iload_n 0, 1) := by decide +kernel
theorem d_Int_numberOfTrailingZeros_71 : decode b_Int_numberOfTrailingZeros 71 = .ok (.iconst 2, 1) := by decide +kernel
theorem d_Int_numberOfTrailingZeros_72 : decode b_Int_numberOfTrailingZeros 72 = .ok (.iushr, 1) := by decide +kernel
theorem d_Int_numberOfTrailingZeros_73 : decode b_Int_numberOfTrailingZeros 73 = .ok (.istore_n 0, 1) := by decide +kernel
theorem d_Int_numberOfTrailingZeros_74 : decode b_Int_numberOfTrailingZeros 74 = .ok (.iload_n 1, 1) := by decide +kernel
theorem d_Int_numberOfTrailingZeros_75 : decode b_Int_numberOfTrailingZeros 75 = .ok (.iload_n 0, 1) := by decide +kernel
theorem d_Int_numberOfTrailingZeros_76 : decode b_Int_numberOfTrailingZeros 76 = .ok (.iconst 1, 1) := by decide +kernel
theorem d_Int_numberOfTrailingZeros_77 : decode b_Int_numberOfTrailingZeros 77 = .ok (.iushr, 1) := by decide +kernel
theorem d_Int_numberOfTrailingZeros_78 : decode b_Int_numberOfTrailingZeros 78 = .ok (.iadd, 1) := by decide +kernel
theorem d_Int_numberOfTrailingZeros_79 : decode b_Int_numberOfTrailingZeros 79 = .ok (.ireturn, 1) := by decide +kernel
set_option maxRecDepth 100000 in
set_option maxHeartbeats 4000000 in
theorem k_Int_numberOfTrailingZeros (l : Launch) (D : va_G) (G : Nat → Nat) (Y : Nat → ClassId) {u : SM} {a1 : Int32} {r : Int32} {u' : SM} (hm : m_Int_numberOfTrailingZeros u a1 = some (r, u')) : KI l D clz (tyz Y) (wdC G Y) y_Int_numberOfTrailingZeros b_Int_numberOfTrailingZeros 2 (some .int) 0 0 [.int a1] u r u' := by
  refine mkJ (by decide) (Nat.le_of_ble_eq_true rfl) ?_
  intro p e s m below meth c A Z ls C0 hP hD hS hl hret
  obtain ⟨hx, hb, hml, hown, hts, hK, hN, hA⟩ := id C0
  have hl : lv_has ls 2 [(0, .int a1)] := hl
  have J62 : ∀ (ua : SM) (x0 : Int32) (x1 : Int32), m_Int_numberOfTrailingZeros_J62 ua x0 x1 = some (r, u') → ∀ (H : Heap) (locs : List Loc) (ls : Array Slot), va_P D clz (wdC G Y ua) H → va_D A (wdC G Y ua) → va_S A s.heap H locs → lv_has ls 2 [(0, .int x0), (1, .int x1)] → W p l e (zRm 0 0) s m ([.int a1] : List Value).toArray below meth c H locs 0 0 Z (F0 m 62 ls []) := by
    intro ua x0 x1 hm H locs ls hP hD hS hl
    rw [m_Int_numberOfTrailingZeros_J62] at hm
    refine lv_iload_n hx hb d_Int_numberOfTrailingZeros_62 rfl (lv_at hl 0 rfl) ?_
    refine lv_iconst (v := (4 : Int32)) hx hb d_Int_numberOfTrailingZeros_63 (by decide) ?_
    refine lv_icmp_le (tgt := 74) hx hb d_Int_numberOfTrailingZeros_64 (by decide) (fun hc => ?_) (fun hc => ?_)
    · rw [if_pos hc] at hm
      refine lv_iload_n hx hb d_Int_numberOfTrailingZeros_74 rfl (lv_at hl 1 rfl) ?_
      refine lv_iload_n hx hb d_Int_numberOfTrailingZeros_75 rfl (lv_at hl 0 rfl) ?_
      refine lv_iconst (v := (1 : Int32)) hx hb d_Int_numberOfTrailingZeros_76 (by decide) ?_
      refine lv_iushr (v := (zIushr x0 (1 : Int32))) hx hb d_Int_numberOfTrailingZeros_77 rfl ?_
      refine lv_iadd hx hb d_Int_numberOfTrailingZeros_78 ?_
      exact hret _ _ _ _ (x1 + (zIushr x0 (1 : Int32))) ua (Option.some.inj hm) hP hD hS d_Int_numberOfTrailingZeros_79
    · rw [if_neg hc] at hm
      refine lv_iinc (v := (x1 + (2 : Int32))) (lv' := [(1, .int (x1 + (2 : Int32))), (0, .int x0)]) hx hb d_Int_numberOfTrailingZeros_67 hl (k := 1) rfl rfl (by decide) rfl (fun ls hl => ?_)
      refine lv_iload_n hx hb d_Int_numberOfTrailingZeros_70 rfl (lv_at hl 1 rfl) ?_
      refine lv_iconst (v := (2 : Int32)) hx hb d_Int_numberOfTrailingZeros_71 (by decide) ?_
      refine lv_iushr (v := (zIushr x0 (2 : Int32))) hx hb d_Int_numberOfTrailingZeros_72 rfl ?_
      refine lv_istore_n (lv' := [(0, .int (zIushr x0 (2 : Int32))), (1, .int (x1 + (2 : Int32)))]) hx hb d_Int_numberOfTrailingZeros_73 rfl hl (by decide) rfl (fun ls hl => ?_)
      refine lv_iload_n hx hb d_Int_numberOfTrailingZeros_74 rfl (lv_at hl 1 rfl) ?_
      refine lv_iload_n hx hb d_Int_numberOfTrailingZeros_75 rfl (lv_at hl 0 rfl) ?_
      refine lv_iconst (v := (1 : Int32)) hx hb d_Int_numberOfTrailingZeros_76 (by decide) ?_
      refine lv_iushr (v := (zIushr (zIushr x0 (2 : Int32)) (1 : Int32))) hx hb d_Int_numberOfTrailingZeros_77 rfl ?_
      refine lv_iadd hx hb d_Int_numberOfTrailingZeros_78 ?_
      exact hret _ _ _ _ ((x1 + (2 : Int32)) + (zIushr (zIushr x0 (2 : Int32)) (1 : Int32))) ua (Option.some.inj hm) hP hD hS d_Int_numberOfTrailingZeros_79
  have J49 : ∀ (ua : SM) (x0 : Int32) (x1 : Int32), m_Int_numberOfTrailingZeros_J49 ua x0 x1 = some (r, u') → ∀ (H : Heap) (locs : List Loc) (ls : Array Slot), va_P D clz (wdC G Y ua) H → va_D A (wdC G Y ua) → va_S A s.heap H locs → lv_has ls 2 [(0, .int x0), (1, .int x1)] → W p l e (zRm 0 0) s m ([.int a1] : List Value).toArray below meth c H locs 0 0 Z (F0 m 49 ls []) := by
    intro ua x0 x1 hm H locs ls hP hD hS hl
    rw [m_Int_numberOfTrailingZeros_J49] at hm
    refine lv_iload_n hx hb d_Int_numberOfTrailingZeros_49 rfl (lv_at hl 0 rfl) ?_
    refine lv_bipush (v := (16 : Int32)) hx hb d_Int_numberOfTrailingZeros_50 (by decide) ?_
    refine lv_icmp_le (tgt := 62) hx hb d_Int_numberOfTrailingZeros_52 (by decide) (fun hc => ?_) (fun hc => ?_)
    · rw [if_pos hc] at hm
      exact J62 ua x0 x1 hm _ _ _ hP hD hS (lv_sub hl [0, 1] rfl)
    · rw [if_neg hc] at hm
      refine lv_iinc (v := (x1 + (4 : Int32))) (lv' := [(1, .int (x1 + (4 : Int32))), (0, .int x0)]) hx hb d_Int_numberOfTrailingZeros_55 hl (k := 1) rfl rfl (by decide) rfl (fun ls hl => ?_)
      refine lv_iload_n hx hb d_Int_numberOfTrailingZeros_58 rfl (lv_at hl 1 rfl) ?_
      refine lv_iconst (v := (4 : Int32)) hx hb d_Int_numberOfTrailingZeros_59 (by decide) ?_
      refine lv_iushr (v := (zIushr x0 (4 : Int32))) hx hb d_Int_numberOfTrailingZeros_60 rfl ?_
      refine lv_istore_n (lv' := [(0, .int (zIushr x0 (4 : Int32))), (1, .int (x1 + (4 : Int32)))]) hx hb d_Int_numberOfTrailingZeros_61 rfl hl (by decide) rfl (fun ls hl => ?_)
      exact J62 ua (zIushr x0 (4 : Int32)) (x1 + (4 : Int32)) hm _ _ _ hP hD hS (lv_sub hl [0, 1] rfl)
  have J34 : ∀ (ua : SM) (x0 : Int32) (x1 : Int32), m_Int_numberOfTrailingZeros_J34 ua x0 x1 = some (r, u') → ∀ (H : Heap) (locs : List Loc) (ls : Array Slot), va_P D clz (wdC G Y ua) H → va_D A (wdC G Y ua) → va_S A s.heap H locs → lv_has ls 2 [(0, .int x0), (1, .int x1)] → W p l e (zRm 0 0) s m ([.int a1] : List Value).toArray below meth c H locs 0 0 Z (F0 m 34 ls []) := by
    intro ua x0 x1 hm H locs ls hP hD hS hl
    rw [m_Int_numberOfTrailingZeros_J34] at hm
    refine lv_iload_n hx hb d_Int_numberOfTrailingZeros_34 rfl (lv_at hl 0 rfl) ?_
    refine lv_sipush (v := (256 : Int32)) hx hb d_Int_numberOfTrailingZeros_35 (by decide) ?_
    refine lv_icmp_le (tgt := 49) hx hb d_Int_numberOfTrailingZeros_38 (by decide) (fun hc => ?_) (fun hc => ?_)
    · rw [if_pos hc] at hm
      exact J49 ua x0 x1 hm _ _ _ hP hD hS (lv_sub hl [0, 1] rfl)
    · rw [if_neg hc] at hm
      refine lv_iinc (v := (x1 + (8 : Int32))) (lv' := [(1, .int (x1 + (8 : Int32))), (0, .int x0)]) hx hb d_Int_numberOfTrailingZeros_41 hl (k := 1) rfl rfl (by decide) rfl (fun ls hl => ?_)
      refine lv_iload_n hx hb d_Int_numberOfTrailingZeros_44 rfl (lv_at hl 1 rfl) ?_
      refine lv_bipush (v := (8 : Int32)) hx hb d_Int_numberOfTrailingZeros_45 (by decide) ?_
      refine lv_iushr (v := (zIushr x0 (8 : Int32))) hx hb d_Int_numberOfTrailingZeros_47 rfl ?_
      refine lv_istore_n (lv' := [(0, .int (zIushr x0 (8 : Int32))), (1, .int (x1 + (8 : Int32)))]) hx hb d_Int_numberOfTrailingZeros_48 rfl hl (by decide) rfl (fun ls hl => ?_)
      exact J49 ua (zIushr x0 (8 : Int32)) (x1 + (8 : Int32)) hm _ _ _ hP hD hS (lv_sub hl [0, 1] rfl)
  rw [m_Int_numberOfTrailingZeros] at hm
  refine lv_iload_n hx hb d_Int_numberOfTrailingZeros_0 rfl (lv_at hl 0 rfl) ?_
  refine lv_iconst (v := (-1 : Int32)) hx hb d_Int_numberOfTrailingZeros_1 (by decide) ?_
  refine lv_ixor hx hb d_Int_numberOfTrailingZeros_2 ?_
  refine lv_iload_n hx hb d_Int_numberOfTrailingZeros_3 rfl (lv_at hl 0 rfl) ?_
  refine lv_iconst (v := (1 : Int32)) hx hb d_Int_numberOfTrailingZeros_4 (by decide) ?_
  refine lv_isub hx hb d_Int_numberOfTrailingZeros_5 ?_
  refine lv_iand hx hb d_Int_numberOfTrailingZeros_6 ?_
  refine lv_istore_n (lv' := [(0, .int ((a1 ^^^ (-1 : Int32)) &&& (a1 - (1 : Int32))))]) hx hb d_Int_numberOfTrailingZeros_7 rfl hl (by decide) rfl (fun ls hl => ?_)
  refine lv_iload_n hx hb d_Int_numberOfTrailingZeros_8 rfl (lv_at hl 0 rfl) ?_
  refine lv_if_gt (tgt := 17) hx hb d_Int_numberOfTrailingZeros_9 (by decide) (fun hc => ?_) (fun hc => ?_)
  · rw [if_pos hc] at hm
    refine lv_iconst (v := (1 : Int32)) hx hb d_Int_numberOfTrailingZeros_17 (by decide) ?_
    refine lv_istore_n (lv' := [(1, .int (1 : Int32)), (0, .int ((a1 ^^^ (-1 : Int32)) &&& (a1 - (1 : Int32))))]) hx hb d_Int_numberOfTrailingZeros_18 rfl hl (by decide) rfl (fun ls hl => ?_)
    refine lv_iload_n hx hb d_Int_numberOfTrailingZeros_19 rfl (lv_at hl 1 rfl) ?_
    refine lv_ldcw (v := (65536 : Int32)) hx hb hown (hts _ q_208) d_Int_numberOfTrailingZeros_20 ?_
    refine lv_icmp_le (tgt := 34) hx hb d_Int_numberOfTrailingZeros_23 (by decide) (fun hc => ?_) (fun hc => ?_)
    · rw [if_pos hc] at hm
      exact J34 u ((a1 ^^^ (-1 : Int32)) &&& (a1 - (1 : Int32))) (1 : Int32) hm _ _ _ hP hD hS (lv_sub hl [1, 0] rfl)
    · rw [if_neg hc] at hm
      refine lv_iinc (v := ((1 : Int32) + (16 : Int32))) (lv' := [(1, .int ((1 : Int32) + (16 : Int32))), (0, .int ((a1 ^^^ (-1 : Int32)) &&& (a1 - (1 : Int32))))]) hx hb d_Int_numberOfTrailingZeros_26 hl (k := 0) rfl rfl (by decide) rfl (fun ls hl => ?_)
      refine lv_iload_n hx hb d_Int_numberOfTrailingZeros_29 rfl (lv_at hl 1 rfl) ?_
      refine lv_bipush (v := (16 : Int32)) hx hb d_Int_numberOfTrailingZeros_30 (by decide) ?_
      refine lv_iushr (v := (zIushr ((a1 ^^^ (-1 : Int32)) &&& (a1 - (1 : Int32))) (16 : Int32))) hx hb d_Int_numberOfTrailingZeros_32 rfl ?_
      refine lv_istore_n (lv' := [(0, .int (zIushr ((a1 ^^^ (-1 : Int32)) &&& (a1 - (1 : Int32))) (16 : Int32))), (1, .int ((1 : Int32) + (16 : Int32)))]) hx hb d_Int_numberOfTrailingZeros_33 rfl hl (by decide) rfl (fun ls hl => ?_)
      exact J34 u (zIushr ((a1 ^^^ (-1 : Int32)) &&& (a1 - (1 : Int32))) (16 : Int32)) ((1 : Int32) + (16 : Int32)) hm _ _ _ hP hD hS (lv_sub hl [0, 1] rfl)
  · rw [if_neg hc] at hm
    refine lv_iload_n hx hb d_Int_numberOfTrailingZeros_12 rfl (lv_at hl 0 rfl) ?_
    refine lv_bipush (v := (32 : Int32)) hx hb d_Int_numberOfTrailingZeros_13 (by decide) ?_
    refine lv_iand hx hb d_Int_numberOfTrailingZeros_15 ?_
    exact hret _ _ _ _ (((a1 ^^^ (-1 : Int32)) &&& (a1 - (1 : Int32))) &&& (32 : Int32)) u (Option.some.inj hm) hP hD hS d_Int_numberOfTrailingZeros_16
end
