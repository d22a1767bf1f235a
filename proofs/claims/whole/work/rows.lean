section
-- ===== PART A: goes FIRST, ahead of the names: the tables' words, and 'selects' of the private methods out of them =====
/-- a private method of a class that the tables say can be made, by its rows of tables_1 -/
def lw_okq (q : MethodName × Nat) : Prop := (q.1.cls ≠ "java/lang/invoke/MethodHandle" ∧ q.1.cls ≠ "java/lang/invoke/VarHandle") ∧ Cond.instantiable q.1.cls q.2 ∈ tables_1 ∧ Cond.privateMethod q.1 ∈ tables_1 ∧ Cond.instanceMethod q.1 ∈ tables_1
theorem lw_p0 : lw_okq (⟨"FirmStore$Tree", "firstOf", "(I)I"⟩, 2) := ⟨⟨by decide +kernel, by decide +kernel⟩, List.mem_of_getElem? (i := 68) (by decide +kernel), List.mem_of_getElem? (i := 126) (by decide +kernel), List.mem_of_getElem? (i := 127) (by decide +kernel)⟩
theorem lw_p1 : lw_okq (⟨"FirmStore$Tree", "endOf", "(I)I"⟩, 2) := ⟨⟨by decide +kernel, by decide +kernel⟩, List.mem_of_getElem? (i := 68) (by decide +kernel), List.mem_of_getElem? (i := 154) (by decide +kernel), List.mem_of_getElem? (i := 155) (by decide +kernel)⟩
theorem lw_p2 : lw_okq (⟨"FirmStore$Tree", "keyAt", "(II)I"⟩, 2) := ⟨⟨by decide +kernel, by decide +kernel⟩, List.mem_of_getElem? (i := 68) (by decide +kernel), List.mem_of_getElem? (i := 170) (by decide +kernel), List.mem_of_getElem? (i := 171) (by decide +kernel)⟩
theorem lw_p3 : lw_okq (⟨"FirmStore$Table", "countEntries", "(I)I"⟩, 2) := ⟨⟨by decide +kernel, by decide +kernel⟩, List.mem_of_getElem? (i := 81) (by decide +kernel), List.mem_of_getElem? (i := 186) (by decide +kernel), List.mem_of_getElem? (i := 187) (by decide +kernel)⟩
theorem lw_p4 : lw_okq (⟨"FirmStore$Blocks", "freeSet", "()I"⟩, 1) := ⟨⟨by decide +kernel, by decide +kernel⟩, List.mem_of_getElem? (i := 58) (by decide +kernel), List.mem_of_getElem? (i := 200) (by decide +kernel), List.mem_of_getElem? (i := 201) (by decide +kernel)⟩
theorem lw_p5 : lw_okq (⟨"java/lang/Throwable", "fillInStackTrace", "(I)Ljava/lang/Throwable;"⟩, 6) := ⟨⟨by decide +kernel, by decide +kernel⟩, List.mem_of_getElem? (i := 291) (by decide +kernel), List.mem_of_getElem? (i := 289) (by decide +kernel), List.mem_of_getElem? (i := 290) (by decide +kernel)⟩
theorem lw_p6 : lw_okq (⟨"FirmStore$Tree", "plant", "(J)I"⟩, 2) := ⟨⟨by decide +kernel, by decide +kernel⟩, List.mem_of_getElem? (i := 68) (by decide +kernel), List.mem_of_getElem? (i := 339) (by decide +kernel), List.mem_of_getElem? (i := 340) (by decide +kernel)⟩
theorem lw_p7 : lw_okq (⟨"FirmStore$Memory", "cutPower", "()V"⟩, 8) := ⟨⟨by decide +kernel, by decide +kernel⟩, List.mem_of_getElem? (i := 23) (by decide +kernel), List.mem_of_getElem? (i := 352) (by decide +kernel), List.mem_of_getElem? (i := 353) (by decide +kernel)⟩
theorem lw_p8 : lw_okq (⟨"FirmStore$Tree", "find", "(II)I"⟩, 2) := ⟨⟨by decide +kernel, by decide +kernel⟩, List.mem_of_getElem? (i := 68) (by decide +kernel), List.mem_of_getElem? (i := 370) (by decide +kernel), List.mem_of_getElem? (i := 371) (by decide +kernel)⟩
theorem lw_p9 : lw_okq (⟨"FirmStore$Tree", "childFor", "(II)I"⟩, 2) := ⟨⟨by decide +kernel, by decide +kernel⟩, List.mem_of_getElem? (i := 68) (by decide +kernel), List.mem_of_getElem? (i := 374) (by decide +kernel), List.mem_of_getElem? (i := 375) (by decide +kernel)⟩
theorem lw_p10 : lw_okq (⟨"FirmStore$Tree", "countLesser", "(II)I"⟩, 2) := ⟨⟨by decide +kernel, by decide +kernel⟩, List.mem_of_getElem? (i := 68) (by decide +kernel), List.mem_of_getElem? (i := 378) (by decide +kernel), List.mem_of_getElem? (i := 379) (by decide +kernel)⟩
theorem lw_p11 : lw_okq (⟨"FirmStore$Tree", "blocksToSplit", "(I)I"⟩, 2) := ⟨⟨by decide +kernel, by decide +kernel⟩, List.mem_of_getElem? (i := 68) (by decide +kernel), List.mem_of_getElem? (i := 390) (by decide +kernel), List.mem_of_getElem? (i := 391) (by decide +kernel)⟩
theorem lw_p12 : lw_okq (⟨"FirmStore$Tree", "split", "(I)I"⟩, 2) := ⟨⟨by decide +kernel, by decide +kernel⟩, List.mem_of_getElem? (i := 68) (by decide +kernel), List.mem_of_getElem? (i := 395) (by decide +kernel), List.mem_of_getElem? (i := 396) (by decide +kernel)⟩
theorem lw_p13 : lw_okq (⟨"FirmStore$Tree", "hang", "(II)Z"⟩, 2) := ⟨⟨by decide +kernel, by decide +kernel⟩, List.mem_of_getElem? (i := 68) (by decide +kernel), List.mem_of_getElem? (i := 406) (by decide +kernel), List.mem_of_getElem? (i := 407) (by decide +kernel)⟩
theorem lw_p14 : lw_okq (⟨"FirmStore$Tree", "raise", "(II)Z"⟩, 2) := ⟨⟨by decide +kernel, by decide +kernel⟩, List.mem_of_getElem? (i := 68) (by decide +kernel), List.mem_of_getElem? (i := 410) (by decide +kernel), List.mem_of_getElem? (i := 411) (by decide +kernel)⟩
theorem lw_p15 : lw_okq (⟨"FirmStore$Tree", "insert", "(IJ)Z"⟩, 2) := ⟨⟨by decide +kernel, by decide +kernel⟩, List.mem_of_getElem? (i := 68) (by decide +kernel), List.mem_of_getElem? (i := 414) (by decide +kernel), List.mem_of_getElem? (i := 415) (by decide +kernel)⟩
def lw_privs_1 : List (MethodName × Nat) := [(⟨"FirmStore$Tree", "firstOf", "(I)I"⟩, 2), (⟨"FirmStore$Tree", "endOf", "(I)I"⟩, 2), (⟨"FirmStore$Tree", "keyAt", "(II)I"⟩, 2), (⟨"FirmStore$Table", "countEntries", "(I)I"⟩, 2), (⟨"FirmStore$Blocks", "freeSet", "()I"⟩, 1), (⟨"java/lang/Throwable", "fillInStackTrace", "(I)Ljava/lang/Throwable;"⟩, 6), (⟨"FirmStore$Tree", "plant", "(J)I"⟩, 2), (⟨"FirmStore$Memory", "cutPower", "()V"⟩, 8), (⟨"FirmStore$Tree", "find", "(II)I"⟩, 2), (⟨"FirmStore$Tree", "childFor", "(II)I"⟩, 2), (⟨"FirmStore$Tree", "countLesser", "(II)I"⟩, 2), (⟨"FirmStore$Tree", "blocksToSplit", "(I)I"⟩, 2), (⟨"FirmStore$Tree", "split", "(I)I"⟩, 2), (⟨"FirmStore$Tree", "hang", "(II)Z"⟩, 2), (⟨"FirmStore$Tree", "raise", "(II)Z"⟩, 2), (⟨"FirmStore$Tree", "insert", "(IJ)Z"⟩, 2)]
theorem lw_r1 : ∀ q ∈ lw_privs_1, lw_okq q := List.forall_mem_cons.mpr ⟨lw_p0, List.forall_mem_cons.mpr ⟨lw_p1, List.forall_mem_cons.mpr ⟨lw_p2, List.forall_mem_cons.mpr ⟨lw_p3, List.forall_mem_cons.mpr ⟨lw_p4, List.forall_mem_cons.mpr ⟨lw_p5, List.forall_mem_cons.mpr ⟨lw_p6, List.forall_mem_cons.mpr ⟨lw_p7, List.forall_mem_cons.mpr ⟨lw_p8, List.forall_mem_cons.mpr ⟨lw_p9, List.forall_mem_cons.mpr ⟨lw_p10, List.forall_mem_cons.mpr ⟨lw_p11, List.forall_mem_cons.mpr ⟨lw_p12, List.forall_mem_cons.mpr ⟨lw_p13, List.forall_mem_cons.mpr ⟨lw_p14, List.forall_mem_cons.mpr ⟨lw_p15, fun _ h => absurd h List.not_mem_nil⟩⟩⟩⟩⟩⟩⟩⟩⟩⟩⟩⟩⟩⟩⟩⟩
theorem lw_p16 : lw_okq (⟨"FirmStore$Table", "headOf", "(I)I"⟩, 2) := ⟨⟨by decide +kernel, by decide +kernel⟩, List.mem_of_getElem? (i := 81) (by decide +kernel), List.mem_of_getElem? (i := 427) (by decide +kernel), List.mem_of_getElem? (i := 428) (by decide +kernel)⟩
theorem lw_p17 : lw_okq (⟨"FirmStore$Table", "seekInChain", "(II)I"⟩, 2) := ⟨⟨by decide +kernel, by decide +kernel⟩, List.mem_of_getElem? (i := 81) (by decide +kernel), List.mem_of_getElem? (i := 431) (by decide +kernel), List.mem_of_getElem? (i := 432) (by decide +kernel)⟩
theorem lw_p18 : lw_okq (⟨"FirmStore", "addressOf", "(II)I"⟩, 4) := ⟨⟨by decide +kernel, by decide +kernel⟩, List.mem_of_getElem? (i := 15) (by decide +kernel), List.mem_of_getElem? (i := 448) (by decide +kernel), List.mem_of_getElem? (i := 449) (by decide +kernel)⟩
theorem lw_p19 : lw_okq (⟨"FirmStore$Tree", "dropPlace", "(II)Z"⟩, 2) := ⟨⟨by decide +kernel, by decide +kernel⟩, List.mem_of_getElem? (i := 68) (by decide +kernel), List.mem_of_getElem? (i := 473) (by decide +kernel), List.mem_of_getElem? (i := 474) (by decide +kernel)⟩
theorem lw_p20 : lw_okq (⟨"FirmStore$Tree", "clearWrong", "(I)Z"⟩, 2) := ⟨⟨by decide +kernel, by decide +kernel⟩, List.mem_of_getElem? (i := 68) (by decide +kernel), List.mem_of_getElem? (i := 508) (by decide +kernel), List.mem_of_getElem? (i := 509) (by decide +kernel)⟩
theorem lw_p21 : lw_okq (⟨"FirmStore$Tree", "isWrong", "(II)Z"⟩, 2) := ⟨⟨by decide +kernel, by decide +kernel⟩, List.mem_of_getElem? (i := 68) (by decide +kernel), List.mem_of_getElem? (i := 512) (by decide +kernel), List.mem_of_getElem? (i := 513) (by decide +kernel)⟩
theorem lw_p22 : lw_okq (⟨"FirmStore$Tree", "dropTwins", "(I)Z"⟩, 2) := ⟨⟨by decide +kernel, by decide +kernel⟩, List.mem_of_getElem? (i := 68) (by decide +kernel), List.mem_of_getElem? (i := 516) (by decide +kernel), List.mem_of_getElem? (i := 517) (by decide +kernel)⟩
theorem lw_p23 : lw_okq (⟨"FirmStore$Tree", "secondTwin", "(I)I"⟩, 2) := ⟨⟨by decide +kernel, by decide +kernel⟩, List.mem_of_getElem? (i := 68) (by decide +kernel), List.mem_of_getElem? (i := 520) (by decide +kernel), List.mem_of_getElem? (i := 521) (by decide +kernel)⟩
theorem lw_p24 : lw_okq (⟨"FirmStore$Tree", "isHung", "(II)Z"⟩, 2) := ⟨⟨by decide +kernel, by decide +kernel⟩, List.mem_of_getElem? (i := 68) (by decide +kernel), List.mem_of_getElem? (i := 528) (by decide +kernel), List.mem_of_getElem? (i := 529) (by decide +kernel)⟩
theorem lw_p25 : lw_okq (⟨"FirmStoreModel", "putTree", "(II)I"⟩, 12) := ⟨⟨by decide +kernel, by decide +kernel⟩, List.mem_of_getElem? (i := 532) (by decide +kernel), List.mem_of_getElem? (i := 587) (by decide +kernel), List.mem_of_getElem? (i := 588) (by decide +kernel)⟩
theorem lw_p26 : lw_okq (⟨"FirmStoreModel", "root", "()I"⟩, 12) := ⟨⟨by decide +kernel, by decide +kernel⟩, List.mem_of_getElem? (i := 532) (by decide +kernel), List.mem_of_getElem? (i := 591) (by decide +kernel), List.mem_of_getElem? (i := 592) (by decide +kernel)⟩
theorem lw_p27 : lw_okq (⟨"FirmStoreModel", "countFree", "()I"⟩, 12) := ⟨⟨by decide +kernel, by decide +kernel⟩, List.mem_of_getElem? (i := 532) (by decide +kernel), List.mem_of_getElem? (i := 595) (by decide +kernel), List.mem_of_getElem? (i := 596) (by decide +kernel)⟩
theorem lw_p28 : lw_okq (⟨"FirmStoreModel", "mark", "()V"⟩, 12) := ⟨⟨by decide +kernel, by decide +kernel⟩, List.mem_of_getElem? (i := 532) (by decide +kernel), List.mem_of_getElem? (i := 599) (by decide +kernel), List.mem_of_getElem? (i := 600) (by decide +kernel)⟩
theorem lw_p29 : lw_okq (⟨"FirmStoreModel", "reach", "(I)Z"⟩, 12) := ⟨⟨by decide +kernel, by decide +kernel⟩, List.mem_of_getElem? (i := 532) (by decide +kernel), List.mem_of_getElem? (i := 603) (by decide +kernel), List.mem_of_getElem? (i := 604) (by decide +kernel)⟩
theorem lw_p30 : lw_okq (⟨"FirmStoreModel", "next", "(I)I"⟩, 12) := ⟨⟨by decide +kernel, by decide +kernel⟩, List.mem_of_getElem? (i := 532) (by decide +kernel), List.mem_of_getElem? (i := 607) (by decide +kernel), List.mem_of_getElem? (i := 608) (by decide +kernel)⟩
theorem lw_p31 : lw_okq (⟨"FirmStoreModel", "level", "(I)I"⟩, 12) := ⟨⟨by decide +kernel, by decide +kernel⟩, List.mem_of_getElem? (i := 532) (by decide +kernel), List.mem_of_getElem? (i := 611) (by decide +kernel), List.mem_of_getElem? (i := 612) (by decide +kernel)⟩
def lw_privs_2 : List (MethodName × Nat) := [(⟨"FirmStore$Table", "headOf", "(I)I"⟩, 2), (⟨"FirmStore$Table", "seekInChain", "(II)I"⟩, 2), (⟨"FirmStore", "addressOf", "(II)I"⟩, 4), (⟨"FirmStore$Tree", "dropPlace", "(II)Z"⟩, 2), (⟨"FirmStore$Tree", "clearWrong", "(I)Z"⟩, 2), (⟨"FirmStore$Tree", "isWrong", "(II)Z"⟩, 2), (⟨"FirmStore$Tree", "dropTwins", "(I)Z"⟩, 2), (⟨"FirmStore$Tree", "secondTwin", "(I)I"⟩, 2), (⟨"FirmStore$Tree", "isHung", "(II)Z"⟩, 2), (⟨"FirmStoreModel", "putTree", "(II)I"⟩, 12), (⟨"FirmStoreModel", "root", "()I"⟩, 12), (⟨"FirmStoreModel", "countFree", "()I"⟩, 12), (⟨"FirmStoreModel", "mark", "()V"⟩, 12), (⟨"FirmStoreModel", "reach", "(I)Z"⟩, 12), (⟨"FirmStoreModel", "next", "(I)I"⟩, 12), (⟨"FirmStoreModel", "level", "(I)I"⟩, 12)]
theorem lw_r2 : ∀ q ∈ lw_privs_2, lw_okq q := List.forall_mem_cons.mpr ⟨lw_p16, List.forall_mem_cons.mpr ⟨lw_p17, List.forall_mem_cons.mpr ⟨lw_p18, List.forall_mem_cons.mpr ⟨lw_p19, List.forall_mem_cons.mpr ⟨lw_p20, List.forall_mem_cons.mpr ⟨lw_p21, List.forall_mem_cons.mpr ⟨lw_p22, List.forall_mem_cons.mpr ⟨lw_p23, List.forall_mem_cons.mpr ⟨lw_p24, List.forall_mem_cons.mpr ⟨lw_p25, List.forall_mem_cons.mpr ⟨lw_p26, List.forall_mem_cons.mpr ⟨lw_p27, List.forall_mem_cons.mpr ⟨lw_p28, List.forall_mem_cons.mpr ⟨lw_p29, List.forall_mem_cons.mpr ⟨lw_p30, List.forall_mem_cons.mpr ⟨lw_p31, fun _ h => absurd h List.not_mem_nil⟩⟩⟩⟩⟩⟩⟩⟩⟩⟩⟩⟩⟩⟩⟩⟩
theorem lw_p32 : lw_okq (⟨"FirmStoreModel", "length", "(I)I"⟩, 12) := ⟨⟨by decide +kernel, by decide +kernel⟩, List.mem_of_getElem? (i := 532) (by decide +kernel), List.mem_of_getElem? (i := 615) (by decide +kernel), List.mem_of_getElem? (i := 616) (by decide +kernel)⟩
theorem lw_p33 : lw_okq (⟨"FirmStoreModel", "at", "(II)J"⟩, 12) := ⟨⟨by decide +kernel, by decide +kernel⟩, List.mem_of_getElem? (i := 532) (by decide +kernel), List.mem_of_getElem? (i := 619) (by decide +kernel), List.mem_of_getElem? (i := 620) (by decide +kernel)⟩
theorem lw_p34 : lw_okq (⟨"FirmStoreModel", "blockAt", "(II)I"⟩, 12) := ⟨⟨by decide +kernel, by decide +kernel⟩, List.mem_of_getElem? (i := 532) (by decide +kernel), List.mem_of_getElem? (i := 623) (by decide +kernel), List.mem_of_getElem? (i := 624) (by decide +kernel)⟩
theorem lw_p35 : lw_okq (⟨"FirmStoreModel", "make", "(IIIJJJ)I"⟩, 12) := ⟨⟨by decide +kernel, by decide +kernel⟩, List.mem_of_getElem? (i := 532) (by decide +kernel), List.mem_of_getElem? (i := 632) (by decide +kernel), List.mem_of_getElem? (i := 633) (by decide +kernel)⟩
theorem lw_p36 : lw_okq (⟨"FirmStoreModel", "store", "(IJ)V"⟩, 12) := ⟨⟨by decide +kernel, by decide +kernel⟩, List.mem_of_getElem? (i := 532) (by decide +kernel), List.mem_of_getElem? (i := 636) (by decide +kernel), List.mem_of_getElem? (i := 637) (by decide +kernel)⟩
theorem lw_p37 : lw_okq (⟨"FirmStoreModel", "cutNow", "()V"⟩, 12) := ⟨⟨by decide +kernel, by decide +kernel⟩, List.mem_of_getElem? (i := 532) (by decide +kernel), List.mem_of_getElem? (i := 640) (by decide +kernel), List.mem_of_getElem? (i := 641) (by decide +kernel)⟩
theorem lw_p38 : lw_okq (⟨"FirmStoreModel", "fence", "()V"⟩, 12) := ⟨⟨by decide +kernel, by decide +kernel⟩, List.mem_of_getElem? (i := 532) (by decide +kernel), List.mem_of_getElem? (i := 644) (by decide +kernel), List.mem_of_getElem? (i := 645) (by decide +kernel)⟩
theorem lw_p39 : lw_okq (⟨"FirmStoreModel", "firm", "(IJ)V"⟩, 12) := ⟨⟨by decide +kernel, by decide +kernel⟩, List.mem_of_getElem? (i := 532) (by decide +kernel), List.mem_of_getElem? (i := 648) (by decide +kernel), List.mem_of_getElem? (i := 649) (by decide +kernel)⟩
theorem lw_p40 : lw_okq (⟨"FirmStoreModel", "find", "(II)I"⟩, 12) := ⟨⟨by decide +kernel, by decide +kernel⟩, List.mem_of_getElem? (i := 532) (by decide +kernel), List.mem_of_getElem? (i := 652) (by decide +kernel), List.mem_of_getElem? (i := 653) (by decide +kernel)⟩
theorem lw_p41 : lw_okq (⟨"FirmStoreModel", "low", "(I)I"⟩, 12) := ⟨⟨by decide +kernel, by decide +kernel⟩, List.mem_of_getElem? (i := 532) (by decide +kernel), List.mem_of_getElem? (i := 656) (by decide +kernel), List.mem_of_getElem? (i := 657) (by decide +kernel)⟩
theorem lw_p42 : lw_okq (⟨"FirmStoreModel", "below", "(II)I"⟩, 12) := ⟨⟨by decide +kernel, by decide +kernel⟩, List.mem_of_getElem? (i := 532) (by decide +kernel), List.mem_of_getElem? (i := 660) (by decide +kernel), List.mem_of_getElem? (i := 661) (by decide +kernel)⟩
theorem lw_p43 : lw_okq (⟨"FirmStoreModel", "keyAt", "(II)I"⟩, 12) := ⟨⟨by decide +kernel, by decide +kernel⟩, List.mem_of_getElem? (i := 532) (by decide +kernel), List.mem_of_getElem? (i := 664) (by decide +kernel), List.mem_of_getElem? (i := 665) (by decide +kernel)⟩
theorem lw_p44 : lw_okq (⟨"FirmStoreModel", "placeIn", "(II)I"⟩, 12) := ⟨⟨by decide +kernel, by decide +kernel⟩, List.mem_of_getElem? (i := 532) (by decide +kernel), List.mem_of_getElem? (i := 671) (by decide +kernel), List.mem_of_getElem? (i := 672) (by decide +kernel)⟩
theorem lw_p45 : lw_okq (⟨"FirmStoreModel", "needed", "(I)I"⟩, 12) := ⟨⟨by decide +kernel, by decide +kernel⟩, List.mem_of_getElem? (i := 532) (by decide +kernel), List.mem_of_getElem? (i := 675) (by decide +kernel), List.mem_of_getElem? (i := 676) (by decide +kernel)⟩
theorem lw_p46 : lw_okq (⟨"FirmStoreModel", "split", "(I)I"⟩, 12) := ⟨⟨by decide +kernel, by decide +kernel⟩, List.mem_of_getElem? (i := 532) (by decide +kernel), List.mem_of_getElem? (i := 679) (by decide +kernel), List.mem_of_getElem? (i := 680) (by decide +kernel)⟩
theorem lw_p47 : lw_okq (⟨"FirmStoreModel", "hang", "(II)V"⟩, 12) := ⟨⟨by decide +kernel, by decide +kernel⟩, List.mem_of_getElem? (i := 532) (by decide +kernel), List.mem_of_getElem? (i := 683) (by decide +kernel), List.mem_of_getElem? (i := 684) (by decide +kernel)⟩
def lw_privs_3 : List (MethodName × Nat) := [(⟨"FirmStoreModel", "length", "(I)I"⟩, 12), (⟨"FirmStoreModel", "at", "(II)J"⟩, 12), (⟨"FirmStoreModel", "blockAt", "(II)I"⟩, 12), (⟨"FirmStoreModel", "make", "(IIIJJJ)I"⟩, 12), (⟨"FirmStoreModel", "store", "(IJ)V"⟩, 12), (⟨"FirmStoreModel", "cutNow", "()V"⟩, 12), (⟨"FirmStoreModel", "fence", "()V"⟩, 12), (⟨"FirmStoreModel", "firm", "(IJ)V"⟩, 12), (⟨"FirmStoreModel", "find", "(II)I"⟩, 12), (⟨"FirmStoreModel", "low", "(I)I"⟩, 12), (⟨"FirmStoreModel", "below", "(II)I"⟩, 12), (⟨"FirmStoreModel", "keyAt", "(II)I"⟩, 12), (⟨"FirmStoreModel", "placeIn", "(II)I"⟩, 12), (⟨"FirmStoreModel", "needed", "(I)I"⟩, 12), (⟨"FirmStoreModel", "split", "(I)I"⟩, 12), (⟨"FirmStoreModel", "hang", "(II)V"⟩, 12)]
theorem lw_r3 : ∀ q ∈ lw_privs_3, lw_okq q := List.forall_mem_cons.mpr ⟨lw_p32, List.forall_mem_cons.mpr ⟨lw_p33, List.forall_mem_cons.mpr ⟨lw_p34, List.forall_mem_cons.mpr ⟨lw_p35, List.forall_mem_cons.mpr ⟨lw_p36, List.forall_mem_cons.mpr ⟨lw_p37, List.forall_mem_cons.mpr ⟨lw_p38, List.forall_mem_cons.mpr ⟨lw_p39, List.forall_mem_cons.mpr ⟨lw_p40, List.forall_mem_cons.mpr ⟨lw_p41, List.forall_mem_cons.mpr ⟨lw_p42, List.forall_mem_cons.mpr ⟨lw_p43, List.forall_mem_cons.mpr ⟨lw_p44, List.forall_mem_cons.mpr ⟨lw_p45, List.forall_mem_cons.mpr ⟨lw_p46, List.forall_mem_cons.mpr ⟨lw_p47, fun _ h => absurd h List.not_mem_nil⟩⟩⟩⟩⟩⟩⟩⟩⟩⟩⟩⟩⟩⟩⟩⟩
theorem lw_p48 : lw_okq (⟨"FirmStoreModel", "entryOf", "(I)J"⟩, 12) := ⟨⟨by decide +kernel, by decide +kernel⟩, List.mem_of_getElem? (i := 532) (by decide +kernel), List.mem_of_getElem? (i := 687) (by decide +kernel), List.mem_of_getElem? (i := 688) (by decide +kernel)⟩
theorem lw_p49 : lw_okq (⟨"FirmStoreModel", "insert", "(IJ)V"⟩, 12) := ⟨⟨by decide +kernel, by decide +kernel⟩, List.mem_of_getElem? (i := 532) (by decide +kernel), List.mem_of_getElem? (i := 691) (by decide +kernel), List.mem_of_getElem? (i := 692) (by decide +kernel)⟩
theorem lw_p50 : lw_okq (⟨"FirmStoreModel", "putTable", "(II)I"⟩, 12) := ⟨⟨by decide +kernel, by decide +kernel⟩, List.mem_of_getElem? (i := 532) (by decide +kernel), List.mem_of_getElem? (i := 695) (by decide +kernel), List.mem_of_getElem? (i := 696) (by decide +kernel)⟩
theorem lw_p51 : lw_okq (⟨"FirmStoreModel", "placeOf", "(I)I"⟩, 12) := ⟨⟨by decide +kernel, by decide +kernel⟩, List.mem_of_getElem? (i := 532) (by decide +kernel), List.mem_of_getElem? (i := 699) (by decide +kernel), List.mem_of_getElem? (i := 700) (by decide +kernel)⟩
theorem lw_p52 : lw_okq (⟨"FirmStoreModel", "gapOf", "(I)I"⟩, 12) := ⟨⟨by decide +kernel, by decide +kernel⟩, List.mem_of_getElem? (i := 532) (by decide +kernel), List.mem_of_getElem? (i := 703) (by decide +kernel), List.mem_of_getElem? (i := 704) (by decide +kernel)⟩
theorem lw_p53 : lw_okq (⟨"FirmStoreModel", "read", "(II)I"⟩, 12) := ⟨⟨by decide +kernel, by decide +kernel⟩, List.mem_of_getElem? (i := 532) (by decide +kernel), List.mem_of_getElem? (i := 711) (by decide +kernel), List.mem_of_getElem? (i := 712) (by decide +kernel)⟩
theorem lw_p54 : lw_okq (⟨"FirmStoreModel", "drop", "(II)V"⟩, 12) := ⟨⟨by decide +kernel, by decide +kernel⟩, List.mem_of_getElem? (i := 532) (by decide +kernel), List.mem_of_getElem? (i := 715) (by decide +kernel), List.mem_of_getElem? (i := 716) (by decide +kernel)⟩
theorem lw_p55 : lw_okq (⟨"FirmStoreModel", "isRead", "(II)Z"⟩, 12) := ⟨⟨by decide +kernel, by decide +kernel⟩, List.mem_of_getElem? (i := 532) (by decide +kernel), List.mem_of_getElem? (i := 727) (by decide +kernel), List.mem_of_getElem? (i := 728) (by decide +kernel)⟩
theorem lw_p56 : lw_okq (⟨"FirmStoreModel", "repair", "()V"⟩, 12) := ⟨⟨by decide +kernel, by decide +kernel⟩, List.mem_of_getElem? (i := 532) (by decide +kernel), List.mem_of_getElem? (i := 739) (by decide +kernel), List.mem_of_getElem? (i := 740) (by decide +kernel)⟩
theorem lw_p57 : lw_okq (⟨"FirmStoreModel", "firstAt", "(I)I"⟩, 12) := ⟨⟨by decide +kernel, by decide +kernel⟩, List.mem_of_getElem? (i := 532) (by decide +kernel), List.mem_of_getElem? (i := 743) (by decide +kernel), List.mem_of_getElem? (i := 744) (by decide +kernel)⟩
theorem lw_p58 : lw_okq (⟨"FirmStoreModel", "putRight", "(I)V"⟩, 12) := ⟨⟨by decide +kernel, by decide +kernel⟩, List.mem_of_getElem? (i := 532) (by decide +kernel), List.mem_of_getElem? (i := 747) (by decide +kernel), List.mem_of_getElem? (i := 748) (by decide +kernel)⟩
theorem lw_p59 : lw_okq (⟨"FirmStoreModel", "isValue", "(II)Z"⟩, 12) := ⟨⟨by decide +kernel, by decide +kernel⟩, List.mem_of_getElem? (i := 532) (by decide +kernel), List.mem_of_getElem? (i := 751) (by decide +kernel), List.mem_of_getElem? (i := 752) (by decide +kernel)⟩
def lw_privs_4 : List (MethodName × Nat) := [(⟨"FirmStoreModel", "entryOf", "(I)J"⟩, 12), (⟨"FirmStoreModel", "insert", "(IJ)V"⟩, 12), (⟨"FirmStoreModel", "putTable", "(II)I"⟩, 12), (⟨"FirmStoreModel", "placeOf", "(I)I"⟩, 12), (⟨"FirmStoreModel", "gapOf", "(I)I"⟩, 12), (⟨"FirmStoreModel", "read", "(II)I"⟩, 12), (⟨"FirmStoreModel", "drop", "(II)V"⟩, 12), (⟨"FirmStoreModel", "isRead", "(II)Z"⟩, 12), (⟨"FirmStoreModel", "repair", "()V"⟩, 12), (⟨"FirmStoreModel", "firstAt", "(I)I"⟩, 12), (⟨"FirmStoreModel", "putRight", "(I)V"⟩, 12), (⟨"FirmStoreModel", "isValue", "(II)Z"⟩, 12)]
theorem lw_r4 : ∀ q ∈ lw_privs_4, lw_okq q := List.forall_mem_cons.mpr ⟨lw_p48, List.forall_mem_cons.mpr ⟨lw_p49, List.forall_mem_cons.mpr ⟨lw_p50, List.forall_mem_cons.mpr ⟨lw_p51, List.forall_mem_cons.mpr ⟨lw_p52, List.forall_mem_cons.mpr ⟨lw_p53, List.forall_mem_cons.mpr ⟨lw_p54, List.forall_mem_cons.mpr ⟨lw_p55, List.forall_mem_cons.mpr ⟨lw_p56, List.forall_mem_cons.mpr ⟨lw_p57, List.forall_mem_cons.mpr ⟨lw_p58, List.forall_mem_cons.mpr ⟨lw_p59, fun _ h => absurd h List.not_mem_nil⟩⟩⟩⟩⟩⟩⟩⟩⟩⟩⟩⟩
def lw_privs : List (MethodName × Nat) := lw_privs_1 ++ (lw_privs_2 ++ (lw_privs_3 ++ (lw_privs_4)))
def lw_tbl : List Cond := k2_sels lw_privs ++ tables_1
theorem lw_privs_ok : ∀ q ∈ lw_privs, lw_okq q := by
  show ∀ q ∈ lw_privs_1 ++ (lw_privs_2 ++ (lw_privs_3 ++ (lw_privs_4))), lw_okq q
  exact List.forall_mem_append.mpr ⟨lw_r1, List.forall_mem_append.mpr ⟨lw_r2, List.forall_mem_append.mpr ⟨lw_r3, lw_r4⟩⟩⟩
end
section
/-! BASE: uniform words, contracts over a world, entering, calling. -/
def tbG : List Cond := lw_tbl.filter goodWord
theorem tbG_in {w : Cond} (h : w ∈ lw_tbl) (g : goodWord w = true) : w ∈ tbG := List.mem_filter.mpr ⟨h, g⟩
def wz (y : MethodName) (b : ByteArray) (n : Nat) (r : Option FieldType) : List Cond := .code y b n r :: tbG
theorem wz_good {y y' : MethodName} {b b' : ByteArray} {n n' : Nat} {r r' : Option FieldType} (h : Cond.code y' b' n' r' ∈ tbG) : GoodIn (wz y b n r) (wz y' b' n' r') := by
  intro w hw
  rcases List.mem_cons.mp hw with rfl | hw
  · exact ⟨List.mem_cons_of_mem _ h, good_of_word (List.mem_filter.mp h).2⟩
  · exact ⟨List.mem_cons_of_mem _ hw, good_of_word (List.mem_filter.mp hw).2⟩
theorem tb_good {y' : MethodName} {b' : ByteArray} {n' : Nat} {r' : Option FieldType} (h : Cond.code y' b' n' r' ∈ tbG) : GoodIn tbG (wz y' b' n' r') := by
  intro w hw
  rcases List.mem_cons.mp hw with rfl | hw
  · exact ⟨h, good_of_word (List.mem_filter.mp h).2⟩
  · exact ⟨hw, good_of_word (List.mem_filter.mp hw).2⟩
/-- the links to private members of nest mates -/
def NL (U : State) : Prop := va_Nw (.methodLinkNest "FirmStore$Blocks" 25 ⟨"FirmStore", "valueOf", "(J)I"⟩ "FirmStore") U ∧ va_Nw (.methodLinkNest "FirmStore$Tree" 122 ⟨"FirmStore", "keyOf", "(J)I"⟩ "FirmStore") U ∧ va_Nw (.methodLinkNest "FirmStore$Tree" 53 ⟨"FirmStore", "entryOf", "(II)J"⟩ "FirmStore") U ∧ va_Nw (.methodLinkNest "FirmStore$Table" 38 ⟨"FirmStore", "entryOf", "(II)J"⟩ "FirmStore") U ∧ va_Nw (.methodLinkNest "FirmStore$Table" 62 ⟨"FirmStore", "keyOf", "(J)I"⟩ "FirmStore") U
theorem NL.warm {s U : State} (hW : s.WarmedH U.vm) (h : NL s) : NL U := ⟨va_Nw.warmM hW h.1, va_Nw.warmM hW h.2.1, va_Nw.warmM hW h.2.2.1, va_Nw.warmM hW h.2.2.2.1, va_Nw.warmM hW h.2.2.2.2⟩
theorem NL.call {U : State} {g : JFrame} {mk : MethodId} {a : Array Value} (h : NL U) : NL (U.calling g mk a) := ⟨va_Nw.same rfl rfl h.1, va_Nw.same rfl rfl h.2.1, va_Nw.same rfl rfl h.2.2.1, va_Nw.same rfl rfl h.2.2.2.1, va_Nw.same rfl rfl h.2.2.2.2⟩
def kPc {σ : Type} (D : va_G) (cl : List vw_C) (tys : List (ClassId × FieldType)) (Wd : σ → va_W) (u : σ) (sz : Nat) : State → Prop := fun U => U.heap.size = sz ∧ va_P D cl (Wd u) U.heap ∧ va_K D cl tys U ∧ va_D (fun _ => True) (Wd u) ∧ NL U
def kB {σ : Type} (D : va_G) (cl : List vw_C) (tys : List (ClassId × FieldType)) (Wd : σ → va_W) (u : σ) (sz : Nat) : σ → State → Prop := fun v t => va_P D cl (Wd v) t.heap ∧ va_K D cl tys t ∧ va_D (va_A (Wd u) sz) (Wd v)
def zRm (fr lo : Nat) : Room := { frames := fr, cells := 0, slots := 0, locals := lo }
def KI {σ : Type} (l : Launch) (D : va_G) (cl : List vw_C) (tys : List (ClassId × FieldType)) (Wd : σ → va_W) (y : MethodName) (b : ByteArray) (n : Nat) (rt : Option FieldType) (fr lo : Nat) (av : List Value) (u : σ) (r : Int32) (u' : σ) : Prop :=
  ∀ sz : Nat, Met l y (wz y b n rt) (zRm fr lo) (va_Pc av (kPc D cl tys Wd u sz)) (va_Qi (fun r' v => r' = r ∧ v = u') (kB D cl tys Wd u sz) (va_A (Wd u) sz)) 0 0 (va_A (Wd u) sz)
def KZ {σ : Type} (l : Launch) (D : va_G) (cl : List vw_C) (tys : List (ClassId × FieldType)) (Wd : σ → va_W) (y : MethodName) (b : ByteArray) (n : Nat) (rt : Option FieldType) (fr lo : Nat) (av : List Value) (u : σ) (r : Int32) (u' : σ) : Prop :=
  ∀ sz : Nat, Met l y (wz y b n rt) (zRm fr lo) (va_Pc av (kPc D cl tys Wd u sz)) (va_Qi (fun r' v => r' = r ∧ v = u' ∧ (r = 0 ∨ r = 1)) (kB D cl tys Wd u sz) (va_A (Wd u) sz)) 0 0 (va_A (Wd u) sz)
def KL {σ : Type} (l : Launch) (D : va_G) (cl : List vw_C) (tys : List (ClassId × FieldType)) (Wd : σ → va_W) (y : MethodName) (b : ByteArray) (n : Nat) (rt : Option FieldType) (fr lo : Nat) (av : List Value) (u : σ) (r : Int64) (u' : σ) : Prop :=
  ∀ sz : Nat, Met l y (wz y b n rt) (zRm fr lo) (va_Pc av (kPc D cl tys Wd u sz)) (va_Ql (fun r' v => r' = r ∧ v = u') (kB D cl tys Wd u sz) (va_A (Wd u) sz)) 0 0 (va_A (Wd u) sz)
def KV {σ : Type} (l : Launch) (D : va_G) (cl : List vw_C) (tys : List (ClassId × FieldType)) (Wd : σ → va_W) (y : MethodName) (b : ByteArray) (n : Nat) (rt : Option FieldType) (fr lo : Nat) (av : List Value) (u : σ) (u' : σ) : Prop :=
  ∀ sz : Nat, Met l y (wz y b n rt) (zRm fr lo) (va_Pc av (kPc D cl tys Wd u sz)) (va_Qv (fun v => v = u') (kB D cl tys Wd u sz) (va_A (Wd u) sz)) 0 0 (va_A (Wd u) sz)
theorem kPc_blind {σ : Type} {D : va_G} {cl : List vw_C} {tys : List (ClassId × FieldType)} {Wd : σ → va_W} {u : σ} {sz : Nat} {av : List Value} : FrameBlind (va_Pc av (kPc D cl tys Wd u sz)) := fun a U g mk q => by
  obtain ⟨q0, q1, qP, qK, qD, qN⟩ := q
  exact ⟨q0, q1, qP, va_K.moved (u := U) (U := U.calling g mk a) (Vm.Alike.refl U.vm) qK, qD, qN.call⟩
theorem nz {v : Int32} (h : v = 0 ∨ v = 1) : narrow .boolean (.int v) = .int v := by rcases h with rfl | rfl <;> decide
section Enter
variable {σ : Type} {l : Launch} {D : va_G} {cl : List vw_C} {tys : List (ClassId × FieldType)} {Wd : σ → va_W} {y : MethodName} {b : ByteArray} {n fr lo : Nat} {av : List Value} {u u' : σ}
/-- what a body has at its entry -/
def Ctx (l : Launch) (D : va_G) (cl : List vw_C) (tys : List (ClassId × FieldType)) (own : String) (b : ByteArray) (n : Nat) (av : List Value) (p : Program) (s : State) (m : MethodId) (c : Code) (A : Nat → Prop) : Prop :=
  p.tables.exec = Jvm.exec ∧ c.code = b ∧ c.maxLocals = n ∧ s.vm.findClass own = some m.cls ∧ (∀ w ∈ tbG, w.before av.toArray s = true) ∧ va_K D cl tys s ∧ NL s ∧ (∀ q : Nat, s.heap.size ≤ q → A q)
theorem mkI {r : Int32} (hy : plainName y.cls = true) (hn : (lg_sl av).length ≤ n)
    (body : ∀ (p : Program) (e : Env) (s : State) (m : MethodId) (below : List Frame) (meth : Method) (c : Code) (A : Nat → Prop) (Z : State → Prop) (ls : Array Slot), Ctx l D cl tys y.cls b n av p s m c A → va_P D cl (Wd u) s.heap → va_D A (Wd u) → va_S A s.heap s.heap [] → lv_has ls n (lv_args 0 av) →
      (∀ (H : Heap) (locs : List Loc) (pc : Nat) (ls : Array Slot), va_P D cl (Wd u') H → va_D A (Wd u') → va_S A s.heap H locs → decode b pc = .ok (.ireturn, 1) → W p l e (zRm fr lo) s m av.toArray below meth c H locs 0 0 Z (F0 m pc ls [.int r])) →
      W p l e (zRm fr lo) s m av.toArray below meth c s.heap [] 0 0 Z (F0 m 0 ls [])) : KI l D cl tys Wd y b n (some .int) fr lo av u r u' := by
  intro sz
  refine Met.ofW (cc := b) (maxL := n) (ret := some .int) hy rfl ?_
  intro p e s m args below meth c s₁ B hml hv
  obtain ⟨rfl, hsz, hP, hK, hD0, hN⟩ := hv
  have hts := atoms_spec (ws := wz y b n (some .int)) B.pre
  have hlocks := B.notSynchronized
  subst hsz
  have hD := hD0.self (sz := s.heap.size)
  rw [lg_entry_eq]
  refine body p e s m below meth c (va_A (Wd u) s.heap.size) _ _ ⟨B.exec, B.bytes, hml, findClass_of_methodNamed B.named, fun w h => hts w (List.mem_cons_of_mem _ h), hK, hN, fun q h => Or.inr h⟩ hP hD va_S.rf (lv_entry av hn) ?_
  intro H locs pc ls hP' hD' hS' hdg
  exact W.iret (v := r) B.exec B.bytes B.returns (fun t ht hW => ⟨⟨r, u', rfl, ⟨rfl, rfl⟩, by rw [ht]; exact hP', va_K.moved hW.alike hK, hD'⟩, hS'.F ht⟩) hS'.2.2 hdg
theorem mkJ {r : Int32} (hy : plainFor y = true) (hn : (lg_sl av).length ≤ n)
    (body : ∀ (p : Program) (e : Env) (s : State) (m : MethodId) (below : List Frame) (meth : Method) (c : Code) (A : Nat → Prop) (Z : State → Prop) (ls : Array Slot), Ctx l D cl tys y.cls b n av p s m c A → va_P D cl (Wd u) s.heap → va_D A (Wd u) → va_S A s.heap s.heap [] → lv_has ls n (lv_args 0 av) →
      (∀ (H : Heap) (locs : List Loc) (pc : Nat) (ls : Array Slot), va_P D cl (Wd u') H → va_D A (Wd u') → va_S A s.heap H locs → decode b pc = .ok (.ireturn, 1) → W p l e (zRm fr lo) s m av.toArray below meth c H locs 0 0 Z (F0 m pc ls [.int r])) →
      W p l e (zRm fr lo) s m av.toArray below meth c s.heap [] 0 0 Z (F0 m 0 ls [])) : KI l D cl tys Wd y b n (some .int) fr lo av u r u' := by
  intro sz
  refine va_MetF (cc := b) (maxL := n) (ret := some .int) hy rfl ?_
  intro p e s m args below meth c s₁ B hml hv
  obtain ⟨rfl, hsz, hP, hK, hD0, hN⟩ := hv
  have hts := atoms_spec (ws := wz y b n (some .int)) B.pre
  have hlocks := B.notSynchronized
  subst hsz
  have hD := hD0.self (sz := s.heap.size)
  rw [lg_entry_eq]
  refine body p e s m below meth c (va_A (Wd u) s.heap.size) _ _ ⟨B.exec, B.bytes, hml, findClass_of_methodNamed B.named, fun w h => hts w (List.mem_cons_of_mem _ h), hK, hN, fun q h => Or.inr h⟩ hP hD va_S.rf (lv_entry av hn) ?_
  intro H locs pc ls hP' hD' hS' hdg
  exact W.iret (v := r) B.exec B.bytes B.returns (fun t ht hW => ⟨⟨r, u', rfl, ⟨rfl, rfl⟩, by rw [ht]; exact hP', va_K.moved hW.alike hK, hD'⟩, hS'.F ht⟩) hS'.2.2 hdg
theorem mkZ {r : Int32} (hy : plainName y.cls = true) (hn : (lg_sl av).length ≤ n)
    (body : ∀ (p : Program) (e : Env) (s : State) (m : MethodId) (below : List Frame) (meth : Method) (c : Code) (A : Nat → Prop) (Z : State → Prop) (ls : Array Slot), Ctx l D cl tys y.cls b n av p s m c A → va_P D cl (Wd u) s.heap → va_D A (Wd u) → va_S A s.heap s.heap [] → lv_has ls n (lv_args 0 av) →
      (∀ (H : Heap) (locs : List Loc) (pc : Nat) (ls : Array Slot), (r = 0 ∨ r = 1) → va_P D cl (Wd u') H → va_D A (Wd u') → va_S A s.heap H locs → decode b pc = .ok (.ireturn, 1) → W p l e (zRm fr lo) s m av.toArray below meth c H locs 0 0 Z (F0 m pc ls [.int r])) →
      W p l e (zRm fr lo) s m av.toArray below meth c s.heap [] 0 0 Z (F0 m 0 ls [])) : KZ l D cl tys Wd y b n (some .boolean) fr lo av u r u' := by
  intro sz
  refine Met.ofW (cc := b) (maxL := n) (ret := some .boolean) hy rfl ?_
  intro p e s m args below meth c s₁ B hml hv
  obtain ⟨rfl, hsz, hP, hK, hD0, hN⟩ := hv
  have hts := atoms_spec (ws := wz y b n (some .boolean)) B.pre
  have hlocks := B.notSynchronized
  subst hsz
  have hD := hD0.self (sz := s.heap.size)
  rw [lg_entry_eq]
  refine body p e s m below meth c (va_A (Wd u) s.heap.size) _ _ ⟨B.exec, B.bytes, hml, findClass_of_methodNamed B.named, fun w h => hts w (List.mem_cons_of_mem _ h), hK, hN, fun q h => Or.inr h⟩ hP hD va_S.rf (lv_entry av hn) ?_
  intro H locs pc ls hz hP' hD' hS' hdg
  exact W.zret (v := r) B.exec B.bytes B.returns (nz hz) (fun t ht hW => ⟨⟨r, u', rfl, ⟨rfl, rfl, hz⟩, by rw [ht]; exact hP', va_K.moved hW.alike hK, hD'⟩, hS'.F ht⟩) hS'.2.2 hdg
theorem mkL {r : Int64} (hy : plainName y.cls = true) (hn : (lg_sl av).length ≤ n)
    (body : ∀ (p : Program) (e : Env) (s : State) (m : MethodId) (below : List Frame) (meth : Method) (c : Code) (A : Nat → Prop) (Z : State → Prop) (ls : Array Slot), Ctx l D cl tys y.cls b n av p s m c A → va_P D cl (Wd u) s.heap → va_D A (Wd u) → va_S A s.heap s.heap [] → lv_has ls n (lv_args 0 av) →
      (∀ (H : Heap) (locs : List Loc) (pc : Nat) (ls : Array Slot), va_P D cl (Wd u') H → va_D A (Wd u') → va_S A s.heap H locs → decode b pc = .ok (.lreturn, 1) → W p l e (zRm fr lo) s m av.toArray below meth c H locs 0 0 Z (F0 m pc ls [.long r])) →
      W p l e (zRm fr lo) s m av.toArray below meth c s.heap [] 0 0 Z (F0 m 0 ls [])) : KL l D cl tys Wd y b n (some .long) fr lo av u r u' := by
  intro sz
  refine Met.ofW (cc := b) (maxL := n) (ret := some .long) hy rfl ?_
  intro p e s m args below meth c s₁ B hml hv
  obtain ⟨rfl, hsz, hP, hK, hD0, hN⟩ := hv
  have hts := atoms_spec (ws := wz y b n (some .long)) B.pre
  have hlocks := B.notSynchronized
  subst hsz
  have hD := hD0.self (sz := s.heap.size)
  rw [lg_entry_eq]
  refine body p e s m below meth c (va_A (Wd u) s.heap.size) _ _ ⟨B.exec, B.bytes, hml, findClass_of_methodNamed B.named, fun w h => hts w (List.mem_cons_of_mem _ h), hK, hN, fun q h => Or.inr h⟩ hP hD va_S.rf (lv_entry av hn) ?_
  intro H locs pc ls hP' hD' hS' hdg
  exact W.lret (v := r) B.exec B.bytes B.returns (fun t ht hW => ⟨⟨r, u', rfl, ⟨rfl, rfl⟩, by rw [ht]; exact hP', va_K.moved hW.alike hK, hD'⟩, hS'.F ht⟩) hS'.2.2 hdg
theorem mkV (hy : plainName y.cls = true) (hn : (lg_sl av).length ≤ n)
    (body : ∀ (p : Program) (e : Env) (s : State) (m : MethodId) (below : List Frame) (meth : Method) (c : Code) (A : Nat → Prop) (Z : State → Prop) (ls : Array Slot), Ctx l D cl tys y.cls b n av p s m c A → va_P D cl (Wd u) s.heap → va_D A (Wd u) → va_S A s.heap s.heap [] → lv_has ls n (lv_args 0 av) →
      (∀ (H : Heap) (locs : List Loc) (pc : Nat) (ls : Array Slot), va_P D cl (Wd u') H → va_D A (Wd u') → va_S A s.heap H locs → decode b pc = .ok (.return_, 1) → W p l e (zRm fr lo) s m av.toArray below meth c H locs 0 0 Z (F0 m pc ls [])) →
      W p l e (zRm fr lo) s m av.toArray below meth c s.heap [] 0 0 Z (F0 m 0 ls [])) : KV l D cl tys Wd y b n none fr lo av u u' := by
  intro sz
  refine Met.ofW (cc := b) (maxL := n) (ret := none) hy rfl ?_
  intro p e s m args below meth c s₁ B hml hv
  obtain ⟨rfl, hsz, hP, hK, hD0, hN⟩ := hv
  have hts := atoms_spec (ws := wz y b n none) B.pre
  have hlocks := B.notSynchronized
  subst hsz
  have hD := hD0.self (sz := s.heap.size)
  rw [lg_entry_eq]
  refine body p e s m below meth c (va_A (Wd u) s.heap.size) _ _ ⟨B.exec, B.bytes, hml, findClass_of_methodNamed B.named, fun w h => hts w (List.mem_cons_of_mem _ h), hK, hN, fun q h => Or.inr h⟩ hP hD va_S.rf (lv_entry av hn) ?_
  intro H locs pc ls hP' hD' hS' hdg
  exact W.vret B.exec B.bytes B.returns (fun t ht hW => ⟨⟨u', rfl, rfl, by rw [ht]; exact hP', va_K.moved hW.alike hK, hD'⟩, hS'.F ht⟩) hS'.2.2 hdg
end Enter
end
section
/-! CALLS: of a method with a contract over the same world. -/
section Call
variable {σ : Type} {l : Launch} {D : va_G} {cl : List vw_C} {tys : List (ClassId × FieldType)} {Wd : σ → va_W} {y y' : MethodName} {b b' : ByteArray} {n n' fr lo fr' lo' : Nat} {rt' : Option FieldType} {av : List Value} {u u' : σ}
variable {p : Program} {e : Env} {s : State} {m : MethodId} {below : List Frame} {meth : Method} {c : Code} {A : Nat → Prop} {Z : State → Prop} {ls : Array Slot} {H : Heap} {locs : List Loc} {own : String}
theorem wA (hA : ∀ q : Nat, s.heap.size ≤ q → A q) (hD : va_D A (Wd u)) (hS : va_S A s.heap H locs) : ∀ q, va_A (Wd u) H.size q → A q := by
  intro q h
  rcases h with ⟨k, e, h⟩ | h
  · exact hD.2 k (q, e) h
  · exact hA q (Nat.le_trans hS.1 h)
theorem prS {As : List Value} (hK : va_K D cl tys s) (hN : NL s) (hP : va_P D cl (Wd u) H) (hD : va_D A (Wd u)) : PreS s H (va_Pc As (kPc D cl tys Wd u H.size)) As :=
  ⟨kPc_blind, fun U hU hW => ⟨rfl, by rw [hU], by rw [hU]; exact hP, va_K.moved hW.alike hK, hD.weaken (fun _ _ _ _ => trivial), hN.warm hW⟩⟩
theorem prV {As : List Value} {b0 ci q0 : Nat} {q : vw_C} {fs : List Value} (hK : va_K D cl tys s) (hN : NL s) (hP : va_P D cl (Wd u) H) (hD : va_D A (Wd u)) (hc : cl[ci]? = some q) (he : (Wd u)[q0]? = some (b0, .inr (ci, fs))) : PreV s H q.1 b0 (va_Pc (.ref b0 :: As) (kPc D cl tys Wd u H.size)) As :=
  ⟨kPc_blind, va_recv hK hP hc he, fun U hU hW => ⟨rfl, by rw [hU], by rw [hU]; exact hP, va_K.moved hW.alike hK, hD.weaken (fun _ _ _ _ => trivial), hN.warm hW⟩⟩
theorem cbB {index : Nat} (k : Nat) (hts : ∀ w ∈ tbG, w.before av.toArray s = true) (hcode : Cond.code y' b' n' rt' ∈ tbG) (hini : Cond.initialized y'.cls ∈ tbG) (hlink : Cond.methodLink own index y' ∈ tbG)
    (hd : y'.cls ≠ "java/lang/invoke/MethodHandle" ∧ y'.cls ≠ "java/lang/invoke/VarHandle" ∧ (parseMethodDescriptor y'.desc).map (fun d => d.parameters.length) = some k) (hR : fr' + 1 ≤ fr ∧ 8 + (n' + 11) + lo' ≤ lo) :
    CallB (zRm fr lo) s av.toArray own index y' b' n' rt' (wz y' b' n' rt') (zRm fr' lo') 0 0 k :=
  callB_of k hts (tb_good hcode) rfl rfl rfl (hts _ hini) (hts _ hlink) hd hR
theorem afI {r : Int32} {rest st0 : List Value} {pc : Nat} {a : Array Value} (hA : ∀ q : Nat, s.heap.size ≤ q → A q) (hD : va_D A (Wd u)) (hS : va_S A s.heap H locs)
    (hr : va_Run p l e (zRm fr lo) s m av.toArray below meth c H locs 0 0 0 0 (F0 m pc ls st0) rest (va_Qi (fun r' v => r' = r ∧ v = u') (kB D cl tys Wd u H.size) (va_A (Wd u) H.size) a) (va_A (Wd u) H.size))
    (kk : ∀ (H1 : Heap) (locs1 : List Loc), va_P D cl (Wd u') H1 → va_D A (Wd u') → va_S A s.heap H1 locs1 → W p l e (zRm fr lo) s m av.toArray below meth c H1 locs1 0 0 Z (F0 m (pc + 3) ls (.int r :: rest))) : W p l e (zRm fr lo) s m av.toArray below meth c H locs 0 0 Z (F0 m pc ls st0) := by
  have hF := wA hA hD hS
  refine va_calli hr hS (fun q _ h => hF q h) hF (fun r_ v t H1 locs1 ht hvm hw hB hz1 hk1 hS1 => ?_)
  obtain ⟨rfl, rfl⟩ := hw
  obtain ⟨hP1, hK1, hD1⟩ := hB
  rw [ht] at hP1
  exact kk H1 locs1 hP1 (hD1.weaken (fun k q _ h => hF _ h)) hS1
theorem goVI {r : Int32} {rest st0 : List Value} {pc index : Nat} {As : List Value} {b0 ci : Nat} (q0 : Nat) {T : u_T} {N : Nat} {fs : List Value} (C0 : Ctx l D cl tys own b n av p s m c A) (hM : KI l D cl tys Wd y' b' n' rt' fr' lo' (.ref b0 :: As) u r u') (hcode : Cond.code y' b' n' rt' ∈ tbG) (hini : Cond.initialized y'.cls ∈ tbG) (hlink : Cond.methodLink own index y' ∈ tbG) (hinst : Cond.instanceMethod y' ∈ tbG) (hsel : Cond.selects y'.cls y' y' ∈ tbG)
    (hd : y'.cls ≠ "java/lang/invoke/MethodHandle" ∧ y'.cls ≠ "java/lang/invoke/VarHandle" ∧ (parseMethodDescriptor y'.desc).map (fun d => d.parameters.length) = some As.length) (hR : fr' + 1 ≤ fr ∧ 8 + (n' + 11) + lo' ≤ lo)
    (he : (Wd u)[q0]? = some (b0, .inr (ci, fs))) (hc : cl[ci]? = some (y'.cls, T, N)) (hP : va_P D cl (Wd u) H) (hD : va_D A (Wd u)) (hS : va_S A s.heap H locs) (hsz : ls.size = n) (hst : st0 = As.reverse ++ .ref b0 :: rest) (hw : (rest.map fun v => v.category).sum ≤ 8) (hdg : decode b pc = .ok (.invokevirtual index, 3))
    (kk : ∀ (H1 : Heap) (locs1 : List Loc), va_P D cl (Wd u') H1 → va_D A (Wd u') → va_S A s.heap H1 locs1 → W p l e (zRm fr lo) s m av.toArray below meth c H1 locs1 0 0 Z (F0 m (pc + 3) ls (.int r :: rest))) : W p l e (zRm fr lo) s m av.toArray below meth c H locs 0 0 Z (F0 m pc ls st0) := by
  obtain ⟨hx, hb, hml, hown, hts, hK, hN, hA⟩ := C0
  exact afI hA hD hS (va_runV (As := As) (rest := rest) ⟨hx, hb, hml, hown, hts⟩ (hM H.size) ⟨cbB As.length hts hcode hini hlink hd hR, hts _ hinst, hts _ hsel⟩ (prV hK hN hP hD hc he) rfl rfl hsz hst (lv_room (rest := st0) hw) hdg ⟨Nat.le_refl _, Nat.le_refl _⟩) kk
theorem goSI {r : Int32} {rest st0 : List Value} {pc index : Nat} {As : List Value} (C0 : Ctx l D cl tys own b n av p s m c A) (hM : KI l D cl tys Wd y' b' n' rt' fr' lo' As u r u') (hcode : Cond.code y' b' n' rt' ∈ tbG) (hini : Cond.initialized y'.cls ∈ tbG) (hlink : Cond.methodLink own index y' ∈ tbG) (hsta : Cond.static y' ∈ tbG)
    (hd : y'.cls ≠ "java/lang/invoke/MethodHandle" ∧ y'.cls ≠ "java/lang/invoke/VarHandle" ∧ (parseMethodDescriptor y'.desc).map (fun d => d.parameters.length) = some As.length) (hR : fr' + 1 ≤ fr ∧ 8 + (n' + 11) + lo' ≤ lo)
    (hP : va_P D cl (Wd u) H) (hD : va_D A (Wd u)) (hS : va_S A s.heap H locs) (hsz : ls.size = n) (hst : st0 = As.reverse ++ rest) (hw : (rest.map fun v => v.category).sum ≤ 8) (hdg : decode b pc = .ok (.invokestatic index, 3))
    (kk : ∀ (H1 : Heap) (locs1 : List Loc), va_P D cl (Wd u') H1 → va_D A (Wd u') → va_S A s.heap H1 locs1 → W p l e (zRm fr lo) s m av.toArray below meth c H1 locs1 0 0 Z (F0 m (pc + 3) ls (.int r :: rest))) : W p l e (zRm fr lo) s m av.toArray below meth c H locs 0 0 Z (F0 m pc ls st0) := by
  obtain ⟨hx, hb, hml, hown, hts, hK, hN, hA⟩ := C0
  exact afI hA hD hS (va_runS (As := As) (rest := rest) ⟨hx, hb, hml, hown, hts⟩ (hM H.size) ⟨cbB As.length hts hcode hini hlink hd hR, hts _ hsta⟩ (prS hK hN hP hD) rfl rfl hsz hst (lv_room (rest := st0) hw) hdg ⟨Nat.le_refl _, Nat.le_refl _⟩) kk
theorem goNI {r : Int32} {rest st0 : List Value} {pc index : Nat} {As : List Value} {host : String} (C0 : Ctx l D cl tys own b n av p s m c A) (hM : KI l D cl tys Wd y' b' n' rt' fr' lo' As u r u') (hcode : Cond.code y' b' n' rt' ∈ tbG) (hini : Cond.initialized y'.cls ∈ tbG) (hlink : va_Nw (.methodLinkNest own index y' host) s) (hsta : Cond.static y' ∈ tbG)
    (hd : y'.cls ≠ "java/lang/invoke/MethodHandle" ∧ y'.cls ≠ "java/lang/invoke/VarHandle" ∧ (parseMethodDescriptor y'.desc).map (fun d => d.parameters.length) = some As.length) (hR : fr' + 1 ≤ fr ∧ 8 + (n' + 11) + lo' ≤ lo)
    (hP : va_P D cl (Wd u) H) (hD : va_D A (Wd u)) (hS : va_S A s.heap H locs) (hsz : ls.size = n) (hst : st0 = As.reverse ++ rest) (hw : (rest.map fun v => v.category).sum ≤ 8) (hdg : decode b pc = .ok (.invokestatic index, 3))
    (kk : ∀ (H1 : Heap) (locs1 : List Loc), va_P D cl (Wd u') H1 → va_D A (Wd u') → va_S A s.heap H1 locs1 → W p l e (zRm fr lo) s m av.toArray below meth c H1 locs1 0 0 Z (F0 m (pc + 3) ls (.int r :: rest))) : W p l e (zRm fr lo) s m av.toArray below meth c H locs 0 0 Z (F0 m pc ls st0) := by
  obtain ⟨hx, hb, hml, hown, hts, hK, hN, hA⟩ := C0
  exact afI hA hD hS (va_runSN (As := As) (rest := rest) ⟨hx, hb, hml, hown, hts⟩ (hM H.size) ⟨va_cnB As.length hts (tb_good hcode) rfl rfl rfl hlink (hts _ hini) hd hR, hts _ hsta, trivial⟩ (prS hK hN hP hD) rfl rfl hsz hst (lv_room (rest := st0) hw) hdg ⟨Nat.le_refl _, Nat.le_refl _⟩) kk
theorem afZ {r : Int32} {rest st0 : List Value} {pc : Nat} {a : Array Value} (hA : ∀ q : Nat, s.heap.size ≤ q → A q) (hD : va_D A (Wd u)) (hS : va_S A s.heap H locs)
    (hr : va_Run p l e (zRm fr lo) s m av.toArray below meth c H locs 0 0 0 0 (F0 m pc ls st0) rest (va_Qi (fun r' v => r' = r ∧ v = u' ∧ (r = 0 ∨ r = 1)) (kB D cl tys Wd u H.size) (va_A (Wd u) H.size) a) (va_A (Wd u) H.size))
    (kk : ∀ (H1 : Heap) (locs1 : List Loc), (r = 0 ∨ r = 1) → va_P D cl (Wd u') H1 → va_D A (Wd u') → va_S A s.heap H1 locs1 → W p l e (zRm fr lo) s m av.toArray below meth c H1 locs1 0 0 Z (F0 m (pc + 3) ls (.int r :: rest))) : W p l e (zRm fr lo) s m av.toArray below meth c H locs 0 0 Z (F0 m pc ls st0) := by
  have hF := wA hA hD hS
  refine va_calli hr hS (fun q _ h => hF q h) hF (fun r_ v t H1 locs1 ht hvm hw hB hz1 hk1 hS1 => ?_)
  obtain ⟨rfl, rfl, hz⟩ := hw
  obtain ⟨hP1, hK1, hD1⟩ := hB
  rw [ht] at hP1
  exact kk H1 locs1 hz hP1 (hD1.weaken (fun k q _ h => hF _ h)) hS1
theorem goVZ {r : Int32} {rest st0 : List Value} {pc index : Nat} {As : List Value} {b0 ci : Nat} (q0 : Nat) {T : u_T} {N : Nat} {fs : List Value} (C0 : Ctx l D cl tys own b n av p s m c A) (hM : KZ l D cl tys Wd y' b' n' rt' fr' lo' (.ref b0 :: As) u r u') (hcode : Cond.code y' b' n' rt' ∈ tbG) (hini : Cond.initialized y'.cls ∈ tbG) (hlink : Cond.methodLink own index y' ∈ tbG) (hinst : Cond.instanceMethod y' ∈ tbG) (hsel : Cond.selects y'.cls y' y' ∈ tbG)
    (hd : y'.cls ≠ "java/lang/invoke/MethodHandle" ∧ y'.cls ≠ "java/lang/invoke/VarHandle" ∧ (parseMethodDescriptor y'.desc).map (fun d => d.parameters.length) = some As.length) (hR : fr' + 1 ≤ fr ∧ 8 + (n' + 11) + lo' ≤ lo)
    (he : (Wd u)[q0]? = some (b0, .inr (ci, fs))) (hc : cl[ci]? = some (y'.cls, T, N)) (hP : va_P D cl (Wd u) H) (hD : va_D A (Wd u)) (hS : va_S A s.heap H locs) (hsz : ls.size = n) (hst : st0 = As.reverse ++ .ref b0 :: rest) (hw : (rest.map fun v => v.category).sum ≤ 8) (hdg : decode b pc = .ok (.invokevirtual index, 3))
    (kk : ∀ (H1 : Heap) (locs1 : List Loc), (r = 0 ∨ r = 1) → va_P D cl (Wd u') H1 → va_D A (Wd u') → va_S A s.heap H1 locs1 → W p l e (zRm fr lo) s m av.toArray below meth c H1 locs1 0 0 Z (F0 m (pc + 3) ls (.int r :: rest))) : W p l e (zRm fr lo) s m av.toArray below meth c H locs 0 0 Z (F0 m pc ls st0) := by
  obtain ⟨hx, hb, hml, hown, hts, hK, hN, hA⟩ := C0
  exact afZ hA hD hS (va_runV (As := As) (rest := rest) ⟨hx, hb, hml, hown, hts⟩ (hM H.size) ⟨cbB As.length hts hcode hini hlink hd hR, hts _ hinst, hts _ hsel⟩ (prV hK hN hP hD hc he) rfl rfl hsz hst (lv_room (rest := st0) hw) hdg ⟨Nat.le_refl _, Nat.le_refl _⟩) kk
theorem goSZ {r : Int32} {rest st0 : List Value} {pc index : Nat} {As : List Value} (C0 : Ctx l D cl tys own b n av p s m c A) (hM : KZ l D cl tys Wd y' b' n' rt' fr' lo' As u r u') (hcode : Cond.code y' b' n' rt' ∈ tbG) (hini : Cond.initialized y'.cls ∈ tbG) (hlink : Cond.methodLink own index y' ∈ tbG) (hsta : Cond.static y' ∈ tbG)
    (hd : y'.cls ≠ "java/lang/invoke/MethodHandle" ∧ y'.cls ≠ "java/lang/invoke/VarHandle" ∧ (parseMethodDescriptor y'.desc).map (fun d => d.parameters.length) = some As.length) (hR : fr' + 1 ≤ fr ∧ 8 + (n' + 11) + lo' ≤ lo)
    (hP : va_P D cl (Wd u) H) (hD : va_D A (Wd u)) (hS : va_S A s.heap H locs) (hsz : ls.size = n) (hst : st0 = As.reverse ++ rest) (hw : (rest.map fun v => v.category).sum ≤ 8) (hdg : decode b pc = .ok (.invokestatic index, 3))
    (kk : ∀ (H1 : Heap) (locs1 : List Loc), (r = 0 ∨ r = 1) → va_P D cl (Wd u') H1 → va_D A (Wd u') → va_S A s.heap H1 locs1 → W p l e (zRm fr lo) s m av.toArray below meth c H1 locs1 0 0 Z (F0 m (pc + 3) ls (.int r :: rest))) : W p l e (zRm fr lo) s m av.toArray below meth c H locs 0 0 Z (F0 m pc ls st0) := by
  obtain ⟨hx, hb, hml, hown, hts, hK, hN, hA⟩ := C0
  exact afZ hA hD hS (va_runS (As := As) (rest := rest) ⟨hx, hb, hml, hown, hts⟩ (hM H.size) ⟨cbB As.length hts hcode hini hlink hd hR, hts _ hsta⟩ (prS hK hN hP hD) rfl rfl hsz hst (lv_room (rest := st0) hw) hdg ⟨Nat.le_refl _, Nat.le_refl _⟩) kk
theorem goNZ {r : Int32} {rest st0 : List Value} {pc index : Nat} {As : List Value} {host : String} (C0 : Ctx l D cl tys own b n av p s m c A) (hM : KZ l D cl tys Wd y' b' n' rt' fr' lo' As u r u') (hcode : Cond.code y' b' n' rt' ∈ tbG) (hini : Cond.initialized y'.cls ∈ tbG) (hlink : va_Nw (.methodLinkNest own index y' host) s) (hsta : Cond.static y' ∈ tbG)
    (hd : y'.cls ≠ "java/lang/invoke/MethodHandle" ∧ y'.cls ≠ "java/lang/invoke/VarHandle" ∧ (parseMethodDescriptor y'.desc).map (fun d => d.parameters.length) = some As.length) (hR : fr' + 1 ≤ fr ∧ 8 + (n' + 11) + lo' ≤ lo)
    (hP : va_P D cl (Wd u) H) (hD : va_D A (Wd u)) (hS : va_S A s.heap H locs) (hsz : ls.size = n) (hst : st0 = As.reverse ++ rest) (hw : (rest.map fun v => v.category).sum ≤ 8) (hdg : decode b pc = .ok (.invokestatic index, 3))
    (kk : ∀ (H1 : Heap) (locs1 : List Loc), (r = 0 ∨ r = 1) → va_P D cl (Wd u') H1 → va_D A (Wd u') → va_S A s.heap H1 locs1 → W p l e (zRm fr lo) s m av.toArray below meth c H1 locs1 0 0 Z (F0 m (pc + 3) ls (.int r :: rest))) : W p l e (zRm fr lo) s m av.toArray below meth c H locs 0 0 Z (F0 m pc ls st0) := by
  obtain ⟨hx, hb, hml, hown, hts, hK, hN, hA⟩ := C0
  exact afZ hA hD hS (va_runSN (As := As) (rest := rest) ⟨hx, hb, hml, hown, hts⟩ (hM H.size) ⟨va_cnB As.length hts (tb_good hcode) rfl rfl rfl hlink (hts _ hini) hd hR, hts _ hsta, trivial⟩ (prS hK hN hP hD) rfl rfl hsz hst (lv_room (rest := st0) hw) hdg ⟨Nat.le_refl _, Nat.le_refl _⟩) kk
theorem afL {r : Int64} {rest st0 : List Value} {pc : Nat} {a : Array Value} (hA : ∀ q : Nat, s.heap.size ≤ q → A q) (hD : va_D A (Wd u)) (hS : va_S A s.heap H locs)
    (hr : va_Run p l e (zRm fr lo) s m av.toArray below meth c H locs 0 0 0 0 (F0 m pc ls st0) rest (va_Ql (fun r' v => r' = r ∧ v = u') (kB D cl tys Wd u H.size) (va_A (Wd u) H.size) a) (va_A (Wd u) H.size))
    (kk : ∀ (H1 : Heap) (locs1 : List Loc), va_P D cl (Wd u') H1 → va_D A (Wd u') → va_S A s.heap H1 locs1 → W p l e (zRm fr lo) s m av.toArray below meth c H1 locs1 0 0 Z (F0 m (pc + 3) ls (.long r :: rest))) : W p l e (zRm fr lo) s m av.toArray below meth c H locs 0 0 Z (F0 m pc ls st0) := by
  have hF := wA hA hD hS
  refine va_calll hr hS (fun q _ h => hF q h) hF (fun r_ v t H1 locs1 ht hvm hw hB hz1 hk1 hS1 => ?_)
  obtain ⟨rfl, rfl⟩ := hw
  obtain ⟨hP1, hK1, hD1⟩ := hB
  rw [ht] at hP1
  exact kk H1 locs1 hP1 (hD1.weaken (fun k q _ h => hF _ h)) hS1
theorem goVL {r : Int64} {rest st0 : List Value} {pc index : Nat} {As : List Value} {b0 ci : Nat} (q0 : Nat) {T : u_T} {N : Nat} {fs : List Value} (C0 : Ctx l D cl tys own b n av p s m c A) (hM : KL l D cl tys Wd y' b' n' rt' fr' lo' (.ref b0 :: As) u r u') (hcode : Cond.code y' b' n' rt' ∈ tbG) (hini : Cond.initialized y'.cls ∈ tbG) (hlink : Cond.methodLink own index y' ∈ tbG) (hinst : Cond.instanceMethod y' ∈ tbG) (hsel : Cond.selects y'.cls y' y' ∈ tbG)
    (hd : y'.cls ≠ "java/lang/invoke/MethodHandle" ∧ y'.cls ≠ "java/lang/invoke/VarHandle" ∧ (parseMethodDescriptor y'.desc).map (fun d => d.parameters.length) = some As.length) (hR : fr' + 1 ≤ fr ∧ 8 + (n' + 11) + lo' ≤ lo)
    (he : (Wd u)[q0]? = some (b0, .inr (ci, fs))) (hc : cl[ci]? = some (y'.cls, T, N)) (hP : va_P D cl (Wd u) H) (hD : va_D A (Wd u)) (hS : va_S A s.heap H locs) (hsz : ls.size = n) (hst : st0 = As.reverse ++ .ref b0 :: rest) (hw : (rest.map fun v => v.category).sum ≤ 8) (hdg : decode b pc = .ok (.invokevirtual index, 3))
    (kk : ∀ (H1 : Heap) (locs1 : List Loc), va_P D cl (Wd u') H1 → va_D A (Wd u') → va_S A s.heap H1 locs1 → W p l e (zRm fr lo) s m av.toArray below meth c H1 locs1 0 0 Z (F0 m (pc + 3) ls (.long r :: rest))) : W p l e (zRm fr lo) s m av.toArray below meth c H locs 0 0 Z (F0 m pc ls st0) := by
  obtain ⟨hx, hb, hml, hown, hts, hK, hN, hA⟩ := C0
  exact afL hA hD hS (va_runV (As := As) (rest := rest) ⟨hx, hb, hml, hown, hts⟩ (hM H.size) ⟨cbB As.length hts hcode hini hlink hd hR, hts _ hinst, hts _ hsel⟩ (prV hK hN hP hD hc he) rfl rfl hsz hst (lv_room (rest := st0) hw) hdg ⟨Nat.le_refl _, Nat.le_refl _⟩) kk
theorem goSL {r : Int64} {rest st0 : List Value} {pc index : Nat} {As : List Value} (C0 : Ctx l D cl tys own b n av p s m c A) (hM : KL l D cl tys Wd y' b' n' rt' fr' lo' As u r u') (hcode : Cond.code y' b' n' rt' ∈ tbG) (hini : Cond.initialized y'.cls ∈ tbG) (hlink : Cond.methodLink own index y' ∈ tbG) (hsta : Cond.static y' ∈ tbG)
    (hd : y'.cls ≠ "java/lang/invoke/MethodHandle" ∧ y'.cls ≠ "java/lang/invoke/VarHandle" ∧ (parseMethodDescriptor y'.desc).map (fun d => d.parameters.length) = some As.length) (hR : fr' + 1 ≤ fr ∧ 8 + (n' + 11) + lo' ≤ lo)
    (hP : va_P D cl (Wd u) H) (hD : va_D A (Wd u)) (hS : va_S A s.heap H locs) (hsz : ls.size = n) (hst : st0 = As.reverse ++ rest) (hw : (rest.map fun v => v.category).sum ≤ 8) (hdg : decode b pc = .ok (.invokestatic index, 3))
    (kk : ∀ (H1 : Heap) (locs1 : List Loc), va_P D cl (Wd u') H1 → va_D A (Wd u') → va_S A s.heap H1 locs1 → W p l e (zRm fr lo) s m av.toArray below meth c H1 locs1 0 0 Z (F0 m (pc + 3) ls (.long r :: rest))) : W p l e (zRm fr lo) s m av.toArray below meth c H locs 0 0 Z (F0 m pc ls st0) := by
  obtain ⟨hx, hb, hml, hown, hts, hK, hN, hA⟩ := C0
  exact afL hA hD hS (va_runS (As := As) (rest := rest) ⟨hx, hb, hml, hown, hts⟩ (hM H.size) ⟨cbB As.length hts hcode hini hlink hd hR, hts _ hsta⟩ (prS hK hN hP hD) rfl rfl hsz hst (lv_room (rest := st0) hw) hdg ⟨Nat.le_refl _, Nat.le_refl _⟩) kk
theorem goNL {r : Int64} {rest st0 : List Value} {pc index : Nat} {As : List Value} {host : String} (C0 : Ctx l D cl tys own b n av p s m c A) (hM : KL l D cl tys Wd y' b' n' rt' fr' lo' As u r u') (hcode : Cond.code y' b' n' rt' ∈ tbG) (hini : Cond.initialized y'.cls ∈ tbG) (hlink : va_Nw (.methodLinkNest own index y' host) s) (hsta : Cond.static y' ∈ tbG)
    (hd : y'.cls ≠ "java/lang/invoke/MethodHandle" ∧ y'.cls ≠ "java/lang/invoke/VarHandle" ∧ (parseMethodDescriptor y'.desc).map (fun d => d.parameters.length) = some As.length) (hR : fr' + 1 ≤ fr ∧ 8 + (n' + 11) + lo' ≤ lo)
    (hP : va_P D cl (Wd u) H) (hD : va_D A (Wd u)) (hS : va_S A s.heap H locs) (hsz : ls.size = n) (hst : st0 = As.reverse ++ rest) (hw : (rest.map fun v => v.category).sum ≤ 8) (hdg : decode b pc = .ok (.invokestatic index, 3))
    (kk : ∀ (H1 : Heap) (locs1 : List Loc), va_P D cl (Wd u') H1 → va_D A (Wd u') → va_S A s.heap H1 locs1 → W p l e (zRm fr lo) s m av.toArray below meth c H1 locs1 0 0 Z (F0 m (pc + 3) ls (.long r :: rest))) : W p l e (zRm fr lo) s m av.toArray below meth c H locs 0 0 Z (F0 m pc ls st0) := by
  obtain ⟨hx, hb, hml, hown, hts, hK, hN, hA⟩ := C0
  exact afL hA hD hS (va_runSN (As := As) (rest := rest) ⟨hx, hb, hml, hown, hts⟩ (hM H.size) ⟨va_cnB As.length hts (tb_good hcode) rfl rfl rfl hlink (hts _ hini) hd hR, hts _ hsta, trivial⟩ (prS hK hN hP hD) rfl rfl hsz hst (lv_room (rest := st0) hw) hdg ⟨Nat.le_refl _, Nat.le_refl _⟩) kk
theorem afV {rest st0 : List Value} {pc : Nat} {a : Array Value} (hA : ∀ q : Nat, s.heap.size ≤ q → A q) (hD : va_D A (Wd u)) (hS : va_S A s.heap H locs)
    (hr : va_Run p l e (zRm fr lo) s m av.toArray below meth c H locs 0 0 0 0 (F0 m pc ls st0) rest (va_Qv (fun v => v = u') (kB D cl tys Wd u H.size) (va_A (Wd u) H.size) a) (va_A (Wd u) H.size))
    (kk : ∀ (H1 : Heap) (locs1 : List Loc), va_P D cl (Wd u') H1 → va_D A (Wd u') → va_S A s.heap H1 locs1 → W p l e (zRm fr lo) s m av.toArray below meth c H1 locs1 0 0 Z (F0 m (pc + 3) ls (rest))) : W p l e (zRm fr lo) s m av.toArray below meth c H locs 0 0 Z (F0 m pc ls st0) := by
  have hF := wA hA hD hS
  refine va_callv hr hS (fun q _ h => hF q h) hF (fun v t H1 locs1 ht hvm hw hB hz1 hk1 hS1 => ?_)
  obtain rfl := hw
  obtain ⟨hP1, hK1, hD1⟩ := hB
  rw [ht] at hP1
  exact kk H1 locs1 hP1 (hD1.weaken (fun k q _ h => hF _ h)) hS1
theorem goVV {rest st0 : List Value} {pc index : Nat} {As : List Value} {b0 ci : Nat} (q0 : Nat) {T : u_T} {N : Nat} {fs : List Value} (C0 : Ctx l D cl tys own b n av p s m c A) (hM : KV l D cl tys Wd y' b' n' rt' fr' lo' (.ref b0 :: As) u u') (hcode : Cond.code y' b' n' rt' ∈ tbG) (hini : Cond.initialized y'.cls ∈ tbG) (hlink : Cond.methodLink own index y' ∈ tbG) (hinst : Cond.instanceMethod y' ∈ tbG) (hsel : Cond.selects y'.cls y' y' ∈ tbG)
    (hd : y'.cls ≠ "java/lang/invoke/MethodHandle" ∧ y'.cls ≠ "java/lang/invoke/VarHandle" ∧ (parseMethodDescriptor y'.desc).map (fun d => d.parameters.length) = some As.length) (hR : fr' + 1 ≤ fr ∧ 8 + (n' + 11) + lo' ≤ lo)
    (he : (Wd u)[q0]? = some (b0, .inr (ci, fs))) (hc : cl[ci]? = some (y'.cls, T, N)) (hP : va_P D cl (Wd u) H) (hD : va_D A (Wd u)) (hS : va_S A s.heap H locs) (hsz : ls.size = n) (hst : st0 = As.reverse ++ .ref b0 :: rest) (hw : (rest.map fun v => v.category).sum ≤ 8) (hdg : decode b pc = .ok (.invokevirtual index, 3))
    (kk : ∀ (H1 : Heap) (locs1 : List Loc), va_P D cl (Wd u') H1 → va_D A (Wd u') → va_S A s.heap H1 locs1 → W p l e (zRm fr lo) s m av.toArray below meth c H1 locs1 0 0 Z (F0 m (pc + 3) ls (rest))) : W p l e (zRm fr lo) s m av.toArray below meth c H locs 0 0 Z (F0 m pc ls st0) := by
  obtain ⟨hx, hb, hml, hown, hts, hK, hN, hA⟩ := C0
  exact afV hA hD hS (va_runV (As := As) (rest := rest) ⟨hx, hb, hml, hown, hts⟩ (hM H.size) ⟨cbB As.length hts hcode hini hlink hd hR, hts _ hinst, hts _ hsel⟩ (prV hK hN hP hD hc he) rfl rfl hsz hst (lv_room (rest := st0) hw) hdg ⟨Nat.le_refl _, Nat.le_refl _⟩) kk
theorem goSV {rest st0 : List Value} {pc index : Nat} {As : List Value} (C0 : Ctx l D cl tys own b n av p s m c A) (hM : KV l D cl tys Wd y' b' n' rt' fr' lo' As u u') (hcode : Cond.code y' b' n' rt' ∈ tbG) (hini : Cond.initialized y'.cls ∈ tbG) (hlink : Cond.methodLink own index y' ∈ tbG) (hsta : Cond.static y' ∈ tbG)
    (hd : y'.cls ≠ "java/lang/invoke/MethodHandle" ∧ y'.cls ≠ "java/lang/invoke/VarHandle" ∧ (parseMethodDescriptor y'.desc).map (fun d => d.parameters.length) = some As.length) (hR : fr' + 1 ≤ fr ∧ 8 + (n' + 11) + lo' ≤ lo)
    (hP : va_P D cl (Wd u) H) (hD : va_D A (Wd u)) (hS : va_S A s.heap H locs) (hsz : ls.size = n) (hst : st0 = As.reverse ++ rest) (hw : (rest.map fun v => v.category).sum ≤ 8) (hdg : decode b pc = .ok (.invokestatic index, 3))
    (kk : ∀ (H1 : Heap) (locs1 : List Loc), va_P D cl (Wd u') H1 → va_D A (Wd u') → va_S A s.heap H1 locs1 → W p l e (zRm fr lo) s m av.toArray below meth c H1 locs1 0 0 Z (F0 m (pc + 3) ls (rest))) : W p l e (zRm fr lo) s m av.toArray below meth c H locs 0 0 Z (F0 m pc ls st0) := by
  obtain ⟨hx, hb, hml, hown, hts, hK, hN, hA⟩ := C0
  exact afV hA hD hS (va_runS (As := As) (rest := rest) ⟨hx, hb, hml, hown, hts⟩ (hM H.size) ⟨cbB As.length hts hcode hini hlink hd hR, hts _ hsta⟩ (prS hK hN hP hD) rfl rfl hsz hst (lv_room (rest := st0) hw) hdg ⟨Nat.le_refl _, Nat.le_refl _⟩) kk
theorem goNV {rest st0 : List Value} {pc index : Nat} {As : List Value} {host : String} (C0 : Ctx l D cl tys own b n av p s m c A) (hM : KV l D cl tys Wd y' b' n' rt' fr' lo' As u u') (hcode : Cond.code y' b' n' rt' ∈ tbG) (hini : Cond.initialized y'.cls ∈ tbG) (hlink : va_Nw (.methodLinkNest own index y' host) s) (hsta : Cond.static y' ∈ tbG)
    (hd : y'.cls ≠ "java/lang/invoke/MethodHandle" ∧ y'.cls ≠ "java/lang/invoke/VarHandle" ∧ (parseMethodDescriptor y'.desc).map (fun d => d.parameters.length) = some As.length) (hR : fr' + 1 ≤ fr ∧ 8 + (n' + 11) + lo' ≤ lo)
    (hP : va_P D cl (Wd u) H) (hD : va_D A (Wd u)) (hS : va_S A s.heap H locs) (hsz : ls.size = n) (hst : st0 = As.reverse ++ rest) (hw : (rest.map fun v => v.category).sum ≤ 8) (hdg : decode b pc = .ok (.invokestatic index, 3))
    (kk : ∀ (H1 : Heap) (locs1 : List Loc), va_P D cl (Wd u') H1 → va_D A (Wd u') → va_S A s.heap H1 locs1 → W p l e (zRm fr lo) s m av.toArray below meth c H1 locs1 0 0 Z (F0 m (pc + 3) ls (rest))) : W p l e (zRm fr lo) s m av.toArray below meth c H locs 0 0 Z (F0 m pc ls st0) := by
  obtain ⟨hx, hb, hml, hown, hts, hK, hN, hA⟩ := C0
  exact afV hA hD hS (va_runSN (As := As) (rest := rest) ⟨hx, hb, hml, hown, hts⟩ (hM H.size) ⟨va_cnB As.length hts (tb_good hcode) rfl rfl rfl hlink (hts _ hini) hd hR, hts _ hsta, trivial⟩ (prS hK hN hP hD) rfl rfl hsz hst (lv_room (rest := st0) hw) hdg ⟨Nat.le_refl _, Nat.le_refl _⟩) kk
end Call
end
