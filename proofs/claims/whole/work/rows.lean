section
-- ===== PART A: goes FIRST, ahead of the names: the tables' words, and 'selects' of the private methods out of them =====
/-- a private method of a class that the tables say can be made, by its rows of tables_1 -/
def lw_okq (q : MethodName × Nat) : Prop := (q.1.cls ≠ "java/lang/invoke/MethodHandle" ∧ q.1.cls ≠ "java/lang/invoke/VarHandle") ∧ Cond.instantiable q.1.cls q.2 ∈ tables_1 ∧ Cond.privateMethod q.1 ∈ tables_1 ∧ Cond.instanceMethod q.1 ∈ tables_1
theorem lw_p0 : lw_okq (⟨"RolledBack", "clearBook", "()V"⟩, 16) := ⟨⟨by decide +kernel, by decide +kernel⟩, List.mem_of_getElem? (i := 28) (by decide +kernel), List.mem_of_getElem? (i := 276) (by decide +kernel), List.mem_of_getElem? (i := 277) (by decide +kernel)⟩
theorem lw_p1 : lw_okq (⟨"RolledBack", "feedNumber", "(I)V"⟩, 16) := ⟨⟨by decide +kernel, by decide +kernel⟩, List.mem_of_getElem? (i := 28) (by decide +kernel), List.mem_of_getElem? (i := 333) (by decide +kernel), List.mem_of_getElem? (i := 334) (by decide +kernel)⟩
theorem lw_p2 : lw_okq (⟨"RolledBack$Pen", "needsGo", "(LRolledBack$State;I)Z"⟩, 6) := ⟨⟨by decide +kernel, by decide +kernel⟩, List.mem_of_getElem? (i := 155) (by decide +kernel), List.mem_of_getElem? (i := 387) (by decide +kernel), List.mem_of_getElem? (i := 388) (by decide +kernel)⟩
theorem lw_p3 : lw_okq (⟨"RolledBack$Pen", "closeRanks", "(LRolledBack$State;)V"⟩, 6) := ⟨⟨by decide +kernel, by decide +kernel⟩, List.mem_of_getElem? (i := 155) (by decide +kernel), List.mem_of_getElem? (i := 396) (by decide +kernel), List.mem_of_getElem? (i := 397) (by decide +kernel)⟩
theorem lw_p4 : lw_okq (⟨"RolledBack$Pen", "moveChange", "(LRolledBack$State;II)V"⟩, 6) := ⟨⟨by decide +kernel, by decide +kernel⟩, List.mem_of_getElem? (i := 155) (by decide +kernel), List.mem_of_getElem? (i := 400) (by decide +kernel), List.mem_of_getElem? (i := 401) (by decide +kernel)⟩
theorem lw_p5 : lw_okq (⟨"RolledBack$Pen", "takeDue", "(LRolledBack$State;)I"⟩, 6) := ⟨⟨by decide +kernel, by decide +kernel⟩, List.mem_of_getElem? (i := 155) (by decide +kernel), List.mem_of_getElem? (i := 404) (by decide +kernel), List.mem_of_getElem? (i := 405) (by decide +kernel)⟩
theorem lw_p6 : lw_okq (⟨"RolledBack", "safeWithin", "(II)Z"⟩, 16) := ⟨⟨by decide +kernel, by decide +kernel⟩, List.mem_of_getElem? (i := 28) (by decide +kernel), List.mem_of_getElem? (i := 432) (by decide +kernel), List.mem_of_getElem? (i := 433) (by decide +kernel)⟩
theorem lw_p7 : lw_okq (⟨"RolledBack$Steps", "linksDue", "(LRolledBack$State;II)I"⟩, 1) := ⟨⟨by decide +kernel, by decide +kernel⟩, List.mem_of_getElem? (i := 184) (by decide +kernel), List.mem_of_getElem? (i := 475) (by decide +kernel), List.mem_of_getElem? (i := 476) (by decide +kernel)⟩
theorem lw_p8 : lw_okq (⟨"RolledBack$Steps", "makeFile", "(LRolledBack$State;II)Z"⟩, 1) := ⟨⟨by decide +kernel, by decide +kernel⟩, List.mem_of_getElem? (i := 184) (by decide +kernel), List.mem_of_getElem? (i := 505) (by decide +kernel), List.mem_of_getElem? (i := 506) (by decide +kernel)⟩
theorem lw_p9 : lw_okq (⟨"RolledBack$Steps", "entryFor", "(LRolledBack$State;II)I"⟩, 1) := ⟨⟨by decide +kernel, by decide +kernel⟩, List.mem_of_getElem? (i := 184) (by decide +kernel), List.mem_of_getElem? (i := 509) (by decide +kernel), List.mem_of_getElem? (i := 510) (by decide +kernel)⟩
theorem lw_p10 : lw_okq (⟨"RolledBack$Steps", "freeNode", "(LRolledBack$State;)I"⟩, 1) := ⟨⟨by decide +kernel, by decide +kernel⟩, List.mem_of_getElem? (i := 184) (by decide +kernel), List.mem_of_getElem? (i := 516) (by decide +kernel), List.mem_of_getElem? (i := 517) (by decide +kernel)⟩
theorem lw_p11 : lw_okq (⟨"RolledBack$Steps", "nameEntry", "(LRolledBack$State;III)I"⟩, 1) := ⟨⟨by decide +kernel, by decide +kernel⟩, List.mem_of_getElem? (i := 184) (by decide +kernel), List.mem_of_getElem? (i := 524) (by decide +kernel), List.mem_of_getElem? (i := 525) (by decide +kernel)⟩
theorem lw_p12 : lw_okq (⟨"RolledBack$Steps", "makeDirectory", "(LRolledBack$State;II)Z"⟩, 1) := ⟨⟨by decide +kernel, by decide +kernel⟩, List.mem_of_getElem? (i := 184) (by decide +kernel), List.mem_of_getElem? (i := 537) (by decide +kernel), List.mem_of_getElem? (i := 538) (by decide +kernel)⟩
theorem lw_p13 : lw_okq (⟨"RolledBack$Steps", "freeBlock", "(LRolledBack$State;)I"⟩, 1) := ⟨⟨by decide +kernel, by decide +kernel⟩, List.mem_of_getElem? (i := 184) (by decide +kernel), List.mem_of_getElem? (i := 541) (by decide +kernel), List.mem_of_getElem? (i := 542) (by decide +kernel)⟩
theorem lw_p14 : lw_okq (⟨"RolledBack$Steps", "giveBlock", "(LRolledBack$State;IIII)I"⟩, 1) := ⟨⟨by decide +kernel, by decide +kernel⟩, List.mem_of_getElem? (i := 184) (by decide +kernel), List.mem_of_getElem? (i := 545) (by decide +kernel), List.mem_of_getElem? (i := 546) (by decide +kernel)⟩
theorem lw_p15 : lw_okq (⟨"RolledBack$Steps", "linkFile", "(LRolledBack$State;III)Z"⟩, 1) := ⟨⟨by decide +kernel, by decide +kernel⟩, List.mem_of_getElem? (i := 184) (by decide +kernel), List.mem_of_getElem? (i := 553) (by decide +kernel), List.mem_of_getElem? (i := 554) (by decide +kernel)⟩
def lw_privs_1 : List (MethodName × Nat) := [(⟨"RolledBack", "clearBook", "()V"⟩, 16), (⟨"RolledBack", "feedNumber", "(I)V"⟩, 16), (⟨"RolledBack$Pen", "needsGo", "(LRolledBack$State;I)Z"⟩, 6), (⟨"RolledBack$Pen", "closeRanks", "(LRolledBack$State;)V"⟩, 6), (⟨"RolledBack$Pen", "moveChange", "(LRolledBack$State;II)V"⟩, 6), (⟨"RolledBack$Pen", "takeDue", "(LRolledBack$State;)I"⟩, 6), (⟨"RolledBack", "safeWithin", "(II)Z"⟩, 16), (⟨"RolledBack$Steps", "linksDue", "(LRolledBack$State;II)I"⟩, 1), (⟨"RolledBack$Steps", "makeFile", "(LRolledBack$State;II)Z"⟩, 1), (⟨"RolledBack$Steps", "entryFor", "(LRolledBack$State;II)I"⟩, 1), (⟨"RolledBack$Steps", "freeNode", "(LRolledBack$State;)I"⟩, 1), (⟨"RolledBack$Steps", "nameEntry", "(LRolledBack$State;III)I"⟩, 1), (⟨"RolledBack$Steps", "makeDirectory", "(LRolledBack$State;II)Z"⟩, 1), (⟨"RolledBack$Steps", "freeBlock", "(LRolledBack$State;)I"⟩, 1), (⟨"RolledBack$Steps", "giveBlock", "(LRolledBack$State;IIII)I"⟩, 1), (⟨"RolledBack$Steps", "linkFile", "(LRolledBack$State;III)Z"⟩, 1)]
theorem lw_r1 : ∀ q ∈ lw_privs_1, lw_okq q := List.forall_mem_cons.mpr ⟨lw_p0, List.forall_mem_cons.mpr ⟨lw_p1, List.forall_mem_cons.mpr ⟨lw_p2, List.forall_mem_cons.mpr ⟨lw_p3, List.forall_mem_cons.mpr ⟨lw_p4, List.forall_mem_cons.mpr ⟨lw_p5, List.forall_mem_cons.mpr ⟨lw_p6, List.forall_mem_cons.mpr ⟨lw_p7, List.forall_mem_cons.mpr ⟨lw_p8, List.forall_mem_cons.mpr ⟨lw_p9, List.forall_mem_cons.mpr ⟨lw_p10, List.forall_mem_cons.mpr ⟨lw_p11, List.forall_mem_cons.mpr ⟨lw_p12, List.forall_mem_cons.mpr ⟨lw_p13, List.forall_mem_cons.mpr ⟨lw_p14, List.forall_mem_cons.mpr ⟨lw_p15, fun _ h => absurd h List.not_mem_nil⟩⟩⟩⟩⟩⟩⟩⟩⟩⟩⟩⟩⟩⟩⟩⟩
theorem lw_p16 : lw_okq (⟨"RolledBack$Steps", "isFile", "(LRolledBack$State;I)Z"⟩, 1) := ⟨⟨by decide +kernel, by decide +kernel⟩, List.mem_of_getElem? (i := 184) (by decide +kernel), List.mem_of_getElem? (i := 557) (by decide +kernel), List.mem_of_getElem? (i := 558) (by decide +kernel)⟩
theorem lw_p17 : lw_okq (⟨"RolledBack$Steps", "growNode", "(LRolledBack$State;II)Z"⟩, 1) := ⟨⟨by decide +kernel, by decide +kernel⟩, List.mem_of_getElem? (i := 184) (by decide +kernel), List.mem_of_getElem? (i := 561) (by decide +kernel), List.mem_of_getElem? (i := 562) (by decide +kernel)⟩
theorem lw_p18 : lw_okq (⟨"RolledBack$Steps", "putInFile", "(LRolledBack$State;III)Z"⟩, 1) := ⟨⟨by decide +kernel, by decide +kernel⟩, List.mem_of_getElem? (i := 184) (by decide +kernel), List.mem_of_getElem? (i := 565) (by decide +kernel), List.mem_of_getElem? (i := 566) (by decide +kernel)⟩
theorem lw_p19 : lw_okq (⟨"RolledBack$Steps", "cutFile", "(LRolledBack$State;I)Z"⟩, 1) := ⟨⟨by decide +kernel, by decide +kernel⟩, List.mem_of_getElem? (i := 184) (by decide +kernel), List.mem_of_getElem? (i := 569) (by decide +kernel), List.mem_of_getElem? (i := 570) (by decide +kernel)⟩
theorem lw_p20 : lw_okq (⟨"RolledBack$Steps", "dropEntry", "(LRolledBack$State;II)Z"⟩, 1) := ⟨⟨by decide +kernel, by decide +kernel⟩, List.mem_of_getElem? (i := 184) (by decide +kernel), List.mem_of_getElem? (i := 574) (by decide +kernel), List.mem_of_getElem? (i := 575) (by decide +kernel)⟩
theorem lw_p21 : lw_okq (⟨"RolledBack$Steps", "sweepOne", "(LRolledBack$State;)Z"⟩, 1) := ⟨⟨by decide +kernel, by decide +kernel⟩, List.mem_of_getElem? (i := 184) (by decide +kernel), List.mem_of_getElem? (i := 582) (by decide +kernel), List.mem_of_getElem? (i := 583) (by decide +kernel)⟩
theorem lw_p22 : lw_okq (⟨"RolledBack", "fittingBlocks", "()I"⟩, 16) := ⟨⟨by decide +kernel, by decide +kernel⟩, List.mem_of_getElem? (i := 28) (by decide +kernel), List.mem_of_getElem? (i := 595) (by decide +kernel), List.mem_of_getElem? (i := 596) (by decide +kernel)⟩
theorem lw_p23 : lw_okq (⟨"RolledBack", "fitsBook", "(I)Z"⟩, 16) := ⟨⟨by decide +kernel, by decide +kernel⟩, List.mem_of_getElem? (i := 28) (by decide +kernel), List.mem_of_getElem? (i := 601) (by decide +kernel), List.mem_of_getElem? (i := 602) (by decide +kernel)⟩
theorem lw_p24 : lw_okq (⟨"RolledBack$History", "keep", "(ILRolledBack$State;)V"⟩, 2) := ⟨⟨by decide +kernel, by decide +kernel⟩, List.mem_of_getElem? (i := 137) (by decide +kernel), List.mem_of_getElem? (i := 631) (by decide +kernel), List.mem_of_getElem? (i := 632) (by decide +kernel)⟩
theorem lw_p25 : lw_okq (⟨"RolledBack", "testLength", "(II)V"⟩, 16) := ⟨⟨by decide +kernel, by decide +kernel⟩, List.mem_of_getElem? (i := 28) (by decide +kernel), List.mem_of_getElem? (i := 656) (by decide +kernel), List.mem_of_getElem? (i := 657) (by decide +kernel)⟩
theorem lw_p26 : lw_okq (⟨"java/lang/NullPointerException", "getExtendedNPEMessage", "()Ljava/lang/String;"⟩, 8) := ⟨⟨by decide +kernel, by decide +kernel⟩, List.mem_of_getElem? (i := 700) (by decide +kernel), List.mem_of_getElem? (i := 698) (by decide +kernel), List.mem_of_getElem? (i := 699) (by decide +kernel)⟩
theorem lw_p27 : lw_okq (⟨"java/lang/Throwable", "fillInStackTrace", "(I)Ljava/lang/Throwable;"⟩, 6) := ⟨⟨by decide +kernel, by decide +kernel⟩, List.mem_of_getElem? (i := 713) (by decide +kernel), List.mem_of_getElem? (i := 711) (by decide +kernel), List.mem_of_getElem? (i := 712) (by decide +kernel)⟩
theorem lw_p28 : lw_okq (⟨"RolledBack$Reader", "begin", "([BI)V"⟩, 10) := ⟨⟨by decide +kernel, by decide +kernel⟩, List.mem_of_getElem? (i := 196) (by decide +kernel), List.mem_of_getElem? (i := 746) (by decide +kernel), List.mem_of_getElem? (i := 747) (by decide +kernel)⟩
theorem lw_p29 : lw_okq (⟨"RolledBack$Reader", "atEnd", "()Z"⟩, 10) := ⟨⟨by decide +kernel, by decide +kernel⟩, List.mem_of_getElem? (i := 196) (by decide +kernel), List.mem_of_getElem? (i := 761) (by decide +kernel), List.mem_of_getElem? (i := 762) (by decide +kernel)⟩
theorem lw_p30 : lw_okq (⟨"RolledBack$Reader", "readWord", "()I"⟩, 10) := ⟨⟨by decide +kernel, by decide +kernel⟩, List.mem_of_getElem? (i := 196) (by decide +kernel), List.mem_of_getElem? (i := 765) (by decide +kernel), List.mem_of_getElem? (i := 766) (by decide +kernel)⟩
theorem lw_p31 : lw_okq (⟨"RolledBack$Reader", "isSpelled", "(II)Z"⟩, 10) := ⟨⟨by decide +kernel, by decide +kernel⟩, List.mem_of_getElem? (i := 196) (by decide +kernel), List.mem_of_getElem? (i := 769) (by decide +kernel), List.mem_of_getElem? (i := 770) (by decide +kernel)⟩
def lw_privs_2 : List (MethodName × Nat) := [(⟨"RolledBack$Steps", "isFile", "(LRolledBack$State;I)Z"⟩, 1), (⟨"RolledBack$Steps", "growNode", "(LRolledBack$State;II)Z"⟩, 1), (⟨"RolledBack$Steps", "putInFile", "(LRolledBack$State;III)Z"⟩, 1), (⟨"RolledBack$Steps", "cutFile", "(LRolledBack$State;I)Z"⟩, 1), (⟨"RolledBack$Steps", "dropEntry", "(LRolledBack$State;II)Z"⟩, 1), (⟨"RolledBack$Steps", "sweepOne", "(LRolledBack$State;)Z"⟩, 1), (⟨"RolledBack", "fittingBlocks", "()I"⟩, 16), (⟨"RolledBack", "fitsBook", "(I)Z"⟩, 16), (⟨"RolledBack$History", "keep", "(ILRolledBack$State;)V"⟩, 2), (⟨"RolledBack", "testLength", "(II)V"⟩, 16), (⟨"java/lang/NullPointerException", "getExtendedNPEMessage", "()Ljava/lang/String;"⟩, 8), (⟨"java/lang/Throwable", "fillInStackTrace", "(I)Ljava/lang/Throwable;"⟩, 6), (⟨"RolledBack$Reader", "begin", "([BI)V"⟩, 10), (⟨"RolledBack$Reader", "atEnd", "()Z"⟩, 10), (⟨"RolledBack$Reader", "readWord", "()I"⟩, 10), (⟨"RolledBack$Reader", "isSpelled", "(II)Z"⟩, 10)]
theorem lw_r2 : ∀ q ∈ lw_privs_2, lw_okq q := List.forall_mem_cons.mpr ⟨lw_p16, List.forall_mem_cons.mpr ⟨lw_p17, List.forall_mem_cons.mpr ⟨lw_p18, List.forall_mem_cons.mpr ⟨lw_p19, List.forall_mem_cons.mpr ⟨lw_p20, List.forall_mem_cons.mpr ⟨lw_p21, List.forall_mem_cons.mpr ⟨lw_p22, List.forall_mem_cons.mpr ⟨lw_p23, List.forall_mem_cons.mpr ⟨lw_p24, List.forall_mem_cons.mpr ⟨lw_p25, List.forall_mem_cons.mpr ⟨lw_p26, List.forall_mem_cons.mpr ⟨lw_p27, List.forall_mem_cons.mpr ⟨lw_p28, List.forall_mem_cons.mpr ⟨lw_p29, List.forall_mem_cons.mpr ⟨lw_p30, List.forall_mem_cons.mpr ⟨lw_p31, fun _ h => absurd h List.not_mem_nil⟩⟩⟩⟩⟩⟩⟩⟩⟩⟩⟩⟩⟩⟩⟩⟩
theorem lw_p32 : lw_okq (⟨"RolledBack$Reader", "blame", "(II)V"⟩, 10) := ⟨⟨by decide +kernel, by decide +kernel⟩, List.mem_of_getElem? (i := 196) (by decide +kernel), List.mem_of_getElem? (i := 814) (by decide +kernel), List.mem_of_getElem? (i := 815) (by decide +kernel)⟩
theorem lw_p33 : lw_okq (⟨"RolledBack$Reader", "readNumbers", "(I)V"⟩, 10) := ⟨⟨by decide +kernel, by decide +kernel⟩, List.mem_of_getElem? (i := 196) (by decide +kernel), List.mem_of_getElem? (i := 818) (by decide +kernel), List.mem_of_getElem? (i := 819) (by decide +kernel)⟩
theorem lw_p34 : lw_okq (⟨"RolledBack$Reader", "readNumber", "(II)I"⟩, 10) := ⟨⟨by decide +kernel, by decide +kernel⟩, List.mem_of_getElem? (i := 196) (by decide +kernel), List.mem_of_getElem? (i := 822) (by decide +kernel), List.mem_of_getElem? (i := 823) (by decide +kernel)⟩
theorem lw_p35 : lw_okq (⟨"RolledBack$Reader", "isDigit", "(I)Z"⟩, 10) := ⟨⟨by decide +kernel, by decide +kernel⟩, List.mem_of_getElem? (i := 196) (by decide +kernel), List.mem_of_getElem? (i := 826) (by decide +kernel), List.mem_of_getElem? (i := 827) (by decide +kernel)⟩
theorem lw_p36 : lw_okq (⟨"RolledBack$Reader", "readSign", "(C)V"⟩, 10) := ⟨⟨by decide +kernel, by decide +kernel⟩, List.mem_of_getElem? (i := 196) (by decide +kernel), List.mem_of_getElem? (i := 834) (by decide +kernel), List.mem_of_getElem? (i := 835) (by decide +kernel)⟩
theorem lw_p37 : lw_okq (⟨"RolledBack", "textRead", "(I)V"⟩, 16) := ⟨⟨by decide +kernel, by decide +kernel⟩, List.mem_of_getElem? (i := 28) (by decide +kernel), List.mem_of_getElem? (i := 838) (by decide +kernel), List.mem_of_getElem? (i := 839) (by decide +kernel)⟩
theorem lw_p38 : lw_okq (⟨"RolledBack", "buildStore", "(LRolledBack$Script;)V"⟩, 16) := ⟨⟨by decide +kernel, by decide +kernel⟩, List.mem_of_getElem? (i := 28) (by decide +kernel), List.mem_of_getElem? (i := 842) (by decide +kernel), List.mem_of_getElem? (i := 843) (by decide +kernel)⟩
theorem lw_p39 : lw_okq (⟨"RolledBack$Reader", "readStep", "()V"⟩, 10) := ⟨⟨by decide +kernel, by decide +kernel⟩, List.mem_of_getElem? (i := 196) (by decide +kernel), List.mem_of_getElem? (i := 865) (by decide +kernel), List.mem_of_getElem? (i := 866) (by decide +kernel)⟩
theorem lw_p40 : lw_okq (⟨"RolledBack", "runScript", "(LRolledBack$Script;)I"⟩, 16) := ⟨⟨by decide +kernel, by decide +kernel⟩, List.mem_of_getElem? (i := 28) (by decide +kernel), List.mem_of_getElem? (i := 873) (by decide +kernel), List.mem_of_getElem? (i := 874) (by decide +kernel)⟩
theorem lw_p41 : lw_okq (⟨"RolledBack", "testWhat", "(II)V"⟩, 16) := ⟨⟨by decide +kernel, by decide +kernel⟩, List.mem_of_getElem? (i := 28) (by decide +kernel), List.mem_of_getElem? (i := 904) (by decide +kernel), List.mem_of_getElem? (i := 905) (by decide +kernel)⟩
theorem lw_p42 : lw_okq (⟨"RolledBack", "testRange", "(III)V"⟩, 16) := ⟨⟨by decide +kernel, by decide +kernel⟩, List.mem_of_getElem? (i := 28) (by decide +kernel), List.mem_of_getElem? (i := 908) (by decide +kernel), List.mem_of_getElem? (i := 909) (by decide +kernel)⟩
theorem lw_p43 : lw_okq (⟨"RolledBack", "testWhere", "(I)V"⟩, 16) := ⟨⟨by decide +kernel, by decide +kernel⟩, List.mem_of_getElem? (i := 28) (by decide +kernel), List.mem_of_getElem? (i := 944) (by decide +kernel), List.mem_of_getElem? (i := 945) (by decide +kernel)⟩
theorem lw_p44 : lw_okq (⟨"RolledBack", "testBlock", "(I)V"⟩, 16) := ⟨⟨by decide +kernel, by decide +kernel⟩, List.mem_of_getElem? (i := 28) (by decide +kernel), List.mem_of_getElem? (i := 948) (by decide +kernel), List.mem_of_getElem? (i := 949) (by decide +kernel)⟩
theorem lw_p45 : lw_okq (⟨"RolledBack", "testPlace", "(I)V"⟩, 16) := ⟨⟨by decide +kernel, by decide +kernel⟩, List.mem_of_getElem? (i := 28) (by decide +kernel), List.mem_of_getElem? (i := 965) (by decide +kernel), List.mem_of_getElem? (i := 966) (by decide +kernel)⟩
theorem lw_p46 : lw_okq (⟨"RolledBack", "testNode", "(I)V"⟩, 16) := ⟨⟨by decide +kernel, by decide +kernel⟩, List.mem_of_getElem? (i := 28) (by decide +kernel), List.mem_of_getElem? (i := 979) (by decide +kernel), List.mem_of_getElem? (i := 980) (by decide +kernel)⟩
theorem lw_p47 : lw_okq (⟨"RolledBack", "testChange", "(I)V"⟩, 16) := ⟨⟨by decide +kernel, by decide +kernel⟩, List.mem_of_getElem? (i := 28) (by decide +kernel), List.mem_of_getElem? (i := 1115) (by decide +kernel), List.mem_of_getElem? (i := 1116) (by decide +kernel)⟩
def lw_privs_3 : List (MethodName × Nat) := [(⟨"RolledBack$Reader", "blame", "(II)V"⟩, 10), (⟨"RolledBack$Reader", "readNumbers", "(I)V"⟩, 10), (⟨"RolledBack$Reader", "readNumber", "(II)I"⟩, 10), (⟨"RolledBack$Reader", "isDigit", "(I)Z"⟩, 10), (⟨"RolledBack$Reader", "readSign", "(C)V"⟩, 10), (⟨"RolledBack", "textRead", "(I)V"⟩, 16), (⟨"RolledBack", "buildStore", "(LRolledBack$Script;)V"⟩, 16), (⟨"RolledBack$Reader", "readStep", "()V"⟩, 10), (⟨"RolledBack", "runScript", "(LRolledBack$Script;)I"⟩, 16), (⟨"RolledBack", "testWhat", "(II)V"⟩, 16), (⟨"RolledBack", "testRange", "(III)V"⟩, 16), (⟨"RolledBack", "testWhere", "(I)V"⟩, 16), (⟨"RolledBack", "testBlock", "(I)V"⟩, 16), (⟨"RolledBack", "testPlace", "(I)V"⟩, 16), (⟨"RolledBack", "testNode", "(I)V"⟩, 16), (⟨"RolledBack", "testChange", "(I)V"⟩, 16)]
theorem lw_r3 : ∀ q ∈ lw_privs_3, lw_okq q := List.forall_mem_cons.mpr ⟨lw_p32, List.forall_mem_cons.mpr ⟨lw_p33, List.forall_mem_cons.mpr ⟨lw_p34, List.forall_mem_cons.mpr ⟨lw_p35, List.forall_mem_cons.mpr ⟨lw_p36, List.forall_mem_cons.mpr ⟨lw_p37, List.forall_mem_cons.mpr ⟨lw_p38, List.forall_mem_cons.mpr ⟨lw_p39, List.forall_mem_cons.mpr ⟨lw_p40, List.forall_mem_cons.mpr ⟨lw_p41, List.forall_mem_cons.mpr ⟨lw_p42, List.forall_mem_cons.mpr ⟨lw_p43, List.forall_mem_cons.mpr ⟨lw_p44, List.forall_mem_cons.mpr ⟨lw_p45, List.forall_mem_cons.mpr ⟨lw_p46, List.forall_mem_cons.mpr ⟨lw_p47, fun _ h => absurd h List.not_mem_nil⟩⟩⟩⟩⟩⟩⟩⟩⟩⟩⟩⟩⟩⟩⟩⟩
theorem lw_p48 : lw_okq (⟨"RolledBack", "mostAlike", "(II)I"⟩, 16) := ⟨⟨by decide +kernel, by decide +kernel⟩, List.mem_of_getElem? (i := 28) (by decide +kernel), List.mem_of_getElem? (i := 1167) (by decide +kernel), List.mem_of_getElem? (i := 1168) (by decide +kernel)⟩
theorem lw_p49 : lw_okq (⟨"RolledBack", "blow", "(III)LRolledBack$State;"⟩, 16) := ⟨⟨by decide +kernel, by decide +kernel⟩, List.mem_of_getElem? (i := 28) (by decide +kernel), List.mem_of_getElem? (i := 1206) (by decide +kernel), List.mem_of_getElem? (i := 1207) (by decide +kernel)⟩
theorem lw_p50 : lw_okq (⟨"RolledBackModel", "beginsAnew", "()V"⟩, 38) := ⟨⟨by decide +kernel, by decide +kernel⟩, List.mem_of_getElem? (i := 1250) (by decide +kernel), List.mem_of_getElem? (i := 1259) (by decide +kernel), List.mem_of_getElem? (i := 1260) (by decide +kernel)⟩
theorem lw_p51 : lw_okq (⟨"RolledBackModel", "does", "([I[I)Z"⟩, 38) := ⟨⟨by decide +kernel, by decide +kernel⟩, List.mem_of_getElem? (i := 1250) (by decide +kernel), List.mem_of_getElem? (i := 1269) (by decide +kernel), List.mem_of_getElem? (i := 1270) (by decide +kernel)⟩
theorem lw_p52 : lw_okq (⟨"RolledBackModel", "begins", "([IIII)Z"⟩, 38) := ⟨⟨by decide +kernel, by decide +kernel⟩, List.mem_of_getElem? (i := 1250) (by decide +kernel), List.mem_of_getElem? (i := 1276) (by decide +kernel), List.mem_of_getElem? (i := 1277) (by decide +kernel)⟩
theorem lw_p53 : lw_okq (⟨"RolledBackModel", "freeBlock", "([I)I"⟩, 38) := ⟨⟨by decide +kernel, by decide +kernel⟩, List.mem_of_getElem? (i := 1250) (by decide +kernel), List.mem_of_getElem? (i := 1286) (by decide +kernel), List.mem_of_getElem? (i := 1287) (by decide +kernel)⟩
theorem lw_p54 : lw_okq (⟨"RolledBackModel", "isNewName", "([III)Z"⟩, 38) := ⟨⟨by decide +kernel, by decide +kernel⟩, List.mem_of_getElem? (i := 1250) (by decide +kernel), List.mem_of_getElem? (i := 1290) (by decide +kernel), List.mem_of_getElem? (i := 1291) (by decide +kernel)⟩
theorem lw_p55 : lw_okq (⟨"RolledBackModel", "links", "([IIII)Z"⟩, 38) := ⟨⟨by decide +kernel, by decide +kernel⟩, List.mem_of_getElem? (i := 1250) (by decide +kernel), List.mem_of_getElem? (i := 1333) (by decide +kernel), List.mem_of_getElem? (i := 1334) (by decide +kernel)⟩
theorem lw_p56 : lw_okq (⟨"RolledBackModel", "grows", "([III)Z"⟩, 38) := ⟨⟨by decide +kernel, by decide +kernel⟩, List.mem_of_getElem? (i := 1250) (by decide +kernel), List.mem_of_getElem? (i := 1337) (by decide +kernel), List.mem_of_getElem? (i := 1338) (by decide +kernel)⟩
theorem lw_p57 : lw_okq (⟨"RolledBackModel", "writes", "([II)Z"⟩, 38) := ⟨⟨by decide +kernel, by decide +kernel⟩, List.mem_of_getElem? (i := 1250) (by decide +kernel), List.mem_of_getElem? (i := 1356) (by decide +kernel), List.mem_of_getElem? (i := 1357) (by decide +kernel)⟩
theorem lw_p58 : lw_okq (⟨"RolledBackModel", "copiesBlock", "([II)I"⟩, 38) := ⟨⟨by decide +kernel, by decide +kernel⟩, List.mem_of_getElem? (i := 1250) (by decide +kernel), List.mem_of_getElem? (i := 1363) (by decide +kernel), List.mem_of_getElem? (i := 1364) (by decide +kernel)⟩
theorem lw_p59 : lw_okq (⟨"RolledBackModel", "mayGo", "([II)Z"⟩, 38) := ⟨⟨by decide +kernel, by decide +kernel⟩, List.mem_of_getElem? (i := 1250) (by decide +kernel), List.mem_of_getElem? (i := 1367) (by decide +kernel), List.mem_of_getElem? (i := 1368) (by decide +kernel)⟩
theorem lw_p60 : lw_okq (⟨"RolledBackModel", "leavesOut", "([I)V"⟩, 38) := ⟨⟨by decide +kernel, by decide +kernel⟩, List.mem_of_getElem? (i := 1250) (by decide +kernel), List.mem_of_getElem? (i := 1383) (by decide +kernel), List.mem_of_getElem? (i := 1384) (by decide +kernel)⟩
theorem lw_p61 : lw_okq (⟨"RolledBackModel", "doesLater", "([I)V"⟩, 38) := ⟨⟨by decide +kernel, by decide +kernel⟩, List.mem_of_getElem? (i := 1250) (by decide +kernel), List.mem_of_getElem? (i := 1387) (by decide +kernel), List.mem_of_getElem? (i := 1388) (by decide +kernel)⟩
theorem lw_p62 : lw_okq (⟨"RolledBackModel", "isGone", "(I)Z"⟩, 38) := ⟨⟨by decide +kernel, by decide +kernel⟩, List.mem_of_getElem? (i := 1250) (by decide +kernel), List.mem_of_getElem? (i := 1391) (by decide +kernel), List.mem_of_getElem? (i := 1392) (by decide +kernel)⟩
theorem lw_p63 : lw_okq (⟨"RolledBackModel", "syncs", "([I)Z"⟩, 38) := ⟨⟨by decide +kernel, by decide +kernel⟩, List.mem_of_getElem? (i := 1250) (by decide +kernel), List.mem_of_getElem? (i := 1401) (by decide +kernel), List.mem_of_getElem? (i := 1402) (by decide +kernel)⟩
def lw_privs_4 : List (MethodName × Nat) := [(⟨"RolledBack", "mostAlike", "(II)I"⟩, 16), (⟨"RolledBack", "blow", "(III)LRolledBack$State;"⟩, 16), (⟨"RolledBackModel", "beginsAnew", "()V"⟩, 38), (⟨"RolledBackModel", "does", "([I[I)Z"⟩, 38), (⟨"RolledBackModel", "begins", "([IIII)Z"⟩, 38), (⟨"RolledBackModel", "freeBlock", "([I)I"⟩, 38), (⟨"RolledBackModel", "isNewName", "([III)Z"⟩, 38), (⟨"RolledBackModel", "links", "([IIII)Z"⟩, 38), (⟨"RolledBackModel", "grows", "([III)Z"⟩, 38), (⟨"RolledBackModel", "writes", "([II)Z"⟩, 38), (⟨"RolledBackModel", "copiesBlock", "([II)I"⟩, 38), (⟨"RolledBackModel", "mayGo", "([II)Z"⟩, 38), (⟨"RolledBackModel", "leavesOut", "([I)V"⟩, 38), (⟨"RolledBackModel", "doesLater", "([I)V"⟩, 38), (⟨"RolledBackModel", "isGone", "(I)Z"⟩, 38), (⟨"RolledBackModel", "syncs", "([I)Z"⟩, 38)]
theorem lw_r4 : ∀ q ∈ lw_privs_4, lw_okq q := List.forall_mem_cons.mpr ⟨lw_p48, List.forall_mem_cons.mpr ⟨lw_p49, List.forall_mem_cons.mpr ⟨lw_p50, List.forall_mem_cons.mpr ⟨lw_p51, List.forall_mem_cons.mpr ⟨lw_p52, List.forall_mem_cons.mpr ⟨lw_p53, List.forall_mem_cons.mpr ⟨lw_p54, List.forall_mem_cons.mpr ⟨lw_p55, List.forall_mem_cons.mpr ⟨lw_p56, List.forall_mem_cons.mpr ⟨lw_p57, List.forall_mem_cons.mpr ⟨lw_p58, List.forall_mem_cons.mpr ⟨lw_p59, List.forall_mem_cons.mpr ⟨lw_p60, List.forall_mem_cons.mpr ⟨lw_p61, List.forall_mem_cons.mpr ⟨lw_p62, List.forall_mem_cons.mpr ⟨lw_p63, fun _ h => absurd h List.not_mem_nil⟩⟩⟩⟩⟩⟩⟩⟩⟩⟩⟩⟩⟩⟩⟩⟩
theorem lw_p64 : lw_okq (⟨"RolledBackModel", "sweepsOne", "([I)Z"⟩, 38) := ⟨⟨by decide +kernel, by decide +kernel⟩, List.mem_of_getElem? (i := 1250) (by decide +kernel), List.mem_of_getElem? (i := 1408) (by decide +kernel), List.mem_of_getElem? (i := 1409) (by decide +kernel)⟩
theorem lw_p65 : lw_okq (⟨"RolledBackModel", "sweepAt", "([I)I"⟩, 38) := ⟨⟨by decide +kernel, by decide +kernel⟩, List.mem_of_getElem? (i := 1250) (by decide +kernel), List.mem_of_getElem? (i := 1412) (by decide +kernel), List.mem_of_getElem? (i := 1413) (by decide +kernel)⟩
theorem lw_p66 : lw_okq (⟨"RolledBackModel", "bad", "(ZII)Z"⟩, 38) := ⟨⟨by decide +kernel, by decide +kernel⟩, List.mem_of_getElem? (i := 1250) (by decide +kernel), List.mem_of_getElem? (i := 1558) (by decide +kernel), List.mem_of_getElem? (i := 1559) (by decide +kernel)⟩
theorem lw_p67 : lw_okq (⟨"RolledBackModel", "starts", "(I)V"⟩, 38) := ⟨⟨by decide +kernel, by decide +kernel⟩, List.mem_of_getElem? (i := 1250) (by decide +kernel), List.mem_of_getElem? (i := 1562) (by decide +kernel), List.mem_of_getElem? (i := 1563) (by decide +kernel)⟩
theorem lw_p68 : lw_okq (⟨"RolledBackModel", "blanks", "()V"⟩, 38) := ⟨⟨by decide +kernel, by decide +kernel⟩, List.mem_of_getElem? (i := 1250) (by decide +kernel), List.mem_of_getElem? (i := 1566) (by decide +kernel), List.mem_of_getElem? (i := 1567) (by decide +kernel)⟩
theorem lw_p69 : lw_okq (⟨"RolledBackModel", "byteAt", "(I)I"⟩, 38) := ⟨⟨by decide +kernel, by decide +kernel⟩, List.mem_of_getElem? (i := 1250) (by decide +kernel), List.mem_of_getElem? (i := 1570) (by decide +kernel), List.mem_of_getElem? (i := 1571) (by decide +kernel)⟩
theorem lw_p70 : lw_okq (⟨"RolledBackModel", "clause", "()V"⟩, 38) := ⟨⟨by decide +kernel, by decide +kernel⟩, List.mem_of_getElem? (i := 1250) (by decide +kernel), List.mem_of_getElem? (i := 1574) (by decide +kernel), List.mem_of_getElem? (i := 1575) (by decide +kernel)⟩
theorem lw_p71 : lw_okq (⟨"RolledBackModel", "isWord", "(IIIIII)Z"⟩, 38) := ⟨⟨by decide +kernel, by decide +kernel⟩, List.mem_of_getElem? (i := 1250) (by decide +kernel), List.mem_of_getElem? (i := 1578) (by decide +kernel), List.mem_of_getElem? (i := 1579) (by decide +kernel)⟩
theorem lw_p72 : lw_okq (⟨"RolledBackModel", "wordHere", "()I"⟩, 38) := ⟨⟨by decide +kernel, by decide +kernel⟩, List.mem_of_getElem? (i := 1250) (by decide +kernel), List.mem_of_getElem? (i := 1582) (by decide +kernel), List.mem_of_getElem? (i := 1583) (by decide +kernel)⟩
theorem lw_p73 : lw_okq (⟨"RolledBackModel", "stepHere", "()I"⟩, 38) := ⟨⟨by decide +kernel, by decide +kernel⟩, List.mem_of_getElem? (i := 1250) (by decide +kernel), List.mem_of_getElem? (i := 1592) (by decide +kernel), List.mem_of_getElem? (i := 1593) (by decide +kernel)⟩
theorem lw_p74 : lw_okq (⟨"RolledBackModel", "wrong", "(II)V"⟩, 38) := ⟨⟨by decide +kernel, by decide +kernel⟩, List.mem_of_getElem? (i := 1250) (by decide +kernel), List.mem_of_getElem? (i := 1596) (by decide +kernel), List.mem_of_getElem? (i := 1597) (by decide +kernel)⟩
theorem lw_p75 : lw_okq (⟨"RolledBackModel", "readsStep", "()V"⟩, 38) := ⟨⟨by decide +kernel, by decide +kernel⟩, List.mem_of_getElem? (i := 1250) (by decide +kernel), List.mem_of_getElem? (i := 1600) (by decide +kernel), List.mem_of_getElem? (i := 1601) (by decide +kernel)⟩
theorem lw_p76 : lw_okq (⟨"RolledBackModel", "skipWord", "()V"⟩, 38) := ⟨⟨by decide +kernel, by decide +kernel⟩, List.mem_of_getElem? (i := 1250) (by decide +kernel), List.mem_of_getElem? (i := 1604) (by decide +kernel), List.mem_of_getElem? (i := 1605) (by decide +kernel)⟩
theorem lw_p77 : lw_okq (⟨"RolledBackModel", "numbers", "([I)V"⟩, 38) := ⟨⟨by decide +kernel, by decide +kernel⟩, List.mem_of_getElem? (i := 1250) (by decide +kernel), List.mem_of_getElem? (i := 1608) (by decide +kernel), List.mem_of_getElem? (i := 1609) (by decide +kernel)⟩
theorem lw_p78 : lw_okq (⟨"RolledBackModel", "number", "(II)I"⟩, 38) := ⟨⟨by decide +kernel, by decide +kernel⟩, List.mem_of_getElem? (i := 1250) (by decide +kernel), List.mem_of_getElem? (i := 1612) (by decide +kernel), List.mem_of_getElem? (i := 1613) (by decide +kernel)⟩
theorem lw_p79 : lw_okq (⟨"RolledBackModel", "again", "([I)V"⟩, 38) := ⟨⟨by decide +kernel, by decide +kernel⟩, List.mem_of_getElem? (i := 1250) (by decide +kernel), List.mem_of_getElem? (i := 1620) (by decide +kernel), List.mem_of_getElem? (i := 1621) (by decide +kernel)⟩
def lw_privs_5 : List (MethodName × Nat) := [(⟨"RolledBackModel", "sweepsOne", "([I)Z"⟩, 38), (⟨"RolledBackModel", "sweepAt", "([I)I"⟩, 38), (⟨"RolledBackModel", "bad", "(ZII)Z"⟩, 38), (⟨"RolledBackModel", "starts", "(I)V"⟩, 38), (⟨"RolledBackModel", "blanks", "()V"⟩, 38), (⟨"RolledBackModel", "byteAt", "(I)I"⟩, 38), (⟨"RolledBackModel", "clause", "()V"⟩, 38), (⟨"RolledBackModel", "isWord", "(IIIIII)Z"⟩, 38), (⟨"RolledBackModel", "wordHere", "()I"⟩, 38), (⟨"RolledBackModel", "stepHere", "()I"⟩, 38), (⟨"RolledBackModel", "wrong", "(II)V"⟩, 38), (⟨"RolledBackModel", "readsStep", "()V"⟩, 38), (⟨"RolledBackModel", "skipWord", "()V"⟩, 38), (⟨"RolledBackModel", "numbers", "([I)V"⟩, 38), (⟨"RolledBackModel", "number", "(II)I"⟩, 38), (⟨"RolledBackModel", "again", "([I)V"⟩, 38)]
theorem lw_r5 : ∀ q ∈ lw_privs_5, lw_okq q := List.forall_mem_cons.mpr ⟨lw_p64, List.forall_mem_cons.mpr ⟨lw_p65, List.forall_mem_cons.mpr ⟨lw_p66, List.forall_mem_cons.mpr ⟨lw_p67, List.forall_mem_cons.mpr ⟨lw_p68, List.forall_mem_cons.mpr ⟨lw_p69, List.forall_mem_cons.mpr ⟨lw_p70, List.forall_mem_cons.mpr ⟨lw_p71, List.forall_mem_cons.mpr ⟨lw_p72, List.forall_mem_cons.mpr ⟨lw_p73, List.forall_mem_cons.mpr ⟨lw_p74, List.forall_mem_cons.mpr ⟨lw_p75, List.forall_mem_cons.mpr ⟨lw_p76, List.forall_mem_cons.mpr ⟨lw_p77, List.forall_mem_cons.mpr ⟨lw_p78, List.forall_mem_cons.mpr ⟨lw_p79, fun _ h => absurd h List.not_mem_nil⟩⟩⟩⟩⟩⟩⟩⟩⟩⟩⟩⟩⟩⟩⟩⟩
theorem lw_p80 : lw_okq (⟨"RolledBackModel", "sign", "(I)V"⟩, 38) := ⟨⟨by decide +kernel, by decide +kernel⟩, List.mem_of_getElem? (i := 1250) (by decide +kernel), List.mem_of_getElem? (i := 1624) (by decide +kernel), List.mem_of_getElem? (i := 1625) (by decide +kernel)⟩
theorem lw_p81 : lw_okq (⟨"RolledBackModel", "ends", "()I"⟩, 38) := ⟨⟨by decide +kernel, by decide +kernel⟩, List.mem_of_getElem? (i := 1250) (by decide +kernel), List.mem_of_getElem? (i := 1628) (by decide +kernel), List.mem_of_getElem? (i := 1629) (by decide +kernel)⟩
theorem lw_p82 : lw_okq (⟨"RolledBackModel", "goes", "(II)V"⟩, 38) := ⟨⟨by decide +kernel, by decide +kernel⟩, List.mem_of_getElem? (i := 1250) (by decide +kernel), List.mem_of_getElem? (i := 1647) (by decide +kernel), List.mem_of_getElem? (i := 1648) (by decide +kernel)⟩
theorem lw_p83 : lw_okq (⟨"RolledBackModel", "dirty", "([I)I"⟩, 38) := ⟨⟨by decide +kernel, by decide +kernel⟩, List.mem_of_getElem? (i := 1250) (by decide +kernel), List.mem_of_getElem? (i := 1659) (by decide +kernel), List.mem_of_getElem? (i := 1660) (by decide +kernel)⟩
theorem lw_p84 : lw_okq (⟨"RolledBackModel", "isBlock", "(I)Z"⟩, 38) := ⟨⟨by decide +kernel, by decide +kernel⟩, List.mem_of_getElem? (i := 1250) (by decide +kernel), List.mem_of_getElem? (i := 1670) (by decide +kernel), List.mem_of_getElem? (i := 1671) (by decide +kernel)⟩
theorem lw_p85 : lw_okq (⟨"RolledBackModel", "leaking", "([II)I"⟩, 38) := ⟨⟨by decide +kernel, by decide +kernel⟩, List.mem_of_getElem? (i := 1250) (by decide +kernel), List.mem_of_getElem? (i := 1696) (by decide +kernel), List.mem_of_getElem? (i := 1697) (by decide +kernel)⟩
theorem lw_p86 : lw_okq (⟨"RolledBackModel", "brokenOf", "([II)I"⟩, 38) := ⟨⟨by decide +kernel, by decide +kernel⟩, List.mem_of_getElem? (i := 1250) (by decide +kernel), List.mem_of_getElem? (i := 1708) (by decide +kernel), List.mem_of_getElem? (i := 1709) (by decide +kernel)⟩
theorem lw_p87 : lw_okq (⟨"RolledBackModel", "underOf", "(II)I"⟩, 38) := ⟨⟨by decide +kernel, by decide +kernel⟩, List.mem_of_getElem? (i := 1250) (by decide +kernel), List.mem_of_getElem? (i := 1716) (by decide +kernel), List.mem_of_getElem? (i := 1717) (by decide +kernel)⟩
theorem lw_p88 : lw_okq (⟨"RolledBackModel", "deepOf", "(II)I"⟩, 38) := ⟨⟨by decide +kernel, by decide +kernel⟩, List.mem_of_getElem? (i := 1250) (by decide +kernel), List.mem_of_getElem? (i := 1724) (by decide +kernel), List.mem_of_getElem? (i := 1725) (by decide +kernel)⟩
theorem lw_p89 : lw_okq (⟨"RolledBackModel", "waitsFor", "(I)I"⟩, 38) := ⟨⟨by decide +kernel, by decide +kernel⟩, List.mem_of_getElem? (i := 1250) (by decide +kernel), List.mem_of_getElem? (i := 1747) (by decide +kernel), List.mem_of_getElem? (i := 1748) (by decide +kernel)⟩
theorem lw_p90 : lw_okq (⟨"RolledBackModel", "settles", "([I)I"⟩, 38) := ⟨⟨by decide +kernel, by decide +kernel⟩, List.mem_of_getElem? (i := 1250) (by decide +kernel), List.mem_of_getElem? (i := 1759) (by decide +kernel), List.mem_of_getElem? (i := 1760) (by decide +kernel)⟩
theorem lw_p91 : lw_okq (⟨"RolledBackModel", "spills", "([II)V"⟩, 38) := ⟨⟨by decide +kernel, by decide +kernel⟩, List.mem_of_getElem? (i := 1250) (by decide +kernel), List.mem_of_getElem? (i := 1763) (by decide +kernel), List.mem_of_getElem? (i := 1764) (by decide +kernel)⟩
theorem lw_p92 : lw_okq (⟨"RolledBackModel", "isSafeBy", "(II)Z"⟩, 38) := ⟨⟨by decide +kernel, by decide +kernel⟩, List.mem_of_getElem? (i := 1250) (by decide +kernel), List.mem_of_getElem? (i := 1778) (by decide +kernel), List.mem_of_getElem? (i := 1779) (by decide +kernel)⟩
theorem lw_p93 : lw_okq (⟨"RolledBackModel", "fitsNow", "()I"⟩, 38) := ⟨⟨by decide +kernel, by decide +kernel⟩, List.mem_of_getElem? (i := 1250) (by decide +kernel), List.mem_of_getElem? (i := 1794) (by decide +kernel), List.mem_of_getElem? (i := 1795) (by decide +kernel)⟩
theorem lw_p94 : lw_okq (⟨"RolledBackModel", "isSo", "(I)Z"⟩, 38) := ⟨⟨by decide +kernel, by decide +kernel⟩, List.mem_of_getElem? (i := 1250) (by decide +kernel), List.mem_of_getElem? (i := 1798) (by decide +kernel), List.mem_of_getElem? (i := 1799) (by decide +kernel)⟩
theorem lw_p95 : lw_okq (⟨"RolledBackModel", "isTold", "(I)Z"⟩, 38) := ⟨⟨by decide +kernel, by decide +kernel⟩, List.mem_of_getElem? (i := 1250) (by decide +kernel), List.mem_of_getElem? (i := 1806) (by decide +kernel), List.mem_of_getElem? (i := 1807) (by decide +kernel)⟩
def lw_privs_6 : List (MethodName × Nat) := [(⟨"RolledBackModel", "sign", "(I)V"⟩, 38), (⟨"RolledBackModel", "ends", "()I"⟩, 38), (⟨"RolledBackModel", "goes", "(II)V"⟩, 38), (⟨"RolledBackModel", "dirty", "([I)I"⟩, 38), (⟨"RolledBackModel", "isBlock", "(I)Z"⟩, 38), (⟨"RolledBackModel", "leaking", "([II)I"⟩, 38), (⟨"RolledBackModel", "brokenOf", "([II)I"⟩, 38), (⟨"RolledBackModel", "underOf", "(II)I"⟩, 38), (⟨"RolledBackModel", "deepOf", "(II)I"⟩, 38), (⟨"RolledBackModel", "waitsFor", "(I)I"⟩, 38), (⟨"RolledBackModel", "settles", "([I)I"⟩, 38), (⟨"RolledBackModel", "spills", "([II)V"⟩, 38), (⟨"RolledBackModel", "isSafeBy", "(II)Z"⟩, 38), (⟨"RolledBackModel", "fitsNow", "()I"⟩, 38), (⟨"RolledBackModel", "isSo", "(I)Z"⟩, 38), (⟨"RolledBackModel", "isTold", "(I)Z"⟩, 38)]
theorem lw_r6 : ∀ q ∈ lw_privs_6, lw_okq q := List.forall_mem_cons.mpr ⟨lw_p80, List.forall_mem_cons.mpr ⟨lw_p81, List.forall_mem_cons.mpr ⟨lw_p82, List.forall_mem_cons.mpr ⟨lw_p83, List.forall_mem_cons.mpr ⟨lw_p84, List.forall_mem_cons.mpr ⟨lw_p85, List.forall_mem_cons.mpr ⟨lw_p86, List.forall_mem_cons.mpr ⟨lw_p87, List.forall_mem_cons.mpr ⟨lw_p88, List.forall_mem_cons.mpr ⟨lw_p89, List.forall_mem_cons.mpr ⟨lw_p90, List.forall_mem_cons.mpr ⟨lw_p91, List.forall_mem_cons.mpr ⟨lw_p92, List.forall_mem_cons.mpr ⟨lw_p93, List.forall_mem_cons.mpr ⟨lw_p94, List.forall_mem_cons.mpr ⟨lw_p95, fun _ h => absurd h List.not_mem_nil⟩⟩⟩⟩⟩⟩⟩⟩⟩⟩⟩⟩⟩⟩⟩⟩
theorem lw_p96 : lw_okq (⟨"RolledBackModel", "worstAt", "(II)I"⟩, 38) := ⟨⟨by decide +kernel, by decide +kernel⟩, List.mem_of_getElem? (i := 1250) (by decide +kernel), List.mem_of_getElem? (i := 1810) (by decide +kernel), List.mem_of_getElem? (i := 1811) (by decide +kernel)⟩
theorem lw_p97 : lw_okq (⟨"RolledBackModel", "stormBy", "(III)V"⟩, 38) := ⟨⟨by decide +kernel, by decide +kernel⟩, List.mem_of_getElem? (i := 1250) (by decide +kernel), List.mem_of_getElem? (i := 1833) (by decide +kernel), List.mem_of_getElem? (i := 1834) (by decide +kernel)⟩
theorem lw_p98 : lw_okq (⟨"RolledBackModel", "draw", "(I)I"⟩, 38) := ⟨⟨by decide +kernel, by decide +kernel⟩, List.mem_of_getElem? (i := 1250) (by decide +kernel), List.mem_of_getElem? (i := 1837) (by decide +kernel), List.mem_of_getElem? (i := 1838) (by decide +kernel)⟩
theorem lw_p99 : lw_okq (⟨"RolledBackModel", "putsAll", "([IZ)V"⟩, 38) := ⟨⟨by decide +kernel, by decide +kernel⟩, List.mem_of_getElem? (i := 1250) (by decide +kernel), List.mem_of_getElem? (i := 1853) (by decide +kernel), List.mem_of_getElem? (i := 1854) (by decide +kernel)⟩
theorem lw_p100 : lw_okq (⟨"RolledBackModel", "lays", "([IIZ)I"⟩, 38) := ⟨⟨by decide +kernel, by decide +kernel⟩, List.mem_of_getElem? (i := 1250) (by decide +kernel), List.mem_of_getElem? (i := 1857) (by decide +kernel), List.mem_of_getElem? (i := 1858) (by decide +kernel)⟩
def lw_privs_7 : List (MethodName × Nat) := [(⟨"RolledBackModel", "worstAt", "(II)I"⟩, 38), (⟨"RolledBackModel", "stormBy", "(III)V"⟩, 38), (⟨"RolledBackModel", "draw", "(I)I"⟩, 38), (⟨"RolledBackModel", "putsAll", "([IZ)V"⟩, 38), (⟨"RolledBackModel", "lays", "([IIZ)I"⟩, 38)]
theorem lw_r7 : ∀ q ∈ lw_privs_7, lw_okq q := List.forall_mem_cons.mpr ⟨lw_p96, List.forall_mem_cons.mpr ⟨lw_p97, List.forall_mem_cons.mpr ⟨lw_p98, List.forall_mem_cons.mpr ⟨lw_p99, List.forall_mem_cons.mpr ⟨lw_p100, fun _ h => absurd h List.not_mem_nil⟩⟩⟩⟩⟩
def lw_privs : List (MethodName × Nat) := lw_privs_1 ++ (lw_privs_2 ++ (lw_privs_3 ++ (lw_privs_4 ++ (lw_privs_5 ++ (lw_privs_6 ++ (lw_privs_7))))))
def lw_tbl : List Cond := k2_sels lw_privs ++ tables_1
theorem lw_privs_ok : ∀ q ∈ lw_privs, lw_okq q := by
  show ∀ q ∈ lw_privs_1 ++ (lw_privs_2 ++ (lw_privs_3 ++ (lw_privs_4 ++ (lw_privs_5 ++ (lw_privs_6 ++ (lw_privs_7)))))), lw_okq q
  exact List.forall_mem_append.mpr ⟨lw_r1, List.forall_mem_append.mpr ⟨lw_r2, List.forall_mem_append.mpr ⟨lw_r3, List.forall_mem_append.mpr ⟨lw_r4, List.forall_mem_append.mpr ⟨lw_r5, List.forall_mem_append.mpr ⟨lw_r6, lw_r7⟩⟩⟩⟩⟩⟩
-- ===== end of PART A; then your names; then what follows =====
end
section
def RX0 : String := "RolledBack$History"
def TX0 : u_T := fun k => match k with
  | 0 => ("RolledBack$History", "rows", "[LRolledBack$State;", true)
  | _ => ("RolledBack$History", "length", "I", false)
def tyX0 : Nat → FieldType := fun k => match k with
  | 0 => .array (.object "RolledBack$State")
  | _ => .int
abbrev wsX00 : List Cond := u_ws RX0 TX0 2
theorem nmX0 : ∀ a, a < 2 → ∀ b, b < 2 → a ≠ b → (TX0 a).2.1 ≠ (TX0 b).2.1 := by decide +kernel
theorem tyX0_ok : ∀ k, k < 2 → parseFieldDescriptor (TX0 k).2.2.1 = some (tyX0 k) := by decide +kernel
abbrev cX0_init : ByteArray := prog_2_method_1_code
def yX0_init : MethodName := ⟨RX0, "<init>", "()V"⟩
abbrev cX0_push : ByteArray := prog_2_method_2_code
def yX0_push : MethodName := ⟨RX0, "push", "(LRolledBack$State;)V"⟩
abbrev cX0_pop : ByteArray := prog_2_method_3_code
def yX0_pop : MethodName := ⟨RX0, "pop", "(LRolledBack$State;)V"⟩
abbrev cX0_takeOver : ByteArray := prog_2_method_4_code
def yX0_takeOver : MethodName := ⟨RX0, "takeOver", "(LRolledBack$History;)V"⟩
abbrev cX0_keep : ByteArray := prog_2_method_5_code
def yX0_keep : MethodName := ⟨RX0, "keep", "(ILRolledBack$State;)V"⟩
def RX1 : String := "RolledBack$Image"
def TX1 : u_T := fun k => match k with
  | 0 => ("RolledBack$Image", "then", "LRolledBack$State;", true)
  | _ => ("RolledBack$Image", "works", "LRolledBack$History;", true)
def tyX1 : Nat → FieldType := fun k => match k with
  | 0 => .object "RolledBack$State"
  | _ => .object "RolledBack$History"
abbrev wsX10 : List Cond := u_ws RX1 TX1 2
theorem nmX1 : ∀ a, a < 2 → ∀ b, b < 2 → a ≠ b → (TX1 a).2.1 ≠ (TX1 b).2.1 := by decide +kernel
theorem tyX1_ok : ∀ k, k < 2 → parseFieldDescriptor (TX1 k).2.2.1 = some (tyX1 k) := by decide +kernel
abbrev cX1_init : ByteArray := prog_3_method_1_code
def yX1_init : MethodName := ⟨RX1, "<init>", "()V"⟩
def RX2 : String := "RolledBack$Pen"
def TX2 : u_T := fun k => match k with
  | 0 => ("RolledBack$Pen", "goes", "[Z", true)
  | 1 => ("RolledBack$Pen", "moved", "[I", true)
  | 2 => ("RolledBack$Pen", "sheet", "[B", true)
  | 3 => ("RolledBack$Pen", "due", "[I", true)
  | 4 => ("RolledBack$Pen", "going", "I", false)
  | _ => ("RolledBack$Pen", "staying", "I", false)
def tyX2 : Nat → FieldType := fun k => match k with
  | 0 => .array .boolean
  | 1 => .array .int
  | 2 => .array .byte
  | 3 => .array .int
  | 4 => .int
  | _ => .int
abbrev wsX20 : List Cond := u_ws RX2 TX2 6
theorem nmX2 : ∀ a, a < 6 → ∀ b, b < 6 → a ≠ b → (TX2 a).2.1 ≠ (TX2 b).2.1 := by decide +kernel
theorem tyX2_ok : ∀ k, k < 6 → parseFieldDescriptor (TX2 k).2.2.1 = some (tyX2 k) := by decide +kernel
abbrev cX2_init : ByteArray := prog_4_method_1_code
def yX2_init : MethodName := ⟨RX2, "<init>", "()V"⟩
abbrev cX2_weigh : ByteArray := prog_4_method_2_code
def yX2_weigh : MethodName := ⟨RX2, "weigh", "(LRolledBack$State;I)V"⟩
abbrev cX2_needsGo : ByteArray := prog_4_method_3_code
def yX2_needsGo : MethodName := ⟨RX2, "needsGo", "(LRolledBack$State;I)Z"⟩
abbrev cX2_draft : ByteArray := prog_4_method_4_code
def yX2_draft : MethodName := ⟨RX2, "draft", "(LRolledBack$State;I)V"⟩
abbrev cX2_writeBlock : ByteArray := prog_4_method_5_code
def yX2_writeBlock : MethodName := ⟨RX2, "writeBlock", "(LRolledBack$State;I)Z"⟩
abbrev cX2_closeRanks : ByteArray := prog_4_method_6_code
def yX2_closeRanks : MethodName := ⟨RX2, "closeRanks", "(LRolledBack$State;)V"⟩
abbrev cX2_moveChange : ByteArray := prog_4_method_7_code
def yX2_moveChange : MethodName := ⟨RX2, "moveChange", "(LRolledBack$State;II)V"⟩
abbrev cX2_takeDue : ByteArray := prog_4_method_8_code
def yX2_takeDue : MethodName := ⟨RX2, "takeDue", "(LRolledBack$State;)I"⟩
abbrev cX2_syncAll : ByteArray := prog_4_method_9_code
def yX2_syncAll : MethodName := ⟨RX2, "syncAll", "(LRolledBack$State;)I"⟩
abbrev cX2_settleAll : ByteArray := prog_4_method_10_code
def yX2_settleAll : MethodName := ⟨RX2, "settleAll", "(LRolledBack$State;)I"⟩
def RX3 : String := "RolledBack$Reader"
def TX3 : u_T := fun k => match k with
  | 0 => ("RolledBack$Reader", "script", "LRolledBack$Script;", true)
  | 1 => ("RolledBack$Reader", "lines", "[I", true)
  | 2 => ("RolledBack$Reader", "lineCount", "I", false)
  | 3 => ("RolledBack$Reader", "place", "I", false)
  | 4 => ("RolledBack$Reader", "fault", "I", false)
  | 5 => ("RolledBack$Reader", "text", "[B", true)
  | 6 => ("RolledBack$Reader", "length", "I", false)
  | 7 => ("RolledBack$Reader", "next", "I", false)
  | 8 => ("RolledBack$Reader", "open", "[I", true)
  | _ => ("RolledBack$Reader", "opened", "I", false)
def tyX3 : Nat → FieldType := fun k => match k with
  | 0 => .object "RolledBack$Script"
  | 1 => .array .int
  | 2 => .int
  | 3 => .int
  | 4 => .int
  | 5 => .array .byte
  | 6 => .int
  | 7 => .int
  | 8 => .array .int
  | _ => .int
abbrev wsX30 : List Cond := u_ws RX3 TX3 10
theorem nmX3 : ∀ a, a < 10 → ∀ b, b < 10 → a ≠ b → (TX3 a).2.1 ≠ (TX3 b).2.1 := by decide +kernel
theorem tyX3_ok : ∀ k, k < 10 → parseFieldDescriptor (TX3 k).2.2.1 = some (tyX3 k) := by decide +kernel
abbrev cX3_init : ByteArray := prog_5_method_1_code
def yX3_init : MethodName := ⟨RX3, "<init>", "()V"⟩
abbrev cX3_begin : ByteArray := prog_5_method_2_code
def yX3_begin : MethodName := ⟨RX3, "begin", "([BI)V"⟩
abbrev cX3_readStore : ByteArray := prog_5_method_3_code
def yX3_readStore : MethodName := ⟨RX3, "readStore", "([BI)I"⟩
abbrev cX3_readWork : ByteArray := prog_5_method_4_code
def yX3_readWork : MethodName := ⟨RX3, "readWork", "([BI)I"⟩
abbrev cX3_readStep : ByteArray := prog_5_method_5_code
def yX3_readStep : MethodName := ⟨RX3, "readStep", "()V"⟩
abbrev cX3_readBook : ByteArray := prog_5_method_6_code
def yX3_readBook : MethodName := ⟨RX3, "readBook", "([BI)I"⟩
abbrev cX3_blame : ByteArray := prog_5_method_7_code
def yX3_blame : MethodName := ⟨RX3, "blame", "(II)V"⟩
abbrev cX3_atEnd : ByteArray := prog_5_method_8_code
def yX3_atEnd : MethodName := ⟨RX3, "atEnd", "()Z"⟩
abbrev cX3_readSign : ByteArray := prog_5_method_9_code
def yX3_readSign : MethodName := ⟨RX3, "readSign", "(C)V"⟩
abbrev cX3_readNumber : ByteArray := prog_5_method_10_code
def yX3_readNumber : MethodName := ⟨RX3, "readNumber", "(II)I"⟩
abbrev cX3_isDigit : ByteArray := prog_5_method_11_code
def yX3_isDigit : MethodName := ⟨RX3, "isDigit", "(I)Z"⟩
abbrev cX3_readWord : ByteArray := prog_5_method_12_code
def yX3_readWord : MethodName := ⟨RX3, "readWord", "()I"⟩
abbrev cX3_isSpelled : ByteArray := prog_5_method_13_code
def yX3_isSpelled : MethodName := ⟨RX3, "isSpelled", "(II)Z"⟩
abbrev cX3_readNumbers : ByteArray := prog_5_method_14_code
def yX3_readNumbers : MethodName := ⟨RX3, "readNumbers", "(I)V"⟩
def RX4 : String := "RolledBack$Script"
def TX4 : u_T := fun k => match k with
  | 0 => ("RolledBack$Script", "size", "I", false)
  | 1 => ("RolledBack$Script", "length", "I", false)
  | 2 => ("RolledBack$Script", "op", "[I", true)
  | 3 => ("RolledBack$Script", "a", "[I", true)
  | 4 => ("RolledBack$Script", "b", "[I", true)
  | 5 => ("RolledBack$Script", "c", "[I", true)
  | 6 => ("RolledBack$Script", "left", "[I", true)
  | _ => ("RolledBack$Script", "mate", "[I", true)
def tyX4 : Nat → FieldType := fun k => match k with
  | 0 => .int
  | 1 => .int
  | 2 => .array .int
  | 3 => .array .int
  | 4 => .array .int
  | 5 => .array .int
  | 6 => .array .int
  | _ => .array .int
abbrev wsX40 : List Cond := u_ws RX4 TX4 8
theorem nmX4 : ∀ a, a < 8 → ∀ b, b < 8 → a ≠ b → (TX4 a).2.1 ≠ (TX4 b).2.1 := by decide +kernel
theorem tyX4_ok : ∀ k, k < 8 → parseFieldDescriptor (TX4 k).2.2.1 = some (tyX4 k) := by decide +kernel
abbrev cX4_init : ByteArray := prog_6_method_1_code
def yX4_init : MethodName := ⟨RX4, "<init>", "()V"⟩
abbrev cX4_clear : ByteArray := prog_6_method_2_code
def yX4_clear : MethodName := ⟨RX4, "clear", "()V"⟩
abbrev cX4_add : ByteArray := prog_6_method_3_code
def yX4_add : MethodName := ⟨RX4, "add", "(IIII)V"⟩
abbrev cX4_addEnd : ByteArray := prog_6_method_4_code
def yX4_addEnd : MethodName := ⟨RX4, "addEnd", "(I)V"⟩
abbrev cX4_afterAgain : ByteArray := prog_6_method_5_code
def yX4_afterAgain : MethodName := ⟨RX4, "afterAgain", "(I)I"⟩
abbrev cX4_afterEnd : ByteArray := prog_6_method_6_code
def yX4_afterEnd : MethodName := ⟨RX4, "afterEnd", "(I)I"⟩
def RX5 : String := "RolledBack$State"
def TX5 : u_T := fun k => match k with
  | 0 => ("RolledBack$State", "size", "I", false)
  | 1 => ("RolledBack$State", "bytes", "[B", true)
  | 2 => ("RolledBack$State", "\x75nsafe", "I", false)
  | 3 => ("RolledBack$State", "block", "[I", true)
  | 4 => ("RolledBack$State", "place", "[I", true)
  | 5 => ("RolledBack$State", "puts", "[I", true)
  | 6 => ("RolledBack$State", "was", "[B", true)
  | 7 => ("RolledBack$State", "needs", "[I", true)
  | 8 => ("RolledBack$State", "needsAll", "[I", true)
  | 9 => ("RolledBack$State", "waiting", "I", false)
  | 10 => ("RolledBack$State", "until", "[I", true)
  | 11 => ("RolledBack$State", "thing", "[I", true)
  | 12 => ("RolledBack$State", "writes", "I", false)
  | 13 => ("RolledBack$State", "heldBack", "I", false)
  | 14 => ("RolledBack$State", "crashes", "I", false)
  | _ => ("RolledBack$State", "made", "I", false)
def tyX5 : Nat → FieldType := fun k => match k with
  | 0 => .int
  | 1 => .array .byte
  | 2 => .int
  | 3 => .array .int
  | 4 => .array .int
  | 5 => .array .int
  | 6 => .array .byte
  | 7 => .array .int
  | 8 => .array .int
  | 9 => .int
  | 10 => .array .int
  | 11 => .array .int
  | 12 => .int
  | 13 => .int
  | 14 => .int
  | _ => .int
abbrev wsX50 : List Cond := u_ws RX5 TX5 16
theorem nmX5 : ∀ a, a < 16 → ∀ b, b < 16 → a ≠ b → (TX5 a).2.1 ≠ (TX5 b).2.1 := by decide +kernel
theorem tyX5_ok : ∀ k, k < 16 → parseFieldDescriptor (TX5 k).2.2.1 = some (tyX5 k) := by decide +kernel
abbrev cX5_init : ByteArray := prog_7_method_1_code
def yX5_init : MethodName := ⟨RX5, "<init>", "()V"⟩
abbrev cX5_begin : ByteArray := prog_7_method_2_code
def yX5_begin : MethodName := ⟨RX5, "begin", "(I)V"⟩
abbrev cX5_allOnDisk : ByteArray := prog_7_method_3_code
def yX5_allOnDisk : MethodName := ⟨RX5, "allOnDisk", "()V"⟩
abbrev cX5_forgetCounts : ByteArray := prog_7_method_4_code
def yX5_forgetCounts : MethodName := ⟨RX5, "forgetCounts", "()V"⟩
abbrev cX5_crash : ByteArray := prog_7_method_5_code
def yX5_crash : MethodName := ⟨RX5, "crash", "()V"⟩
abbrev cX5_copyFrom : ByteArray := prog_7_method_6_code
def yX5_copyFrom : MethodName := ⟨RX5, "copyFrom", "(LRolledBack$State;)V"⟩
abbrev cX5_at : ByteArray := prog_7_method_7_code
def yX5_at : MethodName := ⟨RX5, "at", "(III)I"⟩
abbrev cX5_nodeField : ByteArray := prog_7_method_8_code
def yX5_nodeField : MethodName := ⟨RX5, "nodeField", "(III)I"⟩
abbrev cX5_isDirectory : ByteArray := prog_7_method_9_code
def yX5_isDirectory : MethodName := ⟨RX5, "isDirectory", "(II)Z"⟩
abbrev cX5_putField : ByteArray := prog_7_method_10_code
def yX5_putField : MethodName := ⟨RX5, "putField", "(III)I"⟩
abbrev cX5_put : ByteArray := prog_7_method_11_code
def yX5_put : MethodName := ⟨RX5, "put", "(III)I"⟩
abbrev cX5_need : ByteArray := prog_7_method_12_code
def yX5_need : MethodName := ⟨RX5, "need", "(II)V"⟩
abbrev cX5_needAllOf : ByteArray := prog_7_method_13_code
def yX5_needAllOf : MethodName := ⟨RX5, "needAllOf", "(II)V"⟩
abbrev cX5_putOff : ByteArray := prog_7_method_14_code
def yX5_putOff : MethodName := ⟨RX5, "putOff", "(II)V"⟩
abbrev cX5_setLinks : ByteArray := prog_7_method_15_code
def yX5_setLinks : MethodName := ⟨RX5, "setLinks", "(II)V"⟩
abbrev cX5_doPutOff : ByteArray := prog_7_method_16_code
def yX5_doPutOff : MethodName := ⟨RX5, "doPutOff", "(I)V"⟩
abbrev cX5_countPutOff : ByteArray := prog_7_method_17_code
def yX5_countPutOff : MethodName := ⟨RX5, "countPutOff", "(I)I"⟩
abbrev cX5_latestOf : ByteArray := prog_7_method_18_code
def yX5_latestOf : MethodName := ⟨RX5, "latestOf", "(II)I"⟩
abbrev cX5_dirtyBlocks : ByteArray := prog_7_method_19_code
def yX5_dirtyBlocks : MethodName := ⟨RX5, "dirtyBlocks", "()I"⟩
abbrev cX5_firstPlace : ByteArray := prog_7_method_20_code
def yX5_firstPlace : MethodName := ⟨RX5, "firstPlace", "(I)I"⟩
abbrev cX5_countNeeds : ByteArray := prog_7_method_21_code
def yX5_countNeeds : MethodName := ⟨RX5, "countNeeds", "(I)I"⟩
abbrev cX5_blocksNeededBy : ByteArray := prog_7_method_22_code
def yX5_blocksNeededBy : MethodName := ⟨RX5, "blocksNeededBy", "(I)I"⟩
def RX6 : String := "RolledBack$Steps"
def TX6 : u_T := fun k => match k with
  | _ => ("RolledBack$Steps", "pen", "LRolledBack$Pen;", true)
def tyX6 : Nat → FieldType := fun k => match k with
  | _ => .object "RolledBack$Pen"
abbrev wsX60 : List Cond := u_ws RX6 TX6 1
theorem nmX6 : ∀ a, a < 1 → ∀ b, b < 1 → a ≠ b → (TX6 a).2.1 ≠ (TX6 b).2.1 := by decide +kernel
theorem tyX6_ok : ∀ k, k < 1 → parseFieldDescriptor (TX6 k).2.2.1 = some (tyX6 k) := by decide +kernel
abbrev cX6_init : ByteArray := prog_8_method_1_code
def yX6_init : MethodName := ⟨RX6, "<init>", "()V"⟩
abbrev cX6_take : ByteArray := prog_8_method_2_code
def yX6_take : MethodName := ⟨RX6, "take", "(LRolledBack$State;IIII)Z"⟩
abbrev cX6_makeFile : ByteArray := prog_8_method_3_code
def yX6_makeFile : MethodName := ⟨RX6, "makeFile", "(LRolledBack$State;II)Z"⟩
abbrev cX6_makeDirectory : ByteArray := prog_8_method_4_code
def yX6_makeDirectory : MethodName := ⟨RX6, "makeDirectory", "(LRolledBack$State;II)Z"⟩
abbrev cX6_linkFile : ByteArray := prog_8_method_5_code
def yX6_linkFile : MethodName := ⟨RX6, "linkFile", "(LRolledBack$State;III)Z"⟩
abbrev cX6_entryFor : ByteArray := prog_8_method_6_code
def yX6_entryFor : MethodName := ⟨RX6, "entryFor", "(LRolledBack$State;II)I"⟩
abbrev cX6_nameEntry : ByteArray := prog_8_method_7_code
def yX6_nameEntry : MethodName := ⟨RX6, "nameEntry", "(LRolledBack$State;III)I"⟩
abbrev cX6_giveBlock : ByteArray := prog_8_method_8_code
def yX6_giveBlock : MethodName := ⟨RX6, "giveBlock", "(LRolledBack$State;IIII)I"⟩
abbrev cX6_growNode : ByteArray := prog_8_method_9_code
def yX6_growNode : MethodName := ⟨RX6, "growNode", "(LRolledBack$State;II)Z"⟩
abbrev cX6_putInFile : ByteArray := prog_8_method_10_code
def yX6_putInFile : MethodName := ⟨RX6, "putInFile", "(LRolledBack$State;III)Z"⟩
abbrev cX6_cutFile : ByteArray := prog_8_method_11_code
def yX6_cutFile : MethodName := ⟨RX6, "cutFile", "(LRolledBack$State;I)Z"⟩
abbrev cX6_dropEntry : ByteArray := prog_8_method_12_code
def yX6_dropEntry : MethodName := ⟨RX6, "dropEntry", "(LRolledBack$State;II)Z"⟩
abbrev cX6_sweepOne : ByteArray := prog_8_method_13_code
def yX6_sweepOne : MethodName := ⟨RX6, "sweepOne", "(LRolledBack$State;)Z"⟩
abbrev cX6_firstFound : ByteArray := prog_8_method_14_code
def yX6_firstFound : MethodName := ⟨RX6, "firstFound", "(LRolledBack$State;)I"⟩
abbrev cX6_linksDue : ByteArray := prog_8_method_15_code
def yX6_linksDue : MethodName := ⟨RX6, "linksDue", "(LRolledBack$State;II)I"⟩
abbrev cX6_isFile : ByteArray := prog_8_method_16_code
def yX6_isFile : MethodName := ⟨RX6, "isFile", "(LRolledBack$State;I)Z"⟩
abbrev cX6_freeNode : ByteArray := prog_8_method_17_code
def yX6_freeNode : MethodName := ⟨RX6, "freeNode", "(LRolledBack$State;)I"⟩
abbrev cX6_freeBlock : ByteArray := prog_8_method_18_code
def yX6_freeBlock : MethodName := ⟨RX6, "freeBlock", "(LRolledBack$State;)I"⟩
def RX7 : String := "RolledBack$Storm"
def TX7 : u_T := fun k => match k with
  | 0 => ("RolledBack$Storm", "seed", "I", false)
  | 1 => ("RolledBack$Storm", "op", "I", false)
  | 2 => ("RolledBack$Storm", "a", "I", false)
  | _ => ("RolledBack$Storm", "b", "I", false)
def tyX7 : Nat → FieldType := fun k => match k with
  | 0 => .int
  | 1 => .int
  | 2 => .int
  | _ => .int
abbrev wsX70 : List Cond := u_ws RX7 TX7 4
theorem nmX7 : ∀ a, a < 4 → ∀ b, b < 4 → a ≠ b → (TX7 a).2.1 ≠ (TX7 b).2.1 := by decide +kernel
theorem tyX7_ok : ∀ k, k < 4 → parseFieldDescriptor (TX7 k).2.2.1 = some (tyX7 k) := by decide +kernel
abbrev cX7_init : ByteArray := prog_9_method_1_code
def yX7_init : MethodName := ⟨RX7, "<init>", "(I)V"⟩
abbrev cX7_drawn : ByteArray := prog_9_method_2_code
def yX7_drawn : MethodName := ⟨RX7, "drawn", "(I)I"⟩
abbrev cX7_drawStep : ByteArray := prog_9_method_3_code
def yX7_drawStep : MethodName := ⟨RX7, "drawStep", "(I)V"⟩
def RX8 : String := "RolledBack$Tree"
def TX8 : u_T := fun k => match k with
  | _ => ("", "", "", false)
def tyX8 : Nat → FieldType := fun k => match k with
  | _ => .int
abbrev wsX80 : List Cond := u_ws RX8 TX8 0
theorem nmX8 : ∀ a, a < 0 → ∀ b, b < 0 → a ≠ b → (TX8 a).2.1 ≠ (TX8 b).2.1 := by decide +kernel
theorem tyX8_ok : ∀ k, k < 0 → parseFieldDescriptor (TX8 k).2.2.1 = some (tyX8 k) := by decide +kernel
abbrev cX8_entryNamed : ByteArray := prog_10_method_2_code
def yX8_entryNamed : MethodName := ⟨RX8, "entryNamed", "(LRolledBack$State;III)I"⟩
abbrev cX8_nodeOfEntry : ByteArray := prog_10_method_3_code
def yX8_nodeOfEntry : MethodName := ⟨RX8, "nodeOfEntry", "(LRolledBack$State;II)I"⟩
abbrev cX8_freeEntries : ByteArray := prog_10_method_4_code
def yX8_freeEntries : MethodName := ⟨RX8, "freeEntries", "(LRolledBack$State;II)I"⟩
abbrev cX8_timesNamed : ByteArray := prog_10_method_5_code
def yX8_timesNamed : MethodName := ⟨RX8, "timesNamed", "(LRolledBack$State;III)I"⟩
abbrev cX8_namedNodes : ByteArray := prog_10_method_6_code
def yX8_namedNodes : MethodName := ⟨RX8, "namedNodes", "(LRolledBack$State;II)I"⟩
abbrev cX8_reachedNodes : ByteArray := prog_10_method_7_code
def yX8_reachedNodes : MethodName := ⟨RX8, "reachedNodes", "(LRolledBack$State;I)I"⟩
abbrev cX8_linkedNodes : ByteArray := prog_10_method_8_code
def yX8_linkedNodes : MethodName := ⟨RX8, "linkedNodes", "(LRolledBack$State;I)I"⟩
abbrev cX8_usedBlocks : ByteArray := prog_10_method_9_code
def yX8_usedBlocks : MethodName := ⟨RX8, "usedBlocks", "(LRolledBack$State;I)I"⟩
abbrev cX8_pointedBlocks : ByteArray := prog_10_method_10_code
def yX8_pointedBlocks : MethodName := ⟨RX8, "pointedBlocks", "(LRolledBack$State;II)I"⟩
abbrev cX8_leakedBlocks : ByteArray := prog_10_method_11_code
def yX8_leakedBlocks : MethodName := ⟨RX8, "leakedBlocks", "(LRolledBack$State;I)I"⟩
abbrev cX8_brokenEntries : ByteArray := prog_10_method_12_code
def yX8_brokenEntries : MethodName := ⟨RX8, "brokenEntries", "(LRolledBack$State;I)I"⟩
abbrev cX8_brokenPointers : ByteArray := prog_10_method_13_code
def yX8_brokenPointers : MethodName := ⟨RX8, "brokenPointers", "(LRolledBack$State;I)I"⟩
abbrev cX8_ownerOf : ByteArray := prog_10_method_14_code
def yX8_ownerOf : MethodName := ⟨RX8, "ownerOf", "(LRolledBack$State;II)I"⟩
abbrev cX8_countUnder : ByteArray := prog_10_method_15_code
def yX8_countUnder : MethodName := ⟨RX8, "countUnder", "(LRolledBack$State;III)I"⟩
abbrev cX8_depthOf : ByteArray := prog_10_method_16_code
def yX8_depthOf : MethodName := ⟨RX8, "depthOf", "(LRolledBack$State;III)I"⟩
abbrev cX8_namedAt : ByteArray := prog_10_method_17_code
def yX8_namedAt : MethodName := ⟨RX8, "namedAt", "(LRolledBack$State;III)I"⟩
def RX9 : String := "RolledBack"
def TX9 : u_T := fun k => match k with
  | 0 => ("RolledBack", "now", "LRolledBack$State;", true)
  | 1 => ("RolledBack", "works", "LRolledBack$History;", true)
  | 2 => ("RolledBack", "images", "[LRolledBack$Image;", true)
  | 3 => ("RolledBack", "spare", "[LRolledBack$State;", true)
  | 4 => ("RolledBack", "pen", "LRolledBack$Pen;", true)
  | 5 => ("RolledBack", "steps", "LRolledBack$Steps;", true)
  | 6 => ("RolledBack", "tape", "[B", true)
  | 7 => ("RolledBack", "reader", "LRolledBack$Reader;", true)
  | 8 => ("RolledBack", "book", "[I", true)
  | 9 => ("RolledBack", "copies", "[B", true)
  | 10 => ("RolledBack", "refused", "[I", true)
  | 11 => ("RolledBack", "imageCount", "I", false)
  | 12 => ("RolledBack", "tapeLength", "I", false)
  | 13 => ("RolledBack", "bookLines", "I", false)
  | 14 => ("RolledBack", "faultPlace", "I", false)
  | _ => ("RolledBack", "refusedSteps", "I", false)
def tyX9 : Nat → FieldType := fun k => match k with
  | 0 => .object "RolledBack$State"
  | 1 => .object "RolledBack$History"
  | 2 => .array (.object "RolledBack$Image")
  | 3 => .array (.object "RolledBack$State")
  | 4 => .object "RolledBack$Pen"
  | 5 => .object "RolledBack$Steps"
  | 6 => .array .byte
  | 7 => .object "RolledBack$Reader"
  | 8 => .array .int
  | 9 => .array .byte
  | 10 => .array .int
  | 11 => .int
  | 12 => .int
  | 13 => .int
  | 14 => .int
  | _ => .int
abbrev wsX90 : List Cond := u_ws RX9 TX9 16
theorem nmX9 : ∀ a, a < 16 → ∀ b, b < 16 → a ≠ b → (TX9 a).2.1 ≠ (TX9 b).2.1 := by decide +kernel
theorem tyX9_ok : ∀ k, k < 16 → parseFieldDescriptor (TX9 k).2.2.1 = some (tyX9 k) := by decide +kernel
abbrev cX9_init : ByteArray := prog_1_method_1_code
def yX9_init : MethodName := ⟨RX9, "<init>", "()V"⟩
abbrev cX9_feed : ByteArray := prog_1_method_2_code
def yX9_feed : MethodName := ⟨RX9, "feed", "(IIIII)I"⟩
abbrev cX9_feedNumber : ByteArray := prog_1_method_3_code
def yX9_feedNumber : MethodName := ⟨RX9, "feedNumber", "(I)V"⟩
abbrev cX9_store : ByteArray := prog_1_method_4_code
def yX9_store : MethodName := ⟨RX9, "store", "(I)I"⟩
abbrev cX9_buildStore : ByteArray := prog_1_method_5_code
def yX9_buildStore : MethodName := ⟨RX9, "buildStore", "(LRolledBack$Script;)V"⟩
abbrev cX9_clearBook : ByteArray := prog_1_method_6_code
def yX9_clearBook : MethodName := ⟨RX9, "clearBook", "()V"⟩
abbrev cX9_work : ByteArray := prog_1_method_7_code
def yX9_work : MethodName := ⟨RX9, "work", "(I)I"⟩
abbrev cX9_runScript : ByteArray := prog_1_method_8_code
def yX9_runScript : MethodName := ⟨RX9, "runScript", "(LRolledBack$Script;)I"⟩
abbrev cX9_book : ByteArray := prog_1_method_9_code
def yX9_book : MethodName := ⟨RX9, "book", "(I)I"⟩
abbrev cX9_testLength : ByteArray := prog_1_method_10_code
def yX9_testLength : MethodName := ⟨RX9, "testLength", "(II)V"⟩
abbrev cX9_textRead : ByteArray := prog_1_method_11_code
def yX9_textRead : MethodName := ⟨RX9, "textRead", "(I)V"⟩
abbrev cX9_fault : ByteArray := prog_1_method_12_code
def yX9_fault : MethodName := ⟨RX9, "fault", "()I"⟩
abbrev cX9_undo : ByteArray := prog_1_method_13_code
def yX9_undo : MethodName := ⟨RX9, "undo", "()I"⟩
abbrev cX9_told : ByteArray := prog_1_method_14_code
def yX9_told : MethodName := ⟨RX9, "told", "(I)I"⟩
abbrev cX9_peek : ByteArray := prog_1_method_15_code
def yX9_peek : MethodName := ⟨RX9, "peek", "(III)I"⟩
abbrev cX9_node : ByteArray := prog_1_method_16_code
def yX9_node : MethodName := ⟨RX9, "node", "(III)I"⟩
abbrev cX9_find : ByteArray := prog_1_method_17_code
def yX9_find : MethodName := ⟨RX9, "find", "(III)I"⟩
abbrev cX9_used : ByteArray := prog_1_method_18_code
def yX9_used : MethodName := ⟨RX9, "used", "(I)I"⟩
abbrev cX9_leaks : ByteArray := prog_1_method_19_code
def yX9_leaks : MethodName := ⟨RX9, "leaks", "(I)I"⟩
abbrev cX9_lost : ByteArray := prog_1_method_20_code
def yX9_lost : MethodName := ⟨RX9, "lost", "(I)I"⟩
abbrev cX9_broken : ByteArray := prog_1_method_21_code
def yX9_broken : MethodName := ⟨RX9, "broken", "(I)I"⟩
abbrev cX9_under : ByteArray := prog_1_method_22_code
def yX9_under : MethodName := ⟨RX9, "under", "(II)I"⟩
abbrev cX9_deep : ByteArray := prog_1_method_23_code
def yX9_deep : MethodName := ⟨RX9, "deep", "(II)I"⟩
abbrev cX9_room : ByteArray := prog_1_method_24_code
def yX9_room : MethodName := ⟨RX9, "room", "(I)I"⟩
abbrev cX9_owner : ByteArray := prog_1_method_25_code
def yX9_owner : MethodName := ⟨RX9, "owner", "(II)I"⟩
abbrev cX9_unlike : ByteArray := prog_1_method_26_code
def yX9_unlike : MethodName := ⟨RX9, "unlike", "(I)I"⟩
abbrev cX9_change : ByteArray := prog_1_method_27_code
def yX9_change : MethodName := ⟨RX9, "change", "(II)I"⟩
abbrev cX9_held : ByteArray := prog_1_method_28_code
def yX9_held : MethodName := ⟨RX9, "held", "(I)I"⟩
abbrev cX9_copy : ByteArray := prog_1_method_29_code
def yX9_copy : MethodName := ⟨RX9, "copy", "(II)I"⟩
abbrev cX9_waits : ByteArray := prog_1_method_30_code
def yX9_waits : MethodName := ⟨RX9, "waits", "(I)I"⟩
abbrev cX9_rings : ByteArray := prog_1_method_31_code
def yX9_rings : MethodName := ⟨RX9, "rings", "()I"⟩
abbrev cX9_settle : ByteArray := prog_1_method_32_code
def yX9_settle : MethodName := ⟨RX9, "settle", "()I"⟩
abbrev cX9_spill : ByteArray := prog_1_method_33_code
def yX9_spill : MethodName := ⟨RX9, "spill", "(I)I"⟩
abbrev cX9_fewest : ByteArray := prog_1_method_34_code
def yX9_fewest : MethodName := ⟨RX9, "fewest", "()I"⟩
abbrev cX9_safeWithin : ByteArray := prog_1_method_35_code
def yX9_safeWithin : MethodName := ⟨RX9, "safeWithin", "(II)Z"⟩
abbrev cX9_finds : ByteArray := prog_1_method_36_code
def yX9_finds : MethodName := ⟨RX9, "finds", "()I"⟩
abbrev cX9_sweeps : ByteArray := prog_1_method_37_code
def yX9_sweeps : MethodName := ⟨RX9, "sweeps", "()I"⟩
abbrev cX9_fits : ByteArray := prog_1_method_38_code
def yX9_fits : MethodName := ⟨RX9, "fits", "()I"⟩
abbrev cX9_fittingBlocks : ByteArray := prog_1_method_39_code
def yX9_fittingBlocks : MethodName := ⟨RX9, "fittingBlocks", "()I"⟩
abbrev cX9_fitsBook : ByteArray := prog_1_method_40_code
def yX9_fitsBook : MethodName := ⟨RX9, "fitsBook", "(I)Z"⟩
abbrev cX9_look : ByteArray := prog_1_method_41_code
def yX9_look : MethodName := ⟨RX9, "look", "(I)I"⟩
abbrev cX9_mostAlike : ByteArray := prog_1_method_42_code
def yX9_mostAlike : MethodName := ⟨RX9, "mostAlike", "(II)I"⟩
abbrev cX9_storm : ByteArray := prog_1_method_43_code
def yX9_storm : MethodName := ⟨RX9, "storm", "(IIII)I"⟩
abbrev cX9_span : ByteArray := prog_1_method_44_code
def yX9_span : MethodName := ⟨RX9, "span", "(IIIIII)I"⟩
abbrev cX9_blow : ByteArray := prog_1_method_45_code
def yX9_blow : MethodName := ⟨RX9, "blow", "(III)LRolledBack$State;"⟩
abbrev cX9_image : ByteArray := prog_1_method_46_code
def yX9_image : MethodName := ⟨RX9, "image", "()I"⟩
abbrev cX9_restore : ByteArray := prog_1_method_47_code
def yX9_restore : MethodName := ⟨RX9, "restore", "()I"⟩
abbrev cX9_status : ByteArray := prog_1_method_48_code
def yX9_status : MethodName := ⟨RX9, "status", "(I)I"⟩
abbrev cX9_count : ByteArray := prog_1_method_49_code
def yX9_count : MethodName := ⟨RX9, "count", "(I)I"⟩
abbrev cX9_testWhat : ByteArray := prog_1_method_50_code
def yX9_testWhat : MethodName := ⟨RX9, "testWhat", "(II)V"⟩
abbrev cX9_testWhere : ByteArray := prog_1_method_51_code
def yX9_testWhere : MethodName := ⟨RX9, "testWhere", "(I)V"⟩
abbrev cX9_testRange : ByteArray := prog_1_method_52_code
def yX9_testRange : MethodName := ⟨RX9, "testRange", "(III)V"⟩
abbrev cX9_testNode : ByteArray := prog_1_method_53_code
def yX9_testNode : MethodName := ⟨RX9, "testNode", "(I)V"⟩
abbrev cX9_testBlock : ByteArray := prog_1_method_54_code
def yX9_testBlock : MethodName := ⟨RX9, "testBlock", "(I)V"⟩
abbrev cX9_testPlace : ByteArray := prog_1_method_55_code
def yX9_testPlace : MethodName := ⟨RX9, "testPlace", "(I)V"⟩
abbrev cX9_testChange : ByteArray := prog_1_method_56_code
def yX9_testChange : MethodName := ⟨RX9, "testChange", "(I)V"⟩
def RX10 : String := "RolledBackModel"
def TX10 : u_T := fun k => match k with
  | 0 => ("RolledBackModel", "thrown", "I", false)
  | 1 => ("RolledBackModel", "tape", "I", false)
  | 2 => ("RolledBackModel", "size", "I", false)
  | 3 => ("RolledBackModel", "place", "I", false)
  | 4 => ("RolledBackModel", "at", "I", false)
  | 5 => ("RolledBackModel", "fault", "I", false)
  | 6 => ("RolledBackModel", "faultAt", "I", false)
  | 7 => ("RolledBackModel", "clauses", "I", false)
  | 8 => ("RolledBackModel", "open", "I", false)
  | 9 => ("RolledBackModel", "fed", "[I", true)
  | 10 => ("RolledBackModel", "refused", "[I", true)
  | 11 => ("RolledBackModel", "blocks", "I", false)
  | 12 => ("RolledBackModel", "readBlocks", "I", false)
  | 13 => ("RolledBackModel", "lines", "I", false)
  | 14 => ("RolledBackModel", "works", "I", false)
  | 15 => ("RolledBackModel", "refusedSteps", "I", false)
  | 16 => ("RolledBackModel", "images", "I", false)
  | 17 => ("RolledBackModel", "spot", "I", false)
  | 18 => ("RolledBackModel", "steps", "I", false)
  | 19 => ("RolledBackModel", "line", "[[I", true)
  | 20 => ("RolledBackModel", "readLine", "[[I", true)
  | 21 => ("RolledBackModel", "step", "[[I", true)
  | 22 => ("RolledBackModel", "now", "[I", true)
  | 23 => ("RolledBackModel", "trial", "[I", true)
  | 24 => ("RolledBackModel", "before", "[[I", true)
  | 25 => ("RolledBackModel", "kept", "[[I", true)
  | 26 => ("RolledBackModel", "deeper", "[[I", true)
  | 27 => ("RolledBackModel", "going", "[Z", true)
  | 28 => ("RolledBackModel", "image", "[I", true)
  | 29 => ("RolledBackModel", "gone", "[I", true)
  | 30 => ("RolledBackModel", "manyGone", "I", false)
  | 31 => ("RolledBackModel", "begun", "I", false)
  | 32 => ("RolledBackModel", "doneSteps", "I", false)
  | 33 => ("RolledBackModel", "most", "I", false)
  | 34 => ("RolledBackModel", "mostAt", "I", false)
  | 35 => ("RolledBackModel", "seen", "[I", true)
  | 36 => ("RolledBackModel", "lots", "I", false)
  | _ => ("RolledBackModel", "drawn", "[I", true)
def tyX10 : Nat → FieldType := fun k => match k with
  | 0 => .int
  | 1 => .int
  | 2 => .int
  | 3 => .int
  | 4 => .int
  | 5 => .int
  | 6 => .int
  | 7 => .int
  | 8 => .int
  | 9 => .array .int
  | 10 => .array .int
  | 11 => .int
  | 12 => .int
  | 13 => .int
  | 14 => .int
  | 15 => .int
  | 16 => .int
  | 17 => .int
  | 18 => .int
  | 19 => .array (.array .int)
  | 20 => .array (.array .int)
  | 21 => .array (.array .int)
  | 22 => .array .int
  | 23 => .array .int
  | 24 => .array (.array .int)
  | 25 => .array (.array .int)
  | 26 => .array (.array .int)
  | 27 => .array .boolean
  | 28 => .array .int
  | 29 => .array .int
  | 30 => .int
  | 31 => .int
  | 32 => .int
  | 33 => .int
  | 34 => .int
  | 35 => .array .int
  | 36 => .int
  | _ => .array .int
abbrev wsX100 : List Cond := u_ws RX10 TX10 38
theorem nmX10 : ∀ a, a < 38 → ∀ b, b < 38 → a ≠ b → (TX10 a).2.1 ≠ (TX10 b).2.1 := by decide +kernel
theorem tyX10_ok : ∀ k, k < 38 → parseFieldDescriptor (TX10 k).2.2.1 = some (tyX10 k) := by decide +kernel
abbrev cX10_init : ByteArray := prog_12_method_1_code
def yX10_init : MethodName := ⟨RX10, "<init>", "()V"⟩
abbrev cX10_thrown : ByteArray := prog_12_method_2_code
def yX10_thrown : MethodName := ⟨RX10, "thrown", "()I"⟩
abbrev cX10_bad : ByteArray := prog_12_method_3_code
def yX10_bad : MethodName := ⟨RX10, "bad", "(ZII)Z"⟩
abbrev cX10_in : ByteArray := prog_12_method_4_code
def yX10_in : MethodName := ⟨RX10, "in", "(III)Z"⟩
abbrev cX10_less : ByteArray := prog_12_method_5_code
def yX10_less : MethodName := ⟨RX10, "less", "(II)I"⟩
abbrev cX10_more : ByteArray := prog_12_method_6_code
def yX10_more : MethodName := ⟨RX10, "more", "(II)I"⟩
abbrev cX10_has : ByteArray := prog_12_method_7_code
def yX10_has : MethodName := ⟨RX10, "has", "(II)Z"⟩
abbrev cX10_feed : ByteArray := prog_12_method_8_code
def yX10_feed : MethodName := ⟨RX10, "feed", "(IIIII)I"⟩
abbrev cX10_byteAt : ByteArray := prog_12_method_9_code
def yX10_byteAt : MethodName := ⟨RX10, "byteAt", "(I)I"⟩
abbrev cX10_blanks : ByteArray := prog_12_method_10_code
def yX10_blanks : MethodName := ⟨RX10, "blanks", "()V"⟩
abbrev cX10_wrong : ByteArray := prog_12_method_11_code
def yX10_wrong : MethodName := ⟨RX10, "wrong", "(II)V"⟩
abbrev cX10_isDigit : ByteArray := prog_12_method_12_code
def yX10_isDigit : MethodName := ⟨RX10, "isDigit", "(I)Z"⟩
abbrev cX10_isSmall : ByteArray := prog_12_method_13_code
def yX10_isSmall : MethodName := ⟨RX10, "isSmall", "(I)Z"⟩
abbrev cX10_number : ByteArray := prog_12_method_14_code
def yX10_number : MethodName := ⟨RX10, "number", "(II)I"⟩
abbrev cX10_wordHere : ByteArray := prog_12_method_15_code
def yX10_wordHere : MethodName := ⟨RX10, "wordHere", "()I"⟩
abbrev cX10_six : ByteArray := prog_12_method_16_code
def yX10_six : MethodName := ⟨RX10, "six", "(IIIIII)I"⟩
abbrev cX10_isWord : ByteArray := prog_12_method_17_code
def yX10_isWord : MethodName := ⟨RX10, "isWord", "(IIIIII)Z"⟩
abbrev cX10_skipWord : ByteArray := prog_12_method_18_code
def yX10_skipWord : MethodName := ⟨RX10, "skipWord", "()V"⟩
abbrev cX10_sign : ByteArray := prog_12_method_19_code
def yX10_sign : MethodName := ⟨RX10, "sign", "(I)V"⟩
abbrev cX10_starts : ByteArray := prog_12_method_20_code
def yX10_starts : MethodName := ⟨RX10, "starts", "(I)V"⟩
abbrev cX10_ends : ByteArray := prog_12_method_21_code
def yX10_ends : MethodName := ⟨RX10, "ends", "()I"⟩
abbrev cX10_stepHere : ByteArray := prog_12_method_22_code
def yX10_stepHere : MethodName := ⟨RX10, "stepHere", "()I"⟩
abbrev cX10_numbers : ByteArray := prog_12_method_23_code
def yX10_numbers : MethodName := ⟨RX10, "numbers", "([I)V"⟩
abbrev cX10_again : ByteArray := prog_12_method_24_code
def yX10_again : MethodName := ⟨RX10, "again", "([I)V"⟩
abbrev cX10_readsStep : ByteArray := prog_12_method_25_code
def yX10_readsStep : MethodName := ⟨RX10, "readsStep", "()V"⟩
abbrev cX10_clause : ByteArray := prog_12_method_26_code
def yX10_clause : MethodName := ⟨RX10, "clause", "()V"⟩
abbrev cX10_store : ByteArray := prog_12_method_27_code
def yX10_store : MethodName := ⟨RX10, "store", "(I)I"⟩
abbrev cX10_copies : ByteArray := prog_12_method_28_code
def yX10_copies : MethodName := ⟨RX10, "copies", "([I[I)V"⟩
abbrev cX10_safe : ByteArray := prog_12_method_29_code
def yX10_safe : MethodName := ⟨RX10, "safe", "([I)V"⟩
abbrev cX10_beginsAnew : ByteArray := prog_12_method_30_code
def yX10_beginsAnew : MethodName := ⟨RX10, "beginsAnew", "()V"⟩
abbrev cX10_book : ByteArray := prog_12_method_31_code
def yX10_book : MethodName := ⟨RX10, "book", "(I)I"⟩
abbrev cX10_fault : ByteArray := prog_12_method_32_code
def yX10_fault : MethodName := ⟨RX10, "fault", "()I"⟩
abbrev cX10_byteOf : ByteArray := prog_12_method_33_code
def yX10_byteOf : MethodName := ⟨RX10, "byteOf", "(II)I"⟩
abbrev cX10_fieldOf : ByteArray := prog_12_method_34_code
def yX10_fieldOf : MethodName := ⟨RX10, "fieldOf", "([IIII)I"⟩
abbrev cX10_cell : ByteArray := prog_12_method_35_code
def yX10_cell : MethodName := ⟨RX10, "cell", "(I)I"⟩
abbrev cX10_wasAt : ByteArray := prog_12_method_36_code
def yX10_wasAt : MethodName := ⟨RX10, "wasAt", "([III)I"⟩
abbrev cX10_puts : ByteArray := prog_12_method_37_code
def yX10_puts : MethodName := ⟨RX10, "puts", "([III)Z"⟩
abbrev cX10_isThere : ByteArray := prog_12_method_38_code
def yX10_isThere : MethodName := ⟨RX10, "isThere", "([IIII)Z"⟩
abbrev cX10_makes : ByteArray := prog_12_method_39_code
def yX10_makes : MethodName := ⟨RX10, "makes", "([IIIIIIII)I"⟩
abbrev cX10_bare : ByteArray := prog_12_method_40_code
def yX10_bare : MethodName := ⟨RX10, "bare", "([IIII)I"⟩
abbrev cX10_field : ByteArray := prog_12_method_41_code
def yX10_field : MethodName := ⟨RX10, "field", "([IIIIII)I"⟩
abbrev cX10_putsOff : ByteArray := prog_12_method_42_code
def yX10_putsOff : MethodName := ⟨RX10, "putsOff", "([IIII)V"⟩
abbrev cX10_which : ByteArray := prog_12_method_43_code
def yX10_which : MethodName := ⟨RX10, "which", "([II)I"⟩
abbrev cX10_isDirty : ByteArray := prog_12_method_44_code
def yX10_isDirty : MethodName := ⟨RX10, "isDirty", "([II)Z"⟩
abbrev cX10_dirty : ByteArray := prog_12_method_45_code
def yX10_dirty : MethodName := ⟨RX10, "dirty", "([I)I"⟩
abbrev cX10_ahead : ByteArray := prog_12_method_46_code
def yX10_ahead : MethodName := ⟨RX10, "ahead", "([III)I"⟩
abbrev cX10_mayGo : ByteArray := prog_12_method_47_code
def yX10_mayGo : MethodName := ⟨RX10, "mayGo", "([II)Z"⟩
abbrev cX10_copiesBlock : ByteArray := prog_12_method_48_code
def yX10_copiesBlock : MethodName := ⟨RX10, "copiesBlock", "([II)I"⟩
abbrev cX10_leavesOut : ByteArray := prog_12_method_49_code
def yX10_leavesOut : MethodName := ⟨RX10, "leavesOut", "([I)V"⟩
abbrev cX10_isGone : ByteArray := prog_12_method_50_code
def yX10_isGone : MethodName := ⟨RX10, "isGone", "(I)Z"⟩
abbrev cX10_lessens : ByteArray := prog_12_method_51_code
def yX10_lessens : MethodName := ⟨RX10, "lessens", "([II)V"⟩
abbrev cX10_empties : ByteArray := prog_12_method_52_code
def yX10_empties : MethodName := ⟨RX10, "empties", "([II)V"⟩
abbrev cX10_doesLater : ByteArray := prog_12_method_53_code
def yX10_doesLater : MethodName := ⟨RX10, "doesLater", "([I)V"⟩
abbrev cX10_writes : ByteArray := prog_12_method_54_code
def yX10_writes : MethodName := ⟨RX10, "writes", "([II)Z"⟩
abbrev cX10_syncs : ByteArray := prog_12_method_55_code
def yX10_syncs : MethodName := ⟨RX10, "syncs", "([I)Z"⟩
abbrev cX10_isKind : ByteArray := prog_12_method_56_code
def yX10_isKind : MethodName := ⟨RX10, "isKind", "([IIII)Z"⟩
abbrev cX10_entryOf : ByteArray := prog_12_method_57_code
def yX10_entryOf : MethodName := ⟨RX10, "entryOf", "([IIII)I"⟩
abbrev cX10_entry : ByteArray := prog_12_method_58_code
def yX10_entry : MethodName := ⟨RX10, "entry", "([IIII)I"⟩
abbrev cX10_isNewName : ByteArray := prog_12_method_59_code
def yX10_isNewName : MethodName := ⟨RX10, "isNewName", "([III)Z"⟩
abbrev cX10_isFull : ByteArray := prog_12_method_60_code
def yX10_isFull : MethodName := ⟨RX10, "isFull", "([I)Z"⟩
abbrev cX10_freeNode : ByteArray := prog_12_method_61_code
def yX10_freeNode : MethodName := ⟨RX10, "freeNode", "([I)I"⟩
abbrev cX10_freeBlock : ByteArray := prog_12_method_62_code
def yX10_freeBlock : MethodName := ⟨RX10, "freeBlock", "([I)I"⟩
abbrev cX10_latest : ByteArray := prog_12_method_63_code
def yX10_latest : MethodName := ⟨RX10, "latest", "([III)I"⟩
abbrev cX10_names : ByteArray := prog_12_method_64_code
def yX10_names : MethodName := ⟨RX10, "names", "([IIIIIII)V"⟩
abbrev cX10_begins : ByteArray := prog_12_method_65_code
def yX10_begins : MethodName := ⟨RX10, "begins", "([IIII)Z"⟩
abbrev cX10_gets : ByteArray := prog_12_method_66_code
def yX10_gets : MethodName := ⟨RX10, "gets", "([IIIII)I"⟩
abbrev cX10_links : ByteArray := prog_12_method_67_code
def yX10_links : MethodName := ⟨RX10, "links", "([IIII)Z"⟩
abbrev cX10_grows : ByteArray := prog_12_method_68_code
def yX10_grows : MethodName := ⟨RX10, "grows", "([III)Z"⟩
abbrev cX10_setsByte : ByteArray := prog_12_method_69_code
def yX10_setsByte : MethodName := ⟨RX10, "setsByte", "([IIII)Z"⟩
abbrev cX10_cuts : ByteArray := prog_12_method_70_code
def yX10_cuts : MethodName := ⟨RX10, "cuts", "([II)Z"⟩
abbrev cX10_hasNames : ByteArray := prog_12_method_71_code
def yX10_hasNames : MethodName := ⟨RX10, "hasNames", "([III)Z"⟩
abbrev cX10_drops : ByteArray := prog_12_method_72_code
def yX10_drops : MethodName := ⟨RX10, "drops", "([III)Z"⟩
abbrev cX10_reached : ByteArray := prog_12_method_73_code
def yX10_reached : MethodName := ⟨RX10, "reached", "([II)I"⟩
abbrev cX10_named : ByteArray := prog_12_method_74_code
def yX10_named : MethodName := ⟨RX10, "named", "([III)I"⟩
abbrev cX10_later : ByteArray := prog_12_method_75_code
def yX10_later : MethodName := ⟨RX10, "later", "([III)I"⟩
abbrev cX10_pointer : ByteArray := prog_12_method_76_code
def yX10_pointer : MethodName := ⟨RX10, "pointer", "([IIII)I"⟩
abbrev cX10_linked : ByteArray := prog_12_method_77_code
def yX10_linked : MethodName := ⟨RX10, "linked", "([II)I"⟩
abbrev cX10_leaking : ByteArray := prog_12_method_78_code
def yX10_leaking : MethodName := ⟨RX10, "leaking", "([II)I"⟩
abbrev cX10_ones : ByteArray := prog_12_method_79_code
def yX10_ones : MethodName := ⟨RX10, "ones", "(I)I"⟩
abbrev cX10_sweepAt : ByteArray := prog_12_method_80_code
def yX10_sweepAt : MethodName := ⟨RX10, "sweepAt", "([I)I"⟩
abbrev cX10_sweepsOne : ByteArray := prog_12_method_81_code
def yX10_sweepsOne : MethodName := ⟨RX10, "sweepsOne", "([I)Z"⟩
abbrev cX10_crashes : ByteArray := prog_12_method_82_code
def yX10_crashes : MethodName := ⟨RX10, "crashes", "([I)Z"⟩
abbrev cX10_does : ByteArray := prog_12_method_83_code
def yX10_does : MethodName := ⟨RX10, "does", "([I[I)Z"⟩
abbrev cX10_goes : ByteArray := prog_12_method_84_code
def yX10_goes : MethodName := ⟨RX10, "goes", "(II)V"⟩
abbrev cX10_work : ByteArray := prog_12_method_85_code
def yX10_work : MethodName := ⟨RX10, "work", "(I)I"⟩
abbrev cX10_undo : ByteArray := prog_12_method_86_code
def yX10_undo : MethodName := ⟨RX10, "undo", "()I"⟩
abbrev cX10_told : ByteArray := prog_12_method_87_code
def yX10_told : MethodName := ⟨RX10, "told", "(I)I"⟩
abbrev cX10_isWhere : ByteArray := prog_12_method_88_code
def yX10_isWhere : MethodName := ⟨RX10, "isWhere", "(I)Z"⟩
abbrev cX10_whereOf : ByteArray := prog_12_method_89_code
def yX10_whereOf : MethodName := ⟨RX10, "whereOf", "(I)I"⟩
abbrev cX10_isBlock : ByteArray := prog_12_method_90_code
def yX10_isBlock : MethodName := ⟨RX10, "isBlock", "(I)Z"⟩
abbrev cX10_isNode : ByteArray := prog_12_method_91_code
def yX10_isNode : MethodName := ⟨RX10, "isNode", "(I)Z"⟩
abbrev cX10_peek : ByteArray := prog_12_method_92_code
def yX10_peek : MethodName := ⟨RX10, "peek", "(III)I"⟩
abbrev cX10_node : ByteArray := prog_12_method_93_code
def yX10_node : MethodName := ⟨RX10, "node", "(III)I"⟩
abbrev cX10_find : ByteArray := prog_12_method_94_code
def yX10_find : MethodName := ⟨RX10, "find", "(III)I"⟩
abbrev cX10_used : ByteArray := prog_12_method_95_code
def yX10_used : MethodName := ⟨RX10, "used", "(I)I"⟩
abbrev cX10_leaks : ByteArray := prog_12_method_96_code
def yX10_leaks : MethodName := ⟨RX10, "leaks", "(I)I"⟩
abbrev cX10_lost : ByteArray := prog_12_method_97_code
def yX10_lost : MethodName := ⟨RX10, "lost", "(I)I"⟩
abbrev cX10_brokenOf : ByteArray := prog_12_method_98_code
def yX10_brokenOf : MethodName := ⟨RX10, "brokenOf", "([II)I"⟩
abbrev cX10_broken : ByteArray := prog_12_method_99_code
def yX10_broken : MethodName := ⟨RX10, "broken", "(I)I"⟩
abbrev cX10_underOf : ByteArray := prog_12_method_100_code
def yX10_underOf : MethodName := ⟨RX10, "underOf", "(II)I"⟩
abbrev cX10_under : ByteArray := prog_12_method_101_code
def yX10_under : MethodName := ⟨RX10, "under", "(II)I"⟩
abbrev cX10_deepOf : ByteArray := prog_12_method_102_code
def yX10_deepOf : MethodName := ⟨RX10, "deepOf", "(II)I"⟩
abbrev cX10_deep : ByteArray := prog_12_method_103_code
def yX10_deep : MethodName := ⟨RX10, "deep", "(II)I"⟩
abbrev cX10_change : ByteArray := prog_12_method_104_code
def yX10_change : MethodName := ⟨RX10, "change", "(II)I"⟩
abbrev cX10_held : ByteArray := prog_12_method_105_code
def yX10_held : MethodName := ⟨RX10, "held", "(I)I"⟩
abbrev cX10_copy : ByteArray := prog_12_method_106_code
def yX10_copy : MethodName := ⟨RX10, "copy", "(II)I"⟩
abbrev cX10_waitsFor : ByteArray := prog_12_method_107_code
def yX10_waitsFor : MethodName := ⟨RX10, "waitsFor", "(I)I"⟩
abbrev cX10_waits : ByteArray := prog_12_method_108_code
def yX10_waits : MethodName := ⟨RX10, "waits", "(I)I"⟩
abbrev cX10_rings : ByteArray := prog_12_method_109_code
def yX10_rings : MethodName := ⟨RX10, "rings", "()I"⟩
abbrev cX10_spills : ByteArray := prog_12_method_110_code
def yX10_spills : MethodName := ⟨RX10, "spills", "([II)V"⟩
abbrev cX10_settles : ByteArray := prog_12_method_111_code
def yX10_settles : MethodName := ⟨RX10, "settles", "([I)I"⟩
abbrev cX10_settle : ByteArray := prog_12_method_112_code
def yX10_settle : MethodName := ⟨RX10, "settle", "()I"⟩
abbrev cX10_spill : ByteArray := prog_12_method_113_code
def yX10_spill : MethodName := ⟨RX10, "spill", "(I)I"⟩
abbrev cX10_isSafeBy : ByteArray := prog_12_method_114_code
def yX10_isSafeBy : MethodName := ⟨RX10, "isSafeBy", "(II)Z"⟩
abbrev cX10_fewest : ByteArray := prog_12_method_115_code
def yX10_fewest : MethodName := ⟨RX10, "fewest", "()I"⟩
abbrev cX10_finds : ByteArray := prog_12_method_116_code
def yX10_finds : MethodName := ⟨RX10, "finds", "()I"⟩
abbrev cX10_sweeps : ByteArray := prog_12_method_117_code
def yX10_sweeps : MethodName := ⟨RX10, "sweeps", "()I"⟩
abbrev cX10_isSo : ByteArray := prog_12_method_118_code
def yX10_isSo : MethodName := ⟨RX10, "isSo", "(I)Z"⟩
abbrev cX10_fitsNow : ByteArray := prog_12_method_119_code
def yX10_fitsNow : MethodName := ⟨RX10, "fitsNow", "()I"⟩
abbrev cX10_fits : ByteArray := prog_12_method_120_code
def yX10_fits : MethodName := ⟨RX10, "fits", "()I"⟩
abbrev cX10_isTold : ByteArray := prog_12_method_121_code
def yX10_isTold : MethodName := ⟨RX10, "isTold", "(I)Z"⟩
abbrev cX10_worstAt : ByteArray := prog_12_method_122_code
def yX10_worstAt : MethodName := ⟨RX10, "worstAt", "(II)I"⟩
abbrev cX10_look : ByteArray := prog_12_method_123_code
def yX10_look : MethodName := ⟨RX10, "look", "(I)I"⟩
abbrev cX10_room : ByteArray := prog_12_method_124_code
def yX10_room : MethodName := ⟨RX10, "room", "(I)I"⟩
abbrev cX10_owner : ByteArray := prog_12_method_125_code
def yX10_owner : MethodName := ⟨RX10, "owner", "(II)I"⟩
abbrev cX10_unlike : ByteArray := prog_12_method_126_code
def yX10_unlike : MethodName := ⟨RX10, "unlike", "(I)I"⟩
abbrev cX10_draw : ByteArray := prog_12_method_127_code
def yX10_draw : MethodName := ⟨RX10, "draw", "(I)I"⟩
abbrev cX10_stormBy : ByteArray := prog_12_method_128_code
def yX10_stormBy : MethodName := ⟨RX10, "stormBy", "(III)V"⟩
abbrev cX10_isStorm : ByteArray := prog_12_method_129_code
def yX10_isStorm : MethodName := ⟨RX10, "isStorm", "(II)Z"⟩
abbrev cX10_storm : ByteArray := prog_12_method_130_code
def yX10_storm : MethodName := ⟨RX10, "storm", "(IIII)I"⟩
abbrev cX10_span : ByteArray := prog_12_method_131_code
def yX10_span : MethodName := ⟨RX10, "span", "(IIIIII)I"⟩
abbrev cX10_lays : ByteArray := prog_12_method_132_code
def yX10_lays : MethodName := ⟨RX10, "lays", "([IIZ)I"⟩
abbrev cX10_putsAll : ByteArray := prog_12_method_133_code
def yX10_putsAll : MethodName := ⟨RX10, "putsAll", "([IZ)V"⟩
abbrev cX10_image : ByteArray := prog_12_method_134_code
def yX10_image : MethodName := ⟨RX10, "image", "()I"⟩
abbrev cX10_restore : ByteArray := prog_12_method_135_code
def yX10_restore : MethodName := ⟨RX10, "restore", "()I"⟩
abbrev cX10_status : ByteArray := prog_12_method_136_code
def yX10_status : MethodName := ⟨RX10, "status", "(I)I"⟩
abbrev cX10_count : ByteArray := prog_12_method_137_code
def yX10_count : MethodName := ⟨RX10, "count", "(I)I"⟩
def RJx145de : String := "java/io/Serializable"
def TJx145de : u_T := fun k => match k with
  | _ => ("", "", "", false)
def tyJx145de : Nat → FieldType := fun k => match k with
  | _ => .int
abbrev wsJx145de0 : List Cond := u_ws RJx145de TJx145de 0
theorem nmJx145de : ∀ a, a < 0 → ∀ b, b < 0 → a ≠ b → (TJx145de a).2.1 ≠ (TJx145de b).2.1 := by decide +kernel
theorem tyJx145de_ok : ∀ k, k < 0 → parseFieldDescriptor (TJx145de k).2.2.1 = some (tyJx145de k) := by decide +kernel
def RJx00060 : String := "java/lang/ArrayIndexOutOfBoundsException"
def TJx00060 : u_T := fun k => match k with
  | 0 => ("java/lang/Throwable", "backtrace", "Ljava/lang/Object;", false)
  | 1 => ("java/lang/Throwable", "detailMessage", "Ljava/lang/String;", false)
  | 2 => ("java/lang/Throwable", "cause", "Ljava/lang/Throwable;", false)
  | 3 => ("java/lang/Throwable", "stackTrace", "[Ljava/lang/StackTraceElement;", false)
  | 4 => ("java/lang/Throwable", "depth", "I", false)
  | _ => ("java/lang/Throwable", "suppressedExceptions", "Ljava/util/List;", false)
def tyJx00060 : Nat → FieldType := fun k => match k with
  | 0 => .object "java/lang/Object"
  | 1 => .object "java/lang/String"
  | 2 => .object "java/lang/Throwable"
  | 3 => .array (.object "java/lang/StackTraceElement")
  | 4 => .int
  | _ => .object "java/util/List"
abbrev wsJx000600 : List Cond := u_ws RJx00060 TJx00060 6
theorem nmJx00060 : ∀ a, a < 6 → ∀ b, b < 6 → a ≠ b → (TJx00060 a).2.1 ≠ (TJx00060 b).2.1 := by decide +kernel
theorem tyJx00060_ok : ∀ k, k < 6 → parseFieldDescriptor (TJx00060 k).2.2.1 = some (tyJx00060 k) := by decide +kernel
abbrev cJx00060_init_a7421 : ByteArray := prog_14_method_2_code
def yJx00060_init_a7421 : MethodName := ⟨RJx00060, "<init>", "(Ljava/lang/String;)V"⟩
def RJx9f9b0 : String := "java/lang/CharSequence"
def TJx9f9b0 : u_T := fun k => match k with
  | _ => ("", "", "", false)
def tyJx9f9b0 : Nat → FieldType := fun k => match k with
  | _ => .int
abbrev wsJx9f9b00 : List Cond := u_ws RJx9f9b0 TJx9f9b0 0
theorem nmJx9f9b0 : ∀ a, a < 0 → ∀ b, b < 0 → a ≠ b → (TJx9f9b0 a).2.1 ≠ (TJx9f9b0 b).2.1 := by decide +kernel
theorem tyJx9f9b0_ok : ∀ k, k < 0 → parseFieldDescriptor (TJx9f9b0 k).2.2.1 = some (tyJx9f9b0 k) := by decide +kernel
def RJxb160c : String := "java/lang/Comparable"
def TJxb160c : u_T := fun k => match k with
  | _ => ("", "", "", false)
def tyJxb160c : Nat → FieldType := fun k => match k with
  | _ => .int
abbrev wsJxb160c0 : List Cond := u_ws RJxb160c TJxb160c 0
theorem nmJxb160c : ∀ a, a < 0 → ∀ b, b < 0 → a ≠ b → (TJxb160c a).2.1 ≠ (TJxb160c b).2.1 := by decide +kernel
theorem tyJxb160c_ok : ∀ k, k < 0 → parseFieldDescriptor (TJxb160c k).2.2.1 = some (tyJxb160c k) := by decide +kernel
def RJ6 : String := "java/lang/Integer"
def TJ6 : u_T := fun k => match k with
  | _ => ("", "", "", false)
def tyJ6 : Nat → FieldType := fun k => match k with
  | _ => .int
abbrev wsJ60 : List Cond := u_ws RJ6 TJ6 0
theorem nmJ6 : ∀ a, a < 0 → ∀ b, b < 0 → a ≠ b → (TJ6 a).2.1 ≠ (TJ6 b).2.1 := by decide +kernel
theorem tyJ6_ok : ∀ k, k < 0 → parseFieldDescriptor (TJ6 k).2.2.1 = some (tyJ6 k) := by decide +kernel
abbrev cJ6_numberOfTrailingZeros_0f7a4 : ByteArray := prog_20_method_48_code
def yJ6_numberOfTrailingZeros_0f7a4 : MethodName := ⟨RJ6, "numberOfTrailingZeros", "(I)I"⟩
abbrev cJ6_bitCount_0f7a4 : ByteArray := prog_20_method_49_code
def yJ6_bitCount_0f7a4 : MethodName := ⟨RJ6, "bitCount", "(I)I"⟩
def RJ9 : String := "java/lang/Math"
def TJ9 : u_T := fun k => match k with
  | _ => ("", "", "", false)
def tyJ9 : Nat → FieldType := fun k => match k with
  | _ => .int
abbrev wsJ90 : List Cond := u_ws RJ9 TJ9 0
theorem nmJ9 : ∀ a, a < 0 → ∀ b, b < 0 → a ≠ b → (TJ9 a).2.1 ≠ (TJ9 b).2.1 := by decide +kernel
theorem tyJ9_ok : ∀ k, k < 0 → parseFieldDescriptor (TJ9 k).2.2.1 = some (tyJ9 k) := by decide +kernel
abbrev cJ9_max_7cf53 : ByteArray := prog_21_method_65_code
def yJ9_max_7cf53 : MethodName := ⟨RJ9, "max", "(II)I"⟩
abbrev cJ9_min_7cf53 : ByteArray := prog_21_method_69_code
def yJ9_min_7cf53 : MethodName := ⟨RJ9, "min", "(II)I"⟩
def RJx5d777 : String := "java/lang/NullPointerException"
def TJx5d777 : u_T := fun k => match k with
  | 0 => ("java/lang/Throwable", "backtrace", "Ljava/lang/Object;", false)
  | 1 => ("java/lang/Throwable", "detailMessage", "Ljava/lang/String;", false)
  | 2 => ("java/lang/Throwable", "cause", "Ljava/lang/Throwable;", false)
  | 3 => ("java/lang/Throwable", "stackTrace", "[Ljava/lang/StackTraceElement;", false)
  | 4 => ("java/lang/Throwable", "depth", "I", false)
  | 5 => ("java/lang/Throwable", "suppressedExceptions", "Ljava/util/List;", false)
  | 6 => ("java/lang/NullPointerException", "extendedMessageState", "I", false)
  | _ => ("java/lang/NullPointerException", "extendedMessage", "Ljava/lang/String;", false)
def tyJx5d777 : Nat → FieldType := fun k => match k with
  | 0 => .object "java/lang/Object"
  | 1 => .object "java/lang/String"
  | 2 => .object "java/lang/Throwable"
  | 3 => .array (.object "java/lang/StackTraceElement")
  | 4 => .int
  | 5 => .object "java/util/List"
  | 6 => .int
  | _ => .object "java/lang/String"
abbrev wsJx5d7770 : List Cond := u_ws RJx5d777 TJx5d777 8
theorem nmJx5d777 : ∀ a, a < 8 → ∀ b, b < 8 → a ≠ b → (TJx5d777 a).2.1 ≠ (TJx5d777 b).2.1 := by decide +kernel
theorem tyJx5d777_ok : ∀ k, k < 8 → parseFieldDescriptor (TJx5d777 k).2.2.1 = some (tyJx5d777 k) := by decide +kernel
abbrev cJx5d777_init_da8c8 : ByteArray := prog_22_method_1_code
def yJx5d777_init_da8c8 : MethodName := ⟨RJx5d777, "<init>", "()V"⟩
abbrev cJx5d777_init_a7421 : ByteArray := prog_22_method_2_code
def yJx5d777_init_a7421 : MethodName := ⟨RJx5d777, "<init>", "(Ljava/lang/String;)V"⟩
abbrev cJx5d777_fillInStackTrace_cddbd : ByteArray := prog_22_method_3_code
def yJx5d777_fillInStackTrace_cddbd : MethodName := ⟨RJx5d777, "fillInStackTrace", "()Ljava/lang/Throwable;"⟩
def RJ0 : String := "java/lang/String"
def TJ0 : u_T := fun k => match k with
  | 0 => ("java/lang/String", "value", "[B", true)
  | _ => ("java/lang/String", "coder", "B", true)
def tyJ0 : Nat → FieldType := fun k => match k with
  | 0 => .array .byte
  | _ => .byte
abbrev wsJ00 : List Cond := u_ws RJ0 TJ0 2
theorem nmJ0 : ∀ a, a < 2 → ∀ b, b < 2 → a ≠ b → (TJ0 a).2.1 ≠ (TJ0 b).2.1 := by decide +kernel
theorem tyJ0_ok : ∀ k, k < 2 → parseFieldDescriptor (TJ0 k).2.2.1 = some (tyJ0 k) := by decide +kernel
abbrev cJ0_charAt_5068e : ByteArray := prog_24_method_56_code
def yJ0_charAt_5068e : MethodName := ⟨RJ0, "charAt", "(I)C"⟩
abbrev cJ0_isLatin1_aae02 : ByteArray := prog_24_method_154_code
def yJ0_isLatin1_aae02 : MethodName := ⟨RJ0, "isLatin1", "()Z"⟩
abbrev cJ0_checkIndex_df160 : ByteArray := prog_24_method_155_code
def yJ0_checkIndex_df160 : MethodName := ⟨RJ0, "checkIndex", "(II)V"⟩
def RJ1 : String := "java/lang/StringLatin1"
def TJ1 : u_T := fun k => match k with
  | _ => ("", "", "", false)
def tyJ1 : Nat → FieldType := fun k => match k with
  | _ => .int
abbrev wsJ10 : List Cond := u_ws RJ1 TJ1 0
theorem nmJ1 : ∀ a, a < 0 → ∀ b, b < 0 → a ≠ b → (TJ1 a).2.1 ≠ (TJ1 b).2.1 := by decide +kernel
theorem tyJ1_ok : ∀ k, k < 0 → parseFieldDescriptor (TJ1 k).2.2.1 = some (tyJ1 k) := by decide +kernel
abbrev cJ1_charAt_3b067 : ByteArray := prog_25_method_2_code
def yJ1_charAt_3b067 : MethodName := ⟨RJ1, "charAt", "([BI)C"⟩
def RJ2 : String := "java/lang/StringUTF16"
def TJ2 : u_T := fun k => match k with
  | _ => ("", "", "", false)
def tyJ2 : Nat → FieldType := fun k => match k with
  | _ => .int
abbrev wsJ20 : List Cond := u_ws RJ2 TJ2 0
theorem nmJ2 : ∀ a, a < 0 → ∀ b, b < 0 → a ≠ b → (TJ2 a).2.1 ≠ (TJ2 b).2.1 := by decide +kernel
theorem tyJ2_ok : ∀ k, k < 0 → parseFieldDescriptor (TJ2 k).2.2.1 = some (tyJ2 k) := by decide +kernel
abbrev cJ2_getChar_3b067 : ByteArray := prog_26_method_5_code
def yJ2_getChar_3b067 : MethodName := ⟨RJ2, "getChar", "([BI)C"⟩
abbrev cJ2_length_9d52b : ByteArray := prog_26_method_6_code
def yJ2_length_9d52b : MethodName := ⟨RJ2, "length", "([B)I"⟩
abbrev cJ2_charAt_3b067 : ByteArray := prog_26_method_83_code
def yJ2_charAt_3b067 : MethodName := ⟨RJ2, "charAt", "([BI)C"⟩
abbrev cJ2_checkIndex_2214a : ByteArray := prog_26_method_91_code
def yJ2_checkIndex_2214a : MethodName := ⟨RJ2, "checkIndex", "(I[B)V"⟩
def RJ10 : String := "java/lang/System"
def TJ10 : u_T := fun k => match k with
  | _ => ("", "", "", false)
def tyJ10 : Nat → FieldType := fun k => match k with
  | _ => .int
abbrev wsJ100 : List Cond := u_ws RJ10 TJ10 0
theorem nmJ10 : ∀ a, a < 0 → ∀ b, b < 0 → a ≠ b → (TJ10 a).2.1 ≠ (TJ10 b).2.1 := by decide +kernel
theorem tyJ10_ok : ∀ k, k < 0 → parseFieldDescriptor (TJ10 k).2.2.1 = some (tyJ10 k) := by decide +kernel
def RJxfd54e : String := "java/lang/constant/Constable"
def TJxfd54e : u_T := fun k => match k with
  | _ => ("", "", "", false)
def tyJxfd54e : Nat → FieldType := fun k => match k with
  | _ => .int
abbrev wsJxfd54e0 : List Cond := u_ws RJxfd54e TJxfd54e 0
theorem nmJxfd54e : ∀ a, a < 0 → ∀ b, b < 0 → a ≠ b → (TJxfd54e a).2.1 ≠ (TJxfd54e b).2.1 := by decide +kernel
theorem tyJxfd54e_ok : ∀ k, k < 0 → parseFieldDescriptor (TJxfd54e k).2.2.1 = some (tyJxfd54e k) := by decide +kernel
def RJx3cf43 : String := "java/lang/constant/ConstantDesc"
def TJx3cf43 : u_T := fun k => match k with
  | _ => ("", "", "", false)
def tyJx3cf43 : Nat → FieldType := fun k => match k with
  | _ => .int
abbrev wsJx3cf430 : List Cond := u_ws RJx3cf43 TJx3cf43 0
theorem nmJx3cf43 : ∀ a, a < 0 → ∀ b, b < 0 → a ≠ b → (TJx3cf43 a).2.1 ≠ (TJx3cf43 b).2.1 := by decide +kernel
theorem tyJx3cf43_ok : ∀ k, k < 0 → parseFieldDescriptor (TJx3cf43 k).2.2.1 = some (tyJx3cf43 k) := by decide +kernel
def RJ3 : String := "jdk/internal/util/Preconditions"
def TJ3 : u_T := fun k => match k with
  | _ => ("", "", "", false)
def tyJ3 : Nat → FieldType := fun k => match k with
  | _ => .int
abbrev wsJ30 : List Cond := u_ws RJ3 TJ3 0
theorem nmJ3 : ∀ a, a < 0 → ∀ b, b < 0 → a ≠ b → (TJ3 a).2.1 ≠ (TJ3 b).2.1 := by decide +kernel
theorem tyJ3_ok : ∀ k, k < 0 → parseFieldDescriptor (TJ3 k).2.2.1 = some (tyJ3 k) := by decide +kernel
abbrev cJ3_checkIndex_8e157 : ByteArray := prog_32_method_11_code
def yJ3_checkIndex_8e157 : MethodName := ⟨RJ3, "checkIndex", "(IILjava/util/function/BiFunction;)I"⟩
def RL : String := "RolledBackLaw"
abbrev cL_store : ByteArray := method_3_code
def yL_store : MethodName := ⟨RL, "store", "(LRolledBack;I[J)I"⟩
abbrev cL_work : ByteArray := method_4_code
def yL_work : MethodName := ⟨RL, "work", "(LRolledBack;I[J)I"⟩
abbrev cL_book : ByteArray := method_5_code
def yL_book : MethodName := ⟨RL, "book", "(LRolledBack;I[J)I"⟩
abbrev cL_told : ByteArray := method_6_code
def yL_told : MethodName := ⟨RL, "told", "(LRolledBack;I[J)I"⟩
abbrev cL_peek : ByteArray := method_7_code
def yL_peek : MethodName := ⟨RL, "peek", "(LRolledBack;III[J)I"⟩
abbrev cL_node : ByteArray := method_8_code
def yL_node : MethodName := ⟨RL, "node", "(LRolledBack;III[J)I"⟩
abbrev cL_find : ByteArray := method_9_code
def yL_find : MethodName := ⟨RL, "find", "(LRolledBack;III[J)I"⟩
abbrev cL_used : ByteArray := method_10_code
def yL_used : MethodName := ⟨RL, "used", "(LRolledBack;I[J)I"⟩
abbrev cL_leaks : ByteArray := method_11_code
def yL_leaks : MethodName := ⟨RL, "leaks", "(LRolledBack;I[J)I"⟩
abbrev cL_lost : ByteArray := method_12_code
def yL_lost : MethodName := ⟨RL, "lost", "(LRolledBack;I[J)I"⟩
abbrev cL_broken : ByteArray := method_13_code
def yL_broken : MethodName := ⟨RL, "broken", "(LRolledBack;I[J)I"⟩
abbrev cL_under : ByteArray := method_14_code
def yL_under : MethodName := ⟨RL, "under", "(LRolledBack;II[J)I"⟩
abbrev cL_deep : ByteArray := method_15_code
def yL_deep : MethodName := ⟨RL, "deep", "(LRolledBack;II[J)I"⟩
abbrev cL_change : ByteArray := method_16_code
def yL_change : MethodName := ⟨RL, "change", "(LRolledBack;II[J)I"⟩
abbrev cL_held : ByteArray := method_17_code
def yL_held : MethodName := ⟨RL, "held", "(LRolledBack;I[J)I"⟩
abbrev cL_copy : ByteArray := method_18_code
def yL_copy : MethodName := ⟨RL, "copy", "(LRolledBack;II[J)I"⟩
abbrev cL_waits : ByteArray := method_19_code
def yL_waits : MethodName := ⟨RL, "waits", "(LRolledBack;I[J)I"⟩
abbrev cL_spill : ByteArray := method_20_code
def yL_spill : MethodName := ⟨RL, "spill", "(LRolledBack;I[J)I"⟩
abbrev cL_look : ByteArray := method_21_code
def yL_look : MethodName := ⟨RL, "look", "(LRolledBack;I[J)I"⟩
abbrev cL_room : ByteArray := method_22_code
def yL_room : MethodName := ⟨RL, "room", "(LRolledBack;I[J)I"⟩
abbrev cL_owner : ByteArray := method_23_code
def yL_owner : MethodName := ⟨RL, "owner", "(LRolledBack;II[J)I"⟩
abbrev cL_unlike : ByteArray := method_24_code
def yL_unlike : MethodName := ⟨RL, "unlike", "(LRolledBack;I[J)I"⟩
abbrev cL_storm : ByteArray := method_25_code
def yL_storm : MethodName := ⟨RL, "storm", "(LRolledBack;IIII[J)I"⟩
abbrev cL_span : ByteArray := method_26_code
def yL_span : MethodName := ⟨RL, "span", "(LRolledBack;IIIIII[J)I"⟩
abbrev cL_law : ByteArray := code
def yL_law : MethodName := ⟨RL, "law", "([I)Z"⟩
end
section
/-! ===== BEGIN exceptions that leave a method, and their catching by the caller (launches without stack traces) ===== -/
section VXA
/-! The laws vx_back, vx_callV, vx_callS, vx_callSW, vx_throw0, vx_throwS follow proofs of the library, with one case more: JvmDerived/Free/Laws.lean (Back.of_free), Shelf42/LK1.lean (callV, callS), Shelf/KitTraced.lean (throwNew0V, throwNewS). -/
/-- where a method has thrown q: the class by its name, the cell, what was written, the world -/
def vx_T (XC : String → State → State → Prop) (st : State) (q : Addr) (t : State) (mc ms : Nat) (free : Addr → Prop) : Prop :=
  ∃ (E : String) (ce : Cell) (L : List Loc), XC E st t ∧ t.heap[q]? = some ce ∧ ce.vm = .none ∧ st.vm.findClass E = some ce.cls ∧ st.WarmedH t.vm ∧ st.sameButNew ({ t with vm := st.vm } : State) L mc ms ∧ ∀ z ∈ L, free z.base
def vx_Q (Qc : Array Value → State → Outcome → State → Prop) (XC : String → State → State → Prop) (mc ms : Nat) (free : Addr → Prop) : Array Value → State → Outcome → State → Prop := fun a st o t =>
  (Qc a st o t ∧ ∃ L, FrameEnd st o t L mc ms ∧ ∀ q ∈ L, free q.base) ∨ ∃ q, o = .threw q ∧ vx_T XC st q t mc ms free
/-- a callee that returns or throws -/
def vx_Met (l : Launch) (y : MethodName) (ws : List Cond) (rm : Room) (Pc : Array Value → State → Prop) (Qc : Array Value → State → Outcome → State → Prop) (XC : String → State → State → Prop) (mc ms : Nat) (free : Addr → Prop) : Prop :=
  MetFree l y (headSpec ws rm) Pc (fun _ _ _ _ _ => True) (vx_Q Qc XC mc ms free)
def vx_Post (XC : String → State → State → Prop) (mc ms : Nat) (free : Addr → Prop) : Pt → Array Value → Addr → Pt → Prop := fun A a q B =>
  ∃ (g : JFrame) (mk : MethodId) (t : State) (L : List Loc) (E : String) (ce : Cell), B.U.heap = t.heap ∧ B.U.vm = t.vm ∧ XC E (A.U.calling g mk a) t ∧ t.heap[q]? = some ce ∧ ce.vm = .none ∧ A.U.vm.findClass E = some ce.cls ∧ B.locs = A.locs ++ L ∧ (∀ z ∈ L, free z.base) ∧ B.cells = A.cells + mc ∧ B.slots = A.slots + ms
def vx_Back (l : Launch) (R : Room) (p : Program) (e : Env) (below : List Frame) (s : State) (sargs : Array Value) (y : MethodName) (len W9 : Nat)
    (Pre : Pt → Array Value → Prop) (Post : Pt → Array Value → Option Value → Pt → Prop) (PostX : Pt → Array Value → Addr → Pt → Prop) : Prop :=
  ∀ (m : MethodId) (meth : Method) (c : Code) (A : Pt) (g : JFrame) (ig : Instr) (mk : MethodId) (a : Array Value),
    Stand p l e R s m sargs below meth c A.U A.locs A.cells A.slots → g.method = m → g.locals.size = c.maxLocals → decode c.code g.pc = .ok (ig, len) →
    2 * g.monitorRoom + (g.stack.map fun v => v.category).sum ≤ W9 → A.U.methodNamed? y = some mk → Pre A a →
    (∃ (v : Option Value) (B : Pt), Stand p l e R s m sargs below meth c B.U B.locs B.cells B.slots ∧ Post A a v B ∧
      Steps p.tables e below (doInvoke e (A.U.setTop g) [] mk a).1 (B.U.setTop { g with pc := g.pc + len, stack := v.toList ++ g.stack })) ∨
    (∃ (q : Addr) (B : Pt), Stand p l e R s m sargs below meth c B.U B.locs B.cells B.slots ∧ PostX A a q B ∧
      Steps p.tables e below (doInvoke e (A.U.setTop g) [] mk a).1 ((B.U.setTop g).pushFrame (.throwing q)))
section Payer
variable {l : Launch} {R : Room} {p : Program} {e : Env} {below : List Frame} {s : State} {sargs : Array Value} {y : MethodName} {len W9 : Nat}
theorem vx_back {ws : List Cond} {rm : Room} {Pc : Array Value → State → Prop} {Qc : Array Value → State → Outcome → State → Prop} {XC : String → State → State → Prop} {mc ms : Nat} {free : Addr → Prop} {bytes : ByteArray} {maxL : Nat} {ret : Option FieldType}
    (hM : vx_Met l y ws rm Pc Qc XC mc ms free) (hblind : FrameBlind Pc) (hrc : rm.cells = mc) (hrs : rm.slots = ms)
    (hframes : rm.frames + 1 ≤ R.frames) (hlocals : W9 + (maxL + 11) + rm.locals ≤ R.locals)
    (hws : ∀ w ∈ ws, ∀ a' U, s.WarmedH U.vm → w.before a' U = true) (hcode : Cond.code y bytes maxL ret ∈ ws) (hinit : ∀ a' U, s.WarmedH U.vm → (Cond.initialized y.cls).before a' U = true) :
    vx_Back l R p e below s sargs y len W9 (PreOf R mc ms Pc) (PostOf Qc mc ms free) (vx_Post XC mc ms free) := by
  intro m meth c A g ig mk a X hg hsize hdg hW hn hp
  have h1 : (headSpec ws rm).pre.before a A.U = true := atoms_intro fun w hw => hws w hw _ _ X.warmed
  have h2 : (Cond.code y bytes maxL ret).before a A.U = true := hws _ hcode _ _ X.warmed
  have h3 : (Cond.initialized y.cls).before a A.U = true := hinit _ _ X.warmed
  have h4 : A.cells + (headSpec ws rm).room.cells ≤ R.cells := by rw [show (headSpec ws rm).room.cells = mc from hrc]; exact hp.1
  have h5 : A.slots + (headSpec ws rm).room.slots ≤ R.slots := by rw [show (headSpec ws rm).room.slots = ms from hrs]; exact hp.2.1
  have hPc : Pc a (A.U.calling g mk a) := hblind _ _ _ _ hp.2.2
  obtain ⟨U, Ls, c0, s0⟩ := A
  dsimp only [Pt.U, Pt.locs, Pt.cells, Pt.slots] at h1 h2 h3 h4 h5 X hn hPc ⊢
  obtain ⟨methY, cY, hmY, hcY, -, hlY, -, -, -, -⟩ := Cond.code_spec hn h2
  obtain ⟨kY, hkY, -⟩ := className_of_methodNamed hn
  have hinitY : kY.init = .initialized := Cond.initialized_spec (findClass_of_methodNamed hn) hkY h3
  have h : At U g.method c below := by rw [hg]; exact X.here
  have hlocals9 : W9 + (maxL + 11) + (headSpec ws rm).room.locals ≤ R.locals := hlocals
  have happ : (headSpec ws rm).appliesLoose y e.platform (U.calling g mk a) = true :=
    Spec.appliesLoose_calling (g := g) h hdg hn hkY hinitY
      (X.room_calling (g := g) (R' := (headSpec ws rm).room) hsize hmY hcY hframes (by rw [hlY]; omega) h4 h5) h1
  obtain ⟨mid, hmid⟩ := h.above
  have hfr : (U.setTop g).frames = (.java g :: mid) ++ below := by rw [State.frames_setTop' g h.top, hmid]; rfl
  obtain ⟨o, s₂, hsteps, -, hend, hq⟩ := Steps.callFree hM p X.admits X.cas X.clock (acts := []) hfr happ hPc trivial
  have hq' : vx_Q Qc XC mc ms free a (U.calling g mk a) o s₂ := hq
  rw [State.frames_setTop' g h.top] at hend
  obtain ⟨g₀, hg0⟩ := Option.isSome_iff_exists.mp h.top
  obtain ⟨r, hr⟩ := State.topJava?_eq_some.mp hg0
  have hr' : (({ U with heap := s₂.heap, slotsUsed := s₂.slotsUsed } : State).setVm s₂.vm).frames = .java g₀ :: r := hr
  rcases hq' with ⟨hqc, L, hfe, hL⟩ | ⟨q, rfl, E, ce, L, hx, hce, hcv, hcl, hW₂, hsm, hL⟩
  · obtain ⟨⟨v, rfl⟩, hW₂, e2, q2, q3, q4, q5, q6⟩ := id hfe
    have e3 : s₂ = ({ (U.calling g mk a).setFrames s₂.frames with heap := s₂.heap, slotsUsed := s₂.slotsUsed } : State).setVm s₂.vm := by
      have : s₂ = ({ s₂ with vm := (U.calling g mk a).vm } : State).setVm s₂.vm := rfl
      rw [e2] at this
      exact this
    obtain ⟨c₂, i₂, len₂, hc₂, hd₂, hf₂⟩ := hend
    have hW' : U.WarmedH s₂.vm := hW₂
    have hcc : c₂ = c := by
      have h1 : s₂.code? g.method = U.code? g.method := by
        rw [State.code?_eq, State.code?_eq, hW'.alike.method?]
      exact Option.some.inj (hc₂.symm.trans (h1.trans h.code))
    subst hcc
    have hlen : len₂ = len := by rw [hdg] at hd₂; cases hd₂; rfl
    subst hlen
    have hs₂ : s₂ = (({ U with heap := s₂.heap, slotsUsed := s₂.slotsUsed } : State).setVm s₂.vm).setTop { g with pc := g.pc + len₂, stack := v.toList ++ g.stack } := by
      refine e3.trans ?_
      rw [hf₂, State.calling_eq h.top, State.setFrames_setFrames, State.setTop_of_frames _ hr', hr]
      rfl
    have hsame : U.sameButNew ({ U with heap := s₂.heap, slotsUsed := s₂.slotsUsed } : State) L mc ms := by
      refine ⟨?_, q2, q3, q4, q5, q6⟩
      obtain ⟨t, ht, -⟩ := State.frames_cons hr
      show ({ U with heap := s₂.heap, slotsUsed := s₂.slotsUsed } : State) = { U.setFrames U.frames with heap := s₂.heap, slotsUsed := s₂.slotsUsed }
      rw [State.setFrames_self ht]
    subst hg
    refine Or.inl ⟨v, ⟨(({ U with heap := s₂.heap, slotsUsed := s₂.slotsUsed } : State).setVm s₂.vm), Ls ++ L, c0 + mc, s0 + ms⟩,
      ⟨X.admits, X.cas, X.clock, X.frames, X.room, X.hears, X.method, X.code, (X.here.setHeapUsed s₂.heap s₂.slotsUsed).setVm hW'.alike, X.tail, State.WarmedH.trans X.warmed hW', X.limits, X.bytes, X.same.trans (hsame.setVm s.vm)⟩,
      ⟨g, mk, s₂, L, rfl, rfl, hqc, rfl, hL, rfl, rfl⟩, ?_⟩
    show Steps p.tables e below _ ((({ U with heap := s₂.heap, slotsUsed := s₂.slotsUsed } : State).setVm s₂.vm).setTop { g with pc := g.pc + len₂, stack := v.toList ++ g.stack })
    rw [← hs₂]
    exact hsteps
  · obtain ⟨e2, q2, q3, q4, q5, q6⟩ := id hsm
    have e3 : s₂ = ({ (U.calling g mk a).setFrames s₂.frames with heap := s₂.heap, slotsUsed := s₂.slotsUsed } : State).setVm s₂.vm := by
      have : s₂ = ({ s₂ with vm := (U.calling g mk a).vm } : State).setVm s₂.vm := rfl
      rw [e2] at this
      exact this
    have hf₂ : s₂.frames = .throwing q :: .java g :: U.frames.tail := hend
    have hW' : U.WarmedH s₂.vm := hW₂
    have hs₂ : s₂ = ((({ U with heap := s₂.heap, slotsUsed := s₂.slotsUsed } : State).setVm s₂.vm).setTop g).pushFrame (.throwing q) := by
      refine e3.trans ?_
      rw [hf₂, State.calling_eq h.top, State.setFrames_setFrames, State.pushFrame, State.frames_setTop _ hr', State.setTop_of_frames _ hr', State.setFrames_setFrames, hr]
      rfl
    have hsame : U.sameButNew ({ U with heap := s₂.heap, slotsUsed := s₂.slotsUsed } : State) L mc ms := by
      refine ⟨?_, q2, q3, q4, q5, q6⟩
      obtain ⟨t, ht, -⟩ := State.frames_cons hr
      show ({ U with heap := s₂.heap, slotsUsed := s₂.slotsUsed } : State) = { U.setFrames U.frames with heap := s₂.heap, slotsUsed := s₂.slotsUsed }
      rw [State.setFrames_self ht]
    subst hg
    refine Or.inr ⟨q, ⟨(({ U with heap := s₂.heap, slotsUsed := s₂.slotsUsed } : State).setVm s₂.vm), Ls ++ L, c0 + mc, s0 + ms⟩,
      ⟨X.admits, X.cas, X.clock, X.frames, X.room, X.hears, X.method, X.code, (X.here.setHeapUsed s₂.heap s₂.slotsUsed).setVm hW'.alike, X.tail, State.WarmedH.trans X.warmed hW', X.limits, X.bytes, X.same.trans (hsame.setVm s.vm)⟩,
      ⟨g, mk, s₂, L, E, ce, rfl, rfl, hx, hce, hcv, hcl, rfl, hL, rfl, rfl⟩, ?_⟩
    show Steps p.tables e below _ (((({ U with heap := s₂.heap, slotsUsed := s₂.slotsUsed } : State).setVm s₂.vm).setTop g).pushFrame (.throwing q))
    rw [← hs₂]
    exact hsteps
end Payer
section Calls
variable {p : Program} {l : Launch} {e : Env} {R : Room} {s : State} {m : MethodId} {args : Array Value} {below : List Frame} {meth : Method} {c : Code} {T : State} {locs : List Loc} {cells slots : Nat}
theorem vx_callV (X : Stand p l e R s m args below meth c T locs cells slots) (hexec : p.tables.exec = Jvm.exec) {own C : String} {index : Nat} {y : MethodName} {bytes : ByteArray} {maxL : Nat} {ret : Option FieldType}
    (hown : s.vm.findClass own = some m.cls) (hlink : (Cond.methodLink own index y).before args s = true) (hinst : (Cond.instanceMethod y).before args s = true) (hsel : (Cond.selects C y y).before args s = true)
    (hcode : (Cond.code y bytes maxL ret).before args s = true) (hy : y.cls ≠ "java/lang/invoke/MethodHandle" ∧ y.cls ≠ "java/lang/invoke/VarHandle")
    {W9 : Nat} {Pre : Pt → Array Value → Prop} {Post : Pt → Array Value → Option Value → Pt → Prop} {PostX : Pt → Array Value → Addr → Pt → Prop} (hK : vx_Back l R p e below s args y 3 W9 Pre Post PostX)
    {b : Addr} {cellB : Cell} (hcell : T.heap[b]? = some cellB) (hobj : cellB.vm.isStatics = false) (hcls : s.vm.findClass C = some cellB.cls)
    {g : JFrame} (hg : g.method = m) (hsize : g.locals.size = c.maxLocals) {argsL rest : List Value} (hlen : ∀ sig, parseMethodDescriptor y.desc = some sig → argsL.length = sig.parameters.length)
    (hstack : g.stack = argsL.reverse ++ .ref b :: rest) (hW : 2 * g.monitorRoom + (rest.map fun v => v.category).sum ≤ W9) (hdg : decode c.code g.pc = .ok (.invokevirtual index, 3))
    (hpre : ∀ vm₁, s.WarmedH vm₁ → Pre ⟨T.setVm vm₁, locs, cells, slots⟩ (Value.ref b :: argsL).toArray) :
    (∃ (v : Option Value) (vm₁ : Vm) (B : Pt), s.WarmedH vm₁ ∧ Stand p l e R s m args below meth c B.U B.locs B.cells B.slots ∧ Post ⟨T.setVm vm₁, locs, cells, slots⟩ (Value.ref b :: argsL).toArray v B ∧
      ∀ target, Steps p.tables e below (B.U.setTop { g with pc := g.pc + 3, stack := v.toList ++ rest }) target → Steps p.tables e below (T.setTop g) target) ∨
    (∃ (q : Addr) (vm₁ : Vm) (B : Pt), s.WarmedH vm₁ ∧ Stand p l e R s m args below meth c B.U B.locs B.cells B.slots ∧ PostX ⟨T.setVm vm₁, locs, cells, slots⟩ (Value.ref b :: argsL).toArray q B ∧
      Steps p.tables e below (T.setTop g) ((B.U.setTop { g with stack := rest }).pushFrame (.throwing q))) := by
  obtain ⟨mk, methM, hnamed, hmethM, hstM, habM⟩ := Cond.instanceMethod_spec hinst
  obtain ⟨methM', cM, hmethM', -, -, -, -, -, -, hsigM⟩ := Cond.code_spec hnamed hcode
  cases hmethM.symm.trans hmethM'
  obtain ⟨c2, r2, m2, q1, q2, q3, q4, kP, hkP, hkPi⟩ := Cond.selects_spec hsel
  cases hcls.symm.trans q1
  cases (State.methodFound?_of_named hnamed hy).symm.trans q2
  cases hnamed.symm.trans q3
  have hselP : selectMethod e.platform s.vm cellB.cls mk = .method mk := by rw [Launch.admits_selectMethod X.admits]; exact q4
  obtain ⟨vm₁, X₁, hstep₁⟩ := X.invokevirtual hexec hown hlink hnamed hmethM hstM hkP hkPi hy (a := b) (cell := cellB) hcell
    (fun z h => by rw [h] at hobj; cases hobj) hselP hmethM habM hkP hkPi (g := g) hg (argsL := argsL) (rest := rest) (hlen _ hsigM) hstack hdg
  rcases hK m meth c ⟨T.setVm vm₁, locs, cells, slots⟩ { g with stack := rest } (.invokevirtual index) mk (Value.ref b :: argsL).toArray X₁ hg hsize hdg hW (X₁.named hnamed) (hpre vm₁ X₁.warmed) with ⟨v, B, X', hpost, hsteps⟩ | ⟨q, B, X', hpost, hsteps⟩
  · exact Or.inl ⟨v, vm₁, B, X₁.warmed, X', hpost, fun target h => hstep₁ _ fun acts => by rw [doInvoke_state]; exact hsteps.trans h⟩
  · exact Or.inr ⟨q, vm₁, B, X₁.warmed, X', hpost, hstep₁ _ fun acts => by rw [doInvoke_state]; exact hsteps⟩
theorem vx_callS (X : Stand p l e R s m args below meth c T locs cells slots) (hexec : p.tables.exec = Jvm.exec) {own : String} {index : Nat} {y : MethodName} {bytes : ByteArray} {maxL : Nat} {ret : Option FieldType}
    (hown : s.vm.findClass own = some m.cls) (hlink : (Cond.methodLink own index y).before args s = true) (hstat : (Cond.static y).before args s = true) (hinit : (Cond.initialized y.cls).before args s = true)
    (hcode : (Cond.code y bytes maxL ret).before args s = true) (hy : y.cls ≠ "java/lang/invoke/MethodHandle" ∧ y.cls ≠ "java/lang/invoke/VarHandle")
    {W9 : Nat} {Pre : Pt → Array Value → Prop} {Post : Pt → Array Value → Option Value → Pt → Prop} {PostX : Pt → Array Value → Addr → Pt → Prop} (hK : vx_Back l R p e below s args y 3 W9 Pre Post PostX)
    {g : JFrame} (hg : g.method = m) (hsize : g.locals.size = c.maxLocals) {argsL rest : List Value} (hlen : ∀ sig, parseMethodDescriptor y.desc = some sig → argsL.length = sig.parameters.length)
    (hstack : g.stack = argsL.reverse ++ rest) (hW : 2 * g.monitorRoom + (rest.map fun v => v.category).sum ≤ W9) (hdg : decode c.code g.pc = .ok (.invokestatic index, 3))
    (hpre : ∀ vm₁, s.WarmedH vm₁ → Pre ⟨T.setVm vm₁, locs, cells, slots⟩ argsL.toArray) :
    (∃ (v : Option Value) (vm₁ : Vm) (B : Pt), s.WarmedH vm₁ ∧ Stand p l e R s m args below meth c B.U B.locs B.cells B.slots ∧ Post ⟨T.setVm vm₁, locs, cells, slots⟩ argsL.toArray v B ∧
      ∀ target, Steps p.tables e below (B.U.setTop { g with pc := g.pc + 3, stack := v.toList ++ rest }) target → Steps p.tables e below (T.setTop g) target) ∨
    (∃ (q : Addr) (vm₁ : Vm) (B : Pt), s.WarmedH vm₁ ∧ Stand p l e R s m args below meth c B.U B.locs B.cells B.slots ∧ PostX ⟨T.setVm vm₁, locs, cells, slots⟩ argsL.toArray q B ∧
      Steps p.tables e below (T.setTop g) ((B.U.setTop { g with stack := rest }).pushFrame (.throwing q))) := by
  obtain ⟨mk, hnamed⟩ := Cond.code_named hcode
  obtain ⟨methM, cM, hmethM, -, -, -, -, -, -, hsigM⟩ := Cond.code_spec hnamed hcode
  have hstatic : methM.isStatic = true := Cond.static_spec hnamed hmethM hstat
  obtain ⟨kP, hkP, -⟩ := className_of_methodNamed hnamed
  have hinitP : kP.init = .initialized := Cond.initialized_spec (findClass_of_methodNamed hnamed) hkP hinit
  obtain ⟨vm₁, X₁, hstep₁⟩ := X.invokestatic hexec hown hlink hnamed hmethM hstatic hkP hinitP hy (g := g) hg (argsL := argsL) (rest := rest) (hlen _ hsigM) hstack hdg
  rcases hK m meth c ⟨T.setVm vm₁, locs, cells, slots⟩ { g with stack := rest } (.invokestatic index) mk argsL.toArray X₁ hg hsize hdg hW (X₁.named hnamed) (hpre vm₁ X₁.warmed) with ⟨v, B, X', hpost, hsteps⟩ | ⟨q, B, X', hpost, hsteps⟩
  · exact Or.inl ⟨v, vm₁, B, X₁.warmed, X', hpost, fun target h => hstep₁ _ fun acts => by rw [doInvoke_state]; exact hsteps.trans h⟩
  · exact Or.inr ⟨q, vm₁, B, X₁.warmed, X', hpost, hstep₁ _ fun acts => by rw [doInvoke_state]; exact hsteps⟩
end Calls
theorem vx_cls {s : State} {T : State} {vm₁ : Vm} {E : String} {k : ClassId} (hW : s.WarmedH vm₁) (h : (T.setVm vm₁).vm.findClass E = some k) : s.vm.findClass E = some k := by
  have h1 : vm₁.findClass E = some k := h
  rw [hW.alike.findClass] at h1
  exact h1
/-- the method's frame g, with q thrown over it -/
def vx_W (p : Program) (l : Launch) (e : Env) (R : Room) (s : State) (m : MethodId) (args : Array Value) (below : List Frame) (meth : Method) (c : Code) (H : Heap) (locs : List Loc) (cells slots : Nat) (Q : State → Prop) (g : JFrame) (q : Addr) : Prop :=
  ∀ T : State, T.heap = H → Stand p l e R s m args below meth c T locs cells slots → ∃ t, Steps p.tables e below ((T.setTop g).pushFrame (.throwing q)) t ∧ Q t
def vx_Run (p : Program) (l : Launch) (e : Env) (R : Room) (s : State) (m : MethodId) (args : Array Value) (below : List Frame) (meth : Method) (c : Code) (H : Heap) (locs : List Loc) (cells slots mc ms : Nat) (g : JFrame) (rest : List Value) (Qa : State → Outcome → State → Prop) (XC : String → State → State → Prop) (free : Addr → Prop) : Prop :=
  ∀ T : State, T.heap = H → Stand p l e R s m args below meth c T locs cells slots →
    (∃ (v : Option Value) (st₀ t T' : State) (L : List Loc), st₀.heap = H ∧ Stand p l e R s m args below meth c T' (locs ++ L) (cells + mc) (slots + ms) ∧ (∀ q ∈ L, free q.base) ∧ T'.heap = t.heap ∧ T'.vm = t.vm ∧ Qa st₀ (.returned v) t ∧
      Goes p e below T g T' { g with pc := g.pc + 3, stack := v.toList ++ rest }) ∨
    (∃ (q : Addr) (st₀ t T' : State) (L : List Loc) (E : String) (ce : Cell), st₀.heap = H ∧ Stand p l e R s m args below meth c T' (locs ++ L) (cells + mc) (slots + ms) ∧ (∀ z ∈ L, free z.base) ∧ T'.heap = t.heap ∧ T'.vm = t.vm ∧ XC E st₀ t ∧ t.heap[q]? = some ce ∧ ce.vm = .none ∧ s.vm.findClass E = some ce.cls ∧
      Steps p.tables e below (T.setTop g) ((T'.setTop { g with stack := rest }).pushFrame (.throwing q)))
def vx_X {S : Type} (px : S → Prop) (B : String → S → State → Prop) (A : Nat → Prop) : String → State → State → Prop := fun E st t => ∃ u : S, px u ∧ B E u t ∧ va_F A st t
section Runs
variable {p : Program} {l : Launch} {e : Env} {R : Room} {s : State} {m : MethodId} {args : Array Value} {below : List Frame} {meth : Method} {c : Code} {H : Heap} {locs : List Loc} {cells slots : Nat}
variable {y : MethodName} {bytes cc : ByteArray} {maxL nL mc ms n index : Nat} {ret : Option FieldType} {ws : List Cond} {rm : Room} {Pc : Array Value → State → Prop} {Qc : Array Value → State → Outcome → State → Prop} {XC : String → State → State → Prop} {free : Addr → Prop} {Ts : List Cond} {own C : String} {b : Addr} {As rest : List Value} {g : JFrame}
theorem vx_callBack (cb : CallB R s args own index y bytes maxL ret ws rm mc ms n) (hM : vx_Met l y ws rm Pc Qc XC mc ms free) (hbl : FrameBlind Pc) : vx_Back l R p e below s args y 3 8 (PreOf R mc ms Pc) (PostOf Qc mc ms free) (vx_Post XC mc ms free) := by
  obtain ⟨hrc, hrs, hfr, hlo, hws, hcw, -, hini, -⟩ := cb
  exact vx_back (bytes := bytes) (maxL := maxL) (ret := ret) hM hbl hrc hrs hfr hlo hws hcw (fun a' U hW => word_at hW (Or.inl (by first | rfl | simp [Cond.onTables, Cond.keeps, Cond.steady])) hini)
theorem vx_runV (S : CallFix p m c cc nL s args Ts own) (hM : vx_Met l y ws rm Pc Qc XC mc ms free) (cw : CallW R s args own C index y bytes maxL ret ws rm mc ms n) (hp : PreV s H C b Pc As)
    (hg : g.method = m) (hn : As.length = n) (hsize : g.locals.size = nL) (hstack : g.stack = As.reverse ++ .ref b :: rest) (hW : 2 * g.monitorRoom + (rest.map fun v => v.category).sum ≤ 8) (hdg : decode cc g.pc = .ok (.invokevirtual index, 3)) (hf : cells + mc ≤ R.cells ∧ slots + ms ≤ R.slots) :
    vx_Run p l e R s m args below meth c H locs cells slots mc ms g rest (Qc (Value.ref b :: As).toArray) XC free := by
  have hK : vx_Back l R p e below s args y 3 8 (PreOf R mc ms Pc) (PostOf Qc mc ms free) (vx_Post XC mc ms free) := vx_callBack cw.1 hM hp.1
  obtain ⟨⟨-, -, -, -, -, -, hcode, -, hy, hlen, hl⟩, hin, hse⟩ := cw
  obtain ⟨hx, hb, hml, ho, -⟩ := S
  obtain ⟨-, ⟨cellB, hcB, hoB, hclB⟩, hPc⟩ := hp
  intro T hT X
  rcases vx_callV X hx (C := C) (bytes := bytes) (maxL := maxL) (ret := ret) ho hl hin hse hcode hy hK (by rw [hT]; exact hcB) hoB hclB hg (hsize.trans hml.symm) (argsL := As) (rest := rest) (fun sig h => hn.trans (hlen sig h)) hstack hW (by rw [hb]; exact hdg)
    (fun vm₁ hW₁ => ⟨hf.1, hf.2, hPc (T.setVm vm₁) hT hW₁⟩) with ⟨v, vm₁, ⟨U', l2, c2, s2⟩, hW₁, X', ⟨g', mk, t, L, e1, e2, hq, h1, hL, h2, h3⟩, st⟩ | ⟨q, vm₁, ⟨U', l2, c2, s2⟩, hW₁, X', ⟨g', mk, t, L, E, ce, e1, e2, hq, hce, hcv, hcl, h1, hL, h2, h3⟩, st⟩
  · dsimp only [Pt.U, Pt.locs, Pt.cells, Pt.slots] at X' e1 e2 h1 h2 h3 st
    subst h1; subst h2; subst h3
    exact Or.inl ⟨v, (T.setVm vm₁).calling g' mk (Value.ref b :: As).toArray, t, U', L, hT, X', hL, e1, e2, hq, st⟩
  · dsimp only [Pt.U, Pt.locs, Pt.cells, Pt.slots] at X' e1 e2 h1 h2 h3 st hcl
    subst h1; subst h2; subst h3
    exact Or.inr ⟨q, (T.setVm vm₁).calling g' mk (Value.ref b :: As).toArray, t, U', L, E, ce, hT, X', hL, e1, e2, hq, hce, hcv, vx_cls hW₁ hcl, st⟩
theorem vx_runS (S : CallFix p m c cc nL s args Ts own) (hM : vx_Met l y ws rm Pc Qc XC mc ms free) (cw : CallB R s args own index y bytes maxL ret ws rm mc ms n ∧ (Cond.static y).before args s = true) (hp : PreS s H Pc As)
    (hg : g.method = m) (hn : As.length = n) (hsize : g.locals.size = nL) (hstack : g.stack = As.reverse ++ rest) (hW : 2 * g.monitorRoom + (rest.map fun v => v.category).sum ≤ 8) (hdg : decode cc g.pc = .ok (.invokestatic index, 3)) (hf : cells + mc ≤ R.cells ∧ slots + ms ≤ R.slots) :
    vx_Run p l e R s m args below meth c H locs cells slots mc ms g rest (Qc As.toArray) XC free := by
  have hK : vx_Back l R p e below s args y 3 8 (PreOf R mc ms Pc) (PostOf Qc mc ms free) (vx_Post XC mc ms free) := vx_callBack cw.1 hM hp.1
  obtain ⟨⟨-, -, -, -, -, -, hcode, hini, hy, hlen, hl⟩, hstt⟩ := cw
  obtain ⟨hx, hb, hml, ho, -⟩ := S
  intro T hT X
  rcases vx_callS X hx (bytes := bytes) (maxL := maxL) (ret := ret) ho hl hstt hini hcode hy hK hg (hsize.trans hml.symm) (argsL := As) (rest := rest) (fun sig h => hn.trans (hlen sig h)) hstack hW (by rw [hb]; exact hdg)
    (fun vm₁ hW₁ => ⟨hf.1, hf.2, hp.2 (T.setVm vm₁) hT hW₁⟩) with ⟨v, vm₁, ⟨U', l2, c2, s2⟩, hW₁, X', ⟨g', mk, t, L, e1, e2, hq, h1, hL, h2, h3⟩, st⟩ | ⟨q, vm₁, ⟨U', l2, c2, s2⟩, hW₁, X', ⟨g', mk, t, L, E, ce, e1, e2, hq, hce, hcv, hcl, h1, hL, h2, h3⟩, st⟩
  · dsimp only [Pt.U, Pt.locs, Pt.cells, Pt.slots] at X' e1 e2 h1 h2 h3 st
    subst h1; subst h2; subst h3
    exact Or.inl ⟨v, (T.setVm vm₁).calling g' mk As.toArray, t, U', L, hT, X', hL, e1, e2, hq, st⟩
  · dsimp only [Pt.U, Pt.locs, Pt.cells, Pt.slots] at X' e1 e2 h1 h2 h3 st hcl
    subst h1; subst h2; subst h3
    exact Or.inr ⟨q, (T.setVm vm₁).calling g' mk As.toArray, t, U', L, E, ce, hT, X', hL, e1, e2, hq, hce, hcv, vx_cls hW₁ hcl, st⟩
end Runs
section Rows
variable {p : Program} {l : Launch} {e : Env} {R : Room} {s : State} {m : MethodId} {args : Array Value} {below : List Frame} {meth : Method} {c : Code} {H : Heap} {locs : List Loc} {cells slots : Nat} {Q : State → Prop}
variable {mc ms : Nat} {free : Addr → Prop} {A0 A1 : Nat → Prop} {H0 : Heap} {a : Array Value} {pc : Nat} {ls : Array Slot} {st0 rest : List Value}
theorem vx_keep {st₀ t T' : State} {L : List Loc} (h0 : st₀.heap = H) (e1 : T'.heap = t.heap) (hS : va_S A0 H0 H locs) (hA : ∀ q, q < H.size → A1 q → A0 q) (hf : ∀ q, free q → A0 q) (hL : ∀ q ∈ L, free q.base) (hF : va_F A1 st₀ t) :
    H.size ≤ T'.heap.size ∧ (∀ q : Nat, q < H.size → ¬ A1 q → T'.heap[q]? = H[q]?) ∧ va_S A0 H0 T'.heap (locs ++ L) := by
  obtain ⟨hz, hk⟩ := hF
  rw [h0] at hz hk
  exact ⟨by rw [e1]; exact hz, fun q h1 h2 => by rw [e1]; exact hk q h1 h2,
    ⟨Nat.le_trans hS.1 (by rw [e1]; exact hz), fun q h1 h2 => by rw [e1, hk q (Nat.lt_of_lt_of_le h1 hS.1) (fun z => h2 (hA q (Nat.lt_of_lt_of_le h1 hS.1) z))]; exact hS.2.1 q h1 h2, fun q hq => by
      rcases List.mem_append.mp hq with h | h
      · exact hS.2.2 q h
      · exact hf _ (hL q h)⟩⟩
theorem vx_calli {S SX : Type} {post : Int32 → S → Prop} {px : SX → Prop} {B : S → State → Prop} {BX : String → SX → State → Prop} {AX : Nat → Prop} (hr : vx_Run p l e R s m args below meth c H locs cells slots mc ms (F0 m pc ls st0) rest (va_Qi post B A1 a) (vx_X px BX AX) free) (hS : va_S A0 H0 H locs) (hA : ∀ q, q < H.size → A1 q → A0 q) (hf : ∀ q, free q → A0 q) (hAX : ∀ q, q < H.size → AX q → A0 q)
    (kx : ∀ (E : String) (ce : Cell) (q9 : Addr) (u : SX) (t : State) (H1 : Heap) (locs1 : List Loc), t.heap = H1 → s.vm.Alike t.vm → px u → BX E u t → H.size ≤ H1.size → (∀ q : Nat, q < H.size → ¬ AX q → H1[q]? = H[q]?) → va_S A0 H0 H1 locs1 → H1[q9]? = some ce → ce.vm = .none → s.vm.findClass E = some ce.cls → vx_W p l e R s m args below meth c H1 locs1 (cells + mc) (slots + ms) Q (F0 m pc ls rest) q9)
    (kk : ∀ (r : Int32) (u : S) (t : State) (H1 : Heap) (locs1 : List Loc), t.heap = H1 → s.vm.Alike t.vm → post r u → B u t → H.size ≤ H1.size → (∀ q : Nat, q < H.size → ¬ A1 q → H1[q]? = H[q]?) → va_S A0 H0 H1 locs1 → W p l e R s m args below meth c H1 locs1 (cells + mc) (slots + ms) Q (F0 m (pc + 3) ls (.int r :: rest))) : W p l e R s m args below meth c H locs cells slots Q (F0 m pc ls st0) := by
  intro T hT X
  rcases hr T hT X with ⟨v, st₀, t, T', L, h0, X', hL, e1, e2, ⟨⟨r, u, hv, hp, hb⟩, hF⟩, st⟩ | ⟨q, st₀, t, T', L, E, ce, h0, X', hL, e1, e2, ⟨u, hp, hb, hF⟩, hce, hcv, hcl, st⟩
  · cases hv
    obtain ⟨k1, k2, k3⟩ := vx_keep h0 e1 hS hA hf hL hF
    obtain ⟨t2, a1, b1⟩ := kk r u t T'.heap (locs ++ L) e1.symm (by rw [← e2]; exact X'.warmed.alike) hp hb k1 k2 k3 T' rfl X'
    exact ⟨t2, st t2 a1, b1⟩
  · obtain ⟨k1, k2, k3⟩ := vx_keep h0 e1 hS hAX hf hL hF
    obtain ⟨t2, a1, b1⟩ := kx E ce q u t T'.heap (locs ++ L) e1.symm (by rw [← e2]; exact X'.warmed.alike) hp hb k1 k2 k3 (by rw [e1]; exact hce) hcv hcl T' rfl X'
    exact ⟨t2, st.trans a1, b1⟩
theorem vx_calll {S SX : Type} {post : Int64 → S → Prop} {px : SX → Prop} {B : S → State → Prop} {BX : String → SX → State → Prop} {AX : Nat → Prop} (hr : vx_Run p l e R s m args below meth c H locs cells slots mc ms (F0 m pc ls st0) rest (va_Ql post B A1 a) (vx_X px BX AX) free) (hS : va_S A0 H0 H locs) (hA : ∀ q, q < H.size → A1 q → A0 q) (hf : ∀ q, free q → A0 q) (hAX : ∀ q, q < H.size → AX q → A0 q)
    (kx : ∀ (E : String) (ce : Cell) (q9 : Addr) (u : SX) (t : State) (H1 : Heap) (locs1 : List Loc), t.heap = H1 → s.vm.Alike t.vm → px u → BX E u t → H.size ≤ H1.size → (∀ q : Nat, q < H.size → ¬ AX q → H1[q]? = H[q]?) → va_S A0 H0 H1 locs1 → H1[q9]? = some ce → ce.vm = .none → s.vm.findClass E = some ce.cls → vx_W p l e R s m args below meth c H1 locs1 (cells + mc) (slots + ms) Q (F0 m pc ls rest) q9)
    (kk : ∀ (r : Int64) (u : S) (t : State) (H1 : Heap) (locs1 : List Loc), t.heap = H1 → s.vm.Alike t.vm → post r u → B u t → H.size ≤ H1.size → (∀ q : Nat, q < H.size → ¬ A1 q → H1[q]? = H[q]?) → va_S A0 H0 H1 locs1 → W p l e R s m args below meth c H1 locs1 (cells + mc) (slots + ms) Q (F0 m (pc + 3) ls (.long r :: rest))) : W p l e R s m args below meth c H locs cells slots Q (F0 m pc ls st0) := by
  intro T hT X
  rcases hr T hT X with ⟨v, st₀, t, T', L, h0, X', hL, e1, e2, ⟨⟨r, u, hv, hp, hb⟩, hF⟩, st⟩ | ⟨q, st₀, t, T', L, E, ce, h0, X', hL, e1, e2, ⟨u, hp, hb, hF⟩, hce, hcv, hcl, st⟩
  · cases hv
    obtain ⟨k1, k2, k3⟩ := vx_keep h0 e1 hS hA hf hL hF
    obtain ⟨t2, a1, b1⟩ := kk r u t T'.heap (locs ++ L) e1.symm (by rw [← e2]; exact X'.warmed.alike) hp hb k1 k2 k3 T' rfl X'
    exact ⟨t2, st t2 a1, b1⟩
  · obtain ⟨k1, k2, k3⟩ := vx_keep h0 e1 hS hAX hf hL hF
    obtain ⟨t2, a1, b1⟩ := kx E ce q u t T'.heap (locs ++ L) e1.symm (by rw [← e2]; exact X'.warmed.alike) hp hb k1 k2 k3 (by rw [e1]; exact hce) hcv hcl T' rfl X'
    exact ⟨t2, st.trans a1, b1⟩
theorem vx_callf {S SX : Type} {post : UInt32 → S → Prop} {px : SX → Prop} {B : S → State → Prop} {BX : String → SX → State → Prop} {AX : Nat → Prop} (hr : vx_Run p l e R s m args below meth c H locs cells slots mc ms (F0 m pc ls st0) rest (va_Qf post B A1 a) (vx_X px BX AX) free) (hS : va_S A0 H0 H locs) (hA : ∀ q, q < H.size → A1 q → A0 q) (hf : ∀ q, free q → A0 q) (hAX : ∀ q, q < H.size → AX q → A0 q)
    (kx : ∀ (E : String) (ce : Cell) (q9 : Addr) (u : SX) (t : State) (H1 : Heap) (locs1 : List Loc), t.heap = H1 → s.vm.Alike t.vm → px u → BX E u t → H.size ≤ H1.size → (∀ q : Nat, q < H.size → ¬ AX q → H1[q]? = H[q]?) → va_S A0 H0 H1 locs1 → H1[q9]? = some ce → ce.vm = .none → s.vm.findClass E = some ce.cls → vx_W p l e R s m args below meth c H1 locs1 (cells + mc) (slots + ms) Q (F0 m pc ls rest) q9)
    (kk : ∀ (r : UInt32) (u : S) (t : State) (H1 : Heap) (locs1 : List Loc), t.heap = H1 → s.vm.Alike t.vm → post r u → B u t → H.size ≤ H1.size → (∀ q : Nat, q < H.size → ¬ A1 q → H1[q]? = H[q]?) → va_S A0 H0 H1 locs1 → W p l e R s m args below meth c H1 locs1 (cells + mc) (slots + ms) Q (F0 m (pc + 3) ls (.float r :: rest))) : W p l e R s m args below meth c H locs cells slots Q (F0 m pc ls st0) := by
  intro T hT X
  rcases hr T hT X with ⟨v, st₀, t, T', L, h0, X', hL, e1, e2, ⟨⟨r, u, hv, hp, hb⟩, hF⟩, st⟩ | ⟨q, st₀, t, T', L, E, ce, h0, X', hL, e1, e2, ⟨u, hp, hb, hF⟩, hce, hcv, hcl, st⟩
  · cases hv
    obtain ⟨k1, k2, k3⟩ := vx_keep h0 e1 hS hA hf hL hF
    obtain ⟨t2, a1, b1⟩ := kk r u t T'.heap (locs ++ L) e1.symm (by rw [← e2]; exact X'.warmed.alike) hp hb k1 k2 k3 T' rfl X'
    exact ⟨t2, st t2 a1, b1⟩
  · obtain ⟨k1, k2, k3⟩ := vx_keep h0 e1 hS hAX hf hL hF
    obtain ⟨t2, a1, b1⟩ := kx E ce q u t T'.heap (locs ++ L) e1.symm (by rw [← e2]; exact X'.warmed.alike) hp hb k1 k2 k3 (by rw [e1]; exact hce) hcv hcl T' rfl X'
    exact ⟨t2, st.trans a1, b1⟩
theorem vx_calld {S SX : Type} {post : UInt64 → S → Prop} {px : SX → Prop} {B : S → State → Prop} {BX : String → SX → State → Prop} {AX : Nat → Prop} (hr : vx_Run p l e R s m args below meth c H locs cells slots mc ms (F0 m pc ls st0) rest (va_Qd post B A1 a) (vx_X px BX AX) free) (hS : va_S A0 H0 H locs) (hA : ∀ q, q < H.size → A1 q → A0 q) (hf : ∀ q, free q → A0 q) (hAX : ∀ q, q < H.size → AX q → A0 q)
    (kx : ∀ (E : String) (ce : Cell) (q9 : Addr) (u : SX) (t : State) (H1 : Heap) (locs1 : List Loc), t.heap = H1 → s.vm.Alike t.vm → px u → BX E u t → H.size ≤ H1.size → (∀ q : Nat, q < H.size → ¬ AX q → H1[q]? = H[q]?) → va_S A0 H0 H1 locs1 → H1[q9]? = some ce → ce.vm = .none → s.vm.findClass E = some ce.cls → vx_W p l e R s m args below meth c H1 locs1 (cells + mc) (slots + ms) Q (F0 m pc ls rest) q9)
    (kk : ∀ (r : UInt64) (u : S) (t : State) (H1 : Heap) (locs1 : List Loc), t.heap = H1 → s.vm.Alike t.vm → post r u → B u t → H.size ≤ H1.size → (∀ q : Nat, q < H.size → ¬ A1 q → H1[q]? = H[q]?) → va_S A0 H0 H1 locs1 → W p l e R s m args below meth c H1 locs1 (cells + mc) (slots + ms) Q (F0 m (pc + 3) ls (.double r :: rest))) : W p l e R s m args below meth c H locs cells slots Q (F0 m pc ls st0) := by
  intro T hT X
  rcases hr T hT X with ⟨v, st₀, t, T', L, h0, X', hL, e1, e2, ⟨⟨r, u, hv, hp, hb⟩, hF⟩, st⟩ | ⟨q, st₀, t, T', L, E, ce, h0, X', hL, e1, e2, ⟨u, hp, hb, hF⟩, hce, hcv, hcl, st⟩
  · cases hv
    obtain ⟨k1, k2, k3⟩ := vx_keep h0 e1 hS hA hf hL hF
    obtain ⟨t2, a1, b1⟩ := kk r u t T'.heap (locs ++ L) e1.symm (by rw [← e2]; exact X'.warmed.alike) hp hb k1 k2 k3 T' rfl X'
    exact ⟨t2, st t2 a1, b1⟩
  · obtain ⟨k1, k2, k3⟩ := vx_keep h0 e1 hS hAX hf hL hF
    obtain ⟨t2, a1, b1⟩ := kx E ce q u t T'.heap (locs ++ L) e1.symm (by rw [← e2]; exact X'.warmed.alike) hp hb k1 k2 k3 (by rw [e1]; exact hce) hcv hcl T' rfl X'
    exact ⟨t2, st.trans a1, b1⟩
theorem vx_callv {S SX : Type} {post : S → Prop} {px : SX → Prop} {B : S → State → Prop} {BX : String → SX → State → Prop} {AX : Nat → Prop} (hr : vx_Run p l e R s m args below meth c H locs cells slots mc ms (F0 m pc ls st0) rest (va_Qv post B A1 a) (vx_X px BX AX) free) (hS : va_S A0 H0 H locs) (hA : ∀ q, q < H.size → A1 q → A0 q) (hf : ∀ q, free q → A0 q) (hAX : ∀ q, q < H.size → AX q → A0 q)
    (kx : ∀ (E : String) (ce : Cell) (q9 : Addr) (u : SX) (t : State) (H1 : Heap) (locs1 : List Loc), t.heap = H1 → s.vm.Alike t.vm → px u → BX E u t → H.size ≤ H1.size → (∀ q : Nat, q < H.size → ¬ AX q → H1[q]? = H[q]?) → va_S A0 H0 H1 locs1 → H1[q9]? = some ce → ce.vm = .none → s.vm.findClass E = some ce.cls → vx_W p l e R s m args below meth c H1 locs1 (cells + mc) (slots + ms) Q (F0 m pc ls rest) q9)
    (kk : ∀ (u : S) (t : State) (H1 : Heap) (locs1 : List Loc), t.heap = H1 → s.vm.Alike t.vm → post u → B u t → H.size ≤ H1.size → (∀ q : Nat, q < H.size → ¬ A1 q → H1[q]? = H[q]?) → va_S A0 H0 H1 locs1 → W p l e R s m args below meth c H1 locs1 (cells + mc) (slots + ms) Q (F0 m (pc + 3) ls (rest))) : W p l e R s m args below meth c H locs cells slots Q (F0 m pc ls st0) := by
  intro T hT X
  rcases hr T hT X with ⟨v, st₀, t, T', L, h0, X', hL, e1, e2, ⟨⟨u, hv, hp, hb⟩, hF⟩, st⟩ | ⟨q, st₀, t, T', L, E, ce, h0, X', hL, e1, e2, ⟨u, hp, hb, hF⟩, hce, hcv, hcl, st⟩
  · cases hv
    obtain ⟨k1, k2, k3⟩ := vx_keep h0 e1 hS hA hf hL hF
    obtain ⟨t2, a1, b1⟩ := kk u t T'.heap (locs ++ L) e1.symm (by rw [← e2]; exact X'.warmed.alike) hp hb k1 k2 k3 T' rfl X'
    exact ⟨t2, st t2 a1, b1⟩
  · obtain ⟨k1, k2, k3⟩ := vx_keep h0 e1 hS hAX hf hL hF
    obtain ⟨t2, a1, b1⟩ := kx E ce q u t T'.heap (locs ++ L) e1.symm (by rw [← e2]; exact X'.warmed.alike) hp hb k1 k2 k3 (by rw [e1]; exact hce) hcv hcl T' rfl X'
    exact ⟨t2, st.trans a1, b1⟩
/-- caught by the row x of this method's table; the rows ahead don't take it -/
theorem vx_catch {own name : String} {E : String} {ce : Cell} {q : Addr} (hown : s.vm.findClass own = some m.cls) (pre : List ExceptionTableEntry) (x : ExceptionTableEntry) (suf : List ExceptionTableEntry) (hsplit : c.exceptionTable.toList = pre ++ x :: suf)
    (hpass : ∀ z ∈ pre, covers z pc = false ∨ (z.catchType ≠ 0 ∧ ∃ nm : String, (Cond.classLink own z.catchType nm).before args s = true ∧ va_Nc E nm s)) (hx : covers x pc = true) (h0 : x.catchType ≠ 0)
    (hlink : (Cond.classLink own x.catchType name).before args s = true) (hcast : (Cond.castable E name).before args s = true) (hcell : H[q]? = some ce) (hv : ce.vm = .none) (hcl : s.vm.findClass E = some ce.cls)
    (kk : W p l e R s m args below meth c H locs cells slots Q (F0 m x.handlerPc ls [.ref q])) : vx_W p l e R s m args below meth c H locs cells slots Q (F0 m pc ls rest) q := by
  intro T hT X
  have hpl : e.platform.magicAccessors = ({} : Platform).magicAccessors := by rw [X.admits.platform]
  obtain ⟨c3, c4, hc3, hc4, hasg⟩ := Cond.castable_spec hcast
  cases Option.some.inj (hc3.symm.trans hcl)
  obtain ⟨c5, hc5, hcl5⟩ := Cond.classLink_spec hown hlink e.platform hpl
  cases Option.some.inj (hc4.symm.trans hc5)
  obtain ⟨vm', X', st⟩ := X.thenCaughtThrough q (g := F0 m pc ls rest) rfl (Steps.refl _) (by rw [hT]; exact hcell) (by rw [hv]; rfl) (by obtain ⟨k9, h9, -⟩ := Vm.findClass_spec hcl; exact ⟨k9, h9⟩) pre x suf hsplit
    (fun z hz => by
      rcases hpass z hz with h | ⟨hz0, nm, hl1, hn1⟩
      · exact Or.inl h
      · obtain ⟨c6, hc6, hcl6⟩ := Cond.classLink_spec hown hl1 e.platform hpl
        obtain ⟨a8, b8, h1, h2, h3⟩ := hn1
        cases Option.some.inj (h1.symm.trans hcl)
        cases Option.some.inj (h2.symm.trans hc6)
        exact Or.inr ⟨hz0, _, hcl6, h3⟩) hx (Or.inr ⟨h0, c4, hcl5, hasg⟩)
  obtain ⟨t, a1, b1⟩ := kk (T.setVm vm') hT X'
  exact ⟨t, st.trans a1, b1⟩
end Rows
section Ends
variable {p : Program} {l : Launch} {e : Env} {R : Room} {s : State} {m : MethodId} {args : Array Value} {below : List Frame} {meth : Method} {c : Code} {H : Heap} {locs : List Loc} {cells slots : Nat} {Q : State → Prop}
variable {mc ms : Nat} {free : Addr → Prop} {A0 A1 : Nat → Prop} {H0 : Heap} {a : Array Value} {ls : Array Slot} {st0 rest : List Value}
variable {Qc : Array Value → State → Outcome → State → Prop} {XC : String → State → State → Prop}
/-- what a body that may throw owes at its end -/
def vx_MQ (below : List Frame) (Qc : Array Value → State → Outcome → State → Prop) (XC : String → State → State → Prop) (a : Array Value) (s : State) (mc ms : Nat) (free : Addr → Prop) : State → Prop := fun t =>
  ∃ o, t.status = .running ∧ Ended t below o ∧ vx_Q Qc XC mc ms free a s o t
theorem vx_ret {g : JFrame} {mc ms : Nat} (k : W p l e R s m args below meth c H locs cells slots (MQ below Qc args s mc ms free) g) : W p l e R s m args below meth c H locs cells slots (vx_MQ below Qc XC args s mc ms free) g := by
  intro T hT X
  obtain ⟨t, a1, o, b1, b2, b3, b4⟩ := k T hT X
  exact ⟨t, a1, o, b1, b2, Or.inl ⟨b3, b4⟩⟩
/-- not caught here: it goes on to the caller -/
theorem vx_widen {g : JFrame} {q : Addr} {k n : Nat} (h1 : cells ≤ k) (h2 : slots ≤ n) (kk : vx_W p l e R s m args below meth c H locs k n Q g q) : vx_W p l e R s m args below meth c H locs cells slots Q g q := fun T hT X => kk T hT (stand_widen X h1 h2)
theorem vx_out {pc : Nat} {E : String} {ce : Cell} {q : Addr} {mc ms : Nat} (hout : ∀ x ∈ c.exceptionTable.toList, covers x pc = false) (hlocks : meth.locks = false) (hcell : H[q]? = some ce) (hv : ce.vm = .none) (hcl : s.vm.findClass E = some ce.cls)
    (hx : ∀ t : State, t.heap = H → s.vm.Alike t.vm → XC E s t) (hf : ∀ z ∈ locs, free z.base) (hc : cells ≤ mc) (hs : slots ≤ ms) :
    vx_W p l e R s m args below meth c H locs cells slots (vx_MQ below Qc XC args s mc ms free) (F0 m pc ls rest) q := by
  intro T hT X
  obtain ⟨st1, hrun, hend, hW, hsm⟩ := X.leaveThrown q (g := F0 m pc ls rest) rfl rfl rfl hout hlocks
  have hcell9 : (T.setFrames (.throwing q :: below)).heap[q]? = some ce := by
    show T.heap[q]? = some ce
    rw [hT]; exact hcell
  exact ⟨_, st1, .threw q, hrun, hend, Or.inr ⟨q, rfl, E, ce, locs, hx _ hT hW.alike, hcell9, hv, hcl, hW, hsm.mono hc hs, hf⟩⟩
theorem vx_frame {U : State} {k n : Nat} (h : s.sameButNew ({ U with vm := s.vm } : State) locs k n) : s.heap.size ≤ U.heap.size ∧ ∀ q : Nat, q < s.heap.size → (∀ z ∈ locs, z.base ≠ q) → U.heap[q]? = s.heap[q]? := by
  obtain ⟨-, h2, -, -, -, h6⟩ := h
  refine ⟨h2, fun q hq hz => ?_⟩
  obtain ⟨c9, e1, e2, e3, e4⟩ := h6 q _ (Array.getElem?_eq_getElem hq)
  have hs : c9.slots = (s.heap[q]).slots := Array.ext_getElem? fun i => e4 i fun hm => hz _ hm rfl
  have h9 : c9 = s.heap[q] := by
    rw [hs] at e2
    exact e2
  have e5 : U.heap[q]? = some c9 := e1
  rw [e5, h9, Array.getElem?_eq_getElem hq]
/-- the words of a throw but the four that speak of the heap -/
def vx_no (w : Cond) : Bool := decide (w ≠ .isRef (.static Bundle.tN "UNASSIGNED_STACK" Bundle.steD)) && decide (w ≠ .isRef (.static Bundle.tN "SUPPRESSED_SENTINEL" Bundle.listD)) && decide (w ≠ .laysStatic Bundle.tN "UNASSIGNED_STACK" Bundle.steD) && decide (w ≠ .laysStatic Bundle.tN "SUPPRESSED_SENTINEL" Bundle.listD)
def vx_at0 (own : String) (ic : Nat) (X : String) (names : List String) : List Cond := (Bundle.ownAtoms0 own ic X names).filter vx_no
def vx_atS (own : String) (ic : Nat) (X : String) (names : List String) : List Cond := (Bundle.ownAtoms own ic X names).filter vx_no
/-- a word that the tables alone decide, or a good one -/
def vx_ot (w : Cond) : Bool := w.onTables || goodWord w
theorem vx_ot_at {args a' : Array Value} {s U : State} {w : Cond} (hW : s.WarmedH U.vm) (hvm : s.vm = U.vm) (hg : vx_ot w = true) (h : w.before args s = true) : w.before a' U = true := by
  simp only [vx_ot, Bool.or_eq_true] at hg
  rcases hg with hg | hg
  · exact va_tabs hg hvm h
  · exact word_at hW (good_of_word hg) h
/-- a list's words: the good ones out of the method's own list, the others by premises of their own -/
theorem vx_hat {args : Array Value} {s : State} {L B : List Cond} (h1 : ∀ w ∈ L.filter goodWord, w.before args s = true) (h2 : ∀ w ∈ L.filter (fun w => !goodWord w), w ∈ B) (h3 : ∀ w ∈ B, w.before args s = true) : ∀ w ∈ L, w.before args s = true := by
  intro w hw
  by_cases g : goodWord w = true
  · exact h1 w (List.mem_filter.mpr ⟨hw, g⟩)
  · refine h3 w (h2 w (List.mem_filter.mpr ⟨hw, ?_⟩))
    show (!goodWord w) = true
    cases hgw : goodWord w
    · rfl
    · exact absurd hgw g
theorem vx_c {args : Array Value} {s : State} {w : Cond} {B : List Cond} (h : w.before args s = true) (t : ∀ w ∈ B, w.before args s = true) : ∀ w' ∈ w :: B, w'.before args s = true := fun w' h' => (List.mem_cons.mp h').elim (fun e => by rw [e]; exact h) (t w')
theorem vx_n {args : Array Value} {s : State} : ∀ w ∈ ([] : List Cond), w.before args s = true := fun _ h => nomatch h
theorem vx_own {args : Array Value} {s : State} {L : List Cond} (h1 : ∀ w ∈ L.filter vx_no, w.before args s = true)
    (hU : (Cond.isRef (.static Bundle.tN "UNASSIGNED_STACK" Bundle.steD)).before args s = true) (hN : (Cond.isRef (.static Bundle.tN "SUPPRESSED_SENTINEL" Bundle.listD)).before args s = true)
    (lU : (Cond.laysStatic Bundle.tN "UNASSIGNED_STACK" Bundle.steD).before args s = true) (lN : (Cond.laysStatic Bundle.tN "SUPPRESSED_SENTINEL" Bundle.listD).before args s = true) : ∀ w ∈ L, w.before args s = true := by
  intro w hw
  by_cases e1 : w = .isRef (.static Bundle.tN "UNASSIGNED_STACK" Bundle.steD)
  · rw [e1]; exact hU
  · by_cases e2 : w = .isRef (.static Bundle.tN "SUPPRESSED_SENTINEL" Bundle.listD)
    · rw [e2]; exact hN
    · by_cases e3 : w = .laysStatic Bundle.tN "UNASSIGNED_STACK" Bundle.steD
      · rw [e3]; exact lU
      · by_cases e4 : w = .laysStatic Bundle.tN "SUPPRESSED_SENTINEL" Bundle.listD
        · rw [e4]; exact lN
        · exact h1 w (List.mem_filter.mpr ⟨hw, by unfold vx_no; rw [decide_eq_true e1, decide_eq_true e2, decide_eq_true e3, decide_eq_true e4]; rfl⟩)
/-- where a static field lies, its class's statics cell in H -/
def vx_L (C n d : String) (A : Nat → Prop) (U : State) (H : Heap) : Prop := ∃ (c : ClassId) (k : Class) (i : Nat) (f : Field) (a : Nat) (cell : Cell), U.vm.findClass C = some c ∧ U.fieldFound? C n d = some (c, k, i, f) ∧ f.isStatic = true ∧ k.statics = some a ∧ H[a]? = some cell ∧ cell.vm.isStatics = true ∧ cell.cls = c ∧ f.slot < cell.slots.size ∧ k.staticTypes[f.slot]? = some f.type ∧ ¬ A a
theorem vx_L.moved {C n d : String} {A : Nat → Prop} {u U : State} {H : Heap} (hvm : u.vm.Alike U.vm) (h : vx_L C n d A u H) : vx_L C n d A U H := by
  obtain ⟨c, k, i, f, a, cell, h1, h2, h3, h4, h5, h6, h7, h8, h9, h10⟩ := h
  obtain ⟨k', hi', he⟩ := State.fieldFound?_setVm hvm h2
  exact ⟨c, k', i, f, a, cell, by rw [hvm.findClass]; exact h1, hi', h3, by rw [he]; exact h4, h5, h6, h7, h8, by rw [he]; exact h9, h10⟩
theorem vx_L.kept {C n d : String} {A : Nat → Prop} {U : State} {H H1 : Heap} (h : vx_L C n d A U H) (hq : ∀ a : Nat, a < H.size → ¬ A a → H1[a]? = H[a]?) : vx_L C n d A U H1 := by
  obtain ⟨c, k, i, f, a, cell, h1, h2, h3, h4, h5, h6, h7, h8, h9, h10⟩ := h
  exact ⟨c, k, i, f, a, cell, h1, h2, h3, h4, by rw [hq a (Array.getElem?_eq_some_iff.mp h5).1 h10]; exact h5, h6, h7, h8, h9, h10⟩
theorem vx_L.narrow {C n d : String} {A B : Nat → Prop} {U : State} {H : Heap} (h : vx_L C n d A U H) (hAB : ∀ q, B q → A q) : vx_L C n d B U H := by
  obtain ⟨c, k, i, f, a, cell, h1, h2, h3, h4, h5, h6, h7, h8, h9, h10⟩ := h
  exact ⟨c, k, i, f, a, cell, h1, h2, h3, h4, h5, h6, h7, h8, h9, fun z => h10 (hAB _ z)⟩
theorem vx_L.word {C n d : String} {A : Nat → Prop} {s : State} {args : Array Value} (h : vx_L C n d A s s.heap) : (Cond.laysStatic C n d).before args s = true := by
  obtain ⟨c, k, i, f, a, cell, h1, h2, h3, h4, h5, h6, h7, h8, h9, -⟩ := h
  show (Cond.laysStatic C n d).holds args s none s [] = true
  exact Cond.laysStatic_of h1 h2 h3 h4 h5 h6 h7 h8 h9
/-- .. and what it holds: null or some reference -/
def vx_Zq (C n d : String) (A : Nat → Prop) (U : State) (H : Heap) : Prop := va_Zq C n d A U H ∧ vx_L C n d A U H
theorem vx_Zq.moved {C n d : String} {A : Nat → Prop} {u U : State} {H : Heap} (hvm : u.vm.Alike U.vm) (h : vx_Zq C n d A u H) : vx_Zq C n d A U H := ⟨va_Zq.moved hvm h.1, vx_L.moved hvm h.2⟩
theorem vx_Zq.kept {C n d : String} {A : Nat → Prop} {U : State} {H H1 : Heap} (h : vx_Zq C n d A U H) (hq : ∀ a : Nat, a < H.size → ¬ A a → H1[a]? = H[a]?) : vx_Zq C n d A U H1 := ⟨va_Zq.kept h.1 hq, vx_L.kept h.2 hq⟩
theorem vx_Zq.narrow {C n d : String} {A B : Nat → Prop} {U : State} {H : Heap} (h : vx_Zq C n d A U H) (hAB : ∀ q, B q → A q) : vx_Zq C n d B U H := ⟨va_Zq.narrow h.1 hAB, vx_L.narrow h.2 hAB⟩
theorem vx_Zqof {args : Array Value} {s : State} {C n d : String} {A : Nat → Prop} (hl : (Cond.laysStatic C n d).before args s = true) (hini : (Cond.initialized C).before args s = true) (h : (Cond.isRef (.static C n d)).before args s = true) (hA : ∀ a : Nat, a < s.heap.size → ¬ A a) : vx_Zq C n d A s s.heap := by
  refine ⟨va_Zqof hl hini h hA, ?_⟩
  obtain ⟨c, k, i, f, a, cell, h1, h2, h3, h4, h5, h6, h7, h8, h9⟩ := Cond.laysStatic_spec hl
  exact ⟨c, k, i, f, a, cell, h1, h2, h3, h4, h5, h6, h7, h8, h9, hA a (Array.getElem?_eq_some_iff.mp h5).1⟩
theorem vx_isRef {C n d : String} {v : Value} {A : Nat → Prop} {s : State} {args : Array Value} (h : va_Z C n d v A s s.heap) (hv : v.isRef = true) : (Cond.isRef (.static C n d)).before args s = true := by
  obtain ⟨cf, kf, fi, f, a, cell, h1, h2, h3, h4, h5, h6, h7, -⟩ := h
  have he : (Term.static C n d).eval args s none [] s = some v := by
    simp [Term.eval, State.fieldNamed?, h1, h2, h4, h5, h6, h7]
  simp only [Cond.before, Cond.holds, Cond.value, he]
  cases v <;> simp_all [Value.isRef]
theorem vx_isRefq {C n d : String} {A : Nat → Prop} {s : State} {args : Array Value} (h : va_Zq C n d A s s.heap) : (Cond.isRef (.static C n d)).before args s = true := by
  rcases h with h | ⟨t, h⟩
  · exact vx_isRef h rfl
  · exact vx_isRef h rfl
/-- the same frame, seen from here: as if the method were called anew in this heap -/
theorem vx_rebase {T : State} (X : Stand p l e R s m args below meth c T locs cells slots) {R' : Room} (hf : R'.frames ≤ R.frames) (hl : R'.locals ≤ R.locals) (hc : cells + R'.cells ≤ R.cells) (hs : slots + R'.slots ≤ R.slots) :
    Stand p l e R' ((T.setVm s.vm).setFrames (.invoking m args :: below)) m args below meth c T [] 0 0 := by
  have htop : (T.setVm s.vm).topJava?.isSome := X.here.top
  have hF : ((T.setVm s.vm).setFrames (.invoking m args :: below)).frames = .invoking m args :: below := State.frames_setFrames _ (State.cur_lt_of_top htop)
  obtain ⟨g₀, hg0⟩ := Option.isSome_iff_exists.mp htop
  obtain ⟨r, hr⟩ := State.topJava?_eq_some.mp hg0
  have hl9 : e.platform.stackLimits (T.setVm s.vm).me = e.platform.stackLimits s.me := X.limits
  have hb9 : (T.setVm s.vm).me.stackBytes = s.me.stackBytes := X.bytes
  refine ⟨X.admits, X.cas, X.clock, hF, ?_, X.hears, X.method, X.code, X.here, X.tail, X.warmed, ?_, ?_, ?_⟩
  · have h := X.room
    have hU : ((T.setVm s.vm).setFrames (.invoking m args :: below)).localsInUse = s.localsInUse := by
      rw [State.localsInUse_invoking hF (meth := meth) (c := c) X.method X.code, State.localsInUse_invoking X.frames X.method X.code]
    simp only [State.hasRoom, Bool.and_eq_true, decide_eq_true_eq] at h ⊢
    obtain ⟨⟨⟨⟨h1, h2, h3, h4, h5, h6⟩, h7⟩, h8⟩, h9⟩ := h
    rw [X.frames, List.length_cons] at h2 h3
    have q1 := X.heapSize
    have q2 := X.used
    simp only [hF, hU, List.length_cons, State.stackLimits_setFrames, State.stackBytes_setFrames, hl9, hb9]
    refine ⟨⟨⟨⟨by omega, by omega, by omega, by omega, by omega, h6⟩, ?_⟩, ?_⟩, X.book⟩
    · show T.heap.size + R'.cells ≤ e.platform.maxCells
      omega
    · show T.slotsUsed + R'.slots ≤ e.platform.maxSlots
      omega
  · rw [State.stackLimits_setFrames]; rfl
  · rw [State.stackBytes_setFrames]; rfl
  · refine ⟨?_, Nat.le_refl _, Nat.le_refl _, ?_, ?_, fun a c9 h9 => ⟨c9, h9, rfl, rfl, fun _ _ => rfl⟩⟩
    · obtain ⟨t, ht, -⟩ := State.frames_cons hr
      show T.setVm s.vm = { ((T.setVm s.vm).setFrames (.invoking m args :: below)).setFrames (T.setVm s.vm).frames with heap := T.heap, slotsUsed := T.slotsUsed }
      rw [State.setFrames_setFrames, State.setFrames_self ht]
      rfl
    · show T.slotsUsed = T.slotsUsed + ((T.heap.toList.drop T.heap.size).map (·.slots.size)).sum
      rw [List.drop_eq_nil_of_le (Nat.le_of_eq Array.length_toList)]
      rfl
    · show ((T.heap.toList.drop T.heap.size).map (·.slots.size)).sum ≤ 0
      rw [List.drop_eq_nil_of_le (Nat.le_of_eq Array.length_toList)]
      exact Nat.le_refl _
/-- 'throw new E()': new; dup; invokespecial; athrow -/
theorem vx_throw0 {cc : ByteArray} {pc : Nat} (hexec : p.tables.exec = Jvm.exec) (hb : c.code = cc) (hl : l.stackTraces = false) {own cls : String} {names : List String} {ik ic mc ms : Nat} {A : Nat → Prop}
    (hown : s.vm.findClass own = some m.cls) (hcls : Bundle.fit cls = true) (hnames : ∀ n ∈ names, Bundle.fit n = true)
    (hk : (Cond.classLink own ik cls).before args s = true) (hini : (Cond.initialized cls).before args s = true) (hat : ∀ w ∈ vx_at0 own ic cls names, w.before args s = true)
    (hgood : ∀ w ∈ Cond.classLink own ik cls :: Cond.initialized cls :: vx_at0 own ic cls names, vx_ot w = true)
    (hU : vx_Zq Bundle.tN "UNASSIGNED_STACK" Bundle.steD A s s.heap) (hN : vx_Zq Bundle.tN "SUPPRESSED_SENTINEL" Bundle.listD A s s.heap) (hS : va_S A s.heap H locs) (hsize : ls.size = c.maxLocals)
    (d0 : decode cc pc = .ok (.new ik, 3)) (d3 : decode cc (pc + 3) = .ok (.dup, 1)) (d4 : decode cc (pc + 4) = .ok (.invokespecial ic, 3)) (d7 : decode cc (pc + 7) = .ok (.athrow, 1))
    (hout : ∀ x ∈ c.exceptionTable.toList, covers x (pc + 7) = false)
    (hRframes : names.length + 3 < R.frames) (hRlocals : (rest.map fun v => v.category).sum + (13 * (names.length + 1) + 42) ≤ R.locals) (hRcells : cells + 1 ≤ R.cells) (hRslots : slots + 6 ≤ R.slots) (hlocks : meth.locks = false)
    (hx : ∀ t : State, s.vm.Alike t.vm → H.size ≤ t.heap.size → (∀ q : Nat, q < H.size → t.heap[q]? = H[q]?) → XC cls s t)
    (hf : ∀ z ∈ locs, free z.base) (hc : cells + 1 ≤ mc) (hs : slots + 6 ≤ ms) :
    W p l e R s m args below meth c H locs cells slots (vx_MQ below Qc XC args s mc ms free) (F0 m pc ls rest) := by
  intro T hT X
  have htr : e.platform.stackTraces = false := (show e.platform.stackTraces = l.stackTraces by rw [X.admits.platform]).trans hl
  have Y := vx_rebase X (R' := { frames := R.frames, locals := R.locals, cells := 1, slots := 6 }) (Nat.le_refl _) (Nat.le_refl _) hRcells hRslots
  obtain ⟨s', hA⟩ : ∃ z, z = (T.setVm s.vm).setFrames (.invoking m args :: below) := ⟨_, rfl⟩
  rw [← hA] at Y
  have hvm : s'.vm = s.vm := by rw [hA]; rfl
  have hhp : s'.heap = H := by rw [hA]; exact hT
  have hW0 : s.WarmedH s'.vm := by rw [hvm]; exact State.WarmedH.refl s
  have hat' : ∀ w ∈ vx_at0 own ic cls names, w.before args s' = true := fun w hw => vx_ot_at hW0 hvm.symm (hgood w (List.mem_cons_of_mem _ (List.mem_cons_of_mem _ hw))) (hat w hw)
  have hk' : (Cond.classLink own ik cls).before args s' = true := vx_ot_at hW0 hvm.symm (hgood _ List.mem_cons_self) hk
  have hini' : (Cond.initialized cls).before args s' = true := vx_ot_at hW0 hvm.symm (hgood _ (List.mem_cons_of_mem _ List.mem_cons_self)) hini
  have hU' : vx_Zq Bundle.tN "UNASSIGNED_STACK" Bundle.steD A s' s'.heap := by rw [hhp]; exact vx_Zq.moved hW0.alike (hU.kept hS.2.1)
  have hN' : vx_Zq Bundle.tN "SUPPRESSED_SENTINEL" Bundle.listD A s' s'.heap := by rw [hhp]; exact vx_Zq.moved hW0.alike (hN.kept hS.2.1)
  have h : ∀ w ∈ Bundle.ownAtoms0 own ic cls names, w.before args s' = true := vx_own hat' (vx_isRefq hU'.1) (vx_isRefq hN'.1) hU'.2.word hN'.2.word
  have hown' : s'.vm.findClass own = some m.cls := by rw [hvm]; exact hown
  have hins : (Cond.instantiable cls 6).before args s' = true := h _ (by simp [Bundle.ownAtoms0])
  obtain ⟨vm₁, cX, kX, hfX, hkX, -, -, X₁, st1⟩ := Y.newCold hexec (own := own) (C := cls) (index := ik) (n := 6) hown' hk' hins hini'
    (g := F0 m pc ls rest) rfl (by rw [hb]; exact d0) (Nat.le_refl _) (Nat.le_refl _)
  generalize hT1 : (T.setVm vm₁).pushCell { cls := cX, slots := kX.instanceTypes.map defaultValue, vm := .none } = T1 at X₁ st1
  have hcat : (Value.ref T.heap.size).category = 1 := rfl
  have hcellA : T1.heap[T.heap.size]? = some (freshCell cX kX) := by rw [← hT1]; exact State.heap_pushCell_size _ _
  have d3' : decode c.code (pc + 3) = .ok (.dup, 1) := by rw [hb]; exact d3
  obtain ⟨U, hsteps, hrun, hend, hW, hsame, ce, hce, hO⟩ := X₁.ctorThrow0 hexec htr (own := own) (cls := cls) (names := names) (ic := ic) hown' hcls hnames h (fun x hx => nomatch hx) hfX hkX hcellA (by rw [hhp, hT]; exact Nat.le_refl _)
    (g := { method := m, pc := pc + 4, locals := ls, stack := .ref T.heap.size :: .ref T.heap.size :: rest, locked := none }) rfl hsize rfl rfl (rest := rest) rfl
    (by rw [hb]; exact d4) (by rw [hb]; exact d7) hout hRframes (by simp only [List.map_cons, List.sum_cons, hcat]; omega) hlocks
  obtain ⟨f1, f2⟩ := vx_frame hsame
  rw [hhp] at f1 f2
  have hWs : s.WarmedH U.vm := State.WarmedH.trans hW0 hW
  have hcl : s.vm.findClass cls = some ce.cls := by
    have h9 := hO.cls
    rw [hvm] at h9
    exact h9
  have hall : s.sameButNew ({ U with vm := s.vm } : State) locs mc ms := by
    subst hA
    obtain ⟨e1, e2⟩ := hsame
    rw [State.setFrames_setFrames] at e1
    have h2 : (T.setVm s.vm).sameButNew ({ U with vm := s.vm } : State) [] (0 + 1) (0 + 6) := ⟨e1, e2⟩
    have h3 := X.same.trans h2
    rw [List.append_nil] at h3
    exact h3.mono hc hs
  refine ⟨U, ?_, .threw T.heap.size, hrun, hend, Or.inr ⟨T.heap.size, rfl, cls, ce, locs, hx U hWs.alike f1 (fun q hq => f2 q hq (fun z hz => nomatch hz)), hce, hO.vm, hcl, hWs, hall, hf⟩⟩
  refine st1 _ ?_
  show Steps p.tables e below (T1.setTop { method := m, pc := pc + 3, locals := ls, stack := .ref T.heap.size :: rest, locked := none }) _
  jvm_step X₁.here [X₁.here.top, hexec, d3', Value.category]
  exact hsteps
/-- 'throw new E("text")': new; dup; ldc; invokespecial; athrow -/
theorem vx_throwS {cc : ByteArray} {pc : Nat} (hexec : p.tables.exec = Jvm.exec) (hb : c.code = cc) (hl : l.stackTraces = false) {own cls text : String} {names : List String} {ik is ic mc ms sa : Nat} {A : Nat → Prop}
    (hown : s.vm.findClass own = some m.cls) (hcls : Bundle.fit cls = true) (hnames : ∀ n ∈ names, Bundle.fit n = true)
    (hk : (Cond.classLink own ik cls).before args s = true) (hini : (Cond.initialized cls).before args s = true) (hstr : vk_R own is text sa s) (hat : ∀ w ∈ vx_atS own ic cls names, w.before args s = true)
    (hgood : ∀ w ∈ Cond.classLink own ik cls :: Cond.initialized cls :: vx_atS own ic cls names, vx_ot w = true)
    (hU : vx_Zq Bundle.tN "UNASSIGNED_STACK" Bundle.steD A s s.heap) (hN : vx_Zq Bundle.tN "SUPPRESSED_SENTINEL" Bundle.listD A s s.heap) (hS : va_S A s.heap H locs) (hsize : ls.size = c.maxLocals)
    (d0 : decode cc pc = .ok (.new ik, 3)) (d3 : decode cc (pc + 3) = .ok (.dup, 1)) (d4 : decode cc (pc + 4) = .ok (.ldc is, 2)) (d6 : decode cc (pc + 6) = .ok (.invokespecial ic, 3)) (d9 : decode cc (pc + 9) = .ok (.athrow, 1))
    (hout : ∀ x ∈ c.exceptionTable.toList, covers x (pc + 9) = false)
    (hRframes : names.length + 3 < R.frames) (hRlocals : (rest.map fun v => v.category).sum + (13 * (names.length + 1) + 43) ≤ R.locals) (hRcells : cells + 1 ≤ R.cells) (hRslots : slots + 6 ≤ R.slots) (hlocks : meth.locks = false)
    (hx : ∀ t : State, s.vm.Alike t.vm → H.size ≤ t.heap.size → (∀ q : Nat, q < H.size → t.heap[q]? = H[q]?) → XC cls s t)
    (hf : ∀ z ∈ locs, free z.base) (hc : cells + 1 ≤ mc) (hs : slots + 6 ≤ ms) :
    W p l e R s m args below meth c H locs cells slots (vx_MQ below Qc XC args s mc ms free) (F0 m pc ls rest) := by
  intro T hT X
  have htr : e.platform.stackTraces = false := (show e.platform.stackTraces = l.stackTraces by rw [X.admits.platform]).trans hl
  have Y := vx_rebase X (R' := { frames := R.frames, locals := R.locals, cells := 1, slots := 6 }) (Nat.le_refl _) (Nat.le_refl _) hRcells hRslots
  obtain ⟨s', hA⟩ : ∃ z, z = (T.setVm s.vm).setFrames (.invoking m args :: below) := ⟨_, rfl⟩
  rw [← hA] at Y
  have hvm : s'.vm = s.vm := by rw [hA]; rfl
  have hhp : s'.heap = H := by rw [hA]; exact hT
  have hW0 : s.WarmedH s'.vm := by rw [hvm]; exact State.WarmedH.refl s
  have hat' : ∀ w ∈ vx_atS own ic cls names, w.before args s' = true := fun w hw => vx_ot_at hW0 hvm.symm (hgood w (List.mem_cons_of_mem _ (List.mem_cons_of_mem _ hw))) (hat w hw)
  have hk' : (Cond.classLink own ik cls).before args s' = true := vx_ot_at hW0 hvm.symm (hgood _ List.mem_cons_self) hk
  have hini' : (Cond.initialized cls).before args s' = true := vx_ot_at hW0 hvm.symm (hgood _ (List.mem_cons_of_mem _ List.mem_cons_self)) hini
  have hU' : vx_Zq Bundle.tN "UNASSIGNED_STACK" Bundle.steD A s' s'.heap := by rw [hhp]; exact vx_Zq.moved hW0.alike (hU.kept hS.2.1)
  have hN' : vx_Zq Bundle.tN "SUPPRESSED_SENTINEL" Bundle.listD A s' s'.heap := by rw [hhp]; exact vx_Zq.moved hW0.alike (hN.kept hS.2.1)
  have h : ∀ w ∈ Bundle.ownAtoms own ic cls names, w.before args s' = true := vx_own hat' (vx_isRefq hU'.1) (vx_isRefq hN'.1) hU'.2.word hN'.2.word
  have hown' : s'.vm.findClass own = some m.cls := by rw [hvm]; exact hown
  have hins : (Cond.instantiable cls 6).before args s' = true := h _ (by simp [Bundle.ownAtoms])
  obtain ⟨vm₁, cX, kX, hfX, hkX, -, -, X₁, st1⟩ := Y.newCold hexec (own := own) (C := cls) (index := ik) (n := 6) hown' hk' hins hini'
    (g := F0 m pc ls rest) rfl (by rw [hb]; exact d0) (Nat.le_refl _) (Nat.le_refl _)
  generalize hT1 : (T.setVm vm₁).pushCell { cls := cX, slots := kX.instanceTypes.map defaultValue, vm := .none } = T1 at X₁ st1
  have hcat : (Value.ref T.heap.size).category = 1 := rfl
  have hcellA : T1.heap[T.heap.size]? = some (freshCell cX kX) := by rw [← hT1]; exact State.heap_pushCell_size _ _
  have d3' : decode c.code (pc + 3) = .ok (.dup, 1) := by rw [hb]; exact d3
  have d4' : decode c.code (pc + 4) = .ok (.ldc is, 2) := by rw [hb]; exact d4
  have hstr' : vk_R own is text sa s' := vk_R.warm hW0 hstr
  obtain ⟨U, hsteps, hrun, hend, hW, hsame, ce, hce, hO⟩ := X₁.ctorThrowS hexec htr (own := own) (cls := cls) (names := names) (ic := ic) hown' hcls hnames h (fun x hx => nomatch hx) hfX hkX hcellA (by rw [hhp, hT]; exact Nat.le_refl _) (msg := .ref sa) rfl
    (g := { method := m, pc := pc + 6, locals := ls, stack := .ref sa :: .ref T.heap.size :: .ref T.heap.size :: rest, locked := none }) rfl hsize rfl rfl (rest := rest) rfl
    (by rw [hb]; exact d6) (by rw [hb]; exact d9) hout hRframes (by simp only [List.map_cons, List.sum_cons, hcat]; omega) hlocks
  obtain ⟨f1, f2⟩ := vx_frame hsame
  rw [hhp] at f1 f2
  have hWs : s.WarmedH U.vm := State.WarmedH.trans hW0 hW
  have hcl : s.vm.findClass cls = some ce.cls := by
    have h9 := hO.cls
    rw [hvm] at h9
    exact h9
  have hall : s.sameButNew ({ U with vm := s.vm } : State) locs mc ms := by
    subst hA
    obtain ⟨e1, e2⟩ := hsame
    rw [State.setFrames_setFrames] at e1
    have h2 : (T.setVm s.vm).sameButNew ({ U with vm := s.vm } : State) [] (0 + 1) (0 + 6) := ⟨e1, e2⟩
    have h3 := X.same.trans h2
    rw [List.append_nil] at h3
    exact h3.mono hc hs
  refine ⟨U, ?_, .threw T.heap.size, hrun, hend, Or.inr ⟨T.heap.size, rfl, cls, ce, locs, hx U hWs.alike f1 (fun q hq => f2 q hq (fun z hz => nomatch hz)), hce, hO.vm, hcl, hWs, hall, hf⟩⟩
  refine st1 _ ?_
  show Steps p.tables e below (T1.setTop { method := m, pc := pc + 3, locals := ls, stack := .ref T.heap.size :: rest, locked := none }) _
  jvm_step X₁.here [X₁.here.top, hexec, d3', Value.category]
  exact X₁.ldcString hexec (own := own) (text := text) (index := is) (a := sa) hown' hstr'.1 hstr'.2
    (g := { method := m, pc := pc + 4, locals := ls, stack := .ref T.heap.size :: .ref T.heap.size :: rest, locked := none }) rfl d4' _ hsteps
/-- 'throw new E("text")', the text by a wide index -/
theorem vx_throwSW {cc : ByteArray} {pc : Nat} (hexec : p.tables.exec = Jvm.exec) (hb : c.code = cc) (hl : l.stackTraces = false) {own cls text : String} {names : List String} {ik is ic mc ms sa : Nat} {A : Nat → Prop}
    (hown : s.vm.findClass own = some m.cls) (hcls : Bundle.fit cls = true) (hnames : ∀ n ∈ names, Bundle.fit n = true)
    (hk : (Cond.classLink own ik cls).before args s = true) (hini : (Cond.initialized cls).before args s = true) (hstr : vk_R own is text sa s) (hat : ∀ w ∈ vx_atS own ic cls names, w.before args s = true)
    (hgood : ∀ w ∈ Cond.classLink own ik cls :: Cond.initialized cls :: vx_atS own ic cls names, vx_ot w = true)
    (hU : vx_Zq Bundle.tN "UNASSIGNED_STACK" Bundle.steD A s s.heap) (hN : vx_Zq Bundle.tN "SUPPRESSED_SENTINEL" Bundle.listD A s s.heap) (hS : va_S A s.heap H locs) (hsize : ls.size = c.maxLocals)
    (d0 : decode cc pc = .ok (.new ik, 3)) (d3 : decode cc (pc + 3) = .ok (.dup, 1)) (d4 : decode cc (pc + 4) = .ok (.ldc_w is, 3)) (d7 : decode cc (pc + 7) = .ok (.invokespecial ic, 3)) (d10 : decode cc (pc + 10) = .ok (.athrow, 1))
    (hout : ∀ x ∈ c.exceptionTable.toList, covers x (pc + 10) = false)
    (hRframes : names.length + 3 < R.frames) (hRlocals : (rest.map fun v => v.category).sum + (13 * (names.length + 1) + 43) ≤ R.locals) (hRcells : cells + 1 ≤ R.cells) (hRslots : slots + 6 ≤ R.slots) (hlocks : meth.locks = false)
    (hx : ∀ t : State, s.vm.Alike t.vm → H.size ≤ t.heap.size → (∀ q : Nat, q < H.size → t.heap[q]? = H[q]?) → XC cls s t)
    (hf : ∀ z ∈ locs, free z.base) (hc : cells + 1 ≤ mc) (hs : slots + 6 ≤ ms) :
    W p l e R s m args below meth c H locs cells slots (vx_MQ below Qc XC args s mc ms free) (F0 m pc ls rest) := by
  intro T hT X
  have htr : e.platform.stackTraces = false := (show e.platform.stackTraces = l.stackTraces by rw [X.admits.platform]).trans hl
  have Y := vx_rebase X (R' := { frames := R.frames, locals := R.locals, cells := 1, slots := 6 }) (Nat.le_refl _) (Nat.le_refl _) hRcells hRslots
  obtain ⟨s', hA⟩ : ∃ z, z = (T.setVm s.vm).setFrames (.invoking m args :: below) := ⟨_, rfl⟩
  rw [← hA] at Y
  have hvm : s'.vm = s.vm := by rw [hA]; rfl
  have hhp : s'.heap = H := by rw [hA]; exact hT
  have hW0 : s.WarmedH s'.vm := by rw [hvm]; exact State.WarmedH.refl s
  have hat' : ∀ w ∈ vx_atS own ic cls names, w.before args s' = true := fun w hw => vx_ot_at hW0 hvm.symm (hgood w (List.mem_cons_of_mem _ (List.mem_cons_of_mem _ hw))) (hat w hw)
  have hk' : (Cond.classLink own ik cls).before args s' = true := vx_ot_at hW0 hvm.symm (hgood _ List.mem_cons_self) hk
  have hini' : (Cond.initialized cls).before args s' = true := vx_ot_at hW0 hvm.symm (hgood _ (List.mem_cons_of_mem _ List.mem_cons_self)) hini
  have hU' : vx_Zq Bundle.tN "UNASSIGNED_STACK" Bundle.steD A s' s'.heap := by rw [hhp]; exact vx_Zq.moved hW0.alike (hU.kept hS.2.1)
  have hN' : vx_Zq Bundle.tN "SUPPRESSED_SENTINEL" Bundle.listD A s' s'.heap := by rw [hhp]; exact vx_Zq.moved hW0.alike (hN.kept hS.2.1)
  have h : ∀ w ∈ Bundle.ownAtoms own ic cls names, w.before args s' = true := vx_own hat' (vx_isRefq hU'.1) (vx_isRefq hN'.1) hU'.2.word hN'.2.word
  have hown' : s'.vm.findClass own = some m.cls := by rw [hvm]; exact hown
  have hins : (Cond.instantiable cls 6).before args s' = true := h _ (by simp [Bundle.ownAtoms])
  obtain ⟨vm₁, cX, kX, hfX, hkX, -, -, X₁, st1⟩ := Y.newCold hexec (own := own) (C := cls) (index := ik) (n := 6) hown' hk' hins hini'
    (g := F0 m pc ls rest) rfl (by rw [hb]; exact d0) (Nat.le_refl _) (Nat.le_refl _)
  generalize hT1 : (T.setVm vm₁).pushCell { cls := cX, slots := kX.instanceTypes.map defaultValue, vm := .none } = T1 at X₁ st1
  have hcat : (Value.ref T.heap.size).category = 1 := rfl
  have hcellA : T1.heap[T.heap.size]? = some (freshCell cX kX) := by rw [← hT1]; exact State.heap_pushCell_size _ _
  have d3' : decode c.code (pc + 3) = .ok (.dup, 1) := by rw [hb]; exact d3
  have d4' : decode c.code (pc + 4) = .ok (.ldc_w is, 3) := by rw [hb]; exact d4
  have hstr' : vk_R own is text sa s' := vk_R.warm hW0 hstr
  obtain ⟨U, hsteps, hrun, hend, hW, hsame, ce, hce, hO⟩ := X₁.ctorThrowS hexec htr (own := own) (cls := cls) (names := names) (ic := ic) hown' hcls hnames h (fun x hx => nomatch hx) hfX hkX hcellA (by rw [hhp, hT]; exact Nat.le_refl _) (msg := .ref sa) rfl
    (g := { method := m, pc := pc + 7, locals := ls, stack := .ref sa :: .ref T.heap.size :: .ref T.heap.size :: rest, locked := none }) rfl hsize rfl rfl (rest := rest) rfl
    (by rw [hb]; exact d7) (by rw [hb]; exact d10) hout hRframes (by simp only [List.map_cons, List.sum_cons, hcat]; omega) hlocks
  obtain ⟨f1, f2⟩ := vx_frame hsame
  rw [hhp] at f1 f2
  have hWs : s.WarmedH U.vm := State.WarmedH.trans hW0 hW
  have hcl : s.vm.findClass cls = some ce.cls := by
    have h9 := hO.cls
    rw [hvm] at h9
    exact h9
  have hall : s.sameButNew ({ U with vm := s.vm } : State) locs mc ms := by
    subst hA
    obtain ⟨e1, e2⟩ := hsame
    rw [State.setFrames_setFrames] at e1
    have h2 : (T.setVm s.vm).sameButNew ({ U with vm := s.vm } : State) [] (0 + 1) (0 + 6) := ⟨e1, e2⟩
    have h3 := X.same.trans h2
    rw [List.append_nil] at h3
    exact h3.mono hc hs
  refine ⟨U, ?_, .threw T.heap.size, hrun, hend, Or.inr ⟨T.heap.size, rfl, cls, ce, locs, hx U hWs.alike f1 (fun q hq => f2 q hq (fun z hz => nomatch hz)), hce, hO.vm, hcl, hWs, hall, hf⟩⟩
  refine st1 _ ?_
  show Steps p.tables e below (T1.setTop { method := m, pc := pc + 3, locals := ls, stack := .ref T.heap.size :: rest, locked := none }) _
  jvm_step X₁.here [X₁.here.top, hexec, d3', Value.category]
  exact X₁.ldcStringW hexec (own := own) (text := text) (index := is) (a := sa) hown' hstr'.1 hstr'.2
    (g := { method := m, pc := pc + 4, locals := ls, stack := .ref T.heap.size :: .ref T.heap.size :: rest, locked := none }) rfl d4' _ hsteps
end Ends
section Bodies
variable {l : Launch}
theorem vx_ofW {y : MethodName} {ws ws' : List Cond} {rm : Room} {Pc : Array Value → State → Prop} {Qc : Array Value → State → Outcome → State → Prop} {XC : String → State → State → Prop} {mc ms : Nat} {free : Addr → Prop} {cc : ByteArray} {maxL : Nat} {ret : Option FieldType}
    (hy : plainName y.cls = true) (hw : ws = Cond.code y cc maxL ret :: ws')
    (body : ∀ p e s m args below meth c s₁, BodyLoose p l y (headSpec ws rm) cc maxL ret e s m args below meth c s₁ → c.maxLocals = maxL → (∀ x ∈ c.exceptionTable.toList, False) → Pc args s →
      W p l e (headSpec ws rm).room s m args below meth c s.heap [] 0 0 (vx_MQ below Qc XC args s mc ms free) (entryFrame m args maxL)) : vx_Met l y ws rm Pc Qc XC mc ms free := by
  refine MetFree.of_bodyS (code := cc) (maxLocals := maxL) (ret := ret) hy ?_ ?_
  · intro args s m h hn
    obtain ⟨meth, c, h1, h2, h3, h4, h5, h6, -, -⟩ := Cond.code_spec hn (atoms_spec (ws := ws) h _ (by rw [hw]; exact List.mem_cons_self))
    exact ⟨meth, c, h1, h2, h3, h4, h5, h6⟩
  · intro p e s m args below meth c s₁ B hml hP _
    have hh0 : s₁.heap = s.heap := by rw [B.state]; rfl
    have ht : ∀ x ∈ c.exceptionTable.toList, False := by
      obtain ⟨meth9, c9, h1, h2, -, -, -, -, h7, -⟩ := Cond.code_spec B.named (atoms_spec (ws := ws) B.pre _ (by rw [hw]; exact List.mem_cons_self))
      cases Option.some.inj (h1.symm.trans B.method)
      cases Option.some.inj (h2.symm.trans (Stand.of_body B).code)
      intro x hx
      rw [Array.isEmpty_iff.mp h7] at hx
      cases hx
    obtain ⟨t, a1, o, b1, b2, b3⟩ := body p e s m args below meth c s₁ B hml ht hP s₁ hh0 (Stand.of_body B)
    exact ⟨t, o, a1, b1, b2, b3⟩
/-- the table of a body with handlers -/
theorem vx_table {p : Program} {x y : MethodName} {S : Spec} {cc bytes : ByteArray} {maxL maxL' : Nat} {ret ret' : Option FieldType} {e : Env} {s s₁ : State} {m : MethodId} {args : Array Value} {below : List Frame} {meth : Method} {c : Code} {hh : List (Nat × Nat × Nat × Nat)}
    (B : BodyLoose p l y S cc maxL ret e s m args below meth c s₁) (h : (Cond.codeWith y bytes maxL' ret' hh).before args s = true) : c.exceptionTable.toList = tableOf hh := by
  obtain ⟨m9, meth9, c9, hn9, h1, h2, -, -, h6, -⟩ := Cond.codeWith_spec h
  cases Option.some.inj (hn9.symm.trans B.named)
  cases Option.some.inj (h1.symm.trans B.method)
  cases Option.some.inj (h2.symm.trans (Stand.of_body B).code)
  rw [← h6, table_eq]
end Bodies
end VXA
/-! ===== END ===== -/
/-! ===== BEGIN a static call of a method with an exception table ===== -/
section VXS
variable {p : Program} {l : Launch} {e : Env} {R : Room} {s : State} {m : MethodId} {args : Array Value} {below : List Frame} {meth : Method} {c : Code} {T : State} {H : Heap} {locs : List Loc} {cells slots : Nat}
abbrev vx_CSW (R : Room) (s : State) (args : Array Value) (own : String) (index : Nat) (y : MethodName) (bytes : ByteArray) (maxL : Nat) (ret : Option FieldType) (hh : List (Nat × Nat × Nat × Nat)) (ws : List Cond) (rm : Room) (mc ms n : Nat) : Prop :=
  (rm.cells = mc ∧ rm.slots = ms ∧ rm.frames + 1 ≤ R.frames ∧ 8 + (maxL + 11) + rm.locals ≤ R.locals ∧ (∀ w ∈ ws, ∀ (a' : Array Value) (U : State), s.WarmedH U.vm → w.before a' U = true) ∧ Cond.codeWith y bytes maxL ret hh ∈ ws) ∧
  (Cond.codeWith y bytes maxL ret hh).before args s = true ∧ (Cond.initialized y.cls).before args s = true ∧ (y.cls ≠ "java/lang/invoke/MethodHandle" ∧ y.cls ≠ "java/lang/invoke/VarHandle") ∧
  (∀ sig, parseMethodDescriptor y.desc = some sig → n = sig.parameters.length) ∧ (Cond.methodLink own index y).before args s = true ∧ (Cond.static y).before args s = true
theorem vx_cwSW {own : String} {index maxL mc ms : Nat} {y : MethodName} {bytes : ByteArray} {ret : Option FieldType} {hh : List (Nat × Nat × Nat × Nat)} {Ts ws ws' : List Cond} {rm : Room} (n : Nat) (ht : ∀ w ∈ Ts, w.before args s = true) (hT : GoodIn Ts (va_wsS own index y ws)) (hw : ws = Cond.codeWith y bytes maxL ret hh :: ws') (hrc : rm.cells = mc) (hrs : rm.slots = ms)
    (hd : y.cls ≠ "java/lang/invoke/MethodHandle" ∧ y.cls ≠ "java/lang/invoke/VarHandle" ∧ (parseMethodDescriptor y.desc).map (fun d => d.parameters.length) = some n) (hR : rm.frames + 1 ≤ R.frames ∧ 8 + (maxL + 11) + rm.locals ≤ R.locals) :
    vx_CSW R s args own index y bytes maxL ret hh ws rm mc ms n := by
  have ok : ∀ w ∈ va_wsS own index y ws, w.before args s = true := fun w h => ht w (hT w h).1
  have hG : GoodIn Ts ws := fun w h => hT w (by unfold va_wsS; exact List.mem_append_right _ h)
  have hc : Cond.codeWith y bytes maxL ret hh ∈ ws := by rw [hw]; exact List.mem_cons_self
  refine ⟨⟨hrc, hrs, hR.1, hR.2, pay_in ht hG, hc⟩, ht _ (hG _ hc).1, ok _ (by simp [va_wsS]), ⟨hd.1, hd.2.1⟩, fun sig h => ?_, ok _ (by simp [va_wsS]), ok _ (by simp [va_wsS])⟩
  have h2 := hd.2.2
  rw [h] at h2
  exact (Option.some.inj h2).symm
theorem vx_callSW (X : Stand p l e R s m args below meth c T locs cells slots) (hexec : p.tables.exec = Jvm.exec) {own : String} {index : Nat} {y : MethodName} {bytes : ByteArray} {maxL : Nat} {ret : Option FieldType} {hh : List (Nat × Nat × Nat × Nat)}
    (hown : s.vm.findClass own = some m.cls) (hlink : (Cond.methodLink own index y).before args s = true) (hstat : (Cond.static y).before args s = true) (hinit : (Cond.initialized y.cls).before args s = true)
    (hcode : (Cond.codeWith y bytes maxL ret hh).before args s = true) (hy : y.cls ≠ "java/lang/invoke/MethodHandle" ∧ y.cls ≠ "java/lang/invoke/VarHandle")
    {W9 : Nat} {Pre : Pt → Array Value → Prop} {Post : Pt → Array Value → Option Value → Pt → Prop} (hK : Back l R p e below s args y 3 W9 Pre Post)
    {g : JFrame} (hg : g.method = m) (hsize : g.locals.size = c.maxLocals) {argsL rest : List Value} (hlen : ∀ sig, parseMethodDescriptor y.desc = some sig → argsL.length = sig.parameters.length)
    (hstack : g.stack = argsL.reverse ++ rest) (hW : 2 * g.monitorRoom + (rest.map fun v => v.category).sum ≤ W9) (hdg : decode c.code g.pc = .ok (.invokestatic index, 3))
    (hpre : ∀ vm₁, s.WarmedH vm₁ → Pre ⟨T.setVm vm₁, locs, cells, slots⟩ argsL.toArray) :
    ∃ (v : Option Value) (vm₁ : Vm) (B : Pt), s.WarmedH vm₁ ∧ Stand p l e R s m args below meth c B.U B.locs B.cells B.slots ∧ Post ⟨T.setVm vm₁, locs, cells, slots⟩ argsL.toArray v B ∧
      ∀ target, Steps p.tables e below (B.U.setTop { g with pc := g.pc + 3, stack := v.toList ++ rest }) target → Steps p.tables e below (T.setTop g) target := by
  obtain ⟨mk, methM, cM, hnamed, hmethM, -, -, -, -, -, -, hsigM⟩ := Cond.codeWith_spec hcode
  have hstatic : methM.isStatic = true := Cond.static_spec hnamed hmethM hstat
  obtain ⟨kP, hkP, -⟩ := className_of_methodNamed hnamed
  have hinitP : kP.init = .initialized := Cond.initialized_spec (findClass_of_methodNamed hnamed) hkP hinit
  obtain ⟨vm₁, X₁, hstep₁⟩ := X.invokestatic hexec hown hlink hnamed hmethM hstatic hkP hinitP hy (g := g) hg (argsL := argsL) (rest := rest) (hlen _ hsigM) hstack hdg
  obtain ⟨v, B, X', hpost, hsteps⟩ := hK m meth c ⟨T.setVm vm₁, locs, cells, slots⟩ { g with stack := rest } (.invokestatic index) mk argsL.toArray X₁ hg hsize hdg hW (X₁.named hnamed) (hpre vm₁ X₁.warmed)
  exact ⟨v, vm₁, B, X₁.warmed, X', hpost, fun target h => hstep₁ _ fun acts => by rw [doInvoke_state]; exact hsteps.trans h⟩
theorem vx_runSW {y : MethodName} {bytes cc : ByteArray} {maxL nL mc ms n index : Nat} {ret : Option FieldType} {hh : List (Nat × Nat × Nat × Nat)} {ws : List Cond} {rm : Room} {Pc : Array Value → State → Prop} {Qc : Array Value → State → Outcome → State → Prop} {free : Addr → Prop} {Ts : List Cond} {own : String} {As rest : List Value} {g : JFrame}
    (S : CallFix p m c cc nL s args Ts own) (hM : Met l y ws rm Pc Qc mc ms free) (cw : vx_CSW R s args own index y bytes maxL ret hh ws rm mc ms n) (hp : PreS s H Pc As)
    (hg : g.method = m) (hn : As.length = n) (hsize : g.locals.size = nL) (hstack : g.stack = As.reverse ++ rest) (hW : 2 * g.monitorRoom + (rest.map fun v => v.category).sum ≤ 8) (hdg : decode cc g.pc = .ok (.invokestatic index, 3)) (hf : cells + mc ≤ R.cells ∧ slots + ms ≤ R.slots) :
    va_Run p l e R s m args below meth c H locs cells slots mc ms g rest (Qc As.toArray) (free) := by
  obtain ⟨⟨hrc, hrs, hfr, hlo, hws, hcw⟩, hcode, hini, hy, hlen, hl, hstt⟩ := cw
  have hK : Back l R p e below s args y 3 8 (PreOf R mc ms Pc) (PostOf Qc mc ms free) := va_backW (hh := hh) (bytes := bytes) (maxL := maxL) (ret := ret) hM hp.1 hrc hrs hfr hlo hws hcw (fun a' U hW => word_at hW (Or.inl (by first | rfl | simp [Cond.onTables, Cond.keeps, Cond.steady])) hini)
  obtain ⟨hx, hb, hml, ho, -⟩ := S
  intro T hT X
  obtain ⟨v, vm₁, ⟨U', l2, c2, s2⟩, hW₁, X', ⟨g', mk, t, L, e1, e2, hq, h1, hL, h2, h3⟩, st⟩ := vx_callSW X hx (hh := hh) (bytes := bytes) (maxL := maxL) (ret := ret) ho hl hstt hini hcode hy hK hg (hsize.trans hml.symm) (argsL := As) (rest := rest) (fun sig h => hn.trans (hlen sig h)) hstack hW (by rw [hb]; exact hdg)
    (fun vm₁ hW₁ => ⟨hf.1, hf.2, hp.2 (T.setVm vm₁) hT hW₁⟩)
  dsimp only [Pt.U, Pt.locs, Pt.cells, Pt.slots] at X' e1 e2 h1 h2 h3 st
  subst h1; subst h2; subst h3
  exact ⟨v, (T.setVm vm₁).calling g' mk As.toArray, t, U', L, hT, X', hL, e1, e2, hq, st⟩
/-- not caught here, past rows that name other classes: it goes on to the caller -/
theorem vx_outP {p : Program} {l : Launch} {e : Env} {R : Room} {s : State} {m : MethodId} {args : Array Value} {below : List Frame} {meth : Method} {c : Code} {H : Heap} {locs : List Loc} {cells slots : Nat} {free : Addr → Prop} {ls : Array Slot} {rest : List Value} {Qc : Array Value → State → Outcome → State → Prop} {XC : String → State → State → Prop}
    {pc : Nat} {own E : String} {ce : Cell} {q : Addr} {mc ms : Nat} (hown : s.vm.findClass own = some m.cls) (hlocks : meth.locks = false)
    (hpass : ∀ z ∈ c.exceptionTable.toList, covers z pc = false ∨ (z.catchType ≠ 0 ∧ ∃ nm : String, (Cond.classLink own z.catchType nm).before args s = true ∧ va_Nc E nm s)) (hcell : H[q]? = some ce) (hv : ce.vm = .none) (hcl : s.vm.findClass E = some ce.cls)
    (hx : ∀ t : State, t.heap = H → s.vm.Alike t.vm → XC E s t) (hf : ∀ z ∈ locs, free z.base) (hc : cells ≤ mc) (hs : slots ≤ ms) :
    vx_W p l e R s m args below meth c H locs cells slots (vx_MQ below Qc XC args s mc ms free) (F0 m pc ls rest) q := by
  intro T hT X
  have hpl : e.platform.magicAccessors = ({} : Platform).magicAccessors := by rw [X.admits.platform]
  obtain ⟨vm', hW', X', st⟩ := X.outThrough hlocks q (g := F0 m pc ls rest) rfl rfl rfl (cell := ce) (by rw [hT]; exact hcell) (by rw [hv]; rfl)
    (by obtain ⟨k9, h9, -⟩ := Vm.findClass_spec hcl; exact ⟨k9, h9⟩) (fun z hz => by
      rcases hpass z hz with h | ⟨hz0, nm, hl1, hn1⟩
      · exact Or.inl h
      · obtain ⟨c6, hc6, hcl6⟩ := Cond.classLink_spec hown hl1 e.platform hpl
        obtain ⟨a8, b8, h1, h2, h3⟩ := hn1
        cases Option.some.inj (h1.symm.trans hcl)
        cases Option.some.inj (h2.symm.trans hc6)
        exact Or.inr ⟨hz0, _, hcl6, h3⟩)
  obtain ⟨g₀, hfr⟩ := X'.frames_eq
  have hcell9 : ((T.setVm vm').setFrames (.throwing q :: below)).heap[q]? = some ce := by
    show T.heap[q]? = some ce
    rw [hT]; exact hcell
  have hend : Ended ((T.setVm vm').setFrames (.throwing q :: below)) below (.threw q) := State.frames_setFrames _ (State.cur_lt_of_frames hfr)
  refine ⟨(T.setVm vm').setFrames (.throwing q :: below), ?_, .threw q, X'.here.running, hend, Or.inr ⟨q, rfl, E, ce, locs, hx _ hT (X'.ends _).1.alike, hcell9, hv, hcl, (X'.ends _).1, (X'.ends _).2.mono hc hs, hf⟩⟩
  rw [X.pushThrowing_eq]
  exact st
/-- a thing of a world lies in the heap -/
theorem vx_lt {D : va_G} {cl : List vw_C} {ws : va_W} {H1 : Heap} (h : va_P D cl ws H1) {k : Nat} {q : Nat × va_E} (hk : ws[k]? = some q) : q.1 < H1.size := (h k q hk).lt
end VXS
/-! ===== END ===== -/
/-! ===== BEGIN methods with a table of their own: called by a name, returning or throwing ===== -/
section VXH
/-! vx_backW, vx_callVX, vx_callSX, vx_callVW, vx_runVW, vx_runVX, vx_runSX, vx_ofWH follow the same proofs as their sisters above (Free/Laws.lean, Shelf42/LK1.lean); vx_outP calls Shelf42/NT130.lean (outThrough). -/
section
variable {l : Launch} {R : Room} {p : Program} {e : Env} {below : List Frame} {s : State} {sargs : Array Value} {y : MethodName} {len W9 : Nat}
theorem vx_backW {ws : List Cond} {rm : Room} {Pc : Array Value → State → Prop} {Qc : Array Value → State → Outcome → State → Prop} {XC : String → State → State → Prop} {mc ms : Nat} {free : Addr → Prop} {bytes : ByteArray} {maxL : Nat} {ret : Option FieldType} {hh : List (Nat × Nat × Nat × Nat)}
    (hM : vx_Met l y ws rm Pc Qc XC mc ms free) (hblind : FrameBlind Pc) (hrc : rm.cells = mc) (hrs : rm.slots = ms)
    (hframes : rm.frames + 1 ≤ R.frames) (hlocals : W9 + (maxL + 11) + rm.locals ≤ R.locals)
    (hws : ∀ w ∈ ws, ∀ a' U, s.WarmedH U.vm → w.before a' U = true) (hcode : Cond.codeWith y bytes maxL ret hh ∈ ws) (hinit : ∀ a' U, s.WarmedH U.vm → (Cond.initialized y.cls).before a' U = true) :
    vx_Back l R p e below s sargs y len W9 (PreOf R mc ms Pc) (PostOf Qc mc ms free) (vx_Post XC mc ms free) := by
  intro m meth c A g ig mk a X hg hsize hdg hW hn hp
  have h1 : (headSpec ws rm).pre.before a A.U = true := atoms_intro fun w hw => hws w hw _ _ X.warmed
  have h2 : (Cond.codeWith y bytes maxL ret hh).before a A.U = true := hws _ hcode _ _ X.warmed
  have h3 : (Cond.initialized y.cls).before a A.U = true := hinit _ _ X.warmed
  have h4 : A.cells + (headSpec ws rm).room.cells ≤ R.cells := by rw [show (headSpec ws rm).room.cells = mc from hrc]; exact hp.1
  have h5 : A.slots + (headSpec ws rm).room.slots ≤ R.slots := by rw [show (headSpec ws rm).room.slots = ms from hrs]; exact hp.2.1
  have hPc : Pc a (A.U.calling g mk a) := hblind _ _ _ _ hp.2.2
  obtain ⟨U, Ls, c0, s0⟩ := A
  dsimp only [Pt.U, Pt.locs, Pt.cells, Pt.slots] at h1 h2 h3 h4 h5 X hn hPc ⊢
  obtain ⟨m9, methY, cY, hn9, hmY, hcY, -, hlY, -⟩ := Cond.codeWith_spec h2
  cases Option.some.inj (hn9.symm.trans hn)
  obtain ⟨kY, hkY, -⟩ := className_of_methodNamed hn
  have hinitY : kY.init = .initialized := Cond.initialized_spec (findClass_of_methodNamed hn) hkY h3
  have h : At U g.method c below := by rw [hg]; exact X.here
  have hlocals9 : W9 + (maxL + 11) + (headSpec ws rm).room.locals ≤ R.locals := hlocals
  have happ : (headSpec ws rm).appliesLoose y e.platform (U.calling g mk a) = true :=
    Spec.appliesLoose_calling (g := g) h hdg hn hkY hinitY
      (X.room_calling (g := g) (R' := (headSpec ws rm).room) hsize hmY hcY hframes (by rw [hlY]; omega) h4 h5) h1
  obtain ⟨mid, hmid⟩ := h.above
  have hfr : (U.setTop g).frames = (.java g :: mid) ++ below := by rw [State.frames_setTop' g h.top, hmid]; rfl
  obtain ⟨o, s₂, hsteps, -, hend, hq⟩ := Steps.callFree hM p X.admits X.cas X.clock (acts := []) hfr happ hPc trivial
  have hq' : vx_Q Qc XC mc ms free a (U.calling g mk a) o s₂ := hq
  rw [State.frames_setTop' g h.top] at hend
  obtain ⟨g₀, hg0⟩ := Option.isSome_iff_exists.mp h.top
  obtain ⟨r, hr⟩ := State.topJava?_eq_some.mp hg0
  have hr' : (({ U with heap := s₂.heap, slotsUsed := s₂.slotsUsed } : State).setVm s₂.vm).frames = .java g₀ :: r := hr
  rcases hq' with ⟨hqc, L, hfe, hL⟩ | ⟨q, rfl, E, ce, L, hx, hce, hcv, hcl, hW₂, hsm, hL⟩
  · obtain ⟨⟨v, rfl⟩, hW₂, e2, q2, q3, q4, q5, q6⟩ := id hfe
    have e3 : s₂ = ({ (U.calling g mk a).setFrames s₂.frames with heap := s₂.heap, slotsUsed := s₂.slotsUsed } : State).setVm s₂.vm := by
      have : s₂ = ({ s₂ with vm := (U.calling g mk a).vm } : State).setVm s₂.vm := rfl
      rw [e2] at this
      exact this
    obtain ⟨c₂, i₂, len₂, hc₂, hd₂, hf₂⟩ := hend
    have hW' : U.WarmedH s₂.vm := hW₂
    have hcc : c₂ = c := by
      have h1 : s₂.code? g.method = U.code? g.method := by
        rw [State.code?_eq, State.code?_eq, hW'.alike.method?]
      exact Option.some.inj (hc₂.symm.trans (h1.trans h.code))
    subst hcc
    have hlen : len₂ = len := by rw [hdg] at hd₂; cases hd₂; rfl
    subst hlen
    have hs₂ : s₂ = (({ U with heap := s₂.heap, slotsUsed := s₂.slotsUsed } : State).setVm s₂.vm).setTop { g with pc := g.pc + len₂, stack := v.toList ++ g.stack } := by
      refine e3.trans ?_
      rw [hf₂, State.calling_eq h.top, State.setFrames_setFrames, State.setTop_of_frames _ hr', hr]
      rfl
    have hsame : U.sameButNew ({ U with heap := s₂.heap, slotsUsed := s₂.slotsUsed } : State) L mc ms := by
      refine ⟨?_, q2, q3, q4, q5, q6⟩
      obtain ⟨t, ht, -⟩ := State.frames_cons hr
      show ({ U with heap := s₂.heap, slotsUsed := s₂.slotsUsed } : State) = { U.setFrames U.frames with heap := s₂.heap, slotsUsed := s₂.slotsUsed }
      rw [State.setFrames_self ht]
    subst hg
    refine Or.inl ⟨v, ⟨(({ U with heap := s₂.heap, slotsUsed := s₂.slotsUsed } : State).setVm s₂.vm), Ls ++ L, c0 + mc, s0 + ms⟩,
      ⟨X.admits, X.cas, X.clock, X.frames, X.room, X.hears, X.method, X.code, (X.here.setHeapUsed s₂.heap s₂.slotsUsed).setVm hW'.alike, X.tail, State.WarmedH.trans X.warmed hW', X.limits, X.bytes, X.same.trans (hsame.setVm s.vm)⟩,
      ⟨g, mk, s₂, L, rfl, rfl, hqc, rfl, hL, rfl, rfl⟩, ?_⟩
    show Steps p.tables e below _ ((({ U with heap := s₂.heap, slotsUsed := s₂.slotsUsed } : State).setVm s₂.vm).setTop { g with pc := g.pc + len₂, stack := v.toList ++ g.stack })
    rw [← hs₂]
    exact hsteps
  · obtain ⟨e2, q2, q3, q4, q5, q6⟩ := id hsm
    have e3 : s₂ = ({ (U.calling g mk a).setFrames s₂.frames with heap := s₂.heap, slotsUsed := s₂.slotsUsed } : State).setVm s₂.vm := by
      have : s₂ = ({ s₂ with vm := (U.calling g mk a).vm } : State).setVm s₂.vm := rfl
      rw [e2] at this
      exact this
    have hf₂ : s₂.frames = .throwing q :: .java g :: U.frames.tail := hend
    have hW' : U.WarmedH s₂.vm := hW₂
    have hs₂ : s₂ = ((({ U with heap := s₂.heap, slotsUsed := s₂.slotsUsed } : State).setVm s₂.vm).setTop g).pushFrame (.throwing q) := by
      refine e3.trans ?_
      rw [hf₂, State.calling_eq h.top, State.setFrames_setFrames, State.pushFrame, State.frames_setTop _ hr', State.setTop_of_frames _ hr', State.setFrames_setFrames, hr]
      rfl
    have hsame : U.sameButNew ({ U with heap := s₂.heap, slotsUsed := s₂.slotsUsed } : State) L mc ms := by
      refine ⟨?_, q2, q3, q4, q5, q6⟩
      obtain ⟨t, ht, -⟩ := State.frames_cons hr
      show ({ U with heap := s₂.heap, slotsUsed := s₂.slotsUsed } : State) = { U.setFrames U.frames with heap := s₂.heap, slotsUsed := s₂.slotsUsed }
      rw [State.setFrames_self ht]
    subst hg
    refine Or.inr ⟨q, ⟨(({ U with heap := s₂.heap, slotsUsed := s₂.slotsUsed } : State).setVm s₂.vm), Ls ++ L, c0 + mc, s0 + ms⟩,
      ⟨X.admits, X.cas, X.clock, X.frames, X.room, X.hears, X.method, X.code, (X.here.setHeapUsed s₂.heap s₂.slotsUsed).setVm hW'.alike, X.tail, State.WarmedH.trans X.warmed hW', X.limits, X.bytes, X.same.trans (hsame.setVm s.vm)⟩,
      ⟨g, mk, s₂, L, E, ce, rfl, rfl, hx, hce, hcv, hcl, rfl, hL, rfl, rfl⟩, ?_⟩
    show Steps p.tables e below _ (((({ U with heap := s₂.heap, slotsUsed := s₂.slotsUsed } : State).setVm s₂.vm).setTop g).pushFrame (.throwing q))
    rw [← hs₂]
    exact hsteps
end
variable {p : Program} {l : Launch} {e : Env} {R : Room} {s : State} {m : MethodId} {args : Array Value} {below : List Frame} {meth : Method} {c : Code} {T : State} {H : Heap} {locs : List Loc} {cells slots : Nat}
theorem vx_callVX (X : Stand p l e R s m args below meth c T locs cells slots) (hexec : p.tables.exec = Jvm.exec) {own C : String} {index : Nat} {y : MethodName} {bytes : ByteArray} {maxL : Nat} {ret : Option FieldType} {hh : List (Nat × Nat × Nat × Nat)}
    (hown : s.vm.findClass own = some m.cls) (hlink : (Cond.methodLink own index y).before args s = true) (hinst : (Cond.instanceMethod y).before args s = true) (hsel : (Cond.selects C y y).before args s = true)
    (hcode : (Cond.codeWith y bytes maxL ret hh).before args s = true) (hy : y.cls ≠ "java/lang/invoke/MethodHandle" ∧ y.cls ≠ "java/lang/invoke/VarHandle")
    {W9 : Nat} {Pre : Pt → Array Value → Prop} {Post : Pt → Array Value → Option Value → Pt → Prop} {PostX : Pt → Array Value → Addr → Pt → Prop} (hK : vx_Back l R p e below s args y 3 W9 Pre Post PostX)
    {b : Addr} {cellB : Cell} (hcell : T.heap[b]? = some cellB) (hobj : cellB.vm.isStatics = false) (hcls : s.vm.findClass C = some cellB.cls)
    {g : JFrame} (hg : g.method = m) (hsize : g.locals.size = c.maxLocals) {argsL rest : List Value} (hlen : ∀ sig, parseMethodDescriptor y.desc = some sig → argsL.length = sig.parameters.length)
    (hstack : g.stack = argsL.reverse ++ .ref b :: rest) (hW : 2 * g.monitorRoom + (rest.map fun v => v.category).sum ≤ W9) (hdg : decode c.code g.pc = .ok (.invokevirtual index, 3))
    (hpre : ∀ vm₁, s.WarmedH vm₁ → Pre ⟨T.setVm vm₁, locs, cells, slots⟩ (Value.ref b :: argsL).toArray) :
    (∃ (v : Option Value) (vm₁ : Vm) (B : Pt), s.WarmedH vm₁ ∧ Stand p l e R s m args below meth c B.U B.locs B.cells B.slots ∧ Post ⟨T.setVm vm₁, locs, cells, slots⟩ (Value.ref b :: argsL).toArray v B ∧
      ∀ target, Steps p.tables e below (B.U.setTop { g with pc := g.pc + 3, stack := v.toList ++ rest }) target → Steps p.tables e below (T.setTop g) target) ∨
    (∃ (q : Addr) (vm₁ : Vm) (B : Pt), s.WarmedH vm₁ ∧ Stand p l e R s m args below meth c B.U B.locs B.cells B.slots ∧ PostX ⟨T.setVm vm₁, locs, cells, slots⟩ (Value.ref b :: argsL).toArray q B ∧
      Steps p.tables e below (T.setTop g) ((B.U.setTop { g with stack := rest }).pushFrame (.throwing q))) := by
  obtain ⟨mk, methM, hnamed, hmethM, hstM, habM⟩ := Cond.instanceMethod_spec hinst
  obtain ⟨m8, methM', cM, hn8, hmethM', -, -, -, -, -, -, hsigM⟩ := Cond.codeWith_spec hcode
  cases Option.some.inj (hn8.symm.trans hnamed)
  cases hmethM.symm.trans hmethM'
  obtain ⟨c2, r2, m2, q1, q2, q3, q4, kP, hkP, hkPi⟩ := Cond.selects_spec hsel
  cases hcls.symm.trans q1
  cases (State.methodFound?_of_named hnamed hy).symm.trans q2
  cases hnamed.symm.trans q3
  have hselP : selectMethod e.platform s.vm cellB.cls mk = .method mk := by rw [Launch.admits_selectMethod X.admits]; exact q4
  obtain ⟨vm₁, X₁, hstep₁⟩ := X.invokevirtual hexec hown hlink hnamed hmethM hstM hkP hkPi hy (a := b) (cell := cellB) hcell
    (fun z h => by rw [h] at hobj; cases hobj) hselP hmethM habM hkP hkPi (g := g) hg (argsL := argsL) (rest := rest) (hlen _ hsigM) hstack hdg
  rcases hK m meth c ⟨T.setVm vm₁, locs, cells, slots⟩ { g with stack := rest } (.invokevirtual index) mk (Value.ref b :: argsL).toArray X₁ hg hsize hdg hW (X₁.named hnamed) (hpre vm₁ X₁.warmed) with ⟨v, B, X', hpost, hsteps⟩ | ⟨q, B, X', hpost, hsteps⟩
  · exact Or.inl ⟨v, vm₁, B, X₁.warmed, X', hpost, fun target h => hstep₁ _ fun acts => by rw [doInvoke_state]; exact hsteps.trans h⟩
  · exact Or.inr ⟨q, vm₁, B, X₁.warmed, X', hpost, hstep₁ _ fun acts => by rw [doInvoke_state]; exact hsteps⟩
theorem vx_callSX (X : Stand p l e R s m args below meth c T locs cells slots) (hexec : p.tables.exec = Jvm.exec) {own : String} {index : Nat} {y : MethodName} {bytes : ByteArray} {maxL : Nat} {ret : Option FieldType} {hh : List (Nat × Nat × Nat × Nat)}
    (hown : s.vm.findClass own = some m.cls) (hlink : (Cond.methodLink own index y).before args s = true) (hstat : (Cond.static y).before args s = true) (hinit : (Cond.initialized y.cls).before args s = true)
    (hcode : (Cond.codeWith y bytes maxL ret hh).before args s = true) (hy : y.cls ≠ "java/lang/invoke/MethodHandle" ∧ y.cls ≠ "java/lang/invoke/VarHandle")
    {W9 : Nat} {Pre : Pt → Array Value → Prop} {Post : Pt → Array Value → Option Value → Pt → Prop} {PostX : Pt → Array Value → Addr → Pt → Prop} (hK : vx_Back l R p e below s args y 3 W9 Pre Post PostX)
    {g : JFrame} (hg : g.method = m) (hsize : g.locals.size = c.maxLocals) {argsL rest : List Value} (hlen : ∀ sig, parseMethodDescriptor y.desc = some sig → argsL.length = sig.parameters.length)
    (hstack : g.stack = argsL.reverse ++ rest) (hW : 2 * g.monitorRoom + (rest.map fun v => v.category).sum ≤ W9) (hdg : decode c.code g.pc = .ok (.invokestatic index, 3))
    (hpre : ∀ vm₁, s.WarmedH vm₁ → Pre ⟨T.setVm vm₁, locs, cells, slots⟩ argsL.toArray) :
    (∃ (v : Option Value) (vm₁ : Vm) (B : Pt), s.WarmedH vm₁ ∧ Stand p l e R s m args below meth c B.U B.locs B.cells B.slots ∧ Post ⟨T.setVm vm₁, locs, cells, slots⟩ argsL.toArray v B ∧
      ∀ target, Steps p.tables e below (B.U.setTop { g with pc := g.pc + 3, stack := v.toList ++ rest }) target → Steps p.tables e below (T.setTop g) target) ∨
    (∃ (q : Addr) (vm₁ : Vm) (B : Pt), s.WarmedH vm₁ ∧ Stand p l e R s m args below meth c B.U B.locs B.cells B.slots ∧ PostX ⟨T.setVm vm₁, locs, cells, slots⟩ argsL.toArray q B ∧
      Steps p.tables e below (T.setTop g) ((B.U.setTop { g with stack := rest }).pushFrame (.throwing q))) := by
  obtain ⟨mk, methM, cM, hnamed, hmethM, -, -, -, -, -, -, hsigM⟩ := Cond.codeWith_spec hcode
  have hstatic : methM.isStatic = true := Cond.static_spec hnamed hmethM hstat
  obtain ⟨kP, hkP, -⟩ := className_of_methodNamed hnamed
  have hinitP : kP.init = .initialized := Cond.initialized_spec (findClass_of_methodNamed hnamed) hkP hinit
  obtain ⟨vm₁, X₁, hstep₁⟩ := X.invokestatic hexec hown hlink hnamed hmethM hstatic hkP hinitP hy (g := g) hg (argsL := argsL) (rest := rest) (hlen _ hsigM) hstack hdg
  rcases hK m meth c ⟨T.setVm vm₁, locs, cells, slots⟩ { g with stack := rest } (.invokestatic index) mk argsL.toArray X₁ hg hsize hdg hW (X₁.named hnamed) (hpre vm₁ X₁.warmed) with ⟨v, B, X', hpost, hsteps⟩ | ⟨q, B, X', hpost, hsteps⟩
  · exact Or.inl ⟨v, vm₁, B, X₁.warmed, X', hpost, fun target h => hstep₁ _ fun acts => by rw [doInvoke_state]; exact hsteps.trans h⟩
  · exact Or.inr ⟨q, vm₁, B, X₁.warmed, X', hpost, hstep₁ _ fun acts => by rw [doInvoke_state]; exact hsteps⟩
theorem vx_callVW (X : Stand p l e R s m args below meth c T locs cells slots) (hexec : p.tables.exec = Jvm.exec) {own C : String} {index : Nat} {y : MethodName} {bytes : ByteArray} {maxL : Nat} {ret : Option FieldType} {hh : List (Nat × Nat × Nat × Nat)}
    (hown : s.vm.findClass own = some m.cls) (hlink : (Cond.methodLink own index y).before args s = true) (hinst : (Cond.instanceMethod y).before args s = true) (hsel : (Cond.selects C y y).before args s = true)
    (hcode : (Cond.codeWith y bytes maxL ret hh).before args s = true) (hy : y.cls ≠ "java/lang/invoke/MethodHandle" ∧ y.cls ≠ "java/lang/invoke/VarHandle")
    {W9 : Nat} {Pre : Pt → Array Value → Prop} {Post : Pt → Array Value → Option Value → Pt → Prop} (hK : Back l R p e below s args y 3 W9 Pre Post)
    {b : Addr} {cellB : Cell} (hcell : T.heap[b]? = some cellB) (hobj : cellB.vm.isStatics = false) (hcls : s.vm.findClass C = some cellB.cls)
    {g : JFrame} (hg : g.method = m) (hsize : g.locals.size = c.maxLocals) {argsL rest : List Value} (hlen : ∀ sig, parseMethodDescriptor y.desc = some sig → argsL.length = sig.parameters.length)
    (hstack : g.stack = argsL.reverse ++ .ref b :: rest) (hW : 2 * g.monitorRoom + (rest.map fun v => v.category).sum ≤ W9) (hdg : decode c.code g.pc = .ok (.invokevirtual index, 3))
    (hpre : ∀ vm₁, s.WarmedH vm₁ → Pre ⟨T.setVm vm₁, locs, cells, slots⟩ (Value.ref b :: argsL).toArray) :
    ∃ (v : Option Value) (vm₁ : Vm) (B : Pt), s.WarmedH vm₁ ∧ Stand p l e R s m args below meth c B.U B.locs B.cells B.slots ∧ Post ⟨T.setVm vm₁, locs, cells, slots⟩ (Value.ref b :: argsL).toArray v B ∧
      ∀ target, Steps p.tables e below (B.U.setTop { g with pc := g.pc + 3, stack := v.toList ++ rest }) target → Steps p.tables e below (T.setTop g) target := by
  obtain ⟨mk, methM, hnamed, hmethM, hstM, habM⟩ := Cond.instanceMethod_spec hinst
  obtain ⟨m8, methM', cM, hn8, hmethM', -, -, -, -, -, -, hsigM⟩ := Cond.codeWith_spec hcode
  cases Option.some.inj (hn8.symm.trans hnamed)
  cases hmethM.symm.trans hmethM'
  obtain ⟨c2, r2, m2, q1, q2, q3, q4, kP, hkP, hkPi⟩ := Cond.selects_spec hsel
  cases hcls.symm.trans q1
  cases (State.methodFound?_of_named hnamed hy).symm.trans q2
  cases hnamed.symm.trans q3
  have hselP : selectMethod e.platform s.vm cellB.cls mk = .method mk := by rw [Launch.admits_selectMethod X.admits]; exact q4
  obtain ⟨vm₁, X₁, hstep₁⟩ := X.invokevirtual hexec hown hlink hnamed hmethM hstM hkP hkPi hy (a := b) (cell := cellB) hcell
    (fun z h => by rw [h] at hobj; cases hobj) hselP hmethM habM hkP hkPi (g := g) hg (argsL := argsL) (rest := rest) (hlen _ hsigM) hstack hdg
  obtain ⟨v, B, X', hpost, hsteps⟩ := hK m meth c ⟨T.setVm vm₁, locs, cells, slots⟩ { g with stack := rest } (.invokevirtual index) mk (Value.ref b :: argsL).toArray X₁ hg hsize hdg hW (X₁.named hnamed) (hpre vm₁ X₁.warmed)
  exact ⟨v, vm₁, B, X₁.warmed, X', hpost, fun target h => hstep₁ _ fun acts => by rw [doInvoke_state]; exact hsteps.trans h⟩
abbrev vx_CVW (R : Room) (s : State) (args : Array Value) (own C : String) (index : Nat) (y : MethodName) (bytes : ByteArray) (maxL : Nat) (ret : Option FieldType) (hh : List (Nat × Nat × Nat × Nat)) (ws : List Cond) (rm : Room) (mc ms n : Nat) : Prop :=
  (rm.cells = mc ∧ rm.slots = ms ∧ rm.frames + 1 ≤ R.frames ∧ 8 + (maxL + 11) + rm.locals ≤ R.locals ∧ (∀ w ∈ ws, ∀ (a' : Array Value) (U : State), s.WarmedH U.vm → w.before a' U = true) ∧ Cond.codeWith y bytes maxL ret hh ∈ ws) ∧
  (Cond.codeWith y bytes maxL ret hh).before args s = true ∧ (Cond.initialized y.cls).before args s = true ∧ (y.cls ≠ "java/lang/invoke/MethodHandle" ∧ y.cls ≠ "java/lang/invoke/VarHandle") ∧
  (∀ sig, parseMethodDescriptor y.desc = some sig → n = sig.parameters.length) ∧ (Cond.methodLink own index y).before args s = true ∧ (Cond.instanceMethod y).before args s = true ∧ (Cond.selects C y y).before args s = true
theorem vx_cwVW {own C : String} {index maxL mc ms : Nat} {y : MethodName} {bytes : ByteArray} {ret : Option FieldType} {hh : List (Nat × Nat × Nat × Nat)} {Ts ws ws' : List Cond} {rm : Room} (n : Nat) (ht : ∀ w ∈ Ts, w.before args s = true) (hT : GoodIn Ts (wsV own index C y ws)) (hw : ws = Cond.codeWith y bytes maxL ret hh :: ws') (hrc : rm.cells = mc) (hrs : rm.slots = ms)
    (hd : y.cls = C ∧ y.cls ≠ "java/lang/invoke/MethodHandle" ∧ y.cls ≠ "java/lang/invoke/VarHandle" ∧ (parseMethodDescriptor y.desc).map (fun d => d.parameters.length) = some n) (hR : rm.frames + 1 ≤ R.frames ∧ 8 + (maxL + 11) + rm.locals ≤ R.locals) :
    vx_CVW R s args own C index y bytes maxL ret hh ws rm mc ms n := by
  obtain ⟨hC, hd⟩ := hd
  subst hC
  have ok : ∀ w ∈ wsV own index y.cls y ws, w.before args s = true := fun w h => ht w (hT w h).1
  have hG : GoodIn Ts ws := fun w h => hT w (by unfold wsV; exact List.mem_append_right _ h)
  have hc : Cond.codeWith y bytes maxL ret hh ∈ ws := by rw [hw]; exact List.mem_cons_self
  refine ⟨⟨hrc, hrs, hR.1, hR.2, pay_in ht hG, hc⟩, ht _ (hG _ hc).1, ok _ (by simp [wsV]), ⟨hd.1, hd.2.1⟩, fun sig h => ?_, ok _ (by simp [wsV]), ok _ (by simp [wsV]), ok _ (by simp [wsV])⟩
  have h2 := hd.2.2
  rw [h] at h2
  exact (Option.some.inj h2).symm
theorem vx_runVW {y : MethodName} {bytes cc : ByteArray} {maxL nL mc ms n index : Nat} {ret : Option FieldType} {hh : List (Nat × Nat × Nat × Nat)} {ws : List Cond} {rm : Room} {Pc : Array Value → State → Prop} {Qc : Array Value → State → Outcome → State → Prop} {free : Addr → Prop} {Ts : List Cond} {own C : String} {b : Addr} {As rest : List Value} {g : JFrame}
    (S : CallFix p m c cc nL s args Ts own) (hM : Met l y ws rm Pc Qc mc ms free) (cw : vx_CVW R s args own C index y bytes maxL ret hh ws rm mc ms n) (hp : PreV s H C b Pc As)
    (hg : g.method = m) (hn : As.length = n) (hsize : g.locals.size = nL) (hstack : g.stack = As.reverse ++ .ref b :: rest) (hW : 2 * g.monitorRoom + (rest.map fun v => v.category).sum ≤ 8) (hdg : decode cc g.pc = .ok (.invokevirtual index, 3)) (hf : cells + mc ≤ R.cells ∧ slots + ms ≤ R.slots) :
    va_Run p l e R s m args below meth c H locs cells slots mc ms g rest (Qc (Value.ref b :: As).toArray) free := by
  obtain ⟨⟨hrc, hrs, hfr, hlo, hws, hcw⟩, hcode, hini, hy, hlen, hl, hin, hse⟩ := cw
  have hK : Back l R p e below s args y 3 8 (PreOf R mc ms Pc) (PostOf Qc mc ms free) := va_backW (hh := hh) (bytes := bytes) (maxL := maxL) (ret := ret) hM hp.1 hrc hrs hfr hlo hws hcw (fun a' U hW => word_at hW (Or.inl (by first | rfl | simp [Cond.onTables, Cond.keeps, Cond.steady])) hini)
  obtain ⟨hx, hb, hml, ho, -⟩ := S
  obtain ⟨-, ⟨cellB, hcB, hoB, hclB⟩, hPc⟩ := hp
  intro T hT X
  obtain ⟨v, vm₁, ⟨U', l2, c2, s2⟩, hW₁, X', ⟨g', mk, t, L, e1, e2, hq, h1, hL, h2, h3⟩, st⟩ := vx_callVW X hx (C := C) (hh := hh) (bytes := bytes) (maxL := maxL) (ret := ret) ho hl hin hse hcode hy hK (by rw [hT]; exact hcB) hoB hclB hg (hsize.trans hml.symm) (argsL := As) (rest := rest) (fun sig h => hn.trans (hlen sig h)) hstack hW (by rw [hb]; exact hdg)
    (fun vm₁ hW₁ => ⟨hf.1, hf.2, hPc (T.setVm vm₁) hT hW₁⟩)
  dsimp only [Pt.U, Pt.locs, Pt.cells, Pt.slots] at X' e1 e2 h1 h2 h3 st
  subst h1; subst h2; subst h3
  exact ⟨v, (T.setVm vm₁).calling g' mk (Value.ref b :: As).toArray, t, U', L, hT, X', hL, e1, e2, hq, st⟩
section
variable {y : MethodName} {bytes cc : ByteArray} {maxL nL mc ms n index : Nat} {ret : Option FieldType} {ws : List Cond} {rm : Room} {Pc : Array Value → State → Prop} {Qc : Array Value → State → Outcome → State → Prop} {XC : String → State → State → Prop} {free : Addr → Prop} {Ts : List Cond} {own C : String} {b : Addr} {As rest : List Value} {g : JFrame}
theorem vx_runVX {hh : List (Nat × Nat × Nat × Nat)} (S : CallFix p m c cc nL s args Ts own) (hM : vx_Met l y ws rm Pc Qc XC mc ms free) (cw : vx_CVW R s args own C index y bytes maxL ret hh ws rm mc ms n) (hp : PreV s H C b Pc As)
    (hg : g.method = m) (hn : As.length = n) (hsize : g.locals.size = nL) (hstack : g.stack = As.reverse ++ .ref b :: rest) (hW : 2 * g.monitorRoom + (rest.map fun v => v.category).sum ≤ 8) (hdg : decode cc g.pc = .ok (.invokevirtual index, 3)) (hf : cells + mc ≤ R.cells ∧ slots + ms ≤ R.slots) :
    vx_Run p l e R s m args below meth c H locs cells slots mc ms g rest (Qc (Value.ref b :: As).toArray) XC free := by
  obtain ⟨⟨hrc, hrs, hfr, hlo, hws, hcw⟩, hcode, hini, hy, hlen, hl, hin, hse⟩ := cw
  have hK : vx_Back l R p e below s args y 3 8 (PreOf R mc ms Pc) (PostOf Qc mc ms free) (vx_Post XC mc ms free) := vx_backW (hh := hh) (bytes := bytes) (maxL := maxL) (ret := ret) hM hp.1 hrc hrs hfr hlo hws hcw (fun a' U hW => word_at hW (Or.inl (by first | rfl | simp [Cond.onTables, Cond.keeps, Cond.steady])) hini)
  obtain ⟨hx, hb, hml, ho, -⟩ := S
  obtain ⟨-, ⟨cellB, hcB, hoB, hclB⟩, hPc⟩ := hp
  intro T hT X
  rcases vx_callVX X hx (C := C) (hh := hh) (bytes := bytes) (maxL := maxL) (ret := ret) ho hl hin hse hcode hy hK (by rw [hT]; exact hcB) hoB hclB hg (hsize.trans hml.symm) (argsL := As) (rest := rest) (fun sig h => hn.trans (hlen sig h)) hstack hW (by rw [hb]; exact hdg)
    (fun vm₁ hW₁ => ⟨hf.1, hf.2, hPc (T.setVm vm₁) hT hW₁⟩) with ⟨v, vm₁, ⟨U', l2, c2, s2⟩, hW₁, X', ⟨g', mk, t, L, e1, e2, hq, h1, hL, h2, h3⟩, st⟩ | ⟨q, vm₁, ⟨U', l2, c2, s2⟩, hW₁, X', ⟨g', mk, t, L, E, ce, e1, e2, hq, hce, hcv, hcl, h1, hL, h2, h3⟩, st⟩
  · dsimp only [Pt.U, Pt.locs, Pt.cells, Pt.slots] at X' e1 e2 h1 h2 h3 st
    subst h1; subst h2; subst h3
    exact Or.inl ⟨v, (T.setVm vm₁).calling g' mk (Value.ref b :: As).toArray, t, U', L, hT, X', hL, e1, e2, hq, st⟩
  · dsimp only [Pt.U, Pt.locs, Pt.cells, Pt.slots] at X' e1 e2 h1 h2 h3 st hcl
    subst h1; subst h2; subst h3
    exact Or.inr ⟨q, (T.setVm vm₁).calling g' mk (Value.ref b :: As).toArray, t, U', L, E, ce, hT, X', hL, e1, e2, hq, hce, hcv, vx_cls hW₁ hcl, st⟩
theorem vx_runSX {hh : List (Nat × Nat × Nat × Nat)} (S : CallFix p m c cc nL s args Ts own) (hM : vx_Met l y ws rm Pc Qc XC mc ms free) (cw : vx_CSW R s args own index y bytes maxL ret hh ws rm mc ms n) (hp : PreS s H Pc As)
    (hg : g.method = m) (hn : As.length = n) (hsize : g.locals.size = nL) (hstack : g.stack = As.reverse ++ rest) (hW : 2 * g.monitorRoom + (rest.map fun v => v.category).sum ≤ 8) (hdg : decode cc g.pc = .ok (.invokestatic index, 3)) (hf : cells + mc ≤ R.cells ∧ slots + ms ≤ R.slots) :
    vx_Run p l e R s m args below meth c H locs cells slots mc ms g rest (Qc As.toArray) XC free := by
  obtain ⟨⟨hrc, hrs, hfr, hlo, hws, hcw⟩, hcode, hini, hy, hlen, hl, hstt⟩ := cw
  have hK : vx_Back l R p e below s args y 3 8 (PreOf R mc ms Pc) (PostOf Qc mc ms free) (vx_Post XC mc ms free) := vx_backW (hh := hh) (bytes := bytes) (maxL := maxL) (ret := ret) hM hp.1 hrc hrs hfr hlo hws hcw (fun a' U hW => word_at hW (Or.inl (by first | rfl | simp [Cond.onTables, Cond.keeps, Cond.steady])) hini)
  obtain ⟨hx, hb, hml, ho, -⟩ := S
  intro T hT X
  rcases vx_callSX X hx (hh := hh) (bytes := bytes) (maxL := maxL) (ret := ret) ho hl hstt hini hcode hy hK hg (hsize.trans hml.symm) (argsL := As) (rest := rest) (fun sig h => hn.trans (hlen sig h)) hstack hW (by rw [hb]; exact hdg)
    (fun vm₁ hW₁ => ⟨hf.1, hf.2, hp.2 (T.setVm vm₁) hT hW₁⟩) with ⟨v, vm₁, ⟨U', l2, c2, s2⟩, hW₁, X', ⟨g', mk, t, L, e1, e2, hq, h1, hL, h2, h3⟩, st⟩ | ⟨q, vm₁, ⟨U', l2, c2, s2⟩, hW₁, X', ⟨g', mk, t, L, E, ce, e1, e2, hq, hce, hcv, hcl, h1, hL, h2, h3⟩, st⟩
  · dsimp only [Pt.U, Pt.locs, Pt.cells, Pt.slots] at X' e1 e2 h1 h2 h3 st
    subst h1; subst h2; subst h3
    exact Or.inl ⟨v, (T.setVm vm₁).calling g' mk As.toArray, t, U', L, hT, X', hL, e1, e2, hq, st⟩
  · dsimp only [Pt.U, Pt.locs, Pt.cells, Pt.slots] at X' e1 e2 h1 h2 h3 st hcl
    subst h1; subst h2; subst h3
    exact Or.inr ⟨q, (T.setVm vm₁).calling g' mk As.toArray, t, U', L, E, ce, hT, X', hL, e1, e2, hq, hce, hcv, vx_cls hW₁ hcl, st⟩
end
end VXH
theorem vx_ofWH {l : Launch} {y : MethodName} {ws ws' : List Cond} {rm : Room} {Pc : Array Value → State → Prop} {Qc : Array Value → State → Outcome → State → Prop} {XC : String → State → State → Prop} {mc ms : Nat} {free : Addr → Prop} {cc : ByteArray} {maxL : Nat} {ret : Option FieldType} {hh : List (Nat × Nat × Nat × Nat)}
    (hy : plainName y.cls = true) (hw : ws = Cond.codeWith y cc maxL ret hh :: ws')
    (body : ∀ p e s m args below meth c s₁, BodyLoose p l y (headSpec ws rm) cc maxL ret e s m args below meth c s₁ → c.maxLocals = maxL → Pc args s →
      W p l e (headSpec ws rm).room s m args below meth c s.heap [] 0 0 (vx_MQ below Qc XC args s mc ms free) (entryFrame m args maxL)) : vx_Met l y ws rm Pc Qc XC mc ms free := by
  refine MetFree.of_bodyS (code := cc) (maxLocals := maxL) (ret := ret) hy ?_ ?_
  · intro args s m h hn
    obtain ⟨m9, meth, c, hn9, h1, h2, h3, h4, -, h5, h6, -⟩ := Cond.codeWith_spec (atoms_spec (ws := ws) h _ (by rw [hw]; exact List.mem_cons_self))
    cases hn.symm.trans hn9
    exact ⟨meth, c, h1, h2, h3, h4, h5, h6⟩
  · intro p e s m args below meth c s₁ B hml hP _
    have hh0 : s₁.heap = s.heap := by rw [B.state]; rfl
    obtain ⟨t, a1, o, b1, b2, b3⟩ := body p e s m args below meth c s₁ B hml hP s₁ hh0 (Stand.of_body B)
    exact ⟨t, o, a1, b1, b2, b3⟩
/-! ===== END ===== -/
end
section
/-! ===== ONE JUDGEMENT OVER THE MACHINE: words, pictures of the heap, V ===== -/
/-- the words that every method takes with it -/
def TB : List Cond := lw_tbl.filter goodWord
theorem tb_in (i : Nat) {w : Cond} (h : lw_tbl[i]? = some w) (g : goodWord w = true) : w ∈ TB := List.mem_filter.mpr ⟨List.mem_of_getElem? h, g⟩
theorem tb_good : ∀ w ∈ TB, (w.onTables && w.keeps) = true ∨ ∃ ty, w = .arrayClass ty := fun w h => good_of_word (List.mem_filter.mp h).2
/-- base of the new cells, the script's address, class numbers, slots of fields, classes of arrays by kind -/
abbrev GG : Type := Nat × Nat × (Nat → ClassId) × (Nat → Nat → Nat) × (Nat → ClassId)
/-- how many cells, how many slots, each cell's kind, each array's length, references -/
abbrev Sh : Type := Nat × Nat × (Nat → Nat) × (Nat → Nat) × (Nat → Nat → Nat)
/-- the shape, and the ints -/
abbrev Hp : Type := Sh × (Nat → Nat → Int32)
/-- name, bytes, locals, what it returns, its handlers -/
abbrev MR : Type := MethodName × ByteArray × Nat × Option FieldType × List (Nat × Nat × Nat × Nat)
abbrev OU : Type := Option Value ⊕ String
abbrev nH (h : Hp) : Nat := h.1.1
abbrev zH (h : Hp) : Nat := h.1.2.1
abbrev kH (h : Hp) : Nat → Nat := h.1.2.2.1
abbrev lH (h : Hp) : Nat → Nat := h.1.2.2.2.1
abbrev rH (h : Hp) : Nat → Nat → Nat := h.1.2.2.2.2
/-- the kind of elements by the kind of array: 1 int, 2 byte, 3 boolean, 4 long, 5 State, 6 Image, 7 int[] -/
def aty : Nat → FieldType := fun k => match k with
  | 1 => .int
  | 2 => .byte
  | 3 => .boolean
  | 4 => .long
  | 5 => .object RX5
  | 6 => .object RX1
  | _ => .array .int
/-- the classes whose objects there are: kind 10 and the class's number -/
def cT : Nat → vw_C := fun ci => match ci with
  | 0 => (RX0, TX0, 2)
  | 1 => (RX1, TX1, 2)
  | 2 => (RX2, TX2, 6)
  | 3 => (RX3, TX3, 10)
  | 4 => (RX4, TX4, 8)
  | 5 => (RX5, TX5, 16)
  | 6 => (RX6, TX6, 1)
  | 7 => (RX7, TX7, 4)
  | 8 => (RX10, TX10, 38)
  | _ => (RX9, TX9, 16)
def cty : Nat → Nat → FieldType := fun ci => match ci with
  | 0 => tyX0
  | 1 => tyX1
  | 2 => tyX2
  | 3 => tyX3
  | 4 => tyX4
  | 5 => tyX5
  | 6 => tyX6
  | 7 => tyX7
  | 8 => tyX10
  | _ => tyX9
def adG (G : GG) (q : Nat) : Nat := if q = 1 then G.2.1 else G.1 + (q - 4)
def trV (G : GG) : Value → Value
  | .ref q => if q = 0 then .null else .ref (adG G q)
  | v => v
theorem trV_cat (G : GG) (v : Value) : (trV G v).category = v.category := by
  cases v with
  | ref q => unfold trV; dsimp only; split <;> rfl
  | _ => rfl
theorem trV_ref (G : GG) {q : Nat} (h : q ≠ 0) : trV G (.ref q) = .ref (adG G q) := if_neg h
theorem adG_inj (G : GG) {a b : Nat} (ha : 4 ≤ a) (hb : 4 ≤ b) (h : adG G a = adG G b) : a = b := by
  unfold adG at h
  rw [if_neg (by omega), if_neg (by omega)] at h
  omega
theorem adG_ge (G : GG) {a : Nat} (ha : 4 ≤ a) : G.1 ≤ adG G a := by
  unfold adG
  rw [if_neg (by omega)]
  omega
/-- what an array of a kind holds at a place -/
def aV (G : GG) (k : Nat) (I : Nat → Int32) (R : Nat → Nat) (j : Nat) : Value := if k = 4 then .long (I j).toInt64 else if 5 ≤ k then trV G (.ref (R j)) else .int (I j)
/-- what an object of a class holds in a field -/
def oV (G : GG) (ci : Nat) (I : Nat → Int32) (R : Nat → Nat) (j : Nat) : Value := if (cty ci j).isReference then trV G (.ref (R j)) else .int (I j)
def CR (G : GG) (h : Hp) (H : Heap) (r : Nat) : Prop :=
  (1 ≤ kH h r → kH h r < 8 → H[adG G r]? = some (arrV (G.2.2.2.2 (kH h r)) (lH h r) (aV G (kH h r) (h.2 r) (rH h r)))) ∧
  (10 ≤ kH h r → kH h r < 20 → t_OB (adG G r) (G.2.2.1 (kH h r - 10)) (cT (kH h r - 10)).2.2 (G.2.2.2.1 (kH h r - 10)) H (oV G (kH h r - 10) (h.2 r) (rH h r))) ∧
  (kH h r = 2 → ∀ j, j < lH h r → fits .byte (.int (h.2 r j)) = true)
def nestW : List (String × Nat × MethodName × String) := [(RX9, 18, yX0_init, RX9), (RX9, 35, yX2_init, RX9), (RX9, 42, yX6_init, RX9), (RX6, 11, yX2_init, RX9), (RX9, 53, yX3_init, RX9), (RX3, 11, yX4_init, RX9), (RX9, 388, yX1_init, RX9), (RX1, 18, yX0_init, RX9)]
def strW : List (String × Nat × String) := [(RX9, 181, "no such length"), (RX9, 397, "no such number"), (RX9, 406, "no such block"), (RX9, 409, "no such place"), (RX9, 401, "no such node"), (RX9, 242, "no such name"), (RX9, 411, "no such change"), (RX9, 415, "not so many changes")]
/-- what the tables say, at any state -/
def KR (G : GG) (U : State) : Prop :=
  (∀ ci, ci < 10 → u_Kn U (cT ci).1 (cT ci).2.1 (cT ci).2.2 (G.2.2.1 ci) (G.2.2.2.1 ci)) ∧
  (∀ k, 1 ≤ k → k < 8 → ArrOfT U (G.2.2.2.2 k) (aty k) ∧ va_RA U (G.2.2.2.2 k) (aty k)) ∧
  (∀ q ∈ nestW, va_Nw (.methodLinkNest q.1 q.2.1 q.2.2.1 q.2.2.2) U) ∧
  (va_AO RX5 U ∧ va_AO RX1 U) ∧
  (∀ q ∈ strW, ∃ a, vk_R q.1 q.2.1 q.2.2 a U)
theorem KR.moved {G : GG} {s U : State} (hW : s.WarmedH U.vm) (h : KR G s) : KR G U := by
  obtain ⟨h1, h2, h3, h4, h5⟩ := h
  refine ⟨fun ci hc => u_Kn_moved hW.alike (h1 ci hc), fun k a b => ⟨arrOfT_moved hW.alike (h2 k a b).1, va_RA.moved hW.alike (h2 k a b).2⟩, fun q hq => va_Nw.warmM hW (h3 q hq), ⟨va_AO.moved hW.alike h4.1, va_AO.moved hW.alike h4.2⟩, fun q hq => ?_⟩
  obtain ⟨a, ha⟩ := h5 q hq
  exact ⟨a, vk_R.warm hW ha⟩
def ZR (G : GG) (U : State) (H : Heap) : Prop := vx_Zq Bundle.tN "UNASSIGNED_STACK" Bundle.steD (fun q => G.1 ≤ q) U H ∧ vx_Zq Bundle.tN "SUPPRESSED_SENTINEL" Bundle.listD (fun q => G.1 ≤ q) U H
/-- the script, which nobody writes -/
def XR (G : GG) (h : Hp) (U : State) (H : Heap) : Prop := va_X G.2.1 (lH h 1) (h.2 1) U H
def WR (G : GG) (h : Hp) (U : State) (H : Heap) : Prop :=
  4 ≤ nH h ∧ H.size = G.1 + (nH h - 4) ∧ G.2.1 < G.1 ∧ (kH h 0 = 0 ∧ kH h 1 = 8 ∧ kH h 2 = 0 ∧ kH h 3 = 0) ∧ (∀ r, nH h ≤ r → kH h r = 0) ∧ (∀ r, 4 ≤ r → r < nH h → CR G h H r) ∧ KR G U ∧ ZR G U H ∧ XR G h U H
theorem WR.in {G : GG} {h : Hp} {U : State} {H : Heap} (w : WR G h U H) {r k : Nat} (hk : kH h r = k) (h0 : 1 ≤ k) (h8 : k ≠ 8) : 4 ≤ r ∧ r < nH h := by
  obtain ⟨w1, w2, w3, ⟨k0, k1, k2, k3⟩, w5, w6⟩ := w
  refine ⟨?_, ?_⟩
  · rcases Nat.lt_or_ge r 4 with hl | hg
    · have : r = 0 ∨ r = 1 ∨ r = 2 ∨ r = 3 := by omega
      rcases this with rfl | rfl | rfl | rfl <;> omega
    · exact hg
  · rcases Nat.lt_or_ge r (nH h) with hl | hg
    · exact hl
    · have := w5 r hg
      omega
theorem va_X.keep {b L : Nat} {xs : Nat → Int32} {U : State} {H H' : Heap} (h : va_X b L xs U H) (e : H'[b]? = H[b]?) : va_X b L xs U H' := by
  obtain ⟨scr, h1, h2⟩ := h
  exact ⟨scr, by rw [e]; exact h1, h2⟩
theorem va_X.move {b L : Nat} {xs : Nat → Int32} {s U : State} {H : Heap} (hvm : s.vm.Alike U.vm) (h : va_X b L xs s H) : va_X b L xs U H := by
  obtain ⟨scr, h1, h2, h3⟩ := h
  exact ⟨scr, h1, State.isArrayOf_alike hvm h2, h3⟩
theorem WR.moved {G : GG} {h : Hp} {s U : State} {H : Heap} (hW : s.WarmedH U.vm) (w : WR G h s H) : WR G h U H := by
  obtain ⟨w1, w2, w3, w4, w5, w6, w7, w8, w9⟩ := w
  exact ⟨w1, w2, w3, w4, w5, w6, w7.moved hW, ⟨vx_Zq.moved hW.alike w8.1, vx_Zq.moved hW.alike w8.2⟩, va_X.move hW.alike w9⟩
/-- one cell is written -/
theorem WR.set {G : GG} {h h' : Hp} {s : State} {H H' : Heap} (w : WR G h s H) {r : Nat} (hr : 4 ≤ r) (hsz : H'.size = H.size) (ho : ∀ q, q ≠ adG G r → H'[q]? = H[q]?)
    (hn : nH h' = nH h) (hk : kH h' = kH h) (hl : lH h' = lH h) (hI : ∀ a, a ≠ r → h'.2 a = h.2 a) (hR : ∀ a, a ≠ r → rH h' a = rH h a) (hc : CR G h' H' r) : WR G h' s H' := by
  obtain ⟨w1, w2, w3, w4, w5, w6, w7, w8, w9⟩ := w
  have hb : adG G r ≠ G.2.1 := by have := adG_ge G hr; omega
  have keep : ∀ a : Nat, a < H.size → ¬ G.1 ≤ a → H'[a]? = H[a]? := fun a _ h2 => ho a (by have := adG_ge G hr; omega)
  refine ⟨by rw [hn]; exact w1, by rw [hsz, hn]; exact w2, w3, by rw [hk]; exact w4, by rw [hn, hk]; exact w5, fun a h4 ha => ?_, w7, ⟨w8.1.kept keep, w8.2.kept keep⟩, ?_⟩
  · by_cases e : a = r
    · subst e; exact hc
    · have hne : adG G a ≠ adG G r := fun q => e (adG_inj G h4 hr q)
      obtain ⟨c1, c2, c3⟩ := w6 a h4 (by rw [hn] at ha; exact ha)
      refine ⟨?_, ?_, ?_⟩
      · rw [hk, hl, hI a e, hR a e, ho _ hne]; exact c1
      · rw [hk, hI a e, hR a e]; exact fun x y => (c2 x y).kept (ho _ hne)
      · rw [hk, hl, hI a e]; exact c3
  · unfold XR
    rw [hl, hI 1 (by omega)]
    exact va_X.keep w9 (ho _ (fun q => hb q.symm))
/-- one cell is made -/
theorem WR.push {G : GG} {h h' : Hp} {s : State} {H H' : Heap} (w : WR G h s H) (hsz : H'.size = H.size + 1) (ho : ∀ q, q < H.size → H'[q]? = H[q]?)
    (hn : nH h' = nH h + 1) (hk : ∀ a, a ≠ nH h → kH h' a = kH h a) (hl : ∀ a, a ≠ nH h → lH h' a = lH h a) (hI : ∀ a, a ≠ nH h → h'.2 a = h.2 a) (hR : ∀ a, a ≠ nH h → rH h' a = rH h a) (hc : CR G h' H' (nH h)) : WR G h' s H' := by
  obtain ⟨w1, w2, w3, w4, w5, w6, w7, w8, w9⟩ := w
  have had : ∀ a, 4 ≤ a → a < nH h → adG G a < H.size := fun a h4 ha => by unfold adG; rw [if_neg (by omega)]; omega
  have keep : ∀ a : Nat, a < H.size → ¬ G.1 ≤ a → H'[a]? = H[a]? := fun a h2 _ => ho a h2
  refine ⟨by omega, by omega, w3, ⟨?_, ?_, ?_, ?_⟩, fun a ha => by rw [hk a (by omega)]; exact w5 a (by omega), fun a h4 ha => ?_, w7, ⟨w8.1.kept keep, w8.2.kept keep⟩, ?_⟩
  · rw [hk 0 (by omega)]; exact w4.1
  · rw [hk 1 (by omega)]; exact w4.2.1
  · rw [hk 2 (by omega)]; exact w4.2.2.1
  · rw [hk 3 (by omega)]; exact w4.2.2.2
  · by_cases e : a = nH h
    · subst e; exact hc
    · obtain ⟨c1, c2, c3⟩ := w6 a h4 (by omega)
      have hq := ho _ (had a h4 (by omega))
      refine ⟨?_, ?_, ?_⟩
      · rw [hk a e, hl a e, hI a e, hR a e, hq]; exact c1
      · rw [hk a e, hI a e, hR a e]; exact fun x y => (c2 x y).kept hq
      · rw [hk a e, hl a e, hI a e]; exact c3
  · unfold XR
    rw [hl 1 (by omega), hI 1 (by omega)]
    exact va_X.keep w9 (ho _ (by omega))
/-! locals -/
def isV : Value → Bool
  | .int _ => true
  | .ref _ => true
  | _ => false
/-- a local of which nothing is known -/
def uV : Value := .double 0
def LR (G : GG) (loc : List Value) (ls : Array Slot) : Prop := ls.size = loc.length ∧ lv_wf ls ∧ ∀ (i : Nat) (v : Value), loc[i]? = some v → isV v = true → ls[i]? = some (.val (trV G v))
def lvl (G : GG) (loc : List Value) : List (Nat × Value) := (List.range loc.length).filterMap (fun i => (loc[i]?).bind fun v => if isV v then some (i, trV G v) else none)
theorem lvl_mem {G : GG} {loc : List Value} {i : Nat} {v : Value} (h : loc[i]? = some v) (hv : isV v = true) : (i, trV G v) ∈ lvl G loc := by
  refine List.mem_filterMap.mpr ⟨i, List.mem_range.mpr (List.getElem?_eq_some_iff.mp h).1, ?_⟩
  rw [h]
  simp [hv]
theorem LR.has {G : GG} {loc : List Value} {ls : Array Slot} (h : LR G loc ls) : lv_has ls loc.length (lvl G loc) := by
  refine ⟨h.1, h.2.1, fun q hq => ?_⟩
  obtain ⟨i, -, hi⟩ := List.mem_filterMap.mp hq
  obtain ⟨v, hv, hi⟩ := Option.bind_eq_some_iff.mp hi
  by_cases e : isV v = true
  · rw [if_pos e] at hi
    cases hi
    exact h.2.2 i v hv e
  · rw [if_neg e] at hi; cases hi
theorem LR.back {G : GG} {loc : List Value} {ls' : Array Slot} {i : Nat} {v w : Value} (hw : trV G v = w) (h : lv_has ls' loc.length ((i, w) :: (lvl G loc).filter (fun q => !(q.1 == i) && !(q.1 + 1 == i && q.2.category == 2)))) : LR G (loc.set i v) ls' := by
  obtain ⟨h1, h2, h3⟩ := h
  refine ⟨by rw [List.length_set]; exact h1, h2, fun j x hj hx => ?_⟩
  rw [List.getElem?_set] at hj
  by_cases e : i = j
  · subst e
    rw [if_pos rfl] at hj
    split at hj
    · cases hj
      rw [hw]
      exact h3 (i, w) List.mem_cons_self
    · cases hj
  · rw [if_neg e] at hj
    refine h3 (j, trV G x) (List.mem_cons_of_mem _ (List.mem_filter.mpr ⟨lvl_mem hj hx, ?_⟩))
    have hc : (trV G x).category ≠ 2 := by
      rw [trV_cat]
      cases x <;> first | (cases hx; done) | simp [Value.category]
    simp [Ne.symm e, hc]
/-- fewer locals are known -/
def lle : List Value → List Value → Bool
  | [], [] => true
  | a :: l, b :: r => (a == uV || a == b) && lle l r
  | _, _ => false
theorem lle_at : ∀ {l r : List Value}, lle l r = true → l.length = r.length ∧ ∀ (i : Nat) (v : Value), l[i]? = some v → v = uV ∨ r[i]? = some v
  | [], [], _ => ⟨rfl, fun i v h => by simp at h⟩
  | a :: l, b :: r, h => by
    simp only [lle, Bool.and_eq_true, Bool.or_eq_true, beq_iff_eq] at h
    obtain ⟨e, k⟩ := lle_at h.2
    refine ⟨by simp [e], fun i v hv => ?_⟩
    cases i with
    | zero =>
      simp at hv
      subst hv
      rcases h.1 with q | q
      · exact Or.inl q
      · exact Or.inr (by simp [q])
    | succ i =>
      simp at hv
      rcases k i v hv with q | q
      · exact Or.inl q
      · exact Or.inr (by simpa using q)
  | [], _ :: _, h => by cases h
  | _ :: _, [], h => by cases h
theorem LR.less {G : GG} {l r : List Value} {ls : Array Slot} (h : LR G r ls) (hl : l.length = r.length) (hk : ∀ (i : Nat) (v : Value), l[i]? = some v → v = uV ∨ r[i]? = some v) : LR G l ls := by
  refine ⟨by rw [hl]; exact h.1, h.2.1, fun i v hv hx => ?_⟩
  rcases hk i v hv with q | q
  · subst q; cases hx
  · exact h.2.2 i v q hx
end
section
/-! ===== THE JUDGEMENT ===== -/
/-- the heap's picture alone, for whoever knows the tables -/
def WH (G : GG) (h : Hp) (U : State) (H : Heap) : Prop := ∀ s : State, KR G s → s.vm.Alike U.vm → WR G h s H
theorem WH.of {G : GG} {h : Hp} {s U : State} {H : Heap} (w : WR G h s H) (hA : s.vm.Alike U.vm) : WH G h U H := fun s' k' a' => by
  obtain ⟨w1, w2, w3, w4, w5, w6, w7, w8, w9⟩ := w
  have e := hA.trans a'.symm
  exact ⟨w1, w2, w3, w4, w5, w6, k', ⟨vx_Zq.moved e w8.1, vx_Zq.moved e w8.2⟩, va_X.move e w9⟩
def VQc (G : GG) (o : OU) (h' : Hp) : Array Value → State → Outcome → State → Prop := fun _ _ oc t => (∃ v : Option Value, o = .inl v ∧ oc = .returned (v.map (trV G))) ∧ WH G h' t t.heap
def VXc (G : GG) (o : OU) (h' : Hp) : String → State → State → Prop := fun E _ t => o = .inr E ∧ WH G h' t t.heap
abbrev VQ (G : GG) (o : OU) (h' : Hp) (below : List Frame) (args : Array Value) (s : State) (mc ms : Nat) : State → Prop := vx_MQ below (VQc G o h') (VXc G o h') args s mc ms (fun q => G.1 ≤ q)
def Cx (M : MR) (d : Nat) (p : Program) (l : Launch) (R : Room) (s : State) (m : MethodId) (args : Array Value) (meth : Method) (c : Code) : Prop :=
  p.tables.exec = Jvm.exec ∧ c.code = M.2.1 ∧ c.maxLocals = M.2.2.1 ∧ meth.sig.returnType = M.2.2.2.1 ∧ s.vm.findClass M.1.cls = some m.cls ∧ (∀ w ∈ TB, w.before args s = true) ∧ meth.locks = false ∧ meth.name = M.1.name ∧ c.exceptionTable.toList = tableOf M.2.2.2.2 ∧ l.stackTraces = false ∧ d ≤ R.frames ∧ 64 * d ≤ R.locals
theorem Cx.ex {M : MR} {d : Nat} {p : Program} {l : Launch} {R : Room} {s : State} {m : MethodId} {args : Array Value} {meth : Method} {c : Code} (x : Cx M d p l R s m args meth c) : p.tables.exec = Jvm.exec := x.1
theorem Cx.by {M : MR} {d : Nat} {p : Program} {l : Launch} {R : Room} {s : State} {m : MethodId} {args : Array Value} {meth : Method} {c : Code} (x : Cx M d p l R s m args meth c) : c.code = M.2.1 := x.2.1
theorem Cx.ml {M : MR} {d : Nat} {p : Program} {l : Launch} {R : Room} {s : State} {m : MethodId} {args : Array Value} {meth : Method} {c : Code} (x : Cx M d p l R s m args meth c) : c.maxLocals = M.2.2.1 := x.2.2.1
theorem Cx.rt {M : MR} {d : Nat} {p : Program} {l : Launch} {R : Room} {s : State} {m : MethodId} {args : Array Value} {meth : Method} {c : Code} (x : Cx M d p l R s m args meth c) : meth.sig.returnType = M.2.2.2.1 := x.2.2.2.1
theorem Cx.ow {M : MR} {d : Nat} {p : Program} {l : Launch} {R : Room} {s : State} {m : MethodId} {args : Array Value} {meth : Method} {c : Code} (x : Cx M d p l R s m args meth c) : s.vm.findClass M.1.cls = some m.cls := x.2.2.2.2.1
theorem Cx.ts {M : MR} {d : Nat} {p : Program} {l : Launch} {R : Room} {s : State} {m : MethodId} {args : Array Value} {meth : Method} {c : Code} (x : Cx M d p l R s m args meth c) : ∀ w ∈ TB, w.before args s = true := x.2.2.2.2.2.1
theorem Cx.lk {M : MR} {d : Nat} {p : Program} {l : Launch} {R : Room} {s : State} {m : MethodId} {args : Array Value} {meth : Method} {c : Code} (x : Cx M d p l R s m args meth c) : meth.locks = false := x.2.2.2.2.2.2.1
theorem Cx.nm {M : MR} {d : Nat} {p : Program} {l : Launch} {R : Room} {s : State} {m : MethodId} {args : Array Value} {meth : Method} {c : Code} (x : Cx M d p l R s m args meth c) : meth.name = M.1.name := x.2.2.2.2.2.2.2.1
theorem Cx.tb {M : MR} {d : Nat} {p : Program} {l : Launch} {R : Room} {s : State} {m : MethodId} {args : Array Value} {meth : Method} {c : Code} (x : Cx M d p l R s m args meth c) : c.exceptionTable.toList = tableOf M.2.2.2.2 := x.2.2.2.2.2.2.2.2.1
theorem Cx.st {M : MR} {d : Nat} {p : Program} {l : Launch} {R : Room} {s : State} {m : MethodId} {args : Array Value} {meth : Method} {c : Code} (x : Cx M d p l R s m args meth c) : l.stackTraces = false := x.2.2.2.2.2.2.2.2.2.1
theorem Cx.fr {M : MR} {d : Nat} {p : Program} {l : Launch} {R : Room} {s : State} {m : MethodId} {args : Array Value} {meth : Method} {c : Code} (x : Cx M d p l R s m args meth c) : d ≤ R.frames := x.2.2.2.2.2.2.2.2.2.2.1
theorem Cx.lo {M : MR} {d : Nat} {p : Program} {l : Launch} {R : Room} {s : State} {m : MethodId} {args : Array Value} {meth : Method} {c : Code} (x : Cx M d p l R s m args meth c) : 64 * d ≤ R.locals := x.2.2.2.2.2.2.2.2.2.2.2
/-- from pc, with these locals and this stack, over this heap, the method ends with o, and the heap is h' then -/
def V (G : GG) (M : MR) (d pc : Nat) (loc st : List Value) (h : Hp) (o : OU) (h' : Hp) : Prop :=
  (nH h ≤ nH h' ∧ zH h ≤ zH h') ∧ ∀ (p : Program) (l : Launch) (e : Env) (R : Room) (s : State) (m : MethodId) (args : Array Value) (below : List Frame) (meth : Method) (c : Code) (H : Heap) (locs : List Loc) (ls : Array Slot) (cells slots mc ms : Nat),
    Cx M d p l R s m args meth c → WR G h s H → LR G loc ls → loc.length = M.2.2.1 → (∀ z ∈ locs, G.1 ≤ z.base) → cells + (nH h' - nH h) ≤ mc → slots + (zH h' - zH h) ≤ ms → mc ≤ R.cells → ms ≤ R.slots →
    W p l e R s m args below meth c H locs cells slots (VQ G o h' below args s mc ms) (F0 m pc ls (st.map (trV G)))
section VR
variable {G : GG} {M : MR} {d pc pc' : Nat} {loc loc' st st' : List Value} {h : Hp} {o : OU} {h' : Hp}
/-- a row of the machine that touches neither heap nor locals -/
theorem V.row (row : ∀ (p : Program) (l : Launch) (e : Env) (R : Room) (s : State) (m : MethodId) (args : Array Value) (below : List Frame) (meth : Method) (c : Code) (H : Heap) (locs : List Loc) (ls : Array Slot) (cells slots : Nat) (Q : State → Prop), Cx M d p l R s m args meth c → LR G loc ls →
      W p l e R s m args below meth c H locs cells slots Q (F0 m pc' ls (st'.map (trV G))) → W p l e R s m args below meth c H locs cells slots Q (F0 m pc ls (st.map (trV G))))
    (k : V G M d pc' loc st' h o h') : V G M d pc loc st h o h' :=
  ⟨k.1, fun p l e R s m args below meth c H locs ls cells slots mc ms cx wr lr ll hl h1 h2 h3 h4 => row p l e R s m args below meth c H locs ls cells slots _ cx lr (k.2 p l e R s m args below meth c H locs ls cells slots mc ms cx wr lr ll hl h1 h2 h3 h4)⟩
/-- the same with new locals -/
theorem V.rowL (ll' : loc'.length = loc.length) (row : ∀ (p : Program) (l : Launch) (e : Env) (R : Room) (s : State) (m : MethodId) (args : Array Value) (below : List Frame) (meth : Method) (c : Code) (H : Heap) (locs : List Loc) (ls : Array Slot) (cells slots : Nat) (Q : State → Prop), Cx M d p l R s m args meth c → LR G loc ls →
      (∀ ls', LR G loc' ls' → W p l e R s m args below meth c H locs cells slots Q (F0 m pc' ls' (st'.map (trV G)))) → W p l e R s m args below meth c H locs cells slots Q (F0 m pc ls (st.map (trV G))))
    (k : V G M d pc' loc' st' h o h') : V G M d pc loc st h o h' :=
  ⟨k.1, fun p l e R s m args below meth c H locs ls cells slots mc ms cx wr lr ll hl h1 h2 h3 h4 => row p l e R s m args below meth c H locs ls cells slots _ cx lr (fun ls' lr' => k.2 p l e R s m args below meth c H locs ls' cells slots mc ms cx wr lr' (ll'.trans ll) hl h1 h2 h3 h4)⟩
/-- a branch -/
theorem V.rowB {c1 c2 : Prop} {pc1 pc2 : Nat} (row : ∀ (p : Program) (l : Launch) (e : Env) (R : Room) (s : State) (m : MethodId) (args : Array Value) (below : List Frame) (meth : Method) (c : Code) (H : Heap) (locs : List Loc) (ls : Array Slot) (cells slots : Nat) (Q : State → Prop), Cx M d p l R s m args meth c →
      (c1 → W p l e R s m args below meth c H locs cells slots Q (F0 m pc1 ls (st'.map (trV G)))) → (c2 → W p l e R s m args below meth c H locs cells slots Q (F0 m pc2 ls (st'.map (trV G)))) → W p l e R s m args below meth c H locs cells slots Q (F0 m pc ls (st.map (trV G))))
    (hc : c1 ∨ c2) (k : (c1 → V G M d pc1 loc st' h o h') ∧ (c2 → V G M d pc2 loc st' h o h')) : V G M d pc loc st h o h' := by
  refine ⟨hc.elim (fun x => (k.1 x).1) (fun x => (k.2 x).1), fun p l e R s m args below meth c H locs ls cells slots mc ms cx wr lr ll hl h1 h2 h3 h4 => row p l e R s m args below meth c H locs ls cells slots _ cx (fun x => ?_) (fun x => ?_)⟩
  · exact (k.1 x).2 p l e R s m args below meth c H locs ls cells slots mc ms cx wr lr ll hl h1 h2 h3 h4
  · exact (k.2 x).2 p l e R s m args below meth c H locs ls cells slots mc ms cx wr lr ll hl h1 h2 h3 h4
/-- deeper is no harm; fewer known locals are enough -/
theorem V.up {d' : Nat} (hd : d' ≤ d) (k : V G M d' pc loc st h o h') : V G M d pc loc st h o h' :=
  ⟨k.1, fun p l e R s m args below meth c H locs ls cells slots mc ms cx wr lr ll hl h1 h2 h3 h4 => k.2 p l e R s m args below meth c H locs ls cells slots mc ms ⟨cx.1, cx.2.1, cx.2.2.1, cx.2.2.2.1, cx.2.2.2.2.1, cx.2.2.2.2.2.1, cx.2.2.2.2.2.2.1, cx.2.2.2.2.2.2.2.1, cx.2.2.2.2.2.2.2.2.1, cx.2.2.2.2.2.2.2.2.2.1, Nat.le_trans hd cx.fr, Nat.le_trans (Nat.mul_le_mul_left 64 hd) cx.lo⟩ wr lr ll hl h1 h2 h3 h4⟩
theorem V.less {l : List Value} (hl : l.length = loc.length) (hk : ∀ (i : Nat) (v : Value), l[i]? = some v → v = uV ∨ loc[i]? = some v) (k : V G M d pc l st h o h') : V G M d pc loc st h o h' :=
  ⟨k.1, fun p l' e R s m args below meth c H locs ls cells slots mc ms cx wr lr ll hl1 h1 h2 h3 h4 => k.2 p l' e R s m args below meth c H locs ls cells slots mc ms cx wr (lr.less hl hk) (hl.trans ll) hl1 h1 h2 h3 h4⟩
theorem V.forget {l : List Value} (hl : lle l loc = true) (k : V G M d pc l st h o h') : V G M d pc loc st h o h' := V.less (lle_at hl).1 (lle_at hl).2 k
end VR
end
section
/-! ===== ROWS OF V: stack, locals, branches ===== -/
def llp : List Value → List Value → Prop
  | [], [] => True
  | a :: l, b :: r => (a = uV ∨ a = b) ∧ llp l r
  | _, _ => False
theorem llp_at : ∀ {l r : List Value}, llp l r → l.length = r.length ∧ ∀ (i : Nat) (v : Value), l[i]? = some v → v = uV ∨ r[i]? = some v
  | [], [], _ => ⟨rfl, fun i v h => by simp at h⟩
  | a :: l, b :: r, h => by
    obtain ⟨e, k⟩ := llp_at h.2
    refine ⟨by simp [e], fun i v hv => ?_⟩
    cases i with
    | zero =>
      simp at hv
      subst hv
      rcases h.1 with q | q
      · exact Or.inl q
      · exact Or.inr (by simp [q])
    | succ i =>
      simp at hv
      rcases k i v hv with q | q
      · exact Or.inl q
      · exact Or.inr (by simpa using q)
  | [], _ :: _, h => h.elim
  | _ :: _, [], h => h.elim
section W0
variable {p : Program} {l : Launch} {e : Env} {R : Room} {s : State} {m : MethodId} {args : Array Value} {below : List Frame} {meth : Method} {c : Code} {H : Heap} {locs : List Loc} {cells slots : Nat} {Q : State → Prop}
variable {cc : ByteArray} {pc : Nat} {ls : Array Slot} {rest : List Value}
theorem lw_aloadN (hexec : p.tables.exec = Jvm.exec) (hb : c.code = cc) {i : Nat} (hdg : decode cc pc = .ok (.aload i, 2)) (hl : ls[i]? = some (.val .null))
    (k : W p l e R s m args below meth c H locs cells slots Q (F0 m (pc + 2) ls (.null :: rest))) : W p l e R s m args below meth c H locs cells slots Q (F0 m pc ls (rest)) := by
  intro T hT X
  obtain ⟨t, a, b⟩ := k T hT X
  refine ⟨t, ?_, b⟩
  jvm_step X.here [X.here.top, hexec, hb, hdg, hl, Value.isRef]
  exact a
theorem lw_aload_nN (hexec : p.tables.exec = Jvm.exec) (hb : c.code = cc) {k : Fin 4} {i : Nat} (hdg : decode cc pc = .ok (.aload_n k, 1)) (hi : (k : Nat) = i) (hl : ls[i]? = some (.val .null))
    (kk : W p l e R s m args below meth c H locs cells slots Q (F0 m (pc + 1) ls (.null :: rest))) : W p l e R s m args below meth c H locs cells slots Q (F0 m pc ls (rest)) := by
  subst hi
  intro T hT X
  obtain ⟨t, a, b⟩ := kk T hT X
  refine ⟨t, ?_, b⟩
  jvm_step X.here [X.here.top, hexec, hb, hdg, hl, Value.isRef]
  exact a
theorem lw_astoreN (hexec : p.tables.exec = Jvm.exec) (hb : c.code = cc) {i nL : Nat} {lv lv' : List (Nat × Value)} (hdg : decode cc pc = .ok (.astore i, 2)) (h : lv_has ls nL lv) (hn : i < nL) (hl : (i, Value.null) :: lv.filter (fun q => !(q.1 == i) && !(q.1 + 1 == i && q.2.category == 2)) = lv')
    (kk : ∀ ls' : Array Slot, lv_has ls' nL lv' → W p l e R s m args below meth c H locs cells slots Q (F0 m (pc + 2) ls' rest)) : W p l e R s m args below meth c H locs cells slots Q (F0 m pc ls (.null :: rest)) := by
  obtain ⟨ls', e', h'⟩ := lv_store1 (v := .null) h hn rfl
  intro T hT X
  obtain ⟨t, a, b⟩ := kk ls' (hl ▸ h') T hT X
  refine ⟨t, ?_, b⟩
  jvm_step X.here [X.here.top, ↓top_set X.here.top, hexec, hb, hdg, e', Value.isRef]
  exact a
theorem lw_astore_nN (hexec : p.tables.exec = Jvm.exec) (hb : c.code = cc) {k : Fin 4} {i nL : Nat} {lv lv' : List (Nat × Value)} (hdg : decode cc pc = .ok (.astore_n k, 1)) (hi : (k : Nat) = i) (h : lv_has ls nL lv) (hn : i < nL) (hl : (i, Value.null) :: lv.filter (fun q => !(q.1 == i) && !(q.1 + 1 == i && q.2.category == 2)) = lv')
    (kk : ∀ ls' : Array Slot, lv_has ls' nL lv' → W p l e R s m args below meth c H locs cells slots Q (F0 m (pc + 1) ls' rest)) : W p l e R s m args below meth c H locs cells slots Q (F0 m pc ls (.null :: rest)) := by
  subst hi
  obtain ⟨ls', e', h'⟩ := lv_store1 (v := .null) h hn rfl
  intro T hT X
  obtain ⟨t, a, b⟩ := kk ls' (hl ▸ h') T hT X
  refine ⟨t, ?_, b⟩
  jvm_step X.here [X.here.top, ↓top_set X.here.top, hexec, hb, hdg, e', Value.isRef]
  exact a
end W0
section VS
variable {G : GG} {M : MR} {d pc pc' : Nat} {loc loc' st st' : List Value} {h : Hp} {o : OU} {h' : Hp}
theorem V.drop {l : List Value} (hl : llp l loc) (k : V G M d pc l st h o h') : V G M d pc loc st h o h' := V.less (llp_at hl).1 (llp_at hl).2 k
theorem v_iconst {n : Int} {v : Int32} (hd : decode M.2.1 pc = .ok (.iconst n, 1)) (hp : pc + 1 = pc') (hv : Int32.ofInt n = v) (k : V G M d pc' loc (.int v :: st) h o h') : V G M d pc loc st h o h' := by
  subst hp
  exact V.row (fun p l e R s m args below meth c H locs ls cells slots Q cx lr k => lv_iconst cx.ex cx.by hd hv k) k
theorem v_bipush {n : Int} {v : Int32} (hd : decode M.2.1 pc = .ok (.bipush n, 2)) (hp : pc + 2 = pc') (hv : (Int8.ofInt n).toInt32 = v) (k : V G M d pc' loc (.int v :: st) h o h') : V G M d pc loc st h o h' := by
  subst hp
  exact V.row (fun p l e R s m args below meth c H locs ls cells slots Q cx lr k => lv_bipush cx.ex cx.by hd hv k) k
theorem v_sipush {n : Int} {v : Int32} (hd : decode M.2.1 pc = .ok (.sipush n, 3)) (hp : pc + 3 = pc') (hv : (Int16.ofInt n).toInt32 = v) (k : V G M d pc' loc (.int v :: st) h o h') : V G M d pc loc st h o h' := by
  subst hp
  exact V.row (fun p l e R s m args below meth c H locs ls cells slots Q cx lr k => lv_sipush cx.ex cx.by hd hv k) k
theorem v_iload_n {q : Fin 4} {x : Int32} (hd : decode M.2.1 pc = .ok (.iload_n q, 1)) (hp : pc + 1 = pc') (hl : loc[(q : Nat)]? = some (.int x)) (k : V G M d pc' loc (.int x :: st) h o h') : V G M d pc loc st h o h' := by
  subst hp
  exact V.row (fun p l e R s m args below meth c H locs ls cells slots Q cx lr k => lv_iload_n cx.ex cx.by hd rfl (lr.2.2 _ _ hl rfl) k) k
theorem v_iload {i : Nat} {x : Int32} (hd : decode M.2.1 pc = .ok (.iload i, 2)) (hp : pc + 2 = pc') (hl : loc[i]? = some (.int x)) (k : V G M d pc' loc (.int x :: st) h o h') : V G M d pc loc st h o h' := by
  subst hp
  exact V.row (fun p l e R s m args below meth c H locs ls cells slots Q cx lr k => lv_iload cx.ex cx.by hd (lr.2.2 _ _ hl rfl) k) k
theorem v_aload_n {q : Fin 4} {x : Nat} (hd : decode M.2.1 pc = .ok (.aload_n q, 1)) (hp : pc + 1 = pc') (hl : loc[(q : Nat)]? = some (.ref x)) (k : V G M d pc' loc (.ref x :: st) h o h') : V G M d pc loc st h o h' := by
  subst hp
  refine V.row (fun p l e R s m args below meth c H locs ls cells slots Q cx lr k => ?_) k
  have h1 := lr.2.2 _ _ hl rfl
  by_cases e0 : x = 0
  · subst e0; exact lw_aload_nN cx.ex cx.by hd rfl h1 k
  · rw [trV_ref G e0] at h1
    rw [List.map_cons, trV_ref G e0] at k
    exact lv_aload_n cx.ex cx.by hd rfl h1 k
theorem v_aload {i x : Nat} (hd : decode M.2.1 pc = .ok (.aload i, 2)) (hp : pc + 2 = pc') (hl : loc[i]? = some (.ref x)) (k : V G M d pc' loc (.ref x :: st) h o h') : V G M d pc loc st h o h' := by
  subst hp
  refine V.row (fun p l e R s m args below meth c H locs ls cells slots Q cx lr k => ?_) k
  have h1 := lr.2.2 _ _ hl rfl
  by_cases e0 : x = 0
  · subst e0; exact lw_aloadN cx.ex cx.by hd h1 k
  · rw [trV_ref G e0] at h1
    rw [List.map_cons, trV_ref G e0] at k
    exact lv_aload cx.ex cx.by hd h1 k
theorem v_istore_n {q : Fin 4} {x : Int32} (hd : decode M.2.1 pc = .ok (.istore_n q, 1)) (hp : pc + 1 = pc') (hn : (q : Nat) < loc.length) (hl : loc.set (q : Nat) (.int x) = loc') (k : V G M d pc' loc' st h o h') : V G M d pc loc (.int x :: st) h o h' := by
  subst hp; subst hl
  exact V.rowL (List.length_set ..) (fun p l e R s m args below meth c H locs ls cells slots Q cx lr k => lv_istore_n cx.ex cx.by hd rfl lr.has hn rfl (fun ls' hl' => k ls' (LR.back rfl hl'))) k
theorem v_istore {i : Nat} {x : Int32} (hd : decode M.2.1 pc = .ok (.istore i, 2)) (hp : pc + 2 = pc') (hn : i < loc.length) (hl : loc.set i (.int x) = loc') (k : V G M d pc' loc' st h o h') : V G M d pc loc (.int x :: st) h o h' := by
  subst hp; subst hl
  exact V.rowL (List.length_set ..) (fun p l e R s m args below meth c H locs ls cells slots Q cx lr k => lv_istore cx.ex cx.by hd lr.has hn rfl (fun ls' hl' => k ls' (LR.back rfl hl'))) k
theorem v_astore_n {q : Fin 4} {x : Nat} (hd : decode M.2.1 pc = .ok (.astore_n q, 1)) (hp : pc + 1 = pc') (hn : (q : Nat) < loc.length) (hl : loc.set (q : Nat) (.ref x) = loc') (k : V G M d pc' loc' st h o h') : V G M d pc loc (.ref x :: st) h o h' := by
  subst hp; subst hl
  refine V.rowL (List.length_set ..) (fun p l e R s m args below meth c H locs ls cells slots Q cx lr k => ?_) k
  by_cases e0 : x = 0
  · subst e0; exact lw_astore_nN cx.ex cx.by hd rfl lr.has hn rfl (fun ls' hl' => k ls' (LR.back rfl hl'))
  · rw [List.map_cons, trV_ref G e0]
    exact lv_astore_n cx.ex cx.by hd rfl lr.has hn rfl (fun ls' hl' => k ls' (LR.back (trV_ref G e0) hl'))
theorem v_astore {i x : Nat} (hd : decode M.2.1 pc = .ok (.astore i, 2)) (hp : pc + 2 = pc') (hn : i < loc.length) (hl : loc.set i (.ref x) = loc') (k : V G M d pc' loc' st h o h') : V G M d pc loc (.ref x :: st) h o h' := by
  subst hp; subst hl
  refine V.rowL (List.length_set ..) (fun p l e R s m args below meth c H locs ls cells slots Q cx lr k => ?_) k
  by_cases e0 : x = 0
  · subst e0; exact lw_astoreN cx.ex cx.by hd lr.has hn rfl (fun ls' hl' => k ls' (LR.back rfl hl'))
  · rw [List.map_cons, trV_ref G e0]
    exact lv_astore cx.ex cx.by hd lr.has hn rfl (fun ls' hl' => k ls' (LR.back (trV_ref G e0) hl'))
theorem v_iinc {i : Nat} {n : Int} {x v : Int32} (hd : decode M.2.1 pc = .ok (.iinc i n, 3)) (hp : pc + 3 = pc') (hx : loc[i]? = some (.int x)) (hv : x + Int32.ofInt n = v) (hl : loc.set i (.int v) = loc') (k : V G M d pc' loc' st h o h') : V G M d pc loc st h o h' := by
  subst hp; subst hl
  refine V.rowL (List.length_set ..) (fun p l e R s m args below meth c H locs ls cells slots Q cx lr k => ?_) k
  obtain ⟨kk, hkk⟩ := List.getElem?_of_mem (lvl_mem (G := G) hx rfl)
  exact lv_iinc cx.ex cx.by hd lr.has hkk hv (List.getElem?_eq_some_iff.mp hx).1 rfl (fun ls' hl' => k ls' (LR.back rfl hl'))
theorem v_iadd {x y : Int32} (hd : decode M.2.1 pc = .ok (.iadd, 1)) (hp : pc + 1 = pc') (k : V G M d pc' loc (.int (x + y) :: st) h o h') : V G M d pc loc (.int y :: .int x :: st) h o h' := by
  subst hp
  exact V.row (fun p l e R s m args below meth c H locs ls cells slots Q cx lr k => lv_iadd cx.ex cx.by hd k) k
theorem v_isub {x y : Int32} (hd : decode M.2.1 pc = .ok (.isub, 1)) (hp : pc + 1 = pc') (k : V G M d pc' loc (.int (x - y) :: st) h o h') : V G M d pc loc (.int y :: .int x :: st) h o h' := by
  subst hp
  exact V.row (fun p l e R s m args below meth c H locs ls cells slots Q cx lr k => lv_isub cx.ex cx.by hd k) k
theorem v_imul {x y : Int32} (hd : decode M.2.1 pc = .ok (.imul, 1)) (hp : pc + 1 = pc') (k : V G M d pc' loc (.int (x * y) :: st) h o h') : V G M d pc loc (.int y :: .int x :: st) h o h' := by
  subst hp
  exact V.row (fun p l e R s m args below meth c H locs ls cells slots Q cx lr k => lv_imul cx.ex cx.by hd k) k
theorem v_iand {x y : Int32} (hd : decode M.2.1 pc = .ok (.iand, 1)) (hp : pc + 1 = pc') (k : V G M d pc' loc (.int (x &&& y) :: st) h o h') : V G M d pc loc (.int y :: .int x :: st) h o h' := by
  subst hp
  exact V.row (fun p l e R s m args below meth c H locs ls cells slots Q cx lr k => lv_iand cx.ex cx.by hd k) k
theorem v_ior {x y : Int32} (hd : decode M.2.1 pc = .ok (.ior, 1)) (hp : pc + 1 = pc') (k : V G M d pc' loc (.int (x ||| y) :: st) h o h') : V G M d pc loc (.int y :: .int x :: st) h o h' := by
  subst hp
  exact V.row (fun p l e R s m args below meth c H locs ls cells slots Q cx lr k => lv_ior cx.ex cx.by hd k) k
theorem v_ixor {x y : Int32} (hd : decode M.2.1 pc = .ok (.ixor, 1)) (hp : pc + 1 = pc') (k : V G M d pc' loc (.int (x ^^^ y) :: st) h o h') : V G M d pc loc (.int y :: .int x :: st) h o h' := by
  subst hp
  exact V.row (fun p l e R s m args below meth c H locs ls cells slots Q cx lr k => lv_ixor cx.ex cx.by hd k) k
theorem v_ishl {x y : Int32} (hd : decode M.2.1 pc = .ok (.ishl, 1)) (hp : pc + 1 = pc') (k : V G M d pc' loc (.int (x <<< (y &&& 31)) :: st) h o h') : V G M d pc loc (.int y :: .int x :: st) h o h' := by
  subst hp
  exact V.row (fun p l e R s m args below meth c H locs ls cells slots Q cx lr k => lv_ishl cx.ex cx.by hd k) k
theorem v_ishr {x y : Int32} (hd : decode M.2.1 pc = .ok (.ishr, 1)) (hp : pc + 1 = pc') (k : V G M d pc' loc (.int (x >>> (y &&& 31)) :: st) h o h') : V G M d pc loc (.int y :: .int x :: st) h o h' := by
  subst hp
  exact V.row (fun p l e R s m args below meth c H locs ls cells slots Q cx lr k => lv_ishr cx.ex cx.by hd k) k
theorem v_idiv {x y : Int32} (hd : decode M.2.1 pc = .ok (.idiv, 1)) (hp : pc + 1 = pc') (hy : ¬ y = 0) (k : V G M d pc' loc (.int (x / y) :: st) h o h') : V G M d pc loc (.int y :: .int x :: st) h o h' := by
  subst hp
  exact V.row (fun p l e R s m args below meth c H locs ls cells slots Q cx lr k => lv_idiv cx.ex cx.by hd hy k) k
theorem v_irem {x y : Int32} (hd : decode M.2.1 pc = .ok (.irem, 1)) (hp : pc + 1 = pc') (hy : ¬ y = 0) (k : V G M d pc' loc (.int (x - x / y * y) :: st) h o h') : V G M d pc loc (.int y :: .int x :: st) h o h' := by
  subst hp
  exact V.row (fun p l e R s m args below meth c H locs ls cells slots Q cx lr k => lv_irem cx.ex cx.by hd hy k) k
/-- the unsigned shift -/
def ushr (x y : Int32) : Int32 := (x.toUInt32 >>> (y.toUInt32 &&& Int32.toUInt32 31)).toInt32
theorem v_iushr {x y : Int32} (hd : decode M.2.1 pc = .ok (.iushr, 1)) (hp : pc + 1 = pc') (k : V G M d pc' loc (.int (ushr x y) :: st) h o h') : V G M d pc loc (.int y :: .int x :: st) h o h' := by
  subst hp
  exact V.row (fun p l e R s m args below meth c H locs ls cells slots Q cx lr k => lv_iushr cx.ex cx.by hd rfl k) k
theorem v_ineg {x : Int32} (hd : decode M.2.1 pc = .ok (.ineg, 1)) (hp : pc + 1 = pc') (k : V G M d pc' loc (.int (-x) :: st) h o h') : V G M d pc loc (.int x :: st) h o h' := by
  subst hp
  exact V.row (fun p l e R s m args below meth c H locs ls cells slots Q cx lr k => lv_ineg cx.ex cx.by hd k) k
theorem v_i2l {x : Int32} (hd : decode M.2.1 pc = .ok (.i2l, 1)) (hp : pc + 1 = pc') (k : V G M d pc' loc (.long x.toInt64 :: st) h o h') : V G M d pc loc (.int x :: st) h o h' := by
  subst hp
  exact V.row (fun p l e R s m args below meth c H locs ls cells slots Q cx lr k => lv_i2l cx.ex cx.by hd rfl k) k
theorem v_i2b {x : Int32} (hd : decode M.2.1 pc = .ok (.i2b, 1)) (hp : pc + 1 = pc') (k : V G M d pc' loc (.int x.toInt8.toInt32 :: st) h o h') : V G M d pc loc (.int x :: st) h o h' := by
  subst hp
  exact V.row (fun p l e R s m args below meth c H locs ls cells slots Q cx lr k => lv_i2b cx.ex cx.by hd rfl k) k
theorem v_lcmp {x y : Int64} (hd : decode M.2.1 pc = .ok (.lcmp, 1)) (hp : pc + 1 = pc') (k : V G M d pc' loc (.int (lg_cmp x y) :: st) h o h') : V G M d pc loc (.long y :: .long x :: st) h o h' := by
  subst hp
  exact V.row (fun p l e R s m args below meth c H locs ls cells slots Q cx lr k => W.lcmp cx.ex cx.by hd k) k
theorem v_dup {v : Value} (hd : decode M.2.1 pc = .ok (.dup, 1)) (hp : pc + 1 = pc') (hv : v.category = 1) (k : V G M d pc' loc (v :: v :: st) h o h') : V G M d pc loc (v :: st) h o h' := by
  subst hp
  exact V.row (fun p l e R s m args below meth c H locs ls cells slots Q cx lr k => lv_dup cx.ex cx.by hd ((trV_cat G v).trans hv) k) k
theorem v_dup_x1 {v w : Value} (hd : decode M.2.1 pc = .ok (.dup_x1, 1)) (hp : pc + 1 = pc') (hv : v.category = 1) (hw : w.category = 1) (k : V G M d pc' loc (v :: w :: v :: st) h o h') : V G M d pc loc (v :: w :: st) h o h' := by
  subst hp
  exact V.row (fun p l e R s m args below meth c H locs ls cells slots Q cx lr k => lv_dup_x1 cx.ex cx.by hd ((trV_cat G v).trans hv) ((trV_cat G w).trans hw) k) k
theorem v_dup2 {v w : Value} (hd : decode M.2.1 pc = .ok (.dup2, 1)) (hp : pc + 1 = pc') (hv : v.category = 1) (hw : w.category = 1) (k : V G M d pc' loc (v :: w :: v :: w :: st) h o h') : V G M d pc loc (v :: w :: st) h o h' := by
  subst hp
  exact V.row (fun p l e R s m args below meth c H locs ls cells slots Q cx lr k => lv_dup2_11 cx.ex cx.by hd ((trV_cat G v).trans hv) ((trV_cat G w).trans hw) k) k
theorem v_pop {v : Value} (hd : decode M.2.1 pc = .ok (.pop, 1)) (hp : pc + 1 = pc') (hv : v.category = 1) (k : V G M d pc' loc st h o h') : V G M d pc loc (v :: st) h o h' := by
  subst hp
  exact V.row (fun p l e R s m args below meth c H locs ls cells slots Q cx lr k => lv_pop cx.ex cx.by hd ((trV_cat G v).trans hv) k) k
theorem v_goto {off : Int} (hd : decode M.2.1 pc = .ok (.goto off, 3)) (ht : (pc : Int) + off = (pc' : Int)) (k : V G M d pc' loc st h o h') : V G M d pc loc st h o h' :=
  V.row (fun p l e R s m args below meth c H locs ls cells slots Q cx lr k => lv_goto cx.ex cx.by hd ht k) k
theorem v_ldc {index : Nat} {v : Int32} (hd : decode M.2.1 pc = .ok (.ldc index, 2)) (hp : pc + 2 = pc') (hw : Cond.constant M.1.cls index v ∈ TB) (k : V G M d pc' loc (.int v :: st) h o h') : V G M d pc loc st h o h' := by
  subst hp
  exact V.row (fun p l e R s m args below meth c H locs ls cells slots Q cx lr k => lv_ldc cx.ex cx.by cx.ow (cx.ts _ hw) hd k) k
theorem v_if_eq {x : Int32} {off : Int} {tgt : Nat} (hd : decode M.2.1 pc = .ok (.ifCond .eq off, 3)) (ht : (pc : Int) + off = (tgt : Int)) (hp : pc + 3 = pc') (k : (x = 0 → V G M d tgt loc st h o h') ∧ (¬ x = 0 → V G M d pc' loc st h o h')) : V G M d pc loc (.int x :: st) h o h' := by
  subst hp
  exact V.rowB (fun p l e R s m args below meth c H locs ls cells slots Q cx k1 k2 => lv_if_eq cx.ex cx.by hd ht k1 k2) (Classical.em _) k
theorem v_if_ne {x : Int32} {off : Int} {tgt : Nat} (hd : decode M.2.1 pc = .ok (.ifCond .ne off, 3)) (ht : (pc : Int) + off = (tgt : Int)) (hp : pc + 3 = pc') (k : (¬ x = 0 → V G M d tgt loc st h o h') ∧ (x = 0 → V G M d pc' loc st h o h')) : V G M d pc loc (.int x :: st) h o h' := by
  subst hp
  exact V.rowB (fun p l e R s m args below meth c H locs ls cells slots Q cx k1 k2 => lv_if_ne cx.ex cx.by hd ht k1 k2) ((Classical.em _).symm) k
theorem v_if_lt {x : Int32} {off : Int} {tgt : Nat} (hd : decode M.2.1 pc = .ok (.ifCond .lt off, 3)) (ht : (pc : Int) + off = (tgt : Int)) (hp : pc + 3 = pc') (k : (x < 0 → V G M d tgt loc st h o h') ∧ (¬ x < 0 → V G M d pc' loc st h o h')) : V G M d pc loc (.int x :: st) h o h' := by
  subst hp
  exact V.rowB (fun p l e R s m args below meth c H locs ls cells slots Q cx k1 k2 => lv_if_lt cx.ex cx.by hd ht k1 k2) (Classical.em _) k
theorem v_if_ge {x : Int32} {off : Int} {tgt : Nat} (hd : decode M.2.1 pc = .ok (.ifCond .ge off, 3)) (ht : (pc : Int) + off = (tgt : Int)) (hp : pc + 3 = pc') (k : (0 ≤ x → V G M d tgt loc st h o h') ∧ (¬ 0 ≤ x → V G M d pc' loc st h o h')) : V G M d pc loc (.int x :: st) h o h' := by
  subst hp
  exact V.rowB (fun p l e R s m args below meth c H locs ls cells slots Q cx k1 k2 => lv_if_ge cx.ex cx.by hd ht k1 k2) (Classical.em _) k
theorem v_if_gt {x : Int32} {off : Int} {tgt : Nat} (hd : decode M.2.1 pc = .ok (.ifCond .gt off, 3)) (ht : (pc : Int) + off = (tgt : Int)) (hp : pc + 3 = pc') (k : (0 < x → V G M d tgt loc st h o h') ∧ (¬ 0 < x → V G M d pc' loc st h o h')) : V G M d pc loc (.int x :: st) h o h' := by
  subst hp
  exact V.rowB (fun p l e R s m args below meth c H locs ls cells slots Q cx k1 k2 => lv_if_gt cx.ex cx.by hd ht k1 k2) (Classical.em _) k
theorem v_if_le {x : Int32} {off : Int} {tgt : Nat} (hd : decode M.2.1 pc = .ok (.ifCond .le off, 3)) (ht : (pc : Int) + off = (tgt : Int)) (hp : pc + 3 = pc') (k : (x ≤ 0 → V G M d tgt loc st h o h') ∧ (¬ x ≤ 0 → V G M d pc' loc st h o h')) : V G M d pc loc (.int x :: st) h o h' := by
  subst hp
  exact V.rowB (fun p l e R s m args below meth c H locs ls cells slots Q cx k1 k2 => lv_if_le cx.ex cx.by hd ht k1 k2) (Classical.em _) k
theorem v_icmp_eq {x y : Int32} {off : Int} {tgt : Nat} (hd : decode M.2.1 pc = .ok (.if_icmp .eq off, 3)) (ht : (pc : Int) + off = (tgt : Int)) (hp : pc + 3 = pc') (k : (x = y → V G M d tgt loc st h o h') ∧ (¬ x = y → V G M d pc' loc st h o h')) : V G M d pc loc (.int y :: .int x :: st) h o h' := by
  subst hp
  exact V.rowB (fun p l e R s m args below meth c H locs ls cells slots Q cx k1 k2 => lv_icmp_eq cx.ex cx.by hd ht k1 k2) (Classical.em _) k
theorem v_icmp_ne {x y : Int32} {off : Int} {tgt : Nat} (hd : decode M.2.1 pc = .ok (.if_icmp .ne off, 3)) (ht : (pc : Int) + off = (tgt : Int)) (hp : pc + 3 = pc') (k : (¬ x = y → V G M d tgt loc st h o h') ∧ (x = y → V G M d pc' loc st h o h')) : V G M d pc loc (.int y :: .int x :: st) h o h' := by
  subst hp
  exact V.rowB (fun p l e R s m args below meth c H locs ls cells slots Q cx k1 k2 => lv_icmp_ne cx.ex cx.by hd ht k1 k2) ((Classical.em _).symm) k
theorem v_icmp_lt {x y : Int32} {off : Int} {tgt : Nat} (hd : decode M.2.1 pc = .ok (.if_icmp .lt off, 3)) (ht : (pc : Int) + off = (tgt : Int)) (hp : pc + 3 = pc') (k : (x < y → V G M d tgt loc st h o h') ∧ (¬ x < y → V G M d pc' loc st h o h')) : V G M d pc loc (.int y :: .int x :: st) h o h' := by
  subst hp
  exact V.rowB (fun p l e R s m args below meth c H locs ls cells slots Q cx k1 k2 => lv_icmp_lt cx.ex cx.by hd ht k1 k2) (Classical.em _) k
theorem v_icmp_ge {x y : Int32} {off : Int} {tgt : Nat} (hd : decode M.2.1 pc = .ok (.if_icmp .ge off, 3)) (ht : (pc : Int) + off = (tgt : Int)) (hp : pc + 3 = pc') (k : (y ≤ x → V G M d tgt loc st h o h') ∧ (¬ y ≤ x → V G M d pc' loc st h o h')) : V G M d pc loc (.int y :: .int x :: st) h o h' := by
  subst hp
  exact V.rowB (fun p l e R s m args below meth c H locs ls cells slots Q cx k1 k2 => lv_icmp_ge cx.ex cx.by hd ht k1 k2) (Classical.em _) k
theorem v_icmp_gt {x y : Int32} {off : Int} {tgt : Nat} (hd : decode M.2.1 pc = .ok (.if_icmp .gt off, 3)) (ht : (pc : Int) + off = (tgt : Int)) (hp : pc + 3 = pc') (k : (y < x → V G M d tgt loc st h o h') ∧ (¬ y < x → V G M d pc' loc st h o h')) : V G M d pc loc (.int y :: .int x :: st) h o h' := by
  subst hp
  exact V.rowB (fun p l e R s m args below meth c H locs ls cells slots Q cx k1 k2 => lv_icmp_gt cx.ex cx.by hd ht k1 k2) (Classical.em _) k
theorem v_icmp_le {x y : Int32} {off : Int} {tgt : Nat} (hd : decode M.2.1 pc = .ok (.if_icmp .le off, 3)) (ht : (pc : Int) + off = (tgt : Int)) (hp : pc + 3 = pc') (k : (x ≤ y → V G M d tgt loc st h o h') ∧ (¬ x ≤ y → V G M d pc' loc st h o h')) : V G M d pc loc (.int y :: .int x :: st) h o h' := by
  subst hp
  exact V.rowB (fun p l e R s m args below meth c H locs ls cells slots Q cx k1 k2 => lv_icmp_le cx.ex cx.by hd ht k1 k2) (Classical.em _) k
theorem v_ifnull {x : Nat} {off : Int} {tgt : Nat} (hd : decode M.2.1 pc = .ok (.ifnull off, 3)) (ht : (pc : Int) + off = (tgt : Int)) (hp : pc + 3 = pc') (k : (x = 0 → V G M d tgt loc st h o h') ∧ (¬ x = 0 → V G M d pc' loc st h o h')) : V G M d pc loc (.ref x :: st) h o h' := by
  subst hp
  refine V.rowB (fun p l e R s m args below meth c H locs ls cells slots Q cx k1 k2 => ?_) (Classical.em _) k
  by_cases e0 : x = 0
  · subst e0; exact lv_ifnullN cx.ex cx.by hd ht (k1 rfl)
  · rw [List.map_cons, trV_ref G e0]; exact lv_ifnull cx.ex cx.by hd (k2 e0)
theorem v_ifnonnull {x : Nat} {off : Int} {tgt : Nat} (hd : decode M.2.1 pc = .ok (.ifnonnull off, 3)) (ht : (pc : Int) + off = (tgt : Int)) (hp : pc + 3 = pc') (k : (¬ x = 0 → V G M d tgt loc st h o h') ∧ (x = 0 → V G M d pc' loc st h o h')) : V G M d pc loc (.ref x :: st) h o h' := by
  subst hp
  refine V.rowB (fun p l e R s m args below meth c H locs ls cells slots Q cx k1 k2 => ?_) (Classical.em _).symm k
  by_cases e0 : x = 0
  · subst e0; exact lv_ifnonnullN cx.ex cx.by hd (k2 rfl)
  · rw [List.map_cons, trV_ref G e0]; exact lv_ifnonnull cx.ex cx.by hd ht (k1 e0)
/-- a table of jumps: one place -/
theorem v_switchIn {dflt lo hi : Int} {offs : Array Int} {len : Nat} {x : Int32} {off : Int} (hd : decode M.2.1 pc = .ok (.tableswitch dflt lo hi offs, len)) (h1 : ¬ x.toInt < lo) (h2 : ¬ hi < x.toInt) (ho : offs[(x.toInt - lo).toNat]? = some off) (ht : (pc : Int) + off = (pc' : Int)) (k : V G M d pc' loc st h o h') : V G M d pc loc (.int x :: st) h o h' :=
  V.row (fun p l e R s m args below meth c H locs ls cells slots Q cx lr k => lv_tableIn cx.ex cx.by hd h1 h2 ho ht k) k
theorem v_switchOut {dflt lo hi : Int} {offs : Array Int} {len : Nat} {x : Int32} (hd : decode M.2.1 pc = .ok (.tableswitch dflt lo hi offs, len)) (hx : x.toInt < lo ∨ hi < x.toInt) (ht : (pc : Int) + dflt = (pc' : Int)) (k : V G M d pc' loc st h o h') : V G M d pc loc (.int x :: st) h o h' :=
  V.row (fun p l e R s m args below meth c H locs ls cells slots Q cx lr k => lv_tableOut cx.ex cx.by hd hx ht k) k
end VS
end
section
/-! ===== ROWS OF V: returns, fields, arrays ===== -/
def ws_ok (L : List Cond) : Bool := L.all (fun w => decide (w ∈ lw_tbl) && goodWord w)
theorem ws_tb {L : List Cond} (h : ws_ok L = true) : ∀ w ∈ L, w ∈ TB := fun w hw => by
  have h1 := List.all_eq_true.mp h w hw
  simp only [Bool.and_eq_true, decide_eq_true_eq] at h1
  exact List.mem_filter.mpr h1
theorem cT_in0 : ws_ok (u_ws RX0 TX0 2) = true := by decide +kernel
theorem cT_in1 : ws_ok (u_ws RX1 TX1 2) = true := by decide +kernel
theorem cT_in2 : ws_ok (u_ws RX2 TX2 6) = true := by decide +kernel
theorem cT_in3 : ws_ok (u_ws RX3 TX3 10) = true := by decide +kernel
theorem cT_in4 : ws_ok (u_ws RX4 TX4 8) = true := by decide +kernel
theorem cT_in5 : ws_ok (u_ws RX5 TX5 16) = true := by decide +kernel
theorem cT_in6 : ws_ok (u_ws RX6 TX6 1) = true := by decide +kernel
theorem cT_in7 : ws_ok (u_ws RX7 TX7 4) = true := by decide +kernel
theorem cT_in8 : ws_ok (u_ws RX10 TX10 38) = true := by decide +kernel
theorem cT_in9 : ws_ok (u_ws RX9 TX9 16) = true := by decide +kernel
theorem cT_in : ∀ ci, ci < 10 → ∀ w ∈ u_ws (cT ci).1 (cT ci).2.1 (cT ci).2.2, w ∈ TB
  | 0, _ => ws_tb cT_in0
  | 1, _ => ws_tb cT_in1
  | 2, _ => ws_tb cT_in2
  | 3, _ => ws_tb cT_in3
  | 4, _ => ws_tb cT_in4
  | 5, _ => ws_tb cT_in5
  | 6, _ => ws_tb cT_in6
  | 7, _ => ws_tb cT_in7
  | 8, _ => ws_tb cT_in8
  | 9, _ => ws_tb cT_in9
  | n + 10, h => absurd h (by omega)
theorem cT_nm : ∀ ci, ci < 10 → ∀ a, a < (cT ci).2.2 → ∀ b, b < (cT ci).2.2 → a ≠ b → ((cT ci).2.1 a).2.1 ≠ ((cT ci).2.1 b).2.1
  | 0, _ => nmX0
  | 1, _ => nmX1
  | 2, _ => nmX2
  | 3, _ => nmX3
  | 4, _ => nmX4
  | 5, _ => nmX5
  | 6, _ => nmX6
  | 7, _ => nmX7
  | 8, _ => nmX10
  | 9, _ => nmX9
  | n + 10, h => absurd h (by omega)
theorem cT_ty : ∀ ci, ci < 10 → ∀ k, k < (cT ci).2.2 → parseFieldDescriptor ((cT ci).2.1 k).2.2.1 = some (cty ci k)
  | 0, _ => tyX0_ok
  | 1, _ => tyX1_ok
  | 2, _ => tyX2_ok
  | 3, _ => tyX3_ok
  | 4, _ => tyX4_ok
  | 5, _ => tyX5_ok
  | 6, _ => tyX6_ok
  | 7, _ => tyX7_ok
  | 8, _ => tyX10_ok
  | 9, _ => tyX9_ok
  | n + 10, h => absurd h (by omega)
theorem cT_nt {ci k : Nat} (h : (cty ci k).isReference = false) : cty ci k = .int := by
  revert h
  unfold cty
  split
  · unfold tyX0; split <;> intro h <;> first | rfl | (cases h)
  · unfold tyX1; split <;> intro h <;> first | rfl | (cases h)
  · unfold tyX2; split <;> intro h <;> first | rfl | (cases h)
  · unfold tyX3; split <;> intro h <;> first | rfl | (cases h)
  · unfold tyX4; split <;> intro h <;> first | rfl | (cases h)
  · unfold tyX5; split <;> intro h <;> first | rfl | (cases h)
  · unfold tyX6; first | (split <;> intro h <;> first | rfl | (cases h)) | (intro h; cases h)
  · unfold tyX7; split <;> intro h <;> first | rfl | (cases h)
  · unfold tyX10; split <;> intro h <;> first | rfl | (cases h)
  · unfold tyX9; split <;> intro h <;> first | rfl | (cases h)
def upI (I : Nat → Nat → Int32) (r i : Nat) (v : Int32) : Nat → Nat → Int32 := fun a j => if a = r ∧ j = i then v else I a j
def upR (R : Nat → Nat → Nat) (r i q : Nat) : Nat → Nat → Nat := fun a j => if a = r ∧ j = i then q else R a j
theorem upI_ne {I : Nat → Nat → Int32} {r i : Nat} {v : Int32} {a : Nat} (h : a ≠ r) : upI I r i v a = I a := by funext j; simp [upI, h]
theorem upR_ne {I : Nat → Nat → Nat} {r i : Nat} {v : Nat} {a : Nat} (h : a ≠ r) : upR I r i v a = I a := by funext j; simp [upR, h]
theorem upI_at {I : Nat → Nat → Int32} {r i : Nat} {v : Int32} (j : Nat) : upI I r i v r j = if j = i then v else I r j := by simp [upI]
theorem upR_at {I : Nat → Nat → Nat} {r i : Nat} {v : Nat} (j : Nat) : upR I r i v r j = if j = i then v else I r j := by simp [upR]
abbrev sI (h : Hp) (r i : Nat) (v : Int32) : Hp := (h.1, upI h.2 r i v)
abbrev sR (h : Hp) (r i q : Nat) : Hp := ((h.1.1, h.1.2.1, h.1.2.2.1, h.1.2.2.2.1, upR h.1.2.2.2.2 r i q), h.2)
theorem vp_lt {i : Int32} {n : Nat} (h : vp_in i n) : i.toNatClampNeg < n := by
  unfold vp_in at h
  omega
section VH
variable {G : GG} {M : MR} {d pc pc' : Nat} {loc loc' st st' : List Value} {h : Hp} {o : OU} {h' : Hp}
theorem v_iret {x : Int32} (hd : decode M.2.1 pc = .ok (.ireturn, 1)) (hr : M.2.2.2.1 = some .int) (k : o = .inl (some (.int x)) ∧ h' = h) : V G M d pc loc [.int x] h o h' := by
  obtain ⟨rfl, rfl⟩ := k
  refine ⟨⟨Nat.le_refl _, Nat.le_refl _⟩, fun p l e R s m args below meth c H locs ls cells slots mc ms cx wr lr ll hl h1 h2 h3 h4 => ?_⟩
  have hlk := cx.lk
  refine vx_ret (W.widen (k := mc) (n := ms) (by omega) (by omega) ?_)
  exact W.iret cx.ex cx.by (cx.rt.trans hr) (fun t ht hW => ⟨⟨_, rfl, rfl⟩, by rw [ht]; exact WH.of wr hW.alike⟩) hl hd
theorem v_zret {x : Int32} (hd : decode M.2.1 pc = .ok (.ireturn, 1)) (hr : M.2.2.2.1 = some .boolean) (hz : x = 0 ∨ x = 1) (k : o = .inl (some (.int x)) ∧ h' = h) : V G M d pc loc [.int x] h o h' := by
  obtain ⟨rfl, rfl⟩ := k
  refine ⟨⟨Nat.le_refl _, Nat.le_refl _⟩, fun p l e R s m args below meth c H locs ls cells slots mc ms cx wr lr ll hl h1 h2 h3 h4 => ?_⟩
  have hlk := cx.lk
  refine vx_ret (W.widen (k := mc) (n := ms) (by omega) (by omega) ?_)
  exact W.zret cx.ex cx.by (cx.rt.trans hr) (by rcases hz with rfl | rfl <;> rfl) (fun t ht hW => ⟨⟨_, rfl, rfl⟩, by rw [ht]; exact WH.of wr hW.alike⟩) hl hd
theorem v_vret (hd : decode M.2.1 pc = .ok (.return_, 1)) (hr : M.2.2.2.1 = none) (k : o = .inl none ∧ h' = h) : V G M d pc loc [] h o h' := by
  obtain ⟨rfl, rfl⟩ := k
  refine ⟨⟨Nat.le_refl _, Nat.le_refl _⟩, fun p l e R s m args below meth c H locs ls cells slots mc ms cx wr lr ll hl h1 h2 h3 h4 => ?_⟩
  have hlk := cx.lk
  refine vx_ret (W.widen (k := mc) (n := ms) (by omega) (by omega) ?_)
  exact W.vret cx.ex cx.by (cx.rt.trans hr) (fun t ht hW => ⟨⟨none, rfl, rfl⟩, by rw [ht]; exact WH.of wr hW.alike⟩) hl hd
/-- a field of ints -/
theorem v_getI (ci k : Nat) {idx r : Nat} (hd : decode M.2.1 pc = .ok (.getfield idx, 3)) (hp : pc + 3 = pc') (hci : ci < 10) (hkN : k < (cT ci).2.2) (hty : (cty ci k).isReference = false) (hw : Cond.fieldLink M.1.cls idx ((cT ci).2.1 k).1 ((cT ci).2.1 k).2.1 ((cT ci).2.1 k).2.2.1 ∈ TB)
    (hk : kH h r = 10 + ci) (kk : V G M d pc' loc (.int (h.2 r k) :: st) h o h') : V G M d pc loc (.ref r :: st) h o h' := by
  subst hp
  refine ⟨kk.1, fun p l e R s m args below meth c H locs ls cells slots mc ms cx wr lr ll hl h1 h2 h3 h4 => ?_⟩
  obtain ⟨r4, rn⟩ := wr.in hk (by omega) (by omega)
  have kk := kk.2 p l e R s m args below meth c H locs ls cells slots mc ms cx wr lr ll hl h1 h2 h3 h4
  obtain ⟨w1, w2, w3, w4, w5, w6, w7, w8, w9⟩ := wr
  obtain ⟨cell, q1, q2, q3, q4⟩ := (w6 r r4 rn).2.1 (by omega) (by omega)
  rw [show kH h r - 10 = ci by omega] at q2 q4
  obtain ⟨hS, hfc, kC, hkC, hkind⟩ := w7.1 ci hci
  obtain ⟨cf, kf, fi, f, hi, hsl⟩ := hS k hkN
  rw [List.map_cons, trV_ref G (by omega)]
  refine W.getf cx.ex cx.by cx.ow (cx.ts _ hw) hi (u_facts hfc hkC (u_lays cx.ts (cT_in ci hci) hkN) hi).1 q1 (by rw [q3]; exact fun h => by cases h) (v := .int (h.2 r k)) ?_ rfl rfl hd kk
  rw [hsl, q4 k hkN]
  unfold oV
  rw [hty]
  rfl
/-- a field of references -/
theorem v_getR (ci k : Nat) {idx r : Nat} (hd : decode M.2.1 pc = .ok (.getfield idx, 3)) (hp : pc + 3 = pc') (hci : ci < 10) (hkN : k < (cT ci).2.2) (hty : (cty ci k).isReference = true) (hw : Cond.fieldLink M.1.cls idx ((cT ci).2.1 k).1 ((cT ci).2.1 k).2.1 ((cT ci).2.1 k).2.2.1 ∈ TB)
    (hk : kH h r = 10 + ci) (kk : V G M d pc' loc (.ref (rH h r k) :: st) h o h') : V G M d pc loc (.ref r :: st) h o h' := by
  subst hp
  refine ⟨kk.1, fun p l e R s m args below meth c H locs ls cells slots mc ms cx wr lr ll hl h1 h2 h3 h4 => ?_⟩
  obtain ⟨r4, rn⟩ := wr.in hk (by omega) (by omega)
  have kk := kk.2 p l e R s m args below meth c H locs ls cells slots mc ms cx wr lr ll hl h1 h2 h3 h4
  obtain ⟨w1, w2, w3, w4, w5, w6, w7, w8, w9⟩ := wr
  obtain ⟨cell, q1, q2, q3, q4⟩ := (w6 r r4 rn).2.1 (by omega) (by omega)
  rw [show kH h r - 10 = ci by omega] at q2 q4
  obtain ⟨hS, hfc, kC, hkC, hkind⟩ := w7.1 ci hci
  obtain ⟨cf, kf, fi, f, hi, hsl⟩ := hS k hkN
  rw [List.map_cons, trV_ref G (by omega)]
  refine W.getf cx.ex cx.by cx.ow (cx.ts _ hw) hi (u_facts hfc hkC (u_lays cx.ts (cT_in ci hci) hkN) hi).1 q1 (by rw [q3]; exact fun h => by cases h) (v := trV G (.ref (rH h r k))) ?_ rfl rfl hd kk
  rw [hsl, q4 k hkN]
  unfold oV
  rw [hty]
  rfl
theorem cT_apart {s : State} {args : Array Value} (ts : ∀ w ∈ TB, w.before args s = true) (kr : KR G s) {ci : Nat} (hci : ci < 10) : ∀ x y, x < (cT ci).2.2 → y < (cT ci).2.2 → x ≠ y → (G.2.2.2.1 ci) x ≠ (G.2.2.2.1 ci) y := by
  intro x y hx hy hne
  obtain ⟨hS, -⟩ := kr.1 ci hci
  obtain ⟨_, _, _, fa, hia, ea⟩ := hS x hx
  obtain ⟨_, _, _, fb, hib, eb⟩ := hS y hy
  rw [← ea, ← eb]
  refine u_apart (u_lays ts (cT_in ci hci) hx) (u_lays ts (cT_in ci hci) hy) hia hib ?_
  rw [(State.fieldFound?_type hia (cT_ty ci hci x hx)).1, (State.fieldFound?_type hib (cT_ty ci hci y hy)).1]
  exact cT_nm ci hci x hx y hy hne
theorem CR.obj {h2 : Hp} {H' : Heap} {r ci k : Nat} (hk : kH h2 r = 10 + ci) (hci : ci < 10) {cell : Cell} {I : Nat → Int32} {R : Nat → Nat} {v : Value} {j : Nat} (e1 : H'[adG G r]? = some (cell.setSlot (G.2.2.2.1 ci k) v)) (q2 : cell.cls = G.2.2.1 ci) (q3 : cell.vm = .none)
    (q4 : ∀ k, k < (cT ci).2.2 → cell.slots[G.2.2.2.1 ci k]? = some (oV G ci I R k)) (hap : ∀ x y, x < (cT ci).2.2 → y < (cT ci).2.2 → x ≠ y → (G.2.2.2.1 ci) x ≠ (G.2.2.2.1 ci) y) (hkN : k < (cT ci).2.2) (hv : ∀ j, j < (cT ci).2.2 → updV (oV G ci I R) k v j = oV G ci (h2.2 r) (rH h2 r) j) : CR G h2 H' r := by
  refine ⟨fun a b => by omega, fun a b => ?_, fun a => by omega⟩
  rw [show kH h2 r - 10 = ci by omega]
  exact t_OB.to (V := updV (oV G ci I R) k v) ⟨_, e1, q2, q3, t_set q4 hap hkN v⟩ hv
/-- an int is put into a field -/
theorem v_putI (ci k : Nat) {idx r : Nat} {x : Int32} (hd : decode M.2.1 pc = .ok (.putfield idx, 3)) (hp : pc + 3 = pc') (hci : ci < 10) (hkN : k < (cT ci).2.2) (hty : (cty ci k).isReference = false) (hfin : ((cT ci).2.1 k).2.2.2 = false) (hw : Cond.fieldLink M.1.cls idx ((cT ci).2.1 k).1 ((cT ci).2.1 k).2.1 ((cT ci).2.1 k).2.2.1 ∈ TB)
    (hk : kH h r = 10 + ci) (kk : V G M d pc' loc st (sI h r k x) o h') : V G M d pc loc (.int x :: .ref r :: st) h o h' := by
  subst hp
  refine ⟨kk.1, fun p l e R s m args below meth c H locs ls cells slots mc ms cx wr lr ll hl h1 h2 h3 h4 => ?_⟩
  obtain ⟨r4, rn⟩ := wr.in hk (by omega) (by omega)
  have wr0 := wr
  obtain ⟨w1, w2, w3, w4, w5, w6, w7, w8, w9⟩ := wr
  obtain ⟨cell, q1, q2, q3, q4⟩ := (w6 r r4 rn).2.1 (by omega) (by omega)
  rw [show kH h r - 10 = ci by omega] at q2 q4
  obtain ⟨hS, hfc, kC, hkC, hkind⟩ := w7.1 ci hci
  obtain ⟨cf, kf, fi, f, hi, hsl⟩ := hS k hkN
  have hlay := cx.ts _ (cT_in ci hci _ (u_in_lay hkN))
  unfold u_lay at hlay
  rw [if_neg (by rw [hfin]; decide)] at hlay
  have hst := (u_facts hfc hkC (u_lays cx.ts (cT_in ci hci) hkN) hi).1
  have hint := cT_nt hty
  have h6 := u_store hfc hkC hkind hlay hi (ty := .int) (v := .int x) (by rw [cT_ty ci hci k hkN, hint]) rfl rfl
  rw [List.map_cons, List.map_cons, trV_ref G (by omega)]
  refine W.putK cx.ex cx.by (f := f) ⟨cx.ow, cx.ts _ hw, ⟨_, _, _, hi⟩, hst⟩ (v := .int x) (by rw [q2]; exact h6) q1 q3 (by rw [hsl]; exact k2_hasslot (q4 k hkN)) rfl rfl hd fun H' e1 e2 e3 => ?_
  rw [hsl] at e1
  refine kk.2 p l e R s m args below meth c H' _ ls cells slots mc ms cx (wr0.set r4 e2 e3 rfl rfl rfl (fun a ha => upI_ne ha) (fun a ha => rfl) ?_) lr ll ?_ h1 h2 h3 h4
  · refine CR.obj (j := 0) hk hci e1 q2 q3 q4 (cT_apart cx.ts w7 hci) hkN (fun j hj => ?_)
    unfold updV oV
    by_cases ej : j = k
    · subst ej; rw [if_pos rfl, hty]; show _ = Value.int (upI h.2 r j x r j); rw [upI_at, if_pos rfl]
    · rw [if_neg ej]; show _ = if _ then _ else Value.int (upI h.2 r k x r j); rw [upI_at, if_neg ej]
  · intro z hz
    rcases List.mem_append.mp hz with q | q
    · exact hl z q
    · cases List.mem_singleton.mp q; exact adG_ge G r4
theorem fits_ref {ty : FieldType} (h : ty.isReference = true) (q : Nat) : narrow ty (trV G (.ref q)) = trV G (.ref q) ∧ fits ty (trV G (.ref q)) = true := by
  unfold trV
  cases ty <;> first | (cases h; done) | (dsimp only; split <;> exact ⟨rfl, rfl⟩)
/-- a reference is put into a final field, by a constructor -/
theorem v_putF (ci k : Nat) {idx r q : Nat} (hd : decode M.2.1 pc = .ok (.putfield idx, 3)) (hp : pc + 3 = pc') (hci : ci < 10) (hkN : k < (cT ci).2.2) (hty : (cty ci k).isReference = true) (hfin : ((cT ci).2.1 k).2.2.2 = true) (hin : M.1.name = "<init>") (hdecl : ((cT ci).2.1 k).1 = M.1.cls) (hw : Cond.fieldLink M.1.cls idx ((cT ci).2.1 k).1 ((cT ci).2.1 k).2.1 ((cT ci).2.1 k).2.2.1 ∈ TB)
    (hk : kH h r = 10 + ci) (kk : V G M d pc' loc st (sR h r k q) o h') : V G M d pc loc (.ref q :: .ref r :: st) h o h' := by
  subst hp
  refine ⟨kk.1, fun p l e R s m args below meth c H locs ls cells slots mc ms cx wr lr ll hl h1 h2 h3 h4 => ?_⟩
  obtain ⟨r4, rn⟩ := wr.in hk (by omega) (by omega)
  have wr0 := wr
  obtain ⟨w1, w2, w3, w4, w5, w6, w7, w8, w9⟩ := wr
  obtain ⟨cell, q1, q2, q3, q4⟩ := (w6 r r4 rn).2.1 (by omega) (by omega)
  rw [show kH h r - 10 = ci by omega] at q2 q4
  obtain ⟨hS, hfc, kC, hkC, hkind⟩ := w7.1 ci hci
  obtain ⟨cf, kf, fi, f, hi, hsl⟩ := hS k hkN
  have hlay := cx.ts _ (cT_in ci hci _ (u_in_lay hkN))
  unfold u_lay at hlay
  rw [if_pos hfin] at hlay
  have hst := (u_facts hfc hkC (u_lays cx.ts (cT_in ci hci) hkN) hi).1
  have hcf : m.cls = cf := by
    obtain ⟨_, _, c', _, _, _, -, -, hf', -, -, -, hown2, -⟩ := Cond.laysFinal_spec hlay
    have e1 : c' = cf := by have := hi.symm.trans hf'; simp at this; exact this.1.symm
    rw [hdecl] at hown2
    rw [← e1]; exact Option.some.inj (cx.ow.symm.trans hown2)
  obtain ⟨f1, f2⟩ := fits_ref (G := G) hty q
  have h6 := u_fits hfc hkC hkind (Or.inr hlay) hi (cT_ty ci hci k hkN) f1 f2
  rw [List.map_cons, List.map_cons, trV_ref G (q := r) (by omega)]
  refine W.putFinK cx.ex cx.by cx.ow (cx.ts _ hw) hi hst hcf (cx.nm.trans hin) (v := trV G (.ref q)) (by rw [q2]; exact h6) q1 q3 (by rw [hsl]; exact k2_hasslot (q4 k hkN)) rfl rfl hd fun H' e1 e2 e3 => ?_
  rw [hsl] at e1
  refine kk.2 p l e R s m args below meth c H' _ ls cells slots mc ms cx (wr0.set r4 e2 e3 rfl rfl rfl (fun a ha => rfl) (fun a ha => upR_ne ha) ?_) lr ll ?_ h1 h2 h3 h4
  · refine CR.obj (j := 0) hk hci e1 q2 q3 q4 (cT_apart cx.ts w7 hci) hkN (fun j hj => ?_)
    unfold updV oV
    by_cases ej : j = k
    · subst ej; rw [if_pos rfl, hty]; show _ = trV G (.ref (upR _ r j q r j)); rw [upR_at, if_pos rfl]
    · rw [if_neg ej]; show _ = if _ then trV G (.ref (upR _ r k q r j)) else _; rw [upR_at, if_neg ej]
  · intro z hz
    rcases List.mem_append.mp hz with q | q
    · exact hl z q
    · cases List.mem_singleton.mp q; exact adG_ge G r4
end VH
end
section
/-! ===== ROWS OF V: arrays, and what is made ===== -/
def nwH (h : Hp) (k len cnt : Nat) : Hp := ((h.1.1 + 1, h.1.2.1 + cnt, fun a => if a = h.1.1 then k else h.1.2.2.1 a, fun a => if a = h.1.1 then len else h.1.2.2.2.1 a, fun a => if a = h.1.1 then fun _ => 0 else h.1.2.2.2.2 a), fun a => if a = h.1.1 then fun _ => 0 else h.2 a)
theorem nwH_n (h : Hp) (k len cnt : Nat) : nH (nwH h k len cnt) = nH h + 1 := rfl
theorem nwH_k (h : Hp) (k len cnt : Nat) : kH (nwH h k len cnt) (nH h) = k := if_pos rfl
theorem nwH_l (h : Hp) (k len cnt : Nat) : lH (nwH h k len cnt) (nH h) = len := if_pos rfl
theorem nwH_r (h : Hp) (k len cnt : Nat) : rH (nwH h k len cnt) (nH h) = fun _ => 0 := if_pos rfl
theorem nwH_i (h : Hp) (k len cnt : Nat) : (nwH h k len cnt).2 (nH h) = fun _ => 0 := if_pos rfl
theorem ty_null {ty : FieldType} (h : ty.isReference = true) : defaultValue ty = .null := by
  cases ty <;> first | rfl | (cases h; done)
section VA
variable {G : GG} {M : MR} {d pc pc' : Nat} {loc loc' st st' : List Value} {h : Hp} {o : OU} {h' : Hp}
theorem WR.arr {s : State} {H : Heap} (wr : WR G h s H) {r k : Nat} (hk : kH h r = k) (h1 : 1 ≤ k) (h8 : k < 8) : 4 ≤ r ∧ r < nH h ∧ trV G (.ref r) = .ref (adG G r) ∧ H[adG G r]? = some (arrV (G.2.2.2.2 k) (lH h r) (aV G k (h.2 r) (rH h r))) ∧ ArrOfT s (G.2.2.2.2 k) (aty k) ∧ va_RA s (G.2.2.2.2 k) (aty k) := by
  obtain ⟨r4, rn⟩ := wr.in hk h1 (by omega)
  obtain ⟨w1, w2, w3, w4, w5, w6, w7, w8, w9⟩ := wr
  have c1 := (w6 r r4 rn).1 (by omega) (by omega)
  rw [hk] at c1
  exact ⟨r4, rn, trV_ref G (by omega), c1, (w7.2.1 k h1 h8).1, (w7.2.1 k h1 h8).2⟩
theorem arr_in {cA : ClassId} {n : Nat} {f : Nat → Value} {i : Int32} (h : vp_in i n) : ¬ (i < 0 ∨ (arrV cA n f).slots.size ≤ i.toNatClampNeg) := by
  rw [arrV_size]; exact h
theorem v_iald {r : Nat} {i : Int32} (hd : decode M.2.1 pc = .ok (.iaload, 1)) (hp : pc + 1 = pc') {j : Nat} (hj : i.toNatClampNeg = j) (hk : kH h r = 1) (hb : vp_in i (lH h r)) (kk : V G M d pc' loc (.int (h.2 r j) :: st) h o h') : V G M d pc loc (.int i :: .ref r :: st) h o h' := by
  subst hp; subst hj
  refine ⟨kk.1, fun p l e R s m args below meth c H locs ls cells slots mc ms cx wr lr ll hl h1 h2 h3 h4 => ?_⟩
  have kk := kk.2 p l e R s m args below meth c H locs ls cells slots mc ms cx wr lr ll hl h1 h2 h3 h4
  obtain ⟨r4, rn, ht, hc, hA, -⟩ := wr.arr hk (by omega) (by omega)
  rw [List.map_cons, List.map_cons, ht]
  exact W.iald cx.ex cx.by hc (hA _ _) (fun h => by cases h) (arr_in hb) (arrV_read _ _ (vp_lt hb)) rfl rfl hd kk
theorem v_bald {r : Nat} {i : Int32} (hd : decode M.2.1 pc = .ok (.baload, 1)) (hp : pc + 1 = pc') {j : Nat} (hj : i.toNatClampNeg = j) (hk : kH h r = 2) (hb : vp_in i (lH h r)) (kk : V G M d pc' loc (.int (h.2 r j) :: st) h o h') : V G M d pc loc (.int i :: .ref r :: st) h o h' := by
  subst hp; subst hj
  refine ⟨kk.1, fun p l e R s m args below meth c H locs ls cells slots mc ms cx wr lr ll hl h1 h2 h3 h4 => ?_⟩
  have kk := kk.2 p l e R s m args below meth c H locs ls cells slots mc ms cx wr lr ll hl h1 h2 h3 h4
  obtain ⟨r4, rn, ht, hc, hA, -⟩ := wr.arr hk (by omega) (by omega)
  rw [List.map_cons, List.map_cons, ht]
  exact W.bald cx.ex cx.by hc (hA _ _) (fun h => by cases h) (arr_in hb) (arrV_read _ _ (vp_lt hb)) rfl rfl hd kk
theorem v_zald {r : Nat} {i : Int32} (hd : decode M.2.1 pc = .ok (.baload, 1)) (hp : pc + 1 = pc') {j : Nat} (hj : i.toNatClampNeg = j) (hk : kH h r = 3) (hb : vp_in i (lH h r)) (kk : V G M d pc' loc (.int (h.2 r j) :: st) h o h') : V G M d pc loc (.int i :: .ref r :: st) h o h' := by
  subst hp; subst hj
  refine ⟨kk.1, fun p l e R s m args below meth c H locs ls cells slots mc ms cx wr lr ll hl h1 h2 h3 h4 => ?_⟩
  have kk := kk.2 p l e R s m args below meth c H locs ls cells slots mc ms cx wr lr ll hl h1 h2 h3 h4
  obtain ⟨r4, rn, ht, hc, hA, -⟩ := wr.arr hk (by omega) (by omega)
  rw [List.map_cons, List.map_cons, ht]
  exact W.zald cx.ex cx.by hc (hA _ _) (fun h => by cases h) (arr_in hb) (arrV_read _ _ (vp_lt hb)) rfl rfl hd kk
theorem v_lald {r : Nat} {i : Int32} (hd : decode M.2.1 pc = .ok (.laload, 1)) (hp : pc + 1 = pc') {j : Nat} (hj : i.toNatClampNeg = j) (hk : kH h r = 4) (hb : vp_in i (lH h r)) (kk : V G M d pc' loc (.long (h.2 r j).toInt64 :: st) h o h') : V G M d pc loc (.int i :: .ref r :: st) h o h' := by
  subst hp; subst hj
  refine ⟨kk.1, fun p l e R s m args below meth c H locs ls cells slots mc ms cx wr lr ll hl h1 h2 h3 h4 => ?_⟩
  have kk := kk.2 p l e R s m args below meth c H locs ls cells slots mc ms cx wr lr ll hl h1 h2 h3 h4
  obtain ⟨r4, rn, ht, hc, hA, -⟩ := wr.arr hk (by omega) (by omega)
  rw [List.map_cons, List.map_cons, ht]
  exact W.lald cx.ex cx.by hc (hA _ _) (fun h => by cases h) (arr_in hb) (arrV_read _ _ (vp_lt hb)) rfl rfl hd kk
theorem v_aald (kd : Nat) {r : Nat} {i : Int32} (hd : decode M.2.1 pc = .ok (.aaload, 1)) (hp : pc + 1 = pc') {j : Nat} (hj : i.toNatClampNeg = j) (h5 : 5 ≤ kd ∧ kd < 8) (hk : kH h r = kd) (hb : vp_in i (lH h r)) (kk : V G M d pc' loc (.ref (rH h r j) :: st) h o h') : V G M d pc loc (.int i :: .ref r :: st) h o h' := by
  subst hp; subst hj
  refine ⟨kk.1, fun p l e R s m args below meth c H locs ls cells slots mc ms cx wr lr ll hl h1 h2 h3 h4 => ?_⟩
  have kk := kk.2 p l e R s m args below meth c H locs ls cells slots mc ms cx wr lr ll hl h1 h2 h3 h4
  obtain ⟨r4, rn, ht, hc, hA, -⟩ := wr.arr hk (by omega) (by omega)
  rw [List.map_cons, List.map_cons, ht]
  have hty : (aty kd).isReference = true := by
    have : kd = 5 ∨ kd = 6 ∨ kd = 7 := by omega
    rcases this with rfl | rfl | rfl <;> rfl
  refine W.aald cx.ex cx.by hc (hA _ _) hty (fun h => by cases h) (arr_in hb) (arrV_read _ _ (vp_lt hb)) rfl rfl hd ?_
  unfold aV
  rw [if_neg (by omega), if_pos h5.1]
  exact kk
theorem v_alen {kd r : Nat} {n : Int32} (hd : decode M.2.1 pc = .ok (.arraylength, 1)) (hp : pc + 1 = pc') (hk : kH h r = kd) (hkd : 1 ≤ kd ∧ kd < 8) (hn : (lH h r).toInt32 = n) (kk : V G M d pc' loc (.int n :: st) h o h') : V G M d pc loc (.ref r :: st) h o h' := by
  subst hp
  refine ⟨kk.1, fun p l e R s m args below meth c H locs ls cells slots mc ms cx wr lr ll hl h1 h2 h3 h4 => ?_⟩
  have kk := kk.2 p l e R s m args below meth c H locs ls cells slots mc ms cx wr lr ll hl h1 h2 h3 h4
  obtain ⟨r4, rn, ht, hc, hA, -⟩ := wr.arr hk hkd.1 hkd.2
  rw [List.map_cons, ht]
  exact W.alen cx.ex cx.by hc (hA _ _) (by rw [arrV_size]; exact hn) rfl rfl hd kk
theorem CR.arr {h2 : Hp} {H' : Heap} {r k : Nat} (hk : kH h2 r = k) (h1 : 1 ≤ k) (h8 : k < 8) {f : Nat → Value} (e1 : H'[adG G r]? = some (arrV (G.2.2.2.2 k) (lH h2 r) f)) (hf : ∀ j, f j = aV G k (h2.2 r) (rH h2 r) j) (h3 : k = 2 → ∀ j, j < lH h2 r → fits .byte (.int (h2.2 r j)) = true) : CR G h2 H' r := by
  refine ⟨fun _ _ => ?_, fun a b => by omega, fun a => h3 (by omega)⟩
  rw [hk, e1, show f = aV G k (h2.2 r) (rH h2 r) from funext hf]
theorem loc_app {locs : List Loc} {a i : Nat} (hl : ∀ z ∈ locs, G.1 ≤ z.base) (ha : G.1 ≤ a) : ∀ z ∈ locs ++ [(⟨a, i⟩ : Loc)], G.1 ≤ z.base := by
  intro z hz
  rcases List.mem_append.mp hz with q | q
  · exact hl z q
  · cases List.mem_singleton.mp q; exact ha
theorem v_iast {r : Nat} {i x : Int32} (hd : decode M.2.1 pc = .ok (.iastore, 1)) (hp : pc + 1 = pc') {j : Nat} (hj : i.toNatClampNeg = j) (hk : kH h r = 1) (hb : vp_in i (lH h r)) (kk : V G M d pc' loc st (sI h r j x) o h') : V G M d pc loc (.int x :: .int i :: .ref r :: st) h o h' := by
  subst hp; subst hj
  refine ⟨kk.1, fun p l e R s m args below meth c H locs ls cells slots mc ms cx wr lr ll hl h1 h2 h3 h4 => ?_⟩
  obtain ⟨r4, rn, ht, hc, hA, -⟩ := wr.arr hk (by omega) (by omega)
  rw [List.map_cons, List.map_cons, List.map_cons, ht]
  refine W.iast cx.ex cx.by hc (hA _ _) (fun h => by cases h) (arr_in hb) rfl rfl hd fun H' e1 e2 e3 => ?_
  rw [arrV_store] at e1
  refine kk.2 p l e R s m args below meth c H' _ ls cells slots mc ms cx (wr.set r4 e2 e3 rfl rfl rfl (fun a ha => upI_ne ha) (fun a ha => rfl) ?_) lr ll (loc_app hl (adG_ge G r4)) h1 h2 h3 h4
  refine CR.arr hk (by omega) (by omega) e1 (fun j => ?_) (fun q => by omega)
  show (if j = i.toNatClampNeg then Value.int x else Value.int (h.2 r j)) = Value.int (upI h.2 r i.toNatClampNeg x r j)
  rw [upI_at]
  split <;> rfl
theorem v_bast {r : Nat} {i x : Int32} (hd : decode M.2.1 pc = .ok (.bastore, 1)) (hp : pc + 1 = pc') {j : Nat} (hj : i.toNatClampNeg = j) (hk : kH h r = 2) (hb : vp_in i (lH h r)) (kk : V G M d pc' loc st (sI h r j x.toInt8.toInt32) o h') : V G M d pc loc (.int x :: .int i :: .ref r :: st) h o h' := by
  subst hp; subst hj
  refine ⟨kk.1, fun p l e R s m args below meth c H locs ls cells slots mc ms cx wr lr ll hl h1 h2 h3 h4 => ?_⟩
  obtain ⟨r4, rn, ht, hc, hA, -⟩ := wr.arr hk (by omega) (by omega)
  have wr0 := wr
  rw [List.map_cons, List.map_cons, List.map_cons, ht]
  refine W.bast cx.ex cx.by hc (hA _ _) (fun h => by cases h) (arr_in hb) rfl rfl hd fun H' e1 e2 e3 => ?_
  rw [arrV_store] at e1
  refine kk.2 p l e R s m args below meth c H' _ ls cells slots mc ms cx (wr.set r4 e2 e3 rfl rfl rfl (fun a ha => upI_ne ha) (fun a ha => rfl) ?_) lr ll (loc_app hl (adG_ge G r4)) h1 h2 h3 h4
  refine CR.arr hk (by omega) (by omega) e1 (fun j => ?_) (fun _ j hj => ?_)
  · show (if j = i.toNatClampNeg then Value.int x.toInt8.toInt32 else Value.int (h.2 r j)) = Value.int (upI h.2 r i.toNatClampNeg x.toInt8.toInt32 r j)
    rw [upI_at]
    split <;> rfl
  · show fits .byte (.int (upI h.2 r i.toNatClampNeg x.toInt8.toInt32 r j)) = true
    rw [upI_at]
    split
    · exact pk_fb x
    · exact (wr0.2.2.2.2.2.1 r r4 rn).2.2 hk j hj
theorem v_zast {r : Nat} {i x : Int32} (hd : decode M.2.1 pc = .ok (.bastore, 1)) (hp : pc + 1 = pc') {j : Nat} (hj : i.toNatClampNeg = j) (hx : x = 0 ∨ x = 1) (hk : kH h r = 3) (hb : vp_in i (lH h r)) (kk : V G M d pc' loc st (sI h r j x) o h') : V G M d pc loc (.int x :: .int i :: .ref r :: st) h o h' := by
  subst hp; subst hj
  refine ⟨kk.1, fun p l e R s m args below meth c H locs ls cells slots mc ms cx wr lr ll hl h1 h2 h3 h4 => ?_⟩
  obtain ⟨r4, rn, ht, hc, hA, -⟩ := wr.arr hk (by omega) (by omega)
  rw [List.map_cons, List.map_cons, List.map_cons, ht]
  refine W.zast cx.ex cx.by hc (hA _ _) (fun h => by cases h) (arr_in hb) rfl rfl hd fun H' e1 e2 e3 => ?_
  rw [arrV_store, show narrow .boolean (.int x) = .int x by rcases hx with rfl | rfl <;> rfl] at e1
  refine kk.2 p l e R s m args below meth c H' _ ls cells slots mc ms cx (wr.set r4 e2 e3 rfl rfl rfl (fun a ha => upI_ne ha) (fun a ha => rfl) ?_) lr ll (loc_app hl (adG_ge G r4)) h1 h2 h3 h4
  refine CR.arr hk (by omega) (by omega) e1 (fun j => ?_) (fun q => by omega)
  show (if j = i.toNatClampNeg then Value.int x else Value.int (h.2 r j)) = Value.int (upI h.2 r i.toNatClampNeg x r j)
  rw [upI_at]
  split <;> rfl
theorem v_last {r : Nat} {i x : Int32} (hd : decode M.2.1 pc = .ok (.lastore, 1)) (hp : pc + 1 = pc') {j : Nat} (hj : i.toNatClampNeg = j) (hk : kH h r = 4) (hb : vp_in i (lH h r)) (kk : V G M d pc' loc st (sI h r j x) o h') : V G M d pc loc (.long x.toInt64 :: .int i :: .ref r :: st) h o h' := by
  subst hp; subst hj
  refine ⟨kk.1, fun p l e R s m args below meth c H locs ls cells slots mc ms cx wr lr ll hl h1 h2 h3 h4 => ?_⟩
  obtain ⟨r4, rn, ht, hc, hA, -⟩ := wr.arr hk (by omega) (by omega)
  rw [List.map_cons, List.map_cons, List.map_cons, ht]
  refine W.last cx.ex cx.by hc (hA _ _) (fun h => by cases h) (arr_in hb) rfl rfl hd fun H' e1 e2 e3 => ?_
  rw [arrV_store] at e1
  refine kk.2 p l e R s m args below meth c H' _ ls cells slots mc ms cx (wr.set r4 e2 e3 rfl rfl rfl (fun a ha => upI_ne ha) (fun a ha => rfl) ?_) lr ll (loc_app hl (adG_ge G r4)) h1 h2 h3 h4
  refine CR.arr hk (by omega) (by omega) e1 (fun j => ?_) (fun q => by omega)
  show (if j = i.toNatClampNeg then Value.long x.toInt64 else Value.long (h.2 r j).toInt64) = Value.long (upI h.2 r i.toNatClampNeg x r j).toInt64
  rw [upI_at]
  split <;> rfl
/-- an object of a class put into an array of its class -/
theorem v_aast (kd ci : Nat) {r q : Nat} {i : Int32} (hd : decode M.2.1 pc = .ok (.aastore, 1)) (hp : pc + 1 = pc') {j : Nat} (hj : i.toNatClampNeg = j) (h5 : 5 ≤ kd ∧ kd < 8) (hci : ci < 10) (hty : aty kd = .object (cT ci).1) (hk : kH h r = kd) (hq : kH h q = 10 + ci) (hb : vp_in i (lH h r)) (kk : V G M d pc' loc st (sR h r j q) o h') : V G M d pc loc (.ref q :: .int i :: .ref r :: st) h o h' := by
  subst hp; subst hj
  refine ⟨kk.1, fun p l e R s m args below meth c H locs ls cells slots mc ms cx wr lr ll hl h1 h2 h3 h4 => ?_⟩
  obtain ⟨r4, rn, ht, hc, hA, hRA⟩ := wr.arr hk (by omega) (by omega)
  obtain ⟨q4, qn⟩ := wr.in hq (by omega) (by omega)
  obtain ⟨cell, c1, c2, c3, c4⟩ := (wr.2.2.2.2.2.1 q q4 qn).2.1 (by omega) (by omega)
  rw [show kH h q - 10 = ci by omega] at c2
  have hcls := (wr.2.2.2.2.2.2.1.1 ci hci).2
  rw [hty] at hRA
  obtain ⟨kA, comp, k1, k2, k3, -⟩ := hRA
  have hcomp : comp = G.2.2.1 ci := Option.some.inj (k3.symm.trans hcls.1)
  subst hcomp
  obtain ⟨kC, hkC, -⟩ := hcls.2
  rw [List.map_cons, List.map_cons, List.map_cons, ht, trV_ref G (q := q) (by omega)]
  refine W.aast cx.ex cx.by hc (fun q h => by cases h) (fun h => by cases h) k1 k2 rfl hkC ⟨fun z => hb (Or.inl z), by rw [arrV_size]; exact vp_lt hb⟩ c1 (fun q h => by rw [c3] at h; cases h) (by rw [c2]; exact hkC) (by rw [c2]; exact va_assign hcls) rfl rfl hd fun H' e1 e2 e3 => ?_
  rw [arrV_store] at e1
  refine kk.2 p l e R s m args below meth c H' _ ls cells slots mc ms cx (wr.set r4 e2 e3 rfl rfl rfl (fun a ha => rfl) (fun a ha => upR_ne ha) ?_) lr ll (loc_app hl (adG_ge G r4)) h1 h2 h3 h4
  refine CR.arr hk (by omega) (by omega) e1 (fun j => ?_) (fun q => by omega)
  have e5 : ∀ (I : Nat → Int32) (R : Nat → Nat) (j : Nat), aV G kd I R j = trV G (.ref (R j)) := fun I R j => by unfold aV; rw [if_neg (by omega), if_pos h5.1]
  unfold updV
  rw [e5, e5]
  show _ = trV G (.ref (upR _ r i.toNatClampNeg q r j))
  rw [upR_at]
  split
  · exact (trV_ref G (by omega)).symm
  · rfl
/-- the script is only read -/
theorem v_sald {i : Int32} (hd : decode M.2.1 pc = .ok (.iaload, 1)) (hp : pc + 1 = pc') {j : Nat} (hj : i.toNatClampNeg = j) (hb : vp_in i (lH h 1)) (kk : V G M d pc' loc (.int (h.2 1 j) :: st) h o h') : V G M d pc loc (.int i :: .ref 1 :: st) h o h' := by
  subst hp; subst hj
  refine ⟨kk.1, fun p l e R s m args below meth c H locs ls cells slots mc ms cx wr lr ll hl h1 h2 h3 h4 => ?_⟩
  have kk := kk.2 p l e R s m args below meth c H locs ls cells slots mc ms cx wr lr ll hl h1 h2 h3 h4
  obtain ⟨scr, x1, x2, x3, x4, x5⟩ := wr.2.2.2.2.2.2.2.2
  exact W.iald (a := G.2.1) cx.ex cx.by x1 x2 x3 (by rw [x4]; exact hb) (x5 _ (vp_lt hb)) rfl rfl hd kk
theorem v_slen {n : Int32} (hd : decode M.2.1 pc = .ok (.arraylength, 1)) (hp : pc + 1 = pc') (hn : (lH h 1).toInt32 = n) (kk : V G M d pc' loc (.int n :: st) h o h') : V G M d pc loc (.ref 1 :: st) h o h' := by
  subst hp
  refine ⟨kk.1, fun p l e R s m args below meth c H locs ls cells slots mc ms cx wr lr ll hl h1 h2 h3 h4 => ?_⟩
  have kk := kk.2 p l e R s m args below meth c H locs ls cells slots mc ms cx wr lr ll hl h1 h2 h3 h4
  obtain ⟨scr, x1, x2, x3, x4, x5⟩ := wr.2.2.2.2.2.2.2.2
  exact W.alen (a := G.2.1) cx.ex cx.by x1 x2 (by rw [x4]; exact hn) rfl rfl hd kk
theorem WR.top {s : State} {H : Heap} (wr : WR G h s H) : H.size = adG G (nH h) ∧ trV G (.ref (nH h)) = .ref H.size := by
  obtain ⟨w1, w2, -⟩ := wr
  have e : adG G (nH h) = H.size := by unfold adG; rw [if_neg (by omega)]; omega
  exact ⟨e.symm, by rw [trV_ref G (by omega), e]⟩
/-- a new object, all 0 and null -/
theorem v_new (ci : Nat) {idx : Nat} (hd : decode M.2.1 pc = .ok (.new idx, 3)) (hp : pc + 3 = pc') (hci : ci < 10) (hw : Cond.classLink M.1.cls idx (cT ci).1 ∈ TB) (hin : Cond.instantiable (cT ci).1 (cT ci).2.2 ∈ TB) (hini : Cond.initialized (cT ci).1 ∈ TB) (kk : V G M d pc' loc (.ref (nH h) :: st) (nwH h (10 + ci) 0 (cT ci).2.2) o h') : V G M d pc loc st h o h' := by
  subst hp
  obtain ⟨⟨kn, kz⟩, kk⟩ := kk
  rw [nwH_n] at kn
  have kz : zH h + (cT ci).2.2 ≤ zH h' := kz
  refine ⟨⟨by omega, by omega⟩, fun p l e R s m args below meth c H locs ls cells slots mc ms cx wr lr ll hl h1 h2 h3 h4 => ?_⟩
  have hKn := wr.2.2.2.2.2.2.1.1 ci hci
  obtain ⟨t1, t2⟩ := wr.top
  refine W.newcK cx.ex cx.by cx.ow (cx.ts _ hw) (cx.ts _ hin) (cx.ts _ hini) rfl hd (by omega) (by omega) hKn.2.1 rfl fun H' kC hkC e1 z1 o1 => ?_
  have k2 := kk p l e R s m args below meth c H' locs ls (cells + 1) (slots + (cT ci).2.2) mc ms cx (wr.push z1 o1 rfl (fun a ha => if_neg ha) (fun a ha => if_neg ha) (fun a ha => if_neg ha) (fun a ha => if_neg ha) ?_) lr ll hl (by rw [nwH_n]; omega) (by show _ + (zH h' - (zH h + _)) ≤ _; omega) h3 h4
  · rw [List.map_cons, t2] at k2
    exact k2
  · refine ⟨fun a b => by rw [nwH_k] at b; omega, fun a b => ?_, fun a => by rw [nwH_k] at a; omega⟩
    rw [nwH_k, nwH_i, nwH_r, show 10 + ci - 10 = ci by omega, ← t1]
    refine (u_born (cty ci) cx.ts (cT_in ci hci) hKn hkC e1 (cT_ty ci hci)).to (fun j hj => ?_)
    unfold oV
    by_cases q : (cty ci j).isReference = true
    · rw [if_pos q, ty_null q]; rfl
    · rw [if_neg q, cT_nt (by simpa using q)]; rfl
/-- a new array of ints, bytes, booleans or longs -/
theorem v_newa (k : Nat) {atype : ArrayType} {n : Int32} {N : Nat} (hd : decode M.2.1 pc = .ok (.newarray atype, 2)) (hp : pc + 2 = pc') (hk : 1 ≤ k ∧ k < 5) (ha : newarray.typeOf atype = aty k) (hw : Cond.arrayClass (aty k) ∈ TB) (hn : ¬ n < 0) (hN : n.toNatClampNeg = N) (hb : N ≤ 60000) (kk : V G M d pc' loc (.ref (nH h) :: st) (nwH h k N N) o h') : V G M d pc loc (.int n :: st) h o h' := by
  subst hp; subst hN
  obtain ⟨⟨kn, kz⟩, kk⟩ := kk
  rw [nwH_n] at kn
  have kz : zH h + n.toNatClampNeg ≤ zH h' := kz
  refine ⟨⟨by omega, by omega⟩, fun p l e R s m args below meth c H locs ls cells slots mc ms cx wr lr ll hl h1 h2 h3 h4 => ?_⟩
  obtain ⟨t1, t2⟩ := wr.top
  have hRA := (wr.2.2.2.2.2.2.1.2.1 k hk.1 (by omega)).2
  have hkk : k = 1 ∨ k = 2 ∨ k = 3 ∨ k = 4 := by omega
  have hcb : componentBytes (newarray.typeOf atype) ≤ 8 := by rw [ha]; rcases hkk with rfl | rfl | rfl | rfl <;> decide
  have hbb : n.toNatClampNeg * componentBytes (newarray.typeOf atype) ≤ 536870912 := Nat.le_trans (Nat.mul_le_mul hb hcb) (Nat.le_of_ble_eq_true rfl)
  refine W.newa cx.ex cx.by (by rw [ha]; exact cx.ts _ hw) rfl hd rfl hn hbb (by omega) (by omega) fun cA kA comp f1 f2 f3 => ?_
  have hcA : cA = G.2.2.2.2 k := by
    rw [ha] at f1
    rcases hkk with rfl | rfl | rfl | rfl <;> exact Option.some.inj (f1.symm.trans hRA)
  subst hcA
  have k2 := kk p l e R s m args below meth c (H.push { cls := G.2.2.2.2 k, slots := Array.replicate n.toNatClampNeg (defaultValue (newarray.typeOf atype)), vm := .none }) locs ls (cells + 1) (slots + n.toNatClampNeg) mc ms cx (wr.push (by simp) (fun q hq => by rw [Array.getElem?_push, if_neg (Nat.ne_of_lt hq)]) rfl (fun a ha => if_neg ha) (fun a ha => if_neg ha) (fun a ha => if_neg ha) (fun a ha => if_neg ha) ?_) lr ll hl (by rw [nwH_n]; omega) (by show _ + (zH h' - (zH h + _)) ≤ _; omega) h3 h4
  · rw [List.map_cons, t2] at k2
    exact k2
  · refine CR.arr (nwH_k _ _ _ _) hk.1 (by omega) (f := fun _ => defaultValue (newarray.typeOf atype)) ?_ (fun j => ?_) (fun _ j _ => ?_)
    · rw [← t1, nwH_l, ← arrV_new]; simp
    · rw [nwH_i, nwH_r, ha]; rcases hkk with rfl | rfl | rfl | rfl <;> rfl
    · rw [nwH_i]; rfl
/-- a new array of references to objects -/
theorem v_anewa (k ci : Nat) {idx : Nat} {n : Int32} {N : Nat} (hd : decode M.2.1 pc = .ok (.anewarray idx, 3)) (hp : pc + 3 = pc') (hk : (k = 5 ∧ ci = 5) ∨ (k = 6 ∧ ci = 1)) (hw : Cond.classLink M.1.cls idx (cT ci).1 ∈ TB) (hn : ¬ n < 0) (hN : n.toNatClampNeg = N) (hb : N ≤ 60000) (kk : V G M d pc' loc (.ref (nH h) :: st) (nwH h k N N) o h') : V G M d pc loc (.int n :: st) h o h' := by
  subst hp; subst hN
  obtain ⟨⟨kn, kz⟩, kk⟩ := kk
  rw [nwH_n] at kn
  have kz : zH h + n.toNatClampNeg ≤ zH h' := kz
  refine ⟨⟨by omega, by omega⟩, fun p l e R s m args below meth c H locs ls cells slots mc ms cx wr lr ll hl h1 h2 h3 h4 => ?_⟩
  obtain ⟨t1, t2⟩ := wr.top
  have hRA := (wr.2.2.2.2.2.2.1.2.1 k (by omega) (by omega)).2
  have hAO : va_AO (cT ci).1 s := by
    rcases hk with ⟨rfl, rfl⟩ | ⟨rfl, rfl⟩
    · exact wr.2.2.2.2.2.2.1.2.2.2.1.1
    · exact wr.2.2.2.2.2.2.1.2.2.2.1.2
  refine W.anew cx.ex cx.by cx.ow (cx.ts _ hw) hAO.use rfl hd rfl hn (by omega) (by omega) (by omega) fun cA kA comp f1 f2 f3 f4 => ?_
  have hcA : cA = G.2.2.2.2 k := by
    rcases hk with ⟨rfl, rfl⟩ | ⟨rfl, rfl⟩
    · obtain ⟨_, _, _, _, _, q⟩ := hRA; exact Option.some.inj (f1.symm.trans q)
    · obtain ⟨_, _, _, _, _, q⟩ := hRA; exact Option.some.inj (f1.symm.trans q)
  subst hcA
  have k2 := kk p l e R s m args below meth c (H.push { cls := G.2.2.2.2 k, slots := Array.replicate n.toNatClampNeg .null, vm := .none }) locs ls (cells + 1) (slots + n.toNatClampNeg) mc ms cx (wr.push (by simp) (fun q hq => by rw [Array.getElem?_push, if_neg (Nat.ne_of_lt hq)]) rfl (fun a ha => if_neg ha) (fun a ha => if_neg ha) (fun a ha => if_neg ha) (fun a ha => if_neg ha) ?_) lr ll hl (by rw [nwH_n]; omega) (by show _ + (zH h' - (zH h + _)) ≤ _; omega) h3 h4
  · rw [List.map_cons, t2] at k2
    exact k2
  · refine CR.arr (nwH_k _ _ _ _) (by omega) (by omega) (f := fun _ => .null) ?_ (fun j => ?_) (fun q => by omega)
    · rw [← t1, nwH_l, ← arrV_new]; simp
    · rw [nwH_r]; unfold aV; rw [if_neg (by omega), if_pos (by omega)]; rfl
end VA
end
section
/-! ===== ROWS OF V: calls ===== -/
def wsM (M : MR) : List Cond := Cond.code M.1 M.2.1 M.2.2.1 M.2.2.2.1 :: TB
def rmM (d : Nat) (h h' : Hp) : Room := { frames := d, cells := nH h' - nH h, slots := zH h' - zH h, locals := 64 * d }
def VPc (G : GG) (as : List Value) (h : Hp) : Array Value → State → Prop := fun a U => a = (as.map (trV G)).toArray ∧ WR G h U U.heap
/-- the method, called with these values over this heap, ends with o, and the heap is h' then -/
def VM (G : GG) (M : MR) (d : Nat) (as : List Value) (h : Hp) (o : OU) (h' : Hp) : Prop :=
  (nH h ≤ nH h' ∧ zH h ≤ zH h') ∧ ∀ l : Launch, l.stackTraces = false → vx_Met l M.1 (wsM M) (rmM d h h') (VPc G as h) (VQc G o h') (VXc G o h') (nH h' - nH h) (zH h' - zH h) (fun q => G.1 ≤ q)
theorem VPc.blind (G : GG) (as : List Value) (h : Hp) : FrameBlind (VPc G as h) := fun a U g mk q => ⟨q.1, WR.moved (s := U) (U := U.calling g mk a) (State.WarmedH.refl U) q.2⟩
theorem lg_sl_one : ∀ (vs : List Value), (∀ v ∈ vs, v.category = 1) → (lg_sl vs).length = vs.length
  | [], _ => rfl
  | v :: vs, h => by
    have h1 := h v List.mem_cons_self
    have h2 := lg_sl_one vs (fun w hw => h w (List.mem_cons_of_mem _ hw))
    unfold lg_sl at h2 ⊢
    rw [List.flatMap_cons, List.length_append, h2, if_neg (by omega)]
    simp [Nat.add_comm]
theorem lv_args_mem : ∀ (vs : List Value) (k i : Nat) (v : Value), (∀ v ∈ vs, v.category = 1) → vs[i]? = some v → (k + i, v) ∈ lv_args k vs
  | [], k, i, v, _, h => by simp at h
  | w :: vs, k, 0, v, hc, h => by
    simp at h
    subst h
    exact List.mem_cons_self
  | w :: vs, k, i + 1, v, hc, h => by
    have h1 := hc w List.mem_cons_self
    have := lv_args_mem vs (k + 1) i v (fun x hx => hc x (List.mem_cons_of_mem _ hx)) (by simpa using h)
    unfold lv_args
    rw [if_neg (by omega), show k + (i + 1) = k + 1 + i by omega]
    exact List.mem_cons_of_mem _ this
section VC
variable {G : GG} {M M1 : MR} {d d1 pc pc' : Nat} {loc loc' st st' : List Value} {h h1 : Hp} {o : OU} {h' : Hp}
theorem V.toM {as : List Value} (hpl : plainName M.1.cls = true) (htab : M.2.2.2.2 = []) (hl : as.length ≤ M.2.2.1) (hc : ∀ v ∈ as, v.category = 1) (k : V G M d 0 (as ++ List.replicate (M.2.2.1 - as.length) uV) [] h o h') : VM G M d as h o h' := by
  refine ⟨k.1, fun l hst => vx_ofW (ws' := TB) hpl rfl ?_⟩
  intro p e s m args below meth c s₁ B hml ht hv
  obtain ⟨rfl, wr⟩ := hv
  have ts := atoms_spec (ws := wsM M) B.pre
  have hcm : ∀ v ∈ as.map (trV G), v.category = 1 := fun v hv => by
    obtain ⟨w, hw, rfl⟩ := List.mem_map.mp hv
    rw [trV_cat]; exact hc w hw
  have htb : c.exceptionTable.toList = tableOf M.2.2.2.2 := by
    rw [htab]
    exact List.eq_nil_iff_forall_not_mem.mpr (fun x hx => ht x hx)
  have cx : Cx M d p l (headSpec (wsM M) (rmM d h h')).room s m (as.map (trV G)).toArray meth c := ⟨B.exec, B.bytes, hml, B.returns, findClass_of_methodNamed B.named, fun w hw => ts w (List.mem_cons_of_mem _ hw), B.notSynchronized, (name_of_methodNamed B.named B.method).1, htb, hst, Nat.le_refl _, Nat.le_refl _⟩
  have hlen : (lg_sl (as.map (trV G))).length ≤ M.2.2.1 := by rw [lg_sl_one _ hcm, List.length_map]; exact hl
  have hent := lv_entry (as.map (trV G)) (n := M.2.2.1) hlen
  rw [lg_entry_eq]
  refine k.2 p l e _ s m _ below meth c s.heap [] _ 0 0 _ _ cx wr ⟨?_, hent.2.1, fun i v hi hv => ?_⟩ ?_ (fun z hz => nomatch hz) (by omega) (by omega) (Nat.le_refl _) (Nat.le_refl _)
  · rw [hent.1]; simp; omega
  · have hi' : as[i]? = some v := by
      rcases Nat.lt_or_ge i as.length with q | q
      · rwa [List.getElem?_append_left q] at hi
      · rw [List.getElem?_append_right q, List.getElem?_replicate] at hi
        split at hi
        · cases hi; cases hv
        · cases hi
    have := lv_args_mem (as.map (trV G)) 0 i (trV G v) hcm (by rw [List.getElem?_map, hi']; rfl)
    rw [Nat.zero_add] at this
    exact hent.2.2 _ this
  · simp; omega
/-- what a call that returns hands on -/
theorem run_ret {p : Program} {l : Launch} {e : Env} {R : Room} {s : State} {m : MethodId} {args : Array Value} {below : List Frame} {meth : Method} {c : Code} {H : Heap} {locs : List Loc} {ls : Array Slot} {cells slots mc ms n1 z1 : Nat} {st0 rest : List Value} {v : Option Value} {a : Array Value}
    (hr : vx_Run p l e R s m args below meth c H locs cells slots n1 z1 (F0 m pc ls st0) (rest.map (trV G)) (VQc G (.inl v) h1 a) (VXc G (.inl v) h1) (fun q => G.1 ≤ q))
    (cx : Cx M d p l R s m args meth c) (wr : WR G h s H) (lr : LR G loc ls) (ll : loc.length = M.2.2.1) (hl : ∀ z ∈ locs, G.1 ≤ z.base) (hn : n1 = nH h1 - nH h) (hz : z1 = zH h1 - zH h) (e1 : nH h ≤ nH h1) (e2 : zH h ≤ zH h1)
    (k : V G M d (pc + 3) loc (v.toList ++ rest) h1 o h') (c1 : cells + (nH h' - nH h) ≤ mc) (c2 : slots + (zH h' - zH h) ≤ ms) (c3 : mc ≤ R.cells) (c4 : ms ≤ R.slots) :
    W p l e R s m args below meth c H locs cells slots (VQ G o h' below args s mc ms) (F0 m pc ls st0) := by
  intro T hT X
  rcases hr T hT X with ⟨v', st₀, t, T', L, f0, X', hL, f1, f2, hq, go⟩ | ⟨q, st₀, t, T', L, E, ce, f0, X', hL, f1, f2, hx, -⟩
  · obtain ⟨⟨v2, ho, hv⟩, w1⟩ := hq
    have ho : v = v2 := by injection ho
    subst ho
    injection hv with hv
    subst hv
    have wr' : WR G h1 s T'.heap := by rw [f1]; exact w1 s wr.2.2.2.2.2.2.1 (by rw [← f2]; exact X'.warmed.alike)
    have k2 := k.2 p l e R s m args below meth c T'.heap (locs ++ L) ls (cells + n1) (slots + z1) mc ms cx wr' lr ll (fun z hz => (List.mem_append.mp hz).elim (hl z) (hL z)) (by have := k.1.1; omega) (by have := k.1.2; omega) c3 c4
    obtain ⟨t2, s2, q2⟩ := k2 T' rfl X'
    refine ⟨t2, go t2 ?_, q2⟩
    have es : (v.toList ++ rest).map (trV G) = (v.map (trV G)).toList ++ rest.map (trV G) := by cases v <;> rfl
    rw [es] at s2
    exact s2
  · exact absurd hx.1 (fun q => by cases q)
/-- what a call that throws hands on where nothing catches -/
theorem run_thr {p : Program} {l : Launch} {e : Env} {R : Room} {s : State} {m : MethodId} {args : Array Value} {below : List Frame} {meth : Method} {c : Code} {H : Heap} {locs : List Loc} {ls : Array Slot} {cells slots mc ms n1 z1 : Nat} {st0 rest : List Value} {E : String} {a : Array Value}
    (hr : vx_Run p l e R s m args below meth c H locs cells slots n1 z1 (F0 m pc ls st0) (rest.map (trV G)) (VQc G (.inr E) h' a) (VXc G (.inr E) h') (fun q => G.1 ≤ q))
    (htab : M.2.2.2.2 = []) (cx : Cx M d p l R s m args meth c) (wr : WR G h s H) (hl : ∀ z ∈ locs, G.1 ≤ z.base) (hn : n1 = nH h' - nH h) (hz : z1 = zH h' - zH h)
    (c1 : cells + (nH h' - nH h) ≤ mc) (c2 : slots + (zH h' - zH h) ≤ ms) :
    W p l e R s m args below meth c H locs cells slots (VQ G (.inr E) h' below args s mc ms) (F0 m pc ls st0) := by
  intro T hT X
  rcases hr T hT X with ⟨v', st₀, t, T', L, f0, X', hL, f1, f2, hq, go⟩ | ⟨q, st₀, t, T', L, E', ce, f0, X', hL, f1, f2, hx, g1, g2, g3, go⟩
  · obtain ⟨⟨v2, ho, -⟩, -⟩ := hq
    cases ho
  · obtain ⟨ho, w1⟩ := hx
    have ho : E = E' := by injection ho
    subst ho
    have wr' : WR G h' s T'.heap := by rw [f1]; exact w1 s wr.2.2.2.2.2.2.1 (by rw [← f2]; exact X'.warmed.alike)
    have hout : ∀ x ∈ c.exceptionTable.toList, covers x pc = false := by
      rw [cx.tb, htab]; intro x hx; cases hx
    have hw := vx_out (p := p) (l := l) (e := e) (R := R) (m := m) (args := args) (below := below) (ls := ls) (rest := rest.map (trV G)) (Qc := VQc G (.inr E) h') (XC := VXc G (.inr E) h') (free := fun q => G.1 ≤ q) (mc := mc) (ms := ms) (cells := cells + n1) (slots := slots + z1) (locs := locs ++ L) (H := T'.heap) (pc := pc) (s := s) (E := E) (ce := ce) (q := q)
      hout cx.lk (by rw [f1]; exact g1) g2 g3 (fun t ht hA => ⟨rfl, by rw [ht]; exact WH.of wr' hA⟩) (fun z hz => (List.mem_append.mp hz).elim (hl z) (hL z)) (by omega) (by omega)
    obtain ⟨t2, s2, q2⟩ := hw T' rfl X'
    exact ⟨t2, go.trans s2, q2⟩
theorem gd_in {M1 : MR} (hcode : Cond.code M1.1 M1.2.1 M1.2.2.1 M1.2.2.2.1 ∈ TB) : GoodIn TB (wsM M1) := fun w hw => by
  rcases List.mem_cons.mp hw with rfl | hw
  · exact ⟨hcode, tb_good _ hcode⟩
  · exact ⟨hw, tb_good _ hw⟩
theorem cat_sum (G : GG) : ∀ (rest : List Value), ((rest.map (trV G)).map fun v => v.category).sum = (rest.map fun v => v.category).sum
  | [] => rfl
  | v :: r => by simp only [List.map_cons, List.sum_cons, trV_cat, cat_sum G r]
/-- the words of a call -/
def okC (own : String) (index : Nat) (y : MethodName) (n : Nat) : Prop := Cond.methodLink own index y ∈ TB ∧ Cond.initialized y.cls ∈ TB ∧ (y.cls ≠ "java/lang/invoke/MethodHandle" ∧ y.cls ≠ "java/lang/invoke/VarHandle" ∧ (parseMethodDescriptor y.desc).map (fun d => d.parameters.length) = some n)
theorem callB_mk {R : Room} {s : State} {args : Array Value} {own : String} {index n : Nat} (ts : ∀ w ∈ TB, w.before args s = true) (hcode : Cond.code M1.1 M1.2.1 M1.2.2.1 M1.2.2.2.1 ∈ TB) (ok : okC own index M1.1 n) (hR : d1 + 1 ≤ R.frames ∧ 64 * (d1 + 1) ≤ R.locals) (hm : M1.2.2.1 ≤ 45) :
    CallB R s args own index M1.1 M1.2.1 M1.2.2.1 M1.2.2.2.1 (wsM M1) (rmM d1 h h1) (nH h1 - nH h) (zH h1 - zH h) n :=
  callB_of n ts (gd_in hcode) rfl rfl rfl (ts _ ok.2.1) (ts _ ok.1) ok.2.2 ⟨hR.1, by show 8 + (M1.2.2.1 + 11) + 64 * d1 ≤ _; omega⟩
theorem v_callS {index n : Nat} {as rest : List Value} {v : Option Value} (hd : decode M.2.1 pc = .ok (.invokestatic index, 3)) (hp : pc + 3 = pc') (ok : okC M.1.cls index M1.1 n) (hcode : Cond.code M1.1 M1.2.1 M1.2.2.1 M1.2.2.2.1 ∈ TB) (hsta : Cond.static M1.1 ∈ TB) (hm : M1.2.2.1 ≤ 45) (hd1 : d1 + 1 ≤ d) (hn : as.length = n) (hst : as.reverse ++ rest = st) (hcat : (rest.map fun v => v.category).sum ≤ 8)
    (hc : VM G M1 d1 as h (.inl v) h1) (k : V G M d pc' loc (v.toList ++ rest) h1 o h') : V G M d pc loc st h o h' := by
  subst hp; subst hst
  refine ⟨⟨Nat.le_trans hc.1.1 k.1.1, Nat.le_trans hc.1.2 k.1.2⟩, fun p l e R s m args below meth c H locs ls cells slots mc ms cx wr lr ll hl c1 c2 c3 c4 => ?_⟩
  have hfr := cx.fr
  have hlo := cx.lo
  have k1 := k.1
  have hr := vx_runS (p := p) (l := l) (e := e) (R := R) (s := s) (m := m) (args := args) (below := below) (meth := meth) (c := c) (H := H) (locs := locs) (cells := cells) (slots := slots) (Ts := TB) (own := M.1.cls) (nL := M.2.2.1) (cc := M.2.1) (g := F0 m pc ls ((as.reverse ++ rest).map (trV G))) (As := as.map (trV G)) (rest := rest.map (trV G))
    ⟨cx.ex, cx.by, cx.ml, cx.ow, cx.ts⟩ (hc.2 l cx.st) ⟨callB_mk (n := n) (d1 := d1) (h := h) (h1 := h1) cx.ts hcode ok ⟨by omega, by omega⟩ hm, cx.ts _ hsta⟩ ⟨VPc.blind G as h, fun U hU hW => ⟨rfl, by rw [hU]; exact wr.moved hW⟩⟩
    rfl (by rw [List.length_map]; exact hn) (by rw [← ll]; exact lr.1) (by simp) (by show 2 * 0 + _ ≤ 8; rw [cat_sum]; omega) hd ⟨by have := hc.1.1; omega, by have := hc.1.2; omega⟩
  exact run_ret hr cx wr lr ll hl rfl rfl hc.1.1 hc.1.2 k c1 c2 c3 c4
theorem v_callSx {index n : Nat} {as rest : List Value} {E : String} (hd : decode M.2.1 pc = .ok (.invokestatic index, 3)) (htab : M.2.2.2.2 = []) (ok : okC M.1.cls index M1.1 n) (hcode : Cond.code M1.1 M1.2.1 M1.2.2.1 M1.2.2.2.1 ∈ TB) (hsta : Cond.static M1.1 ∈ TB) (hm : M1.2.2.1 ≤ 45) (hd1 : d1 + 1 ≤ d) (hn : as.length = n) (hst : as.reverse ++ rest = st) (hcat : (rest.map fun v => v.category).sum ≤ 8)
    (hc : VM G M1 d1 as h (.inr E) h') : V G M d pc loc st h (.inr E) h' := by
  subst hst
  refine ⟨hc.1, fun p l e R s m args below meth c H locs ls cells slots mc ms cx wr lr ll hl c1 c2 c3 c4 => ?_⟩
  have hfr := cx.fr
  have hlo := cx.lo
  have hr := vx_runS (p := p) (l := l) (e := e) (R := R) (s := s) (m := m) (args := args) (below := below) (meth := meth) (c := c) (H := H) (locs := locs) (cells := cells) (slots := slots) (Ts := TB) (own := M.1.cls) (nL := M.2.2.1) (cc := M.2.1) (g := F0 m pc ls ((as.reverse ++ rest).map (trV G))) (As := as.map (trV G)) (rest := rest.map (trV G))
    ⟨cx.ex, cx.by, cx.ml, cx.ow, cx.ts⟩ (hc.2 l cx.st) ⟨callB_mk (n := n) (d1 := d1) (h := h) (h1 := h') cx.ts hcode ok ⟨by omega, by omega⟩ hm, cx.ts _ hsta⟩ ⟨VPc.blind G as h, fun U hU hW => ⟨rfl, by rw [hU]; exact wr.moved hW⟩⟩
    rfl (by rw [List.length_map]; exact hn) (by rw [← ll]; exact lr.1) (by simp) (by show 2 * 0 + _ ≤ 8; rw [cat_sum]; omega) hd ⟨by have := hc.1.1; omega, by have := hc.1.2; omega⟩
  exact run_thr hr htab cx wr hl rfl rfl c1 c2
theorem WR.recv {s : State} {H : Heap} (wr : WR G h s H) {r ci : Nat} (hk : kH h r = 10 + ci) (hci : ci < 10) : trV G (.ref r) = .ref (adG G r) ∧ ∃ cellB : Cell, H[adG G r]? = some cellB ∧ cellB.vm.isStatics = false ∧ s.vm.findClass (cT ci).1 = some cellB.cls := by
  obtain ⟨r4, rn⟩ := wr.in hk (by omega) (by omega)
  obtain ⟨cell, q1, q2, q3, q4⟩ := (wr.2.2.2.2.2.1 r r4 rn).2.1 (by omega) (by omega)
  rw [show kH h r - 10 = ci by omega] at q2
  exact ⟨trV_ref G (by omega), cell, q1, by rw [q3]; rfl, by rw [q2]; exact (wr.2.2.2.2.2.2.1.1 ci hci).2.1⟩
theorem v_callV (ci : Nat) {index n r : Nat} {as rest : List Value} {v : Option Value} (hd : decode M.2.1 pc = .ok (.invokevirtual index, 3)) (hp : pc + 3 = pc') (ok : okC M.1.cls index M1.1 n) (hcode : Cond.code M1.1 M1.2.1 M1.2.2.1 M1.2.2.2.1 ∈ TB) (hins : Cond.instanceMethod M1.1 ∈ TB) (hsel : Cond.selects (cT ci).1 M1.1 M1.1 ∈ TB) (hci : ci < 10) (hm : M1.2.2.1 ≤ 45) (hd1 : d1 + 1 ≤ d) (hn : as.length = n) (hst : as.reverse ++ .ref r :: rest = st) (hcat : (rest.map fun v => v.category).sum ≤ 8)
    (hk : kH h r = 10 + ci) (hc : VM G M1 d1 (.ref r :: as) h (.inl v) h1) (k : V G M d pc' loc (v.toList ++ rest) h1 o h') : V G M d pc loc st h o h' := by
  subst hp; subst hst
  refine ⟨⟨Nat.le_trans hc.1.1 k.1.1, Nat.le_trans hc.1.2 k.1.2⟩, fun p l e R s m args below meth c H locs ls cells slots mc ms cx wr lr ll hl c1 c2 c3 c4 => ?_⟩
  have hfr := cx.fr
  have hlo := cx.lo
  have k1 := k.1
  obtain ⟨ht, hre⟩ := wr.recv hk hci
  have hr := vx_runV (p := p) (l := l) (e := e) (R := R) (s := s) (m := m) (args := args) (below := below) (meth := meth) (c := c) (H := H) (locs := locs) (cells := cells) (slots := slots) (Ts := TB) (own := M.1.cls) (nL := M.2.2.1) (cc := M.2.1) (g := F0 m pc ls ((as.reverse ++ .ref r :: rest).map (trV G))) (b := adG G r) (As := as.map (trV G)) (rest := rest.map (trV G))
    ⟨cx.ex, cx.by, cx.ml, cx.ow, cx.ts⟩ (hc.2 l cx.st) ⟨callB_mk (n := n) (d1 := d1) (h := h) (h1 := h1) cx.ts hcode ok ⟨by omega, by omega⟩ hm, cx.ts _ hins, cx.ts _ hsel⟩ ⟨VPc.blind G _ h, hre, fun U hU hW => ⟨by rw [List.map_cons, ht], by rw [hU]; exact wr.moved hW⟩⟩
    rfl (by rw [List.length_map]; exact hn) (by rw [← ll]; exact lr.1) (by simp [ht]) (by show 2 * 0 + _ ≤ 8; rw [cat_sum]; omega) hd ⟨by have := hc.1.1; omega, by have := hc.1.2; omega⟩
  exact run_ret hr cx wr lr ll hl rfl rfl hc.1.1 hc.1.2 k c1 c2 c3 c4
theorem v_callVx (ci : Nat) {index n r : Nat} {as rest : List Value} {E : String} (hd : decode M.2.1 pc = .ok (.invokevirtual index, 3)) (htab : M.2.2.2.2 = []) (ok : okC M.1.cls index M1.1 n) (hcode : Cond.code M1.1 M1.2.1 M1.2.2.1 M1.2.2.2.1 ∈ TB) (hins : Cond.instanceMethod M1.1 ∈ TB) (hsel : Cond.selects (cT ci).1 M1.1 M1.1 ∈ TB) (hci : ci < 10) (hm : M1.2.2.1 ≤ 45) (hd1 : d1 + 1 ≤ d) (hn : as.length = n) (hst : as.reverse ++ .ref r :: rest = st) (hcat : (rest.map fun v => v.category).sum ≤ 8)
    (hk : kH h r = 10 + ci) (hc : VM G M1 d1 (.ref r :: as) h (.inr E) h') : V G M d pc loc st h (.inr E) h' := by
  subst hst
  refine ⟨hc.1, fun p l e R s m args below meth c H locs ls cells slots mc ms cx wr lr ll hl c1 c2 c3 c4 => ?_⟩
  have hfr := cx.fr
  have hlo := cx.lo
  obtain ⟨ht, hre⟩ := wr.recv hk hci
  have hr := vx_runV (p := p) (l := l) (e := e) (R := R) (s := s) (m := m) (args := args) (below := below) (meth := meth) (c := c) (H := H) (locs := locs) (cells := cells) (slots := slots) (Ts := TB) (own := M.1.cls) (nL := M.2.2.1) (cc := M.2.1) (g := F0 m pc ls ((as.reverse ++ .ref r :: rest).map (trV G))) (b := adG G r) (As := as.map (trV G)) (rest := rest.map (trV G))
    ⟨cx.ex, cx.by, cx.ml, cx.ow, cx.ts⟩ (hc.2 l cx.st) ⟨callB_mk (n := n) (d1 := d1) (h := h) (h1 := h') cx.ts hcode ok ⟨by omega, by omega⟩ hm, cx.ts _ hins, cx.ts _ hsel⟩ ⟨VPc.blind G _ h, hre, fun U hU hW => ⟨by rw [List.map_cons, ht], by rw [hU]; exact wr.moved hW⟩⟩
    rfl (by rw [List.length_map]; exact hn) (by rw [← ll]; exact lr.1) (by simp [ht]) (by show 2 * 0 + _ ≤ 8; rw [cat_sum]; omega) hd ⟨by have := hc.1.1; omega, by have := hc.1.2; omega⟩
  exact run_thr hr htab cx wr hl rfl rfl c1 c2
end VC
end
section
/-! ===== ROWS OF V: constructors, copies of arrays, Math ===== -/
def cpI (I : Nat → Nat → Int32) (src dst sp dp n : Nat) : Nat → Nat → Int32 := fun a j => if a = dst ∧ dp ≤ j ∧ j < dp + n then I src (sp + (j - dp)) else I a j
theorem cpI_ne {I : Nat → Nat → Int32} {src dst sp dp n a : Nat} (h : a ≠ dst) : cpI I src dst sp dp n a = I a := by funext j; simp [cpI, h]
theorem nfw_ok : nativeFrameWords "java/lang/System" "arraycopy" 5 ≤ 40 := by decide +kernel
section VC
variable {G : GG} {M M1 : MR} {d d1 pc pc' : Nat} {loc loc' st st' : List Value} {h h1 : Hp} {o : OU} {h' : Hp}
theorem VM.met {l : Launch} {as : List Value} {v : Option Value} (hc : VM G M1 d1 as h (.inl v) h1) (hl : l.stackTraces = false) : Met l M1.1 (wsM M1) (rmM d1 h h1) (VPc G as h) (VQc G (.inl v) h1) (nH h1 - nH h) (zH h1 - zH h) (fun q => G.1 ≤ q) := by
  intro p e ha hcs hk s m args below hf happ hP hK
  obtain ⟨n, oc, a, b, c, hQ⟩ := hc.2 l hl p e ha hcs hk s m args below hf happ hP hK
  refine ⟨n, oc, a, b, c, ?_⟩
  rcases hQ with hQ | ⟨q, ho, E, ce, L, hx, -⟩
  · exact hQ
  · exact absurd hx.1 (fun q => by cases q)
/-- a constructor of a class -/
theorem v_callI {index n r : Nat} {as rest : List Value} (hd : decode M.2.1 pc = .ok (.invokespecial index, 3)) (hp : pc + 3 = pc') (hin : M1.1.name = "<init>") (hrt : M1.2.2.2.1 = none) (ok : okC M.1.cls index M1.1 n) (hcode : Cond.code M1.1 M1.2.1 M1.2.2.1 M1.2.2.2.1 ∈ TB) (hins : Cond.instanceMethod M1.1 ∈ TB) (hm : M1.2.2.1 ≤ 45) (hd1 : d1 + 1 ≤ d) (hn : as.length = n) (hst : as.reverse ++ .ref r :: rest = st) (hcat : (rest.map fun v => v.category).sum ≤ 8)
    (hr0 : r ≠ 0) (hc : VM G M1 d1 (.ref r :: as) h (.inl none) h1) (k : V G M d pc' loc rest h1 o h') : V G M d pc loc st h o h' := by
  subst hp; subst hst
  refine ⟨⟨Nat.le_trans hc.1.1 k.1.1, Nat.le_trans hc.1.2 k.1.2⟩, fun p l e R s m args below meth c H locs ls cells slots mc ms cx wr lr ll hl c1 c2 c3 c4 => ?_⟩
  have hfr := cx.fr
  have hlo := cx.lo
  have k1 := k.1
  have ht := trV_ref G hr0
  have hcb := callB_mk (M1 := M1) (R := R) (s := s) (args := args) (own := M.1.cls) (index := index) (n := n) (d1 := d1) (h := h) (h1 := h1) cx.ts hcode ok ⟨by omega, by omega⟩ hm
  rw [hrt] at hcb
  have hr := va_runI (p := p) (l := l) (e := e) (R := R) (s := s) (m := m) (args := args) (below := below) (meth := meth) (c := c) (H := H) (locs := locs) (cells := cells) (slots := slots) (Ts := TB) (own := M.1.cls) (nL := M.2.2.1) (cc := M.2.1) (g := F0 m pc ls ((as.reverse ++ .ref r :: rest).map (trV G))) (b := adG G r) (As := as.map (trV G)) (rest := rest.map (trV G))
    ⟨cx.ex, cx.by, cx.ml, cx.ow, cx.ts⟩ (hc.met cx.st) ⟨hcb, hin, cx.ts _ hins⟩ ⟨VPc.blind G _ h, fun U hU hW => ⟨by rw [List.map_cons, ht], by rw [hU]; exact wr.moved hW⟩⟩
    rfl (by rw [List.length_map]; exact hn) (by rw [← ll]; exact lr.1) (by simp [ht]) (by show 2 * 0 + _ ≤ 8; rw [cat_sum]; omega) hd ⟨by have := hc.1.1; omega, by have := hc.1.2; omega⟩
  exact run_ret (v := none) (fun T hT X => Or.inl (hr T hT X)) cx wr lr ll hl rfl rfl hc.1.1 hc.1.2 k c1 c2 c3 c4
/-- a private constructor of a nest mate -/
theorem v_callN (host : String) {index n r : Nat} {as rest : List Value} (hd : decode M.2.1 pc = .ok (.invokespecial index, 3)) (hp : pc + 3 = pc') (hin : M1.1.name = "<init>") (hrt : M1.2.2.2.1 = none) (hnw : (M.1.cls, index, M1.1, host) ∈ nestW) (hini : Cond.initialized M1.1.cls ∈ TB) (hdd : M1.1.cls ≠ "java/lang/invoke/MethodHandle" ∧ M1.1.cls ≠ "java/lang/invoke/VarHandle" ∧ (parseMethodDescriptor M1.1.desc).map (fun d => d.parameters.length) = some n) (hcode : Cond.code M1.1 M1.2.1 M1.2.2.1 M1.2.2.2.1 ∈ TB) (hins : Cond.instanceMethod M1.1 ∈ TB) (hm : M1.2.2.1 ≤ 45) (hd1 : d1 + 1 ≤ d) (hn : as.length = n) (hst : as.reverse ++ .ref r :: rest = st) (hcat : (rest.map fun v => v.category).sum ≤ 8)
    (hr0 : r ≠ 0) (hc : VM G M1 d1 (.ref r :: as) h (.inl none) h1) (k : V G M d pc' loc rest h1 o h') : V G M d pc loc st h o h' := by
  subst hp; subst hst
  refine ⟨⟨Nat.le_trans hc.1.1 k.1.1, Nat.le_trans hc.1.2 k.1.2⟩, fun p l e R s m args below meth c H locs ls cells slots mc ms cx wr lr ll hl c1 c2 c3 c4 => ?_⟩
  have hfr := cx.fr
  have hlo := cx.lo
  have k1 := k.1
  have ht := trV_ref G hr0
  have hcb : va_CN R s args M.1.cls index M1.1 host M1.2.1 M1.2.2.1 M1.2.2.2.1 (wsM M1) (rmM d1 h h1) (nH h1 - nH h) (zH h1 - zH h) n :=
    va_cnB n cx.ts (gd_in hcode) rfl rfl rfl (wr.2.2.2.2.2.2.1.2.2.1 _ hnw) (cx.ts _ hini) hdd ⟨by show d1 + 1 ≤ _; omega, by show 8 + (M1.2.2.1 + 11) + 64 * d1 ≤ _; omega⟩
  rw [hrt] at hcb
  have hr := va_runIN (p := p) (l := l) (e := e) (R := R) (s := s) (m := m) (args := args) (below := below) (meth := meth) (c := c) (H := H) (locs := locs) (cells := cells) (slots := slots) (Ts := TB) (own := M.1.cls) (nL := M.2.2.1) (cc := M.2.1) (g := F0 m pc ls ((as.reverse ++ .ref r :: rest).map (trV G))) (b := adG G r) (As := as.map (trV G)) (rest := rest.map (trV G))
    ⟨cx.ex, cx.by, cx.ml, cx.ow, cx.ts⟩ (hc.met cx.st) ⟨hcb, hin, cx.ts _ hins⟩ ⟨VPc.blind G _ h, fun U hU hW => ⟨by rw [List.map_cons, ht], by rw [hU]; exact wr.moved hW⟩⟩
    rfl (by rw [List.length_map]; exact hn) (by rw [← ll]; exact lr.1) (by simp [ht]) (by show 2 * 0 + _ ≤ 8; rw [cat_sum]; omega) hd ⟨by have := hc.1.1; omega, by have := hc.1.2; omega⟩
  exact run_ret (v := none) (fun T hT X => Or.inl (hr T hT X)) cx wr lr ll hl rfl rfl hc.1.1 hc.1.2 k c1 c2 c3 c4
theorem v_objInit {index r : Nat} (hd : decode M.2.1 pc = .ok (.invokespecial index, 3)) (hp : pc + 3 = pc') (hw : Cond.methodLink M.1.cls index objectInit ∈ TB) (hi : Cond.instanceMethod objectInit ∈ TB) (hco : Cond.code objectInit ⟨#[0xb1]⟩ 1 none ∈ TB) (hd1 : 1 ≤ d) (hcat : (st.map fun v => v.category).sum ≤ 8) (hr0 : r ≠ 0) (k : V G M d pc' loc st h o h') : V G M d pc loc (.ref r :: st) h o h' := by
  subst hp
  refine ⟨k.1, fun p l e R s m args below meth c H locs ls cells slots mc ms cx wr lr ll hl c1 c2 c3 c4 => ?_⟩
  have hfr := cx.fr
  have hlo := cx.lo
  have k2 := k.2 p l e R s m args below meth c H locs ls cells slots mc ms cx wr lr ll hl c1 c2 c3 c4
  rw [List.map_cons, trV_ref G hr0]
  exact W.objInit cx.ex cx.by cx.ow (cx.ts _ hw) (cx.ts _ hi) (cx.ts _ hco) rfl (by rw [cx.ml, ← ll]; exact lr.1) rfl hd (by omega) (by show 2 * 0 + ((st.map (trV G)).map fun v => v.category).sum + 12 ≤ _; rw [cat_sum]; omega) k2
/-- System.arraycopy between arrays of ints, or of bytes -/
theorem v_copy (kd : Nat) {index src dst : Nat} {sp dp n : Int32} (hd : decode M.2.1 pc = .ok (.invokestatic index, 3)) (hp : pc + 3 = pc') (hw : Cond.methodLink M.1.cls index arraycopyName ∈ TB) (hna : Cond.native arraycopyName ∈ TB) (hsta : Cond.static arraycopyName ∈ TB) (hini : Cond.initialized "java/lang/System" ∈ TB) (hd1 : 1 ≤ d) (hcat : (st.map fun v => v.category).sum ≤ 8) (hkd : kd = 1 ∨ kd = 2)
    (hks : kH h src = kd) (hkt : kH h dst = kd) {sj dj nj : Nat} (hsj : sp.toNatClampNeg = sj) (hdj : dp.toNatClampNeg = dj) (hnj : n.toNatClampNeg = nj) (h1 : ¬ sp < 0) (h2 : ¬ dp < 0) (h3 : ¬ n < 0) (h4 : sj + nj ≤ lH h src) (h5 : dj + nj ≤ lH h dst)
    (k : V G M d pc' loc st (h.1, cpI h.2 src dst sj dj nj) o h') : V G M d pc loc (.int n :: .int dp :: .ref dst :: .int sp :: .ref src :: st) h o h' := by
  subst hp; subst hsj; subst hdj; subst hnj
  refine ⟨k.1, fun p l e R s m args below meth c H locs ls cells slots mc ms cx wr lr ll hl c1 c2 c3 c4 => ?_⟩
  have hfr := cx.fr
  have hlo := cx.lo
  have nn : ∀ z : Int32, ¬ z < 0 → z.toInt = (z.toNatClampNeg : Int) := by
    intro z hz
    have hz0 : (0 : Int) ≤ z.toInt := by
      have := Int32.not_lt.mp hz
      simpa using Int32.le_iff_toInt_le.mp this
    show z.toInt = ((z.toInt.toNat : Nat) : Int)
    omega
  have wr0 := wr
  obtain ⟨s4, sn, ts, hcs, hAs, -⟩ := wr.arr hks (by omega) (by omega)
  obtain ⟨t4, tn, tt, hct, hAt, -⟩ := wr.arr hkt (by omega) (by omega)
  have eA : ∀ (I : Nat → Int32) (R : Nat → Nat), aV G kd I R = fun j => .int (I j) := fun I R => by rcases hkd with rfl | rfl <;> rfl
  rw [eA] at hcs hct
  have hfit : ∀ i, i < n.toNatClampNeg → fits (aty kd) (.int (h.2 src (sp.toNatClampNeg + i))) = true := fun i hi => by
    rcases hkd with rfl | rfl
    · rfl
    · exact (wr0.2.2.2.2.2.1 src s4 sn).2.2 hks _ (by omega)
  have hprim : refKind (aty kd) = false := by rcases hkd with rfl | rfl <;> rfl
  intro T hT X
  obtain ⟨-, k0, hk0, cm0, hkk0⟩ := hAs (lH h src) (fun j => .int (h.2 src j))
  obtain ⟨-, k1, hk1, cm1, hkk1⟩ := hAt (lH h dst) (fun j => .int (h.2 dst j))
  have hnf := nfw_ok
  obtain ⟨vm', X', step⟩ := X.arraycopy cx.ex cx.ow (cx.ts _ hw) (cx.ts _ hna) (cx.ts _ hsta) (cx.ts _ hini) (src := adG G src) (dst := adG G dst) (cs := arrV (G.2.2.2.2 kd) (lH h src) (fun j => .int (h.2 src j))) (cd := arrV (G.2.2.2.2 kd) (lH h dst) (fun j => .int (h.2 dst j))) (srcPos := sp) (destPos := dp) (n := n) (by rw [hT]; exact hcs) (by rw [hT]; exact hct)
    (fun _ h => by cases h) (fun _ h => by cases h) (fun h => by cases h) (fun h => by cases h) hk0 hk1 hkk0 hkk1 (by simp [hprim]) h1 h2 h3
    (by rw [nn sp h1, nn n h3, arrV_size]; omega)
    (by rw [nn dp h2, nn n h3, arrV_size]; omega)
    (fun vm₁ _ i hi => by
      have e : (arrV (G.2.2.2.2 kd) (lH h src) (fun j => .int (h.2 src j))).slots.getD (sp.toNatClampNeg + i) .null = .int (h.2 src (sp.toNatClampNeg + i)) := by
        rw [Array.getD_eq_getD_getElem?, arrV_read _ _ (by omega)]
        rfl
      refine ⟨?_, ?_⟩
      · rw [e]
        exact hfit i hi
      · rw [e]
        exact trivial)
    (g := F0 m pc ls ((Value.int n :: .int dp :: .ref dst :: .int sp :: .ref src :: st).map (trV G))) rfl (by rw [cx.ml, ← ll]; exact lr.1) (rest := st.map (trV G)) (by show trV G _ :: trV G _ :: trV G (.ref dst) :: trV G _ :: trV G (.ref src) :: _ = _; rw [ts, tt]; rfl) (by rw [cx.by]; exact hd) (by omega) (by show 2 * 0 + ((st.map (trV G)).map fun v => v.category).sum + _ ≤ _; rw [cat_sum]; omega)
  have e1 : copied (arrV (G.2.2.2.2 kd) (lH h src) (fun j => .int (h.2 src j))) (arrV (G.2.2.2.2 kd) (lH h dst) (fun j => .int (h.2 dst j))) sp dp n = arrV (G.2.2.2.2 kd) (lH h dst) (fun j => .int (va_cpy (h.2 src) (h.2 dst) sp.toNatClampNeg dp.toNatClampNeg n.toNatClampNeg j)) := va_copied (fun z => .int z) _ _ (h.2 src) (h.2 dst) h4
  rw [e1] at X' step
  have hheap : ((T.setVm vm').setCell (adG G dst) (arrV (G.2.2.2.2 kd) (lH h dst) (fun j => .int (va_cpy (h.2 src) (h.2 dst) sp.toNatClampNeg dp.toNatClampNeg n.toNatClampNeg j)))).heap = H.setIfInBounds (adG G dst) (arrV (G.2.2.2.2 kd) (lH h dst) (fun j => .int (va_cpy (h.2 src) (h.2 dst) sp.toNatClampNeg dp.toNatClampNeg n.toNatClampNeg j))) := by rw [← hT]; rfl
  have hlt : adG G dst < H.size := (Array.getElem?_eq_some_iff.mp hct).1
  obtain ⟨t, a1, b1⟩ := k.2 p l e R s m args below meth c (H.setIfInBounds (adG G dst) (arrV (G.2.2.2.2 kd) (lH h dst) (fun j => .int (va_cpy (h.2 src) (h.2 dst) sp.toNatClampNeg dp.toNatClampNeg n.toNatClampNeg j)))) _ ls cells slots mc ms cx
    (wr0.set t4 (by simp) (fun q hq => by simp [Array.getElem?_setIfInBounds, Ne.symm hq]) rfl rfl rfl (fun a ha => cpI_ne ha) (fun a ha => rfl) (by
      refine CR.arr hkt (by omega) (by omega) (f := fun j => .int (va_cpy (h.2 src) (h.2 dst) sp.toNatClampNeg dp.toNatClampNeg n.toNatClampNeg j)) (by simp [Array.getElem?_setIfInBounds, hlt]) (fun j => ?_) (fun q j hj => ?_)
      · rw [eA]
        show Value.int _ = Value.int (cpI h.2 src dst sp.toNatClampNeg dp.toNatClampNeg n.toNatClampNeg dst j)
        congr 1
        unfold cpI
        by_cases e0 : dp.toNatClampNeg ≤ j ∧ j < dp.toNatClampNeg + n.toNatClampNeg
        · rw [pk_cpy_in e0.1 e0.2, if_pos ⟨rfl, e0⟩]
        · rw [pk_cpy_out (by omega), if_neg (fun x => e0 x.2)]
      · subst q
        show fits .byte (.int (cpI h.2 src dst sp.toNatClampNeg dp.toNatClampNeg n.toNatClampNeg dst j)) = true
        unfold cpI
        split
        · exact (wr0.2.2.2.2.2.1 src s4 sn).2.2 hks _ (by omega)
        · exact (wr0.2.2.2.2.2.1 dst t4 tn).2.2 hkt j hj)) lr ll (fun z hz => by
      rcases List.mem_append.mp hz with q | q
      · exact hl z q
      · obtain ⟨w, -, hw⟩ := List.mem_map.mp q
        rw [← hw]
        exact adG_ge G t4) c1 c2 c3 c4 _ hheap X'
  exact ⟨t, step t a1, b1⟩
theorem v_mmax {index : Nat} {x y : Int32} (hd : decode M.2.1 pc = .ok (.invokestatic index, 3)) (hp : pc + 3 = pc') (hw : Cond.methodLink M.1.cls index Lib.Math.max.name ∈ TB) (hsta : Cond.static Lib.Math.max.name ∈ TB) (hini : Cond.initialized "java/lang/Math" ∈ TB) (hco : Cond.code Lib.Math.max.name Lib.Math.max.code 2 (some .int) ∈ TB) (hd1 : 1 ≤ d) (hcat : (st.map fun v => v.category).sum ≤ 8) (k : V G M d pc' loc (.int (if x < y then y else x) :: st) h o h') : V G M d pc loc (.int y :: .int x :: st) h o h' := by
  subst hp
  refine ⟨k.1, fun p l e R s m args below meth c H locs ls cells slots mc ms cx wr lr ll hl c1 c2 c3 c4 => ?_⟩
  have hfr := cx.fr
  have hlo := cx.lo
  have k2 := k.2 p l e R s m args below meth c H locs ls cells slots mc ms cx wr lr ll hl c1 c2 c3 c4
  exact va_mmax cx.ex cx.by (by rw [cx.ml, ← ll]; exact lr.1.symm) cx.ow (cx.ts _ hw) (cx.ts _ hsta) (cx.ts _ hini) (cx.ts _ hco) (by omega) (by rw [cat_sum]; omega) (by omega) (by omega) hd k2
theorem v_mmin {index : Nat} {x y : Int32} (hd : decode M.2.1 pc = .ok (.invokestatic index, 3)) (hp : pc + 3 = pc') (hw : Cond.methodLink M.1.cls index Lib.Math.min.name ∈ TB) (hsta : Cond.static Lib.Math.min.name ∈ TB) (hini : Cond.initialized "java/lang/Math" ∈ TB) (hco : Cond.code Lib.Math.min.name Lib.Math.min.code 2 (some .int) ∈ TB) (hd1 : 1 ≤ d) (hcat : (st.map fun v => v.category).sum ≤ 8) (k : V G M d pc' loc (.int (if y < x then y else x) :: st) h o h') : V G M d pc loc (.int y :: .int x :: st) h o h' := by
  subst hp
  refine ⟨k.1, fun p l e R s m args below meth c H locs ls cells slots mc ms cx wr lr ll hl c1 c2 c3 c4 => ?_⟩
  have hfr := cx.fr
  have hlo := cx.lo
  have k2 := k.2 p l e R s m args below meth c H locs ls cells slots mc ms cx wr lr ll hl c1 c2 c3 c4
  exact va_mmin cx.ex cx.by (by rw [cx.ml, ← ll]; exact lr.1.symm) cx.ow (cx.ts _ hw) (cx.ts _ hsta) (cx.ts _ hini) (cx.ts _ hco) (by omega) (by rw [cat_sum]; omega) (by omega) (by omega) hd k2
end VC
end
section
/-! ===== words of the tables, constants (written by wip/whole/build.py) ===== -/
theorem kI_m1 : Int32.ofInt (-1) = (-1) := by decide
theorem kI_1 : Int32.ofInt 1 = 1 := by decide
theorem kX_16 (x : Int32) : x + Int32.ofInt 16 = x + 16 := by rw [show Int32.ofInt 16 = 16 by decide]
theorem kB_16 : (Int8.ofInt 16).toInt32 = 16 := by decide
theorem kB_32 : (Int8.ofInt 32).toInt32 = 32 := by decide
theorem kS_256 : (Int16.ofInt 256).toInt32 = 256 := by decide
theorem kX_8 (x : Int32) : x + Int32.ofInt 8 = x + 8 := by rw [show Int32.ofInt 8 = 8 by decide]
theorem kB_8 : (Int8.ofInt 8).toInt32 = 8 := by decide
theorem kI_4 : Int32.ofInt 4 = 4 := by decide
theorem kX_2 (x : Int32) : x + Int32.ofInt 2 = x + 2 := by rw [show Int32.ofInt 2 = 2 by decide]
theorem kI_2 : Int32.ofInt 2 = 2 := by decide
theorem kX_4 (x : Int32) : x + Int32.ofInt 4 = x + 4 := by rw [show Int32.ofInt 4 = 4 by decide]
theorem kB_63 : (Int8.ofInt 63).toInt32 = 63 := by decide
theorem kI_0 : Int32.ofInt 0 = 0 := by decide
theorem kX_1 (x : Int32) : x + Int32.ofInt 1 = x + 1 := by rw [show Int32.ofInt 1 = 1 by decide]
theorem kB_20 : (Int8.ofInt 20).toInt32 = 20 := by decide
theorem kS_600 : (Int16.ofInt 600).toInt32 = 600 := by decide
theorem kB_12 : (Int8.ofInt 12).toInt32 = 12 := by decide
theorem kB_24 : (Int8.ofInt 24).toInt32 = 24 := by decide
theorem kS_255 : (Int16.ofInt 255).toInt32 = 255 := by decide
theorem kB_48 : (Int8.ofInt 48).toInt32 = 48 := by decide
theorem kB_57 : (Int8.ofInt 57).toInt32 = 57 := by decide
theorem kB_97 : (Int8.ofInt 97).toInt32 = 97 := by decide
theorem kB_122 : (Int8.ofInt 122).toInt32 = 122 := by decide
theorem kB_10 : (Int8.ofInt 10).toInt32 = 10 := by decide
theorem kB_6 : (Int8.ofInt 6).toInt32 = 6 := by decide
theorem kB_27 : (Int8.ofInt 27).toInt32 = 27 := by decide
theorem kB_13 : (Int8.ofInt 13).toInt32 = 13 := by decide
theorem kB_11 : (Int8.ofInt 11).toInt32 = 11 := by decide
theorem kI_5 : Int32.ofInt 5 = 5 := by decide
theorem kB_9 : (Int8.ofInt 9).toInt32 = 9 := by decide
theorem kB_18 : (Int8.ofInt 18).toInt32 = 18 := by decide
theorem kB_14 : (Int8.ofInt 14).toInt32 = 14 := by decide
theorem kB_7 : (Int8.ofInt 7).toInt32 = 7 := by decide
theorem kB_15 : (Int8.ofInt 15).toInt32 = 15 := by decide
theorem kB_23 : (Int8.ofInt 23).toInt32 = 23 := by decide
theorem kB_21 : (Int8.ofInt 21).toInt32 = 21 := by decide
theorem kI_3 : Int32.ofInt 3 = 3 := by decide
theorem kB_19 : (Int8.ofInt 19).toInt32 = 19 := by decide
theorem kB_25 : (Int8.ofInt 25).toInt32 = 25 := by decide
theorem kN_0 : (0 : Int32).toNatClampNeg = 0 := by decide
theorem kN_1 : (1 : Int32).toNatClampNeg = 1 := by decide
theorem kB_99 : (Int8.ofInt 99).toInt32 = 99 := by decide
theorem kN_2 : (2 : Int32).toNatClampNeg = 2 := by decide
theorem kN_3 : (3 : Int32).toNatClampNeg = 3 := by decide
theorem kB_31 : (Int8.ofInt 31).toInt32 = 31 := by decide
theorem kB_60 : (Int8.ofInt 60).toInt32 = 60 := by decide
theorem kB_91 : (Int8.ofInt 91).toInt32 = 91 := by decide
theorem kB_93 : (Int8.ofInt 93).toInt32 = 93 := by decide
theorem kN_4 : (4 : Int32).toNatClampNeg = 4 := by decide
theorem kB_59 : (Int8.ofInt 59).toInt32 = 59 := by decide
theorem kB_26 : (Int8.ofInt 26).toInt32 = 26 := by decide
theorem kS_3398 : (Int16.ofInt 3398).toInt32 = 3398 := by decide
theorem kS_3392 : (Int16.ofInt 3392).toInt32 = 3392 := by decide
theorem kN_3392 : (3392 : Int32).toNatClampNeg = 3392 := by decide
theorem kS_3393 : (Int16.ofInt 3393).toInt32 = 3393 := by decide
theorem kN_3393 : (3393 : Int32).toNatClampNeg = 3393 := by decide
theorem kS_3394 : (Int16.ofInt 3394).toInt32 = 3394 := by decide
theorem kN_3394 : (3394 : Int32).toNatClampNeg = 3394 := by decide
theorem kS_512 : (Int16.ofInt 512).toInt32 = 512 := by decide
theorem kS_2912 : (Int16.ofInt 2912).toInt32 = 2912 := by decide
theorem kX_m1 (x : Int32) : x + Int32.ofInt (-1) = x + (-1) := by rw [show Int32.ofInt (-1) = (-1) by decide]
theorem kS_3396 : (Int16.ofInt 3396).toInt32 = 3396 := by decide
theorem kN_3396 : (3396 : Int32).toNatClampNeg = 3396 := by decide
theorem kS_3395 : (Int16.ofInt 3395).toInt32 = 3395 := by decide
theorem kN_3395 : (3395 : Int32).toNatClampNeg = 3395 := by decide
theorem kB_30 : (Int8.ofInt 30).toInt32 = 30 := by decide
theorem kB_100 : (Int8.ofInt 100).toInt32 = 100 := by decide
theorem kS_3397 : (Int16.ofInt 3397).toInt32 = 3397 := by decide
theorem kN_3397 : (3397 : Int32).toNatClampNeg = 3397 := by decide
theorem kS_200 : (Int16.ofInt 200).toInt32 = 200 := by decide
theorem kB_m20 : (Int8.ofInt (-20)).toInt32 = (-20) := by decide
theorem kS_150 : (Int16.ofInt 150).toInt32 = 150 := by decide
theorem kS_12345 : (Int16.ofInt 12345).toInt32 = 12345 := by decide
theorem kS_32767 : (Int16.ofInt 32767).toInt32 = 32767 := by decide
theorem kB_96 : (Int8.ofInt 96).toInt32 = 96 := by decide
theorem kB_64 : (Int8.ofInt 64).toInt32 = 64 := by decide
theorem kN_16 : (16 : Int32).toNatClampNeg = 16 := by decide
theorem kS_10000 : (Int16.ofInt 10000).toInt32 = 10000 := by decide
theorem kS_1000 : (Int16.ofInt 1000).toInt32 = 1000 := by decide
theorem kS_4096 : (Int16.ofInt 4096).toInt32 = 4096 := by decide
theorem kS_1024 : (Int16.ofInt 1024).toInt32 = 1024 := by decide
theorem kB_17 : (Int8.ofInt 17).toInt32 = 17 := by decide
theorem kN_17 : (17 : Int32).toNatClampNeg = 17 := by decide
theorem kN_18 : (18 : Int32).toNatClampNeg = 18 := by decide
theorem kN_256 : (256 : Int32).toNatClampNeg = 256 := by decide
theorem kB_m16 : (Int8.ofInt (-16)).toInt32 = (-16) := by decide
theorem kS_580 : (Int16.ofInt 580).toInt32 = 580 := by decide
theorem kX_m8 (x : Int32) : x + Int32.ofInt (-8) = x + (-8) := by rw [show Int32.ofInt (-8) = (-8) by decide]
theorem kv_J6_264 : Cond.constant RJ6 264 (65536) ∈ TB := tb_in 561 (by decide +kernel) rfl
theorem kv_J6_265 : Cond.constant RJ6 265 (1431655765) ∈ TB := tb_in 543 (by decide +kernel) rfl
theorem kv_J6_266 : Cond.constant RJ6 266 (858993459) ∈ TB := tb_in 544 (by decide +kernel) rfl
theorem kv_J6_267 : Cond.constant RJ6 267 (252645135) ∈ TB := tb_in 545 (by decide +kernel) rfl
theorem km_X0_3 : Cond.methodLink RX0 3 objectInit ∈ TB := tb_in 242 (by decide +kernel) rfl
theorem kx_oi : Cond.instanceMethod objectInit ∈ TB := tb_in 134 (by decide +kernel) rfl
theorem kx_oc : Cond.code objectInit ⟨#[0xb1]⟩ 1 none ∈ TB := tb_in 135 (by decide +kernel) rfl
theorem kk_X0_9 : Cond.classLink RX0 9 RX5 ∈ TB := tb_in 243 (by decide +kernel) rfl
theorem kf_X0_11 : Cond.fieldLink RX0 11 "RolledBack$History" "rows" "[LRolledBack$State;" ∈ TB := tb_in 245 (by decide +kernel) rfl
theorem kf_X0_17 : Cond.fieldLink RX0 17 "RolledBack$History" "length" "I" ∈ TB := tb_in 246 (by decide +kernel) rfl
theorem kc_X0_keep : Cond.code yX0_keep cX0_keep 3 none ∈ TB := tb_in 734 (by decide +kernel) rfl
theorem km_X0_21 : Cond.methodLink RX0 21 yX0_keep ∈ TB := tb_in 731 (by decide +kernel) rfl
theorem kn_X0 : Cond.initialized RX0 ∈ TB := tb_in 105 (by decide +kernel) rfl
theorem ko_X0_21 : okC RX0 21 yX0_keep 2 := ⟨km_X0_21, kn_X0, by decide +kernel⟩
theorem ki_X0_keep : Cond.instanceMethod yX0_keep ∈ TB := tb_in 733 (by decide +kernel) rfl
theorem ks_X0_keep : Cond.selects RX0 yX0_keep yX0_keep ∈ TB := tb_in 24 (by decide +kernel) rfl
theorem kc_X5_copyFrom : Cond.code yX5_copyFrom cX5_copyFrom 2 none ∈ TB := tb_in 452 (by decide +kernel) rfl
theorem km_X0_25 : Cond.methodLink RX0 25 yX5_copyFrom ∈ TB := tb_in 449 (by decide +kernel) rfl
theorem kn_X5 : Cond.initialized RX5 ∈ TB := tb_in 103 (by decide +kernel) rfl
theorem ko_X0_25 : okC RX0 25 yX5_copyFrom 1 := ⟨km_X0_25, kn_X5, by decide +kernel⟩
theorem ki_X5_copyFrom : Cond.instanceMethod yX5_copyFrom ∈ TB := tb_in 450 (by decide +kernel) rfl
theorem ks_X5_copyFrom : Cond.selects RX5 yX5_copyFrom yX5_copyFrom ∈ TB := tb_in 451 (by decide +kernel) rfl
theorem kb_X5 : Cond.instantiable RX5 16 ∈ TB := tb_in 137 (by decide +kernel) rfl
theorem kc_X5_init : Cond.code yX5_init cX5_init 1 none ∈ TB := tb_in 140 (by decide +kernel) rfl
theorem km_X0_29 : Cond.methodLink RX0 29 yX5_init ∈ TB := tb_in 735 (by decide +kernel) rfl
theorem ko_X0_29 : okC RX0 29 yX5_init 0 := ⟨km_X0_29, kn_X5, by decide +kernel⟩
theorem ki_X5_init : Cond.instanceMethod yX5_init ∈ TB := tb_in 139 (by decide +kernel) rfl
theorem km_X1_1 : Cond.methodLink RX1 1 objectInit ∈ TB := tb_in 713 (by decide +kernel) rfl
theorem kk_X1_7 : Cond.classLink RX1 7 RX5 ∈ TB := tb_in 714 (by decide +kernel) rfl
theorem kf_X1_10 : Cond.fieldLink RX1 10 "RolledBack$Image" "then" "LRolledBack$State;" ∈ TB := tb_in 718 (by decide +kernel) rfl
theorem kk_X1_16 : Cond.classLink RX1 16 RX0 ∈ TB := tb_in 716 (by decide +kernel) rfl
theorem kb_X0 : Cond.instantiable RX0 2 ∈ TB := tb_in 238 (by decide +kernel) rfl
theorem kc_X0_init : Cond.code yX0_init cX0_init 1 none ∈ TB := tb_in 241 (by decide +kernel) rfl
theorem kf_X1_19 : Cond.fieldLink RX1 19 "RolledBack$Image" "works" "LRolledBack$History;" ∈ TB := tb_in 720 (by decide +kernel) rfl
theorem ki_X0_init : Cond.instanceMethod yX0_init ∈ TB := tb_in 240 (by decide +kernel) rfl
theorem km_X1_9 : Cond.methodLink RX1 9 yX5_init ∈ TB := tb_in 715 (by decide +kernel) rfl
theorem ko_X1_9 : okC RX1 9 yX5_init 0 := ⟨km_X1_9, kn_X5, by decide +kernel⟩
theorem kf_X10_72 : Cond.fieldLink RX10 72 "RolledBackModel" "thrown" "I" ∈ TB := tb_in 1528 (by decide +kernel) rfl
theorem kf_X10_17 : Cond.fieldLink RX10 17 "RolledBackModel" "refused" "[I" ∈ TB := tb_in 1538 (by decide +kernel) rfl
theorem kf_X10_75 : Cond.fieldLink RX10 75 "RolledBackModel" "tape" "I" ∈ TB := tb_in 1529 (by decide +kernel) rfl
theorem kf_X10_13 : Cond.fieldLink RX10 13 "RolledBackModel" "fed" "[I" ∈ TB := tb_in 1537 (by decide +kernel) rfl
theorem kf_X10_78 : Cond.fieldLink RX10 78 "RolledBackModel" "size" "I" ∈ TB := tb_in 1530 (by decide +kernel) rfl
theorem kf_X10_81 : Cond.fieldLink RX10 81 "RolledBackModel" "at" "I" ∈ TB := tb_in 1532 (by decide +kernel) rfl
theorem kc_X10_byteAt : Cond.code yX10_byteAt cX10_byteAt 2 (some .int) ∈ TB := tb_in 1673 (by decide +kernel) rfl
theorem km_X10_84 : Cond.methodLink RX10 84 yX10_byteAt ∈ TB := tb_in 1670 (by decide +kernel) rfl
theorem kn_X10 : Cond.initialized RX10 ∈ TB := tb_in 110 (by decide +kernel) rfl
theorem ko_X10_84 : okC RX10 84 yX10_byteAt 1 := ⟨km_X10_84, kn_X10, by decide +kernel⟩
theorem ki_X10_byteAt : Cond.instanceMethod yX10_byteAt ∈ TB := tb_in 1672 (by decide +kernel) rfl
theorem ks_X10_byteAt : Cond.selects RX10 yX10_byteAt yX10_byteAt ∈ TB := tb_in 69 (by decide +kernel) rfl
theorem kf_X10_88 : Cond.fieldLink RX10 88 "RolledBackModel" "fault" "I" ∈ TB := tb_in 1533 (by decide +kernel) rfl
theorem kf_X10_91 : Cond.fieldLink RX10 91 "RolledBackModel" "faultAt" "I" ∈ TB := tb_in 1534 (by decide +kernel) rfl
theorem kc_X10_blanks : Cond.code yX10_blanks cX10_blanks 1 none ∈ TB := tb_in 1669 (by decide +kernel) rfl
theorem kc_X10_isDigit : Cond.code yX10_isDigit cX10_isDigit 1 (some .boolean) ∈ TB := tb_in 1718 (by decide +kernel) rfl
theorem km_X10_97 : Cond.methodLink RX10 97 yX10_isDigit ∈ TB := tb_in 1716 (by decide +kernel) rfl
theorem ko_X10_97 : okC RX10 97 yX10_isDigit 1 := ⟨km_X10_97, kn_X10, by decide +kernel⟩
theorem kt_X10_isDigit : Cond.static yX10_isDigit ∈ TB := tb_in 1717 (by decide +kernel) rfl
theorem kc_X10_wrong : Cond.code yX10_wrong cX10_wrong 3 none ∈ TB := tb_in 1699 (by decide +kernel) rfl
theorem km_X10_101 : Cond.methodLink RX10 101 yX10_wrong ∈ TB := tb_in 1696 (by decide +kernel) rfl
theorem ko_X10_101 : okC RX10 101 yX10_wrong 2 := ⟨km_X10_101, kn_X10, by decide +kernel⟩
theorem ki_X10_wrong : Cond.instanceMethod yX10_wrong ∈ TB := tb_in 1698 (by decide +kernel) rfl
theorem ks_X10_wrong : Cond.selects RX10 yX10_wrong yX10_wrong ∈ TB := tb_in 74 (by decide +kernel) rfl
theorem km_X10_94 : Cond.methodLink RX10 94 yX10_blanks ∈ TB := tb_in 1666 (by decide +kernel) rfl
theorem ko_X10_94 : okC RX10 94 yX10_blanks 0 := ⟨km_X10_94, kn_X10, by decide +kernel⟩
theorem ki_X10_blanks : Cond.instanceMethod yX10_blanks ∈ TB := tb_in 1668 (by decide +kernel) rfl
theorem ks_X10_blanks : Cond.selects RX10 yX10_blanks yX10_blanks ∈ TB := tb_in 68 (by decide +kernel) rfl
theorem kc_X10_in : Cond.code yX10_in cX10_in 3 (some .boolean) ∈ TB := tb_in 1657 (by decide +kernel) rfl
theorem km_X10_106 : Cond.methodLink RX10 106 yX10_in ∈ TB := tb_in 1655 (by decide +kernel) rfl
theorem ko_X10_106 : okC RX10 106 yX10_in 3 := ⟨km_X10_106, kn_X10, by decide +kernel⟩
theorem kt_X10_in : Cond.static yX10_in ∈ TB := tb_in 1656 (by decide +kernel) rfl
theorem kv_X10_105 : Cond.constant RX10 105 (100000) ∈ TB := tb_in 1719 (by decide +kernel) rfl
theorem kc_X10_isSmall : Cond.code yX10_isSmall cX10_isSmall 1 (some .boolean) ∈ TB := tb_in 1688 (by decide +kernel) rfl
theorem km_X10_110 : Cond.methodLink RX10 110 yX10_isSmall ∈ TB := tb_in 1686 (by decide +kernel) rfl
theorem ko_X10_110 : okC RX10 110 yX10_isSmall 1 := ⟨km_X10_110, kn_X10, by decide +kernel⟩
theorem kt_X10_isSmall : Cond.static yX10_isSmall ∈ TB := tb_in 1687 (by decide +kernel) rfl
theorem kc_X10_wordHere : Cond.code yX10_wordHere cX10_wordHere 3 (some .int) ∈ TB := tb_in 1685 (by decide +kernel) rfl
theorem kc_X10_six : Cond.code yX10_six cX10_six 7 (some .int) ∈ TB := tb_in 1691 (by decide +kernel) rfl
theorem km_X10_117 : Cond.methodLink RX10 117 yX10_six ∈ TB := tb_in 1689 (by decide +kernel) rfl
theorem ko_X10_117 : okC RX10 117 yX10_six 6 := ⟨km_X10_117, kn_X10, by decide +kernel⟩
theorem kt_X10_six : Cond.static yX10_six ∈ TB := tb_in 1690 (by decide +kernel) rfl
theorem km_X10_113 : Cond.methodLink RX10 113 yX10_wordHere ∈ TB := tb_in 1682 (by decide +kernel) rfl
theorem ko_X10_113 : okC RX10 113 yX10_wordHere 0 := ⟨km_X10_113, kn_X10, by decide +kernel⟩
theorem ki_X10_wordHere : Cond.instanceMethod yX10_wordHere ∈ TB := tb_in 1684 (by decide +kernel) rfl
theorem ks_X10_wordHere : Cond.selects RX10 yX10_wordHere yX10_wordHere ∈ TB := tb_in 72 (by decide +kernel) rfl
theorem kf_X10_121 : Cond.fieldLink RX10 121 "RolledBackModel" "clauses" "I" ∈ TB := tb_in 1535 (by decide +kernel) rfl
theorem kf_X10_124 : Cond.fieldLink RX10 124 "RolledBackModel" "open" "I" ∈ TB := tb_in 1536 (by decide +kernel) rfl
theorem kf_X10_9 : Cond.fieldLink RX10 9 "RolledBackModel" "place" "I" ∈ TB := tb_in 1531 (by decide +kernel) rfl
theorem kc_X10_isWord : Cond.code yX10_isWord cX10_isWord 7 (some .boolean) ∈ TB := tb_in 1681 (by decide +kernel) rfl
theorem km_X10_127 : Cond.methodLink RX10 127 yX10_isWord ∈ TB := tb_in 1678 (by decide +kernel) rfl
theorem ko_X10_127 : okC RX10 127 yX10_isWord 6 := ⟨km_X10_127, kn_X10, by decide +kernel⟩
theorem ki_X10_isWord : Cond.instanceMethod yX10_isWord ∈ TB := tb_in 1680 (by decide +kernel) rfl
theorem ks_X10_isWord : Cond.selects RX10 yX10_isWord yX10_isWord ∈ TB := tb_in 71 (by decide +kernel) rfl
theorem kc_X10_number : Cond.code yX10_number cX10_number 5 (some .int) ∈ TB := tb_in 1715 (by decide +kernel) rfl
theorem km_X10_131 : Cond.methodLink RX10 131 yX10_number ∈ TB := tb_in 1712 (by decide +kernel) rfl
theorem ko_X10_131 : okC RX10 131 yX10_number 2 := ⟨km_X10_131, kn_X10, by decide +kernel⟩
theorem ki_X10_number : Cond.instanceMethod yX10_number ∈ TB := tb_in 1714 (by decide +kernel) rfl
theorem ks_X10_number : Cond.selects RX10 yX10_number yX10_number ∈ TB := tb_in 78 (by decide +kernel) rfl
theorem kc_X10_sign : Cond.code yX10_sign cX10_sign 2 none ∈ TB := tb_in 1727 (by decide +kernel) rfl
theorem km_X10_135 : Cond.methodLink RX10 135 yX10_sign ∈ TB := tb_in 1724 (by decide +kernel) rfl
theorem ko_X10_135 : okC RX10 135 yX10_sign 1 := ⟨km_X10_135, kn_X10, by decide +kernel⟩
theorem ki_X10_sign : Cond.instanceMethod yX10_sign ∈ TB := tb_in 1726 (by decide +kernel) rfl
theorem ks_X10_sign : Cond.selects RX10 yX10_sign yX10_sign ∈ TB := tb_in 80 (by decide +kernel) rfl
theorem kc_X10_readsStep : Cond.code yX10_readsStep cX10_readsStep 3 none ∈ TB := tb_in 1703 (by decide +kernel) rfl
theorem km_X10_139 : Cond.methodLink RX10 139 yX10_readsStep ∈ TB := tb_in 1700 (by decide +kernel) rfl
theorem ko_X10_139 : okC RX10 139 yX10_readsStep 0 := ⟨km_X10_139, kn_X10, by decide +kernel⟩
theorem ki_X10_readsStep : Cond.instanceMethod yX10_readsStep ∈ TB := tb_in 1702 (by decide +kernel) rfl
theorem ks_X10_readsStep : Cond.selects RX10 yX10_readsStep yX10_readsStep ∈ TB := tb_in 75 (by decide +kernel) rfl
theorem kc_X10_stepHere : Cond.code yX10_stepHere cX10_stepHere 1 (some .int) ∈ TB := tb_in 1695 (by decide +kernel) rfl
theorem km_X10_142 : Cond.methodLink RX10 142 yX10_stepHere ∈ TB := tb_in 1692 (by decide +kernel) rfl
theorem ko_X10_142 : okC RX10 142 yX10_stepHere 0 := ⟨km_X10_142, kn_X10, by decide +kernel⟩
theorem ki_X10_stepHere : Cond.instanceMethod yX10_stepHere ∈ TB := tb_in 1694 (by decide +kernel) rfl
theorem ks_X10_stepHere : Cond.selects RX10 yX10_stepHere yX10_stepHere ∈ TB := tb_in 73 (by decide +kernel) rfl
theorem kc_X10_skipWord : Cond.code yX10_skipWord cX10_skipWord 1 none ∈ TB := tb_in 1707 (by decide +kernel) rfl
theorem kf_X10_28 : Cond.fieldLink RX10 28 "RolledBackModel" "step" "[[I" ∈ TB := tb_in 1549 (by decide +kernel) rfl
theorem kf_X10_66 : Cond.fieldLink RX10 66 "RolledBackModel" "steps" "I" ∈ TB := tb_in 1546 (by decide +kernel) rfl
theorem kc_X10_numbers : Cond.code yX10_numbers cX10_numbers 3 none ∈ TB := tb_in 1711 (by decide +kernel) rfl
theorem kc_X10_again : Cond.code yX10_again cX10_again 2 none ∈ TB := tb_in 1723 (by decide +kernel) rfl
theorem km_X10_152 : Cond.methodLink RX10 152 yX10_again ∈ TB := tb_in 1720 (by decide +kernel) rfl
theorem ko_X10_152 : okC RX10 152 yX10_again 1 := ⟨km_X10_152, kn_X10, by decide +kernel⟩
theorem ki_X10_again : Cond.instanceMethod yX10_again ∈ TB := tb_in 1722 (by decide +kernel) rfl
theorem ks_X10_again : Cond.selects RX10 yX10_again yX10_again ∈ TB := tb_in 79 (by decide +kernel) rfl
theorem km_X10_148 : Cond.methodLink RX10 148 yX10_numbers ∈ TB := tb_in 1708 (by decide +kernel) rfl
theorem ko_X10_148 : okC RX10 148 yX10_numbers 1 := ⟨km_X10_148, kn_X10, by decide +kernel⟩
theorem ki_X10_numbers : Cond.instanceMethod yX10_numbers ∈ TB := tb_in 1710 (by decide +kernel) rfl
theorem ks_X10_numbers : Cond.selects RX10 yX10_numbers yX10_numbers ∈ TB := tb_in 77 (by decide +kernel) rfl
theorem km_X10_145 : Cond.methodLink RX10 145 yX10_skipWord ∈ TB := tb_in 1704 (by decide +kernel) rfl
theorem ko_X10_145 : okC RX10 145 yX10_skipWord 0 := ⟨km_X10_145, kn_X10, by decide +kernel⟩
theorem ki_X10_skipWord : Cond.instanceMethod yX10_skipWord ∈ TB := tb_in 1706 (by decide +kernel) rfl
theorem ks_X10_skipWord : Cond.selects RX10 yX10_skipWord yX10_skipWord ∈ TB := tb_in 76 (by decide +kernel) rfl
theorem kf_X10_63 : Cond.fieldLink RX10 63 "RolledBackModel" "readBlocks" "I" ∈ TB := tb_in 1540 (by decide +kernel) rfl
theorem kc_X10_bad : Cond.code yX10_bad cX10_bad 4 (some .boolean) ∈ TB := tb_in 1661 (by decide +kernel) rfl
theorem kc_X10_starts : Cond.code yX10_starts cX10_starts 2 none ∈ TB := tb_in 1665 (by decide +kernel) rfl
theorem km_X10_159 : Cond.methodLink RX10 159 yX10_starts ∈ TB := tb_in 1662 (by decide +kernel) rfl
theorem ko_X10_159 : okC RX10 159 yX10_starts 1 := ⟨km_X10_159, kn_X10, by decide +kernel⟩
theorem ki_X10_starts : Cond.instanceMethod yX10_starts ∈ TB := tb_in 1664 (by decide +kernel) rfl
theorem ks_X10_starts : Cond.selects RX10 yX10_starts yX10_starts ∈ TB := tb_in 67 (by decide +kernel) rfl
theorem km_X10_155 : Cond.methodLink RX10 155 yX10_bad ∈ TB := tb_in 1658 (by decide +kernel) rfl
theorem ko_X10_155 : okC RX10 155 yX10_bad 3 := ⟨km_X10_155, kn_X10, by decide +kernel⟩
theorem ki_X10_bad : Cond.instanceMethod yX10_bad ∈ TB := tb_in 1660 (by decide +kernel) rfl
theorem ks_X10_bad : Cond.selects RX10 yX10_bad yX10_bad ∈ TB := tb_in 66 (by decide +kernel) rfl
theorem kc_X10_beginsAnew : Cond.code yX10_beginsAnew cX10_beginsAnew 2 none ∈ TB := tb_in 1362 (by decide +kernel) rfl
theorem kf_X10_168 : Cond.fieldLink RX10 168 "RolledBackModel" "blocks" "I" ∈ TB := tb_in 1539 (by decide +kernel) rfl
theorem km_X10_69 : Cond.methodLink RX10 69 yX10_beginsAnew ∈ TB := tb_in 1359 (by decide +kernel) rfl
theorem ko_X10_69 : okC RX10 69 yX10_beginsAnew 0 := ⟨km_X10_69, kn_X10, by decide +kernel⟩
theorem ki_X10_beginsAnew : Cond.instanceMethod yX10_beginsAnew ∈ TB := tb_in 1361 (by decide +kernel) rfl
theorem ks_X10_beginsAnew : Cond.selects RX10 yX10_beginsAnew yX10_beginsAnew ∈ TB := tb_in 50 (by decide +kernel) rfl
theorem kc_X10_ends : Cond.code yX10_ends cX10_ends 1 (some .int) ∈ TB := tb_in 1731 (by decide +kernel) rfl
theorem km_X10_165 : Cond.methodLink RX10 165 yX10_ends ∈ TB := tb_in 1728 (by decide +kernel) rfl
theorem ko_X10_165 : okC RX10 165 yX10_ends 0 := ⟨km_X10_165, kn_X10, by decide +kernel⟩
theorem ki_X10_ends : Cond.instanceMethod yX10_ends ∈ TB := tb_in 1730 (by decide +kernel) rfl
theorem ks_X10_ends : Cond.selects RX10 yX10_ends yX10_ends ∈ TB := tb_in 81 (by decide +kernel) rfl
theorem kc_X10_clause : Cond.code yX10_clause cX10_clause 3 none ∈ TB := tb_in 1677 (by decide +kernel) rfl
theorem km_X10_162 : Cond.methodLink RX10 162 yX10_clause ∈ TB := tb_in 1674 (by decide +kernel) rfl
theorem ko_X10_162 : okC RX10 162 yX10_clause 0 := ⟨km_X10_162, kn_X10, by decide +kernel⟩
theorem ki_X10_clause : Cond.instanceMethod yX10_clause ∈ TB := tb_in 1676 (by decide +kernel) rfl
theorem ks_X10_clause : Cond.selects RX10 yX10_clause yX10_clause ∈ TB := tb_in 70 (by decide +kernel) rfl
theorem kf_X10_31 : Cond.fieldLink RX10 31 "RolledBackModel" "now" "[I" ∈ TB := tb_in 1550 (by decide +kernel) rfl
theorem kc_X10_byteOf : Cond.code yX10_byteOf cX10_byteOf 2 (some .int) ∈ TB := tb_in 1365 (by decide +kernel) rfl
theorem km_X10_171 : Cond.methodLink RX10 171 yX10_byteOf ∈ TB := tb_in 1363 (by decide +kernel) rfl
theorem ko_X10_171 : okC RX10 171 yX10_byteOf 2 := ⟨km_X10_171, kn_X10, by decide +kernel⟩
theorem kt_X10_byteOf : Cond.static yX10_byteOf ∈ TB := tb_in 1364 (by decide +kernel) rfl
theorem kc_X10_safe : Cond.code yX10_safe cX10_safe 2 none ∈ TB := tb_in 1368 (by decide +kernel) rfl
theorem km_X10_174 : Cond.methodLink RX10 174 yX10_safe ∈ TB := tb_in 1366 (by decide +kernel) rfl
theorem ko_X10_174 : okC RX10 174 yX10_safe 1 := ⟨km_X10_174, kn_X10, by decide +kernel⟩
theorem kt_X10_safe : Cond.static yX10_safe ∈ TB := tb_in 1367 (by decide +kernel) rfl
theorem kf_X10_181 : Cond.fieldLink RX10 181 "RolledBackModel" "lines" "I" ∈ TB := tb_in 1541 (by decide +kernel) rfl
theorem kf_X10_184 : Cond.fieldLink RX10 184 "RolledBackModel" "works" "I" ∈ TB := tb_in 1542 (by decide +kernel) rfl
theorem kf_X10_187 : Cond.fieldLink RX10 187 "RolledBackModel" "refusedSteps" "I" ∈ TB := tb_in 1543 (by decide +kernel) rfl
theorem kf_X10_190 : Cond.fieldLink RX10 190 "RolledBackModel" "images" "I" ∈ TB := tb_in 1544 (by decide +kernel) rfl
theorem kc_X10_does : Cond.code yX10_does cX10_does 6 (some .boolean) ∈ TB := tb_in 1372 (by decide +kernel) rfl
theorem km_X10_177 : Cond.methodLink RX10 177 yX10_does ∈ TB := tb_in 1369 (by decide +kernel) rfl
theorem ko_X10_177 : okC RX10 177 yX10_does 2 := ⟨km_X10_177, kn_X10, by decide +kernel⟩
theorem ki_X10_does : Cond.instanceMethod yX10_does ∈ TB := tb_in 1371 (by decide +kernel) rfl
theorem ks_X10_does : Cond.selects RX10 yX10_does yX10_does ∈ TB := tb_in 51 (by decide +kernel) rfl
theorem kc_X10_has : Cond.code yX10_has cX10_has 2 (some .boolean) ∈ TB := tb_in 1402 (by decide +kernel) rfl
theorem km_X10_193 : Cond.methodLink RX10 193 yX10_has ∈ TB := tb_in 1400 (by decide +kernel) rfl
theorem ko_X10_193 : okC RX10 193 yX10_has 2 := ⟨km_X10_193, kn_X10, by decide +kernel⟩
theorem kt_X10_has : Cond.static yX10_has ∈ TB := tb_in 1401 (by decide +kernel) rfl
theorem kf_X10_25 : Cond.fieldLink RX10 25 "RolledBackModel" "readLine" "[[I" ∈ TB := tb_in 1548 (by decide +kernel) rfl
theorem kf_X10_22 : Cond.fieldLink RX10 22 "RolledBackModel" "line" "[[I" ∈ TB := tb_in 1547 (by decide +kernel) rfl
theorem kc_X10_isThere : Cond.code yX10_isThere cX10_isThere 6 (some .boolean) ∈ TB := tb_in 1417 (by decide +kernel) rfl
theorem km_X10_197 : Cond.methodLink RX10 197 yX10_isThere ∈ TB := tb_in 1415 (by decide +kernel) rfl
theorem ko_X10_197 : okC RX10 197 yX10_isThere 4 := ⟨km_X10_197, kn_X10, by decide +kernel⟩
theorem kt_X10_isThere : Cond.static yX10_isThere ∈ TB := tb_in 1416 (by decide +kernel) rfl
theorem kc_X10_cell : Cond.code yX10_cell cX10_cell 1 (some .int) ∈ TB := tb_in 1420 (by decide +kernel) rfl
theorem km_X10_201 : Cond.methodLink RX10 201 yX10_cell ∈ TB := tb_in 1418 (by decide +kernel) rfl
theorem ko_X10_201 : okC RX10 201 yX10_cell 1 := ⟨km_X10_201, kn_X10, by decide +kernel⟩
theorem kt_X10_cell : Cond.static yX10_cell ∈ TB := tb_in 1419 (by decide +kernel) rfl
theorem kc_X10_makes : Cond.code yX10_makes cX10_makes 11 (some .int) ∈ TB := tb_in 1414 (by decide +kernel) rfl
theorem km_X10_204 : Cond.methodLink RX10 204 yX10_makes ∈ TB := tb_in 1412 (by decide +kernel) rfl
theorem ko_X10_204 : okC RX10 204 yX10_makes 8 := ⟨km_X10_204, kn_X10, by decide +kernel⟩
theorem kt_X10_makes : Cond.static yX10_makes ∈ TB := tb_in 1413 (by decide +kernel) rfl
theorem kc_X10_isDirty : Cond.code yX10_isDirty cX10_isDirty 3 (some .boolean) ∈ TB := tb_in 1462 (by decide +kernel) rfl
theorem km_X10_208 : Cond.methodLink RX10 208 yX10_isDirty ∈ TB := tb_in 1460 (by decide +kernel) rfl
theorem ko_X10_208 : okC RX10 208 yX10_isDirty 2 := ⟨km_X10_208, kn_X10, by decide +kernel⟩
theorem kt_X10_isDirty : Cond.static yX10_isDirty ∈ TB := tb_in 1461 (by decide +kernel) rfl
theorem kc_X10_ahead : Cond.code yX10_ahead cX10_ahead 5 (some .int) ∈ TB := tb_in 1473 (by decide +kernel) rfl
theorem km_X10_212 : Cond.methodLink RX10 212 yX10_ahead ∈ TB := tb_in 1471 (by decide +kernel) rfl
theorem ko_X10_212 : okC RX10 212 yX10_ahead 3 := ⟨km_X10_212, kn_X10, by decide +kernel⟩
theorem kt_X10_ahead : Cond.static yX10_ahead ∈ TB := tb_in 1472 (by decide +kernel) rfl
theorem kc_X10_which : Cond.code yX10_which cX10_which 3 (some .int) ∈ TB := tb_in 1476 (by decide +kernel) rfl
theorem km_X10_216 : Cond.methodLink RX10 216 yX10_which ∈ TB := tb_in 1474 (by decide +kernel) rfl
theorem ko_X10_216 : okC RX10 216 yX10_which 2 := ⟨km_X10_216, kn_X10, by decide +kernel⟩
theorem kt_X10_which : Cond.static yX10_which ∈ TB := tb_in 1475 (by decide +kernel) rfl
theorem kf_X10_47 : Cond.fieldLink RX10 47 "RolledBackModel" "going" "[Z" ∈ TB := tb_in 1555 (by decide +kernel) rfl
theorem kc_X10_puts : Cond.code yX10_puts cX10_puts 3 (some .boolean) ∈ TB := tb_in 1479 (by decide +kernel) rfl
theorem km_X10_220 : Cond.methodLink RX10 220 yX10_puts ∈ TB := tb_in 1477 (by decide +kernel) rfl
theorem ko_X10_220 : okC RX10 220 yX10_puts 3 := ⟨km_X10_220, kn_X10, by decide +kernel⟩
theorem kt_X10_puts : Cond.static yX10_puts ∈ TB := tb_in 1478 (by decide +kernel) rfl
theorem kc_X10_mayGo : Cond.code yX10_mayGo cX10_mayGo 6 (some .boolean) ∈ TB := tb_in 1470 (by decide +kernel) rfl
theorem km_X10_224 : Cond.methodLink RX10 224 yX10_mayGo ∈ TB := tb_in 1467 (by decide +kernel) rfl
theorem ko_X10_224 : okC RX10 224 yX10_mayGo 2 := ⟨km_X10_224, kn_X10, by decide +kernel⟩
theorem ki_X10_mayGo : Cond.instanceMethod yX10_mayGo ∈ TB := tb_in 1469 (by decide +kernel) rfl
theorem ks_X10_mayGo : Cond.selects RX10 yX10_mayGo yX10_mayGo ∈ TB := tb_in 59 (by decide +kernel) rfl
theorem kf_X10_51 : Cond.fieldLink RX10 51 "RolledBackModel" "image" "[I" ∈ TB := tb_in 1556 (by decide +kernel) rfl
theorem kc_X10_wasAt : Cond.code yX10_wasAt cX10_wasAt 3 (some .int) ∈ TB := tb_in 1482 (by decide +kernel) rfl
theorem km_X10_227 : Cond.methodLink RX10 227 yX10_wasAt ∈ TB := tb_in 1480 (by decide +kernel) rfl
theorem ko_X10_227 : okC RX10 227 yX10_wasAt 3 := ⟨km_X10_227, kn_X10, by decide +kernel⟩
theorem kt_X10_wasAt : Cond.static yX10_wasAt ∈ TB := tb_in 1481 (by decide +kernel) rfl
theorem kf_X10_230 : Cond.fieldLink RX10 230 "RolledBackModel" "manyGone" "I" ∈ TB := tb_in 1558 (by decide +kernel) rfl
theorem kf_X10_54 : Cond.fieldLink RX10 54 "RolledBackModel" "gone" "[I" ∈ TB := tb_in 1557 (by decide +kernel) rfl
theorem kc_X10_fieldOf : Cond.code yX10_fieldOf cX10_fieldOf 4 (some .int) ∈ TB := tb_in 1385 (by decide +kernel) rfl
theorem km_X10_233 : Cond.methodLink RX10 233 yX10_fieldOf ∈ TB := tb_in 1383 (by decide +kernel) rfl
theorem ko_X10_233 : okC RX10 233 yX10_fieldOf 4 := ⟨km_X10_233, kn_X10, by decide +kernel⟩
theorem kt_X10_fieldOf : Cond.static yX10_fieldOf ∈ TB := tb_in 1384 (by decide +kernel) rfl
theorem kc_X10_field : Cond.code yX10_field cX10_field 6 (some .int) ∈ TB := tb_in 1411 (by decide +kernel) rfl
theorem km_X10_237 : Cond.methodLink RX10 237 yX10_field ∈ TB := tb_in 1409 (by decide +kernel) rfl
theorem ko_X10_237 : okC RX10 237 yX10_field 6 := ⟨km_X10_237, kn_X10, by decide +kernel⟩
theorem kt_X10_field : Cond.static yX10_field ∈ TB := tb_in 1410 (by decide +kernel) rfl
theorem kc_X10_empties : Cond.code yX10_empties cX10_empties 4 none ∈ TB := tb_in 1500 (by decide +kernel) rfl
theorem km_X10_241 : Cond.methodLink RX10 241 yX10_empties ∈ TB := tb_in 1498 (by decide +kernel) rfl
theorem ko_X10_241 : okC RX10 241 yX10_empties 2 := ⟨km_X10_241, kn_X10, by decide +kernel⟩
theorem kt_X10_empties : Cond.static yX10_empties ∈ TB := tb_in 1499 (by decide +kernel) rfl
theorem kc_X10_putsOff : Cond.code yX10_putsOff cX10_putsOff 5 none ∈ TB := tb_in 1449 (by decide +kernel) rfl
theorem km_X10_245 : Cond.methodLink RX10 245 yX10_putsOff ∈ TB := tb_in 1447 (by decide +kernel) rfl
theorem ko_X10_245 : okC RX10 245 yX10_putsOff 4 := ⟨km_X10_245, kn_X10, by decide +kernel⟩
theorem kt_X10_putsOff : Cond.static yX10_putsOff ∈ TB := tb_in 1448 (by decide +kernel) rfl
theorem kc_X10_isGone : Cond.code yX10_isGone cX10_isGone 3 (some .boolean) ∈ TB := tb_in 1494 (by decide +kernel) rfl
theorem kc_X10_lessens : Cond.code yX10_lessens cX10_lessens 3 none ∈ TB := tb_in 1497 (by decide +kernel) rfl
theorem km_X10_255 : Cond.methodLink RX10 255 yX10_lessens ∈ TB := tb_in 1495 (by decide +kernel) rfl
theorem ko_X10_255 : okC RX10 255 yX10_lessens 2 := ⟨km_X10_255, kn_X10, by decide +kernel⟩
theorem kt_X10_lessens : Cond.static yX10_lessens ∈ TB := tb_in 1496 (by decide +kernel) rfl
theorem kc_X10_bare : Cond.code yX10_bare cX10_bare 4 (some .int) ∈ TB := tb_in 1426 (by decide +kernel) rfl
theorem km_X10_252 : Cond.methodLink RX10 252 yX10_bare ∈ TB := tb_in 1424 (by decide +kernel) rfl
theorem ko_X10_252 : okC RX10 252 yX10_bare 4 := ⟨km_X10_252, kn_X10, by decide +kernel⟩
theorem kt_X10_bare : Cond.static yX10_bare ∈ TB := tb_in 1425 (by decide +kernel) rfl
theorem km_X10_249 : Cond.methodLink RX10 249 yX10_isGone ∈ TB := tb_in 1491 (by decide +kernel) rfl
theorem ko_X10_249 : okC RX10 249 yX10_isGone 1 := ⟨km_X10_249, kn_X10, by decide +kernel⟩
theorem ki_X10_isGone : Cond.instanceMethod yX10_isGone ∈ TB := tb_in 1493 (by decide +kernel) rfl
theorem ks_X10_isGone : Cond.selects RX10 yX10_isGone yX10_isGone ∈ TB := tb_in 62 (by decide +kernel) rfl
theorem kc_X10_copiesBlock : Cond.code yX10_copiesBlock cX10_copiesBlock 7 (some .int) ∈ TB := tb_in 1466 (by decide +kernel) rfl
theorem km_X10_258 : Cond.methodLink RX10 258 yX10_copiesBlock ∈ TB := tb_in 1463 (by decide +kernel) rfl
theorem ko_X10_258 : okC RX10 258 yX10_copiesBlock 2 := ⟨km_X10_258, kn_X10, by decide +kernel⟩
theorem ki_X10_copiesBlock : Cond.instanceMethod yX10_copiesBlock ∈ TB := tb_in 1465 (by decide +kernel) rfl
theorem ks_X10_copiesBlock : Cond.selects RX10 yX10_copiesBlock yX10_copiesBlock ∈ TB := tb_in 58 (by decide +kernel) rfl
theorem kc_X10_leavesOut : Cond.code yX10_leavesOut cX10_leavesOut 5 none ∈ TB := tb_in 1486 (by decide +kernel) rfl
theorem kc_X10_doesLater : Cond.code yX10_doesLater cX10_doesLater 7 none ∈ TB := tb_in 1490 (by decide +kernel) rfl
theorem km_X10_264 : Cond.methodLink RX10 264 yX10_doesLater ∈ TB := tb_in 1487 (by decide +kernel) rfl
theorem ko_X10_264 : okC RX10 264 yX10_doesLater 1 := ⟨km_X10_264, kn_X10, by decide +kernel⟩
theorem ki_X10_doesLater : Cond.instanceMethod yX10_doesLater ∈ TB := tb_in 1489 (by decide +kernel) rfl
theorem ks_X10_doesLater : Cond.selects RX10 yX10_doesLater yX10_doesLater ∈ TB := tb_in 61 (by decide +kernel) rfl
theorem km_X10_261 : Cond.methodLink RX10 261 yX10_leavesOut ∈ TB := tb_in 1483 (by decide +kernel) rfl
theorem ko_X10_261 : okC RX10 261 yX10_leavesOut 1 := ⟨km_X10_261, kn_X10, by decide +kernel⟩
theorem ki_X10_leavesOut : Cond.instanceMethod yX10_leavesOut ∈ TB := tb_in 1485 (by decide +kernel) rfl
theorem ks_X10_leavesOut : Cond.selects RX10 yX10_leavesOut yX10_leavesOut ∈ TB := tb_in 60 (by decide +kernel) rfl
theorem kc_X10_writes : Cond.code yX10_writes cX10_writes 4 (some .boolean) ∈ TB := tb_in 1459 (by decide +kernel) rfl
theorem km_X10_267 : Cond.methodLink RX10 267 yX10_writes ∈ TB := tb_in 1456 (by decide +kernel) rfl
theorem ko_X10_267 : okC RX10 267 yX10_writes 2 := ⟨km_X10_267, kn_X10, by decide +kernel⟩
theorem ki_X10_writes : Cond.instanceMethod yX10_writes ∈ TB := tb_in 1458 (by decide +kernel) rfl
theorem ks_X10_writes : Cond.selects RX10 yX10_writes yX10_writes ∈ TB := tb_in 57 (by decide +kernel) rfl
theorem kc_X10_entryOf : Cond.code yX10_entryOf cX10_entryOf 8 (some .int) ∈ TB := tb_in 1405 (by decide +kernel) rfl
theorem km_X10_270 : Cond.methodLink RX10 270 yX10_entryOf ∈ TB := tb_in 1403 (by decide +kernel) rfl
theorem ko_X10_270 : okC RX10 270 yX10_entryOf 4 := ⟨km_X10_270, kn_X10, by decide +kernel⟩
theorem kt_X10_entryOf : Cond.static yX10_entryOf ∈ TB := tb_in 1404 (by decide +kernel) rfl
theorem kc_X10_isKind : Cond.code yX10_isKind cX10_isKind 4 (some .boolean) ∈ TB := tb_in 1396 (by decide +kernel) rfl
theorem km_X10_273 : Cond.methodLink RX10 273 yX10_isKind ∈ TB := tb_in 1394 (by decide +kernel) rfl
theorem ko_X10_273 : okC RX10 273 yX10_isKind 4 := ⟨km_X10_273, kn_X10, by decide +kernel⟩
theorem kt_X10_isKind : Cond.static yX10_isKind ∈ TB := tb_in 1395 (by decide +kernel) rfl
theorem kc_X10_reached : Cond.code yX10_reached cX10_reached 7 (some .int) ∈ TB := tb_in 1399 (by decide +kernel) rfl
theorem km_X10_276 : Cond.methodLink RX10 276 yX10_reached ∈ TB := tb_in 1397 (by decide +kernel) rfl
theorem ko_X10_276 : okC RX10 276 yX10_reached 2 := ⟨km_X10_276, kn_X10, by decide +kernel⟩
theorem kt_X10_reached : Cond.static yX10_reached ∈ TB := tb_in 1398 (by decide +kernel) rfl
theorem kc_X10_entry : Cond.code yX10_entry cX10_entry 5 (some .int) ∈ TB := tb_in 1408 (by decide +kernel) rfl
theorem km_X10_279 : Cond.methodLink RX10 279 yX10_entry ∈ TB := tb_in 1406 (by decide +kernel) rfl
theorem ko_X10_279 : okC RX10 279 yX10_entry 4 := ⟨km_X10_279, kn_X10, by decide +kernel⟩
theorem kt_X10_entry : Cond.static yX10_entry ∈ TB := tb_in 1407 (by decide +kernel) rfl
theorem kc_X10_latest : Cond.code yX10_latest cX10_latest 5 (some .int) ∈ TB := tb_in 1432 (by decide +kernel) rfl
theorem km_X10_282 : Cond.methodLink RX10 282 yX10_latest ∈ TB := tb_in 1430 (by decide +kernel) rfl
theorem ko_X10_282 : okC RX10 282 yX10_latest 3 := ⟨km_X10_282, kn_X10, by decide +kernel⟩
theorem kt_X10_latest : Cond.static yX10_latest ∈ TB := tb_in 1431 (by decide +kernel) rfl
theorem kc_X10_freeNode : Cond.code yX10_freeNode cX10_freeNode 2 (some .int) ∈ TB := tb_in 1382 (by decide +kernel) rfl
theorem km_X10_285 : Cond.methodLink RX10 285 yX10_freeNode ∈ TB := tb_in 1380 (by decide +kernel) rfl
theorem ko_X10_285 : okC RX10 285 yX10_freeNode 1 := ⟨km_X10_285, kn_X10, by decide +kernel⟩
theorem kt_X10_freeNode : Cond.static yX10_freeNode ∈ TB := tb_in 1381 (by decide +kernel) rfl
theorem kc_X10_freeBlock : Cond.code yX10_freeBlock cX10_freeBlock 3 (some .int) ∈ TB := tb_in 1389 (by decide +kernel) rfl
theorem kc_X10_isNewName : Cond.code yX10_isNewName cX10_isNewName 4 (some .boolean) ∈ TB := tb_in 1393 (by decide +kernel) rfl
theorem km_X10_292 : Cond.methodLink RX10 292 yX10_isNewName ∈ TB := tb_in 1390 (by decide +kernel) rfl
theorem ko_X10_292 : okC RX10 292 yX10_isNewName 3 := ⟨km_X10_292, kn_X10, by decide +kernel⟩
theorem ki_X10_isNewName : Cond.instanceMethod yX10_isNewName ∈ TB := tb_in 1392 (by decide +kernel) rfl
theorem ks_X10_isNewName : Cond.selects RX10 yX10_isNewName yX10_isNewName ∈ TB := tb_in 54 (by decide +kernel) rfl
theorem km_X10_289 : Cond.methodLink RX10 289 yX10_freeBlock ∈ TB := tb_in 1386 (by decide +kernel) rfl
theorem ko_X10_289 : okC RX10 289 yX10_freeBlock 1 := ⟨km_X10_289, kn_X10, by decide +kernel⟩
theorem ki_X10_freeBlock : Cond.instanceMethod yX10_freeBlock ∈ TB := tb_in 1388 (by decide +kernel) rfl
theorem ks_X10_freeBlock : Cond.selects RX10 yX10_freeBlock yX10_freeBlock ∈ TB := tb_in 53 (by decide +kernel) rfl
theorem kc_X10_names : Cond.code yX10_names cX10_names 10 none ∈ TB := tb_in 1429 (by decide +kernel) rfl
theorem km_X10_299 : Cond.methodLink RX10 299 yX10_names ∈ TB := tb_in 1427 (by decide +kernel) rfl
theorem ko_X10_299 : okC RX10 299 yX10_names 7 := ⟨km_X10_299, kn_X10, by decide +kernel⟩
theorem kt_X10_names : Cond.static yX10_names ∈ TB := tb_in 1428 (by decide +kernel) rfl
theorem kc_X10_gets : Cond.code yX10_gets cX10_gets 7 (some .int) ∈ TB := tb_in 1423 (by decide +kernel) rfl
theorem km_X10_295 : Cond.methodLink RX10 295 yX10_gets ∈ TB := tb_in 1421 (by decide +kernel) rfl
theorem ko_X10_295 : okC RX10 295 yX10_gets 5 := ⟨km_X10_295, kn_X10, by decide +kernel⟩
theorem kt_X10_gets : Cond.static yX10_gets ∈ TB := tb_in 1422 (by decide +kernel) rfl
theorem kc_X10_hasNames : Cond.code yX10_hasNames cX10_hasNames 4 (some .boolean) ∈ TB := tb_in 1455 (by decide +kernel) rfl
theorem km_X10_303 : Cond.methodLink RX10 303 yX10_hasNames ∈ TB := tb_in 1453 (by decide +kernel) rfl
theorem ko_X10_303 : okC RX10 303 yX10_hasNames 3 := ⟨km_X10_303, kn_X10, by decide +kernel⟩
theorem kt_X10_hasNames : Cond.static yX10_hasNames ∈ TB := tb_in 1454 (by decide +kernel) rfl
theorem kc_X10_pointer : Cond.code yX10_pointer cX10_pointer 5 (some .int) ∈ TB := tb_in 1527 (by decide +kernel) rfl
theorem km_X10_306 : Cond.methodLink RX10 306 yX10_pointer ∈ TB := tb_in 1525 (by decide +kernel) rfl
theorem ko_X10_306 : okC RX10 306 yX10_pointer 4 := ⟨km_X10_306, kn_X10, by decide +kernel⟩
theorem kt_X10_pointer : Cond.static yX10_pointer ∈ TB := tb_in 1526 (by decide +kernel) rfl
theorem kc_X10_named : Cond.code yX10_named cX10_named 8 (some .int) ∈ TB := tb_in 1518 (by decide +kernel) rfl
theorem km_X10_309 : Cond.methodLink RX10 309 yX10_named ∈ TB := tb_in 1516 (by decide +kernel) rfl
theorem ko_X10_309 : okC RX10 309 yX10_named 3 := ⟨km_X10_309, kn_X10, by decide +kernel⟩
theorem kt_X10_named : Cond.static yX10_named ∈ TB := tb_in 1517 (by decide +kernel) rfl
theorem kc_X10_later : Cond.code yX10_later cX10_later 5 (some .int) ∈ TB := tb_in 1521 (by decide +kernel) rfl
theorem km_X10_312 : Cond.methodLink RX10 312 yX10_later ∈ TB := tb_in 1519 (by decide +kernel) rfl
theorem ko_X10_312 : okC RX10 312 yX10_later 3 := ⟨km_X10_312, kn_X10, by decide +kernel⟩
theorem kt_X10_later : Cond.static yX10_later ∈ TB := tb_in 1520 (by decide +kernel) rfl
theorem kc_X10_linked : Cond.code yX10_linked cX10_linked 4 (some .int) ∈ TB := tb_in 1524 (by decide +kernel) rfl
theorem km_X10_315 : Cond.methodLink RX10 315 yX10_linked ∈ TB := tb_in 1522 (by decide +kernel) rfl
theorem ko_X10_315 : okC RX10 315 yX10_linked 2 := ⟨km_X10_315, kn_X10, by decide +kernel⟩
theorem kt_X10_linked : Cond.static yX10_linked ∈ TB := tb_in 1523 (by decide +kernel) rfl
theorem kc_X10_sweepAt : Cond.code yX10_sweepAt cX10_sweepAt 3 (some .int) ∈ TB := tb_in 1515 (by decide +kernel) rfl
theorem km_X10_318 : Cond.methodLink RX10 318 yX10_sweepAt ∈ TB := tb_in 1512 (by decide +kernel) rfl
theorem ko_X10_318 : okC RX10 318 yX10_sweepAt 1 := ⟨km_X10_318, kn_X10, by decide +kernel⟩
theorem ki_X10_sweepAt : Cond.instanceMethod yX10_sweepAt ∈ TB := tb_in 1514 (by decide +kernel) rfl
theorem ks_X10_sweepAt : Cond.selects RX10 yX10_sweepAt yX10_sweepAt ∈ TB := tb_in 65 (by decide +kernel) rfl
theorem kc_X10_isFull : Cond.code yX10_isFull cX10_isFull 1 (some .boolean) ∈ TB := tb_in 1375 (by decide +kernel) rfl
theorem km_X10_321 : Cond.methodLink RX10 321 yX10_isFull ∈ TB := tb_in 1373 (by decide +kernel) rfl
theorem ko_X10_321 : okC RX10 321 yX10_isFull 1 := ⟨km_X10_321, kn_X10, by decide +kernel⟩
theorem kt_X10_isFull : Cond.static yX10_isFull ∈ TB := tb_in 1374 (by decide +kernel) rfl
theorem kc_X10_begins : Cond.code yX10_begins cX10_begins 11 (some .boolean) ∈ TB := tb_in 1379 (by decide +kernel) rfl
theorem km_X10_325 : Cond.methodLink RX10 325 yX10_begins ∈ TB := tb_in 1376 (by decide +kernel) rfl
theorem ko_X10_325 : okC RX10 325 yX10_begins 4 := ⟨km_X10_325, kn_X10, by decide +kernel⟩
theorem ki_X10_begins : Cond.instanceMethod yX10_begins ∈ TB := tb_in 1378 (by decide +kernel) rfl
theorem ks_X10_begins : Cond.selects RX10 yX10_begins yX10_begins ∈ TB := tb_in 52 (by decide +kernel) rfl
theorem kc_X10_links : Cond.code yX10_links cX10_links 8 (some .boolean) ∈ TB := tb_in 1436 (by decide +kernel) rfl
theorem km_X10_328 : Cond.methodLink RX10 328 yX10_links ∈ TB := tb_in 1433 (by decide +kernel) rfl
theorem ko_X10_328 : okC RX10 328 yX10_links 4 := ⟨km_X10_328, kn_X10, by decide +kernel⟩
theorem ki_X10_links : Cond.instanceMethod yX10_links ∈ TB := tb_in 1435 (by decide +kernel) rfl
theorem ks_X10_links : Cond.selects RX10 yX10_links yX10_links ∈ TB := tb_in 55 (by decide +kernel) rfl
theorem kc_X10_grows : Cond.code yX10_grows cX10_grows 6 (some .boolean) ∈ TB := tb_in 1440 (by decide +kernel) rfl
theorem km_X10_331 : Cond.methodLink RX10 331 yX10_grows ∈ TB := tb_in 1437 (by decide +kernel) rfl
theorem ko_X10_331 : okC RX10 331 yX10_grows 3 := ⟨km_X10_331, kn_X10, by decide +kernel⟩
theorem ki_X10_grows : Cond.instanceMethod yX10_grows ∈ TB := tb_in 1439 (by decide +kernel) rfl
theorem ks_X10_grows : Cond.selects RX10 yX10_grows yX10_grows ∈ TB := tb_in 56 (by decide +kernel) rfl
theorem kc_X10_setsByte : Cond.code yX10_setsByte cX10_setsByte 5 (some .boolean) ∈ TB := tb_in 1443 (by decide +kernel) rfl
theorem km_X10_334 : Cond.methodLink RX10 334 yX10_setsByte ∈ TB := tb_in 1441 (by decide +kernel) rfl
theorem ko_X10_334 : okC RX10 334 yX10_setsByte 4 := ⟨km_X10_334, kn_X10, by decide +kernel⟩
theorem kt_X10_setsByte : Cond.static yX10_setsByte ∈ TB := tb_in 1442 (by decide +kernel) rfl
theorem kc_X10_cuts : Cond.code yX10_cuts cX10_cuts 4 (some .boolean) ∈ TB := tb_in 1446 (by decide +kernel) rfl
theorem km_X10_337 : Cond.methodLink RX10 337 yX10_cuts ∈ TB := tb_in 1444 (by decide +kernel) rfl
theorem ko_X10_337 : okC RX10 337 yX10_cuts 2 := ⟨km_X10_337, kn_X10, by decide +kernel⟩
theorem kt_X10_cuts : Cond.static yX10_cuts ∈ TB := tb_in 1445 (by decide +kernel) rfl
theorem kc_X10_drops : Cond.code yX10_drops cX10_drops 5 (some .boolean) ∈ TB := tb_in 1452 (by decide +kernel) rfl
theorem km_X10_340 : Cond.methodLink RX10 340 yX10_drops ∈ TB := tb_in 1450 (by decide +kernel) rfl
theorem ko_X10_340 : okC RX10 340 yX10_drops 3 := ⟨km_X10_340, kn_X10, by decide +kernel⟩
theorem kt_X10_drops : Cond.static yX10_drops ∈ TB := tb_in 1451 (by decide +kernel) rfl
theorem kc_X10_syncs : Cond.code yX10_syncs cX10_syncs 4 (some .boolean) ∈ TB := tb_in 1504 (by decide +kernel) rfl
theorem km_X10_343 : Cond.methodLink RX10 343 yX10_syncs ∈ TB := tb_in 1501 (by decide +kernel) rfl
theorem ko_X10_343 : okC RX10 343 yX10_syncs 1 := ⟨km_X10_343, kn_X10, by decide +kernel⟩
theorem ki_X10_syncs : Cond.instanceMethod yX10_syncs ∈ TB := tb_in 1503 (by decide +kernel) rfl
theorem ks_X10_syncs : Cond.selects RX10 yX10_syncs yX10_syncs ∈ TB := tb_in 63 (by decide +kernel) rfl
theorem kc_X10_crashes : Cond.code yX10_crashes cX10_crashes 2 (some .boolean) ∈ TB := tb_in 1507 (by decide +kernel) rfl
theorem km_X10_346 : Cond.methodLink RX10 346 yX10_crashes ∈ TB := tb_in 1505 (by decide +kernel) rfl
theorem ko_X10_346 : okC RX10 346 yX10_crashes 1 := ⟨km_X10_346, kn_X10, by decide +kernel⟩
theorem kt_X10_crashes : Cond.static yX10_crashes ∈ TB := tb_in 1506 (by decide +kernel) rfl
theorem kc_X10_sweepsOne : Cond.code yX10_sweepsOne cX10_sweepsOne 4 (some .boolean) ∈ TB := tb_in 1511 (by decide +kernel) rfl
theorem km_X10_349 : Cond.methodLink RX10 349 yX10_sweepsOne ∈ TB := tb_in 1508 (by decide +kernel) rfl
theorem ko_X10_349 : okC RX10 349 yX10_sweepsOne 1 := ⟨km_X10_349, kn_X10, by decide +kernel⟩
theorem ki_X10_sweepsOne : Cond.instanceMethod yX10_sweepsOne ∈ TB := tb_in 1510 (by decide +kernel) rfl
theorem ks_X10_sweepsOne : Cond.selects RX10 yX10_sweepsOne yX10_sweepsOne ∈ TB := tb_in 64 (by decide +kernel) rfl
theorem kf_X10_352 : Cond.fieldLink RX10 352 "RolledBackModel" "begun" "I" ∈ TB := tb_in 1559 (by decide +kernel) rfl
theorem kf_X10_358 : Cond.fieldLink RX10 358 "RolledBackModel" "doneSteps" "I" ∈ TB := tb_in 1560 (by decide +kernel) rfl
theorem kc_X10_goes : Cond.code yX10_goes cX10_goes 5 none ∈ TB := tb_in 1750 (by decide +kernel) rfl
theorem km_X10_355 : Cond.methodLink RX10 355 yX10_goes ∈ TB := tb_in 1747 (by decide +kernel) rfl
theorem ko_X10_355 : okC RX10 355 yX10_goes 2 := ⟨km_X10_355, kn_X10, by decide +kernel⟩
theorem ki_X10_goes : Cond.instanceMethod yX10_goes ∈ TB := tb_in 1749 (by decide +kernel) rfl
theorem ks_X10_goes : Cond.selects RX10 yX10_goes yX10_goes ∈ TB := tb_in 82 (by decide +kernel) rfl
theorem kf_X10_37 : Cond.fieldLink RX10 37 "RolledBackModel" "before" "[[I" ∈ TB := tb_in 1552 (by decide +kernel) rfl
theorem kc_X10_copies : Cond.code yX10_copies cX10_copies 3 none ∈ TB := tb_in 1746 (by decide +kernel) rfl
theorem km_X10_361 : Cond.methodLink RX10 361 yX10_copies ∈ TB := tb_in 1744 (by decide +kernel) rfl
theorem ko_X10_361 : okC RX10 361 yX10_copies 2 := ⟨km_X10_361, kn_X10, by decide +kernel⟩
theorem kt_X10_copies : Cond.static yX10_copies ∈ TB := tb_in 1745 (by decide +kernel) rfl
theorem kc_X10_dirty : Cond.code yX10_dirty cX10_dirty 4 (some .int) ∈ TB := tb_in 1762 (by decide +kernel) rfl
theorem km_X10_365 : Cond.methodLink RX10 365 yX10_dirty ∈ TB := tb_in 1759 (by decide +kernel) rfl
theorem ko_X10_365 : okC RX10 365 yX10_dirty 1 := ⟨km_X10_365, kn_X10, by decide +kernel⟩
theorem ki_X10_dirty : Cond.instanceMethod yX10_dirty ∈ TB := tb_in 1761 (by decide +kernel) rfl
theorem ks_X10_dirty : Cond.selects RX10 yX10_dirty yX10_dirty ∈ TB := tb_in 83 (by decide +kernel) rfl
theorem kc_X10_isWhere : Cond.code yX10_isWhere cX10_isWhere 1 (some .boolean) ∈ TB := tb_in 1769 (by decide +kernel) rfl
theorem km_X10_368 : Cond.methodLink RX10 368 yX10_isWhere ∈ TB := tb_in 1767 (by decide +kernel) rfl
theorem ko_X10_368 : okC RX10 368 yX10_isWhere 1 := ⟨km_X10_368, kn_X10, by decide +kernel⟩
theorem kt_X10_isWhere : Cond.static yX10_isWhere ∈ TB := tb_in 1768 (by decide +kernel) rfl
theorem kc_X10_isBlock : Cond.code yX10_isBlock cX10_isBlock 2 (some .boolean) ∈ TB := tb_in 1773 (by decide +kernel) rfl
theorem kc_X10_whereOf : Cond.code yX10_whereOf cX10_whereOf 1 (some .int) ∈ TB := tb_in 1776 (by decide +kernel) rfl
theorem km_X10_374 : Cond.methodLink RX10 374 yX10_whereOf ∈ TB := tb_in 1774 (by decide +kernel) rfl
theorem ko_X10_374 : okC RX10 374 yX10_whereOf 1 := ⟨km_X10_374, kn_X10, by decide +kernel⟩
theorem kt_X10_whereOf : Cond.static yX10_whereOf ∈ TB := tb_in 1775 (by decide +kernel) rfl
theorem km_X10_371 : Cond.methodLink RX10 371 yX10_isBlock ∈ TB := tb_in 1770 (by decide +kernel) rfl
theorem ko_X10_371 : okC RX10 371 yX10_isBlock 1 := ⟨km_X10_371, kn_X10, by decide +kernel⟩
theorem ki_X10_isBlock : Cond.instanceMethod yX10_isBlock ∈ TB := tb_in 1772 (by decide +kernel) rfl
theorem ks_X10_isBlock : Cond.selects RX10 yX10_isBlock yX10_isBlock ∈ TB := tb_in 84 (by decide +kernel) rfl
theorem kc_X10_isNode : Cond.code yX10_isNode cX10_isNode 1 (some .boolean) ∈ TB := tb_in 1783 (by decide +kernel) rfl
theorem km_X10_377 : Cond.methodLink RX10 377 yX10_isNode ∈ TB := tb_in 1781 (by decide +kernel) rfl
theorem ko_X10_377 : okC RX10 377 yX10_isNode 1 := ⟨km_X10_377, kn_X10, by decide +kernel⟩
theorem kt_X10_isNode : Cond.static yX10_isNode ∈ TB := tb_in 1782 (by decide +kernel) rfl
theorem kc_X10_leaking : Cond.code yX10_leaking cX10_leaking 6 (some .int) ∈ TB := tb_in 1799 (by decide +kernel) rfl
theorem km_X10_380 : Cond.methodLink RX10 380 yX10_leaking ∈ TB := tb_in 1796 (by decide +kernel) rfl
theorem ko_X10_380 : okC RX10 380 yX10_leaking 2 := ⟨km_X10_380, kn_X10, by decide +kernel⟩
theorem ki_X10_leaking : Cond.instanceMethod yX10_leaking ∈ TB := tb_in 1798 (by decide +kernel) rfl
theorem ks_X10_leaking : Cond.selects RX10 yX10_leaking yX10_leaking ∈ TB := tb_in 85 (by decide +kernel) rfl
theorem kc_X10_brokenOf : Cond.code yX10_brokenOf cX10_brokenOf 10 (some .int) ∈ TB := tb_in 1811 (by decide +kernel) rfl
theorem km_X10_383 : Cond.methodLink RX10 383 yX10_brokenOf ∈ TB := tb_in 1808 (by decide +kernel) rfl
theorem ko_X10_383 : okC RX10 383 yX10_brokenOf 2 := ⟨km_X10_383, kn_X10, by decide +kernel⟩
theorem ki_X10_brokenOf : Cond.instanceMethod yX10_brokenOf ∈ TB := tb_in 1810 (by decide +kernel) rfl
theorem ks_X10_brokenOf : Cond.selects RX10 yX10_brokenOf yX10_brokenOf ∈ TB := tb_in 86 (by decide +kernel) rfl
theorem kc_X10_underOf : Cond.code yX10_underOf cX10_underOf 6 (some .int) ∈ TB := tb_in 1819 (by decide +kernel) rfl
theorem km_X10_386 : Cond.methodLink RX10 386 yX10_underOf ∈ TB := tb_in 1816 (by decide +kernel) rfl
theorem ko_X10_386 : okC RX10 386 yX10_underOf 2 := ⟨km_X10_386, kn_X10, by decide +kernel⟩
theorem ki_X10_underOf : Cond.instanceMethod yX10_underOf ∈ TB := tb_in 1818 (by decide +kernel) rfl
theorem ks_X10_underOf : Cond.selects RX10 yX10_underOf yX10_underOf ∈ TB := tb_in 87 (by decide +kernel) rfl
theorem kc_X10_deepOf : Cond.code yX10_deepOf cX10_deepOf 6 (some .int) ∈ TB := tb_in 1827 (by decide +kernel) rfl
theorem kc_X10_more : Cond.code yX10_more cX10_more 2 (some .int) ∈ TB := tb_in 1830 (by decide +kernel) rfl
theorem km_X10_392 : Cond.methodLink RX10 392 yX10_more ∈ TB := tb_in 1828 (by decide +kernel) rfl
theorem ko_X10_392 : okC RX10 392 yX10_more 2 := ⟨km_X10_392, kn_X10, by decide +kernel⟩
theorem kt_X10_more : Cond.static yX10_more ∈ TB := tb_in 1829 (by decide +kernel) rfl
theorem km_X10_389 : Cond.methodLink RX10 389 yX10_deepOf ∈ TB := tb_in 1824 (by decide +kernel) rfl
theorem ko_X10_389 : okC RX10 389 yX10_deepOf 2 := ⟨km_X10_389, kn_X10, by decide +kernel⟩
theorem ki_X10_deepOf : Cond.instanceMethod yX10_deepOf ∈ TB := tb_in 1826 (by decide +kernel) rfl
theorem ks_X10_deepOf : Cond.selects RX10 yX10_deepOf yX10_deepOf ∈ TB := tb_in 88 (by decide +kernel) rfl
theorem kc_X10_waitsFor : Cond.code yX10_waitsFor cX10_waitsFor 7 (some .int) ∈ TB := tb_in 1850 (by decide +kernel) rfl
theorem km_X10_395 : Cond.methodLink RX10 395 yX10_waitsFor ∈ TB := tb_in 1847 (by decide +kernel) rfl
theorem ko_X10_395 : okC RX10 395 yX10_waitsFor 1 := ⟨km_X10_395, kn_X10, by decide +kernel⟩
theorem ki_X10_waitsFor : Cond.instanceMethod yX10_waitsFor ∈ TB := tb_in 1849 (by decide +kernel) rfl
theorem ks_X10_waitsFor : Cond.selects RX10 yX10_waitsFor yX10_waitsFor ∈ TB := tb_in 89 (by decide +kernel) rfl
theorem kc_X10_ones : Cond.code yX10_ones cX10_ones 3 (some .int) ∈ TB := tb_in 1869 (by decide +kernel) rfl
theorem km_X10_398 : Cond.methodLink RX10 398 yX10_ones ∈ TB := tb_in 1867 (by decide +kernel) rfl
theorem ko_X10_398 : okC RX10 398 yX10_ones 1 := ⟨km_X10_398, kn_X10, by decide +kernel⟩
theorem kt_X10_ones : Cond.static yX10_ones ∈ TB := tb_in 1868 (by decide +kernel) rfl
theorem kf_X10_401 : Cond.fieldLink RX10 401 "RolledBackModel" "most" "I" ∈ TB := tb_in 1561 (by decide +kernel) rfl
theorem kf_X10_404 : Cond.fieldLink RX10 404 "RolledBackModel" "mostAt" "I" ∈ TB := tb_in 1562 (by decide +kernel) rfl
theorem kc_X10_spills : Cond.code yX10_spills cX10_spills 4 none ∈ TB := tb_in 1866 (by decide +kernel) rfl
theorem km_X10_407 : Cond.methodLink RX10 407 yX10_spills ∈ TB := tb_in 1863 (by decide +kernel) rfl
theorem ko_X10_407 : okC RX10 407 yX10_spills 2 := ⟨km_X10_407, kn_X10, by decide +kernel⟩
theorem ki_X10_spills : Cond.instanceMethod yX10_spills ∈ TB := tb_in 1865 (by decide +kernel) rfl
theorem ks_X10_spills : Cond.selects RX10 yX10_spills yX10_spills ∈ TB := tb_in 91 (by decide +kernel) rfl
theorem kf_X10_34 : Cond.fieldLink RX10 34 "RolledBackModel" "trial" "[I" ∈ TB := tb_in 1551 (by decide +kernel) rfl
theorem kc_X10_settles : Cond.code yX10_settles cX10_settles 4 (some .int) ∈ TB := tb_in 1862 (by decide +kernel) rfl
theorem km_X10_410 : Cond.methodLink RX10 410 yX10_settles ∈ TB := tb_in 1859 (by decide +kernel) rfl
theorem ko_X10_410 : okC RX10 410 yX10_settles 1 := ⟨km_X10_410, kn_X10, by decide +kernel⟩
theorem ki_X10_settles : Cond.instanceMethod yX10_settles ∈ TB := tb_in 1861 (by decide +kernel) rfl
theorem ks_X10_settles : Cond.selects RX10 yX10_settles yX10_settles ∈ TB := tb_in 90 (by decide +kernel) rfl
theorem kf_X10_44 : Cond.fieldLink RX10 44 "RolledBackModel" "deeper" "[[I" ∈ TB := tb_in 1554 (by decide +kernel) rfl
theorem kc_X10_isSafeBy : Cond.code yX10_isSafeBy cX10_isSafeBy 5 (some .boolean) ∈ TB := tb_in 1881 (by decide +kernel) rfl
theorem km_X10_413 : Cond.methodLink RX10 413 yX10_isSafeBy ∈ TB := tb_in 1878 (by decide +kernel) rfl
theorem ko_X10_413 : okC RX10 413 yX10_isSafeBy 2 := ⟨km_X10_413, kn_X10, by decide +kernel⟩
theorem ki_X10_isSafeBy : Cond.instanceMethod yX10_isSafeBy ∈ TB := tb_in 1880 (by decide +kernel) rfl
theorem ks_X10_isSafeBy : Cond.selects RX10 yX10_isSafeBy yX10_isSafeBy ∈ TB := tb_in 92 (by decide +kernel) rfl
theorem kc_X10_isSo : Cond.code yX10_isSo cX10_isSo 3 (some .boolean) ∈ TB := tb_in 1901 (by decide +kernel) rfl
theorem km_X10_416 : Cond.methodLink RX10 416 yX10_isSo ∈ TB := tb_in 1898 (by decide +kernel) rfl
theorem ko_X10_416 : okC RX10 416 yX10_isSo 1 := ⟨km_X10_416, kn_X10, by decide +kernel⟩
theorem ki_X10_isSo : Cond.instanceMethod yX10_isSo ∈ TB := tb_in 1900 (by decide +kernel) rfl
theorem ks_X10_isSo : Cond.selects RX10 yX10_isSo yX10_isSo ∈ TB := tb_in 94 (by decide +kernel) rfl
theorem kc_X10_fitsNow : Cond.code yX10_fitsNow cX10_fitsNow 3 (some .int) ∈ TB := tb_in 1897 (by decide +kernel) rfl
theorem km_X10_419 : Cond.methodLink RX10 419 yX10_fitsNow ∈ TB := tb_in 1894 (by decide +kernel) rfl
theorem ko_X10_419 : okC RX10 419 yX10_fitsNow 0 := ⟨km_X10_419, kn_X10, by decide +kernel⟩
theorem ki_X10_fitsNow : Cond.instanceMethod yX10_fitsNow ∈ TB := tb_in 1896 (by decide +kernel) rfl
theorem ks_X10_fitsNow : Cond.selects RX10 yX10_fitsNow yX10_fitsNow ∈ TB := tb_in 93 (by decide +kernel) rfl
theorem kf_X10_57 : Cond.fieldLink RX10 57 "RolledBackModel" "seen" "[I" ∈ TB := tb_in 1563 (by decide +kernel) rfl
theorem kc_X10_isTold : Cond.code yX10_isTold cX10_isTold 3 (some .boolean) ∈ TB := tb_in 1909 (by decide +kernel) rfl
theorem kc_X10_worstAt : Cond.code yX10_worstAt cX10_worstAt 5 (some .int) ∈ TB := tb_in 1913 (by decide +kernel) rfl
theorem km_X10_425 : Cond.methodLink RX10 425 yX10_worstAt ∈ TB := tb_in 1910 (by decide +kernel) rfl
theorem ko_X10_425 : okC RX10 425 yX10_worstAt 2 := ⟨km_X10_425, kn_X10, by decide +kernel⟩
theorem ki_X10_worstAt : Cond.instanceMethod yX10_worstAt ∈ TB := tb_in 1912 (by decide +kernel) rfl
theorem ks_X10_worstAt : Cond.selects RX10 yX10_worstAt yX10_worstAt ∈ TB := tb_in 96 (by decide +kernel) rfl
theorem km_X10_422 : Cond.methodLink RX10 422 yX10_isTold ∈ TB := tb_in 1906 (by decide +kernel) rfl
theorem ko_X10_422 : okC RX10 422 yX10_isTold 1 := ⟨km_X10_422, kn_X10, by decide +kernel⟩
theorem ki_X10_isTold : Cond.instanceMethod yX10_isTold ∈ TB := tb_in 1908 (by decide +kernel) rfl
theorem ks_X10_isTold : Cond.selects RX10 yX10_isTold yX10_isTold ∈ TB := tb_in 95 (by decide +kernel) rfl
theorem kf_X10_428 : Cond.fieldLink RX10 428 "RolledBackModel" "lots" "I" ∈ TB := tb_in 1564 (by decide +kernel) rfl
theorem kv_X10_431 : Cond.constant RX10 431 (1103515245) ∈ TB := tb_in 1941 (by decide +kernel) rfl
theorem kc_X10_draw : Cond.code yX10_draw cX10_draw 2 (some .int) ∈ TB := tb_in 1940 (by decide +kernel) rfl
theorem kf_X10_60 : Cond.fieldLink RX10 60 "RolledBackModel" "drawn" "[I" ∈ TB := tb_in 1565 (by decide +kernel) rfl
theorem km_X10_432 : Cond.methodLink RX10 432 yX10_draw ∈ TB := tb_in 1937 (by decide +kernel) rfl
theorem ko_X10_432 : okC RX10 432 yX10_draw 1 := ⟨km_X10_432, kn_X10, by decide +kernel⟩
theorem ki_X10_draw : Cond.instanceMethod yX10_draw ∈ TB := tb_in 1939 (by decide +kernel) rfl
theorem ks_X10_draw : Cond.selects RX10 yX10_draw yX10_draw ∈ TB := tb_in 98 (by decide +kernel) rfl
theorem kc_X10_isStorm : Cond.code yX10_isStorm cX10_isStorm 2 (some .boolean) ∈ TB := tb_in 1932 (by decide +kernel) rfl
theorem km_X10_435 : Cond.methodLink RX10 435 yX10_isStorm ∈ TB := tb_in 1930 (by decide +kernel) rfl
theorem ko_X10_435 : okC RX10 435 yX10_isStorm 2 := ⟨km_X10_435, kn_X10, by decide +kernel⟩
theorem kt_X10_isStorm : Cond.static yX10_isStorm ∈ TB := tb_in 1931 (by decide +kernel) rfl
theorem kc_X10_stormBy : Cond.code yX10_stormBy cX10_stormBy 6 none ∈ TB := tb_in 1936 (by decide +kernel) rfl
theorem km_X10_438 : Cond.methodLink RX10 438 yX10_stormBy ∈ TB := tb_in 1933 (by decide +kernel) rfl
theorem ko_X10_438 : okC RX10 438 yX10_stormBy 3 := ⟨km_X10_438, kn_X10, by decide +kernel⟩
theorem ki_X10_stormBy : Cond.instanceMethod yX10_stormBy ∈ TB := tb_in 1935 (by decide +kernel) rfl
theorem ks_X10_stormBy : Cond.selects RX10 yX10_stormBy yX10_stormBy ∈ TB := tb_in 97 (by decide +kernel) rfl
theorem kc_X10_less : Cond.code yX10_less cX10_less 2 (some .int) ∈ TB := tb_in 1948 (by decide +kernel) rfl
theorem km_X10_442 : Cond.methodLink RX10 442 yX10_less ∈ TB := tb_in 1946 (by decide +kernel) rfl
theorem ko_X10_442 : okC RX10 442 yX10_less 2 := ⟨km_X10_442, kn_X10, by decide +kernel⟩
theorem kt_X10_less : Cond.static yX10_less ∈ TB := tb_in 1947 (by decide +kernel) rfl
theorem kf_X10_445 : Cond.fieldLink RX10 445 "RolledBackModel" "spot" "I" ∈ TB := tb_in 1545 (by decide +kernel) rfl
theorem kc_X10_lays : Cond.code yX10_lays cX10_lays 4 (some .int) ∈ TB := tb_in 1960 (by decide +kernel) rfl
theorem km_X10_448 : Cond.methodLink RX10 448 yX10_lays ∈ TB := tb_in 1957 (by decide +kernel) rfl
theorem ko_X10_448 : okC RX10 448 yX10_lays 3 := ⟨km_X10_448, kn_X10, by decide +kernel⟩
theorem ki_X10_lays : Cond.instanceMethod yX10_lays ∈ TB := tb_in 1959 (by decide +kernel) rfl
theorem ks_X10_lays : Cond.selects RX10 yX10_lays yX10_lays ∈ TB := tb_in 100 (by decide +kernel) rfl
theorem kf_X10_41 : Cond.fieldLink RX10 41 "RolledBackModel" "kept" "[[I" ∈ TB := tb_in 1553 (by decide +kernel) rfl
theorem kc_X10_putsAll : Cond.code yX10_putsAll cX10_putsAll 5 none ∈ TB := tb_in 1956 (by decide +kernel) rfl
theorem km_X10_452 : Cond.methodLink RX10 452 yX10_putsAll ∈ TB := tb_in 1953 (by decide +kernel) rfl
theorem ko_X10_452 : okC RX10 452 yX10_putsAll 2 := ⟨km_X10_452, kn_X10, by decide +kernel⟩
theorem ki_X10_putsAll : Cond.instanceMethod yX10_putsAll ∈ TB := tb_in 1955 (by decide +kernel) rfl
theorem ks_X10_putsAll : Cond.selects RX10 yX10_putsAll yX10_putsAll ∈ TB := tb_in 99 (by decide +kernel) rfl
theorem km_X2_3 : Cond.methodLink RX2 3 objectInit ∈ TB := tb_in 260 (by decide +kernel) rfl
theorem ka_boolean : Cond.arrayClass .boolean ∈ TB := tb_in 283 (by decide +kernel) rfl
theorem kf_X2_9 : Cond.fieldLink RX2 9 "RolledBack$Pen" "goes" "[Z" ∈ TB := tb_in 261 (by decide +kernel) rfl
theorem ka_int : Cond.arrayClass .int ∈ TB := tb_in 236 (by decide +kernel) rfl
theorem kf_X2_15 : Cond.fieldLink RX2 15 "RolledBack$Pen" "moved" "[I" ∈ TB := tb_in 263 (by decide +kernel) rfl
theorem ka_byte : Cond.arrayClass .byte ∈ TB := tb_in 235 (by decide +kernel) rfl
theorem kf_X2_19 : Cond.fieldLink RX2 19 "RolledBack$Pen" "sheet" "[B" ∈ TB := tb_in 264 (by decide +kernel) rfl
theorem kf_X2_23 : Cond.fieldLink RX2 23 "RolledBack$Pen" "due" "[I" ∈ TB := tb_in 266 (by decide +kernel) rfl
theorem kf_X2_26 : Cond.fieldLink RX2 26 "RolledBack$Pen" "going" "I" ∈ TB := tb_in 267 (by decide +kernel) rfl
theorem kf_X2_30 : Cond.fieldLink RX2 30 "RolledBack$Pen" "staying" "I" ∈ TB := tb_in 268 (by decide +kernel) rfl
theorem kf_X2_33 : Cond.fieldLink RX2 33 "RolledBack$State" "\x75nsafe" "I" ∈ TB := tb_in 165 (by decide +kernel) rfl
theorem kf_X2_38 : Cond.fieldLink RX2 38 "RolledBack$State" "block" "[I" ∈ TB := tb_in 169 (by decide +kernel) rfl
theorem kf_X2_41 : Cond.fieldLink RX2 41 "RolledBack$State" "place" "[I" ∈ TB := tb_in 172 (by decide +kernel) rfl
theorem kv_X2_44 : Cond.constant RX2 44 (65535) ∈ TB := tb_in 486 (by decide +kernel) rfl
theorem kc_X2_needsGo : Cond.code yX2_needsGo cX2_needsGo 5 (some .boolean) ∈ TB := tb_in 490 (by decide +kernel) rfl
theorem km_X2_45 : Cond.methodLink RX2 45 yX2_needsGo ∈ TB := tb_in 487 (by decide +kernel) rfl
theorem kn_X2 : Cond.initialized RX2 ∈ TB := tb_in 106 (by decide +kernel) rfl
theorem ko_X2_45 : okC RX2 45 yX2_needsGo 2 := ⟨km_X2_45, kn_X2, by decide +kernel⟩
theorem ki_X2_needsGo : Cond.instanceMethod yX2_needsGo ∈ TB := tb_in 489 (by decide +kernel) rfl
theorem ks_X2_needsGo : Cond.selects RX2 yX2_needsGo yX2_needsGo ∈ TB := tb_in 2 (by decide +kernel) rfl
theorem kf_X2_49 : Cond.fieldLink RX2 49 "RolledBack$State" "needs" "[I" ∈ TB := tb_in 181 (by decide +kernel) rfl
theorem kf_X2_52 : Cond.fieldLink RX2 52 "RolledBack$State" "needsAll" "[I" ∈ TB := tb_in 183 (by decide +kernel) rfl
theorem kc_X2_weigh : Cond.code yX2_weigh cX2_weigh 6 none ∈ TB := tb_in 485 (by decide +kernel) rfl
theorem kf_X2_59 : Cond.fieldLink RX2 59 "RolledBack$State" "bytes" "[B" ∈ TB := tb_in 163 (by decide +kernel) rfl
theorem km_X2_62 : Cond.methodLink RX2 62 arraycopyName ∈ TB := tb_in 491 (by decide +kernel) rfl
theorem kx_acn : Cond.native arraycopyName ∈ TB := tb_in 152 (by decide +kernel) rfl
theorem kx_acs : Cond.static arraycopyName ∈ TB := tb_in 151 (by decide +kernel) rfl
theorem kx_aci : Cond.initialized "java/lang/System" ∈ TB := tb_in 104 (by decide +kernel) rfl
theorem km_X2_55 : Cond.methodLink RX2 55 yX2_weigh ∈ TB := tb_in 482 (by decide +kernel) rfl
theorem ko_X2_55 : okC RX2 55 yX2_weigh 2 := ⟨km_X2_55, kn_X2, by decide +kernel⟩
theorem ki_X2_weigh : Cond.instanceMethod yX2_weigh ∈ TB := tb_in 483 (by decide +kernel) rfl
theorem ks_X2_weigh : Cond.selects RX2 yX2_weigh yX2_weigh ∈ TB := tb_in 484 (by decide +kernel) rfl
theorem kc_X5_firstPlace : Cond.code yX5_firstPlace cX5_firstPlace 2 (some .int) ∈ TB := tb_in 495 (by decide +kernel) rfl
theorem kf_X2_72 : Cond.fieldLink RX2 72 "RolledBack$State" "was" "[B" ∈ TB := tb_in 178 (by decide +kernel) rfl
theorem km_X2_68 : Cond.methodLink RX2 68 yX5_firstPlace ∈ TB := tb_in 492 (by decide +kernel) rfl
theorem ko_X2_68 : okC RX2 68 yX5_firstPlace 1 := ⟨km_X2_68, kn_X5, by decide +kernel⟩
theorem ki_X5_firstPlace : Cond.instanceMethod yX5_firstPlace ∈ TB := tb_in 493 (by decide +kernel) rfl
theorem ks_X5_firstPlace : Cond.selects RX5 yX5_firstPlace yX5_firstPlace ∈ TB := tb_in 494 (by decide +kernel) rfl
theorem kf_X2_75 : Cond.fieldLink RX2 75 "RolledBack$State" "size" "I" ∈ TB := tb_in 159 (by decide +kernel) rfl
theorem kc_X2_draft : Cond.code yX2_draft cX2_draft 6 none ∈ TB := tb_in 481 (by decide +kernel) rfl
theorem kf_X2_81 : Cond.fieldLink RX2 81 "RolledBack$State" "writes" "I" ∈ TB := tb_in 193 (by decide +kernel) rfl
theorem kf_X2_84 : Cond.fieldLink RX2 84 "RolledBack$State" "heldBack" "I" ∈ TB := tb_in 196 (by decide +kernel) rfl
theorem kc_X2_closeRanks : Cond.code yX2_closeRanks cX2_closeRanks 4 none ∈ TB := tb_in 499 (by decide +kernel) rfl
theorem kc_X2_takeDue : Cond.code yX2_takeDue cX2_takeDue 6 (some .int) ∈ TB := tb_in 507 (by decide +kernel) rfl
theorem km_X2_91 : Cond.methodLink RX2 91 yX2_takeDue ∈ TB := tb_in 504 (by decide +kernel) rfl
theorem ko_X2_91 : okC RX2 91 yX2_takeDue 1 := ⟨km_X2_91, kn_X2, by decide +kernel⟩
theorem ki_X2_takeDue : Cond.instanceMethod yX2_takeDue ∈ TB := tb_in 506 (by decide +kernel) rfl
theorem ks_X2_takeDue : Cond.selects RX2 yX2_takeDue yX2_takeDue ∈ TB := tb_in 5 (by decide +kernel) rfl
theorem km_X2_87 : Cond.methodLink RX2 87 yX2_closeRanks ∈ TB := tb_in 496 (by decide +kernel) rfl
theorem ko_X2_87 : okC RX2 87 yX2_closeRanks 1 := ⟨km_X2_87, kn_X2, by decide +kernel⟩
theorem ki_X2_closeRanks : Cond.instanceMethod yX2_closeRanks ∈ TB := tb_in 498 (by decide +kernel) rfl
theorem ks_X2_closeRanks : Cond.selects RX2 yX2_closeRanks yX2_closeRanks ∈ TB := tb_in 3 (by decide +kernel) rfl
theorem km_X2_78 : Cond.methodLink RX2 78 yX2_draft ∈ TB := tb_in 478 (by decide +kernel) rfl
theorem ko_X2_78 : okC RX2 78 yX2_draft 2 := ⟨km_X2_78, kn_X2, by decide +kernel⟩
theorem ki_X2_draft : Cond.instanceMethod yX2_draft ∈ TB := tb_in 479 (by decide +kernel) rfl
theorem ks_X2_draft : Cond.selects RX2 yX2_draft yX2_draft ∈ TB := tb_in 480 (by decide +kernel) rfl
theorem kc_X5_doPutOff : Cond.code yX5_doPutOff cX5_doPutOff 3 none ∈ TB := tb_in 511 (by decide +kernel) rfl
theorem km_X2_95 : Cond.methodLink RX2 95 yX5_doPutOff ∈ TB := tb_in 508 (by decide +kernel) rfl
theorem ko_X2_95 : okC RX2 95 yX5_doPutOff 1 := ⟨km_X2_95, kn_X5, by decide +kernel⟩
theorem ki_X5_doPutOff : Cond.instanceMethod yX5_doPutOff ∈ TB := tb_in 509 (by decide +kernel) rfl
theorem ks_X5_doPutOff : Cond.selects RX5 yX5_doPutOff yX5_doPutOff ∈ TB := tb_in 510 (by decide +kernel) rfl
theorem kc_X2_moveChange : Cond.code yX2_moveChange cX2_moveChange 6 none ∈ TB := tb_in 503 (by decide +kernel) rfl
theorem km_X2_99 : Cond.methodLink RX2 99 yX2_moveChange ∈ TB := tb_in 500 (by decide +kernel) rfl
theorem ko_X2_99 : okC RX2 99 yX2_moveChange 3 := ⟨km_X2_99, kn_X2, by decide +kernel⟩
theorem ki_X2_moveChange : Cond.instanceMethod yX2_moveChange ∈ TB := tb_in 502 (by decide +kernel) rfl
theorem ks_X2_moveChange : Cond.selects RX2 yX2_moveChange yX2_moveChange ∈ TB := tb_in 4 (by decide +kernel) rfl
theorem kf_X2_103 : Cond.fieldLink RX2 103 "RolledBack$State" "puts" "[I" ∈ TB := tb_in 175 (by decide +kernel) rfl
theorem kf_X2_106 : Cond.fieldLink RX2 106 "RolledBack$State" "waiting" "I" ∈ TB := tb_in 186 (by decide +kernel) rfl
theorem kf_X2_109 : Cond.fieldLink RX2 109 "RolledBack$State" "until" "[I" ∈ TB := tb_in 189 (by decide +kernel) rfl
theorem kf_X2_112 : Cond.fieldLink RX2 112 "RolledBack$State" "thing" "[I" ∈ TB := tb_in 191 (by decide +kernel) rfl
theorem kc_X2_writeBlock : Cond.code yX2_writeBlock cX2_writeBlock 5 (some .boolean) ∈ TB := tb_in 477 (by decide +kernel) rfl
theorem km_X2_115 : Cond.methodLink RX2 115 yX2_writeBlock ∈ TB := tb_in 474 (by decide +kernel) rfl
theorem ko_X2_115 : okC RX2 115 yX2_writeBlock 2 := ⟨km_X2_115, kn_X2, by decide +kernel⟩
theorem ki_X2_writeBlock : Cond.instanceMethod yX2_writeBlock ∈ TB := tb_in 475 (by decide +kernel) rfl
theorem ks_X2_writeBlock : Cond.selects RX2 yX2_writeBlock yX2_writeBlock ∈ TB := tb_in 476 (by decide +kernel) rfl
theorem kc_X2_syncAll : Cond.code yX2_syncAll cX2_syncAll 4 (some .int) ∈ TB := tb_in 473 (by decide +kernel) rfl
theorem km_X2_118 : Cond.methodLink RX2 118 yX2_syncAll ∈ TB := tb_in 470 (by decide +kernel) rfl
theorem ko_X2_118 : okC RX2 118 yX2_syncAll 1 := ⟨km_X2_118, kn_X2, by decide +kernel⟩
theorem ki_X2_syncAll : Cond.instanceMethod yX2_syncAll ∈ TB := tb_in 471 (by decide +kernel) rfl
theorem ks_X2_syncAll : Cond.selects RX2 yX2_syncAll yX2_syncAll ∈ TB := tb_in 472 (by decide +kernel) rfl
theorem km_X3_3 : Cond.methodLink RX3 3 objectInit ∈ TB := tb_in 301 (by decide +kernel) rfl
theorem kk_X3_9 : Cond.classLink RX3 9 RX4 ∈ TB := tb_in 302 (by decide +kernel) rfl
theorem kb_X4 : Cond.instantiable RX4 8 ∈ TB := tb_in 303 (by decide +kernel) rfl
theorem kn_X4 : Cond.initialized RX4 ∈ TB := tb_in 109 (by decide +kernel) rfl
theorem kc_X4_init : Cond.code yX4_init cX4_init 1 none ∈ TB := tb_in 306 (by decide +kernel) rfl
theorem kf_X3_12 : Cond.fieldLink RX3 12 "RolledBack$Reader" "script" "LRolledBack$Script;" ∈ TB := tb_in 341 (by decide +kernel) rfl
theorem kf_X3_18 : Cond.fieldLink RX3 18 "RolledBack$Reader" "lines" "[I" ∈ TB := tb_in 343 (by decide +kernel) rfl
theorem kf_X3_22 : Cond.fieldLink RX3 22 "RolledBack$Reader" "text" "[B" ∈ TB := tb_in 350 (by decide +kernel) rfl
theorem kf_X3_26 : Cond.fieldLink RX3 26 "RolledBack$Reader" "open" "[I" ∈ TB := tb_in 353 (by decide +kernel) rfl
theorem ki_X4_init : Cond.instanceMethod yX4_init ∈ TB := tb_in 305 (by decide +kernel) rfl
theorem km_X3_29 : Cond.methodLink RX3 29 Lib.Math.min.name ∈ TB := tb_in 850 (by decide +kernel) rfl
theorem kx_mins : Cond.static Lib.Math.min.name ∈ TB := tb_in 851 (by decide +kernel) rfl
theorem kx_mi : Cond.initialized "java/lang/Math" ∈ TB := tb_in 115 (by decide +kernel) rfl
theorem kx_minc : Cond.code Lib.Math.min.name Lib.Math.min.code 2 (some .int) ∈ TB := tb_in 852 (by decide +kernel) rfl
theorem km_X3_35 : Cond.methodLink RX3 35 Lib.Math.max.name ∈ TB := tb_in 853 (by decide +kernel) rfl
theorem kx_maxs : Cond.static Lib.Math.max.name ∈ TB := tb_in 854 (by decide +kernel) rfl
theorem kx_maxc : Cond.code Lib.Math.max.name Lib.Math.max.code 2 (some .int) ∈ TB := tb_in 855 (by decide +kernel) rfl
theorem kf_X3_38 : Cond.fieldLink RX3 38 "RolledBack$Reader" "length" "I" ∈ TB := tb_in 351 (by decide +kernel) rfl
theorem km_X3_42 : Cond.methodLink RX3 42 arraycopyName ∈ TB := tb_in 856 (by decide +kernel) rfl
theorem kf_X3_48 : Cond.fieldLink RX3 48 "RolledBack$Reader" "next" "I" ∈ TB := tb_in 352 (by decide +kernel) rfl
theorem kf_X3_51 : Cond.fieldLink RX3 51 "RolledBack$Reader" "fault" "I" ∈ TB := tb_in 349 (by decide +kernel) rfl
theorem kf_X3_54 : Cond.fieldLink RX3 54 "RolledBack$Reader" "place" "I" ∈ TB := tb_in 347 (by decide +kernel) rfl
theorem kf_X3_57 : Cond.fieldLink RX3 57 "RolledBack$Reader" "opened" "I" ∈ TB := tb_in 354 (by decide +kernel) rfl
theorem kc_X4_clear : Cond.code yX4_clear cX4_clear 1 none ∈ TB := tb_in 860 (by decide +kernel) rfl
theorem km_X3_60 : Cond.methodLink RX3 60 yX4_clear ∈ TB := tb_in 857 (by decide +kernel) rfl
theorem ko_X3_60 : okC RX3 60 yX4_clear 0 := ⟨km_X3_60, kn_X4, by decide +kernel⟩
theorem ki_X4_clear : Cond.instanceMethod yX4_clear ∈ TB := tb_in 858 (by decide +kernel) rfl
theorem ks_X4_clear : Cond.selects RX4 yX4_clear yX4_clear ∈ TB := tb_in 859 (by decide +kernel) rfl
theorem kc_X3_begin : Cond.code yX3_begin cX3_begin 3 none ∈ TB := tb_in 849 (by decide +kernel) rfl
theorem km_X3_63 : Cond.methodLink RX3 63 yX3_begin ∈ TB := tb_in 846 (by decide +kernel) rfl
theorem kn_X3 : Cond.initialized RX3 ∈ TB := tb_in 108 (by decide +kernel) rfl
theorem ko_X3_63 : okC RX3 63 yX3_begin 2 := ⟨km_X3_63, kn_X3, by decide +kernel⟩
theorem ki_X3_begin : Cond.instanceMethod yX3_begin ∈ TB := tb_in 848 (by decide +kernel) rfl
theorem ks_X3_begin : Cond.selects RX3 yX3_begin yX3_begin ∈ TB := tb_in 28 (by decide +kernel) rfl
theorem kc_X3_atEnd : Cond.code yX3_atEnd cX3_atEnd 1 (some .boolean) ∈ TB := tb_in 864 (by decide +kernel) rfl
theorem kc_X3_readWord : Cond.code yX3_readWord cX3_readWord 3 (some .int) ∈ TB := tb_in 868 (by decide +kernel) rfl
theorem kc_X3_readNumbers : Cond.code yX3_readNumbers cX3_readNumbers 5 none ∈ TB := tb_in 921 (by decide +kernel) rfl
theorem kc_X3_readSign : Cond.code yX3_readSign cX3_readSign 2 none ∈ TB := tb_in 937 (by decide +kernel) rfl
theorem km_X3_83 : Cond.methodLink RX3 83 yX3_readSign ∈ TB := tb_in 934 (by decide +kernel) rfl
theorem ko_X3_83 : okC RX3 83 yX3_readSign 1 := ⟨km_X3_83, kn_X3, by decide +kernel⟩
theorem ki_X3_readSign : Cond.instanceMethod yX3_readSign ∈ TB := tb_in 936 (by decide +kernel) rfl
theorem ks_X3_readSign : Cond.selects RX3 yX3_readSign yX3_readSign ∈ TB := tb_in 36 (by decide +kernel) rfl
theorem km_X3_79 : Cond.methodLink RX3 79 yX3_readNumbers ∈ TB := tb_in 918 (by decide +kernel) rfl
theorem ko_X3_79 : okC RX3 79 yX3_readNumbers 1 := ⟨km_X3_79, kn_X3, by decide +kernel⟩
theorem ki_X3_readNumbers : Cond.instanceMethod yX3_readNumbers ∈ TB := tb_in 920 (by decide +kernel) rfl
theorem ks_X3_readNumbers : Cond.selects RX3 yX3_readNumbers yX3_readNumbers ∈ TB := tb_in 33 (by decide +kernel) rfl
theorem kc_X3_blame : Cond.code yX3_blame cX3_blame 3 none ∈ TB := tb_in 917 (by decide +kernel) rfl
theorem km_X3_75 : Cond.methodLink RX3 75 yX3_blame ∈ TB := tb_in 914 (by decide +kernel) rfl
theorem ko_X3_75 : okC RX3 75 yX3_blame 2 := ⟨km_X3_75, kn_X3, by decide +kernel⟩
theorem ki_X3_blame : Cond.instanceMethod yX3_blame ∈ TB := tb_in 916 (by decide +kernel) rfl
theorem ks_X3_blame : Cond.selects RX3 yX3_blame yX3_blame ∈ TB := tb_in 32 (by decide +kernel) rfl
theorem km_X3_71 : Cond.methodLink RX3 71 yX3_readWord ∈ TB := tb_in 865 (by decide +kernel) rfl
theorem ko_X3_71 : okC RX3 71 yX3_readWord 0 := ⟨km_X3_71, kn_X3, by decide +kernel⟩
theorem ki_X3_readWord : Cond.instanceMethod yX3_readWord ∈ TB := tb_in 867 (by decide +kernel) rfl
theorem ks_X3_readWord : Cond.selects RX3 yX3_readWord yX3_readWord ∈ TB := tb_in 30 (by decide +kernel) rfl
theorem km_X3_67 : Cond.methodLink RX3 67 yX3_atEnd ∈ TB := tb_in 861 (by decide +kernel) rfl
theorem ko_X3_67 : okC RX3 67 yX3_atEnd 0 := ⟨km_X3_67, kn_X3, by decide +kernel⟩
theorem ki_X3_atEnd : Cond.instanceMethod yX3_atEnd ∈ TB := tb_in 863 (by decide +kernel) rfl
theorem ks_X3_atEnd : Cond.selects RX3 yX3_atEnd yX3_atEnd ∈ TB := tb_in 29 (by decide +kernel) rfl
theorem kc_X3_readStep : Cond.code yX3_readStep cX3_readStep 3 none ∈ TB := tb_in 968 (by decide +kernel) rfl
theorem km_X3_90 : Cond.methodLink RX3 90 yX3_readStep ∈ TB := tb_in 965 (by decide +kernel) rfl
theorem ko_X3_90 : okC RX3 90 yX3_readStep 0 := ⟨km_X3_90, kn_X3, by decide +kernel⟩
theorem ki_X3_readStep : Cond.instanceMethod yX3_readStep ∈ TB := tb_in 967 (by decide +kernel) rfl
theorem ks_X3_readStep : Cond.selects RX3 yX3_readStep yX3_readStep ∈ TB := tb_in 39 (by decide +kernel) rfl
theorem kc_X4_addEnd : Cond.code yX4_addEnd cX4_addEnd 2 none ∈ TB := tb_in 963 (by decide +kernel) rfl
theorem km_X3_87 : Cond.methodLink RX3 87 yX4_addEnd ∈ TB := tb_in 960 (by decide +kernel) rfl
theorem ko_X3_87 : okC RX3 87 yX4_addEnd 1 := ⟨km_X3_87, kn_X4, by decide +kernel⟩
theorem ki_X4_addEnd : Cond.instanceMethod yX4_addEnd ∈ TB := tb_in 961 (by decide +kernel) rfl
theorem ks_X4_addEnd : Cond.selects RX4 yX4_addEnd yX4_addEnd ∈ TB := tb_in 962 (by decide +kernel) rfl
theorem kf_X3_93 : Cond.fieldLink RX3 93 "RolledBack$Script" "length" "I" ∈ TB := tb_in 313 (by decide +kernel) rfl
theorem kf_X3_94 : Cond.fieldLink RX3 94 "RolledBack$Reader" "lineCount" "I" ∈ TB := tb_in 345 (by decide +kernel) rfl
theorem kc_X3_readNumber : Cond.code yX3_readNumber cX3_readNumber 5 (some .int) ∈ TB := tb_in 925 (by decide +kernel) rfl
theorem km_X3_97 : Cond.methodLink RX3 97 yX3_readNumber ∈ TB := tb_in 922 (by decide +kernel) rfl
theorem ko_X3_97 : okC RX3 97 yX3_readNumber 2 := ⟨km_X3_97, kn_X3, by decide +kernel⟩
theorem ki_X3_readNumber : Cond.instanceMethod yX3_readNumber ∈ TB := tb_in 924 (by decide +kernel) rfl
theorem ks_X3_readNumber : Cond.selects RX3 yX3_readNumber yX3_readNumber ∈ TB := tb_in 34 (by decide +kernel) rfl
theorem kc_X3_isDigit : Cond.code yX3_isDigit cX3_isDigit 2 (some .boolean) ∈ TB := tb_in 929 (by decide +kernel) rfl
theorem km_X3_100 : Cond.methodLink RX3 100 yX3_isDigit ∈ TB := tb_in 926 (by decide +kernel) rfl
theorem ko_X3_100 : okC RX3 100 yX3_isDigit 1 := ⟨km_X3_100, kn_X3, by decide +kernel⟩
theorem ki_X3_isDigit : Cond.instanceMethod yX3_isDigit ∈ TB := tb_in 928 (by decide +kernel) rfl
theorem ks_X3_isDigit : Cond.selects RX3 yX3_isDigit yX3_isDigit ∈ TB := tb_in 35 (by decide +kernel) rfl
theorem kc_X3_isSpelled : Cond.code yX3_isSpelled cX3_isSpelled 5 (some .boolean) ∈ TB := tb_in 872 (by decide +kernel) rfl
theorem km_X3_104 : Cond.methodLink RX3 104 yX3_isSpelled ∈ TB := tb_in 869 (by decide +kernel) rfl
theorem ko_X3_104 : okC RX3 104 yX3_isSpelled 2 := ⟨km_X3_104, kn_X3, by decide +kernel⟩
theorem ki_X3_isSpelled : Cond.instanceMethod yX3_isSpelled ∈ TB := tb_in 871 (by decide +kernel) rfl
theorem ks_X3_isSpelled : Cond.selects RX3 yX3_isSpelled yX3_isSpelled ∈ TB := tb_in 31 (by decide +kernel) rfl
theorem kf_X3_116 : Cond.fieldLink RX3 116 "RolledBack$Script" "size" "I" ∈ TB := tb_in 310 (by decide +kernel) rfl
theorem kc_X4_add : Cond.code yX4_add cX4_add 5 none ∈ TB := tb_in 933 (by decide +kernel) rfl
theorem km_X3_119 : Cond.methodLink RX3 119 yX4_add ∈ TB := tb_in 930 (by decide +kernel) rfl
theorem ko_X3_119 : okC RX3 119 yX4_add 4 := ⟨km_X3_119, kn_X4, by decide +kernel⟩
theorem ki_X4_add : Cond.instanceMethod yX4_add ∈ TB := tb_in 931 (by decide +kernel) rfl
theorem ks_X4_add : Cond.selects RX4 yX4_add yX4_add ∈ TB := tb_in 932 (by decide +kernel) rfl
theorem km_X4_3 : Cond.methodLink RX4 3 objectInit ∈ TB := tb_in 307 (by decide +kernel) rfl
theorem kf_X4_9 : Cond.fieldLink RX4 9 "RolledBack$Script" "op" "[I" ∈ TB := tb_in 314 (by decide +kernel) rfl
theorem kf_X4_15 : Cond.fieldLink RX4 15 "RolledBack$Script" "a" "[I" ∈ TB := tb_in 316 (by decide +kernel) rfl
theorem kf_X4_18 : Cond.fieldLink RX4 18 "RolledBack$Script" "b" "[I" ∈ TB := tb_in 318 (by decide +kernel) rfl
theorem kf_X4_21 : Cond.fieldLink RX4 21 "RolledBack$Script" "c" "[I" ∈ TB := tb_in 320 (by decide +kernel) rfl
theorem kf_X4_24 : Cond.fieldLink RX4 24 "RolledBack$Script" "left" "[I" ∈ TB := tb_in 322 (by decide +kernel) rfl
theorem kf_X4_27 : Cond.fieldLink RX4 27 "RolledBack$Script" "mate" "[I" ∈ TB := tb_in 323 (by decide +kernel) rfl
theorem kf_X4_30 : Cond.fieldLink RX4 30 "RolledBack$Script" "size" "I" ∈ TB := tb_in 308 (by decide +kernel) rfl
theorem kf_X4_34 : Cond.fieldLink RX4 34 "RolledBack$Script" "length" "I" ∈ TB := tb_in 311 (by decide +kernel) rfl
theorem km_X4_37 : Cond.methodLink RX4 37 yX4_add ∈ TB := tb_in 964 (by decide +kernel) rfl
theorem ko_X4_37 : okC RX4 37 yX4_add 4 := ⟨km_X4_37, kn_X4, by decide +kernel⟩
theorem km_X5_3 : Cond.methodLink RX5 3 objectInit ∈ TB := tb_in 141 (by decide +kernel) rfl
theorem kf_X5_9 : Cond.fieldLink RX5 9 "RolledBack$State" "bytes" "[B" ∈ TB := tb_in 162 (by decide +kernel) rfl
theorem kf_X5_15 : Cond.fieldLink RX5 15 "RolledBack$State" "block" "[I" ∈ TB := tb_in 168 (by decide +kernel) rfl
theorem kf_X5_19 : Cond.fieldLink RX5 19 "RolledBack$State" "place" "[I" ∈ TB := tb_in 171 (by decide +kernel) rfl
theorem kf_X5_22 : Cond.fieldLink RX5 22 "RolledBack$State" "puts" "[I" ∈ TB := tb_in 174 (by decide +kernel) rfl
theorem kf_X5_25 : Cond.fieldLink RX5 25 "RolledBack$State" "was" "[B" ∈ TB := tb_in 177 (by decide +kernel) rfl
theorem kf_X5_28 : Cond.fieldLink RX5 28 "RolledBack$State" "needs" "[I" ∈ TB := tb_in 180 (by decide +kernel) rfl
theorem kf_X5_31 : Cond.fieldLink RX5 31 "RolledBack$State" "needsAll" "[I" ∈ TB := tb_in 182 (by decide +kernel) rfl
theorem kf_X5_34 : Cond.fieldLink RX5 34 "RolledBack$State" "until" "[I" ∈ TB := tb_in 188 (by decide +kernel) rfl
theorem kf_X5_37 : Cond.fieldLink RX5 37 "RolledBack$State" "thing" "[I" ∈ TB := tb_in 190 (by decide +kernel) rfl
theorem kc_X5_begin : Cond.code yX5_begin cX5_begin 3 none ∈ TB := tb_in 145 (by decide +kernel) rfl
theorem km_X5_40 : Cond.methodLink RX5 40 yX5_begin ∈ TB := tb_in 142 (by decide +kernel) rfl
theorem ko_X5_40 : okC RX5 40 yX5_begin 1 := ⟨km_X5_40, kn_X5, by decide +kernel⟩
theorem ki_X5_begin : Cond.instanceMethod yX5_begin ∈ TB := tb_in 143 (by decide +kernel) rfl
theorem ks_X5_begin : Cond.selects RX5 yX5_begin yX5_begin ∈ TB := tb_in 144 (by decide +kernel) rfl
theorem kf_X5_44 : Cond.fieldLink RX5 44 "RolledBack$State" "size" "I" ∈ TB := tb_in 157 (by decide +kernel) rfl
theorem kc_X5_allOnDisk : Cond.code yX5_allOnDisk cX5_allOnDisk 1 none ∈ TB := tb_in 149 (by decide +kernel) rfl
theorem kc_X5_forgetCounts : Cond.code yX5_forgetCounts cX5_forgetCounts 1 none ∈ TB := tb_in 156 (by decide +kernel) rfl
theorem km_X5_51 : Cond.methodLink RX5 51 yX5_forgetCounts ∈ TB := tb_in 153 (by decide +kernel) rfl
theorem ko_X5_51 : okC RX5 51 yX5_forgetCounts 0 := ⟨km_X5_51, kn_X5, by decide +kernel⟩
theorem ki_X5_forgetCounts : Cond.instanceMethod yX5_forgetCounts ∈ TB := tb_in 154 (by decide +kernel) rfl
theorem ks_X5_forgetCounts : Cond.selects RX5 yX5_forgetCounts yX5_forgetCounts ∈ TB := tb_in 155 (by decide +kernel) rfl
theorem km_X5_48 : Cond.methodLink RX5 48 yX5_allOnDisk ∈ TB := tb_in 146 (by decide +kernel) rfl
theorem ko_X5_48 : okC RX5 48 yX5_allOnDisk 0 := ⟨km_X5_48, kn_X5, by decide +kernel⟩
theorem ki_X5_allOnDisk : Cond.instanceMethod yX5_allOnDisk ∈ TB := tb_in 147 (by decide +kernel) rfl
theorem ks_X5_allOnDisk : Cond.selects RX5 yX5_allOnDisk yX5_allOnDisk ∈ TB := tb_in 148 (by decide +kernel) rfl
theorem km_X5_54 : Cond.methodLink RX5 54 arraycopyName ∈ TB := tb_in 150 (by decide +kernel) rfl
theorem kf_X5_60 : Cond.fieldLink RX5 60 "RolledBack$State" "\x75nsafe" "I" ∈ TB := tb_in 166 (by decide +kernel) rfl
theorem kf_X5_63 : Cond.fieldLink RX5 63 "RolledBack$State" "waiting" "I" ∈ TB := tb_in 185 (by decide +kernel) rfl
theorem kf_X5_66 : Cond.fieldLink RX5 66 "RolledBack$State" "writes" "I" ∈ TB := tb_in 192 (by decide +kernel) rfl
theorem kf_X5_69 : Cond.fieldLink RX5 69 "RolledBack$State" "heldBack" "I" ∈ TB := tb_in 195 (by decide +kernel) rfl
theorem kf_X5_72 : Cond.fieldLink RX5 72 "RolledBack$State" "crashes" "I" ∈ TB := tb_in 198 (by decide +kernel) rfl
theorem kf_X5_75 : Cond.fieldLink RX5 75 "RolledBack$State" "made" "I" ∈ TB := tb_in 200 (by decide +kernel) rfl
theorem kc_X5_put : Cond.code yX5_put cX5_put 9 (some .int) ∈ TB := tb_in 515 (by decide +kernel) rfl
theorem km_X5_78 : Cond.methodLink RX5 78 yX5_put ∈ TB := tb_in 512 (by decide +kernel) rfl
theorem ko_X5_78 : okC RX5 78 yX5_put 3 := ⟨km_X5_78, kn_X5, by decide +kernel⟩
theorem ki_X5_put : Cond.instanceMethod yX5_put ∈ TB := tb_in 513 (by decide +kernel) rfl
theorem ks_X5_put : Cond.selects RX5 yX5_put yX5_put ∈ TB := tb_in 514 (by decide +kernel) rfl
theorem kc_X5_nodeField : Cond.code yX5_nodeField cX5_nodeField 4 (some .int) ∈ TB := tb_in 519 (by decide +kernel) rfl
theorem kc_X5_putOff : Cond.code yX5_putOff cX5_putOff 3 none ∈ TB := tb_in 527 (by decide +kernel) rfl
theorem km_X5_85 : Cond.methodLink RX5 85 yX5_putOff ∈ TB := tb_in 524 (by decide +kernel) rfl
theorem ko_X5_85 : okC RX5 85 yX5_putOff 2 := ⟨km_X5_85, kn_X5, by decide +kernel⟩
theorem ki_X5_putOff : Cond.instanceMethod yX5_putOff ∈ TB := tb_in 525 (by decide +kernel) rfl
theorem ks_X5_putOff : Cond.selects RX5 yX5_putOff yX5_putOff ∈ TB := tb_in 526 (by decide +kernel) rfl
theorem km_X5_82 : Cond.methodLink RX5 82 yX5_nodeField ∈ TB := tb_in 516 (by decide +kernel) rfl
theorem ko_X5_82 : okC RX5 82 yX5_nodeField 3 := ⟨km_X5_82, kn_X5, by decide +kernel⟩
theorem ki_X5_nodeField : Cond.instanceMethod yX5_nodeField ∈ TB := tb_in 517 (by decide +kernel) rfl
theorem ks_X5_nodeField : Cond.selects RX5 yX5_nodeField yX5_nodeField ∈ TB := tb_in 518 (by decide +kernel) rfl
theorem kc_X5_setLinks : Cond.code yX5_setLinks cX5_setLinks 7 none ∈ TB := tb_in 523 (by decide +kernel) rfl
theorem km_X5_89 : Cond.methodLink RX5 89 yX5_setLinks ∈ TB := tb_in 520 (by decide +kernel) rfl
theorem ko_X5_89 : okC RX5 89 yX5_setLinks 2 := ⟨km_X5_89, kn_X5, by decide +kernel⟩
theorem ki_X5_setLinks : Cond.instanceMethod yX5_setLinks ∈ TB := tb_in 521 (by decide +kernel) rfl
theorem ks_X5_setLinks : Cond.selects RX5 yX5_setLinks yX5_setLinks ∈ TB := tb_in 522 (by decide +kernel) rfl
theorem km_X6_3 : Cond.methodLink RX6 3 objectInit ∈ TB := tb_in 289 (by decide +kernel) rfl
theorem kk_X6_9 : Cond.classLink RX6 9 RX2 ∈ TB := tb_in 290 (by decide +kernel) rfl
theorem kb_X2 : Cond.instantiable RX2 6 ∈ TB := tb_in 256 (by decide +kernel) rfl
theorem kc_X2_init : Cond.code yX2_init cX2_init 1 none ∈ TB := tb_in 259 (by decide +kernel) rfl
theorem kf_X6_12 : Cond.fieldLink RX6 12 "RolledBack$Steps" "pen" "LRolledBack$Pen;" ∈ TB := tb_in 292 (by decide +kernel) rfl
theorem ki_X2_init : Cond.instanceMethod yX2_init ∈ TB := tb_in 258 (by decide +kernel) rfl
theorem kf_X6_18 : Cond.fieldLink RX6 18 "RolledBack$State" "\x75nsafe" "I" ∈ TB := tb_in 164 (by decide +kernel) rfl
theorem kf_X6_24 : Cond.fieldLink RX6 24 "RolledBack$State" "waiting" "I" ∈ TB := tb_in 184 (by decide +kernel) rfl
theorem kc_X6_makeFile : Cond.code yX6_makeFile cX6_makeFile 9 (some .boolean) ∈ TB := tb_in 608 (by decide +kernel) rfl
theorem km_X6_27 : Cond.methodLink RX6 27 yX6_makeFile ∈ TB := tb_in 605 (by decide +kernel) rfl
theorem kn_X6 : Cond.initialized RX6 ∈ TB := tb_in 107 (by decide +kernel) rfl
theorem ko_X6_27 : okC RX6 27 yX6_makeFile 3 := ⟨km_X6_27, kn_X6, by decide +kernel⟩
theorem ki_X6_makeFile : Cond.instanceMethod yX6_makeFile ∈ TB := tb_in 607 (by decide +kernel) rfl
theorem ks_X6_makeFile : Cond.selects RX6 yX6_makeFile yX6_makeFile ∈ TB := tb_in 8 (by decide +kernel) rfl
theorem kc_X6_makeDirectory : Cond.code yX6_makeDirectory cX6_makeDirectory 11 (some .boolean) ∈ TB := tb_in 640 (by decide +kernel) rfl
theorem km_X6_31 : Cond.methodLink RX6 31 yX6_makeDirectory ∈ TB := tb_in 637 (by decide +kernel) rfl
theorem ko_X6_31 : okC RX6 31 yX6_makeDirectory 3 := ⟨km_X6_31, kn_X6, by decide +kernel⟩
theorem ki_X6_makeDirectory : Cond.instanceMethod yX6_makeDirectory ∈ TB := tb_in 639 (by decide +kernel) rfl
theorem ks_X6_makeDirectory : Cond.selects RX6 yX6_makeDirectory yX6_makeDirectory ∈ TB := tb_in 12 (by decide +kernel) rfl
theorem kc_X6_linkFile : Cond.code yX6_linkFile cX6_linkFile 8 (some .boolean) ∈ TB := tb_in 656 (by decide +kernel) rfl
theorem km_X6_34 : Cond.methodLink RX6 34 yX6_linkFile ∈ TB := tb_in 653 (by decide +kernel) rfl
theorem ko_X6_34 : okC RX6 34 yX6_linkFile 4 := ⟨km_X6_34, kn_X6, by decide +kernel⟩
theorem ki_X6_linkFile : Cond.instanceMethod yX6_linkFile ∈ TB := tb_in 655 (by decide +kernel) rfl
theorem ks_X6_linkFile : Cond.selects RX6 yX6_linkFile yX6_linkFile ∈ TB := tb_in 15 (by decide +kernel) rfl
theorem kc_X6_growNode : Cond.code yX6_growNode cX6_growNode 8 (some .boolean) ∈ TB := tb_in 664 (by decide +kernel) rfl
theorem km_X6_38 : Cond.methodLink RX6 38 yX6_growNode ∈ TB := tb_in 661 (by decide +kernel) rfl
theorem ko_X6_38 : okC RX6 38 yX6_growNode 3 := ⟨km_X6_38, kn_X6, by decide +kernel⟩
theorem ki_X6_growNode : Cond.instanceMethod yX6_growNode ∈ TB := tb_in 663 (by decide +kernel) rfl
theorem ks_X6_growNode : Cond.selects RX6 yX6_growNode yX6_growNode ∈ TB := tb_in 17 (by decide +kernel) rfl
theorem kc_X6_putInFile : Cond.code yX6_putInFile cX6_putInFile 6 (some .boolean) ∈ TB := tb_in 668 (by decide +kernel) rfl
theorem km_X6_41 : Cond.methodLink RX6 41 yX6_putInFile ∈ TB := tb_in 665 (by decide +kernel) rfl
theorem ko_X6_41 : okC RX6 41 yX6_putInFile 4 := ⟨km_X6_41, kn_X6, by decide +kernel⟩
theorem ki_X6_putInFile : Cond.instanceMethod yX6_putInFile ∈ TB := tb_in 667 (by decide +kernel) rfl
theorem ks_X6_putInFile : Cond.selects RX6 yX6_putInFile yX6_putInFile ∈ TB := tb_in 18 (by decide +kernel) rfl
theorem kc_X6_cutFile : Cond.code yX6_cutFile cX6_cutFile 5 (some .boolean) ∈ TB := tb_in 672 (by decide +kernel) rfl
theorem km_X6_44 : Cond.methodLink RX6 44 yX6_cutFile ∈ TB := tb_in 669 (by decide +kernel) rfl
theorem ko_X6_44 : okC RX6 44 yX6_cutFile 2 := ⟨km_X6_44, kn_X6, by decide +kernel⟩
theorem ki_X6_cutFile : Cond.instanceMethod yX6_cutFile ∈ TB := tb_in 671 (by decide +kernel) rfl
theorem ks_X6_cutFile : Cond.selects RX6 yX6_cutFile yX6_cutFile ∈ TB := tb_in 19 (by decide +kernel) rfl
theorem kc_X6_dropEntry : Cond.code yX6_dropEntry cX6_dropEntry 6 (some .boolean) ∈ TB := tb_in 677 (by decide +kernel) rfl
theorem km_X6_48 : Cond.methodLink RX6 48 yX6_dropEntry ∈ TB := tb_in 674 (by decide +kernel) rfl
theorem ko_X6_48 : okC RX6 48 yX6_dropEntry 3 := ⟨km_X6_48, kn_X6, by decide +kernel⟩
theorem ki_X6_dropEntry : Cond.instanceMethod yX6_dropEntry ∈ TB := tb_in 676 (by decide +kernel) rfl
theorem ks_X6_dropEntry : Cond.selects RX6 yX6_dropEntry yX6_dropEntry ∈ TB := tb_in 20 (by decide +kernel) rfl
theorem kc_X6_sweepOne : Cond.code yX6_sweepOne cX6_sweepOne 3 (some .boolean) ∈ TB := tb_in 685 (by decide +kernel) rfl
theorem km_X6_51 : Cond.methodLink RX6 51 yX6_sweepOne ∈ TB := tb_in 682 (by decide +kernel) rfl
theorem ko_X6_51 : okC RX6 51 yX6_sweepOne 1 := ⟨km_X6_51, kn_X6, by decide +kernel⟩
theorem ki_X6_sweepOne : Cond.instanceMethod yX6_sweepOne ∈ TB := tb_in 684 (by decide +kernel) rfl
theorem ks_X6_sweepOne : Cond.selects RX6 yX6_sweepOne yX6_sweepOne ∈ TB := tb_in 21 (by decide +kernel) rfl
theorem km_X6_55 : Cond.methodLink RX6 55 yX2_writeBlock ∈ TB := tb_in 688 (by decide +kernel) rfl
theorem ko_X6_55 : okC RX6 55 yX2_writeBlock 2 := ⟨km_X6_55, kn_X2, by decide +kernel⟩
theorem km_X6_58 : Cond.methodLink RX6 58 yX2_syncAll ∈ TB := tb_in 689 (by decide +kernel) rfl
theorem ko_X6_58 : okC RX6 58 yX2_syncAll 1 := ⟨km_X6_58, kn_X2, by decide +kernel⟩
theorem kc_X5_crash : Cond.code yX5_crash cX5_crash 1 none ∈ TB := tb_in 600 (by decide +kernel) rfl
theorem km_X6_62 : Cond.methodLink RX6 62 yX5_crash ∈ TB := tb_in 690 (by decide +kernel) rfl
theorem ko_X6_62 : okC RX6 62 yX5_crash 0 := ⟨km_X6_62, kn_X5, by decide +kernel⟩
theorem ki_X5_crash : Cond.instanceMethod yX5_crash ∈ TB := tb_in 598 (by decide +kernel) rfl
theorem ks_X5_crash : Cond.selects RX5 yX5_crash yX5_crash ∈ TB := tb_in 599 (by decide +kernel) rfl
theorem kc_X6_entryFor : Cond.code yX6_entryFor cX6_entryFor 4 (some .int) ∈ TB := tb_in 612 (by decide +kernel) rfl
theorem kc_X6_freeNode : Cond.code yX6_freeNode cX6_freeNode 3 (some .int) ∈ TB := tb_in 619 (by decide +kernel) rfl
theorem kc_X5_putField : Cond.code yX5_putField cX5_putField 4 (some .int) ∈ TB := tb_in 623 (by decide +kernel) rfl
theorem kc_X6_nameEntry : Cond.code yX6_nameEntry cX6_nameEntry 10 (some .int) ∈ TB := tb_in 627 (by decide +kernel) rfl
theorem kc_X5_need : Cond.code yX5_need cX5_need 4 none ∈ TB := tb_in 636 (by decide +kernel) rfl
theorem km_X6_80 : Cond.methodLink RX6 80 yX5_need ∈ TB := tb_in 633 (by decide +kernel) rfl
theorem ko_X6_80 : okC RX6 80 yX5_need 2 := ⟨km_X6_80, kn_X5, by decide +kernel⟩
theorem ki_X5_need : Cond.instanceMethod yX5_need ∈ TB := tb_in 634 (by decide +kernel) rfl
theorem ks_X5_need : Cond.selects RX5 yX5_need yX5_need ∈ TB := tb_in 635 (by decide +kernel) rfl
theorem km_X6_76 : Cond.methodLink RX6 76 yX6_nameEntry ∈ TB := tb_in 624 (by decide +kernel) rfl
theorem ko_X6_76 : okC RX6 76 yX6_nameEntry 4 := ⟨km_X6_76, kn_X6, by decide +kernel⟩
theorem ki_X6_nameEntry : Cond.instanceMethod yX6_nameEntry ∈ TB := tb_in 626 (by decide +kernel) rfl
theorem ks_X6_nameEntry : Cond.selects RX6 yX6_nameEntry yX6_nameEntry ∈ TB := tb_in 11 (by decide +kernel) rfl
theorem km_X6_72 : Cond.methodLink RX6 72 yX5_putField ∈ TB := tb_in 620 (by decide +kernel) rfl
theorem ko_X6_72 : okC RX6 72 yX5_putField 3 := ⟨km_X6_72, kn_X5, by decide +kernel⟩
theorem ki_X5_putField : Cond.instanceMethod yX5_putField ∈ TB := tb_in 621 (by decide +kernel) rfl
theorem ks_X5_putField : Cond.selects RX5 yX5_putField yX5_putField ∈ TB := tb_in 622 (by decide +kernel) rfl
theorem km_X6_69 : Cond.methodLink RX6 69 yX6_freeNode ∈ TB := tb_in 616 (by decide +kernel) rfl
theorem ko_X6_69 : okC RX6 69 yX6_freeNode 1 := ⟨km_X6_69, kn_X6, by decide +kernel⟩
theorem ki_X6_freeNode : Cond.instanceMethod yX6_freeNode ∈ TB := tb_in 618 (by decide +kernel) rfl
theorem ks_X6_freeNode : Cond.selects RX6 yX6_freeNode yX6_freeNode ∈ TB := tb_in 10 (by decide +kernel) rfl
theorem km_X6_65 : Cond.methodLink RX6 65 yX6_entryFor ∈ TB := tb_in 609 (by decide +kernel) rfl
theorem ko_X6_65 : okC RX6 65 yX6_entryFor 3 := ⟨km_X6_65, kn_X6, by decide +kernel⟩
theorem ki_X6_entryFor : Cond.instanceMethod yX6_entryFor ∈ TB := tb_in 611 (by decide +kernel) rfl
theorem ks_X6_entryFor : Cond.selects RX6 yX6_entryFor yX6_entryFor ∈ TB := tb_in 9 (by decide +kernel) rfl
theorem kc_X6_freeBlock : Cond.code yX6_freeBlock cX6_freeBlock 3 (some .int) ∈ TB := tb_in 644 (by decide +kernel) rfl
theorem kc_X6_giveBlock : Cond.code yX6_giveBlock cX6_giveBlock 9 (some .int) ∈ TB := tb_in 648 (by decide +kernel) rfl
theorem km_X6_87 : Cond.methodLink RX6 87 yX6_giveBlock ∈ TB := tb_in 645 (by decide +kernel) rfl
theorem ko_X6_87 : okC RX6 87 yX6_giveBlock 5 := ⟨km_X6_87, kn_X6, by decide +kernel⟩
theorem ki_X6_giveBlock : Cond.instanceMethod yX6_giveBlock ∈ TB := tb_in 647 (by decide +kernel) rfl
theorem ks_X6_giveBlock : Cond.selects RX6 yX6_giveBlock yX6_giveBlock ∈ TB := tb_in 14 (by decide +kernel) rfl
theorem km_X6_84 : Cond.methodLink RX6 84 yX6_freeBlock ∈ TB := tb_in 641 (by decide +kernel) rfl
theorem ko_X6_84 : okC RX6 84 yX6_freeBlock 1 := ⟨km_X6_84, kn_X6, by decide +kernel⟩
theorem ki_X6_freeBlock : Cond.instanceMethod yX6_freeBlock ∈ TB := tb_in 643 (by decide +kernel) rfl
theorem ks_X6_freeBlock : Cond.selects RX6 yX6_freeBlock yX6_freeBlock ∈ TB := tb_in 13 (by decide +kernel) rfl
theorem kc_X6_isFile : Cond.code yX6_isFile cX6_isFile 3 (some .boolean) ∈ TB := tb_in 660 (by decide +kernel) rfl
theorem km_X6_94 : Cond.methodLink RX6 94 yX6_isFile ∈ TB := tb_in 657 (by decide +kernel) rfl
theorem ko_X6_94 : okC RX6 94 yX6_isFile 2 := ⟨km_X6_94, kn_X6, by decide +kernel⟩
theorem ki_X6_isFile : Cond.instanceMethod yX6_isFile ∈ TB := tb_in 659 (by decide +kernel) rfl
theorem ks_X6_isFile : Cond.selects RX6 yX6_isFile yX6_isFile ∈ TB := tb_in 16 (by decide +kernel) rfl
theorem km_X6_91 : Cond.methodLink RX6 91 yX5_nodeField ∈ TB := tb_in 574 (by decide +kernel) rfl
theorem ko_X6_91 : okC RX6 91 yX5_nodeField 3 := ⟨km_X6_91, kn_X5, by decide +kernel⟩
theorem kc_X8_entryNamed : Cond.code yX8_entryNamed cX8_entryNamed 7 (some .int) ∈ TB := tb_in 615 (by decide +kernel) rfl
theorem km_X6_97 : Cond.methodLink RX6 97 yX8_entryNamed ∈ TB := tb_in 613 (by decide +kernel) rfl
theorem kn_X8 : Cond.initialized RX8 ∈ TB := tb_in 120 (by decide +kernel) rfl
theorem ko_X6_97 : okC RX6 97 yX8_entryNamed 4 := ⟨km_X6_97, kn_X8, by decide +kernel⟩
theorem kt_X8_entryNamed : Cond.static yX8_entryNamed ∈ TB := tb_in 614 (by decide +kernel) rfl
theorem kc_X8_reachedNodes : Cond.code yX8_reachedNodes cX8_reachedNodes 7 (some .int) ∈ TB := tb_in 557 (by decide +kernel) rfl
theorem km_X6_102 : Cond.methodLink RX6 102 yX8_reachedNodes ∈ TB := tb_in 555 (by decide +kernel) rfl
theorem ko_X6_102 : okC RX6 102 yX8_reachedNodes 2 := ⟨km_X6_102, kn_X8, by decide +kernel⟩
theorem kt_X8_reachedNodes : Cond.static yX8_reachedNodes ∈ TB := tb_in 556 (by decide +kernel) rfl
theorem kc_X5_latestOf : Cond.code yX5_latestOf cX5_latestOf 4 (some .int) ∈ TB := tb_in 631 (by decide +kernel) rfl
theorem km_X6_110 : Cond.methodLink RX6 110 yX5_put ∈ TB := tb_in 632 (by decide +kernel) rfl
theorem ko_X6_110 : okC RX6 110 yX5_put 3 := ⟨km_X6_110, kn_X5, by decide +kernel⟩
theorem km_X6_106 : Cond.methodLink RX6 106 yX5_latestOf ∈ TB := tb_in 628 (by decide +kernel) rfl
theorem ko_X6_106 : okC RX6 106 yX5_latestOf 2 := ⟨km_X6_106, kn_X5, by decide +kernel⟩
theorem ki_X5_latestOf : Cond.instanceMethod yX5_latestOf ∈ TB := tb_in 629 (by decide +kernel) rfl
theorem ks_X5_latestOf : Cond.selects RX5 yX5_latestOf yX5_latestOf ∈ TB := tb_in 630 (by decide +kernel) rfl
theorem kc_X5_needAllOf : Cond.code yX5_needAllOf cX5_needAllOf 3 none ∈ TB := tb_in 652 (by decide +kernel) rfl
theorem km_X6_113 : Cond.methodLink RX6 113 yX5_needAllOf ∈ TB := tb_in 649 (by decide +kernel) rfl
theorem ko_X6_113 : okC RX6 113 yX5_needAllOf 2 := ⟨km_X6_113, kn_X5, by decide +kernel⟩
theorem ki_X5_needAllOf : Cond.instanceMethod yX5_needAllOf ∈ TB := tb_in 650 (by decide +kernel) rfl
theorem ks_X5_needAllOf : Cond.selects RX5 yX5_needAllOf yX5_needAllOf ∈ TB := tb_in 651 (by decide +kernel) rfl
theorem km_X6_116 : Cond.methodLink RX6 116 yX5_putOff ∈ TB := tb_in 673 (by decide +kernel) rfl
theorem ko_X6_116 : okC RX6 116 yX5_putOff 2 := ⟨km_X6_116, kn_X5, by decide +kernel⟩
theorem kc_X8_nodeOfEntry : Cond.code yX8_nodeOfEntry cX8_nodeOfEntry 3 (some .int) ∈ TB := tb_in 680 (by decide +kernel) rfl
theorem km_X6_119 : Cond.methodLink RX6 119 yX8_nodeOfEntry ∈ TB := tb_in 678 (by decide +kernel) rfl
theorem ko_X6_119 : okC RX6 119 yX8_nodeOfEntry 3 := ⟨km_X6_119, kn_X8, by decide +kernel⟩
theorem kt_X8_nodeOfEntry : Cond.static yX8_nodeOfEntry ∈ TB := tb_in 679 (by decide +kernel) rfl
theorem kc_X8_namedNodes : Cond.code yX8_namedNodes cX8_namedNodes 7 (some .int) ∈ TB := tb_in 564 (by decide +kernel) rfl
theorem km_X6_122 : Cond.methodLink RX6 122 yX8_namedNodes ∈ TB := tb_in 681 (by decide +kernel) rfl
theorem ko_X6_122 : okC RX6 122 yX8_namedNodes 3 := ⟨km_X6_122, kn_X8, by decide +kernel⟩
theorem kt_X8_namedNodes : Cond.static yX8_namedNodes ∈ TB := tb_in 563 (by decide +kernel) rfl
theorem kc_X6_firstFound : Cond.code yX6_firstFound cX6_firstFound 5 (some .int) ∈ TB := tb_in 554 (by decide +kernel) rfl
theorem kc_X6_linksDue : Cond.code yX6_linksDue cX6_linksDue 6 (some .int) ∈ TB := tb_in 578 (by decide +kernel) rfl
theorem km_X6_131 : Cond.methodLink RX6 131 yX5_setLinks ∈ TB := tb_in 687 (by decide +kernel) rfl
theorem ko_X6_131 : okC RX6 131 yX5_setLinks 2 := ⟨km_X6_131, kn_X5, by decide +kernel⟩
theorem km_X6_128 : Cond.methodLink RX6 128 yX6_linksDue ∈ TB := tb_in 575 (by decide +kernel) rfl
theorem ko_X6_128 : okC RX6 128 yX6_linksDue 3 := ⟨km_X6_128, kn_X6, by decide +kernel⟩
theorem ki_X6_linksDue : Cond.instanceMethod yX6_linksDue ∈ TB := tb_in 577 (by decide +kernel) rfl
theorem ks_X6_linksDue : Cond.selects RX6 yX6_linksDue yX6_linksDue ∈ TB := tb_in 7 (by decide +kernel) rfl
theorem km_X6_125 : Cond.methodLink RX6 125 yX6_firstFound ∈ TB := tb_in 686 (by decide +kernel) rfl
theorem ko_X6_125 : okC RX6 125 yX6_firstFound 1 := ⟨km_X6_125, kn_X6, by decide +kernel⟩
theorem ki_X6_firstFound : Cond.instanceMethod yX6_firstFound ∈ TB := tb_in 552 (by decide +kernel) rfl
theorem ks_X6_firstFound : Cond.selects RX6 yX6_firstFound yX6_firstFound ∈ TB := tb_in 553 (by decide +kernel) rfl
theorem kc_X8_linkedNodes : Cond.code yX8_linkedNodes cX8_linkedNodes 4 (some .int) ∈ TB := tb_in 588 (by decide +kernel) rfl
theorem km_X6_134 : Cond.methodLink RX6 134 yX8_linkedNodes ∈ TB := tb_in 586 (by decide +kernel) rfl
theorem ko_X6_134 : okC RX6 134 yX8_linkedNodes 2 := ⟨km_X6_134, kn_X8, by decide +kernel⟩
theorem kt_X8_linkedNodes : Cond.static yX8_linkedNodes ∈ TB := tb_in 587 (by decide +kernel) rfl
theorem kc_X8_pointedBlocks : Cond.code yX8_pointedBlocks cX8_pointedBlocks 5 (some .int) ∈ TB := tb_in 591 (by decide +kernel) rfl
theorem km_X6_137 : Cond.methodLink RX6 137 yX8_pointedBlocks ∈ TB := tb_in 589 (by decide +kernel) rfl
theorem ko_X6_137 : okC RX6 137 yX8_pointedBlocks 3 := ⟨km_X6_137, kn_X8, by decide +kernel⟩
theorem kt_X8_pointedBlocks : Cond.static yX8_pointedBlocks ∈ TB := tb_in 590 (by decide +kernel) rfl
theorem kf_X6_140 : Cond.fieldLink RX6 140 "RolledBack$State" "size" "I" ∈ TB := tb_in 161 (by decide +kernel) rfl
theorem kc_X5_at : Cond.code yX5_at cX5_at 4 (some .int) ∈ TB := tb_in 573 (by decide +kernel) rfl
theorem kc_X5_countPutOff : Cond.code yX5_countPutOff cX5_countPutOff 4 (some .int) ∈ TB := tb_in 582 (by decide +kernel) rfl
theorem km_X6_146 : Cond.methodLink RX6 146 yX5_countPutOff ∈ TB := tb_in 579 (by decide +kernel) rfl
theorem ko_X6_146 : okC RX6 146 yX5_countPutOff 1 := ⟨km_X6_146, kn_X5, by decide +kernel⟩
theorem ki_X5_countPutOff : Cond.instanceMethod yX5_countPutOff ∈ TB := tb_in 580 (by decide +kernel) rfl
theorem ks_X5_countPutOff : Cond.selects RX5 yX5_countPutOff yX5_countPutOff ∈ TB := tb_in 581 (by decide +kernel) rfl
theorem km_X6_143 : Cond.methodLink RX6 143 yX5_at ∈ TB := tb_in 592 (by decide +kernel) rfl
theorem ko_X6_143 : okC RX6 143 yX5_at 3 := ⟨km_X6_143, kn_X5, by decide +kernel⟩
theorem ki_X5_at : Cond.instanceMethod yX5_at ∈ TB := tb_in 571 (by decide +kernel) rfl
theorem ks_X5_at : Cond.selects RX5 yX5_at yX5_at ∈ TB := tb_in 572 (by decide +kernel) rfl
theorem kc_X8_timesNamed : Cond.code yX8_timesNamed cX8_timesNamed 8 (some .int) ∈ TB := tb_in 585 (by decide +kernel) rfl
theorem km_X6_150 : Cond.methodLink RX6 150 yX8_timesNamed ∈ TB := tb_in 583 (by decide +kernel) rfl
theorem ko_X6_150 : okC RX6 150 yX8_timesNamed 4 := ⟨km_X6_150, kn_X8, by decide +kernel⟩
theorem kt_X8_timesNamed : Cond.static yX8_timesNamed ∈ TB := tb_in 584 (by decide +kernel) rfl
theorem km_X7_3 : Cond.methodLink RX7 3 objectInit ∈ TB := tb_in 1315 (by decide +kernel) rfl
theorem kf_X7_9 : Cond.fieldLink RX7 9 "RolledBack$Storm" "seed" "I" ∈ TB := tb_in 1316 (by decide +kernel) rfl
theorem kv_X7_15 : Cond.constant RX7 15 (1103515245) ∈ TB := tb_in 1340 (by decide +kernel) rfl
theorem kc_X7_drawn : Cond.code yX7_drawn cX7_drawn 2 (some .int) ∈ TB := tb_in 1339 (by decide +kernel) rfl
theorem kf_X7_20 : Cond.fieldLink RX7 20 "RolledBack$Storm" "b" "I" ∈ TB := tb_in 1321 (by decide +kernel) rfl
theorem kf_X7_23 : Cond.fieldLink RX7 23 "RolledBack$Storm" "op" "I" ∈ TB := tb_in 1317 (by decide +kernel) rfl
theorem kf_X7_26 : Cond.fieldLink RX7 26 "RolledBack$Storm" "a" "I" ∈ TB := tb_in 1319 (by decide +kernel) rfl
theorem km_X7_16 : Cond.methodLink RX7 16 yX7_drawn ∈ TB := tb_in 1336 (by decide +kernel) rfl
theorem kn_X7 : Cond.initialized RX7 ∈ TB := tb_in 126 (by decide +kernel) rfl
theorem ko_X7_16 : okC RX7 16 yX7_drawn 1 := ⟨km_X7_16, kn_X7, by decide +kernel⟩
theorem ki_X7_drawn : Cond.instanceMethod yX7_drawn ∈ TB := tb_in 1337 (by decide +kernel) rfl
theorem ks_X7_drawn : Cond.selects RX7 yX7_drawn yX7_drawn ∈ TB := tb_in 1338 (by decide +kernel) rfl
theorem kc_X5_isDirectory : Cond.code yX5_isDirectory cX5_isDirectory 4 (some .boolean) ∈ TB := tb_in 568 (by decide +kernel) rfl
theorem km_X8_9 : Cond.methodLink RX8 9 yX5_isDirectory ∈ TB := tb_in 565 (by decide +kernel) rfl
theorem ko_X8_9 : okC RX8 9 yX5_isDirectory 2 := ⟨km_X8_9, kn_X5, by decide +kernel⟩
theorem ki_X5_isDirectory : Cond.instanceMethod yX5_isDirectory ∈ TB := tb_in 566 (by decide +kernel) rfl
theorem ks_X5_isDirectory : Cond.selects RX5 yX5_isDirectory yX5_isDirectory ∈ TB := tb_in 567 (by decide +kernel) rfl
theorem km_X8_15 : Cond.methodLink RX8 15 yX5_nodeField ∈ TB := tb_in 569 (by decide +kernel) rfl
theorem ko_X8_15 : okC RX8 15 yX5_nodeField 3 := ⟨km_X8_15, kn_X5, by decide +kernel⟩
theorem km_X8_19 : Cond.methodLink RX8 19 yX5_at ∈ TB := tb_in 570 (by decide +kernel) rfl
theorem ko_X8_19 : okC RX8 19 yX5_at 3 := ⟨km_X8_19, kn_X5, by decide +kernel⟩
theorem kc_J6_numberOfTrailingZeros_0f7a4 : Cond.code yJ6_numberOfTrailingZeros_0f7a4 cJ6_numberOfTrailingZeros_0f7a4 2 (some .int) ∈ TB := tb_in 560 (by decide +kernel) rfl
theorem km_X8_22 : Cond.methodLink RX8 22 yJ6_numberOfTrailingZeros_0f7a4 ∈ TB := tb_in 558 (by decide +kernel) rfl
theorem kn_J6 : Cond.initialized RJ6 ∈ TB := tb_in 121 (by decide +kernel) rfl
theorem ko_X8_22 : okC RX8 22 yJ6_numberOfTrailingZeros_0f7a4 1 := ⟨km_X8_22, kn_J6, by decide +kernel⟩
theorem kt_J6_numberOfTrailingZeros_0f7a4 : Cond.static yJ6_numberOfTrailingZeros_0f7a4 ∈ TB := tb_in 559 (by decide +kernel) rfl
theorem km_X8_28 : Cond.methodLink RX8 28 yX8_namedNodes ∈ TB := tb_in 562 (by decide +kernel) rfl
theorem ko_X8_28 : okC RX8 28 yX8_namedNodes 3 := ⟨km_X8_28, kn_X8, by decide +kernel⟩
theorem kf_X8_34 : Cond.fieldLink RX8 34 "RolledBack$State" "size" "I" ∈ TB := tb_in 160 (by decide +kernel) rfl
theorem km_X8_38 : Cond.methodLink RX8 38 yX8_reachedNodes ∈ TB := tb_in 1131 (by decide +kernel) rfl
theorem ko_X8_38 : okC RX8 38 yX8_reachedNodes 2 := ⟨km_X8_38, kn_X8, by decide +kernel⟩
theorem km_X8_42 : Cond.methodLink RX8 42 yX8_pointedBlocks ∈ TB := tb_in 1132 (by decide +kernel) rfl
theorem ko_X8_42 : okC RX8 42 yX8_pointedBlocks 3 := ⟨km_X8_42, kn_X8, by decide +kernel⟩
theorem kc_X8_usedBlocks : Cond.code yX8_usedBlocks cX8_usedBlocks 4 (some .int) ∈ TB := tb_in 1120 (by decide +kernel) rfl
theorem km_X8_45 : Cond.methodLink RX8 45 yX8_usedBlocks ∈ TB := tb_in 1133 (by decide +kernel) rfl
theorem ko_X8_45 : okC RX8 45 yX8_usedBlocks 2 := ⟨km_X8_45, kn_X8, by decide +kernel⟩
theorem kt_X8_usedBlocks : Cond.static yX8_usedBlocks ∈ TB := tb_in 1119 (by decide +kernel) rfl
theorem km_X8_48 : Cond.methodLink RX8 48 yX8_timesNamed ∈ TB := tb_in 1152 (by decide +kernel) rfl
theorem ko_X8_48 : okC RX8 48 yX8_timesNamed 4 := ⟨km_X8_48, kn_X8, by decide +kernel⟩
theorem km_X8_52 : Cond.methodLink RX8 52 yX8_linkedNodes ∈ TB := tb_in 1156 (by decide +kernel) rfl
theorem ko_X8_52 : okC RX8 52 yX8_linkedNodes 2 := ⟨km_X8_52, kn_X8, by decide +kernel⟩
theorem kc_X8_namedAt : Cond.code yX8_namedAt cX8_namedAt 6 (some .int) ∈ TB := tb_in 1169 (by decide +kernel) rfl
theorem km_X8_55 : Cond.methodLink RX8 55 yX8_namedAt ∈ TB := tb_in 1167 (by decide +kernel) rfl
theorem ko_X8_55 : okC RX8 55 yX8_namedAt 4 := ⟨km_X8_55, kn_X8, by decide +kernel⟩
theorem kt_X8_namedAt : Cond.static yX8_namedAt ∈ TB := tb_in 1168 (by decide +kernel) rfl
theorem kc_X8_countUnder : Cond.code yX8_countUnder cX8_countUnder 7 (some .int) ∈ TB := tb_in 1166 (by decide +kernel) rfl
theorem km_X8_58 : Cond.methodLink RX8 58 yX8_countUnder ∈ TB := tb_in 1170 (by decide +kernel) rfl
theorem ko_X8_58 : okC RX8 58 yX8_countUnder 4 := ⟨km_X8_58, kn_X8, by decide +kernel⟩
theorem kt_X8_countUnder : Cond.static yX8_countUnder ∈ TB := tb_in 1165 (by decide +kernel) rfl
theorem kc_X8_depthOf : Cond.code yX8_depthOf cX8_depthOf 7 (some .int) ∈ TB := tb_in 1180 (by decide +kernel) rfl
theorem km_X8_61 : Cond.methodLink RX8 61 yX8_depthOf ∈ TB := tb_in 1181 (by decide +kernel) rfl
theorem ko_X8_61 : okC RX8 61 yX8_depthOf 4 := ⟨km_X8_61, kn_X8, by decide +kernel⟩
theorem kt_X8_depthOf : Cond.static yX8_depthOf ∈ TB := tb_in 1179 (by decide +kernel) rfl
theorem km_X8_64 : Cond.methodLink RX8 64 Lib.Math.max.name ∈ TB := tb_in 1182 (by decide +kernel) rfl
theorem km_X9_3 : Cond.methodLink RX9 3 objectInit ∈ TB := tb_in 133 (by decide +kernel) rfl
theorem kk_X9_9 : Cond.classLink RX9 9 RX5 ∈ TB := tb_in 136 (by decide +kernel) rfl
theorem kf_X9_12 : Cond.fieldLink RX9 12 "RolledBack" "now" "LRolledBack$State;" ∈ TB := tb_in 380 (by decide +kernel) rfl
theorem kk_X9_16 : Cond.classLink RX9 16 RX0 ∈ TB := tb_in 237 (by decide +kernel) rfl
theorem kf_X9_19 : Cond.fieldLink RX9 19 "RolledBack" "works" "LRolledBack$History;" ∈ TB := tb_in 381 (by decide +kernel) rfl
theorem kk_X9_23 : Cond.classLink RX9 23 RX1 ∈ TB := tb_in 253 (by decide +kernel) rfl
theorem kf_X9_25 : Cond.fieldLink RX9 25 "RolledBack" "images" "[LRolledBack$Image;" ∈ TB := tb_in 382 (by decide +kernel) rfl
theorem kf_X9_29 : Cond.fieldLink RX9 29 "RolledBack" "spare" "[LRolledBack$State;" ∈ TB := tb_in 383 (by decide +kernel) rfl
theorem kk_X9_33 : Cond.classLink RX9 33 RX2 ∈ TB := tb_in 255 (by decide +kernel) rfl
theorem kf_X9_36 : Cond.fieldLink RX9 36 "RolledBack" "pen" "LRolledBack$Pen;" ∈ TB := tb_in 384 (by decide +kernel) rfl
theorem kk_X9_40 : Cond.classLink RX9 40 RX6 ∈ TB := tb_in 284 (by decide +kernel) rfl
theorem kb_X6 : Cond.instantiable RX6 1 ∈ TB := tb_in 285 (by decide +kernel) rfl
theorem kc_X6_init : Cond.code yX6_init cX6_init 1 none ∈ TB := tb_in 288 (by decide +kernel) rfl
theorem kf_X9_43 : Cond.fieldLink RX9 43 "RolledBack" "steps" "LRolledBack$Steps;" ∈ TB := tb_in 385 (by decide +kernel) rfl
theorem kf_X9_47 : Cond.fieldLink RX9 47 "RolledBack" "tape" "[B" ∈ TB := tb_in 386 (by decide +kernel) rfl
theorem kk_X9_51 : Cond.classLink RX9 51 RX3 ∈ TB := tb_in 296 (by decide +kernel) rfl
theorem kb_X3 : Cond.instantiable RX3 10 ∈ TB := tb_in 297 (by decide +kernel) rfl
theorem kc_X3_init : Cond.code yX3_init cX3_init 1 none ∈ TB := tb_in 300 (by decide +kernel) rfl
theorem kf_X9_54 : Cond.fieldLink RX9 54 "RolledBack" "reader" "LRolledBack$Reader;" ∈ TB := tb_in 387 (by decide +kernel) rfl
theorem kf_X9_58 : Cond.fieldLink RX9 58 "RolledBack" "book" "[I" ∈ TB := tb_in 388 (by decide +kernel) rfl
theorem kf_X9_62 : Cond.fieldLink RX9 62 "RolledBack" "copies" "[B" ∈ TB := tb_in 389 (by decide +kernel) rfl
theorem kf_X9_65 : Cond.fieldLink RX9 65 "RolledBack" "refused" "[I" ∈ TB := tb_in 390 (by decide +kernel) rfl
theorem kf_X9_68 : Cond.fieldLink RX9 68 "RolledBack" "faultPlace" "I" ∈ TB := tb_in 394 (by decide +kernel) rfl
theorem ki_X3_init : Cond.instanceMethod yX3_init ∈ TB := tb_in 299 (by decide +kernel) rfl
theorem ki_X6_init : Cond.instanceMethod yX6_init ∈ TB := tb_in 287 (by decide +kernel) rfl
theorem km_X9_11 : Cond.methodLink RX9 11 yX5_init ∈ TB := tb_in 138 (by decide +kernel) rfl
theorem ko_X9_11 : okC RX9 11 yX5_init 0 := ⟨km_X9_11, kn_X5, by decide +kernel⟩
theorem kc_X9_clearBook : Cond.code yX9_clearBook cX9_clearBook 2 none ∈ TB := tb_in 379 (by decide +kernel) rfl
theorem km_X9_72 : Cond.methodLink RX9 72 yX9_clearBook ∈ TB := tb_in 376 (by decide +kernel) rfl
theorem kn_X9 : Cond.initialized RX9 ∈ TB := tb_in 102 (by decide +kernel) rfl
theorem ko_X9_72 : okC RX9 72 yX9_clearBook 0 := ⟨km_X9_72, kn_X9, by decide +kernel⟩
theorem ki_X9_clearBook : Cond.instanceMethod yX9_clearBook ∈ TB := tb_in 378 (by decide +kernel) rfl
theorem ks_X9_clearBook : Cond.selects RX9 yX9_clearBook yX9_clearBook ∈ TB := tb_in 0 (by decide +kernel) rfl
theorem kf_X9_75 : Cond.fieldLink RX9 75 "RolledBack" "tapeLength" "I" ∈ TB := tb_in 392 (by decide +kernel) rfl
theorem kc_X9_feedNumber : Cond.code yX9_feedNumber cX9_feedNumber 3 none ∈ TB := tb_in 436 (by decide +kernel) rfl
theorem km_X9_78 : Cond.methodLink RX9 78 yX9_feedNumber ∈ TB := tb_in 433 (by decide +kernel) rfl
theorem ko_X9_78 : okC RX9 78 yX9_feedNumber 1 := ⟨km_X9_78, kn_X9, by decide +kernel⟩
theorem ki_X9_feedNumber : Cond.instanceMethod yX9_feedNumber ∈ TB := tb_in 435 (by decide +kernel) rfl
theorem ks_X9_feedNumber : Cond.selects RX9 yX9_feedNumber yX9_feedNumber ∈ TB := tb_in 1 (by decide +kernel) rfl
theorem kc_X9_testLength : Cond.code yX9_testLength cX9_testLength 3 none ∈ TB := tb_in 759 (by decide +kernel) rfl
theorem kc_X3_readStore : Cond.code yX3_readStore cX3_readStore 6 (some .int) ∈ TB := tb_in 845 (by decide +kernel) rfl
theorem kc_X9_textRead : Cond.code yX9_textRead cX9_textRead 2 none ∈ TB := tb_in 941 (by decide +kernel) rfl
theorem kf_X9_93 : Cond.fieldLink RX9 93 "RolledBack$Reader" "script" "LRolledBack$Script;" ∈ TB := tb_in 342 (by decide +kernel) rfl
theorem kc_X9_buildStore : Cond.code yX9_buildStore cX9_buildStore 3 none ∈ TB := tb_in 945 (by decide +kernel) rfl
theorem kf_X9_101 : Cond.fieldLink RX9 101 "RolledBack$History" "length" "I" ∈ TB := tb_in 247 (by decide +kernel) rfl
theorem kf_X9_104 : Cond.fieldLink RX9 104 "RolledBack" "imageCount" "I" ∈ TB := tb_in 391 (by decide +kernel) rfl
theorem kf_X9_107 : Cond.fieldLink RX9 107 "RolledBack" "refusedSteps" "I" ∈ TB := tb_in 395 (by decide +kernel) rfl
theorem kf_X9_110 : Cond.fieldLink RX9 110 "RolledBack$State" "size" "I" ∈ TB := tb_in 158 (by decide +kernel) rfl
theorem km_X9_97 : Cond.methodLink RX9 97 yX9_buildStore ∈ TB := tb_in 942 (by decide +kernel) rfl
theorem ko_X9_97 : okC RX9 97 yX9_buildStore 1 := ⟨km_X9_97, kn_X9, by decide +kernel⟩
theorem ki_X9_buildStore : Cond.instanceMethod yX9_buildStore ∈ TB := tb_in 944 (by decide +kernel) rfl
theorem ks_X9_buildStore : Cond.selects RX9 yX9_buildStore yX9_buildStore ∈ TB := tb_in 38 (by decide +kernel) rfl
theorem km_X9_90 : Cond.methodLink RX9 90 yX9_textRead ∈ TB := tb_in 938 (by decide +kernel) rfl
theorem ko_X9_90 : okC RX9 90 yX9_textRead 1 := ⟨km_X9_90, kn_X9, by decide +kernel⟩
theorem ki_X9_textRead : Cond.instanceMethod yX9_textRead ∈ TB := tb_in 940 (by decide +kernel) rfl
theorem ks_X9_textRead : Cond.selects RX9 yX9_textRead yX9_textRead ∈ TB := tb_in 37 (by decide +kernel) rfl
theorem km_X9_86 : Cond.methodLink RX9 86 yX3_readStore ∈ TB := tb_in 842 (by decide +kernel) rfl
theorem ko_X9_86 : okC RX9 86 yX3_readStore 2 := ⟨km_X9_86, kn_X3, by decide +kernel⟩
theorem ki_X3_readStore : Cond.instanceMethod yX3_readStore ∈ TB := tb_in 843 (by decide +kernel) rfl
theorem ks_X3_readStore : Cond.selects RX3 yX3_readStore yX3_readStore ∈ TB := tb_in 844 (by decide +kernel) rfl
theorem km_X9_82 : Cond.methodLink RX9 82 yX9_testLength ∈ TB := tb_in 756 (by decide +kernel) rfl
theorem ko_X9_82 : okC RX9 82 yX9_testLength 2 := ⟨km_X9_82, kn_X9, by decide +kernel⟩
theorem ki_X9_testLength : Cond.instanceMethod yX9_testLength ∈ TB := tb_in 758 (by decide +kernel) rfl
theorem ks_X9_testLength : Cond.selects RX9 yX9_testLength yX9_testLength ∈ TB := tb_in 25 (by decide +kernel) rfl
theorem kf_X9_113 : Cond.fieldLink RX9 113 "RolledBack$Script" "size" "I" ∈ TB := tb_in 309 (by decide +kernel) rfl
theorem km_X9_116 : Cond.methodLink RX9 116 yX5_begin ∈ TB := tb_in 946 (by decide +kernel) rfl
theorem ko_X9_116 : okC RX9 116 yX5_begin 1 := ⟨km_X9_116, kn_X5, by decide +kernel⟩
theorem kf_X9_119 : Cond.fieldLink RX9 119 "RolledBack$Script" "length" "I" ∈ TB := tb_in 312 (by decide +kernel) rfl
theorem km_X9_139 : Cond.methodLink RX9 139 yX5_forgetCounts ∈ TB := tb_in 948 (by decide +kernel) rfl
theorem ko_X9_139 : okC RX9 139 yX5_forgetCounts 0 := ⟨km_X9_139, kn_X5, by decide +kernel⟩
theorem kf_X9_120 : Cond.fieldLink RX9 120 "RolledBack$Script" "op" "[I" ∈ TB := tb_in 315 (by decide +kernel) rfl
theorem kf_X9_123 : Cond.fieldLink RX9 123 "RolledBack$Script" "a" "[I" ∈ TB := tb_in 317 (by decide +kernel) rfl
theorem kf_X9_126 : Cond.fieldLink RX9 126 "RolledBack$Script" "b" "[I" ∈ TB := tb_in 319 (by decide +kernel) rfl
theorem kf_X9_129 : Cond.fieldLink RX9 129 "RolledBack$Script" "c" "[I" ∈ TB := tb_in 321 (by decide +kernel) rfl
theorem kc_X6_take : Cond.code yX6_take cX6_take 6 (some .boolean) ∈ TB := tb_in 604 (by decide +kernel) rfl
theorem km_X9_136 : Cond.methodLink RX9 136 yX5_allOnDisk ∈ TB := tb_in 947 (by decide +kernel) rfl
theorem ko_X9_136 : okC RX9 136 yX5_allOnDisk 0 := ⟨km_X9_136, kn_X5, by decide +kernel⟩
theorem km_X9_132 : Cond.methodLink RX9 132 yX6_take ∈ TB := tb_in 601 (by decide +kernel) rfl
theorem ko_X9_132 : okC RX9 132 yX6_take 5 := ⟨km_X9_132, kn_X6, by decide +kernel⟩
theorem ki_X6_take : Cond.instanceMethod yX6_take ∈ TB := tb_in 602 (by decide +kernel) rfl
theorem ks_X6_take : Cond.selects RX6 yX6_take yX6_take ∈ TB := tb_in 603 (by decide +kernel) rfl
theorem kf_X9_142 : Cond.fieldLink RX9 142 "RolledBack" "bookLines" "I" ∈ TB := tb_in 393 (by decide +kernel) rfl
theorem kc_X3_readWork : Cond.code yX3_readWork cX3_readWork 4 (some .int) ∈ TB := tb_in 959 (by decide +kernel) rfl
theorem kc_X0_push : Cond.code yX0_push cX0_push 2 none ∈ TB := tb_in 972 (by decide +kernel) rfl
theorem kc_X9_runScript : Cond.code yX9_runScript cX9_runScript 7 (some .int) ∈ TB := tb_in 976 (by decide +kernel) rfl
theorem km_X9_152 : Cond.methodLink RX9 152 yX9_runScript ∈ TB := tb_in 973 (by decide +kernel) rfl
theorem ko_X9_152 : okC RX9 152 yX9_runScript 1 := ⟨km_X9_152, kn_X9, by decide +kernel⟩
theorem ki_X9_runScript : Cond.instanceMethod yX9_runScript ∈ TB := tb_in 975 (by decide +kernel) rfl
theorem ks_X9_runScript : Cond.selects RX9 yX9_runScript yX9_runScript ∈ TB := tb_in 40 (by decide +kernel) rfl
theorem km_X9_148 : Cond.methodLink RX9 148 yX0_push ∈ TB := tb_in 969 (by decide +kernel) rfl
theorem ko_X9_148 : okC RX9 148 yX0_push 1 := ⟨km_X9_148, kn_X0, by decide +kernel⟩
theorem ki_X0_push : Cond.instanceMethod yX0_push ∈ TB := tb_in 970 (by decide +kernel) rfl
theorem ks_X0_push : Cond.selects RX0 yX0_push yX0_push ∈ TB := tb_in 971 (by decide +kernel) rfl
theorem km_X9_145 : Cond.methodLink RX9 145 yX3_readWork ∈ TB := tb_in 956 (by decide +kernel) rfl
theorem ko_X9_145 : okC RX9 145 yX3_readWork 2 := ⟨km_X9_145, kn_X3, by decide +kernel⟩
theorem ki_X3_readWork : Cond.instanceMethod yX3_readWork ∈ TB := tb_in 957 (by decide +kernel) rfl
theorem ks_X3_readWork : Cond.selects RX3 yX3_readWork yX3_readWork ∈ TB := tb_in 958 (by decide +kernel) rfl
theorem kv_X9_156 : Cond.constant RX9 156 (100000) ∈ TB := tb_in 977 (by decide +kernel) rfl
theorem kc_X4_afterAgain : Cond.code yX4_afterAgain cX4_afterAgain 2 (some .int) ∈ TB := tb_in 985 (by decide +kernel) rfl
theorem km_X9_161 : Cond.methodLink RX9 161 yX4_afterAgain ∈ TB := tb_in 982 (by decide +kernel) rfl
theorem ko_X9_161 : okC RX9 161 yX4_afterAgain 1 := ⟨km_X9_161, kn_X4, by decide +kernel⟩
theorem ki_X4_afterAgain : Cond.instanceMethod yX4_afterAgain ∈ TB := tb_in 983 (by decide +kernel) rfl
theorem ks_X4_afterAgain : Cond.selects RX4 yX4_afterAgain yX4_afterAgain ∈ TB := tb_in 984 (by decide +kernel) rfl
theorem kc_X4_afterEnd : Cond.code yX4_afterEnd cX4_afterEnd 3 (some .int) ∈ TB := tb_in 981 (by decide +kernel) rfl
theorem km_X9_157 : Cond.methodLink RX9 157 yX4_afterEnd ∈ TB := tb_in 978 (by decide +kernel) rfl
theorem ko_X9_157 : okC RX9 157 yX4_afterEnd 1 := ⟨km_X9_157, kn_X4, by decide +kernel⟩
theorem ki_X4_afterEnd : Cond.instanceMethod yX4_afterEnd ∈ TB := tb_in 979 (by decide +kernel) rfl
theorem ks_X4_afterEnd : Cond.selects RX4 yX4_afterEnd yX4_afterEnd ∈ TB := tb_in 980 (by decide +kernel) rfl
theorem kc_X3_readBook : Cond.code yX3_readBook cX3_readBook 7 (some .int) ∈ TB := tb_in 996 (by decide +kernel) rfl
theorem kf_X9_167 : Cond.fieldLink RX9 167 "RolledBack$Reader" "lines" "[I" ∈ TB := tb_in 344 (by decide +kernel) rfl
theorem km_X9_170 : Cond.methodLink RX9 170 arraycopyName ∈ TB := tb_in 700 (by decide +kernel) rfl
theorem kf_X9_176 : Cond.fieldLink RX9 176 "RolledBack$Reader" "lineCount" "I" ∈ TB := tb_in 346 (by decide +kernel) rfl
theorem km_X9_164 : Cond.methodLink RX9 164 yX3_readBook ∈ TB := tb_in 993 (by decide +kernel) rfl
theorem ko_X9_164 : okC RX9 164 yX3_readBook 2 := ⟨km_X9_164, kn_X3, by decide +kernel⟩
theorem ki_X3_readBook : Cond.instanceMethod yX3_readBook ∈ TB := tb_in 994 (by decide +kernel) rfl
theorem ks_X3_readBook : Cond.selects RX3 yX3_readBook yX3_readBook ∈ TB := tb_in 995 (by decide +kernel) rfl
theorem kf_X9_186 : Cond.fieldLink RX9 186 "RolledBack$Reader" "place" "I" ∈ TB := tb_in 348 (by decide +kernel) rfl
theorem kc_X0_pop : Cond.code yX0_pop cX0_pop 2 none ∈ TB := tb_in 448 (by decide +kernel) rfl
theorem km_X9_189 : Cond.methodLink RX9 189 yX0_pop ∈ TB := tb_in 445 (by decide +kernel) rfl
theorem ko_X9_189 : okC RX9 189 yX0_pop 1 := ⟨km_X9_189, kn_X0, by decide +kernel⟩
theorem ki_X0_pop : Cond.instanceMethod yX0_pop ∈ TB := tb_in 446 (by decide +kernel) rfl
theorem ks_X0_pop : Cond.selects RX0 yX0_pop yX0_pop ∈ TB := tb_in 447 (by decide +kernel) rfl
theorem kc_X9_testWhat : Cond.code yX9_testWhat cX9_testWhat 3 none ∈ TB := tb_in 1007 (by decide +kernel) rfl
theorem kf_X9_195 : Cond.fieldLink RX9 195 "RolledBack$State" "\x75nsafe" "I" ∈ TB := tb_in 167 (by decide +kernel) rfl
theorem kf_X9_198 : Cond.fieldLink RX9 198 "RolledBack$State" "waiting" "I" ∈ TB := tb_in 187 (by decide +kernel) rfl
theorem kc_X5_dirtyBlocks : Cond.code yX5_dirtyBlocks cX5_dirtyBlocks 3 (some .int) ∈ TB := tb_in 539 (by decide +kernel) rfl
theorem km_X9_201 : Cond.methodLink RX9 201 yX5_dirtyBlocks ∈ TB := tb_in 536 (by decide +kernel) rfl
theorem ko_X9_201 : okC RX9 201 yX5_dirtyBlocks 0 := ⟨km_X9_201, kn_X5, by decide +kernel⟩
theorem ki_X5_dirtyBlocks : Cond.instanceMethod yX5_dirtyBlocks ∈ TB := tb_in 537 (by decide +kernel) rfl
theorem ks_X5_dirtyBlocks : Cond.selects RX5 yX5_dirtyBlocks yX5_dirtyBlocks ∈ TB := tb_in 538 (by decide +kernel) rfl
theorem kf_X9_205 : Cond.fieldLink RX9 205 "RolledBack$State" "writes" "I" ∈ TB := tb_in 194 (by decide +kernel) rfl
theorem kf_X9_208 : Cond.fieldLink RX9 208 "RolledBack$State" "heldBack" "I" ∈ TB := tb_in 197 (by decide +kernel) rfl
theorem kf_X9_211 : Cond.fieldLink RX9 211 "RolledBack$State" "crashes" "I" ∈ TB := tb_in 199 (by decide +kernel) rfl
theorem kf_X9_214 : Cond.fieldLink RX9 214 "RolledBack$State" "made" "I" ∈ TB := tb_in 201 (by decide +kernel) rfl
theorem km_X9_192 : Cond.methodLink RX9 192 yX9_testWhat ∈ TB := tb_in 1004 (by decide +kernel) rfl
theorem ko_X9_192 : okC RX9 192 yX9_testWhat 2 := ⟨km_X9_192, kn_X9, by decide +kernel⟩
theorem ki_X9_testWhat : Cond.instanceMethod yX9_testWhat ∈ TB := tb_in 1006 (by decide +kernel) rfl
theorem ks_X9_testWhat : Cond.selects RX9 yX9_testWhat yX9_testWhat ∈ TB := tb_in 41 (by decide +kernel) rfl
theorem kc_X9_testWhere : Cond.code yX9_testWhere cX9_testWhere 2 none ∈ TB := tb_in 1047 (by decide +kernel) rfl
theorem kc_X9_testBlock : Cond.code yX9_testBlock cX9_testBlock 2 none ∈ TB := tb_in 1051 (by decide +kernel) rfl
theorem kc_X9_testPlace : Cond.code yX9_testPlace cX9_testPlace 2 none ∈ TB := tb_in 1068 (by decide +kernel) rfl
theorem km_X9_226 : Cond.methodLink RX9 226 yX5_at ∈ TB := tb_in 1070 (by decide +kernel) rfl
theorem ko_X9_226 : okC RX9 226 yX5_at 3 := ⟨km_X9_226, kn_X5, by decide +kernel⟩
theorem km_X9_223 : Cond.methodLink RX9 223 yX9_testPlace ∈ TB := tb_in 1065 (by decide +kernel) rfl
theorem ko_X9_223 : okC RX9 223 yX9_testPlace 1 := ⟨km_X9_223, kn_X9, by decide +kernel⟩
theorem ki_X9_testPlace : Cond.instanceMethod yX9_testPlace ∈ TB := tb_in 1067 (by decide +kernel) rfl
theorem ks_X9_testPlace : Cond.selects RX9 yX9_testPlace yX9_testPlace ∈ TB := tb_in 45 (by decide +kernel) rfl
theorem km_X9_220 : Cond.methodLink RX9 220 yX9_testBlock ∈ TB := tb_in 1048 (by decide +kernel) rfl
theorem ko_X9_220 : okC RX9 220 yX9_testBlock 1 := ⟨km_X9_220, kn_X9, by decide +kernel⟩
theorem ki_X9_testBlock : Cond.instanceMethod yX9_testBlock ∈ TB := tb_in 1050 (by decide +kernel) rfl
theorem ks_X9_testBlock : Cond.selects RX9 yX9_testBlock yX9_testBlock ∈ TB := tb_in 44 (by decide +kernel) rfl
theorem km_X9_217 : Cond.methodLink RX9 217 yX9_testWhere ∈ TB := tb_in 1044 (by decide +kernel) rfl
theorem ko_X9_217 : okC RX9 217 yX9_testWhere 1 := ⟨km_X9_217, kn_X9, by decide +kernel⟩
theorem ki_X9_testWhere : Cond.instanceMethod yX9_testWhere ∈ TB := tb_in 1046 (by decide +kernel) rfl
theorem ks_X9_testWhere : Cond.selects RX9 yX9_testWhere yX9_testWhere ∈ TB := tb_in 43 (by decide +kernel) rfl
theorem kc_X9_testNode : Cond.code yX9_testNode cX9_testNode 2 none ∈ TB := tb_in 1082 (by decide +kernel) rfl
theorem km_X9_239 : Cond.methodLink RX9 239 yX5_nodeField ∈ TB := tb_in 1100 (by decide +kernel) rfl
theorem ko_X9_239 : okC RX9 239 yX5_nodeField 3 := ⟨km_X9_239, kn_X5, by decide +kernel⟩
theorem km_X9_233 : Cond.methodLink RX9 233 yX8_reachedNodes ∈ TB := tb_in 1099 (by decide +kernel) rfl
theorem ko_X9_233 : okC RX9 233 yX8_reachedNodes 2 := ⟨km_X9_233, kn_X8, by decide +kernel⟩
theorem km_X9_230 : Cond.methodLink RX9 230 yX9_testNode ∈ TB := tb_in 1079 (by decide +kernel) rfl
theorem ko_X9_230 : okC RX9 230 yX9_testNode 1 := ⟨km_X9_230, kn_X9, by decide +kernel⟩
theorem ki_X9_testNode : Cond.instanceMethod yX9_testNode ∈ TB := tb_in 1081 (by decide +kernel) rfl
theorem ks_X9_testNode : Cond.selects RX9 yX9_testNode yX9_testNode ∈ TB := tb_in 46 (by decide +kernel) rfl
theorem km_X9_252 : Cond.methodLink RX9 252 yX8_usedBlocks ∈ TB := tb_in 1118 (by decide +kernel) rfl
theorem ko_X9_252 : okC RX9 252 yX8_usedBlocks 2 := ⟨km_X9_252, kn_X8, by decide +kernel⟩
theorem kc_X8_leakedBlocks : Cond.code yX8_leakedBlocks cX8_leakedBlocks 3 (some .int) ∈ TB := tb_in 1130 (by decide +kernel) rfl
theorem km_X9_255 : Cond.methodLink RX9 255 yX8_leakedBlocks ∈ TB := tb_in 1128 (by decide +kernel) rfl
theorem ko_X9_255 : okC RX9 255 yX8_leakedBlocks 2 := ⟨km_X9_255, kn_X8, by decide +kernel⟩
theorem kt_X8_leakedBlocks : Cond.static yX8_leakedBlocks ∈ TB := tb_in 1129 (by decide +kernel) rfl
theorem km_X9_258 : Cond.methodLink RX9 258 yX8_linkedNodes ∈ TB := tb_in 1141 (by decide +kernel) rfl
theorem ko_X9_258 : okC RX9 258 yX8_linkedNodes 2 := ⟨km_X9_258, kn_X8, by decide +kernel⟩
theorem kc_X8_brokenEntries : Cond.code yX8_brokenEntries cX8_brokenEntries 7 (some .int) ∈ TB := tb_in 1151 (by decide +kernel) rfl
theorem km_X9_261 : Cond.methodLink RX9 261 yX8_brokenEntries ∈ TB := tb_in 1149 (by decide +kernel) rfl
theorem ko_X9_261 : okC RX9 261 yX8_brokenEntries 2 := ⟨km_X9_261, kn_X8, by decide +kernel⟩
theorem kt_X8_brokenEntries : Cond.static yX8_brokenEntries ∈ TB := tb_in 1150 (by decide +kernel) rfl
theorem kc_X8_brokenPointers : Cond.code yX8_brokenPointers cX8_brokenPointers 8 (some .int) ∈ TB := tb_in 1155 (by decide +kernel) rfl
theorem km_X9_264 : Cond.methodLink RX9 264 yX8_brokenPointers ∈ TB := tb_in 1153 (by decide +kernel) rfl
theorem ko_X9_264 : okC RX9 264 yX8_brokenPointers 2 := ⟨km_X9_264, kn_X8, by decide +kernel⟩
theorem kt_X8_brokenPointers : Cond.static yX8_brokenPointers ∈ TB := tb_in 1154 (by decide +kernel) rfl
theorem km_X9_267 : Cond.methodLink RX9 267 yX8_countUnder ∈ TB := tb_in 1164 (by decide +kernel) rfl
theorem ko_X9_267 : okC RX9 267 yX8_countUnder 4 := ⟨km_X9_267, kn_X8, by decide +kernel⟩
theorem km_X9_270 : Cond.methodLink RX9 270 yX8_depthOf ∈ TB := tb_in 1178 (by decide +kernel) rfl
theorem ko_X9_270 : okC RX9 270 yX8_depthOf 4 := ⟨km_X9_270, kn_X8, by decide +kernel⟩
theorem kc_X8_freeEntries : Cond.code yX8_freeEntries cX8_freeEntries 7 (some .int) ∈ TB := tb_in 1281 (by decide +kernel) rfl
theorem km_X9_273 : Cond.methodLink RX9 273 yX8_freeEntries ∈ TB := tb_in 1279 (by decide +kernel) rfl
theorem ko_X9_273 : okC RX9 273 yX8_freeEntries 3 := ⟨km_X9_273, kn_X8, by decide +kernel⟩
theorem kt_X8_freeEntries : Cond.static yX8_freeEntries ∈ TB := tb_in 1280 (by decide +kernel) rfl
theorem kc_X8_ownerOf : Cond.code yX8_ownerOf cX8_ownerOf 4 (some .int) ∈ TB := tb_in 1291 (by decide +kernel) rfl
theorem km_X9_276 : Cond.methodLink RX9 276 yX8_ownerOf ∈ TB := tb_in 1289 (by decide +kernel) rfl
theorem ko_X9_276 : okC RX9 276 yX8_ownerOf 3 := ⟨km_X9_276, kn_X8, by decide +kernel⟩
theorem kt_X8_ownerOf : Cond.static yX8_ownerOf ∈ TB := tb_in 1290 (by decide +kernel) rfl
theorem kc_X9_testChange : Cond.code yX9_testChange cX9_testChange 2 none ∈ TB := tb_in 1218 (by decide +kernel) rfl
theorem kf_X9_282 : Cond.fieldLink RX9 282 "RolledBack$State" "block" "[I" ∈ TB := tb_in 170 (by decide +kernel) rfl
theorem kf_X9_285 : Cond.fieldLink RX9 285 "RolledBack$State" "place" "[I" ∈ TB := tb_in 173 (by decide +kernel) rfl
theorem kf_X9_287 : Cond.fieldLink RX9 287 "RolledBack$State" "was" "[B" ∈ TB := tb_in 179 (by decide +kernel) rfl
theorem km_X9_290 : Cond.methodLink RX9 290 yX5_firstPlace ∈ TB := tb_in 1226 (by decide +kernel) rfl
theorem ko_X9_290 : okC RX9 290 yX5_firstPlace 1 := ⟨km_X9_290, kn_X5, by decide +kernel⟩
theorem kf_X9_293 : Cond.fieldLink RX9 293 "RolledBack$State" "puts" "[I" ∈ TB := tb_in 176 (by decide +kernel) rfl
theorem kc_X5_countNeeds : Cond.code yX5_countNeeds cX5_countNeeds 4 (some .int) ∈ TB := tb_in 1230 (by decide +kernel) rfl
theorem km_X9_296 : Cond.methodLink RX9 296 yX5_countNeeds ∈ TB := tb_in 1227 (by decide +kernel) rfl
theorem ko_X9_296 : okC RX9 296 yX5_countNeeds 1 := ⟨km_X9_296, kn_X5, by decide +kernel⟩
theorem ki_X5_countNeeds : Cond.instanceMethod yX5_countNeeds ∈ TB := tb_in 1228 (by decide +kernel) rfl
theorem ks_X5_countNeeds : Cond.selects RX5 yX5_countNeeds yX5_countNeeds ∈ TB := tb_in 1229 (by decide +kernel) rfl
theorem kf_X9_303 : Cond.fieldLink RX9 303 "RolledBack$Pen" "goes" "[Z" ∈ TB := tb_in 262 (by decide +kernel) rfl
theorem km_X9_299 : Cond.methodLink RX9 299 yX2_weigh ∈ TB := tb_in 1231 (by decide +kernel) rfl
theorem ko_X9_299 : okC RX9 299 yX2_weigh 2 := ⟨km_X9_299, kn_X2, by decide +kernel⟩
theorem km_X9_279 : Cond.methodLink RX9 279 yX9_testChange ∈ TB := tb_in 1215 (by decide +kernel) rfl
theorem ko_X9_279 : okC RX9 279 yX9_testChange 1 := ⟨km_X9_279, kn_X9, by decide +kernel⟩
theorem ki_X9_testChange : Cond.instanceMethod yX9_testChange ∈ TB := tb_in 1217 (by decide +kernel) rfl
theorem ks_X9_testChange : Cond.selects RX9 yX9_testChange yX9_testChange ∈ TB := tb_in 47 (by decide +kernel) rfl
theorem kf_X9_307 : Cond.fieldLink RX9 307 "RolledBack$Pen" "staying" "I" ∈ TB := tb_in 269 (by decide +kernel) rfl
theorem kf_X9_313 : Cond.fieldLink RX9 313 "RolledBack$Pen" "sheet" "[B" ∈ TB := tb_in 265 (by decide +kernel) rfl
theorem km_X9_310 : Cond.methodLink RX9 310 yX2_draft ∈ TB := tb_in 699 (by decide +kernel) rfl
theorem ko_X9_310 : okC RX9 310 yX2_draft 2 := ⟨km_X9_310, kn_X2, by decide +kernel⟩
theorem kc_X5_blocksNeededBy : Cond.code yX5_blocksNeededBy cX5_blocksNeededBy 6 (some .int) ∈ TB := tb_in 460 (by decide +kernel) rfl
theorem km_X9_316 : Cond.methodLink RX9 316 yX5_blocksNeededBy ∈ TB := tb_in 457 (by decide +kernel) rfl
theorem ko_X9_316 : okC RX9 316 yX5_blocksNeededBy 1 := ⟨km_X9_316, kn_X5, by decide +kernel⟩
theorem ki_X5_blocksNeededBy : Cond.instanceMethod yX5_blocksNeededBy ∈ TB := tb_in 458 (by decide +kernel) rfl
theorem ks_X5_blocksNeededBy : Cond.selects RX5 yX5_blocksNeededBy yX5_blocksNeededBy ∈ TB := tb_in 459 (by decide +kernel) rfl
theorem kc_X2_settleAll : Cond.code yX2_settleAll cX2_settleAll 4 (some .int) ∈ TB := tb_in 469 (by decide +kernel) rfl
theorem km_X9_322 : Cond.methodLink RX9 322 yX2_settleAll ∈ TB := tb_in 466 (by decide +kernel) rfl
theorem ko_X9_322 : okC RX9 322 yX2_settleAll 1 := ⟨km_X9_322, kn_X2, by decide +kernel⟩
theorem ki_X2_settleAll : Cond.instanceMethod yX2_settleAll ∈ TB := tb_in 467 (by decide +kernel) rfl
theorem ks_X2_settleAll : Cond.selects RX2 yX2_settleAll yX2_settleAll ∈ TB := tb_in 468 (by decide +kernel) rfl
theorem km_X9_319 : Cond.methodLink RX9 319 yX5_copyFrom ∈ TB := tb_in 465 (by decide +kernel) rfl
theorem ko_X9_319 : okC RX9 319 yX5_copyFrom 1 := ⟨km_X9_319, kn_X5, by decide +kernel⟩
theorem kc_J6_bitCount_0f7a4 : Cond.code yJ6_bitCount_0f7a4 cJ6_bitCount_0f7a4 1 (some .int) ∈ TB := tb_in 542 (by decide +kernel) rfl
theorem km_X9_326 : Cond.methodLink RX9 326 yJ6_bitCount_0f7a4 ∈ TB := tb_in 540 (by decide +kernel) rfl
theorem ko_X9_326 : okC RX9 326 yJ6_bitCount_0f7a4 1 := ⟨km_X9_326, kn_J6, by decide +kernel⟩
theorem kt_J6_bitCount_0f7a4 : Cond.static yJ6_bitCount_0f7a4 ∈ TB := tb_in 541 (by decide +kernel) rfl
theorem km_X9_331 : Cond.methodLink RX9 331 yX2_writeBlock ∈ TB := tb_in 546 (by decide +kernel) rfl
theorem ko_X9_331 : okC RX9 331 yX2_writeBlock 2 := ⟨km_X9_331, kn_X2, by decide +kernel⟩
theorem kc_X9_safeWithin : Cond.code yX9_safeWithin cX9_safeWithin 6 (some .boolean) ∈ TB := tb_in 535 (by decide +kernel) rfl
theorem km_X9_335 : Cond.methodLink RX9 335 yX9_safeWithin ∈ TB := tb_in 532 (by decide +kernel) rfl
theorem ko_X9_335 : okC RX9 335 yX9_safeWithin 2 := ⟨km_X9_335, kn_X9, by decide +kernel⟩
theorem ki_X9_safeWithin : Cond.instanceMethod yX9_safeWithin ∈ TB := tb_in 534 (by decide +kernel) rfl
theorem ks_X9_safeWithin : Cond.selects RX9 yX9_safeWithin yX9_safeWithin ∈ TB := tb_in 6 (by decide +kernel) rfl
theorem km_X9_339 : Cond.methodLink RX9 339 yX6_firstFound ∈ TB := tb_in 551 (by decide +kernel) rfl
theorem ko_X9_339 : okC RX9 339 yX6_firstFound 1 := ⟨km_X9_339, kn_X6, by decide +kernel⟩
theorem km_X9_342 : Cond.methodLink RX9 342 yX5_crash ∈ TB := tb_in 597 (by decide +kernel) rfl
theorem ko_X9_342 : okC RX9 342 yX5_crash 0 := ⟨km_X9_342, kn_X5, by decide +kernel⟩
theorem kc_X9_fittingBlocks : Cond.code yX9_fittingBlocks cX9_fittingBlocks 4 (some .int) ∈ TB := tb_in 698 (by decide +kernel) rfl
theorem km_X9_345 : Cond.methodLink RX9 345 yX9_fittingBlocks ∈ TB := tb_in 695 (by decide +kernel) rfl
theorem ko_X9_345 : okC RX9 345 yX9_fittingBlocks 0 := ⟨km_X9_345, kn_X9, by decide +kernel⟩
theorem ki_X9_fittingBlocks : Cond.instanceMethod yX9_fittingBlocks ∈ TB := tb_in 697 (by decide +kernel) rfl
theorem ks_X9_fittingBlocks : Cond.selects RX9 yX9_fittingBlocks yX9_fittingBlocks ∈ TB := tb_in 22 (by decide +kernel) rfl
theorem kc_X9_fitsBook : Cond.code yX9_fitsBook cX9_fitsBook 3 (some .boolean) ∈ TB := tb_in 704 (by decide +kernel) rfl
theorem km_X9_348 : Cond.methodLink RX9 348 yX9_fitsBook ∈ TB := tb_in 701 (by decide +kernel) rfl
theorem ko_X9_348 : okC RX9 348 yX9_fitsBook 1 := ⟨km_X9_348, kn_X9, by decide +kernel⟩
theorem ki_X9_fitsBook : Cond.instanceMethod yX9_fitsBook ∈ TB := tb_in 703 (by decide +kernel) rfl
theorem ks_X9_fitsBook : Cond.selects RX9 yX9_fitsBook yX9_fitsBook ∈ TB := tb_in 23 (by decide +kernel) rfl
theorem kc_X9_mostAlike : Cond.code yX9_mostAlike cX9_mostAlike 7 (some .int) ∈ TB := tb_in 1270 (by decide +kernel) rfl
theorem km_X9_352 : Cond.methodLink RX9 352 yX9_mostAlike ∈ TB := tb_in 1267 (by decide +kernel) rfl
theorem ko_X9_352 : okC RX9 352 yX9_mostAlike 2 := ⟨km_X9_352, kn_X9, by decide +kernel⟩
theorem ki_X9_mostAlike : Cond.instanceMethod yX9_mostAlike ∈ TB := tb_in 1269 (by decide +kernel) rfl
theorem ks_X9_mostAlike : Cond.selects RX9 yX9_mostAlike yX9_mostAlike ∈ TB := tb_in 48 (by decide +kernel) rfl
theorem km_X9_356 : Cond.methodLink RX9 356 Lib.Math.max.name ∈ TB := tb_in 1271 (by decide +kernel) rfl
theorem kc_X9_testRange : Cond.code yX9_testRange cX9_testRange 4 none ∈ TB := tb_in 1011 (by decide +kernel) rfl
theorem kc_X9_blow : Cond.code yX9_blow cX9_blow 7 (some (.object "RolledBack$State")) ∈ TB := tb_in 1309 (by decide +kernel) rfl
theorem km_X9_365 : Cond.methodLink RX9 365 yX9_blow ∈ TB := tb_in 1306 (by decide +kernel) rfl
theorem ko_X9_365 : okC RX9 365 yX9_blow 3 := ⟨km_X9_365, kn_X9, by decide +kernel⟩
theorem ki_X9_blow : Cond.instanceMethod yX9_blow ∈ TB := tb_in 1308 (by decide +kernel) rfl
theorem ks_X9_blow : Cond.selects RX9 yX9_blow yX9_blow ∈ TB := tb_in 49 (by decide +kernel) rfl
theorem km_X9_361 : Cond.methodLink RX9 361 yX9_testRange ∈ TB := tb_in 1008 (by decide +kernel) rfl
theorem ko_X9_361 : okC RX9 361 yX9_testRange 3 := ⟨km_X9_361, kn_X9, by decide +kernel⟩
theorem ki_X9_testRange : Cond.instanceMethod yX9_testRange ∈ TB := tb_in 1010 (by decide +kernel) rfl
theorem ks_X9_testRange : Cond.selects RX9 yX9_testRange yX9_testRange ∈ TB := tb_in 42 (by decide +kernel) rfl
theorem km_X9_369 : Cond.methodLink RX9 369 Lib.Math.min.name ∈ TB := tb_in 1349 (by decide +kernel) rfl
theorem kk_X9_372 : Cond.classLink RX9 372 RX7 ∈ TB := tb_in 1310 (by decide +kernel) rfl
theorem kb_X7 : Cond.instantiable RX7 4 ∈ TB := tb_in 1311 (by decide +kernel) rfl
theorem kc_X7_init : Cond.code yX7_init cX7_init 2 none ∈ TB := tb_in 1314 (by decide +kernel) rfl
theorem km_X9_374 : Cond.methodLink RX9 374 yX7_init ∈ TB := tb_in 1312 (by decide +kernel) rfl
theorem ko_X9_374 : okC RX9 374 yX7_init 1 := ⟨km_X9_374, kn_X7, by decide +kernel⟩
theorem ki_X7_init : Cond.instanceMethod yX7_init ∈ TB := tb_in 1313 (by decide +kernel) rfl
theorem kc_X7_drawStep : Cond.code yX7_drawStep cX7_drawStep 3 none ∈ TB := tb_in 1335 (by decide +kernel) rfl
theorem kf_X9_379 : Cond.fieldLink RX9 379 "RolledBack$Storm" "op" "I" ∈ TB := tb_in 1318 (by decide +kernel) rfl
theorem kf_X9_381 : Cond.fieldLink RX9 381 "RolledBack$Storm" "a" "I" ∈ TB := tb_in 1320 (by decide +kernel) rfl
theorem kf_X9_383 : Cond.fieldLink RX9 383 "RolledBack$Storm" "b" "I" ∈ TB := tb_in 1322 (by decide +kernel) rfl
theorem km_X9_385 : Cond.methodLink RX9 385 yX7_drawn ∈ TB := tb_in 1341 (by decide +kernel) rfl
theorem ko_X9_385 : okC RX9 385 yX7_drawn 1 := ⟨km_X9_385, kn_X7, by decide +kernel⟩
theorem km_X9_376 : Cond.methodLink RX9 376 yX7_drawStep ∈ TB := tb_in 1332 (by decide +kernel) rfl
theorem ko_X9_376 : okC RX9 376 yX7_drawStep 1 := ⟨km_X9_376, kn_X7, by decide +kernel⟩
theorem ki_X7_drawStep : Cond.instanceMethod yX7_drawStep ∈ TB := tb_in 1333 (by decide +kernel) rfl
theorem ks_X7_drawStep : Cond.selects RX7 yX7_drawStep yX7_drawStep ∈ TB := tb_in 1334 (by decide +kernel) rfl
theorem kf_X9_389 : Cond.fieldLink RX9 389 "RolledBack$Image" "then" "LRolledBack$State;" ∈ TB := tb_in 719 (by decide +kernel) rfl
theorem kf_X9_392 : Cond.fieldLink RX9 392 "RolledBack$Image" "works" "LRolledBack$History;" ∈ TB := tb_in 721 (by decide +kernel) rfl
theorem kc_X0_takeOver : Cond.code yX0_takeOver cX0_takeOver 3 none ∈ TB := tb_in 730 (by decide +kernel) rfl
theorem km_X9_393 : Cond.methodLink RX9 393 yX0_takeOver ∈ TB := tb_in 727 (by decide +kernel) rfl
theorem ko_X9_393 : okC RX9 393 yX0_takeOver 1 := ⟨km_X9_393, kn_X0, by decide +kernel⟩
theorem ki_X0_takeOver : Cond.instanceMethod yX0_takeOver ∈ TB := tb_in 728 (by decide +kernel) rfl
theorem ks_X0_takeOver : Cond.selects RX0 yX0_takeOver yX0_takeOver ∈ TB := tb_in 729 (by decide +kernel) rfl
theorem kb_X1 : Cond.instantiable RX1 2 ∈ TB := tb_in 709 (by decide +kernel) rfl
theorem kn_X1 : Cond.initialized RX1 ∈ TB := tb_in 127 (by decide +kernel) rfl
theorem kc_X1_init : Cond.code yX1_init cX1_init 1 none ∈ TB := tb_in 712 (by decide +kernel) rfl
theorem ki_X1_init : Cond.instanceMethod yX1_init ∈ TB := tb_in 711 (by decide +kernel) rfl
def mX0_init : MR := (yX0_init, cX0_init, 1, none, [])
def mX0_push : MR := (yX0_push, cX0_push, 2, none, [])
def mX0_pop : MR := (yX0_pop, cX0_pop, 2, none, [])
def mX0_takeOver : MR := (yX0_takeOver, cX0_takeOver, 3, none, [])
def mX0_keep : MR := (yX0_keep, cX0_keep, 3, none, [])
def mX1_init : MR := (yX1_init, cX1_init, 1, none, [])
def mX2_init : MR := (yX2_init, cX2_init, 1, none, [])
def mX2_weigh : MR := (yX2_weigh, cX2_weigh, 6, none, [])
def mX2_needsGo : MR := (yX2_needsGo, cX2_needsGo, 5, (some .boolean), [])
def mX2_draft : MR := (yX2_draft, cX2_draft, 6, none, [])
def mX2_writeBlock : MR := (yX2_writeBlock, cX2_writeBlock, 5, (some .boolean), [])
def mX2_closeRanks : MR := (yX2_closeRanks, cX2_closeRanks, 4, none, [])
def mX2_moveChange : MR := (yX2_moveChange, cX2_moveChange, 6, none, [])
def mX2_takeDue : MR := (yX2_takeDue, cX2_takeDue, 6, (some .int), [])
def mX2_syncAll : MR := (yX2_syncAll, cX2_syncAll, 4, (some .int), [])
def mX2_settleAll : MR := (yX2_settleAll, cX2_settleAll, 4, (some .int), [])
def mX3_init : MR := (yX3_init, cX3_init, 1, none, [])
def mX3_begin : MR := (yX3_begin, cX3_begin, 3, none, [])
def mX3_readStore : MR := (yX3_readStore, cX3_readStore, 6, (some .int), [])
def mX3_readWork : MR := (yX3_readWork, cX3_readWork, 4, (some .int), [])
def mX3_readStep : MR := (yX3_readStep, cX3_readStep, 3, none, [])
def mX3_readBook : MR := (yX3_readBook, cX3_readBook, 7, (some .int), [])
def mX3_blame : MR := (yX3_blame, cX3_blame, 3, none, [])
def mX3_atEnd : MR := (yX3_atEnd, cX3_atEnd, 1, (some .boolean), [])
def mX3_readSign : MR := (yX3_readSign, cX3_readSign, 2, none, [])
def mX3_readNumber : MR := (yX3_readNumber, cX3_readNumber, 5, (some .int), [])
def mX3_isDigit : MR := (yX3_isDigit, cX3_isDigit, 2, (some .boolean), [])
def mX3_readWord : MR := (yX3_readWord, cX3_readWord, 3, (some .int), [])
def mX3_isSpelled : MR := (yX3_isSpelled, cX3_isSpelled, 5, (some .boolean), [])
def mX3_readNumbers : MR := (yX3_readNumbers, cX3_readNumbers, 5, none, [])
def mX4_init : MR := (yX4_init, cX4_init, 1, none, [])
def mX4_clear : MR := (yX4_clear, cX4_clear, 1, none, [])
def mX4_add : MR := (yX4_add, cX4_add, 5, none, [])
def mX4_addEnd : MR := (yX4_addEnd, cX4_addEnd, 2, none, [])
def mX4_afterAgain : MR := (yX4_afterAgain, cX4_afterAgain, 2, (some .int), [])
def mX4_afterEnd : MR := (yX4_afterEnd, cX4_afterEnd, 3, (some .int), [])
def mX5_init : MR := (yX5_init, cX5_init, 1, none, [])
def mX5_begin : MR := (yX5_begin, cX5_begin, 3, none, [])
def mX5_allOnDisk : MR := (yX5_allOnDisk, cX5_allOnDisk, 1, none, [])
def mX5_forgetCounts : MR := (yX5_forgetCounts, cX5_forgetCounts, 1, none, [])
def mX5_crash : MR := (yX5_crash, cX5_crash, 1, none, [])
def mX5_copyFrom : MR := (yX5_copyFrom, cX5_copyFrom, 2, none, [])
def mX5_at : MR := (yX5_at, cX5_at, 4, (some .int), [])
def mX5_nodeField : MR := (yX5_nodeField, cX5_nodeField, 4, (some .int), [])
def mX5_isDirectory : MR := (yX5_isDirectory, cX5_isDirectory, 4, (some .boolean), [])
def mX5_putField : MR := (yX5_putField, cX5_putField, 4, (some .int), [])
def mX5_put : MR := (yX5_put, cX5_put, 9, (some .int), [])
def mX5_need : MR := (yX5_need, cX5_need, 4, none, [])
def mX5_needAllOf : MR := (yX5_needAllOf, cX5_needAllOf, 3, none, [])
def mX5_putOff : MR := (yX5_putOff, cX5_putOff, 3, none, [])
def mX5_setLinks : MR := (yX5_setLinks, cX5_setLinks, 7, none, [])
def mX5_doPutOff : MR := (yX5_doPutOff, cX5_doPutOff, 3, none, [])
def mX5_countPutOff : MR := (yX5_countPutOff, cX5_countPutOff, 4, (some .int), [])
def mX5_latestOf : MR := (yX5_latestOf, cX5_latestOf, 4, (some .int), [])
def mX5_dirtyBlocks : MR := (yX5_dirtyBlocks, cX5_dirtyBlocks, 3, (some .int), [])
def mX5_firstPlace : MR := (yX5_firstPlace, cX5_firstPlace, 2, (some .int), [])
def mX5_countNeeds : MR := (yX5_countNeeds, cX5_countNeeds, 4, (some .int), [])
def mX5_blocksNeededBy : MR := (yX5_blocksNeededBy, cX5_blocksNeededBy, 6, (some .int), [])
def mX6_init : MR := (yX6_init, cX6_init, 1, none, [])
def mX6_take : MR := (yX6_take, cX6_take, 6, (some .boolean), [])
def mX6_makeFile : MR := (yX6_makeFile, cX6_makeFile, 9, (some .boolean), [])
def mX6_makeDirectory : MR := (yX6_makeDirectory, cX6_makeDirectory, 11, (some .boolean), [])
def mX6_linkFile : MR := (yX6_linkFile, cX6_linkFile, 8, (some .boolean), [])
def mX6_entryFor : MR := (yX6_entryFor, cX6_entryFor, 4, (some .int), [])
def mX6_nameEntry : MR := (yX6_nameEntry, cX6_nameEntry, 10, (some .int), [])
def mX6_giveBlock : MR := (yX6_giveBlock, cX6_giveBlock, 9, (some .int), [])
def mX6_growNode : MR := (yX6_growNode, cX6_growNode, 8, (some .boolean), [])
def mX6_putInFile : MR := (yX6_putInFile, cX6_putInFile, 6, (some .boolean), [])
def mX6_cutFile : MR := (yX6_cutFile, cX6_cutFile, 5, (some .boolean), [])
def mX6_dropEntry : MR := (yX6_dropEntry, cX6_dropEntry, 6, (some .boolean), [])
def mX6_sweepOne : MR := (yX6_sweepOne, cX6_sweepOne, 3, (some .boolean), [])
def mX6_firstFound : MR := (yX6_firstFound, cX6_firstFound, 5, (some .int), [])
def mX6_linksDue : MR := (yX6_linksDue, cX6_linksDue, 6, (some .int), [])
def mX6_isFile : MR := (yX6_isFile, cX6_isFile, 3, (some .boolean), [])
def mX6_freeNode : MR := (yX6_freeNode, cX6_freeNode, 3, (some .int), [])
def mX6_freeBlock : MR := (yX6_freeBlock, cX6_freeBlock, 3, (some .int), [])
def mX7_init : MR := (yX7_init, cX7_init, 2, none, [])
def mX7_drawn : MR := (yX7_drawn, cX7_drawn, 2, (some .int), [])
def mX7_drawStep : MR := (yX7_drawStep, cX7_drawStep, 3, none, [])
def mX8_entryNamed : MR := (yX8_entryNamed, cX8_entryNamed, 7, (some .int), [])
def mX8_nodeOfEntry : MR := (yX8_nodeOfEntry, cX8_nodeOfEntry, 3, (some .int), [])
def mX8_freeEntries : MR := (yX8_freeEntries, cX8_freeEntries, 7, (some .int), [])
def mX8_timesNamed : MR := (yX8_timesNamed, cX8_timesNamed, 8, (some .int), [])
def mX8_namedNodes : MR := (yX8_namedNodes, cX8_namedNodes, 7, (some .int), [])
def mX8_reachedNodes : MR := (yX8_reachedNodes, cX8_reachedNodes, 7, (some .int), [])
def mX8_linkedNodes : MR := (yX8_linkedNodes, cX8_linkedNodes, 4, (some .int), [])
def mX8_usedBlocks : MR := (yX8_usedBlocks, cX8_usedBlocks, 4, (some .int), [])
def mX8_pointedBlocks : MR := (yX8_pointedBlocks, cX8_pointedBlocks, 5, (some .int), [])
def mX8_leakedBlocks : MR := (yX8_leakedBlocks, cX8_leakedBlocks, 3, (some .int), [])
def mX8_brokenEntries : MR := (yX8_brokenEntries, cX8_brokenEntries, 7, (some .int), [])
def mX8_brokenPointers : MR := (yX8_brokenPointers, cX8_brokenPointers, 8, (some .int), [])
def mX8_ownerOf : MR := (yX8_ownerOf, cX8_ownerOf, 4, (some .int), [])
def mX8_countUnder : MR := (yX8_countUnder, cX8_countUnder, 7, (some .int), [])
def mX8_depthOf : MR := (yX8_depthOf, cX8_depthOf, 7, (some .int), [])
def mX8_namedAt : MR := (yX8_namedAt, cX8_namedAt, 6, (some .int), [])
def mX9_init : MR := (yX9_init, cX9_init, 2, none, [])
def mX9_feed : MR := (yX9_feed, cX9_feed, 6, (some .int), [])
def mX9_feedNumber : MR := (yX9_feedNumber, cX9_feedNumber, 3, none, [])
def mX9_store : MR := (yX9_store, cX9_store, 3, (some .int), [])
def mX9_buildStore : MR := (yX9_buildStore, cX9_buildStore, 3, none, [])
def mX9_clearBook : MR := (yX9_clearBook, cX9_clearBook, 2, none, [])
def mX9_work : MR := (yX9_work, cX9_work, 3, (some .int), [])
def mX9_runScript : MR := (yX9_runScript, cX9_runScript, 7, (some .int), [])
def mX9_book : MR := (yX9_book, cX9_book, 3, (some .int), [])
def mX9_testLength : MR := (yX9_testLength, cX9_testLength, 3, none, [])
def mX9_textRead : MR := (yX9_textRead, cX9_textRead, 2, none, [])
def mX9_fault : MR := (yX9_fault, cX9_fault, 1, (some .int), [])
def mX9_undo : MR := (yX9_undo, cX9_undo, 1, (some .int), [])
def mX9_told : MR := (yX9_told, cX9_told, 2, (some .int), [])
def mX9_peek : MR := (yX9_peek, cX9_peek, 4, (some .int), [])
def mX9_node : MR := (yX9_node, cX9_node, 4, (some .int), [])
def mX9_find : MR := (yX9_find, cX9_find, 5, (some .int), [])
def mX9_used : MR := (yX9_used, cX9_used, 2, (some .int), [])
def mX9_leaks : MR := (yX9_leaks, cX9_leaks, 2, (some .int), [])
def mX9_lost : MR := (yX9_lost, cX9_lost, 2, (some .int), [])
def mX9_broken : MR := (yX9_broken, cX9_broken, 2, (some .int), [])
def mX9_under : MR := (yX9_under, cX9_under, 3, (some .int), [])
def mX9_deep : MR := (yX9_deep, cX9_deep, 3, (some .int), [])
def mX9_room : MR := (yX9_room, cX9_room, 2, (some .int), [])
def mX9_owner : MR := (yX9_owner, cX9_owner, 3, (some .int), [])
def mX9_unlike : MR := (yX9_unlike, cX9_unlike, 4, (some .int), [])
def mX9_change : MR := (yX9_change, cX9_change, 3, (some .int), [])
def mX9_held : MR := (yX9_held, cX9_held, 2, (some .int), [])
def mX9_copy : MR := (yX9_copy, cX9_copy, 3, (some .int), [])
def mX9_waits : MR := (yX9_waits, cX9_waits, 2, (some .int), [])
def mX9_rings : MR := (yX9_rings, cX9_rings, 5, (some .int), [])
def mX9_settle : MR := (yX9_settle, cX9_settle, 3, (some .int), [])
def mX9_spill : MR := (yX9_spill, cX9_spill, 9, (some .int), [])
def mX9_fewest : MR := (yX9_fewest, cX9_fewest, 2, (some .int), [])
def mX9_safeWithin : MR := (yX9_safeWithin, cX9_safeWithin, 6, (some .boolean), [])
def mX9_finds : MR := (yX9_finds, cX9_finds, 1, (some .int), [])
def mX9_sweeps : MR := (yX9_sweeps, cX9_sweeps, 4, (some .int), [])
def mX9_fits : MR := (yX9_fits, cX9_fits, 1, (some .int), [])
def mX9_fittingBlocks : MR := (yX9_fittingBlocks, cX9_fittingBlocks, 4, (some .int), [])
def mX9_fitsBook : MR := (yX9_fitsBook, cX9_fitsBook, 3, (some .boolean), [])
def mX9_look : MR := (yX9_look, cX9_look, 7, (some .int), [])
def mX9_mostAlike : MR := (yX9_mostAlike, cX9_mostAlike, 7, (some .int), [])
def mX9_storm : MR := (yX9_storm, cX9_storm, 6, (some .int), [])
def mX9_span : MR := (yX9_span, cX9_span, 13, (some .int), [])
def mX9_blow : MR := (yX9_blow, cX9_blow, 7, (some (.object "RolledBack$State")), [])
def mX9_image : MR := (yX9_image, cX9_image, 1, (some .int), [])
def mX9_restore : MR := (yX9_restore, cX9_restore, 1, (some .int), [])
def mX9_status : MR := (yX9_status, cX9_status, 2, (some .int), [])
def mX9_count : MR := (yX9_count, cX9_count, 2, (some .int), [])
def mX9_testWhat : MR := (yX9_testWhat, cX9_testWhat, 3, none, [])
def mX9_testWhere : MR := (yX9_testWhere, cX9_testWhere, 2, none, [])
def mX9_testRange : MR := (yX9_testRange, cX9_testRange, 4, none, [])
def mX9_testNode : MR := (yX9_testNode, cX9_testNode, 2, none, [])
def mX9_testBlock : MR := (yX9_testBlock, cX9_testBlock, 2, none, [])
def mX9_testPlace : MR := (yX9_testPlace, cX9_testPlace, 2, none, [])
def mX9_testChange : MR := (yX9_testChange, cX9_testChange, 2, none, [])
def mX10_init : MR := (yX10_init, cX10_init, 1, none, [])
def mX10_thrown : MR := (yX10_thrown, cX10_thrown, 1, (some .int), [])
def mX10_bad : MR := (yX10_bad, cX10_bad, 4, (some .boolean), [])
def mX10_in : MR := (yX10_in, cX10_in, 3, (some .boolean), [])
def mX10_less : MR := (yX10_less, cX10_less, 2, (some .int), [])
def mX10_more : MR := (yX10_more, cX10_more, 2, (some .int), [])
def mX10_has : MR := (yX10_has, cX10_has, 2, (some .boolean), [])
def mX10_feed : MR := (yX10_feed, cX10_feed, 8, (some .int), [])
def mX10_byteAt : MR := (yX10_byteAt, cX10_byteAt, 2, (some .int), [])
def mX10_blanks : MR := (yX10_blanks, cX10_blanks, 1, none, [])
def mX10_wrong : MR := (yX10_wrong, cX10_wrong, 3, none, [])
def mX10_isDigit : MR := (yX10_isDigit, cX10_isDigit, 1, (some .boolean), [])
def mX10_isSmall : MR := (yX10_isSmall, cX10_isSmall, 1, (some .boolean), [])
def mX10_number : MR := (yX10_number, cX10_number, 5, (some .int), [])
def mX10_wordHere : MR := (yX10_wordHere, cX10_wordHere, 3, (some .int), [])
def mX10_six : MR := (yX10_six, cX10_six, 7, (some .int), [])
def mX10_isWord : MR := (yX10_isWord, cX10_isWord, 7, (some .boolean), [])
def mX10_skipWord : MR := (yX10_skipWord, cX10_skipWord, 1, none, [])
def mX10_sign : MR := (yX10_sign, cX10_sign, 2, none, [])
def mX10_starts : MR := (yX10_starts, cX10_starts, 2, none, [])
def mX10_ends : MR := (yX10_ends, cX10_ends, 1, (some .int), [])
def mX10_stepHere : MR := (yX10_stepHere, cX10_stepHere, 1, (some .int), [])
def mX10_numbers : MR := (yX10_numbers, cX10_numbers, 3, none, [])
def mX10_again : MR := (yX10_again, cX10_again, 2, none, [])
def mX10_readsStep : MR := (yX10_readsStep, cX10_readsStep, 3, none, [])
def mX10_clause : MR := (yX10_clause, cX10_clause, 3, none, [])
def mX10_store : MR := (yX10_store, cX10_store, 2, (some .int), [])
def mX10_copies : MR := (yX10_copies, cX10_copies, 3, none, [])
def mX10_safe : MR := (yX10_safe, cX10_safe, 2, none, [])
def mX10_beginsAnew : MR := (yX10_beginsAnew, cX10_beginsAnew, 2, none, [])
def mX10_book : MR := (yX10_book, cX10_book, 7, (some .int), [])
def mX10_fault : MR := (yX10_fault, cX10_fault, 1, (some .int), [])
def mX10_byteOf : MR := (yX10_byteOf, cX10_byteOf, 2, (some .int), [])
def mX10_fieldOf : MR := (yX10_fieldOf, cX10_fieldOf, 4, (some .int), [])
def mX10_cell : MR := (yX10_cell, cX10_cell, 1, (some .int), [])
def mX10_wasAt : MR := (yX10_wasAt, cX10_wasAt, 3, (some .int), [])
def mX10_puts : MR := (yX10_puts, cX10_puts, 3, (some .boolean), [])
def mX10_isThere : MR := (yX10_isThere, cX10_isThere, 6, (some .boolean), [])
def mX10_makes : MR := (yX10_makes, cX10_makes, 11, (some .int), [])
def mX10_bare : MR := (yX10_bare, cX10_bare, 4, (some .int), [])
def mX10_field : MR := (yX10_field, cX10_field, 6, (some .int), [])
def mX10_putsOff : MR := (yX10_putsOff, cX10_putsOff, 5, none, [])
def mX10_which : MR := (yX10_which, cX10_which, 3, (some .int), [])
def mX10_isDirty : MR := (yX10_isDirty, cX10_isDirty, 3, (some .boolean), [])
def mX10_dirty : MR := (yX10_dirty, cX10_dirty, 4, (some .int), [])
def mX10_ahead : MR := (yX10_ahead, cX10_ahead, 5, (some .int), [])
def mX10_mayGo : MR := (yX10_mayGo, cX10_mayGo, 6, (some .boolean), [])
def mX10_copiesBlock : MR := (yX10_copiesBlock, cX10_copiesBlock, 7, (some .int), [])
def mX10_leavesOut : MR := (yX10_leavesOut, cX10_leavesOut, 5, none, [])
def mX10_isGone : MR := (yX10_isGone, cX10_isGone, 3, (some .boolean), [])
def mX10_lessens : MR := (yX10_lessens, cX10_lessens, 3, none, [])
def mX10_empties : MR := (yX10_empties, cX10_empties, 4, none, [])
def mX10_doesLater : MR := (yX10_doesLater, cX10_doesLater, 7, none, [])
def mX10_writes : MR := (yX10_writes, cX10_writes, 4, (some .boolean), [])
def mX10_syncs : MR := (yX10_syncs, cX10_syncs, 4, (some .boolean), [])
def mX10_isKind : MR := (yX10_isKind, cX10_isKind, 4, (some .boolean), [])
def mX10_entryOf : MR := (yX10_entryOf, cX10_entryOf, 8, (some .int), [])
def mX10_entry : MR := (yX10_entry, cX10_entry, 5, (some .int), [])
def mX10_isNewName : MR := (yX10_isNewName, cX10_isNewName, 4, (some .boolean), [])
def mX10_isFull : MR := (yX10_isFull, cX10_isFull, 1, (some .boolean), [])
def mX10_freeNode : MR := (yX10_freeNode, cX10_freeNode, 2, (some .int), [])
def mX10_freeBlock : MR := (yX10_freeBlock, cX10_freeBlock, 3, (some .int), [])
def mX10_latest : MR := (yX10_latest, cX10_latest, 5, (some .int), [])
def mX10_names : MR := (yX10_names, cX10_names, 10, none, [])
def mX10_begins : MR := (yX10_begins, cX10_begins, 11, (some .boolean), [])
def mX10_gets : MR := (yX10_gets, cX10_gets, 7, (some .int), [])
def mX10_links : MR := (yX10_links, cX10_links, 8, (some .boolean), [])
def mX10_grows : MR := (yX10_grows, cX10_grows, 6, (some .boolean), [])
def mX10_setsByte : MR := (yX10_setsByte, cX10_setsByte, 5, (some .boolean), [])
def mX10_cuts : MR := (yX10_cuts, cX10_cuts, 4, (some .boolean), [])
def mX10_hasNames : MR := (yX10_hasNames, cX10_hasNames, 4, (some .boolean), [])
def mX10_drops : MR := (yX10_drops, cX10_drops, 5, (some .boolean), [])
def mX10_reached : MR := (yX10_reached, cX10_reached, 7, (some .int), [])
def mX10_named : MR := (yX10_named, cX10_named, 8, (some .int), [])
def mX10_later : MR := (yX10_later, cX10_later, 5, (some .int), [])
def mX10_pointer : MR := (yX10_pointer, cX10_pointer, 5, (some .int), [])
def mX10_linked : MR := (yX10_linked, cX10_linked, 4, (some .int), [])
def mX10_leaking : MR := (yX10_leaking, cX10_leaking, 6, (some .int), [])
def mX10_ones : MR := (yX10_ones, cX10_ones, 3, (some .int), [])
def mX10_sweepAt : MR := (yX10_sweepAt, cX10_sweepAt, 3, (some .int), [])
def mX10_sweepsOne : MR := (yX10_sweepsOne, cX10_sweepsOne, 4, (some .boolean), [])
def mX10_crashes : MR := (yX10_crashes, cX10_crashes, 2, (some .boolean), [])
def mX10_does : MR := (yX10_does, cX10_does, 6, (some .boolean), [])
def mX10_goes : MR := (yX10_goes, cX10_goes, 5, none, [])
def mX10_work : MR := (yX10_work, cX10_work, 2, (some .int), [])
def mX10_undo : MR := (yX10_undo, cX10_undo, 1, (some .int), [])
def mX10_told : MR := (yX10_told, cX10_told, 2, (some .int), [])
def mX10_isWhere : MR := (yX10_isWhere, cX10_isWhere, 1, (some .boolean), [])
def mX10_whereOf : MR := (yX10_whereOf, cX10_whereOf, 1, (some .int), [])
def mX10_isBlock : MR := (yX10_isBlock, cX10_isBlock, 2, (some .boolean), [])
def mX10_isNode : MR := (yX10_isNode, cX10_isNode, 1, (some .boolean), [])
def mX10_peek : MR := (yX10_peek, cX10_peek, 4, (some .int), [])
def mX10_node : MR := (yX10_node, cX10_node, 4, (some .int), [])
def mX10_find : MR := (yX10_find, cX10_find, 5, (some .int), [])
def mX10_used : MR := (yX10_used, cX10_used, 4, (some .int), [])
def mX10_leaks : MR := (yX10_leaks, cX10_leaks, 2, (some .int), [])
def mX10_lost : MR := (yX10_lost, cX10_lost, 2, (some .int), [])
def mX10_brokenOf : MR := (yX10_brokenOf, cX10_brokenOf, 10, (some .int), [])
def mX10_broken : MR := (yX10_broken, cX10_broken, 2, (some .int), [])
def mX10_underOf : MR := (yX10_underOf, cX10_underOf, 6, (some .int), [])
def mX10_under : MR := (yX10_under, cX10_under, 3, (some .int), [])
def mX10_deepOf : MR := (yX10_deepOf, cX10_deepOf, 6, (some .int), [])
def mX10_deep : MR := (yX10_deep, cX10_deep, 3, (some .int), [])
def mX10_change : MR := (yX10_change, cX10_change, 6, (some .int), [])
def mX10_held : MR := (yX10_held, cX10_held, 2, (some .int), [])
def mX10_copy : MR := (yX10_copy, cX10_copy, 3, (some .int), [])
def mX10_waitsFor : MR := (yX10_waitsFor, cX10_waitsFor, 7, (some .int), [])
def mX10_waits : MR := (yX10_waits, cX10_waits, 2, (some .int), [])
def mX10_rings : MR := (yX10_rings, cX10_rings, 4, (some .int), [])
def mX10_spills : MR := (yX10_spills, cX10_spills, 4, none, [])
def mX10_settles : MR := (yX10_settles, cX10_settles, 4, (some .int), [])
def mX10_settle : MR := (yX10_settle, cX10_settle, 1, (some .int), [])
def mX10_spill : MR := (yX10_spill, cX10_spill, 2, (some .int), [])
def mX10_isSafeBy : MR := (yX10_isSafeBy, cX10_isSafeBy, 5, (some .boolean), [])
def mX10_fewest : MR := (yX10_fewest, cX10_fewest, 2, (some .int), [])
def mX10_finds : MR := (yX10_finds, cX10_finds, 1, (some .int), [])
def mX10_sweeps : MR := (yX10_sweeps, cX10_sweeps, 2, (some .int), [])
def mX10_isSo : MR := (yX10_isSo, cX10_isSo, 3, (some .boolean), [])
def mX10_fitsNow : MR := (yX10_fitsNow, cX10_fitsNow, 3, (some .int), [])
def mX10_fits : MR := (yX10_fits, cX10_fits, 1, (some .int), [])
def mX10_isTold : MR := (yX10_isTold, cX10_isTold, 3, (some .boolean), [])
def mX10_worstAt : MR := (yX10_worstAt, cX10_worstAt, 5, (some .int), [])
def mX10_look : MR := (yX10_look, cX10_look, 7, (some .int), [])
def mX10_room : MR := (yX10_room, cX10_room, 4, (some .int), [])
def mX10_owner : MR := (yX10_owner, cX10_owner, 3, (some .int), [])
def mX10_unlike : MR := (yX10_unlike, cX10_unlike, 4, (some .int), [])
def mX10_draw : MR := (yX10_draw, cX10_draw, 2, (some .int), [])
def mX10_stormBy : MR := (yX10_stormBy, cX10_stormBy, 6, none, [])
def mX10_isStorm : MR := (yX10_isStorm, cX10_isStorm, 2, (some .boolean), [])
def mX10_storm : MR := (yX10_storm, cX10_storm, 5, (some .int), [])
def mX10_span : MR := (yX10_span, cX10_span, 12, (some .int), [])
def mX10_lays : MR := (yX10_lays, cX10_lays, 4, (some .int), [])
def mX10_putsAll : MR := (yX10_putsAll, cX10_putsAll, 5, none, [])
def mX10_image : MR := (yX10_image, cX10_image, 1, (some .int), [])
def mX10_restore : MR := (yX10_restore, cX10_restore, 1, (some .int), [])
def mX10_status : MR := (yX10_status, cX10_status, 2, (some .int), [])
def mX10_count : MR := (yX10_count, cX10_count, 2, (some .int), [])
def mJ6_numberOfTrailingZeros_0f7a4 : MR := (yJ6_numberOfTrailingZeros_0f7a4, cJ6_numberOfTrailingZeros_0f7a4, 2, (some .int), [])
def mJ6_bitCount_0f7a4 : MR := (yJ6_bitCount_0f7a4, cJ6_bitCount_0f7a4, 1, (some .int), [])
theorem cat_all {as : List Value} (h : (as.all fun v => v.category == 1) = true) : ∀ v ∈ as, v.category = 1 := fun v hv => by simpa using List.all_eq_true.mp h v hv
theorem sw_out {x : Int32} {n : Nat} (hn : n < 1000) (h : ∀ k, k ≤ n → ¬ x = nI k) : x.toInt < 0 ∨ (n : Int) < x.toInt := by
  by_cases h0 : x < 0
  · exact Or.inl (by simpa using Int32.lt_iff_toInt_lt.mp h0)
  · obtain ⟨j, hj, rfl⟩ := nI_of h0
    refine Or.inr ?_
    rw [nI_toInt hj]
    rcases Nat.lt_or_ge n j with q | q
    · omega
    · exact absurd rfl (h j q)
end
section
/-! ===== a few rows more ===== -/
theorem lt_l {a b : Nat} (h : Nat.ble (a + 1) b = true) : a < b := Nat.le_of_ble_eq_true h
theorem le_l {a b : Nat} (h : Nat.ble a b = true) : a ≤ b := Nat.le_of_ble_eq_true h
section VX
variable {G : GG} {M M1 : MR} {d d1 pc pc' : Nat} {loc loc' st st' : List Value} {h h1 : Hp} {o : OU} {h' : Hp}
theorem v_ldc_w {index : Nat} {v : Int32} (hd : decode M.2.1 pc = .ok (.ldc_w index, 3)) (hp : pc + 3 = pc') (hw : Cond.constant M.1.cls index v ∈ TB) (k : V G M d pc' loc (.int v :: st) h o h') : V G M d pc loc st h o h' := by
  subst hp
  exact V.row (fun p l e R s m args below meth c H locs ls cells slots Q cx lr k => lv_ldcw cx.ex cx.by cx.ow (cx.ts _ hw) hd k) k
theorem v_i2c {x : Int32} (hd : decode M.2.1 pc = .ok (.i2c, 1)) (hp : pc + 1 = pc') (k : V G M d pc' loc (.int (x.toUInt32 % 65536).toInt32 :: st) h o h') : V G M d pc loc (.int x :: st) h o h' := by
  subst hp
  exact V.row (fun p l e R s m args below meth c H locs ls cells slots Q cx lr k => lv_i2c cx.ex cx.by hd rfl k) k
theorem v_aret {q : Nat} {C : String} (hd : decode M.2.1 pc = .ok (.areturn, 1)) (hr : M.2.2.2.1 = some (.object C)) (k : o = .inl (some (.ref q)) ∧ h' = h) : V G M d pc loc [.ref q] h o h' := by
  obtain ⟨rfl, rfl⟩ := k
  refine ⟨⟨Nat.le_refl _, Nat.le_refl _⟩, fun p l e R s m args below meth c H locs ls cells slots mc ms cx wr lr ll hl h1 h2 h3 h4 => ?_⟩
  have hlk := cx.lk
  refine vx_ret (W.widen (k := mc) (n := ms) (by omega) (by omega) ?_)
  refine W.aret cx.ex cx.by (cx.rt.trans hr) (Or.inl ⟨_, rfl⟩) ?_ (fun t ht hW => ⟨⟨some (.ref q), rfl, rfl⟩, by rw [ht]; exact WH.of wr hW.alike⟩) hl hd
  by_cases e0 : q = 0
  · subst e0; exact Or.inl rfl
  · exact Or.inr ⟨_, trV_ref G e0⟩
end VX
end
section
/-! ===== more words and constants ===== -/
end
section
theorem dJ6_numberOfTrailingZeros_0f7a4_0 : decode cJ6_numberOfTrailingZeros_0f7a4 0 = .ok (.iload_n 0, 1) := by decide +kernel
theorem dJ6_numberOfTrailingZeros_0f7a4_1 : decode cJ6_numberOfTrailingZeros_0f7a4 1 = .ok (.iconst (-1), 1) := by decide +kernel
theorem dJ6_numberOfTrailingZeros_0f7a4_2 : decode cJ6_numberOfTrailingZeros_0f7a4 2 = .ok (.ixor, 1) := by decide +kernel
theorem dJ6_numberOfTrailingZeros_0f7a4_3 : decode cJ6_numberOfTrailingZeros_0f7a4 3 = .ok (.iload_n 0, 1) := by decide +kernel
theorem dJ6_numberOfTrailingZeros_0f7a4_4 : decode cJ6_numberOfTrailingZeros_0f7a4 4 = .ok (.iconst 1, 1) := by decide +kernel
theorem dJ6_numberOfTrailingZeros_0f7a4_5 : decode cJ6_numberOfTrailingZeros_0f7a4 5 = .ok (.isub, 1) := by decide +kernel
theorem dJ6_numberOfTrailingZeros_0f7a4_6 : decode cJ6_numberOfTrailingZeros_0f7a4 6 = .ok (.iand, 1) := by decide +kernel
theorem dJ6_numberOfTrailingZeros_0f7a4_7 : decode cJ6_numberOfTrailingZeros_0f7a4 7 = .ok (.istore_n 0, 1) := by decide +kernel
theorem dJ6_numberOfTrailingZeros_0f7a4_8 : decode cJ6_numberOfTrailingZeros_0f7a4 8 = .ok (.iload_n 0, 1) := by decide +kernel
theorem dJ6_numberOfTrailingZeros_0f7a4_9 : decode cJ6_numberOfTrailingZeros_0f7a4 9 = .ok (.ifCond .gt 8, 3) := by decide +kernel
theorem dJ6_numberOfTrailingZeros_0f7a4_12 : decode cJ6_numberOfTrailingZeros_0f7a4 12 = .ok (.iload_n 0, 1) := by decide +kernel
theorem dJ6_numberOfTrailingZeros_0f7a4_13 : decode cJ6_numberOfTrailingZeros_0f7a4 13 = .ok (.bipush 32, 2) := by decide +kernel
theorem dJ6_numberOfTrailingZeros_0f7a4_15 : decode cJ6_numberOfTrailingZeros_0f7a4 15 = .ok (.iand, 1) := by decide +kernel
theorem dJ6_numberOfTrailingZeros_0f7a4_16 : decode cJ6_numberOfTrailingZeros_0f7a4 16 = .ok (.ireturn, 1) := by decide +kernel
theorem dJ6_numberOfTrailingZeros_0f7a4_17 : decode cJ6_numberOfTrailingZeros_0f7a4 17 = .ok (.iconst 1, 1) := by decide +kernel
theorem dJ6_numberOfTrailingZeros_0f7a4_18 : decode cJ6_numberOfTrailingZeros_0f7a4 18 = .ok (.istore_n 1, 1) := by decide +kernel
theorem dJ6_numberOfTrailingZeros_0f7a4_19 : decode cJ6_numberOfTrailingZeros_0f7a4 19 = .ok (.iload_n 0, 1) := by decide +kernel
theorem dJ6_numberOfTrailingZeros_0f7a4_20 : decode cJ6_numberOfTrailingZeros_0f7a4 20 = .ok (.ldc_w 264, 3) := by decide +kernel
theorem dJ6_numberOfTrailingZeros_0f7a4_23 : decode cJ6_numberOfTrailingZeros_0f7a4 23 = .ok (.if_icmp .le 11, 3) := by decide +kernel
theorem dJ6_numberOfTrailingZeros_0f7a4_26 : decode cJ6_numberOfTrailingZeros_0f7a4 26 = .ok (.iinc 1 16, 3) := by decide +kernel
theorem dJ6_numberOfTrailingZeros_0f7a4_29 : decode cJ6_numberOfTrailingZeros_0f7a4 29 = .ok (.iload_n 0, 1) := by decide +kernel
theorem dJ6_numberOfTrailingZeros_0f7a4_30 : decode cJ6_numberOfTrailingZeros_0f7a4 30 = .ok (.bipush 16, 2) := by decide +kernel
theorem dJ6_numberOfTrailingZeros_0f7a4_32 : decode cJ6_numberOfTrailingZeros_0f7a4 32 = .ok (.iushr, 1) := by decide +kernel
theorem dJ6_numberOfTrailingZeros_0f7a4_33 : decode cJ6_numberOfTrailingZeros_0f7a4 33 = .ok (.istore_n 0, 1) := by decide +kernel
theorem dJ6_numberOfTrailingZeros_0f7a4_34 : decode cJ6_numberOfTrailingZeros_0f7a4 34 = .ok (.iload_n 0, 1) := by decide +kernel
theorem dJ6_numberOfTrailingZeros_0f7a4_35 : decode cJ6_numberOfTrailingZeros_0f7a4 35 = .ok (.sipush 256, 3) := by decide +kernel
theorem dJ6_numberOfTrailingZeros_0f7a4_38 : decode cJ6_numberOfTrailingZeros_0f7a4 38 = .ok (.if_icmp .le 11, 3) := by decide +kernel
theorem dJ6_numberOfTrailingZeros_0f7a4_41 : decode cJ6_numberOfTrailingZeros_0f7a4 41 = .ok (.iinc 1 8, 3) := by decide +kernel
theorem dJ6_numberOfTrailingZeros_0f7a4_44 : decode cJ6_numberOfTrailingZeros_0f7a4 44 = .ok (.iload_n 0, 1) := by decide +kernel
theorem dJ6_numberOfTrailingZeros_0f7a4_45 : decode cJ6_numberOfTrailingZeros_0f7a4 45 = .ok (.bipush 8, 2) := by decide +kernel
theorem dJ6_numberOfTrailingZeros_0f7a4_47 : decode cJ6_numberOfTrailingZeros_0f7a4 47 = .ok (.iushr, 1) := by decide +kernel
theorem dJ6_numberOfTrailingZeros_0f7a4_48 : decode cJ6_numberOfTrailingZeros_0f7a4 48 = .ok (.istore_n 0, 1) := by decide +kernel
theorem dJ6_numberOfTrailingZeros_0f7a4_49 : decode cJ6_numberOfTrailingZeros_0f7a4 49 = .ok (.iload_n 0, 1) := by decide +kernel
theorem dJ6_numberOfTrailingZeros_0f7a4_50 : decode cJ6_numberOfTrailingZeros_0f7a4 50 = .ok (.bipush 16, 2) := by decide +kernel
theorem dJ6_numberOfTrailingZeros_0f7a4_52 : decode cJ6_numberOfTrailingZeros_0f7a4 52 = .ok (.if_icmp .le 10, 3) := by decide +kernel
theorem dJ6_numberOfTrailingZeros_0f7a4_55 : decode cJ6_numberOfTrailingZeros_0f7a4 55 = .ok (.iinc 1 4, 3) := by decide +kernel
theorem dJ6_numberOfTrailingZeros_0f7a4_58 : decode cJ6_numberOfTrailingZeros_0f7a4 58 = .ok (.iload_n 0, 1) := by decide +kernel
theorem dJ6_numberOfTrailingZeros_0f7a4_59 : decode cJ6_numberOfTrailingZeros_0f7a4 59 = .ok (.iconst 4, 1) := by decide +kernel
theorem dJ6_numberOfTrailingZeros_0f7a4_60 : decode cJ6_numberOfTrailingZeros_0f7a4 60 = .ok (.iushr, 1) := by decide +kernel
theorem dJ6_numberOfTrailingZeros_0f7a4_61 : decode cJ6_numberOfTrailingZeros_0f7a4 61 = .ok (.istore_n 0, 1) := by decide +kernel
theorem dJ6_numberOfTrailingZeros_0f7a4_62 : decode cJ6_numberOfTrailingZeros_0f7a4 62 = .ok (.iload_n 0, 1) := by decide +kernel
theorem dJ6_numberOfTrailingZeros_0f7a4_63 : decode cJ6_numberOfTrailingZeros_0f7a4 63 = .ok (.iconst 4, 1) := by decide +kernel
theorem dJ6_numberOfTrailingZeros_0f7a4_64 : decode cJ6_numberOfTrailingZeros_0f7a4 64 = .ok (.if_icmp .le 10, 3) := by decide +kernel
theorem dJ6_numberOfTrailingZeros_0f7a4_67 : decode cJ6_numberOfTrailingZeros_0f7a4 67 = .ok (.iinc 1 2, 3) := by decide +kernel
theorem dJ6_numberOfTrailingZeros_0f7a4_70 : decode cJ6_numberOfTrailingZeros_0f7a4 70 = .ok (.iload_n 0, 1) := by decide +kernel
theorem dJ6_numberOfTrailingZeros_0f7a4_71 : decode cJ6_numberOfTrailingZeros_0f7a4 71 = .ok (.iconst 2, 1) := by decide +kernel
theorem dJ6_numberOfTrailingZeros_0f7a4_72 : decode cJ6_numberOfTrailingZeros_0f7a4 72 = .ok (.iushr, 1) := by decide +kernel
theorem dJ6_numberOfTrailingZeros_0f7a4_73 : decode cJ6_numberOfTrailingZeros_0f7a4 73 = .ok (.istore_n 0, 1) := by decide +kernel
theorem dJ6_numberOfTrailingZeros_0f7a4_74 : decode cJ6_numberOfTrailingZeros_0f7a4 74 = .ok (.iload_n 1, 1) := by decide +kernel
theorem dJ6_numberOfTrailingZeros_0f7a4_75 : decode cJ6_numberOfTrailingZeros_0f7a4 75 = .ok (.iload_n 0, 1) := by decide +kernel
theorem dJ6_numberOfTrailingZeros_0f7a4_76 : decode cJ6_numberOfTrailingZeros_0f7a4 76 = .ok (.iconst 1, 1) := by decide +kernel
theorem dJ6_numberOfTrailingZeros_0f7a4_77 : decode cJ6_numberOfTrailingZeros_0f7a4 77 = .ok (.iushr, 1) := by decide +kernel
theorem dJ6_numberOfTrailingZeros_0f7a4_78 : decode cJ6_numberOfTrailingZeros_0f7a4 78 = .ok (.iadd, 1) := by decide +kernel
theorem dJ6_numberOfTrailingZeros_0f7a4_79 : decode cJ6_numberOfTrailingZeros_0f7a4 79 = .ok (.ireturn, 1) := by decide +kernel
theorem dJ6_bitCount_0f7a4_0 : decode cJ6_bitCount_0f7a4 0 = .ok (.iload_n 0, 1) := by decide +kernel
theorem dJ6_bitCount_0f7a4_1 : decode cJ6_bitCount_0f7a4 1 = .ok (.iload_n 0, 1) := by decide +kernel
theorem dJ6_bitCount_0f7a4_2 : decode cJ6_bitCount_0f7a4 2 = .ok (.iconst 1, 1) := by decide +kernel
theorem dJ6_bitCount_0f7a4_3 : decode cJ6_bitCount_0f7a4 3 = .ok (.iushr, 1) := by decide +kernel
theorem dJ6_bitCount_0f7a4_4 : decode cJ6_bitCount_0f7a4 4 = .ok (.ldc_w 265, 3) := by decide +kernel
theorem dJ6_bitCount_0f7a4_7 : decode cJ6_bitCount_0f7a4 7 = .ok (.iand, 1) := by decide +kernel
theorem dJ6_bitCount_0f7a4_8 : decode cJ6_bitCount_0f7a4 8 = .ok (.isub, 1) := by decide +kernel
theorem dJ6_bitCount_0f7a4_9 : decode cJ6_bitCount_0f7a4 9 = .ok (.istore_n 0, 1) := by decide +kernel
theorem dJ6_bitCount_0f7a4_10 : decode cJ6_bitCount_0f7a4 10 = .ok (.iload_n 0, 1) := by decide +kernel
theorem dJ6_bitCount_0f7a4_11 : decode cJ6_bitCount_0f7a4 11 = .ok (.ldc_w 266, 3) := by decide +kernel
theorem dJ6_bitCount_0f7a4_14 : decode cJ6_bitCount_0f7a4 14 = .ok (.iand, 1) := by decide +kernel
theorem dJ6_bitCount_0f7a4_15 : decode cJ6_bitCount_0f7a4 15 = .ok (.iload_n 0, 1) := by decide +kernel
theorem dJ6_bitCount_0f7a4_16 : decode cJ6_bitCount_0f7a4 16 = .ok (.iconst 2, 1) := by decide +kernel
theorem dJ6_bitCount_0f7a4_17 : decode cJ6_bitCount_0f7a4 17 = .ok (.iushr, 1) := by decide +kernel
theorem dJ6_bitCount_0f7a4_18 : decode cJ6_bitCount_0f7a4 18 = .ok (.ldc_w 266, 3) := by decide +kernel
theorem dJ6_bitCount_0f7a4_21 : decode cJ6_bitCount_0f7a4 21 = .ok (.iand, 1) := by decide +kernel
theorem dJ6_bitCount_0f7a4_22 : decode cJ6_bitCount_0f7a4 22 = .ok (.iadd, 1) := by decide +kernel
theorem dJ6_bitCount_0f7a4_23 : decode cJ6_bitCount_0f7a4 23 = .ok (.istore_n 0, 1) := by decide +kernel
theorem dJ6_bitCount_0f7a4_24 : decode cJ6_bitCount_0f7a4 24 = .ok (.iload_n 0, 1) := by decide +kernel
theorem dJ6_bitCount_0f7a4_25 : decode cJ6_bitCount_0f7a4 25 = .ok (.iload_n 0, 1) := by decide +kernel
theorem dJ6_bitCount_0f7a4_26 : decode cJ6_bitCount_0f7a4 26 = .ok (.iconst 4, 1) := by decide +kernel
theorem dJ6_bitCount_0f7a4_27 : decode cJ6_bitCount_0f7a4 27 = .ok (.iushr, 1) := by decide +kernel
theorem dJ6_bitCount_0f7a4_28 : decode cJ6_bitCount_0f7a4 28 = .ok (.iadd, 1) := by decide +kernel
theorem dJ6_bitCount_0f7a4_29 : decode cJ6_bitCount_0f7a4 29 = .ok (.ldc_w 267, 3) := by decide +kernel
theorem dJ6_bitCount_0f7a4_32 : decode cJ6_bitCount_0f7a4 32 = .ok (.iand, 1) := by decide +kernel
theorem dJ6_bitCount_0f7a4_33 : decode cJ6_bitCount_0f7a4 33 = .ok (.istore_n 0, 1) := by decide +kernel
theorem dJ6_bitCount_0f7a4_34 : decode cJ6_bitCount_0f7a4 34 = .ok (.iload_n 0, 1) := by decide +kernel
theorem dJ6_bitCount_0f7a4_35 : decode cJ6_bitCount_0f7a4 35 = .ok (.iload_n 0, 1) := by decide +kernel
theorem dJ6_bitCount_0f7a4_36 : decode cJ6_bitCount_0f7a4 36 = .ok (.bipush 8, 2) := by decide +kernel
theorem dJ6_bitCount_0f7a4_38 : decode cJ6_bitCount_0f7a4 38 = .ok (.iushr, 1) := by decide +kernel
theorem dJ6_bitCount_0f7a4_39 : decode cJ6_bitCount_0f7a4 39 = .ok (.iadd, 1) := by decide +kernel
theorem dJ6_bitCount_0f7a4_40 : decode cJ6_bitCount_0f7a4 40 = .ok (.istore_n 0, 1) := by decide +kernel
theorem dJ6_bitCount_0f7a4_41 : decode cJ6_bitCount_0f7a4 41 = .ok (.iload_n 0, 1) := by decide +kernel
theorem dJ6_bitCount_0f7a4_42 : decode cJ6_bitCount_0f7a4 42 = .ok (.iload_n 0, 1) := by decide +kernel
theorem dJ6_bitCount_0f7a4_43 : decode cJ6_bitCount_0f7a4 43 = .ok (.bipush 16, 2) := by decide +kernel
theorem dJ6_bitCount_0f7a4_45 : decode cJ6_bitCount_0f7a4 45 = .ok (.iushr, 1) := by decide +kernel
theorem dJ6_bitCount_0f7a4_46 : decode cJ6_bitCount_0f7a4 46 = .ok (.iadd, 1) := by decide +kernel
theorem dJ6_bitCount_0f7a4_47 : decode cJ6_bitCount_0f7a4 47 = .ok (.istore_n 0, 1) := by decide +kernel
theorem dJ6_bitCount_0f7a4_48 : decode cJ6_bitCount_0f7a4 48 = .ok (.iload_n 0, 1) := by decide +kernel
theorem dJ6_bitCount_0f7a4_49 : decode cJ6_bitCount_0f7a4 49 = .ok (.bipush 63, 2) := by decide +kernel
theorem dJ6_bitCount_0f7a4_51 : decode cJ6_bitCount_0f7a4 51 = .ok (.iand, 1) := by decide +kernel
theorem dJ6_bitCount_0f7a4_52 : decode cJ6_bitCount_0f7a4 52 = .ok (.ireturn, 1) := by decide +kernel
theorem eJ6_numberOfTrailingZeros_0f7a4 {G : GG} {d : Nat} {h : Hp} {o : OU} {h' : Hp} (x0 : Int32) (T : ((0 < ((x0 ^^^ (-1)) &&& (x0 - 1)) → ((((x0 ^^^ (-1)) &&& (x0 - 1)) ≤ 65536 → V G mJ6_numberOfTrailingZeros_0f7a4 d 34 [.int ((x0 ^^^ (-1)) &&& (x0 - 1)), .int 1] [] h o h') ∧ (¬ ((x0 ^^^ (-1)) &&& (x0 - 1)) ≤ 65536 → V G mJ6_numberOfTrailingZeros_0f7a4 d 34 [.int (ushr ((x0 ^^^ (-1)) &&& (x0 - 1)) 16), .int (1 + 16)] [] h o h'))) ∧ (¬ 0 < ((x0 ^^^ (-1)) &&& (x0 - 1)) → (o = .inl (some (.int (((x0 ^^^ (-1)) &&& (x0 - 1)) &&& 32))) ∧ h' = h)))) : VM G mJ6_numberOfTrailingZeros_0f7a4 d [.int x0] h o h' := by
  refine V.toM rfl rfl (le_l rfl) (cat_all rfl) ?_
  show V G mJ6_numberOfTrailingZeros_0f7a4 d 0 [.int x0, uV] [] h o h'
  refine v_iload_n dJ6_numberOfTrailingZeros_0f7a4_0 rfl rfl ?_
  refine v_iconst (v := (-1)) dJ6_numberOfTrailingZeros_0f7a4_1 rfl kI_m1 ?_
  refine v_ixor dJ6_numberOfTrailingZeros_0f7a4_2 rfl ?_
  refine v_iload_n dJ6_numberOfTrailingZeros_0f7a4_3 rfl rfl ?_
  refine v_iconst (v := 1) dJ6_numberOfTrailingZeros_0f7a4_4 rfl kI_1 ?_
  refine v_isub dJ6_numberOfTrailingZeros_0f7a4_5 rfl ?_
  refine v_iand dJ6_numberOfTrailingZeros_0f7a4_6 rfl ?_
  refine v_istore_n (loc' := [.int ((x0 ^^^ (-1)) &&& (x0 - 1)), uV]) dJ6_numberOfTrailingZeros_0f7a4_7 rfl (lt_l rfl) rfl ?_
  refine v_iload_n dJ6_numberOfTrailingZeros_0f7a4_8 rfl rfl ?_
  refine v_if_gt (tgt := 17) dJ6_numberOfTrailingZeros_0f7a4_9 (by decide) rfl ⟨fun c1 => ?_, fun c1 => ?_⟩
  · have T := T.1 c1
    refine v_iconst (v := 1) dJ6_numberOfTrailingZeros_0f7a4_17 rfl kI_1 ?_
    refine v_istore_n (loc' := [.int ((x0 ^^^ (-1)) &&& (x0 - 1)), .int 1]) dJ6_numberOfTrailingZeros_0f7a4_18 rfl (lt_l rfl) rfl ?_
    refine v_iload_n dJ6_numberOfTrailingZeros_0f7a4_19 rfl rfl ?_
    refine v_ldc_w (v := 65536) dJ6_numberOfTrailingZeros_0f7a4_20 rfl kv_J6_264 ?_
    refine v_icmp_le (tgt := 34) dJ6_numberOfTrailingZeros_0f7a4_23 (by decide) rfl ⟨fun c2 => ?_, fun c2 => ?_⟩
    · have T := T.1 c2
      exact T
    · have T := T.2 c2
      refine v_iinc (loc' := [.int ((x0 ^^^ (-1)) &&& (x0 - 1)), .int (1 + 16)]) dJ6_numberOfTrailingZeros_0f7a4_26 rfl rfl (kX_16 _) rfl ?_
      refine v_iload_n dJ6_numberOfTrailingZeros_0f7a4_29 rfl rfl ?_
      refine v_bipush (v := 16) dJ6_numberOfTrailingZeros_0f7a4_30 rfl kB_16 ?_
      refine v_iushr dJ6_numberOfTrailingZeros_0f7a4_32 rfl ?_
      refine v_istore_n (loc' := [.int (ushr ((x0 ^^^ (-1)) &&& (x0 - 1)) 16), .int (1 + 16)]) dJ6_numberOfTrailingZeros_0f7a4_33 rfl (lt_l rfl) rfl ?_
      exact T
  · have T := T.2 c1
    refine v_iload_n dJ6_numberOfTrailingZeros_0f7a4_12 rfl rfl ?_
    refine v_bipush (v := 32) dJ6_numberOfTrailingZeros_0f7a4_13 rfl kB_32 ?_
    refine v_iand dJ6_numberOfTrailingZeros_0f7a4_15 rfl ?_
    exact v_iret dJ6_numberOfTrailingZeros_0f7a4_16 rfl T
theorem bJ6_numberOfTrailingZeros_0f7a4_34 {G : GG} {d : Nat} {h : Hp} {o : OU} {h' : Hp} (x0 : Int32) (x1 : Int32) (T : ((x0 ≤ 256 → V G mJ6_numberOfTrailingZeros_0f7a4 d 49 [.int x0, .int x1] [] h o h') ∧ (¬ x0 ≤ 256 → V G mJ6_numberOfTrailingZeros_0f7a4 d 49 [.int (ushr x0 8), .int (x1 + 8)] [] h o h'))) : V G mJ6_numberOfTrailingZeros_0f7a4 d 34 [.int x0, .int x1] [] h o h' := by
  refine v_iload_n dJ6_numberOfTrailingZeros_0f7a4_34 rfl rfl ?_
  refine v_sipush (v := 256) dJ6_numberOfTrailingZeros_0f7a4_35 rfl kS_256 ?_
  refine v_icmp_le (tgt := 49) dJ6_numberOfTrailingZeros_0f7a4_38 (by decide) rfl ⟨fun c1 => ?_, fun c1 => ?_⟩
  · have T := T.1 c1
    exact T
  · have T := T.2 c1
    refine v_iinc (loc' := [.int x0, .int (x1 + 8)]) dJ6_numberOfTrailingZeros_0f7a4_41 rfl rfl (kX_8 _) rfl ?_
    refine v_iload_n dJ6_numberOfTrailingZeros_0f7a4_44 rfl rfl ?_
    refine v_bipush (v := 8) dJ6_numberOfTrailingZeros_0f7a4_45 rfl kB_8 ?_
    refine v_iushr dJ6_numberOfTrailingZeros_0f7a4_47 rfl ?_
    refine v_istore_n (loc' := [.int (ushr x0 8), .int (x1 + 8)]) dJ6_numberOfTrailingZeros_0f7a4_48 rfl (lt_l rfl) rfl ?_
    exact T
theorem bJ6_numberOfTrailingZeros_0f7a4_49 {G : GG} {d : Nat} {h : Hp} {o : OU} {h' : Hp} (x0 : Int32) (x1 : Int32) (T : ((x0 ≤ 16 → ((x0 ≤ 4 → (o = .inl (some (.int (x1 + (ushr x0 1)))) ∧ h' = h)) ∧ (¬ x0 ≤ 4 → (o = .inl (some (.int ((x1 + 2) + (ushr (ushr x0 2) 1)))) ∧ h' = h)))) ∧ (¬ x0 ≤ 16 → (((ushr x0 4) ≤ 4 → (o = .inl (some (.int ((x1 + 4) + (ushr (ushr x0 4) 1)))) ∧ h' = h)) ∧ (¬ (ushr x0 4) ≤ 4 → (o = .inl (some (.int (((x1 + 4) + 2) + (ushr (ushr (ushr x0 4) 2) 1)))) ∧ h' = h)))))) : V G mJ6_numberOfTrailingZeros_0f7a4 d 49 [.int x0, .int x1] [] h o h' := by
  refine v_iload_n dJ6_numberOfTrailingZeros_0f7a4_49 rfl rfl ?_
  refine v_bipush (v := 16) dJ6_numberOfTrailingZeros_0f7a4_50 rfl kB_16 ?_
  refine v_icmp_le (tgt := 62) dJ6_numberOfTrailingZeros_0f7a4_52 (by decide) rfl ⟨fun c1 => ?_, fun c1 => ?_⟩
  · have T := T.1 c1
    refine v_iload_n dJ6_numberOfTrailingZeros_0f7a4_62 rfl rfl ?_
    refine v_iconst (v := 4) dJ6_numberOfTrailingZeros_0f7a4_63 rfl kI_4 ?_
    refine v_icmp_le (tgt := 74) dJ6_numberOfTrailingZeros_0f7a4_64 (by decide) rfl ⟨fun c2 => ?_, fun c2 => ?_⟩
    · have T := T.1 c2
      refine v_iload_n dJ6_numberOfTrailingZeros_0f7a4_74 rfl rfl ?_
      refine v_iload_n dJ6_numberOfTrailingZeros_0f7a4_75 rfl rfl ?_
      refine v_iconst (v := 1) dJ6_numberOfTrailingZeros_0f7a4_76 rfl kI_1 ?_
      refine v_iushr dJ6_numberOfTrailingZeros_0f7a4_77 rfl ?_
      refine v_iadd dJ6_numberOfTrailingZeros_0f7a4_78 rfl ?_
      exact v_iret dJ6_numberOfTrailingZeros_0f7a4_79 rfl T
    · have T := T.2 c2
      refine v_iinc (loc' := [.int x0, .int (x1 + 2)]) dJ6_numberOfTrailingZeros_0f7a4_67 rfl rfl (kX_2 _) rfl ?_
      refine v_iload_n dJ6_numberOfTrailingZeros_0f7a4_70 rfl rfl ?_
      refine v_iconst (v := 2) dJ6_numberOfTrailingZeros_0f7a4_71 rfl kI_2 ?_
      refine v_iushr dJ6_numberOfTrailingZeros_0f7a4_72 rfl ?_
      refine v_istore_n (loc' := [.int (ushr x0 2), .int (x1 + 2)]) dJ6_numberOfTrailingZeros_0f7a4_73 rfl (lt_l rfl) rfl ?_
      refine v_iload_n dJ6_numberOfTrailingZeros_0f7a4_74 rfl rfl ?_
      refine v_iload_n dJ6_numberOfTrailingZeros_0f7a4_75 rfl rfl ?_
      refine v_iconst (v := 1) dJ6_numberOfTrailingZeros_0f7a4_76 rfl kI_1 ?_
      refine v_iushr dJ6_numberOfTrailingZeros_0f7a4_77 rfl ?_
      refine v_iadd dJ6_numberOfTrailingZeros_0f7a4_78 rfl ?_
      exact v_iret dJ6_numberOfTrailingZeros_0f7a4_79 rfl T
  · have T := T.2 c1
    refine v_iinc (loc' := [.int x0, .int (x1 + 4)]) dJ6_numberOfTrailingZeros_0f7a4_55 rfl rfl (kX_4 _) rfl ?_
    refine v_iload_n dJ6_numberOfTrailingZeros_0f7a4_58 rfl rfl ?_
    refine v_iconst (v := 4) dJ6_numberOfTrailingZeros_0f7a4_59 rfl kI_4 ?_
    refine v_iushr dJ6_numberOfTrailingZeros_0f7a4_60 rfl ?_
    refine v_istore_n (loc' := [.int (ushr x0 4), .int (x1 + 4)]) dJ6_numberOfTrailingZeros_0f7a4_61 rfl (lt_l rfl) rfl ?_
    refine v_iload_n dJ6_numberOfTrailingZeros_0f7a4_62 rfl rfl ?_
    refine v_iconst (v := 4) dJ6_numberOfTrailingZeros_0f7a4_63 rfl kI_4 ?_
    refine v_icmp_le (tgt := 74) dJ6_numberOfTrailingZeros_0f7a4_64 (by decide) rfl ⟨fun c3 => ?_, fun c3 => ?_⟩
    · have T := T.1 c3
      refine v_iload_n dJ6_numberOfTrailingZeros_0f7a4_74 rfl rfl ?_
      refine v_iload_n dJ6_numberOfTrailingZeros_0f7a4_75 rfl rfl ?_
      refine v_iconst (v := 1) dJ6_numberOfTrailingZeros_0f7a4_76 rfl kI_1 ?_
      refine v_iushr dJ6_numberOfTrailingZeros_0f7a4_77 rfl ?_
      refine v_iadd dJ6_numberOfTrailingZeros_0f7a4_78 rfl ?_
      exact v_iret dJ6_numberOfTrailingZeros_0f7a4_79 rfl T
    · have T := T.2 c3
      refine v_iinc (loc' := [.int (ushr x0 4), .int ((x1 + 4) + 2)]) dJ6_numberOfTrailingZeros_0f7a4_67 rfl rfl (kX_2 _) rfl ?_
      refine v_iload_n dJ6_numberOfTrailingZeros_0f7a4_70 rfl rfl ?_
      refine v_iconst (v := 2) dJ6_numberOfTrailingZeros_0f7a4_71 rfl kI_2 ?_
      refine v_iushr dJ6_numberOfTrailingZeros_0f7a4_72 rfl ?_
      refine v_istore_n (loc' := [.int (ushr (ushr x0 4) 2), .int ((x1 + 4) + 2)]) dJ6_numberOfTrailingZeros_0f7a4_73 rfl (lt_l rfl) rfl ?_
      refine v_iload_n dJ6_numberOfTrailingZeros_0f7a4_74 rfl rfl ?_
      refine v_iload_n dJ6_numberOfTrailingZeros_0f7a4_75 rfl rfl ?_
      refine v_iconst (v := 1) dJ6_numberOfTrailingZeros_0f7a4_76 rfl kI_1 ?_
      refine v_iushr dJ6_numberOfTrailingZeros_0f7a4_77 rfl ?_
      refine v_iadd dJ6_numberOfTrailingZeros_0f7a4_78 rfl ?_
      exact v_iret dJ6_numberOfTrailingZeros_0f7a4_79 rfl T
theorem eJ6_bitCount_0f7a4 {G : GG} {d : Nat} {h : Hp} {o : OU} {h' : Hp} (x0 : Int32) (T : (o = .inl (some (.int ((((((((x0 - ((ushr x0 1) &&& 1431655765)) &&& 858993459) + ((ushr (x0 - ((ushr x0 1) &&& 1431655765)) 2) &&& 858993459)) + (ushr (((x0 - ((ushr x0 1) &&& 1431655765)) &&& 858993459) + ((ushr (x0 - ((ushr x0 1) &&& 1431655765)) 2) &&& 858993459)) 4)) &&& 252645135) + (ushr (((((x0 - ((ushr x0 1) &&& 1431655765)) &&& 858993459) + ((ushr (x0 - ((ushr x0 1) &&& 1431655765)) 2) &&& 858993459)) + (ushr (((x0 - ((ushr x0 1) &&& 1431655765)) &&& 858993459) + ((ushr (x0 - ((ushr x0 1) &&& 1431655765)) 2) &&& 858993459)) 4)) &&& 252645135) 8)) + (ushr ((((((x0 - ((ushr x0 1) &&& 1431655765)) &&& 858993459) + ((ushr (x0 - ((ushr x0 1) &&& 1431655765)) 2) &&& 858993459)) + (ushr (((x0 - ((ushr x0 1) &&& 1431655765)) &&& 858993459) + ((ushr (x0 - ((ushr x0 1) &&& 1431655765)) 2) &&& 858993459)) 4)) &&& 252645135) + (ushr (((((x0 - ((ushr x0 1) &&& 1431655765)) &&& 858993459) + ((ushr (x0 - ((ushr x0 1) &&& 1431655765)) 2) &&& 858993459)) + (ushr (((x0 - ((ushr x0 1) &&& 1431655765)) &&& 858993459) + ((ushr (x0 - ((ushr x0 1) &&& 1431655765)) 2) &&& 858993459)) 4)) &&& 252645135) 8)) 16)) &&& 63))) ∧ h' = h)) : VM G mJ6_bitCount_0f7a4 d [.int x0] h o h' := by
  refine V.toM rfl rfl (le_l rfl) (cat_all rfl) ?_
  show V G mJ6_bitCount_0f7a4 d 0 [.int x0] [] h o h'
  refine v_iload_n dJ6_bitCount_0f7a4_0 rfl rfl ?_
  refine v_iload_n dJ6_bitCount_0f7a4_1 rfl rfl ?_
  refine v_iconst (v := 1) dJ6_bitCount_0f7a4_2 rfl kI_1 ?_
  refine v_iushr dJ6_bitCount_0f7a4_3 rfl ?_
  refine v_ldc_w (v := 1431655765) dJ6_bitCount_0f7a4_4 rfl kv_J6_265 ?_
  refine v_iand dJ6_bitCount_0f7a4_7 rfl ?_
  refine v_isub dJ6_bitCount_0f7a4_8 rfl ?_
  refine v_istore_n (loc' := [.int (x0 - ((ushr x0 1) &&& 1431655765))]) dJ6_bitCount_0f7a4_9 rfl (lt_l rfl) rfl ?_
  refine v_iload_n dJ6_bitCount_0f7a4_10 rfl rfl ?_
  refine v_ldc_w (v := 858993459) dJ6_bitCount_0f7a4_11 rfl kv_J6_266 ?_
  refine v_iand dJ6_bitCount_0f7a4_14 rfl ?_
  refine v_iload_n dJ6_bitCount_0f7a4_15 rfl rfl ?_
  refine v_iconst (v := 2) dJ6_bitCount_0f7a4_16 rfl kI_2 ?_
  refine v_iushr dJ6_bitCount_0f7a4_17 rfl ?_
  refine v_ldc_w (v := 858993459) dJ6_bitCount_0f7a4_18 rfl kv_J6_266 ?_
  refine v_iand dJ6_bitCount_0f7a4_21 rfl ?_
  refine v_iadd dJ6_bitCount_0f7a4_22 rfl ?_
  refine v_istore_n (loc' := [.int (((x0 - ((ushr x0 1) &&& 1431655765)) &&& 858993459) + ((ushr (x0 - ((ushr x0 1) &&& 1431655765)) 2) &&& 858993459))]) dJ6_bitCount_0f7a4_23 rfl (lt_l rfl) rfl ?_
  refine v_iload_n dJ6_bitCount_0f7a4_24 rfl rfl ?_
  refine v_iload_n dJ6_bitCount_0f7a4_25 rfl rfl ?_
  refine v_iconst (v := 4) dJ6_bitCount_0f7a4_26 rfl kI_4 ?_
  refine v_iushr dJ6_bitCount_0f7a4_27 rfl ?_
  refine v_iadd dJ6_bitCount_0f7a4_28 rfl ?_
  refine v_ldc_w (v := 252645135) dJ6_bitCount_0f7a4_29 rfl kv_J6_267 ?_
  refine v_iand dJ6_bitCount_0f7a4_32 rfl ?_
  refine v_istore_n (loc' := [.int (((((x0 - ((ushr x0 1) &&& 1431655765)) &&& 858993459) + ((ushr (x0 - ((ushr x0 1) &&& 1431655765)) 2) &&& 858993459)) + (ushr (((x0 - ((ushr x0 1) &&& 1431655765)) &&& 858993459) + ((ushr (x0 - ((ushr x0 1) &&& 1431655765)) 2) &&& 858993459)) 4)) &&& 252645135)]) dJ6_bitCount_0f7a4_33 rfl (lt_l rfl) rfl ?_
  refine v_iload_n dJ6_bitCount_0f7a4_34 rfl rfl ?_
  refine v_iload_n dJ6_bitCount_0f7a4_35 rfl rfl ?_
  refine v_bipush (v := 8) dJ6_bitCount_0f7a4_36 rfl kB_8 ?_
  refine v_iushr dJ6_bitCount_0f7a4_38 rfl ?_
  refine v_iadd dJ6_bitCount_0f7a4_39 rfl ?_
  refine v_istore_n (loc' := [.int ((((((x0 - ((ushr x0 1) &&& 1431655765)) &&& 858993459) + ((ushr (x0 - ((ushr x0 1) &&& 1431655765)) 2) &&& 858993459)) + (ushr (((x0 - ((ushr x0 1) &&& 1431655765)) &&& 858993459) + ((ushr (x0 - ((ushr x0 1) &&& 1431655765)) 2) &&& 858993459)) 4)) &&& 252645135) + (ushr (((((x0 - ((ushr x0 1) &&& 1431655765)) &&& 858993459) + ((ushr (x0 - ((ushr x0 1) &&& 1431655765)) 2) &&& 858993459)) + (ushr (((x0 - ((ushr x0 1) &&& 1431655765)) &&& 858993459) + ((ushr (x0 - ((ushr x0 1) &&& 1431655765)) 2) &&& 858993459)) 4)) &&& 252645135) 8))]) dJ6_bitCount_0f7a4_40 rfl (lt_l rfl) rfl ?_
  refine v_iload_n dJ6_bitCount_0f7a4_41 rfl rfl ?_
  refine v_iload_n dJ6_bitCount_0f7a4_42 rfl rfl ?_
  refine v_bipush (v := 16) dJ6_bitCount_0f7a4_43 rfl kB_16 ?_
  refine v_iushr dJ6_bitCount_0f7a4_45 rfl ?_
  refine v_iadd dJ6_bitCount_0f7a4_46 rfl ?_
  refine v_istore_n (loc' := [.int (((((((x0 - ((ushr x0 1) &&& 1431655765)) &&& 858993459) + ((ushr (x0 - ((ushr x0 1) &&& 1431655765)) 2) &&& 858993459)) + (ushr (((x0 - ((ushr x0 1) &&& 1431655765)) &&& 858993459) + ((ushr (x0 - ((ushr x0 1) &&& 1431655765)) 2) &&& 858993459)) 4)) &&& 252645135) + (ushr (((((x0 - ((ushr x0 1) &&& 1431655765)) &&& 858993459) + ((ushr (x0 - ((ushr x0 1) &&& 1431655765)) 2) &&& 858993459)) + (ushr (((x0 - ((ushr x0 1) &&& 1431655765)) &&& 858993459) + ((ushr (x0 - ((ushr x0 1) &&& 1431655765)) 2) &&& 858993459)) 4)) &&& 252645135) 8)) + (ushr ((((((x0 - ((ushr x0 1) &&& 1431655765)) &&& 858993459) + ((ushr (x0 - ((ushr x0 1) &&& 1431655765)) 2) &&& 858993459)) + (ushr (((x0 - ((ushr x0 1) &&& 1431655765)) &&& 858993459) + ((ushr (x0 - ((ushr x0 1) &&& 1431655765)) 2) &&& 858993459)) 4)) &&& 252645135) + (ushr (((((x0 - ((ushr x0 1) &&& 1431655765)) &&& 858993459) + ((ushr (x0 - ((ushr x0 1) &&& 1431655765)) 2) &&& 858993459)) + (ushr (((x0 - ((ushr x0 1) &&& 1431655765)) &&& 858993459) + ((ushr (x0 - ((ushr x0 1) &&& 1431655765)) 2) &&& 858993459)) 4)) &&& 252645135) 8)) 16))]) dJ6_bitCount_0f7a4_47 rfl (lt_l rfl) rfl ?_
  refine v_iload_n dJ6_bitCount_0f7a4_48 rfl rfl ?_
  refine v_bipush (v := 63) dJ6_bitCount_0f7a4_49 rfl kB_63 ?_
  refine v_iand dJ6_bitCount_0f7a4_51 rfl ?_
  exact v_iret dJ6_bitCount_0f7a4_52 rfl T
end
section
theorem dX7_init_0 : decode cX7_init 0 = .ok (.aload_n 0, 1) := by decide +kernel
theorem dX7_init_1 : decode cX7_init 1 = .ok (.invokespecial 3, 3) := by decide +kernel
theorem dX7_init_4 : decode cX7_init 4 = .ok (.aload_n 0, 1) := by decide +kernel
theorem dX7_init_5 : decode cX7_init 5 = .ok (.iload_n 1, 1) := by decide +kernel
theorem dX7_init_6 : decode cX7_init 6 = .ok (.putfield 9, 3) := by decide +kernel
theorem dX7_init_9 : decode cX7_init 9 = .ok (.return_, 1) := by decide +kernel
theorem dX7_drawn_0 : decode cX7_drawn 0 = .ok (.aload_n 0, 1) := by decide +kernel
theorem dX7_drawn_1 : decode cX7_drawn 1 = .ok (.aload_n 0, 1) := by decide +kernel
theorem dX7_drawn_2 : decode cX7_drawn 2 = .ok (.getfield 9, 3) := by decide +kernel
theorem dX7_drawn_5 : decode cX7_drawn 5 = .ok (.ldc 15, 2) := by decide +kernel
theorem dX7_drawn_7 : decode cX7_drawn 7 = .ok (.imul, 1) := by decide +kernel
theorem dX7_drawn_8 : decode cX7_drawn 8 = .ok (.sipush 12345, 3) := by decide +kernel
theorem dX7_drawn_11 : decode cX7_drawn 11 = .ok (.iadd, 1) := by decide +kernel
theorem dX7_drawn_12 : decode cX7_drawn 12 = .ok (.putfield 9, 3) := by decide +kernel
theorem dX7_drawn_15 : decode cX7_drawn 15 = .ok (.iload_n 1, 1) := by decide +kernel
theorem dX7_drawn_16 : decode cX7_drawn 16 = .ok (.ifCond .gt 7, 3) := by decide +kernel
theorem dX7_drawn_19 : decode cX7_drawn 19 = .ok (.iconst 0, 1) := by decide +kernel
theorem dX7_drawn_20 : decode cX7_drawn 20 = .ok (.goto 16, 3) := by decide +kernel
theorem dX7_drawn_23 : decode cX7_drawn 23 = .ok (.aload_n 0, 1) := by decide +kernel
theorem dX7_drawn_24 : decode cX7_drawn 24 = .ok (.getfield 9, 3) := by decide +kernel
theorem dX7_drawn_27 : decode cX7_drawn 27 = .ok (.bipush 16, 2) := by decide +kernel
theorem dX7_drawn_29 : decode cX7_drawn 29 = .ok (.iushr, 1) := by decide +kernel
theorem dX7_drawn_30 : decode cX7_drawn 30 = .ok (.sipush 32767, 3) := by decide +kernel
theorem dX7_drawn_33 : decode cX7_drawn 33 = .ok (.iand, 1) := by decide +kernel
theorem dX7_drawn_34 : decode cX7_drawn 34 = .ok (.iload_n 1, 1) := by decide +kernel
theorem dX7_drawn_35 : decode cX7_drawn 35 = .ok (.irem, 1) := by decide +kernel
theorem dX7_drawn_36 : decode cX7_drawn 36 = .ok (.ireturn, 1) := by decide +kernel
theorem dX7_drawStep_0 : decode cX7_drawStep 0 = .ok (.aload_n 0, 1) := by decide +kernel
theorem dX7_drawStep_1 : decode cX7_drawStep 1 = .ok (.bipush 8, 2) := by decide +kernel
theorem dX7_drawStep_3 : decode cX7_drawStep 3 = .ok (.invokevirtual 16, 3) := by decide +kernel
theorem dX7_drawStep_6 : decode cX7_drawStep 6 = .ok (.istore_n 2, 1) := by decide +kernel
theorem dX7_drawStep_7 : decode cX7_drawStep 7 = .ok (.aload_n 0, 1) := by decide +kernel
theorem dX7_drawStep_8 : decode cX7_drawStep 8 = .ok (.iconst 0, 1) := by decide +kernel
theorem dX7_drawStep_9 : decode cX7_drawStep 9 = .ok (.putfield 20, 3) := by decide +kernel
theorem dX7_drawStep_12 : decode cX7_drawStep 12 = .ok (.iload_n 2, 1) := by decide +kernel
theorem dX7_drawStep_13 : decode cX7_drawStep 13 = .ok (.iconst 2, 1) := by decide +kernel
theorem dX7_drawStep_14 : decode cX7_drawStep 14 = .ok (.if_icmp .gt 38, 3) := by decide +kernel
theorem dX7_drawStep_17 : decode cX7_drawStep 17 = .ok (.aload_n 0, 1) := by decide +kernel
theorem dX7_drawStep_18 : decode cX7_drawStep 18 = .ok (.iload_n 2, 1) := by decide +kernel
theorem dX7_drawStep_19 : decode cX7_drawStep 19 = .ok (.iconst 2, 1) := by decide +kernel
theorem dX7_drawStep_20 : decode cX7_drawStep 20 = .ok (.if_icmp .ne 8, 3) := by decide +kernel
theorem dX7_drawStep_23 : decode cX7_drawStep 23 = .ok (.bipush 6, 2) := by decide +kernel
theorem dX7_drawStep_25 : decode cX7_drawStep 25 = .ok (.goto 4, 3) := by decide +kernel
theorem dX7_drawStep_28 : decode cX7_drawStep 28 = .ok (.iconst 0, 1) := by decide +kernel
theorem dX7_drawStep_29 : decode cX7_drawStep 29 = .ok (.putfield 23, 3) := by decide +kernel
theorem dX7_drawStep_32 : decode cX7_drawStep 32 = .ok (.aload_n 0, 1) := by decide +kernel
theorem dX7_drawStep_33 : decode cX7_drawStep 33 = .ok (.iconst 0, 1) := by decide +kernel
theorem dX7_drawStep_34 : decode cX7_drawStep 34 = .ok (.putfield 26, 3) := by decide +kernel
theorem dX7_drawStep_37 : decode cX7_drawStep 37 = .ok (.aload_n 0, 1) := by decide +kernel
theorem dX7_drawStep_38 : decode cX7_drawStep 38 = .ok (.iconst 1, 1) := by decide +kernel
theorem dX7_drawStep_39 : decode cX7_drawStep 39 = .ok (.aload_n 0, 1) := by decide +kernel
theorem dX7_drawStep_40 : decode cX7_drawStep 40 = .ok (.bipush 9, 2) := by decide +kernel
theorem dX7_drawStep_42 : decode cX7_drawStep 42 = .ok (.invokevirtual 16, 3) := by decide +kernel
theorem dX7_drawStep_45 : decode cX7_drawStep 45 = .ok (.iadd, 1) := by decide +kernel
theorem dX7_drawStep_46 : decode cX7_drawStep 46 = .ok (.putfield 20, 3) := by decide +kernel
theorem dX7_drawStep_49 : decode cX7_drawStep 49 = .ok (.goto 74, 3) := by decide +kernel
theorem dX7_drawStep_52 : decode cX7_drawStep 52 = .ok (.iload_n 2, 1) := by decide +kernel
theorem dX7_drawStep_53 : decode cX7_drawStep 53 = .ok (.iconst 3, 1) := by decide +kernel
theorem dX7_drawStep_54 : decode cX7_drawStep 54 = .ok (.if_icmp .ne 31, 3) := by decide +kernel
theorem dX7_drawStep_57 : decode cX7_drawStep 57 = .ok (.aload_n 0, 1) := by decide +kernel
theorem dX7_drawStep_58 : decode cX7_drawStep 58 = .ok (.iconst 3, 1) := by decide +kernel
theorem dX7_drawStep_59 : decode cX7_drawStep 59 = .ok (.putfield 23, 3) := by decide +kernel
theorem dX7_drawStep_62 : decode cX7_drawStep 62 = .ok (.aload_n 0, 1) := by decide +kernel
theorem dX7_drawStep_63 : decode cX7_drawStep 63 = .ok (.aload_n 0, 1) := by decide +kernel
theorem dX7_drawStep_64 : decode cX7_drawStep 64 = .ok (.bipush 12, 2) := by decide +kernel
theorem dX7_drawStep_66 : decode cX7_drawStep 66 = .ok (.invokevirtual 16, 3) := by decide +kernel
theorem dX7_drawStep_69 : decode cX7_drawStep 69 = .ok (.putfield 26, 3) := by decide +kernel
theorem dX7_drawStep_72 : decode cX7_drawStep 72 = .ok (.aload_n 0, 1) := by decide +kernel
theorem dX7_drawStep_73 : decode cX7_drawStep 73 = .ok (.aload_n 0, 1) := by decide +kernel
theorem dX7_drawStep_74 : decode cX7_drawStep 74 = .ok (.bipush 100, 2) := by decide +kernel
theorem dX7_drawStep_76 : decode cX7_drawStep 76 = .ok (.invokevirtual 16, 3) := by decide +kernel
theorem dX7_drawStep_79 : decode cX7_drawStep 79 = .ok (.putfield 20, 3) := by decide +kernel
theorem dX7_drawStep_82 : decode cX7_drawStep 82 = .ok (.goto 41, 3) := by decide +kernel
theorem dX7_drawStep_85 : decode cX7_drawStep 85 = .ok (.iload_n 2, 1) := by decide +kernel
theorem dX7_drawStep_86 : decode cX7_drawStep 86 = .ok (.iconst 4, 1) := by decide +kernel
theorem dX7_drawStep_87 : decode cX7_drawStep 87 = .ok (.if_icmp .ne 21, 3) := by decide +kernel
theorem dX7_drawStep_90 : decode cX7_drawStep 90 = .ok (.aload_n 0, 1) := by decide +kernel
theorem dX7_drawStep_91 : decode cX7_drawStep 91 = .ok (.iconst 5, 1) := by decide +kernel
theorem dX7_drawStep_92 : decode cX7_drawStep 92 = .ok (.putfield 23, 3) := by decide +kernel
theorem dX7_drawStep_95 : decode cX7_drawStep 95 = .ok (.aload_n 0, 1) := by decide +kernel
theorem dX7_drawStep_96 : decode cX7_drawStep 96 = .ok (.aload_n 0, 1) := by decide +kernel
theorem dX7_drawStep_97 : decode cX7_drawStep 97 = .ok (.bipush 12, 2) := by decide +kernel
theorem dX7_drawStep_99 : decode cX7_drawStep 99 = .ok (.invokevirtual 16, 3) := by decide +kernel
theorem dX7_drawStep_102 : decode cX7_drawStep 102 = .ok (.putfield 26, 3) := by decide +kernel
theorem dX7_drawStep_105 : decode cX7_drawStep 105 = .ok (.goto 18, 3) := by decide +kernel
theorem dX7_drawStep_108 : decode cX7_drawStep 108 = .ok (.aload_n 0, 1) := by decide +kernel
theorem dX7_drawStep_109 : decode cX7_drawStep 109 = .ok (.bipush 8, 2) := by decide +kernel
theorem dX7_drawStep_111 : decode cX7_drawStep 111 = .ok (.putfield 23, 3) := by decide +kernel
theorem dX7_drawStep_114 : decode cX7_drawStep 114 = .ok (.aload_n 0, 1) := by decide +kernel
theorem dX7_drawStep_115 : decode cX7_drawStep 115 = .ok (.aload_n 0, 1) := by decide +kernel
theorem dX7_drawStep_116 : decode cX7_drawStep 116 = .ok (.iload_n 1, 1) := by decide +kernel
theorem dX7_drawStep_117 : decode cX7_drawStep 117 = .ok (.invokevirtual 16, 3) := by decide +kernel
theorem dX7_drawStep_120 : decode cX7_drawStep 120 = .ok (.putfield 26, 3) := by decide +kernel
theorem dX7_drawStep_123 : decode cX7_drawStep 123 = .ok (.return_, 1) := by decide +kernel
theorem eX7_init {G : GG} {d : Nat} {h : Hp} {o : OU} {h' : Hp} (r0 : Nat) (x1 : Int32) (hd : 1 ≤ d) (T : r0 ≠ 0 ∧ kH h r0 = 17 ∧ (o = .inl none ∧ h' = (h.1, (upI h.2 r0 0 x1)))) : VM G mX7_init d [.ref r0, .int x1] h o h' := by
  refine V.toM rfl rfl (le_l rfl) (cat_all rfl) ?_
  show V G mX7_init d 0 [.ref r0, .int x1] [] h o h'
  have hdd : d - 1 + 1 ≤ d := by omega
  refine v_aload_n dX7_init_0 rfl rfl ?_
  obtain ⟨q1, T⟩ := T
  refine v_objInit dX7_init_1 rfl km_X7_3 kx_oi kx_oc hd (le_l rfl) q1 ?_
  refine v_aload_n dX7_init_4 rfl rfl ?_
  refine v_iload_n dX7_init_5 rfl rfl ?_
  obtain ⟨q2, T⟩ := T
  refine v_putI 7 0 dX7_init_6 rfl (by decide) (by decide) rfl rfl kf_X7_9 q2 ?_
  exact v_vret dX7_init_9 rfl T
theorem eX7_drawn {G : GG} {d : Nat} {h : Hp} {o : OU} {h' : Hp} (r0 : Nat) (x1 : Int32) (T : kH h r0 = 17 ∧ ((0 < x1 → ¬ x1 = 0 ∧ (o = .inl (some (.int (((ushr ((upI h.2 r0 0 (((h.2 r0 0) * 1103515245) + 12345)) r0 0) 16) &&& 32767) - ((ushr ((upI h.2 r0 0 (((h.2 r0 0) * 1103515245) + 12345)) r0 0) 16) &&& 32767) / x1 * x1))) ∧ h' = (h.1, (upI h.2 r0 0 (((h.2 r0 0) * 1103515245) + 12345))))) ∧ (¬ 0 < x1 → (o = .inl (some (.int 0)) ∧ h' = (h.1, (upI h.2 r0 0 (((h.2 r0 0) * 1103515245) + 12345))))))) : VM G mX7_drawn d [.ref r0, .int x1] h o h' := by
  refine V.toM rfl rfl (le_l rfl) (cat_all rfl) ?_
  show V G mX7_drawn d 0 [.ref r0, .int x1] [] h o h'
  refine v_aload_n dX7_drawn_0 rfl rfl ?_
  refine v_aload_n dX7_drawn_1 rfl rfl ?_
  obtain ⟨q1, T⟩ := T
  refine v_getI 7 0 dX7_drawn_2 rfl (by decide) (by decide) rfl kf_X7_9 q1 ?_
  refine v_ldc (v := 1103515245) dX7_drawn_5 rfl kv_X7_15 ?_
  refine v_imul dX7_drawn_7 rfl ?_
  refine v_sipush (v := 12345) dX7_drawn_8 rfl kS_12345 ?_
  refine v_iadd dX7_drawn_11 rfl ?_
  refine v_putI 7 0 dX7_drawn_12 rfl (by decide) (by decide) rfl rfl kf_X7_9 q1 ?_
  refine v_iload_n dX7_drawn_15 rfl rfl ?_
  refine v_if_gt (tgt := 23) dX7_drawn_16 (by decide) rfl ⟨fun c2 => ?_, fun c2 => ?_⟩
  · have T := T.1 c2
    refine v_aload_n dX7_drawn_23 rfl rfl ?_
    refine v_getI 7 0 dX7_drawn_24 rfl (by decide) (by decide) rfl kf_X7_9 q1 ?_
    refine v_bipush (v := 16) dX7_drawn_27 rfl kB_16 ?_
    refine v_iushr dX7_drawn_29 rfl ?_
    refine v_sipush (v := 32767) dX7_drawn_30 rfl kS_32767 ?_
    refine v_iand dX7_drawn_33 rfl ?_
    refine v_iload_n dX7_drawn_34 rfl rfl ?_
    obtain ⟨q3, T⟩ := T
    refine v_irem dX7_drawn_35 rfl q3 ?_
    exact v_iret dX7_drawn_36 rfl T
  · have T := T.2 c2
    refine v_iconst (v := 0) dX7_drawn_19 rfl kI_0 ?_
    refine v_goto (pc' := 36) dX7_drawn_20 (by decide) ?_
    exact v_iret dX7_drawn_36 rfl T
theorem eX7_drawStep {G : GG} {d : Nat} {h : Hp} {o : OU} {h' : Hp} (r0 : Nat) (x1 : Int32) (hd : 1 ≤ d) (T : kH h r0 = 17 ∧ ∃ z2 h1, VM G mX7_drawn (d - 1) [.ref r0, .int 8] h (.inl (some (.int z2))) h1 ∧ kH h1 r0 = 17 ∧ ((2 < z2 → ((¬ z2 = 3 → ((¬ z2 = 4 → ∃ z10 h9, VM G mX7_drawn (d - 1) [.ref r0, .int x1] (h1.1, (upI (upI h1.2 r0 3 0) r0 1 8)) (.inl (some (.int z10))) h9 ∧ kH h9 r0 = 17 ∧ (o = .inl none ∧ h' = (h9.1, (upI h9.2 r0 2 z10)))) ∧ (z2 = 4 → ∃ z14 h13, VM G mX7_drawn (d - 1) [.ref r0, .int 12] (h1.1, (upI (upI h1.2 r0 3 0) r0 1 5)) (.inl (some (.int z14))) h13 ∧ kH h13 r0 = 17 ∧ (o = .inl none ∧ h' = (h13.1, (upI h13.2 r0 2 z14)))))) ∧ (z2 = 3 → ∃ z18 h17, VM G mX7_drawn (d - 1) [.ref r0, .int 12] (h1.1, (upI (upI h1.2 r0 3 0) r0 1 3)) (.inl (some (.int z18))) h17 ∧ kH h17 r0 = 17 ∧ ∃ z22 h21, VM G mX7_drawn (d - 1) [.ref r0, .int 100] (h17.1, (upI h17.2 r0 2 z18)) (.inl (some (.int z22))) h21 ∧ kH h21 r0 = 17 ∧ (o = .inl none ∧ h' = (h21.1, (upI h21.2 r0 3 z22)))))) ∧ (¬ 2 < z2 → ((¬ z2 = 2 → ∃ z27 h26, VM G mX7_drawn (d - 1) [.ref r0, .int 9] (h1.1, (upI (upI (upI h1.2 r0 3 0) r0 1 0) r0 2 0)) (.inl (some (.int z27))) h26 ∧ kH h26 r0 = 17 ∧ (o = .inl none ∧ h' = (h26.1, (upI h26.2 r0 3 (1 + z27))))) ∧ (z2 = 2 → ∃ z31 h30, VM G mX7_drawn (d - 1) [.ref r0, .int 9] (h1.1, (upI (upI (upI h1.2 r0 3 0) r0 1 6) r0 2 0)) (.inl (some (.int z31))) h30 ∧ kH h30 r0 = 17 ∧ (o = .inl none ∧ h' = (h30.1, (upI h30.2 r0 3 (1 + z31))))))))) : VM G mX7_drawStep d [.ref r0, .int x1] h o h' := by
  refine V.toM rfl rfl (le_l rfl) (cat_all rfl) ?_
  show V G mX7_drawStep d 0 [.ref r0, .int x1, uV] [] h o h'
  have hdd : d - 1 + 1 ≤ d := by omega
  refine v_aload_n dX7_drawStep_0 rfl rfl ?_
  refine v_bipush (v := 8) dX7_drawStep_1 rfl kB_8 ?_
  obtain ⟨q4, T⟩ := T
  obtain ⟨z2, h1, k3, T⟩ := T
  refine v_callV (M1 := mX7_drawn) (as := [.int 8]) (r := r0) (rest := []) 7 dX7_drawStep_3 rfl ko_X7_16 kc_X7_drawn ki_X7_drawn ks_X7_drawn (by decide) (by decide) hdd rfl rfl (le_l rfl) q4 k3 ?_
  refine v_istore_n (loc' := [.ref r0, .int x1, .int z2]) dX7_drawStep_6 rfl (lt_l rfl) rfl ?_
  refine v_aload_n dX7_drawStep_7 rfl rfl ?_
  refine v_iconst (v := 0) dX7_drawStep_8 rfl kI_0 ?_
  obtain ⟨q5, T⟩ := T
  refine v_putI 7 3 dX7_drawStep_9 rfl (by decide) (by decide) rfl rfl kf_X7_20 q5 ?_
  refine v_iload_n dX7_drawStep_12 rfl rfl ?_
  refine v_iconst (v := 2) dX7_drawStep_13 rfl kI_2 ?_
  refine v_icmp_gt (tgt := 52) dX7_drawStep_14 (by decide) rfl ⟨fun c6 => ?_, fun c6 => ?_⟩
  · have T := T.1 c6
    refine v_iload_n dX7_drawStep_52 rfl rfl ?_
    refine v_iconst (v := 3) dX7_drawStep_53 rfl kI_3 ?_
    refine v_icmp_ne (tgt := 85) dX7_drawStep_54 (by decide) rfl ⟨fun c7 => ?_, fun c7 => ?_⟩
    · have T := T.1 c7
      refine v_iload_n dX7_drawStep_85 rfl rfl ?_
      refine v_iconst (v := 4) dX7_drawStep_86 rfl kI_4 ?_
      refine v_icmp_ne (tgt := 108) dX7_drawStep_87 (by decide) rfl ⟨fun c8 => ?_, fun c8 => ?_⟩
      · have T := T.1 c8
        refine v_aload_n dX7_drawStep_108 rfl rfl ?_
        refine v_bipush (v := 8) dX7_drawStep_109 rfl kB_8 ?_
        refine v_putI 7 1 dX7_drawStep_111 rfl (by decide) (by decide) rfl rfl kf_X7_23 q5 ?_
        refine v_aload_n dX7_drawStep_114 rfl rfl ?_
        refine v_aload_n dX7_drawStep_115 rfl rfl ?_
        refine v_iload_n dX7_drawStep_116 rfl rfl ?_
        obtain ⟨z10, h9, k11, T⟩ := T
        refine v_callV (M1 := mX7_drawn) (as := [.int x1]) (r := r0) (rest := [.ref r0]) 7 dX7_drawStep_117 rfl ko_X7_16 kc_X7_drawn ki_X7_drawn ks_X7_drawn (by decide) (by decide) hdd rfl rfl (le_l rfl) q5 k11 ?_
        obtain ⟨q12, T⟩ := T
        refine v_putI 7 2 dX7_drawStep_120 rfl (by decide) (by decide) rfl rfl kf_X7_26 q12 ?_
        exact v_vret dX7_drawStep_123 rfl T
      · have T := T.2 c8
        refine v_aload_n dX7_drawStep_90 rfl rfl ?_
        refine v_iconst (v := 5) dX7_drawStep_91 rfl kI_5 ?_
        refine v_putI 7 1 dX7_drawStep_92 rfl (by decide) (by decide) rfl rfl kf_X7_23 q5 ?_
        refine v_aload_n dX7_drawStep_95 rfl rfl ?_
        refine v_aload_n dX7_drawStep_96 rfl rfl ?_
        refine v_bipush (v := 12) dX7_drawStep_97 rfl kB_12 ?_
        obtain ⟨z14, h13, k15, T⟩ := T
        refine v_callV (M1 := mX7_drawn) (as := [.int 12]) (r := r0) (rest := [.ref r0]) 7 dX7_drawStep_99 rfl ko_X7_16 kc_X7_drawn ki_X7_drawn ks_X7_drawn (by decide) (by decide) hdd rfl rfl (le_l rfl) q5 k15 ?_
        obtain ⟨q16, T⟩ := T
        refine v_putI 7 2 dX7_drawStep_102 rfl (by decide) (by decide) rfl rfl kf_X7_26 q16 ?_
        refine v_goto (pc' := 123) dX7_drawStep_105 (by decide) ?_
        exact v_vret dX7_drawStep_123 rfl T
    · have T := T.2 c7
      refine v_aload_n dX7_drawStep_57 rfl rfl ?_
      refine v_iconst (v := 3) dX7_drawStep_58 rfl kI_3 ?_
      refine v_putI 7 1 dX7_drawStep_59 rfl (by decide) (by decide) rfl rfl kf_X7_23 q5 ?_
      refine v_aload_n dX7_drawStep_62 rfl rfl ?_
      refine v_aload_n dX7_drawStep_63 rfl rfl ?_
      refine v_bipush (v := 12) dX7_drawStep_64 rfl kB_12 ?_
      obtain ⟨z18, h17, k19, T⟩ := T
      refine v_callV (M1 := mX7_drawn) (as := [.int 12]) (r := r0) (rest := [.ref r0]) 7 dX7_drawStep_66 rfl ko_X7_16 kc_X7_drawn ki_X7_drawn ks_X7_drawn (by decide) (by decide) hdd rfl rfl (le_l rfl) q5 k19 ?_
      obtain ⟨q20, T⟩ := T
      refine v_putI 7 2 dX7_drawStep_69 rfl (by decide) (by decide) rfl rfl kf_X7_26 q20 ?_
      refine v_aload_n dX7_drawStep_72 rfl rfl ?_
      refine v_aload_n dX7_drawStep_73 rfl rfl ?_
      refine v_bipush (v := 100) dX7_drawStep_74 rfl kB_100 ?_
      obtain ⟨z22, h21, k23, T⟩ := T
      refine v_callV (M1 := mX7_drawn) (as := [.int 100]) (r := r0) (rest := [.ref r0]) 7 dX7_drawStep_76 rfl ko_X7_16 kc_X7_drawn ki_X7_drawn ks_X7_drawn (by decide) (by decide) hdd rfl rfl (le_l rfl) q20 k23 ?_
      obtain ⟨q24, T⟩ := T
      refine v_putI 7 3 dX7_drawStep_79 rfl (by decide) (by decide) rfl rfl kf_X7_20 q24 ?_
      refine v_goto (pc' := 123) dX7_drawStep_82 (by decide) ?_
      exact v_vret dX7_drawStep_123 rfl T
  · have T := T.2 c6
    refine v_aload_n dX7_drawStep_17 rfl rfl ?_
    refine v_iload_n dX7_drawStep_18 rfl rfl ?_
    refine v_iconst (v := 2) dX7_drawStep_19 rfl kI_2 ?_
    refine v_icmp_ne (tgt := 28) dX7_drawStep_20 (by decide) rfl ⟨fun c25 => ?_, fun c25 => ?_⟩
    · have T := T.1 c25
      refine v_iconst (v := 0) dX7_drawStep_28 rfl kI_0 ?_
      refine v_putI 7 1 dX7_drawStep_29 rfl (by decide) (by decide) rfl rfl kf_X7_23 q5 ?_
      refine v_aload_n dX7_drawStep_32 rfl rfl ?_
      refine v_iconst (v := 0) dX7_drawStep_33 rfl kI_0 ?_
      refine v_putI 7 2 dX7_drawStep_34 rfl (by decide) (by decide) rfl rfl kf_X7_26 q5 ?_
      refine v_aload_n dX7_drawStep_37 rfl rfl ?_
      refine v_iconst (v := 1) dX7_drawStep_38 rfl kI_1 ?_
      refine v_aload_n dX7_drawStep_39 rfl rfl ?_
      refine v_bipush (v := 9) dX7_drawStep_40 rfl kB_9 ?_
      obtain ⟨z27, h26, k28, T⟩ := T
      refine v_callV (M1 := mX7_drawn) (as := [.int 9]) (r := r0) (rest := [.int 1, .ref r0]) 7 dX7_drawStep_42 rfl ko_X7_16 kc_X7_drawn ki_X7_drawn ks_X7_drawn (by decide) (by decide) hdd rfl rfl (le_l rfl) q5 k28 ?_
      refine v_iadd dX7_drawStep_45 rfl ?_
      obtain ⟨q29, T⟩ := T
      refine v_putI 7 3 dX7_drawStep_46 rfl (by decide) (by decide) rfl rfl kf_X7_20 q29 ?_
      refine v_goto (pc' := 123) dX7_drawStep_49 (by decide) ?_
      exact v_vret dX7_drawStep_123 rfl T
    · have T := T.2 c25
      refine v_bipush (v := 6) dX7_drawStep_23 rfl kB_6 ?_
      refine v_goto (pc' := 29) dX7_drawStep_25 (by decide) ?_
      refine v_putI 7 1 dX7_drawStep_29 rfl (by decide) (by decide) rfl rfl kf_X7_23 q5 ?_
      refine v_aload_n dX7_drawStep_32 rfl rfl ?_
      refine v_iconst (v := 0) dX7_drawStep_33 rfl kI_0 ?_
      refine v_putI 7 2 dX7_drawStep_34 rfl (by decide) (by decide) rfl rfl kf_X7_26 q5 ?_
      refine v_aload_n dX7_drawStep_37 rfl rfl ?_
      refine v_iconst (v := 1) dX7_drawStep_38 rfl kI_1 ?_
      refine v_aload_n dX7_drawStep_39 rfl rfl ?_
      refine v_bipush (v := 9) dX7_drawStep_40 rfl kB_9 ?_
      obtain ⟨z31, h30, k32, T⟩ := T
      refine v_callV (M1 := mX7_drawn) (as := [.int 9]) (r := r0) (rest := [.int 1, .ref r0]) 7 dX7_drawStep_42 rfl ko_X7_16 kc_X7_drawn ki_X7_drawn ks_X7_drawn (by decide) (by decide) hdd rfl rfl (le_l rfl) q5 k32 ?_
      refine v_iadd dX7_drawStep_45 rfl ?_
      obtain ⟨q33, T⟩ := T
      refine v_putI 7 3 dX7_drawStep_46 rfl (by decide) (by decide) rfl rfl kf_X7_20 q33 ?_
      refine v_goto (pc' := 123) dX7_drawStep_49 (by decide) ?_
      exact v_vret dX7_drawStep_123 rfl T
end
