section
-- ===== PART A: goes FIRST, ahead of the names: the tables' words, and 'selects' of the private methods out of them =====
/-- a private method of a class that the tables say can be made, by its rows of tables_1 -/
def lw_okq (q : MethodName × Nat) : Prop := (q.1.cls ≠ "java/lang/invoke/MethodHandle" ∧ q.1.cls ≠ "java/lang/invoke/VarHandle") ∧ Cond.instantiable q.1.cls q.2 ∈ tables_1 ∧ Cond.privateMethod q.1 ∈ tables_1 ∧ Cond.instanceMethod q.1 ∈ tables_1
theorem lw_p0 : lw_okq (⟨"PaperHour", "found", "(I)I"⟩, 11) := ⟨⟨by decide +kernel, by decide +kernel⟩, List.mem_of_getElem? (i := 14) (by decide +kernel), List.mem_of_getElem? (i := 317) (by decide +kernel), List.mem_of_getElem? (i := 318) (by decide +kernel)⟩
theorem lw_p1 : lw_okq (⟨"PaperHour$Rows", "lay", "(III)V"⟩, 3) := ⟨⟨by decide +kernel, by decide +kernel⟩, List.mem_of_getElem? (i := 22) (by decide +kernel), List.mem_of_getElem? (i := 322) (by decide +kernel), List.mem_of_getElem? (i := 323) (by decide +kernel)⟩
theorem lw_p2 : lw_okq (⟨"PaperHour", "foundNothing", "(I)I"⟩, 11) := ⟨⟨by decide +kernel, by decide +kernel⟩, List.mem_of_getElem? (i := 14) (by decide +kernel), List.mem_of_getElem? (i := 326) (by decide +kernel), List.mem_of_getElem? (i := 327) (by decide +kernel)⟩
theorem lw_p3 : lw_okq (⟨"PaperHour$Rows", "findingOf", "(III)I"⟩, 3) := ⟨⟨by decide +kernel, by decide +kernel⟩, List.mem_of_getElem? (i := 22) (by decide +kernel), List.mem_of_getElem? (i := 334) (by decide +kernel), List.mem_of_getElem? (i := 335) (by decide +kernel)⟩
theorem lw_p4 : lw_okq (⟨"PaperHour$Rows", "isMissing", "(I)Z"⟩, 3) := ⟨⟨by decide +kernel, by decide +kernel⟩, List.mem_of_getElem? (i := 22) (by decide +kernel), List.mem_of_getElem? (i := 338) (by decide +kernel), List.mem_of_getElem? (i := 339) (by decide +kernel)⟩
theorem lw_p5 : lw_okq (⟨"PaperHour$Rows", "hasSpan", "(III)Z"⟩, 3) := ⟨⟨by decide +kernel, by decide +kernel⟩, List.mem_of_getElem? (i := 22) (by decide +kernel), List.mem_of_getElem? (i := 342) (by decide +kernel), List.mem_of_getElem? (i := 343) (by decide +kernel)⟩
theorem lw_p6 : lw_okq (⟨"PaperHour$Rows", "put", "(III)I"⟩, 3) := ⟨⟨by decide +kernel, by decide +kernel⟩, List.mem_of_getElem? (i := 22) (by decide +kernel), List.mem_of_getElem? (i := 346) (by decide +kernel), List.mem_of_getElem? (i := 347) (by decide +kernel)⟩
theorem lw_p7 : lw_okq (⟨"PaperHour$Rows", "takeAway", "(I)I"⟩, 3) := ⟨⟨by decide +kernel, by decide +kernel⟩, List.mem_of_getElem? (i := 22) (by decide +kernel), List.mem_of_getElem? (i := 363) (by decide +kernel), List.mem_of_getElem? (i := 364) (by decide +kernel)⟩
theorem lw_p8 : lw_okq (⟨"PaperHour$Tape", "append", "(I)Z"⟩, 6) := ⟨⟨by decide +kernel, by decide +kernel⟩, List.mem_of_getElem? (i := 46) (by decide +kernel), List.mem_of_getElem? (i := 371) (by decide +kernel), List.mem_of_getElem? (i := 372) (by decide +kernel)⟩
theorem lw_p9 : lw_okq (⟨"PaperHour$Tape", "readInto", "(LPaperHour$Town;)Z"⟩, 6) := ⟨⟨by decide +kernel, by decide +kernel⟩, List.mem_of_getElem? (i := 46) (by decide +kernel), List.mem_of_getElem? (i := 380) (by decide +kernel), List.mem_of_getElem? (i := 381) (by decide +kernel)⟩
theorem lw_p10 : lw_okq (⟨"PaperHour$Tape", "readLaw", "(LPaperHour$Town;)V"⟩, 6) := ⟨⟨by decide +kernel, by decide +kernel⟩, List.mem_of_getElem? (i := 46) (by decide +kernel), List.mem_of_getElem? (i := 384) (by decide +kernel), List.mem_of_getElem? (i := 385) (by decide +kernel)⟩
theorem lw_p11 : lw_okq (⟨"PaperHour$Tape", "readByte", "(I)V"⟩, 6) := ⟨⟨by decide +kernel, by decide +kernel⟩, List.mem_of_getElem? (i := 46) (by decide +kernel), List.mem_of_getElem? (i := 388) (by decide +kernel), List.mem_of_getElem? (i := 389) (by decide +kernel)⟩
theorem lw_p12 : lw_okq (⟨"PaperHour$Tape", "peek", "()I"⟩, 6) := ⟨⟨by decide +kernel, by decide +kernel⟩, List.mem_of_getElem? (i := 46) (by decide +kernel), List.mem_of_getElem? (i := 392) (by decide +kernel), List.mem_of_getElem? (i := 393) (by decide +kernel)⟩
theorem lw_p13 : lw_okq (⟨"PaperHour$Tape", "fail", "(I)V"⟩, 6) := ⟨⟨by decide +kernel, by decide +kernel⟩, List.mem_of_getElem? (i := 46) (by decide +kernel), List.mem_of_getElem? (i := 396) (by decide +kernel), List.mem_of_getElem? (i := 397) (by decide +kernel)⟩
theorem lw_p14 : lw_okq (⟨"PaperHour$Tape", "readNumber", "(I)I"⟩, 6) := ⟨⟨by decide +kernel, by decide +kernel⟩, List.mem_of_getElem? (i := 46) (by decide +kernel), List.mem_of_getElem? (i := 400) (by decide +kernel), List.mem_of_getElem? (i := 401) (by decide +kernel)⟩
theorem lw_p15 : lw_okq (⟨"PaperHour$Tape", "readReader", "(LPaperHour$Town;)V"⟩, 6) := ⟨⟨by decide +kernel, by decide +kernel⟩, List.mem_of_getElem? (i := 46) (by decide +kernel), List.mem_of_getElem? (i := 407) (by decide +kernel), List.mem_of_getElem? (i := 408) (by decide +kernel)⟩
def lw_privs_1 : List (MethodName × Nat) := [(⟨"PaperHour", "found", "(I)I"⟩, 11), (⟨"PaperHour$Rows", "lay", "(III)V"⟩, 3), (⟨"PaperHour", "foundNothing", "(I)I"⟩, 11), (⟨"PaperHour$Rows", "findingOf", "(III)I"⟩, 3), (⟨"PaperHour$Rows", "isMissing", "(I)Z"⟩, 3), (⟨"PaperHour$Rows", "hasSpan", "(III)Z"⟩, 3), (⟨"PaperHour$Rows", "put", "(III)I"⟩, 3), (⟨"PaperHour$Rows", "takeAway", "(I)I"⟩, 3), (⟨"PaperHour$Tape", "append", "(I)Z"⟩, 6), (⟨"PaperHour$Tape", "readInto", "(LPaperHour$Town;)Z"⟩, 6), (⟨"PaperHour$Tape", "readLaw", "(LPaperHour$Town;)V"⟩, 6), (⟨"PaperHour$Tape", "readByte", "(I)V"⟩, 6), (⟨"PaperHour$Tape", "peek", "()I"⟩, 6), (⟨"PaperHour$Tape", "fail", "(I)V"⟩, 6), (⟨"PaperHour$Tape", "readNumber", "(I)I"⟩, 6), (⟨"PaperHour$Tape", "readReader", "(LPaperHour$Town;)V"⟩, 6)]
theorem lw_r1 : ∀ q ∈ lw_privs_1, lw_okq q := List.forall_mem_cons.mpr ⟨lw_p0, List.forall_mem_cons.mpr ⟨lw_p1, List.forall_mem_cons.mpr ⟨lw_p2, List.forall_mem_cons.mpr ⟨lw_p3, List.forall_mem_cons.mpr ⟨lw_p4, List.forall_mem_cons.mpr ⟨lw_p5, List.forall_mem_cons.mpr ⟨lw_p6, List.forall_mem_cons.mpr ⟨lw_p7, List.forall_mem_cons.mpr ⟨lw_p8, List.forall_mem_cons.mpr ⟨lw_p9, List.forall_mem_cons.mpr ⟨lw_p10, List.forall_mem_cons.mpr ⟨lw_p11, List.forall_mem_cons.mpr ⟨lw_p12, List.forall_mem_cons.mpr ⟨lw_p13, List.forall_mem_cons.mpr ⟨lw_p14, List.forall_mem_cons.mpr ⟨lw_p15, fun _ h => absurd h List.not_mem_nil⟩⟩⟩⟩⟩⟩⟩⟩⟩⟩⟩⟩⟩⟩⟩⟩
theorem lw_p16 : lw_okq (⟨"PaperHour$Town", "begin", "()V"⟩, 13) := ⟨⟨by decide +kernel, by decide +kernel⟩, List.mem_of_getElem? (i := 74) (by decide +kernel), List.mem_of_getElem? (i := 415) (by decide +kernel), List.mem_of_getElem? (i := 416) (by decide +kernel)⟩
theorem lw_p17 : lw_okq (⟨"PaperHour$Town", "copyStands", "(IIII)V"⟩, 13) := ⟨⟨by decide +kernel, by decide +kernel⟩, List.mem_of_getElem? (i := 74) (by decide +kernel), List.mem_of_getElem? (i := 419) (by decide +kernel), List.mem_of_getElem? (i := 420) (by decide +kernel)⟩
theorem lw_p18 : lw_okq (⟨"PaperHour$Town", "takeOver", "(LPaperHour$Town;)V"⟩, 13) := ⟨⟨by decide +kernel, by decide +kernel⟩, List.mem_of_getElem? (i := 74) (by decide +kernel), List.mem_of_getElem? (i := 423) (by decide +kernel), List.mem_of_getElem? (i := 424) (by decide +kernel)⟩
theorem lw_p19 : lw_okq (⟨"PaperHour$Acts", "forget", "()V"⟩, 3) := ⟨⟨by decide +kernel, by decide +kernel⟩, List.mem_of_getElem? (i := 154) (by decide +kernel), List.mem_of_getElem? (i := 428) (by decide +kernel), List.mem_of_getElem? (i := 429) (by decide +kernel)⟩
theorem lw_p20 : lw_okq (⟨"PaperHour$Town", "has", "(I)Z"⟩, 13) := ⟨⟨by decide +kernel, by decide +kernel⟩, List.mem_of_getElem? (i := 74) (by decide +kernel), List.mem_of_getElem? (i := 440) (by decide +kernel), List.mem_of_getElem? (i := 441) (by decide +kernel)⟩
theorem lw_p21 : lw_okq (⟨"PaperHour$Town", "canHave", "(I)Z"⟩, 13) := ⟨⟨by decide +kernel, by decide +kernel⟩, List.mem_of_getElem? (i := 74) (by decide +kernel), List.mem_of_getElem? (i := 444) (by decide +kernel), List.mem_of_getElem? (i := 445) (by decide +kernel)⟩
theorem lw_p22 : lw_okq (⟨"PaperHour$Town", "hasRead", "(I)Z"⟩, 13) := ⟨⟨by decide +kernel, by decide +kernel⟩, List.mem_of_getElem? (i := 74) (by decide +kernel), List.mem_of_getElem? (i := 449) (by decide +kernel), List.mem_of_getElem? (i := 450) (by decide +kernel)⟩
theorem lw_p23 : lw_okq (⟨"PaperHour$Town", "comes", "(I)I"⟩, 13) := ⟨⟨by decide +kernel, by decide +kernel⟩, List.mem_of_getElem? (i := 74) (by decide +kernel), List.mem_of_getElem? (i := 453) (by decide +kernel), List.mem_of_getElem? (i := 454) (by decide +kernel)⟩
theorem lw_p24 : lw_okq (⟨"PaperHour$Acts", "keep", "(LPaperHour$Town;I)V"⟩, 3) := ⟨⟨by decide +kernel, by decide +kernel⟩, List.mem_of_getElem? (i := 154) (by decide +kernel), List.mem_of_getElem? (i := 461) (by decide +kernel), List.mem_of_getElem? (i := 462) (by decide +kernel)⟩
theorem lw_p25 : lw_okq (⟨"PaperHour$Town", "hand", "(I)I"⟩, 13) := ⟨⟨by decide +kernel, by decide +kernel⟩, List.mem_of_getElem? (i := 74) (by decide +kernel), List.mem_of_getElem? (i := 466) (by decide +kernel), List.mem_of_getElem? (i := 467) (by decide +kernel)⟩
theorem lw_p26 : lw_okq (⟨"PaperHour$Town", "brings", "(I)I"⟩, 13) := ⟨⟨by decide +kernel, by decide +kernel⟩, List.mem_of_getElem? (i := 74) (by decide +kernel), List.mem_of_getElem? (i := 470) (by decide +kernel), List.mem_of_getElem? (i := 471) (by decide +kernel)⟩
theorem lw_p27 : lw_okq (⟨"PaperHour$Town", "neighbours", "(I)I"⟩, 13) := ⟨⟨by decide +kernel, by decide +kernel⟩, List.mem_of_getElem? (i := 74) (by decide +kernel), List.mem_of_getElem? (i := 477) (by decide +kernel), List.mem_of_getElem? (i := 478) (by decide +kernel)⟩
theorem lw_p28 : lw_okq (⟨"PaperHour$Acts", "takeBack", "(LPaperHour$Town;)V"⟩, 3) := ⟨⟨by decide +kernel, by decide +kernel⟩, List.mem_of_getElem? (i := 154) (by decide +kernel), List.mem_of_getElem? (i := 497) (by decide +kernel), List.mem_of_getElem? (i := 498) (by decide +kernel)⟩
theorem lw_p29 : lw_okq (⟨"PaperHour$Search", "forMost", "(LPaperHour$Town;)V"⟩, 10) := ⟨⟨by decide +kernel, by decide +kernel⟩, List.mem_of_getElem? (i := 172) (by decide +kernel), List.mem_of_getElem? (i := 518) (by decide +kernel), List.mem_of_getElem? (i := 519) (by decide +kernel)⟩
theorem lw_p30 : lw_okq (⟨"PaperHour$Town", "everybody", "()I"⟩, 13) := ⟨⟨by decide +kernel, by decide +kernel⟩, List.mem_of_getElem? (i := 74) (by decide +kernel), List.mem_of_getElem? (i := 523) (by decide +kernel), List.mem_of_getElem? (i := 524) (by decide +kernel)⟩
theorem lw_p31 : lw_okq (⟨"PaperHour$Search", "seek", "(II)V"⟩, 10) := ⟨⟨by decide +kernel, by decide +kernel⟩, List.mem_of_getElem? (i := 172) (by decide +kernel), List.mem_of_getElem? (i := 527) (by decide +kernel), List.mem_of_getElem? (i := 528) (by decide +kernel)⟩
def lw_privs_2 : List (MethodName × Nat) := [(⟨"PaperHour$Town", "begin", "()V"⟩, 13), (⟨"PaperHour$Town", "copyStands", "(IIII)V"⟩, 13), (⟨"PaperHour$Town", "takeOver", "(LPaperHour$Town;)V"⟩, 13), (⟨"PaperHour$Acts", "forget", "()V"⟩, 3), (⟨"PaperHour$Town", "has", "(I)Z"⟩, 13), (⟨"PaperHour$Town", "canHave", "(I)Z"⟩, 13), (⟨"PaperHour$Town", "hasRead", "(I)Z"⟩, 13), (⟨"PaperHour$Town", "comes", "(I)I"⟩, 13), (⟨"PaperHour$Acts", "keep", "(LPaperHour$Town;I)V"⟩, 3), (⟨"PaperHour$Town", "hand", "(I)I"⟩, 13), (⟨"PaperHour$Town", "brings", "(I)I"⟩, 13), (⟨"PaperHour$Town", "neighbours", "(I)I"⟩, 13), (⟨"PaperHour$Acts", "takeBack", "(LPaperHour$Town;)V"⟩, 3), (⟨"PaperHour$Search", "forMost", "(LPaperHour$Town;)V"⟩, 10), (⟨"PaperHour$Town", "everybody", "()I"⟩, 13), (⟨"PaperHour$Search", "seek", "(II)V"⟩, 10)]
theorem lw_r2 : ∀ q ∈ lw_privs_2, lw_okq q := List.forall_mem_cons.mpr ⟨lw_p16, List.forall_mem_cons.mpr ⟨lw_p17, List.forall_mem_cons.mpr ⟨lw_p18, List.forall_mem_cons.mpr ⟨lw_p19, List.forall_mem_cons.mpr ⟨lw_p20, List.forall_mem_cons.mpr ⟨lw_p21, List.forall_mem_cons.mpr ⟨lw_p22, List.forall_mem_cons.mpr ⟨lw_p23, List.forall_mem_cons.mpr ⟨lw_p24, List.forall_mem_cons.mpr ⟨lw_p25, List.forall_mem_cons.mpr ⟨lw_p26, List.forall_mem_cons.mpr ⟨lw_p27, List.forall_mem_cons.mpr ⟨lw_p28, List.forall_mem_cons.mpr ⟨lw_p29, List.forall_mem_cons.mpr ⟨lw_p30, List.forall_mem_cons.mpr ⟨lw_p31, fun _ h => absurd h List.not_mem_nil⟩⟩⟩⟩⟩⟩⟩⟩⟩⟩⟩⟩⟩⟩⟩⟩
theorem lw_p32 : lw_okq (⟨"PaperHour$Search", "weigh", "(I)V"⟩, 10) := ⟨⟨by decide +kernel, by decide +kernel⟩, List.mem_of_getElem? (i := 172) (by decide +kernel), List.mem_of_getElem? (i := 534) (by decide +kernel), List.mem_of_getElem? (i := 535) (by decide +kernel)⟩
theorem lw_p33 : lw_okq (⟨"PaperHour$Search", "keepRow", "(II)V"⟩, 10) := ⟨⟨by decide +kernel, by decide +kernel⟩, List.mem_of_getElem? (i := 172) (by decide +kernel), List.mem_of_getElem? (i := 538) (by decide +kernel), List.mem_of_getElem? (i := 539) (by decide +kernel)⟩
theorem lw_p34 : lw_okq (⟨"PaperHour$Search", "told", "(I)I"⟩, 10) := ⟨⟨by decide +kernel, by decide +kernel⟩, List.mem_of_getElem? (i := 172) (by decide +kernel), List.mem_of_getElem? (i := 547) (by decide +kernel), List.mem_of_getElem? (i := 548) (by decide +kernel)⟩
theorem lw_p35 : lw_okq (⟨"PaperHour$Search", "forSoonest", "(LPaperHour$Town;I)V"⟩, 10) := ⟨⟨by decide +kernel, by decide +kernel⟩, List.mem_of_getElem? (i := 172) (by decide +kernel), List.mem_of_getElem? (i := 557) (by decide +kernel), List.mem_of_getElem? (i := 558) (by decide +kernel)⟩
theorem lw_p36 : lw_okq (⟨"PaperHour$Search", "forSets", "(LPaperHour$Town;)V"⟩, 10) := ⟨⟨by decide +kernel, by decide +kernel⟩, List.mem_of_getElem? (i := 172) (by decide +kernel), List.mem_of_getElem? (i := 565) (by decide +kernel), List.mem_of_getElem? (i := 566) (by decide +kernel)⟩
theorem lw_p37 : lw_okq (⟨"PaperHour$Sharing", "of", "(ILPaperHour$Town;[I)V"⟩, 8) := ⟨⟨by decide +kernel, by decide +kernel⟩, List.mem_of_getElem? (i := 215) (by decide +kernel), List.mem_of_getElem? (i := 571) (by decide +kernel), List.mem_of_getElem? (i := 572) (by decide +kernel)⟩
theorem lw_p38 : lw_okq (⟨"PaperHour$Sharing", "weighShares", "()V"⟩, 8) := ⟨⟨by decide +kernel, by decide +kernel⟩, List.mem_of_getElem? (i := 215) (by decide +kernel), List.mem_of_getElem? (i := 579) (by decide +kernel), List.mem_of_getElem? (i := 580) (by decide +kernel)⟩
theorem lw_p39 : lw_okq (⟨"PaperHour$Town", "suppose", "(III)V"⟩, 13) := ⟨⟨by decide +kernel, by decide +kernel⟩, List.mem_of_getElem? (i := 74) (by decide +kernel), List.mem_of_getElem? (i := 592) (by decide +kernel), List.mem_of_getElem? (i := 593) (by decide +kernel)⟩
theorem lw_p40 : lw_okq (⟨"PaperHour$Town", "handAlong", "([III)I"⟩, 13) := ⟨⟨by decide +kernel, by decide +kernel⟩, List.mem_of_getElem? (i := 74) (by decide +kernel), List.mem_of_getElem? (i := 596) (by decide +kernel), List.mem_of_getElem? (i := 597) (by decide +kernel)⟩
theorem lw_p41 : lw_okq (⟨"PaperHour", "timesUntil", "(I[III)I"⟩, 11) := ⟨⟨by decide +kernel, by decide +kernel⟩, List.mem_of_getElem? (i := 14) (by decide +kernel), List.mem_of_getElem? (i := 607) (by decide +kernel), List.mem_of_getElem? (i := 608) (by decide +kernel)⟩
theorem lw_p42 : lw_okq (⟨"PaperHour", "imageNumber", "(I)LPaperHour$Town;"⟩, 11) := ⟨⟨by decide +kernel, by decide +kernel⟩, List.mem_of_getElem? (i := 14) (by decide +kernel), List.mem_of_getElem? (i := 629) (by decide +kernel), List.mem_of_getElem? (i := 630) (by decide +kernel)⟩
theorem lw_p43 : lw_okq (⟨"PaperHour$Asks", "of", "(LPaperHour$Town;I)V"⟩, 6) := ⟨⟨by decide +kernel, by decide +kernel⟩, List.mem_of_getElem? (i := 248) (by decide +kernel), List.mem_of_getElem? (i := 654) (by decide +kernel), List.mem_of_getElem? (i := 655) (by decide +kernel)⟩
theorem lw_p44 : lw_okq (⟨"PaperHour$Asks", "sizeAsked", "()I"⟩, 6) := ⟨⟨by decide +kernel, by decide +kernel⟩, List.mem_of_getElem? (i := 248) (by decide +kernel), List.mem_of_getElem? (i := 658) (by decide +kernel), List.mem_of_getElem? (i := 659) (by decide +kernel)⟩
theorem lw_p45 : lw_okq (⟨"PaperHour$Asks", "sizeAskedOfOld", "()I"⟩, 6) := ⟨⟨by decide +kernel, by decide +kernel⟩, List.mem_of_getElem? (i := 248) (by decide +kernel), List.mem_of_getElem? (i := 663) (by decide +kernel), List.mem_of_getElem? (i := 664) (by decide +kernel)⟩
theorem lw_p46 : lw_okq (⟨"PaperHour$Asks", "begins", "(I)V"⟩, 6) := ⟨⟨by decide +kernel, by decide +kernel⟩, List.mem_of_getElem? (i := 248) (by decide +kernel), List.mem_of_getElem? (i := 667) (by decide +kernel), List.mem_of_getElem? (i := 668) (by decide +kernel)⟩
theorem lw_p47 : lw_okq (⟨"PaperHour$Asks", "oldSize", "()I"⟩, 6) := ⟨⟨by decide +kernel, by decide +kernel⟩, List.mem_of_getElem? (i := 248) (by decide +kernel), List.mem_of_getElem? (i := 671) (by decide +kernel), List.mem_of_getElem? (i := 672) (by decide +kernel)⟩
def lw_privs_3 : List (MethodName × Nat) := [(⟨"PaperHour$Search", "weigh", "(I)V"⟩, 10), (⟨"PaperHour$Search", "keepRow", "(II)V"⟩, 10), (⟨"PaperHour$Search", "told", "(I)I"⟩, 10), (⟨"PaperHour$Search", "forSoonest", "(LPaperHour$Town;I)V"⟩, 10), (⟨"PaperHour$Search", "forSets", "(LPaperHour$Town;)V"⟩, 10), (⟨"PaperHour$Sharing", "of", "(ILPaperHour$Town;[I)V"⟩, 8), (⟨"PaperHour$Sharing", "weighShares", "()V"⟩, 8), (⟨"PaperHour$Town", "suppose", "(III)V"⟩, 13), (⟨"PaperHour$Town", "handAlong", "([III)I"⟩, 13), (⟨"PaperHour", "timesUntil", "(I[III)I"⟩, 11), (⟨"PaperHour", "imageNumber", "(I)LPaperHour$Town;"⟩, 11), (⟨"PaperHour$Asks", "of", "(LPaperHour$Town;I)V"⟩, 6), (⟨"PaperHour$Asks", "sizeAsked", "()I"⟩, 6), (⟨"PaperHour$Asks", "sizeAskedOfOld", "()I"⟩, 6), (⟨"PaperHour$Asks", "begins", "(I)V"⟩, 6), (⟨"PaperHour$Asks", "oldSize", "()I"⟩, 6)]
theorem lw_r3 : ∀ q ∈ lw_privs_3, lw_okq q := List.forall_mem_cons.mpr ⟨lw_p32, List.forall_mem_cons.mpr ⟨lw_p33, List.forall_mem_cons.mpr ⟨lw_p34, List.forall_mem_cons.mpr ⟨lw_p35, List.forall_mem_cons.mpr ⟨lw_p36, List.forall_mem_cons.mpr ⟨lw_p37, List.forall_mem_cons.mpr ⟨lw_p38, List.forall_mem_cons.mpr ⟨lw_p39, List.forall_mem_cons.mpr ⟨lw_p40, List.forall_mem_cons.mpr ⟨lw_p41, List.forall_mem_cons.mpr ⟨lw_p42, List.forall_mem_cons.mpr ⟨lw_p43, List.forall_mem_cons.mpr ⟨lw_p44, List.forall_mem_cons.mpr ⟨lw_p45, List.forall_mem_cons.mpr ⟨lw_p46, List.forall_mem_cons.mpr ⟨lw_p47, fun _ h => absurd h List.not_mem_nil⟩⟩⟩⟩⟩⟩⟩⟩⟩⟩⟩⟩⟩⟩⟩⟩
theorem lw_p48 : lw_okq (⟨"PaperHour$Asks", "lentSize", "()I"⟩, 6) := ⟨⟨by decide +kernel, by decide +kernel⟩, List.mem_of_getElem? (i := 248) (by decide +kernel), List.mem_of_getElem? (i := 675) (by decide +kernel), List.mem_of_getElem? (i := 676) (by decide +kernel)⟩
theorem lw_p49 : lw_okq (⟨"PaperHour$Asks", "sizeAskedOfFresh", "()I"⟩, 6) := ⟨⟨by decide +kernel, by decide +kernel⟩, List.mem_of_getElem? (i := 248) (by decide +kernel), List.mem_of_getElem? (i := 679) (by decide +kernel), List.mem_of_getElem? (i := 680) (by decide +kernel)⟩
theorem lw_p50 : lw_okq (⟨"PaperHour$Asks", "freshSize", "()I"⟩, 6) := ⟨⟨by decide +kernel, by decide +kernel⟩, List.mem_of_getElem? (i := 248) (by decide +kernel), List.mem_of_getElem? (i := 683) (by decide +kernel), List.mem_of_getElem? (i := 684) (by decide +kernel)⟩
theorem lw_p51 : lw_okq (⟨"PaperHour$Asks", "markAskedOfFresh", "()I"⟩, 6) := ⟨⟨by decide +kernel, by decide +kernel⟩, List.mem_of_getElem? (i := 248) (by decide +kernel), List.mem_of_getElem? (i := 687) (by decide +kernel), List.mem_of_getElem? (i := 688) (by decide +kernel)⟩
theorem lw_p52 : lw_okq (⟨"PaperHour$Asks", "freshMark", "()I"⟩, 6) := ⟨⟨by decide +kernel, by decide +kernel⟩, List.mem_of_getElem? (i := 248) (by decide +kernel), List.mem_of_getElem? (i := 691) (by decide +kernel), List.mem_of_getElem? (i := 692) (by decide +kernel)⟩
theorem lw_p53 : lw_okq (⟨"PaperHour$Asks", "lentMark", "()I"⟩, 6) := ⟨⟨by decide +kernel, by decide +kernel⟩, List.mem_of_getElem? (i := 248) (by decide +kernel), List.mem_of_getElem? (i := 695) (by decide +kernel), List.mem_of_getElem? (i := 696) (by decide +kernel)⟩
theorem lw_p54 : lw_okq (⟨"PaperHour$Asks", "markAsked", "()I"⟩, 6) := ⟨⟨by decide +kernel, by decide +kernel⟩, List.mem_of_getElem? (i := 248) (by decide +kernel), List.mem_of_getElem? (i := 699) (by decide +kernel), List.mem_of_getElem? (i := 700) (by decide +kernel)⟩
theorem lw_p55 : lw_okq (⟨"PaperHour$Asks", "oldMark", "()I"⟩, 6) := ⟨⟨by decide +kernel, by decide +kernel⟩, List.mem_of_getElem? (i := 248) (by decide +kernel), List.mem_of_getElem? (i := 703) (by decide +kernel), List.mem_of_getElem? (i := 704) (by decide +kernel)⟩
theorem lw_p56 : lw_okq (⟨"PaperHour$Rows", "howMany", "()I"⟩, 3) := ⟨⟨by decide +kernel, by decide +kernel⟩, List.mem_of_getElem? (i := 22) (by decide +kernel), List.mem_of_getElem? (i := 715) (by decide +kernel), List.mem_of_getElem? (i := 716) (by decide +kernel)⟩
theorem lw_p57 : lw_okq (⟨"PaperHourModel", "finds", "(I)I"⟩, 28) := ⟨⟨by decide +kernel, by decide +kernel⟩, List.mem_of_getElem? (i := 723) (by decide +kernel), List.mem_of_getElem? (i := 826) (by decide +kernel), List.mem_of_getElem? (i := 827) (by decide +kernel)⟩
theorem lw_p58 : lw_okq (⟨"PaperHourModel", "done", "(I)I"⟩, 28) := ⟨⟨by decide +kernel, by decide +kernel⟩, List.mem_of_getElem? (i := 723) (by decide +kernel), List.mem_of_getElem? (i := 831) (by decide +kernel), List.mem_of_getElem? (i := 832) (by decide +kernel)⟩
theorem lw_p59 : lw_okq (⟨"PaperHourModel", "isRead", "()Z"⟩, 28) := ⟨⟨by decide +kernel, by decide +kernel⟩, List.mem_of_getElem? (i := 723) (by decide +kernel), List.mem_of_getElem? (i := 859) (by decide +kernel), List.mem_of_getElem? (i := 860) (by decide +kernel)⟩
theorem lw_p60 : lw_okq (⟨"PaperHourModel", "isSign", "(I)Z"⟩, 28) := ⟨⟨by decide +kernel, by decide +kernel⟩, List.mem_of_getElem? (i := 723) (by decide +kernel), List.mem_of_getElem? (i := 863) (by decide +kernel), List.mem_of_getElem? (i := 864) (by decide +kernel)⟩
theorem lw_p61 : lw_okq (⟨"PaperHourModel", "nextToken", "()V"⟩, 28) := ⟨⟨by decide +kernel, by decide +kernel⟩, List.mem_of_getElem? (i := 723) (by decide +kernel), List.mem_of_getElem? (i := 867) (by decide +kernel), List.mem_of_getElem? (i := 868) (by decide +kernel)⟩
theorem lw_p62 : lw_okq (⟨"PaperHourModel", "fails", "(I)Z"⟩, 28) := ⟨⟨by decide +kernel, by decide +kernel⟩, List.mem_of_getElem? (i := 723) (by decide +kernel), List.mem_of_getElem? (i := 871) (by decide +kernel), List.mem_of_getElem? (i := 872) (by decide +kernel)⟩
theorem lw_p63 : lw_okq (⟨"PaperHourModel", "isThree", "(IIIIII)Z"⟩, 28) := ⟨⟨by decide +kernel, by decide +kernel⟩, List.mem_of_getElem? (i := 723) (by decide +kernel), List.mem_of_getElem? (i := 875) (by decide +kernel), List.mem_of_getElem? (i := 876) (by decide +kernel)⟩
def lw_privs_4 : List (MethodName × Nat) := [(⟨"PaperHour$Asks", "lentSize", "()I"⟩, 6), (⟨"PaperHour$Asks", "sizeAskedOfFresh", "()I"⟩, 6), (⟨"PaperHour$Asks", "freshSize", "()I"⟩, 6), (⟨"PaperHour$Asks", "markAskedOfFresh", "()I"⟩, 6), (⟨"PaperHour$Asks", "freshMark", "()I"⟩, 6), (⟨"PaperHour$Asks", "lentMark", "()I"⟩, 6), (⟨"PaperHour$Asks", "markAsked", "()I"⟩, 6), (⟨"PaperHour$Asks", "oldMark", "()I"⟩, 6), (⟨"PaperHour$Rows", "howMany", "()I"⟩, 3), (⟨"PaperHourModel", "finds", "(I)I"⟩, 28), (⟨"PaperHourModel", "done", "(I)I"⟩, 28), (⟨"PaperHourModel", "isRead", "()Z"⟩, 28), (⟨"PaperHourModel", "isSign", "(I)Z"⟩, 28), (⟨"PaperHourModel", "nextToken", "()V"⟩, 28), (⟨"PaperHourModel", "fails", "(I)Z"⟩, 28), (⟨"PaperHourModel", "isThree", "(IIIIII)Z"⟩, 28)]
theorem lw_r4 : ∀ q ∈ lw_privs_4, lw_okq q := List.forall_mem_cons.mpr ⟨lw_p48, List.forall_mem_cons.mpr ⟨lw_p49, List.forall_mem_cons.mpr ⟨lw_p50, List.forall_mem_cons.mpr ⟨lw_p51, List.forall_mem_cons.mpr ⟨lw_p52, List.forall_mem_cons.mpr ⟨lw_p53, List.forall_mem_cons.mpr ⟨lw_p54, List.forall_mem_cons.mpr ⟨lw_p55, List.forall_mem_cons.mpr ⟨lw_p56, List.forall_mem_cons.mpr ⟨lw_p57, List.forall_mem_cons.mpr ⟨lw_p58, List.forall_mem_cons.mpr ⟨lw_p59, List.forall_mem_cons.mpr ⟨lw_p60, List.forall_mem_cons.mpr ⟨lw_p61, List.forall_mem_cons.mpr ⟨lw_p62, List.forall_mem_cons.mpr ⟨lw_p63, fun _ h => absurd h List.not_mem_nil⟩⟩⟩⟩⟩⟩⟩⟩⟩⟩⟩⟩⟩⟩⟩⟩
theorem lw_p64 : lw_okq (⟨"PaperHourModel", "isNumber", "(II)Z"⟩, 28) := ⟨⟨by decide +kernel, by decide +kernel⟩, List.mem_of_getElem? (i := 723) (by decide +kernel), List.mem_of_getElem? (i := 879) (by decide +kernel), List.mem_of_getElem? (i := 880) (by decide +kernel)⟩
theorem lw_p65 : lw_okq (⟨"PaperHourModel", "isReader", "()Z"⟩, 28) := ⟨⟨by decide +kernel, by decide +kernel⟩, List.mem_of_getElem? (i := 723) (by decide +kernel), List.mem_of_getElem? (i := 883) (by decide +kernel), List.mem_of_getElem? (i := 884) (by decide +kernel)⟩
theorem lw_p66 : lw_okq (⟨"PaperHourModel", "isOne", "(I)Z"⟩, 28) := ⟨⟨by decide +kernel, by decide +kernel⟩, List.mem_of_getElem? (i := 723) (by decide +kernel), List.mem_of_getElem? (i := 902) (by decide +kernel), List.mem_of_getElem? (i := 903) (by decide +kernel)⟩
theorem lw_p67 : lw_okq (⟨"PaperHourModel", "note", "()V"⟩, 28) := ⟨⟨by decide +kernel, by decide +kernel⟩, List.mem_of_getElem? (i := 723) (by decide +kernel), List.mem_of_getElem? (i := 916) (by decide +kernel), List.mem_of_getElem? (i := 917) (by decide +kernel)⟩
theorem lw_p68 : lw_okq (⟨"PaperHourModel", "isTown", "()Z"⟩, 28) := ⟨⟨by decide +kernel, by decide +kernel⟩, List.mem_of_getElem? (i := 723) (by decide +kernel), List.mem_of_getElem? (i := 930) (by decide +kernel), List.mem_of_getElem? (i := 931) (by decide +kernel)⟩
theorem lw_p69 : lw_okq (⟨"PaperHourModel", "keepRow", "(II)V"⟩, 28) := ⟨⟨by decide +kernel, by decide +kernel⟩, List.mem_of_getElem? (i := 723) (by decide +kernel), List.mem_of_getElem? (i := 959) (by decide +kernel), List.mem_of_getElem? (i := 960) (by decide +kernel)⟩
theorem lw_p70 : lw_okq (⟨"PaperHourModel", "rowsOf", "(I)I"⟩, 28) := ⟨⟨by decide +kernel, by decide +kernel⟩, List.mem_of_getElem? (i := 723) (by decide +kernel), List.mem_of_getElem? (i := 963) (by decide +kernel), List.mem_of_getElem? (i := 964) (by decide +kernel)⟩
theorem lw_p71 : lw_okq (⟨"PaperHourModel", "layRow", "(II)I"⟩, 28) := ⟨⟨by decide +kernel, by decide +kernel⟩, List.mem_of_getElem? (i := 723) (by decide +kernel), List.mem_of_getElem? (i := 967) (by decide +kernel), List.mem_of_getElem? (i := 968) (by decide +kernel)⟩
theorem lw_p72 : lw_okq (⟨"PaperHourModel", "begin", "()V"⟩, 28) := ⟨⟨by decide +kernel, by decide +kernel⟩, List.mem_of_getElem? (i := 723) (by decide +kernel), List.mem_of_getElem? (i := 974) (by decide +kernel), List.mem_of_getElem? (i := 975) (by decide +kernel)⟩
theorem lw_p73 : lw_okq (⟨"PaperHourModel", "goesOn", "([II)Z"⟩, 28) := ⟨⟨by decide +kernel, by decide +kernel⟩, List.mem_of_getElem? (i := 723) (by decide +kernel), List.mem_of_getElem? (i := 978) (by decide +kernel), List.mem_of_getElem? (i := 979) (by decide +kernel)⟩
theorem lw_p74 : lw_okq (⟨"PaperHourModel", "laySets", "()V"⟩, 28) := ⟨⟨by decide +kernel, by decide +kernel⟩, List.mem_of_getElem? (i := 723) (by decide +kernel), List.mem_of_getElem? (i := 990) (by decide +kernel), List.mem_of_getElem? (i := 991) (by decide +kernel)⟩
theorem lw_p75 : lw_okq (⟨"PaperHourModel", "earnedBy", "(II)I"⟩, 28) := ⟨⟨by decide +kernel, by decide +kernel⟩, List.mem_of_getElem? (i := 723) (by decide +kernel), List.mem_of_getElem? (i := 994) (by decide +kernel), List.mem_of_getElem? (i := 995) (by decide +kernel)⟩
theorem lw_p76 : lw_okq (⟨"PaperHourModel", "takeOut", "(III)I"⟩, 28) := ⟨⟨by decide +kernel, by decide +kernel⟩, List.mem_of_getElem? (i := 723) (by decide +kernel), List.mem_of_getElem? (i := 1002) (by decide +kernel), List.mem_of_getElem? (i := 1003) (by decide +kernel)⟩
theorem lw_p77 : lw_okq (⟨"PaperHourModel", "isSo", "(II)Z"⟩, 28) := ⟨⟨by decide +kernel, by decide +kernel⟩, List.mem_of_getElem? (i := 723) (by decide +kernel), List.mem_of_getElem? (i := 1006) (by decide +kernel), List.mem_of_getElem? (i := 1007) (by decide +kernel)⟩
theorem lw_p78 : lw_okq (⟨"PaperHourModel", "sizeOf", "(I)I"⟩, 28) := ⟨⟨by decide +kernel, by decide +kernel⟩, List.mem_of_getElem? (i := 723) (by decide +kernel), List.mem_of_getElem? (i := 1044) (by decide +kernel), List.mem_of_getElem? (i := 1045) (by decide +kernel)⟩
theorem lw_p79 : lw_okq (⟨"PaperHourModel", "begins", "(I)V"⟩, 28) := ⟨⟨by decide +kernel, by decide +kernel⟩, List.mem_of_getElem? (i := 723) (by decide +kernel), List.mem_of_getElem? (i := 1048) (by decide +kernel), List.mem_of_getElem? (i := 1049) (by decide +kernel)⟩
def lw_privs_5 : List (MethodName × Nat) := [(⟨"PaperHourModel", "isNumber", "(II)Z"⟩, 28), (⟨"PaperHourModel", "isReader", "()Z"⟩, 28), (⟨"PaperHourModel", "isOne", "(I)Z"⟩, 28), (⟨"PaperHourModel", "note", "()V"⟩, 28), (⟨"PaperHourModel", "isTown", "()Z"⟩, 28), (⟨"PaperHourModel", "keepRow", "(II)V"⟩, 28), (⟨"PaperHourModel", "rowsOf", "(I)I"⟩, 28), (⟨"PaperHourModel", "layRow", "(II)I"⟩, 28), (⟨"PaperHourModel", "begin", "()V"⟩, 28), (⟨"PaperHourModel", "goesOn", "([II)Z"⟩, 28), (⟨"PaperHourModel", "laySets", "()V"⟩, 28), (⟨"PaperHourModel", "earnedBy", "(II)I"⟩, 28), (⟨"PaperHourModel", "takeOut", "(III)I"⟩, 28), (⟨"PaperHourModel", "isSo", "(II)Z"⟩, 28), (⟨"PaperHourModel", "sizeOf", "(I)I"⟩, 28), (⟨"PaperHourModel", "begins", "(I)V"⟩, 28)]
theorem lw_r5 : ∀ q ∈ lw_privs_5, lw_okq q := List.forall_mem_cons.mpr ⟨lw_p64, List.forall_mem_cons.mpr ⟨lw_p65, List.forall_mem_cons.mpr ⟨lw_p66, List.forall_mem_cons.mpr ⟨lw_p67, List.forall_mem_cons.mpr ⟨lw_p68, List.forall_mem_cons.mpr ⟨lw_p69, List.forall_mem_cons.mpr ⟨lw_p70, List.forall_mem_cons.mpr ⟨lw_p71, List.forall_mem_cons.mpr ⟨lw_p72, List.forall_mem_cons.mpr ⟨lw_p73, List.forall_mem_cons.mpr ⟨lw_p74, List.forall_mem_cons.mpr ⟨lw_p75, List.forall_mem_cons.mpr ⟨lw_p76, List.forall_mem_cons.mpr ⟨lw_p77, List.forall_mem_cons.mpr ⟨lw_p78, List.forall_mem_cons.mpr ⟨lw_p79, fun _ h => absurd h List.not_mem_nil⟩⟩⟩⟩⟩⟩⟩⟩⟩⟩⟩⟩⟩⟩⟩⟩
theorem lw_p80 : lw_okq (⟨"PaperHourModel", "sizeOld", "(I)I"⟩, 28) := ⟨⟨by decide +kernel, by decide +kernel⟩, List.mem_of_getElem? (i := 723) (by decide +kernel), List.mem_of_getElem? (i := 1052) (by decide +kernel), List.mem_of_getElem? (i := 1053) (by decide +kernel)⟩
theorem lw_p81 : lw_okq (⟨"PaperHourModel", "markNew", "(I)I"⟩, 28) := ⟨⟨by decide +kernel, by decide +kernel⟩, List.mem_of_getElem? (i := 723) (by decide +kernel), List.mem_of_getElem? (i := 1056) (by decide +kernel), List.mem_of_getElem? (i := 1057) (by decide +kernel)⟩
theorem lw_p82 : lw_okq (⟨"PaperHourModel", "markFresh", "(I)I"⟩, 28) := ⟨⟨by decide +kernel, by decide +kernel⟩, List.mem_of_getElem? (i := 723) (by decide +kernel), List.mem_of_getElem? (i := 1060) (by decide +kernel), List.mem_of_getElem? (i := 1061) (by decide +kernel)⟩
theorem lw_p83 : lw_okq (⟨"PaperHourModel", "markOf", "(I)I"⟩, 28) := ⟨⟨by decide +kernel, by decide +kernel⟩, List.mem_of_getElem? (i := 723) (by decide +kernel), List.mem_of_getElem? (i := 1064) (by decide +kernel), List.mem_of_getElem? (i := 1065) (by decide +kernel)⟩
def lw_privs_6 : List (MethodName × Nat) := [(⟨"PaperHourModel", "sizeOld", "(I)I"⟩, 28), (⟨"PaperHourModel", "markNew", "(I)I"⟩, 28), (⟨"PaperHourModel", "markFresh", "(I)I"⟩, 28), (⟨"PaperHourModel", "markOf", "(I)I"⟩, 28)]
theorem lw_r6 : ∀ q ∈ lw_privs_6, lw_okq q := List.forall_mem_cons.mpr ⟨lw_p80, List.forall_mem_cons.mpr ⟨lw_p81, List.forall_mem_cons.mpr ⟨lw_p82, List.forall_mem_cons.mpr ⟨lw_p83, fun _ h => absurd h List.not_mem_nil⟩⟩⟩⟩
def lw_privs : List (MethodName × Nat) := lw_privs_1 ++ (lw_privs_2 ++ (lw_privs_3 ++ (lw_privs_4 ++ (lw_privs_5 ++ (lw_privs_6)))))
def lw_tbl : List Cond := k2_sels lw_privs ++ tables_1
theorem lw_privs_ok : ∀ q ∈ lw_privs, lw_okq q := by
  show ∀ q ∈ lw_privs_1 ++ (lw_privs_2 ++ (lw_privs_3 ++ (lw_privs_4 ++ (lw_privs_5 ++ (lw_privs_6))))), lw_okq q
  exact List.forall_mem_append.mpr ⟨lw_r1, List.forall_mem_append.mpr ⟨lw_r2, List.forall_mem_append.mpr ⟨lw_r3, List.forall_mem_append.mpr ⟨lw_r4, List.forall_mem_append.mpr ⟨lw_r5, lw_r6⟩⟩⟩⟩⟩

def RX0 : String := "PaperHour$Acts"
def TX0 : u_T := fun k => match k with
  | 0 => ("PaperHour$Acts", "ahead", "[[I", true)
  | 1 => ("PaperHour$Acts", "oldest", "I", false)
  | _ => ("PaperHour$Acts", "kept", "I", false)
def tyX0 : Nat → FieldType := fun k => match k with
  | 0 => .array (.array .int)
  | 1 => .int
  | _ => .int
abbrev wsX00 : List Cond := u_ws RX0 TX0 3
theorem nmX0 : ∀ a, a < 3 → ∀ b, b < 3 → a ≠ b → (TX0 a).2.1 ≠ (TX0 b).2.1 := by decide +kernel
theorem tyX0_ok : ∀ k, k < 3 → parseFieldDescriptor (TX0 k).2.2.1 = some (tyX0 k) := by decide +kernel
abbrev cX0_init : ByteArray := prog_2_method_1_code
def yX0_init : MethodName := ⟨RX0, "<init>", "()V"⟩
abbrev cX0_forget : ByteArray := prog_2_method_2_code
def yX0_forget : MethodName := ⟨RX0, "forget", "()V"⟩
abbrev cX0_keep : ByteArray := prog_2_method_3_code
def yX0_keep : MethodName := ⟨RX0, "keep", "(LPaperHour$Town;I)V"⟩
abbrev cX0_takeBack : ByteArray := prog_2_method_4_code
def yX0_takeBack : MethodName := ⟨RX0, "takeBack", "(LPaperHour$Town;)V"⟩
def RX1 : String := "PaperHour$Asks"
def TX1 : u_T := fun k => match k with
  | 0 => ("PaperHour$Asks", "bodies", "[I", true)
  | 1 => ("PaperHour$Asks", "begun", "I", false)
  | 2 => ("PaperHour$Asks", "sort", "I", false)
  | 3 => ("PaperHour$Asks", "number", "I", false)
  | 4 => ("PaperHour$Asks", "worth", "I", false)
  | _ => ("PaperHour$Asks", "place", "I", false)
def tyX1 : Nat → FieldType := fun k => match k with
  | 0 => .array .int
  | 1 => .int
  | 2 => .int
  | 3 => .int
  | 4 => .int
  | _ => .int
abbrev wsX10 : List Cond := u_ws RX1 TX1 6
theorem nmX1 : ∀ a, a < 6 → ∀ b, b < 6 → a ≠ b → (TX1 a).2.1 ≠ (TX1 b).2.1 := by decide +kernel
theorem tyX1_ok : ∀ k, k < 6 → parseFieldDescriptor (TX1 k).2.2.1 = some (tyX1 k) := by decide +kernel
abbrev cX1_init : ByteArray := prog_3_method_1_code
def yX1_init : MethodName := ⟨RX1, "<init>", "()V"⟩
abbrev cX1_of : ByteArray := prog_3_method_2_code
def yX1_of : MethodName := ⟨RX1, "of", "(LPaperHour$Town;I)V"⟩
abbrev cX1_begins : ByteArray := prog_3_method_3_code
def yX1_begins : MethodName := ⟨RX1, "begins", "(I)V"⟩
abbrev cX1_sizeAsked : ByteArray := prog_3_method_4_code
def yX1_sizeAsked : MethodName := ⟨RX1, "sizeAsked", "()I"⟩
abbrev cX1_markAsked : ByteArray := prog_3_method_5_code
def yX1_markAsked : MethodName := ⟨RX1, "markAsked", "()I"⟩
abbrev cX1_sizeAskedOfFresh : ByteArray := prog_3_method_6_code
def yX1_sizeAskedOfFresh : MethodName := ⟨RX1, "sizeAskedOfFresh", "()I"⟩
abbrev cX1_sizeAskedOfOld : ByteArray := prog_3_method_7_code
def yX1_sizeAskedOfOld : MethodName := ⟨RX1, "sizeAskedOfOld", "()I"⟩
abbrev cX1_markAskedOfFresh : ByteArray := prog_3_method_8_code
def yX1_markAskedOfFresh : MethodName := ⟨RX1, "markAskedOfFresh", "()I"⟩
abbrev cX1_lentSize : ByteArray := prog_3_method_9_code
def yX1_lentSize : MethodName := ⟨RX1, "lentSize", "()I"⟩
abbrev cX1_freshSize : ByteArray := prog_3_method_10_code
def yX1_freshSize : MethodName := ⟨RX1, "freshSize", "()I"⟩
abbrev cX1_oldSize : ByteArray := prog_3_method_11_code
def yX1_oldSize : MethodName := ⟨RX1, "oldSize", "()I"⟩
abbrev cX1_lentMark : ByteArray := prog_3_method_12_code
def yX1_lentMark : MethodName := ⟨RX1, "lentMark", "()I"⟩
abbrev cX1_freshMark : ByteArray := prog_3_method_13_code
def yX1_freshMark : MethodName := ⟨RX1, "freshMark", "()I"⟩
abbrev cX1_oldMark : ByteArray := prog_3_method_14_code
def yX1_oldMark : MethodName := ⟨RX1, "oldMark", "()I"⟩
def RX2 : String := "PaperHour$Rows"
def TX2 : u_T := fun k => match k with
  | 0 => ("PaperHour$Rows", "lane", "[I", true)
  | 1 => ("PaperHour$Rows", "size", "[I", true)
  | _ => ("PaperHour$Rows", "items", "[[I", true)
def tyX2 : Nat → FieldType := fun k => match k with
  | 0 => .array .int
  | 1 => .array .int
  | _ => .array (.array .int)
abbrev wsX20 : List Cond := u_ws RX2 TX2 3
theorem nmX2 : ∀ a, a < 3 → ∀ b, b < 3 → a ≠ b → (TX2 a).2.1 ≠ (TX2 b).2.1 := by decide +kernel
theorem tyX2_ok : ∀ k, k < 3 → parseFieldDescriptor (TX2 k).2.2.1 = some (tyX2 k) := by decide +kernel
abbrev cX2_init : ByteArray := prog_4_method_1_code
def yX2_init : MethodName := ⟨RX2, "<init>", "()V"⟩
abbrev cX2_isNumber : ByteArray := prog_4_method_2_code
def yX2_isNumber : MethodName := ⟨RX2, "isNumber", "(I)Z"⟩
abbrev cX2_isMissing : ByteArray := prog_4_method_3_code
def yX2_isMissing : MethodName := ⟨RX2, "isMissing", "(I)Z"⟩
abbrev cX2_hasSpan : ByteArray := prog_4_method_4_code
def yX2_hasSpan : MethodName := ⟨RX2, "hasSpan", "(III)Z"⟩
abbrev cX2_findingOf : ByteArray := prog_4_method_5_code
def yX2_findingOf : MethodName := ⟨RX2, "findingOf", "(III)I"⟩
abbrev cX2_lay : ByteArray := prog_4_method_6_code
def yX2_lay : MethodName := ⟨RX2, "lay", "(III)V"⟩
abbrev cX2_put : ByteArray := prog_4_method_7_code
def yX2_put : MethodName := ⟨RX2, "put", "(III)I"⟩
abbrev cX2_takeAway : ByteArray := prog_4_method_8_code
def yX2_takeAway : MethodName := ⟨RX2, "takeAway", "(I)I"⟩
abbrev cX2_howMany : ByteArray := prog_4_method_9_code
def yX2_howMany : MethodName := ⟨RX2, "howMany", "()I"⟩
def RX3 : String := "PaperHour$Search"
def TX3 : u_T := fun k => match k with
  | 0 => ("PaperHour$Search", "town", "LPaperHour$Town;", true)
  | 1 => ("PaperHour$Search", "row", "[I", true)
  | 2 => ("PaperHour$Search", "aim", "I", false)
  | 3 => ("PaperHour$Search", "among", "I", false)
  | 4 => ("PaperHour$Search", "earnedAhead", "I", false)
  | 5 => ("PaperHour$Search", "kept", "[I", true)
  | 6 => ("PaperHour$Search", "length", "I", false)
  | 7 => ("PaperHour$Search", "found", "Z", false)
  | 8 => ("PaperHour$Search", "figure", "I", false)
  | _ => ("PaperHour$Search", "mostOfSet", "[I", true)
def tyX3 : Nat → FieldType := fun k => match k with
  | 0 => .object "PaperHour$Town"
  | 1 => .array .int
  | 2 => .int
  | 3 => .int
  | 4 => .int
  | 5 => .array .int
  | 6 => .int
  | 7 => .boolean
  | 8 => .int
  | _ => .array .int
abbrev wsX30 : List Cond := u_ws RX3 TX3 10
theorem nmX3 : ∀ a, a < 10 → ∀ b, b < 10 → a ≠ b → (TX3 a).2.1 ≠ (TX3 b).2.1 := by decide +kernel
theorem tyX3_ok : ∀ k, k < 10 → parseFieldDescriptor (TX3 k).2.2.1 = some (tyX3 k) := by decide +kernel
abbrev cX3_init : ByteArray := prog_5_method_1_code
def yX3_init : MethodName := ⟨RX3, "<init>", "()V"⟩
abbrev cX3_forMost : ByteArray := prog_5_method_2_code
def yX3_forMost : MethodName := ⟨RX3, "forMost", "(LPaperHour$Town;)V"⟩
abbrev cX3_forSoonest : ByteArray := prog_5_method_3_code
def yX3_forSoonest : MethodName := ⟨RX3, "forSoonest", "(LPaperHour$Town;I)V"⟩
abbrev cX3_forSets : ByteArray := prog_5_method_4_code
def yX3_forSets : MethodName := ⟨RX3, "forSets", "(LPaperHour$Town;)V"⟩
abbrev cX3_seek : ByteArray := prog_5_method_5_code
def yX3_seek : MethodName := ⟨RX3, "seek", "(II)V"⟩
abbrev cX3_tryRows : ByteArray := prog_5_method_6_code
def yX3_tryRows : MethodName := ⟨RX3, "tryRows", "(LPaperHour$Search;I)V"⟩
abbrev cX3_weigh : ByteArray := prog_5_method_7_code
def yX3_weigh : MethodName := ⟨RX3, "weigh", "(I)V"⟩
abbrev cX3_keepRow : ByteArray := prog_5_method_8_code
def yX3_keepRow : MethodName := ⟨RX3, "keepRow", "(II)V"⟩
abbrev cX3_told : ByteArray := prog_5_method_9_code
def yX3_told : MethodName := ⟨RX3, "told", "(I)I"⟩
def RX4 : String := "PaperHour$Sharing"
def TX4 : u_T := fun k => match k with
  | 0 => ("PaperHour$Sharing", "which", "[I", true)
  | 1 => ("PaperHour$Sharing", "held", "[I", true)
  | 2 => ("PaperHour$Sharing", "chosen", "[I", true)
  | 3 => ("PaperHour$Sharing", "mostOfSet", "[I", false)
  | 4 => ("PaperHour$Sharing", "m", "I", false)
  | 5 => ("PaperHour$Sharing", "readers", "I", false)
  | 6 => ("PaperHour$Sharing", "most", "I", false)
  | _ => ("PaperHour$Sharing", "found", "Z", false)
def tyX4 : Nat → FieldType := fun k => match k with
  | 0 => .array .int
  | 1 => .array .int
  | 2 => .array .int
  | 3 => .array .int
  | 4 => .int
  | 5 => .int
  | 6 => .int
  | _ => .boolean
abbrev wsX40 : List Cond := u_ws RX4 TX4 8
theorem nmX4 : ∀ a, a < 8 → ∀ b, b < 8 → a ≠ b → (TX4 a).2.1 ≠ (TX4 b).2.1 := by decide +kernel
theorem tyX4_ok : ∀ k, k < 8 → parseFieldDescriptor (TX4 k).2.2.1 = some (tyX4 k) := by decide +kernel
abbrev cX4_init : ByteArray := prog_6_method_1_code
def yX4_init : MethodName := ⟨RX4, "<init>", "()V"⟩
abbrev cX4_of : ByteArray := prog_6_method_2_code
def yX4_of : MethodName := ⟨RX4, "of", "(ILPaperHour$Town;[I)V"⟩
abbrev cX4_share : ByteArray := prog_6_method_3_code
def yX4_share : MethodName := ⟨RX4, "share", "(LPaperHour$Sharing;I)V"⟩
abbrev cX4_weighShares : ByteArray := prog_6_method_4_code
def yX4_weighShares : MethodName := ⟨RX4, "weighShares", "()V"⟩
def RX5 : String := "PaperHour$Tape"
def TX5 : u_T := fun k => match k with
  | 0 => ("PaperHour$Tape", "bytes", "[I", true)
  | 1 => ("PaperHour$Tape", "length", "I", false)
  | 2 => ("PaperHour$Tape", "next", "I", false)
  | 3 => ("PaperHour$Tape", "fault", "I", false)
  | 4 => ("PaperHour$Tape", "faultPlace", "I", false)
  | _ => ("PaperHour$Tape", "whole", "Z", false)
def tyX5 : Nat → FieldType := fun k => match k with
  | 0 => .array .int
  | 1 => .int
  | 2 => .int
  | 3 => .int
  | 4 => .int
  | _ => .boolean
abbrev wsX50 : List Cond := u_ws RX5 TX5 6
theorem nmX5 : ∀ a, a < 6 → ∀ b, b < 6 → a ≠ b → (TX5 a).2.1 ≠ (TX5 b).2.1 := by decide +kernel
theorem tyX5_ok : ∀ k, k < 6 → parseFieldDescriptor (TX5 k).2.2.1 = some (tyX5 k) := by decide +kernel
abbrev cX5_init : ByteArray := prog_7_method_1_code
def yX5_init : MethodName := ⟨RX5, "<init>", "()V"⟩
abbrev cX5_append : ByteArray := prog_7_method_2_code
def yX5_append : MethodName := ⟨RX5, "append", "(I)Z"⟩
abbrev cX5_readInto : ByteArray := prog_7_method_3_code
def yX5_readInto : MethodName := ⟨RX5, "readInto", "(LPaperHour$Town;)Z"⟩
abbrev cX5_readLaw : ByteArray := prog_7_method_4_code
def yX5_readLaw : MethodName := ⟨RX5, "readLaw", "(LPaperHour$Town;)V"⟩
abbrev cX5_readReader : ByteArray := prog_7_method_5_code
def yX5_readReader : MethodName := ⟨RX5, "readReader", "(LPaperHour$Town;)V"⟩
abbrev cX5_sortOf : ByteArray := prog_7_method_6_code
def yX5_sortOf : MethodName := ⟨RX5, "sortOf", "(I)I"⟩
abbrev cX5_peek : ByteArray := prog_7_method_7_code
def yX5_peek : MethodName := ⟨RX5, "peek", "()I"⟩
abbrev cX5_readByte : ByteArray := prog_7_method_8_code
def yX5_readByte : MethodName := ⟨RX5, "readByte", "(I)V"⟩
abbrev cX5_readNumber : ByteArray := prog_7_method_9_code
def yX5_readNumber : MethodName := ⟨RX5, "readNumber", "(I)I"⟩
abbrev cX5_isFigure : ByteArray := prog_7_method_10_code
def yX5_isFigure : MethodName := ⟨RX5, "isFigure", "(I)Z"⟩
abbrev cX5_fail : ByteArray := prog_7_method_11_code
def yX5_fail : MethodName := ⟨RX5, "fail", "(I)V"⟩
def RX6 : String := "PaperHour$Town"
def TX6 : u_T := fun k => match k with
  | 0 => ("PaperHour$Town", "there", "Z", false)
  | 1 => ("PaperHour$Town", "press", "I", false)
  | 2 => ("PaperHour$Town", "stamp", "I", false)
  | 3 => ("PaperHour$Town", "last", "I", false)
  | 4 => ("PaperHour$Town", "readers", "I", false)
  | 5 => ("PaperHour$Town", "sort", "[I", true)
  | 6 => ("PaperHour$Town", "place", "[I", true)
  | 7 => ("PaperHour$Town", "worth", "[I", true)
  | 8 => ("PaperHour$Town", "late", "[I", true)
  | 9 => ("PaperHour$Town", "at", "I", false)
  | 10 => ("PaperHour$Town", "hour", "I", false)
  | 11 => ("PaperHour$Town", "read", "I", false)
  | _ => ("PaperHour$Town", "earned", "I", false)
def tyX6 : Nat → FieldType := fun k => match k with
  | 0 => .boolean
  | 1 => .int
  | 2 => .int
  | 3 => .int
  | 4 => .int
  | 5 => .array .int
  | 6 => .array .int
  | 7 => .array .int
  | 8 => .array .int
  | 9 => .int
  | 10 => .int
  | 11 => .int
  | _ => .int
abbrev wsX60 : List Cond := u_ws RX6 TX6 13
theorem nmX6 : ∀ a, a < 13 → ∀ b, b < 13 → a ≠ b → (TX6 a).2.1 ≠ (TX6 b).2.1 := by decide +kernel
theorem tyX6_ok : ∀ k, k < 13 → parseFieldDescriptor (TX6 k).2.2.1 = some (tyX6 k) := by decide +kernel
abbrev cX6_init : ByteArray := prog_8_method_1_code
def yX6_init : MethodName := ⟨RX6, "<init>", "()V"⟩
abbrev cX6_takeOver : ByteArray := prog_8_method_2_code
def yX6_takeOver : MethodName := ⟨RX6, "takeOver", "(LPaperHour$Town;)V"⟩
abbrev cX6_copyStands : ByteArray := prog_8_method_3_code
def yX6_copyStands : MethodName := ⟨RX6, "copyStands", "(IIII)V"⟩
abbrev cX6_begin : ByteArray := prog_8_method_4_code
def yX6_begin : MethodName := ⟨RX6, "begin", "()V"⟩
abbrev cX6_has : ByteArray := prog_8_method_5_code
def yX6_has : MethodName := ⟨RX6, "has", "(I)Z"⟩
abbrev cX6_everybody : ByteArray := prog_8_method_6_code
def yX6_everybody : MethodName := ⟨RX6, "everybody", "()I"⟩
abbrev cX6_hasRead : ByteArray := prog_8_method_7_code
def yX6_hasRead : MethodName := ⟨RX6, "hasRead", "(I)Z"⟩
abbrev cX6_canHave : ByteArray := prog_8_method_8_code
def yX6_canHave : MethodName := ⟨RX6, "canHave", "(I)Z"⟩
abbrev cX6_comes : ByteArray := prog_8_method_9_code
def yX6_comes : MethodName := ⟨RX6, "comes", "(I)I"⟩
abbrev cX6_brings : ByteArray := prog_8_method_10_code
def yX6_brings : MethodName := ⟨RX6, "brings", "(I)I"⟩
abbrev cX6_neighbours : ByteArray := prog_8_method_11_code
def yX6_neighbours : MethodName := ⟨RX6, "neighbours", "(I)I"⟩
abbrev cX6_hand : ByteArray := prog_8_method_12_code
def yX6_hand : MethodName := ⟨RX6, "hand", "(I)I"⟩
abbrev cX6_handAlong : ByteArray := prog_8_method_13_code
def yX6_handAlong : MethodName := ⟨RX6, "handAlong", "([III)I"⟩
abbrev cX6_suppose : ByteArray := prog_8_method_14_code
def yX6_suppose : MethodName := ⟨RX6, "suppose", "(III)V"⟩
def RX7 : String := "PaperHour"
def TX7 : u_T := fun k => match k with
  | 0 => ("PaperHour", "rows", "LPaperHour$Rows;", true)
  | 1 => ("PaperHour", "tape", "LPaperHour$Tape;", true)
  | 2 => ("PaperHour", "now", "LPaperHour$Town;", true)
  | 3 => ("PaperHour", "trial", "LPaperHour$Town;", true)
  | 4 => ("PaperHour", "firstImage", "LPaperHour$Town;", true)
  | 5 => ("PaperHour", "secondImage", "LPaperHour$Town;", true)
  | 6 => ("PaperHour", "acts", "LPaperHour$Acts;", true)
  | 7 => ("PaperHour", "search", "LPaperHour$Search;", true)
  | 8 => ("PaperHour", "sharing", "LPaperHour$Sharing;", true)
  | 9 => ("PaperHour", "asks", "LPaperHour$Asks;", true)
  | _ => ("PaperHour", "finding", "I", false)
def tyX7 : Nat → FieldType := fun k => match k with
  | 0 => .object "PaperHour$Rows"
  | 1 => .object "PaperHour$Tape"
  | 2 => .object "PaperHour$Town"
  | 3 => .object "PaperHour$Town"
  | 4 => .object "PaperHour$Town"
  | 5 => .object "PaperHour$Town"
  | 6 => .object "PaperHour$Acts"
  | 7 => .object "PaperHour$Search"
  | 8 => .object "PaperHour$Sharing"
  | 9 => .object "PaperHour$Asks"
  | _ => .int
abbrev wsX70 : List Cond := u_ws RX7 TX7 11
theorem nmX7 : ∀ a, a < 11 → ∀ b, b < 11 → a ≠ b → (TX7 a).2.1 ≠ (TX7 b).2.1 := by decide +kernel
theorem tyX7_ok : ∀ k, k < 11 → parseFieldDescriptor (TX7 k).2.2.1 = some (tyX7 k) := by decide +kernel
abbrev cX7_init : ByteArray := prog_1_method_1_code
def yX7_init : MethodName := ⟨RX7, "<init>", "()V"⟩
abbrev cX7_row : ByteArray := prog_1_method_2_code
def yX7_row : MethodName := ⟨RX7, "row", "(III)I"⟩
abbrev cX7_set : ByteArray := prog_1_method_3_code
def yX7_set : MethodName := ⟨RX7, "set", "(III)I"⟩
abbrev cX7_copy : ByteArray := prog_1_method_4_code
def yX7_copy : MethodName := ⟨RX7, "copy", "(IIIII)I"⟩
abbrev cX7_drop : ByteArray := prog_1_method_5_code
def yX7_drop : MethodName := ⟨RX7, "drop", "(I)I"⟩
abbrev cX7_feed : ByteArray := prog_1_method_6_code
def yX7_feed : MethodName := ⟨RX7, "feed", "(I)I"⟩
abbrev cX7_town : ByteArray := prog_1_method_7_code
def yX7_town : MethodName := ⟨RX7, "town", "()I"⟩
abbrev cX7_fault : ByteArray := prog_1_method_8_code
def yX7_fault : MethodName := ⟨RX7, "fault", "()I"⟩
abbrev cX7_give : ByteArray := prog_1_method_9_code
def yX7_give : MethodName := ⟨RX7, "give", "(I)I"⟩
abbrev cX7_pause : ByteArray := prog_1_method_10_code
def yX7_pause : MethodName := ⟨RX7, "pause", "(I)I"⟩
abbrev cX7_value : ByteArray := prog_1_method_11_code
def yX7_value : MethodName := ⟨RX7, "value", "(II)I"⟩
abbrev cX7_move : ByteArray := prog_1_method_12_code
def yX7_move : MethodName := ⟨RX7, "move", "(II)I"⟩
abbrev cX7_undo : ByteArray := prog_1_method_13_code
def yX7_undo : MethodName := ⟨RX7, "undo", "()I"⟩
abbrev cX7_reader : ByteArray := prog_1_method_14_code
def yX7_reader : MethodName := ⟨RX7, "reader", "(II)I"⟩
abbrev cX7_would : ByteArray := prog_1_method_15_code
def yX7_would : MethodName := ⟨RX7, "would", "(II)I"⟩
abbrev cX7_best : ByteArray := prog_1_method_16_code
def yX7_best : MethodName := ⟨RX7, "best", "(I)I"⟩
abbrev cX7_soonest : ByteArray := prog_1_method_17_code
def yX7_soonest : MethodName := ⟨RX7, "soonest", "(II)I"⟩
abbrev cX7_copies : ByteArray := prog_1_method_18_code
def yX7_copies : MethodName := ⟨RX7, "copies", "(II)I"⟩
abbrev cX7_fits : ByteArray := prog_1_method_19_code
def yX7_fits : MethodName := ⟨RX7, "fits", "(IIIIII)I"⟩
abbrev cX7_lost : ByteArray := prog_1_method_20_code
def yX7_lost : MethodName := ⟨RX7, "lost", "(IIIIII)I"⟩
abbrev cX7_drawn : ByteArray := prog_1_method_21_code
def yX7_drawn : MethodName := ⟨RX7, "drawn", "(III)I"⟩
abbrev cX7_image : ByteArray := prog_1_method_22_code
def yX7_image : MethodName := ⟨RX7, "image", "(I)I"⟩
abbrev cX7_restore : ByteArray := prog_1_method_23_code
def yX7_restore : MethodName := ⟨RX7, "restore", "(I)I"⟩
abbrev cX7_kind : ByteArray := prog_1_method_24_code
def yX7_kind : MethodName := ⟨RX7, "kind", "(I)I"⟩
abbrev cX7_as : ByteArray := prog_1_method_25_code
def yX7_as : MethodName := ⟨RX7, "as", "(II)I"⟩
abbrev cX7_ask : ByteArray := prog_1_method_26_code
def yX7_ask : MethodName := ⟨RX7, "ask", "(II)I"⟩
abbrev cX7_trace : ByteArray := prog_1_method_27_code
def yX7_trace : MethodName := ⟨RX7, "trace", "(I)I"⟩
abbrev cX7_count : ByteArray := prog_1_method_28_code
def yX7_count : MethodName := ⟨RX7, "count", "(I)I"⟩
abbrev cX7_status : ByteArray := prog_1_method_29_code
def yX7_status : MethodName := ⟨RX7, "status", "()I"⟩
abbrev cX7_found : ByteArray := prog_1_method_30_code
def yX7_found : MethodName := ⟨RX7, "found", "(I)I"⟩
abbrev cX7_foundNothing : ByteArray := prog_1_method_31_code
def yX7_foundNothing : MethodName := ⟨RX7, "foundNothing", "(I)I"⟩
abbrev cX7_isTold : ByteArray := prog_1_method_32_code
def yX7_isTold : MethodName := ⟨RX7, "isTold", "(III)Z"⟩
abbrev cX7_imageNumber : ByteArray := prog_1_method_33_code
def yX7_imageNumber : MethodName := ⟨RX7, "imageNumber", "(I)LPaperHour$Town;"⟩
abbrev cX7_timesUntil : ByteArray := prog_1_method_34_code
def yX7_timesUntil : MethodName := ⟨RX7, "timesUntil", "(I[III)I"⟩
abbrev cX7_power : ByteArray := prog_1_method_35_code
def yX7_power : MethodName := ⟨RX7, "power", "(II)I"⟩
abbrev cX7_commonDivisor : ByteArray := prog_1_method_36_code
def yX7_commonDivisor : MethodName := ⟨RX7, "commonDivisor", "(II)I"⟩
abbrev cX7_isOfKind : ByteArray := prog_1_method_37_code
def yX7_isOfKind : MethodName := ⟨RX7, "isOfKind", "(II)Z"⟩
def RX8 : String := "PaperHourModel"
def TX8 : u_T := fun k => match k with
  | 0 => ("PaperHourModel", "lane", "[I", true)
  | 1 => ("PaperHourModel", "size", "[I", true)
  | 2 => ("PaperHourModel", "items", "[I", true)
  | 3 => ("PaperHourModel", "status", "I", false)
  | 4 => ("PaperHourModel", "letters", "I", false)
  | 5 => ("PaperHourModel", "tape", "[I", true)
  | 6 => ("PaperHourModel", "position", "I", false)
  | 7 => ("PaperHourModel", "tokenAt", "I", false)
  | 8 => ("PaperHourModel", "token", "I", false)
  | 9 => ("PaperHourModel", "number", "I", false)
  | 10 => ("PaperHourModel", "faultIs", "I", false)
  | 11 => ("PaperHourModel", "faultNow", "I", false)
  | 12 => ("PaperHourModel", "now", "[I", true)
  | 13 => ("PaperHourModel", "read", "[I", true)
  | 14 => ("PaperHourModel", "tried", "[I", true)
  | 15 => ("PaperHourModel", "image", "[I", true)
  | 16 => ("PaperHourModel", "isKept", "[Z", true)
  | 17 => ("PaperHourModel", "actOf", "[I", true)
  | 18 => ("PaperHourModel", "acts", "I", false)
  | 19 => ("PaperHourModel", "trace", "[I", true)
  | 20 => ("PaperHourModel", "traceMany", "I", false)
  | 21 => ("PaperHourModel", "told", "[I", true)
  | 22 => ("PaperHourModel", "row", "[I", true)
  | 23 => ("PaperHourModel", "bestRow", "[I", true)
  | 24 => ("PaperHourModel", "bestMuch", "I", false)
  | 25 => ("PaperHourModel", "bestMany", "I", false)
  | 26 => ("PaperHourModel", "bySet", "[I", true)
  | _ => ("PaperHourModel", "has", "[I", true)
def tyX8 : Nat → FieldType := fun k => match k with
  | 0 => .array .int
  | 1 => .array .int
  | 2 => .array .int
  | 3 => .int
  | 4 => .int
  | 5 => .array .int
  | 6 => .int
  | 7 => .int
  | 8 => .int
  | 9 => .int
  | 10 => .int
  | 11 => .int
  | 12 => .array .int
  | 13 => .array .int
  | 14 => .array .int
  | 15 => .array .int
  | 16 => .array .boolean
  | 17 => .array .int
  | 18 => .int
  | 19 => .array .int
  | 20 => .int
  | 21 => .array .int
  | 22 => .array .int
  | 23 => .array .int
  | 24 => .int
  | 25 => .int
  | 26 => .array .int
  | _ => .array .int
abbrev wsX80 : List Cond := u_ws RX8 TX8 28
theorem nmX8 : ∀ a, a < 28 → ∀ b, b < 28 → a ≠ b → (TX8 a).2.1 ≠ (TX8 b).2.1 := by decide +kernel
theorem tyX8_ok : ∀ k, k < 28 → parseFieldDescriptor (TX8 k).2.2.1 = some (tyX8 k) := by decide +kernel
abbrev cX8_init : ByteArray := prog_10_method_1_code
def yX8_init : MethodName := ⟨RX8, "<init>", "()V"⟩
abbrev cX8_in : ByteArray := prog_10_method_2_code
def yX8_in : MethodName := ⟨RX8, "in", "(III)Z"⟩
abbrev cX8_isIn : ByteArray := prog_10_method_3_code
def yX8_isIn : MethodName := ⟨RX8, "isIn", "(II)Z"⟩
abbrev cX8_lay : ByteArray := prog_10_method_4_code
def yX8_lay : MethodName := ⟨RX8, "lay", "([II[II)V"⟩
abbrev cX8_isTown : ByteArray := prog_10_method_5_code
def yX8_isTown : MethodName := ⟨RX8, "isTown", "()Z"⟩
abbrev cX8_isOne : ByteArray := prog_10_method_6_code
def yX8_isOne : MethodName := ⟨RX8, "isOne", "(I)Z"⟩
abbrev cX8_finds : ByteArray := prog_10_method_7_code
def yX8_finds : MethodName := ⟨RX8, "finds", "(I)I"⟩
abbrev cX8_done : ByteArray := prog_10_method_8_code
def yX8_done : MethodName := ⟨RX8, "done", "(I)I"⟩
abbrev cX8_isRow : ByteArray := prog_10_method_9_code
def yX8_isRow : MethodName := ⟨RX8, "isRow", "(I)Z"⟩
abbrev cX8_row : ByteArray := prog_10_method_10_code
def yX8_row : MethodName := ⟨RX8, "row", "(III)I"⟩
abbrev cX8_set : ByteArray := prog_10_method_11_code
def yX8_set : MethodName := ⟨RX8, "set", "(III)I"⟩
abbrev cX8_isPart : ByteArray := prog_10_method_12_code
def yX8_isPart : MethodName := ⟨RX8, "isPart", "(III)Z"⟩
abbrev cX8_copy : ByteArray := prog_10_method_13_code
def yX8_copy : MethodName := ⟨RX8, "copy", "(IIIII)I"⟩
abbrev cX8_drop : ByteArray := prog_10_method_14_code
def yX8_drop : MethodName := ⟨RX8, "drop", "(I)I"⟩
abbrev cX8_feed : ByteArray := prog_10_method_15_code
def yX8_feed : MethodName := ⟨RX8, "feed", "(I)I"⟩
abbrev cX8_nextToken : ByteArray := prog_10_method_16_code
def yX8_nextToken : MethodName := ⟨RX8, "nextToken", "()V"⟩
abbrev cX8_fails : ByteArray := prog_10_method_17_code
def yX8_fails : MethodName := ⟨RX8, "fails", "(I)Z"⟩
abbrev cX8_isSign : ByteArray := prog_10_method_18_code
def yX8_isSign : MethodName := ⟨RX8, "isSign", "(I)Z"⟩
abbrev cX8_isNumber : ByteArray := prog_10_method_19_code
def yX8_isNumber : MethodName := ⟨RX8, "isNumber", "(II)Z"⟩
abbrev cX8_sortBy : ByteArray := prog_10_method_20_code
def yX8_sortBy : MethodName := ⟨RX8, "sortBy", "(I)I"⟩
abbrev cX8_isThree : ByteArray := prog_10_method_21_code
def yX8_isThree : MethodName := ⟨RX8, "isThree", "(IIIIII)Z"⟩
abbrev cX8_isReader : ByteArray := prog_10_method_22_code
def yX8_isReader : MethodName := ⟨RX8, "isReader", "()Z"⟩
abbrev cX8_isRead : ByteArray := prog_10_method_23_code
def yX8_isRead : MethodName := ⟨RX8, "isRead", "()Z"⟩
abbrev cX8_town : ByteArray := prog_10_method_24_code
def yX8_town : MethodName := ⟨RX8, "town", "()I"⟩
abbrev cX8_fault : ByteArray := prog_10_method_25_code
def yX8_fault : MethodName := ⟨RX8, "fault", "()I"⟩
abbrev cX8_note : ByteArray := prog_10_method_26_code
def yX8_note : MethodName := ⟨RX8, "note", "()V"⟩
abbrev cX8_comesTo : ByteArray := prog_10_method_27_code
def yX8_comesTo : MethodName := ⟨RX8, "comesTo", "([II)I"⟩
abbrev cX8_canBe : ByteArray := prog_10_method_28_code
def yX8_canBe : MethodName := ⟨RX8, "canBe", "([II)Z"⟩
abbrev cX8_bringsBy : ByteArray := prog_10_method_29_code
def yX8_bringsBy : MethodName := ⟨RX8, "bringsBy", "([II)I"⟩
abbrev cX8_gives : ByteArray := prog_10_method_30_code
def yX8_gives : MethodName := ⟨RX8, "gives", "([II)I"⟩
abbrev cX8_give : ByteArray := prog_10_method_31_code
def yX8_give : MethodName := ⟨RX8, "give", "(I)I"⟩
abbrev cX8_pause : ByteArray := prog_10_method_32_code
def yX8_pause : MethodName := ⟨RX8, "pause", "(I)I"⟩
abbrev cX8_value : ByteArray := prog_10_method_33_code
def yX8_value : MethodName := ⟨RX8, "value", "(II)I"⟩
abbrev cX8_move : ByteArray := prog_10_method_34_code
def yX8_move : MethodName := ⟨RX8, "move", "(II)I"⟩
abbrev cX8_undo : ByteArray := prog_10_method_35_code
def yX8_undo : MethodName := ⟨RX8, "undo", "()I"⟩
abbrev cX8_reader : ByteArray := prog_10_method_36_code
def yX8_reader : MethodName := ⟨RX8, "reader", "(II)I"⟩
abbrev cX8_would : ByteArray := prog_10_method_37_code
def yX8_would : MethodName := ⟨RX8, "would", "(II)I"⟩
abbrev cX8_begin : ByteArray := prog_10_method_38_code
def yX8_begin : MethodName := ⟨RX8, "begin", "()V"⟩
abbrev cX8_goesOn : ByteArray := prog_10_method_39_code
def yX8_goesOn : MethodName := ⟨RX8, "goesOn", "([II)Z"⟩
abbrev cX8_layRow : ByteArray := prog_10_method_40_code
def yX8_layRow : MethodName := ⟨RX8, "layRow", "(II)I"⟩
abbrev cX8_bits : ByteArray := prog_10_method_41_code
def yX8_bits : MethodName := ⟨RX8, "bits", "(I)I"⟩
abbrev cX8_rowsOf : ByteArray := prog_10_method_42_code
def yX8_rowsOf : MethodName := ⟨RX8, "rowsOf", "(I)I"⟩
abbrev cX8_keepRow : ByteArray := prog_10_method_43_code
def yX8_keepRow : MethodName := ⟨RX8, "keepRow", "(II)V"⟩
abbrev cX8_best : ByteArray := prog_10_method_44_code
def yX8_best : MethodName := ⟨RX8, "best", "(I)I"⟩
abbrev cX8_soonest : ByteArray := prog_10_method_45_code
def yX8_soonest : MethodName := ⟨RX8, "soonest", "(II)I"⟩
abbrev cX8_laySets : ByteArray := prog_10_method_46_code
def yX8_laySets : MethodName := ⟨RX8, "laySets", "()V"⟩
abbrev cX8_copies : ByteArray := prog_10_method_47_code
def yX8_copies : MethodName := ⟨RX8, "copies", "(II)I"⟩
abbrev cX8_earnedBy : ByteArray := prog_10_method_48_code
def yX8_earnedBy : MethodName := ⟨RX8, "earnedBy", "(II)I"⟩
abbrev cX8_takeOut : ByteArray := prog_10_method_49_code
def yX8_takeOut : MethodName := ⟨RX8, "takeOut", "(III)I"⟩
abbrev cX8_isSo : ByteArray := prog_10_method_50_code
def yX8_isSo : MethodName := ⟨RX8, "isSo", "(II)Z"⟩
abbrev cX8_fits : ByteArray := prog_10_method_51_code
def yX8_fits : MethodName := ⟨RX8, "fits", "(IIIIII)I"⟩
abbrev cX8_lost : ByteArray := prog_10_method_52_code
def yX8_lost : MethodName := ⟨RX8, "lost", "(IIIIII)I"⟩
abbrev cX8_drawn : ByteArray := prog_10_method_53_code
def yX8_drawn : MethodName := ⟨RX8, "drawn", "(III)I"⟩
abbrev cX8_image : ByteArray := prog_10_method_54_code
def yX8_image : MethodName := ⟨RX8, "image", "(I)I"⟩
abbrev cX8_restore : ByteArray := prog_10_method_55_code
def yX8_restore : MethodName := ⟨RX8, "restore", "(I)I"⟩
abbrev cX8_kind : ByteArray := prog_10_method_56_code
def yX8_kind : MethodName := ⟨RX8, "kind", "(I)I"⟩
abbrev cX8_parentOf : ByteArray := prog_10_method_57_code
def yX8_parentOf : MethodName := ⟨RX8, "parentOf", "(I)I"⟩
abbrev cX8_as : ByteArray := prog_10_method_58_code
def yX8_as : MethodName := ⟨RX8, "as", "(II)I"⟩
abbrev cX8_begins : ByteArray := prog_10_method_59_code
def yX8_begins : MethodName := ⟨RX8, "begins", "(I)V"⟩
abbrev cX8_markFresh : ByteArray := prog_10_method_60_code
def yX8_markFresh : MethodName := ⟨RX8, "markFresh", "(I)I"⟩
abbrev cX8_markNew : ByteArray := prog_10_method_61_code
def yX8_markNew : MethodName := ⟨RX8, "markNew", "(I)I"⟩
abbrev cX8_sizeOld : ByteArray := prog_10_method_62_code
def yX8_sizeOld : MethodName := ⟨RX8, "sizeOld", "(I)I"⟩
abbrev cX8_sizeOf : ByteArray := prog_10_method_63_code
def yX8_sizeOf : MethodName := ⟨RX8, "sizeOf", "(I)I"⟩
abbrev cX8_markOf : ByteArray := prog_10_method_64_code
def yX8_markOf : MethodName := ⟨RX8, "markOf", "(I)I"⟩
abbrev cX8_ask : ByteArray := prog_10_method_65_code
def yX8_ask : MethodName := ⟨RX8, "ask", "(II)I"⟩
abbrev cX8_trace : ByteArray := prog_10_method_66_code
def yX8_trace : MethodName := ⟨RX8, "trace", "(I)I"⟩
abbrev cX8_count : ByteArray := prog_10_method_67_code
def yX8_count : MethodName := ⟨RX8, "count", "(I)I"⟩
abbrev cX8_status : ByteArray := prog_10_method_68_code
def yX8_status : MethodName := ⟨RX8, "status", "()I"⟩
def RJ9 : String := "java/lang/Math"
abbrev cJ9_abs_0f7a4 : ByteArray := prog_11_method_59_code
def yJ9_abs_0f7a4 : MethodName := ⟨RJ9, "abs", "(I)I"⟩
abbrev cJ9_max_7cf53 : ByteArray := prog_11_method_65_code
def yJ9_max_7cf53 : MethodName := ⟨RJ9, "max", "(II)I"⟩
def RJ10 : String := "java/lang/System"
def RJ7 : String := "java/util/Arrays"
abbrev cJ7_fill_53178 : ByteArray := prog_13_method_103_code
def yJ7_fill_53178 : MethodName := ⟨RJ7, "fill", "([II)V"⟩
def RL : String := "PaperHourLaw"
abbrev cL_law : ByteArray := code
def yL_law : MethodName := ⟨RL, "law", "([I)Z"⟩
abbrev vwCl : List vw_C := [(RX0, TX0, 3), (RX1, TX1, 6), (RX2, TX2, 3), (RX3, TX3, 10), (RX4, TX4, 8), (RX5, TX5, 6), (RX6, TX6, 13), (RX7, TX7, 11), (RX8, TX8, 28)]
def m_X0_init : MethodName × ByteArray × Nat × Option FieldType := (yX0_init, cX0_init, 1, none)
def m_X0_forget : MethodName × ByteArray × Nat × Option FieldType := (yX0_forget, cX0_forget, 1, none)
def m_X0_keep : MethodName × ByteArray × Nat × Option FieldType := (yX0_keep, cX0_keep, 5, none)
def m_X0_takeBack : MethodName × ByteArray × Nat × Option FieldType := (yX0_takeBack, cX0_takeBack, 4, none)
def m_X1_init : MethodName × ByteArray × Nat × Option FieldType := (yX1_init, cX1_init, 1, none)
def m_X1_of : MethodName × ByteArray × Nat × Option FieldType := (yX1_of, cX1_of, 3, none)
def m_X1_begins : MethodName × ByteArray × Nat × Option FieldType := (yX1_begins, cX1_begins, 2, none)
def m_X1_sizeAsked : MethodName × ByteArray × Nat × Option FieldType := (yX1_sizeAsked, cX1_sizeAsked, 1, some .int)
def m_X1_markAsked : MethodName × ByteArray × Nat × Option FieldType := (yX1_markAsked, cX1_markAsked, 1, some .int)
def m_X1_sizeAskedOfFresh : MethodName × ByteArray × Nat × Option FieldType := (yX1_sizeAskedOfFresh, cX1_sizeAskedOfFresh, 1, some .int)
def m_X1_sizeAskedOfOld : MethodName × ByteArray × Nat × Option FieldType := (yX1_sizeAskedOfOld, cX1_sizeAskedOfOld, 1, some .int)
def m_X1_markAskedOfFresh : MethodName × ByteArray × Nat × Option FieldType := (yX1_markAskedOfFresh, cX1_markAskedOfFresh, 1, some .int)
def m_X1_lentSize : MethodName × ByteArray × Nat × Option FieldType := (yX1_lentSize, cX1_lentSize, 1, some .int)
def m_X1_freshSize : MethodName × ByteArray × Nat × Option FieldType := (yX1_freshSize, cX1_freshSize, 2, some .int)
def m_X1_oldSize : MethodName × ByteArray × Nat × Option FieldType := (yX1_oldSize, cX1_oldSize, 1, some .int)
def m_X1_lentMark : MethodName × ByteArray × Nat × Option FieldType := (yX1_lentMark, cX1_lentMark, 1, some .int)
def m_X1_freshMark : MethodName × ByteArray × Nat × Option FieldType := (yX1_freshMark, cX1_freshMark, 1, some .int)
def m_X1_oldMark : MethodName × ByteArray × Nat × Option FieldType := (yX1_oldMark, cX1_oldMark, 2, some .int)
def m_X2_init : MethodName × ByteArray × Nat × Option FieldType := (yX2_init, cX2_init, 1, none)
def m_X2_isNumber : MethodName × ByteArray × Nat × Option FieldType := (yX2_isNumber, cX2_isNumber, 1, some .boolean)
def m_X2_isMissing : MethodName × ByteArray × Nat × Option FieldType := (yX2_isMissing, cX2_isMissing, 2, some .boolean)
def m_X2_hasSpan : MethodName × ByteArray × Nat × Option FieldType := (yX2_hasSpan, cX2_hasSpan, 4, some .boolean)
def m_X2_findingOf : MethodName × ByteArray × Nat × Option FieldType := (yX2_findingOf, cX2_findingOf, 4, some .int)
def m_X2_lay : MethodName × ByteArray × Nat × Option FieldType := (yX2_lay, cX2_lay, 4, none)
def m_X2_put : MethodName × ByteArray × Nat × Option FieldType := (yX2_put, cX2_put, 5, some .int)
def m_X2_takeAway : MethodName × ByteArray × Nat × Option FieldType := (yX2_takeAway, cX2_takeAway, 2, some .int)
def m_X2_howMany : MethodName × ByteArray × Nat × Option FieldType := (yX2_howMany, cX2_howMany, 3, some .int)
def m_X3_init : MethodName × ByteArray × Nat × Option FieldType := (yX3_init, cX3_init, 1, none)
def m_X3_forMost : MethodName × ByteArray × Nat × Option FieldType := (yX3_forMost, cX3_forMost, 2, none)
def m_X3_forSoonest : MethodName × ByteArray × Nat × Option FieldType := (yX3_forSoonest, cX3_forSoonest, 3, none)
def m_X3_forSets : MethodName × ByteArray × Nat × Option FieldType := (yX3_forSets, cX3_forSets, 2, none)
def m_X3_seek : MethodName × ByteArray × Nat × Option FieldType := (yX3_seek, cX3_seek, 3, none)
def m_X3_tryRows : MethodName × ByteArray × Nat × Option FieldType := (yX3_tryRows, cX3_tryRows, 8, none)
def m_X3_weigh : MethodName × ByteArray × Nat × Option FieldType := (yX3_weigh, cX3_weigh, 3, none)
def m_X3_keepRow : MethodName × ByteArray × Nat × Option FieldType := (yX3_keepRow, cX3_keepRow, 3, none)
def m_X3_told : MethodName × ByteArray × Nat × Option FieldType := (yX3_told, cX3_told, 2, some .int)
def m_X4_init : MethodName × ByteArray × Nat × Option FieldType := (yX4_init, cX4_init, 1, none)
def m_X4_of : MethodName × ByteArray × Nat × Option FieldType := (yX4_of, cX4_of, 4, none)
def m_X4_share : MethodName × ByteArray × Nat × Option FieldType := (yX4_share, cX4_share, 4, none)
def m_X4_weighShares : MethodName × ByteArray × Nat × Option FieldType := (yX4_weighShares, cX4_weighShares, 4, none)
def m_X5_init : MethodName × ByteArray × Nat × Option FieldType := (yX5_init, cX5_init, 1, none)
def m_X5_append : MethodName × ByteArray × Nat × Option FieldType := (yX5_append, cX5_append, 2, some .boolean)
def m_X5_readInto : MethodName × ByteArray × Nat × Option FieldType := (yX5_readInto, cX5_readInto, 3, some .boolean)
def m_X5_readLaw : MethodName × ByteArray × Nat × Option FieldType := (yX5_readLaw, cX5_readLaw, 2, none)
def m_X5_readReader : MethodName × ByteArray × Nat × Option FieldType := (yX5_readReader, cX5_readReader, 4, none)
def m_X5_sortOf : MethodName × ByteArray × Nat × Option FieldType := (yX5_sortOf, cX5_sortOf, 1, some .int)
def m_X5_peek : MethodName × ByteArray × Nat × Option FieldType := (yX5_peek, cX5_peek, 1, some .int)
def m_X5_readByte : MethodName × ByteArray × Nat × Option FieldType := (yX5_readByte, cX5_readByte, 2, none)
def m_X5_readNumber : MethodName × ByteArray × Nat × Option FieldType := (yX5_readNumber, cX5_readNumber, 4, some .int)
def m_X5_isFigure : MethodName × ByteArray × Nat × Option FieldType := (yX5_isFigure, cX5_isFigure, 1, some .boolean)
def m_X5_fail : MethodName × ByteArray × Nat × Option FieldType := (yX5_fail, cX5_fail, 2, none)
def m_X6_init : MethodName × ByteArray × Nat × Option FieldType := (yX6_init, cX6_init, 1, none)
def m_X6_takeOver : MethodName × ByteArray × Nat × Option FieldType := (yX6_takeOver, cX6_takeOver, 2, none)
def m_X6_copyStands : MethodName × ByteArray × Nat × Option FieldType := (yX6_copyStands, cX6_copyStands, 5, none)
def m_X6_begin : MethodName × ByteArray × Nat × Option FieldType := (yX6_begin, cX6_begin, 1, none)
def m_X6_has : MethodName × ByteArray × Nat × Option FieldType := (yX6_has, cX6_has, 2, some .boolean)
def m_X6_everybody : MethodName × ByteArray × Nat × Option FieldType := (yX6_everybody, cX6_everybody, 1, some .int)
def m_X6_hasRead : MethodName × ByteArray × Nat × Option FieldType := (yX6_hasRead, cX6_hasRead, 2, some .boolean)
def m_X6_canHave : MethodName × ByteArray × Nat × Option FieldType := (yX6_canHave, cX6_canHave, 2, some .boolean)
def m_X6_comes : MethodName × ByteArray × Nat × Option FieldType := (yX6_comes, cX6_comes, 2, some .int)
def m_X6_brings : MethodName × ByteArray × Nat × Option FieldType := (yX6_brings, cX6_brings, 3, some .int)
def m_X6_neighbours : MethodName × ByteArray × Nat × Option FieldType := (yX6_neighbours, cX6_neighbours, 4, some .int)
def m_X6_hand : MethodName × ByteArray × Nat × Option FieldType := (yX6_hand, cX6_hand, 4, some .int)
def m_X6_handAlong : MethodName × ByteArray × Nat × Option FieldType := (yX6_handAlong, cX6_handAlong, 7, some .int)
def m_X6_suppose : MethodName × ByteArray × Nat × Option FieldType := (yX6_suppose, cX6_suppose, 4, none)
def m_X7_init : MethodName × ByteArray × Nat × Option FieldType := (yX7_init, cX7_init, 1, none)
def m_X7_row : MethodName × ByteArray × Nat × Option FieldType := (yX7_row, cX7_row, 4, some .int)
def m_X7_set : MethodName × ByteArray × Nat × Option FieldType := (yX7_set, cX7_set, 5, some .int)
def m_X7_copy : MethodName × ByteArray × Nat × Option FieldType := (yX7_copy, cX7_copy, 6, some .int)
def m_X7_drop : MethodName × ByteArray × Nat × Option FieldType := (yX7_drop, cX7_drop, 2, some .int)
def m_X7_feed : MethodName × ByteArray × Nat × Option FieldType := (yX7_feed, cX7_feed, 2, some .int)
def m_X7_town : MethodName × ByteArray × Nat × Option FieldType := (yX7_town, cX7_town, 2, some .int)
def m_X7_fault : MethodName × ByteArray × Nat × Option FieldType := (yX7_fault, cX7_fault, 1, some .int)
def m_X7_give : MethodName × ByteArray × Nat × Option FieldType := (yX7_give, cX7_give, 2, some .int)
def m_X7_pause : MethodName × ByteArray × Nat × Option FieldType := (yX7_pause, cX7_pause, 2, some .int)
def m_X7_value : MethodName × ByteArray × Nat × Option FieldType := (yX7_value, cX7_value, 4, some .int)
def m_X7_move : MethodName × ByteArray × Nat × Option FieldType := (yX7_move, cX7_move, 4, some .int)
def m_X7_undo : MethodName × ByteArray × Nat × Option FieldType := (yX7_undo, cX7_undo, 1, some .int)
def m_X7_reader : MethodName × ByteArray × Nat × Option FieldType := (yX7_reader, cX7_reader, 3, some .int)
def m_X7_would : MethodName × ByteArray × Nat × Option FieldType := (yX7_would, cX7_would, 3, some .int)
def m_X7_best : MethodName × ByteArray × Nat × Option FieldType := (yX7_best, cX7_best, 2, some .int)
def m_X7_soonest : MethodName × ByteArray × Nat × Option FieldType := (yX7_soonest, cX7_soonest, 3, some .int)
def m_X7_copies : MethodName × ByteArray × Nat × Option FieldType := (yX7_copies, cX7_copies, 3, some .int)
def m_X7_fits : MethodName × ByteArray × Nat × Option FieldType := (yX7_fits, cX7_fits, 12, some .int)
def m_X7_lost : MethodName × ByteArray × Nat × Option FieldType := (yX7_lost, cX7_lost, 12, some .int)
def m_X7_drawn : MethodName × ByteArray × Nat × Option FieldType := (yX7_drawn, cX7_drawn, 8, some .int)
def m_X7_image : MethodName × ByteArray × Nat × Option FieldType := (yX7_image, cX7_image, 2, some .int)
def m_X7_restore : MethodName × ByteArray × Nat × Option FieldType := (yX7_restore, cX7_restore, 2, some .int)
def m_X7_kind : MethodName × ByteArray × Nat × Option FieldType := (yX7_kind, cX7_kind, 2, some .int)
def m_X7_as : MethodName × ByteArray × Nat × Option FieldType := (yX7_as, cX7_as, 3, some .int)
def m_X7_ask : MethodName × ByteArray × Nat × Option FieldType := (yX7_ask, cX7_ask, 3, some .int)
def m_X7_trace : MethodName × ByteArray × Nat × Option FieldType := (yX7_trace, cX7_trace, 2, some .int)
def m_X7_count : MethodName × ByteArray × Nat × Option FieldType := (yX7_count, cX7_count, 2, some .int)
def m_X7_status : MethodName × ByteArray × Nat × Option FieldType := (yX7_status, cX7_status, 1, some .int)
def m_X7_found : MethodName × ByteArray × Nat × Option FieldType := (yX7_found, cX7_found, 2, some .int)
def m_X7_foundNothing : MethodName × ByteArray × Nat × Option FieldType := (yX7_foundNothing, cX7_foundNothing, 2, some .int)
def m_X7_isTold : MethodName × ByteArray × Nat × Option FieldType := (yX7_isTold, cX7_isTold, 3, some .boolean)
def m_X7_imageNumber : MethodName × ByteArray × Nat × Option FieldType := (yX7_imageNumber, cX7_imageNumber, 2, some (.object "PaperHour$Town"))
def m_X7_timesUntil : MethodName × ByteArray × Nat × Option FieldType := (yX7_timesUntil, cX7_timesUntil, 9, some .int)
def m_X7_power : MethodName × ByteArray × Nat × Option FieldType := (yX7_power, cX7_power, 4, some .int)
def m_X7_commonDivisor : MethodName × ByteArray × Nat × Option FieldType := (yX7_commonDivisor, cX7_commonDivisor, 6, some .int)
def m_X7_isOfKind : MethodName × ByteArray × Nat × Option FieldType := (yX7_isOfKind, cX7_isOfKind, 4, some .boolean)
def m_X8_init : MethodName × ByteArray × Nat × Option FieldType := (yX8_init, cX8_init, 2, none)
def m_X8_in : MethodName × ByteArray × Nat × Option FieldType := (yX8_in, cX8_in, 3, some .boolean)
def m_X8_isIn : MethodName × ByteArray × Nat × Option FieldType := (yX8_isIn, cX8_isIn, 2, some .boolean)
def m_X8_lay : MethodName × ByteArray × Nat × Option FieldType := (yX8_lay, cX8_lay, 5, none)
def m_X8_isTown : MethodName × ByteArray × Nat × Option FieldType := (yX8_isTown, cX8_isTown, 1, some .boolean)
def m_X8_isOne : MethodName × ByteArray × Nat × Option FieldType := (yX8_isOne, cX8_isOne, 2, some .boolean)
def m_X8_finds : MethodName × ByteArray × Nat × Option FieldType := (yX8_finds, cX8_finds, 2, some .int)
def m_X8_done : MethodName × ByteArray × Nat × Option FieldType := (yX8_done, cX8_done, 2, some .int)
def m_X8_isRow : MethodName × ByteArray × Nat × Option FieldType := (yX8_isRow, cX8_isRow, 1, some .boolean)
def m_X8_row : MethodName × ByteArray × Nat × Option FieldType := (yX8_row, cX8_row, 5, some .int)
def m_X8_set : MethodName × ByteArray × Nat × Option FieldType := (yX8_set, cX8_set, 4, some .int)
def m_X8_isPart : MethodName × ByteArray × Nat × Option FieldType := (yX8_isPart, cX8_isPart, 3, some .boolean)
def m_X8_copy : MethodName × ByteArray × Nat × Option FieldType := (yX8_copy, cX8_copy, 9, some .int)
def m_X8_drop : MethodName × ByteArray × Nat × Option FieldType := (yX8_drop, cX8_drop, 2, some .int)
def m_X8_feed : MethodName × ByteArray × Nat × Option FieldType := (yX8_feed, cX8_feed, 2, some .int)
def m_X8_nextToken : MethodName × ByteArray × Nat × Option FieldType := (yX8_nextToken, cX8_nextToken, 2, none)
def m_X8_fails : MethodName × ByteArray × Nat × Option FieldType := (yX8_fails, cX8_fails, 2, some .boolean)
def m_X8_isSign : MethodName × ByteArray × Nat × Option FieldType := (yX8_isSign, cX8_isSign, 2, some .boolean)
def m_X8_isNumber : MethodName × ByteArray × Nat × Option FieldType := (yX8_isNumber, cX8_isNumber, 3, some .boolean)
def m_X8_sortBy : MethodName × ByteArray × Nat × Option FieldType := (yX8_sortBy, cX8_sortBy, 1, some .int)
def m_X8_isThree : MethodName × ByteArray × Nat × Option FieldType := (yX8_isThree, cX8_isThree, 8, some .boolean)
def m_X8_isReader : MethodName × ByteArray × Nat × Option FieldType := (yX8_isReader, cX8_isReader, 3, some .boolean)
def m_X8_isRead : MethodName × ByteArray × Nat × Option FieldType := (yX8_isRead, cX8_isRead, 2, some .boolean)
def m_X8_town : MethodName × ByteArray × Nat × Option FieldType := (yX8_town, cX8_town, 2, some .int)
def m_X8_fault : MethodName × ByteArray × Nat × Option FieldType := (yX8_fault, cX8_fault, 1, some .int)
def m_X8_note : MethodName × ByteArray × Nat × Option FieldType := (yX8_note, cX8_note, 2, none)
def m_X8_comesTo : MethodName × ByteArray × Nat × Option FieldType := (yX8_comesTo, cX8_comesTo, 3, some .int)
def m_X8_canBe : MethodName × ByteArray × Nat × Option FieldType := (yX8_canBe, cX8_canBe, 2, some .boolean)
def m_X8_bringsBy : MethodName × ByteArray × Nat × Option FieldType := (yX8_bringsBy, cX8_bringsBy, 6, some .int)
def m_X8_gives : MethodName × ByteArray × Nat × Option FieldType := (yX8_gives, cX8_gives, 3, some .int)
def m_X8_give : MethodName × ByteArray × Nat × Option FieldType := (yX8_give, cX8_give, 2, some .int)
def m_X8_pause : MethodName × ByteArray × Nat × Option FieldType := (yX8_pause, cX8_pause, 2, some .int)
def m_X8_value : MethodName × ByteArray × Nat × Option FieldType := (yX8_value, cX8_value, 4, some .int)
def m_X8_move : MethodName × ByteArray × Nat × Option FieldType := (yX8_move, cX8_move, 4, some .int)
def m_X8_undo : MethodName × ByteArray × Nat × Option FieldType := (yX8_undo, cX8_undo, 1, some .int)
def m_X8_reader : MethodName × ByteArray × Nat × Option FieldType := (yX8_reader, cX8_reader, 3, some .int)
def m_X8_would : MethodName × ByteArray × Nat × Option FieldType := (yX8_would, cX8_would, 3, some .int)
def m_X8_begin : MethodName × ByteArray × Nat × Option FieldType := (yX8_begin, cX8_begin, 1, none)
def m_X8_goesOn : MethodName × ByteArray × Nat × Option FieldType := (yX8_goesOn, cX8_goesOn, 4, some .boolean)
def m_X8_layRow : MethodName × ByteArray × Nat × Option FieldType := (yX8_layRow, cX8_layRow, 6, some .int)
def m_X8_bits : MethodName × ByteArray × Nat × Option FieldType := (yX8_bits, cX8_bits, 3, some .int)
def m_X8_rowsOf : MethodName × ByteArray × Nat × Option FieldType := (yX8_rowsOf, cX8_rowsOf, 4, some .int)
def m_X8_keepRow : MethodName × ByteArray × Nat × Option FieldType := (yX8_keepRow, cX8_keepRow, 4, none)
def m_X8_best : MethodName × ByteArray × Nat × Option FieldType := (yX8_best, cX8_best, 4, some .int)
def m_X8_soonest : MethodName × ByteArray × Nat × Option FieldType := (yX8_soonest, cX8_soonest, 7, some .int)
def m_X8_laySets : MethodName × ByteArray × Nat × Option FieldType := (yX8_laySets, cX8_laySets, 4, none)
def m_X8_copies : MethodName × ByteArray × Nat × Option FieldType := (yX8_copies, cX8_copies, 9, some .int)
def m_X8_earnedBy : MethodName × ByteArray × Nat × Option FieldType := (yX8_earnedBy, cX8_earnedBy, 8, some .int)
def m_X8_takeOut : MethodName × ByteArray × Nat × Option FieldType := (yX8_takeOut, cX8_takeOut, 5, some .int)
def m_X8_isSo : MethodName × ByteArray × Nat × Option FieldType := (yX8_isSo, cX8_isSo, 4, some .boolean)
def m_X8_fits : MethodName × ByteArray × Nat × Option FieldType := (yX8_fits, cX8_fits, 10, some .int)
def m_X8_lost : MethodName × ByteArray × Nat × Option FieldType := (yX8_lost, cX8_lost, 14, some .int)
def m_X8_drawn : MethodName × ByteArray × Nat × Option FieldType := (yX8_drawn, cX8_drawn, 8, some .int)
def m_X8_image : MethodName × ByteArray × Nat × Option FieldType := (yX8_image, cX8_image, 2, some .int)
def m_X8_restore : MethodName × ByteArray × Nat × Option FieldType := (yX8_restore, cX8_restore, 2, some .int)
def m_X8_kind : MethodName × ByteArray × Nat × Option FieldType := (yX8_kind, cX8_kind, 2, some .int)
def m_X8_parentOf : MethodName × ByteArray × Nat × Option FieldType := (yX8_parentOf, cX8_parentOf, 1, some .int)
def m_X8_as : MethodName × ByteArray × Nat × Option FieldType := (yX8_as, cX8_as, 5, some .int)
def m_X8_begins : MethodName × ByteArray × Nat × Option FieldType := (yX8_begins, cX8_begins, 2, none)
def m_X8_markFresh : MethodName × ByteArray × Nat × Option FieldType := (yX8_markFresh, cX8_markFresh, 2, some .int)
def m_X8_markNew : MethodName × ByteArray × Nat × Option FieldType := (yX8_markNew, cX8_markNew, 3, some .int)
def m_X8_sizeOld : MethodName × ByteArray × Nat × Option FieldType := (yX8_sizeOld, cX8_sizeOld, 2, some .int)
def m_X8_sizeOf : MethodName × ByteArray × Nat × Option FieldType := (yX8_sizeOf, cX8_sizeOf, 4, some .int)
def m_X8_markOf : MethodName × ByteArray × Nat × Option FieldType := (yX8_markOf, cX8_markOf, 2, some .int)
def m_X8_ask : MethodName × ByteArray × Nat × Option FieldType := (yX8_ask, cX8_ask, 3, some .int)
def m_X8_trace : MethodName × ByteArray × Nat × Option FieldType := (yX8_trace, cX8_trace, 2, some .int)
def m_X8_count : MethodName × ByteArray × Nat × Option FieldType := (yX8_count, cX8_count, 4, some .int)
def m_X8_status : MethodName × ByteArray × Nat × Option FieldType := (yX8_status, cX8_status, 1, some .int)
def m_J9_abs_0f7a4 : MethodName × ByteArray × Nat × Option FieldType := (yJ9_abs_0f7a4, cJ9_abs_0f7a4, 1, some .int)
def m_J9_max_7cf53 : MethodName × ByteArray × Nat × Option FieldType := (yJ9_max_7cf53, cJ9_max_7cf53, 2, some .int)
def m_J7_fill_53178 : MethodName × ByteArray × Nat × Option FieldType := (yJ7_fill_53178, cJ7_fill_53178, 4, none)
def m_L_law : MethodName × ByteArray × Nat × Option FieldType := (yL_law, cL_law, 4, some .boolean)
end
section
/-! ===== an abstract machine over the kit's W: memory is a total map of numbers, the cells' shapes are fixed ===== -/
abbrev MD : Type := MethodName × ByteArray × Nat × Option FieldType
abbrev Mem : Type := Nat → Nat → Int32
/-- addresses of the ids; the classes of the arrays by their kinds; the classes' table -/
abbrev HE : Type := (Nat → Nat) × ((Nat → ClassId) × va_G)
def mset (σ : Mem) (a k : Nat) (v : Int32) : Mem := fun b j => if b = a ∧ j = k then v else σ b j
def mcpy (σ : Mem) (a sp b dp n : Nat) : Mem := fun c j => if c = b ∧ dp ≤ j ∧ j < dp + n then σ a (sp + (j - dp)) else σ c j
/-- (0, n, []) int[n]; (1, n, []) boolean[n]; (2, class, fields) an object: a field is (0, _) a number, (1, id) a reference that stays, (2, _) a reference that the memory holds; (3, n, [(0, base)]) int[n][] -/
abbrev Shp : Type := Nat × Nat × List (Nat × Nat)
def shTown (b : Nat) : Shp := (2, 6, [(0,0),(0,0),(0,0),(0,0),(0,0),(1,b+1),(1,b+2),(1,b+3),(1,b+4),(0,0),(0,0),(0,0),(0,0)])
def shA (n : Nat) : Shp := (0, n, [])
def shpL : List Shp :=
  [(2, 7, [(1,1),(1,13),(1,15),(1,20),(1,25),(1,30),(1,35),(1,61),(1,70),(1,75),(0,0)]),
   (2, 2, [(1,2),(1,3),(1,4)]), shA 8, shA 8, (3, 8, [(0,5)]), shA 40, shA 40, shA 40, shA 40, shA 40, shA 40, shA 40, shA 40,
   (2, 5, [(1,14),(0,0),(0,0),(0,0),(0,0),(0,0)]), shA 100,
   shTown 15, shA 6, shA 6, shA 6, shA 6, shTown 20, shA 6, shA 6, shA 6, shA 6, shTown 25, shA 6, shA 6, shA 6, shA 6, shTown 30, shA 6, shA 6, shA 6, shA 6,
   (2, 0, [(1,36),(0,0),(0,0)]), (3, 24, [(0,37)]), shA 7, shA 7, shA 7, shA 7, shA 7, shA 7, shA 7, shA 7, shA 7, shA 7, shA 7, shA 7, shA 7, shA 7, shA 7, shA 7, shA 7, shA 7, shA 7, shA 7, shA 7, shA 7, shA 7, shA 7,
   (2, 3, [(1,62),(1,67),(0,0),(0,0),(0,0),(1,68),(0,0),(0,0),(0,0),(1,69)]), shTown 62, shA 6, shA 6, shA 6, shA 6, shA 6, shA 6, shA 64,
   (2, 4, [(1,71),(1,72),(1,73),(2,0),(0,0),(0,0),(0,0),(0,0)]), shA 6, shA 4, shA 6, shA 0,
   (2, 1, [(1,76),(0,0),(0,0),(0,0),(0,0),(0,0)]), shA 16,
   (2, 8, [(1,78),(1,79),(1,80),(0,0),(0,0),(1,81),(0,0),(0,0),(0,0),(0,0),(0,0),(0,0),(1,82),(1,83),(1,84),(1,85),(1,86),(1,87),(0,0),(1,88),(0,0),(1,89),(1,90),(1,91),(0,0),(0,0),(1,92),(1,93)]),
   shA 8, shA 8, shA 320, shA 100, shA 33, shA 33, shA 33, shA 66, (1, 2, []), shA 792, shA 16, shA 6, shA 6, shA 6, shA 64, shA 6]
abbrev NC : Nat := 94
/-- the id of the static row, and of the script: no cells of the world -/
abbrev idNear : Nat := 94
abbrev idScr : Nat := 95
theorem shpL_len : shpL.length = 94 := by decide +kernel
def shp (k : Nat) : Shp := shpL.getD k (9, 0, [])
def isTown (t : Nat) : Bool := t == 15 || t == 20 || t == 25 || t == 30 || t == 62
def isIA (a : Nat) : Bool := (shp a).1 == 0
def alen (a : Nat) : Nat := (shp a).2.1
theorem shp_lt {a : Nat} (h : (shp a).1 ≠ 9) : a < NC := by
  rcases Nat.lt_or_ge a NC with q | q
  · exact q
  · exact absurd (by unfold shp; rw [List.getD_eq_getElem?_getD, List.getElem?_eq_none (by rw [shpL_len]; exact q)]; rfl) h
theorem shp_town {t : Nat} (h : isTown t = true) : shp t = shTown t ∧ shp (t+1) = shA 6 ∧ shp (t+2) = shA 6 ∧ shp (t+3) = shA 6 ∧ shp (t+4) = shA 6 := by
  simp only [isTown, Bool.or_eq_true, beq_iff_eq] at h
  rcases h with (((h | h) | h) | h) | h <;> subst h <;> decide +kernel
theorem shp_IA {a : Nat} (h : isIA a = true) : shp a = shA (alen a) := by
  have h0 : (shp a).1 = 0 := by simpa [isIA] using h
  have hl := shp_lt (a := a) (by rw [h0]; decide)
  have : ∀ a, a < 94 → ((shp a).1 ≠ 0 ∨ shp a = shA (alen a)) := by decide +kernel
  exact (this a hl).resolve_left (fun q => q h0)
theorem shp_rows {j : Nat} (h : j < 8) : shp (5 + j) = shA 40 := by
  have : ∀ j, j < 8 → shp (5 + j) = shA 40 := by decide +kernel
  exact this j h
theorem shp_acts {j : Nat} (h : j < 24) : shp (37 + j) = shA 7 := by
  have : ∀ j, j < 24 → shp (37 + j) = shA 7 := by decide +kernel
  exact this j h
def cv (E : HE) : Value → Value
  | .ref k => .ref (E.1 k)
  | v => v
def cfield (E : HE) (σ : Mem) (a j : Nat) (q : Nat × Nat) : Value := if q.1 = 0 then .int (σ a j) else if q.1 = 1 then .ref (E.1 q.2) else .ref (E.1 (σ a j).toNatClampNeg)
def ccell (E : HE) (σ : Mem) (a : Nat) (sh : Shp) : va_E :=
  if sh.1 = 0 then .inl (E.2.1 0, sh.2.1, .inl (σ a))
  else if sh.1 = 1 then .inl (E.2.1 1, sh.2.1, .inl (σ a))
  else if sh.1 = 2 then .inr (sh.2.1, sh.2.2.mapIdx (fun j q => cfield E σ a j q))
  else .inl (E.2.1 2, sh.2.1, .inr (.inr (.inr (.inr (fun i => some (E.1 ((sh.2.2.getD 0 (0,0)).2 + i)))))))
def wld (E : HE) (σ : Mem) : va_W := (List.range NC).map fun k => (E.1 k, ccell E σ k (shp k))
theorem wld_get {E : HE} {σ : Mem} {k : Nat} (h : k < NC) : (wld E σ)[k]? = some (E.1 k, ccell E σ k (shp k)) := by
  unfold wld
  rw [List.getElem?_map, List.getElem?_range h]; rfl
theorem wld_arr {E : HE} {σ : Mem} {a n : Nat} (h : shp a = shA n) : (wld E σ)[a]? = some (E.1 a, .inl (E.2.1 0, n, .inl (σ a))) := by
  rw [wld_get (shp_lt (by rw [h]; simp [shA])), h]; rfl
theorem wld_barr {E : HE} {σ : Mem} {a n : Nat} (h : shp a = (1, n, [])) : (wld E σ)[a]? = some (E.1 a, .inl (E.2.1 1, n, .inl (σ a))) := by
  rw [wld_get (shp_lt (by rw [h]; simp)), h]; rfl
theorem wld_obj {E : HE} {σ : Mem} {a ci : Nat} {ks : List (Nat × Nat)} (h : shp a = (2, ci, ks)) : (wld E σ)[a]? = some (E.1 a, .inr (ci, ks.mapIdx (fun j q => cfield E σ a j q))) := by
  rw [wld_get (shp_lt (by rw [h]; simp)), h]; rfl
theorem wld_rows {E : HE} {σ : Mem} {a n b : Nat} (h : shp a = (3, n, [(0, b)])) : (wld E σ)[a]? = some (E.1 a, .inl (E.2.1 2, n, .inr (.inr (.inr (.inr (fun i => some (E.1 (b + i)))))))) := by
  rw [wld_get (shp_lt (by rw [h]; simp)), h]; rfl
theorem ccell_other {E : HE} {σ τ : Mem} {a : Nat} {sh : Shp} (h : σ a = τ a) : ccell E σ a sh = ccell E τ a sh := by
  unfold ccell cfield; rw [h]
/-- one cell is another, by a memory that differs there alone -/
theorem wld_set {E : HE} {σ τ : Mem} {a : Nat} {e : va_E} (ha : a < NC) (ho : ∀ b, b ≠ a → τ b = σ b) (he : e = ccell E τ a (shp a)) : (wld E σ).set a (E.1 a, e) = wld E τ := by
  apply List.ext_getElem?
  intro i
  by_cases hi : i < NC
  · by_cases hia : i = a
    · subst hia
      rw [wld_get hi, List.getElem?_set_self (by unfold wld; simpa using hi), he]
    · rw [List.getElem?_set_ne (Ne.symm hia), wld_get hi, wld_get hi, ccell_other (ho i hia)]
  · rw [List.getElem?_eq_none (by unfold wld; simp; omega), List.getElem?_eq_none (by unfold wld; simp; omega)]
theorem mset_ne {σ : Mem} {a k : Nat} {v : Int32} (b : Nat) (h : b ≠ a) : mset σ a k v b = σ b := by
  funext j; simp [mset, h]
theorem mset_row {σ : Mem} {a k : Nat} {v : Int32} : mset σ a k v a = upd (σ a) k v := by
  funext j; simp [mset, upd]
theorem mset_at {σ : Mem} {a k : Nat} {v : Int32} : mset σ a k v a k = v := by simp [mset]
theorem mset_off {σ : Mem} {a k j : Nat} {v : Int32} (h : j ≠ k) : mset σ a k v a j = σ a j := by simp [mset, h]
theorem mcpy_ne {σ : Mem} {a sp b dp n : Nat} (c : Nat) (h : c ≠ b) : mcpy σ a sp b dp n c = σ c := by
  funext j; simp [mcpy, h]
theorem mcpy_row {σ : Mem} {a sp b dp n : Nat} : mcpy σ a sp b dp n b = va_cpy (σ a) (σ b) sp dp n := by
  funext j
  by_cases h : dp ≤ j ∧ j < dp + n
  · rw [pk_cpy_in h.1 h.2]; simp [mcpy, h]
  · rw [pk_cpy_out (by omega)]; simp [mcpy, h]
/-! the words that every method has: all good ones of the tables; the nest mates' links apart -/
def allW : List Cond := lw_tbl.filter goodWord
def isNest : Cond → Bool
  | .methodLinkNest _ _ _ _ => true
  | .fieldLinkNest _ _ _ _ _ _ => true
  | _ => false
def nestW : List Cond := lw_tbl.filter isNest
theorem allW_of {w : Cond} (h : w ∈ lw_tbl) (hg : goodWord w = true) : w ∈ allW := List.mem_filter.mpr ⟨h, hg⟩
theorem nestW_of {w : Cond} (h : w ∈ lw_tbl) (hg : isNest w = true) : w ∈ nestW := List.mem_filter.mpr ⟨h, hg⟩
theorem tb_mem {w : Cond} (h : w ∈ tables_1) : w ∈ lw_tbl := List.mem_append_right _ h
theorem good_all {ws : List Cond} (h : ∀ w ∈ ws, w ∈ allW) : GoodIn allW ws := fun w hw => ⟨h w hw, good_of_word (List.mem_filter.mp (h w hw)).2⟩
theorem nest_warm {w : Cond} (h : w ∈ nestW) {s U : State} (hW : s.WarmedH U.vm) (hz : va_Nw w s) : va_Nw w U := by
  have := (List.mem_filter.mp h).2
  cases w <;> first | exact va_Nw.warmM hW hz | exact va_Nw.warmF hW hz | exact Bool.noConfusion this
theorem nest_same {w : Cond} (h : w ∈ nestW) {u U : State} (hv : u.vm = U.vm) (hz : va_Nw w u) : va_Nw w U := by
  have := (List.mem_filter.mp h).2
  cases w <;> first | exact Bool.noConfusion this | exact va_Nw.same rfl hv hz
theorem nest_of {w : Cond} (h : w ∈ nestW) {A : Array Value} {U : State} (hz : w.before A U = true) : va_Nw w U := by
  have := (List.mem_filter.mp h).2
  cases w <;> first | exact Bool.noConfusion this | exact va_Nw.of rfl hz
/-! classes -/
def CLs (ci : Nat) (C : String) (T : u_T) (N : Nat) (ty : Nat → FieldType) : Prop := vwCl[ci]? = some (C, T, N) ∧ (∀ w ∈ u_ws C T N, w ∈ allW) ∧ (∀ k, k < N → parseFieldDescriptor (T k).2.2.1 = some (ty k)) ∧ ∀ a, a < N → ∀ b, b < N → a ≠ b → (T a).2.1 ≠ (T b).2.1
/-- a field by a pool entry: of class ci, its slot k, its type -/
def FLd (own : String) (idx ci k : Nat) (z : FieldType) (fin nest : Bool) : Prop := ∃ (C : String) (T : u_T) (N : Nat) (ty : Nat → FieldType), CLs ci C T N ty ∧ k < N ∧ ty k = z ∧ (T k).2.2.2 = fin ∧ (if nest then ∃ host, Cond.fieldLinkNest own idx (T k).1 (T k).2.1 (T k).2.2.1 host ∈ nestW else Cond.fieldLink own idx (T k).1 (T k).2.1 (T k).2.2.1 ∈ allW)
/-- a method that can be called: its code, its class made ready, how many parameters -/
def MFs (d : MD) (n : Nat) : Prop := Cond.code d.1 d.2.1 d.2.2.1 d.2.2.2 ∈ allW ∧ Cond.initialized d.1.cls ∈ allW ∧ (d.1.cls ≠ "java/lang/invoke/MethodHandle" ∧ d.1.cls ≠ "java/lang/invoke/VarHandle" ∧ (parseMethodDescriptor d.1.desc).map (fun q => q.parameters.length) = some n) ∧ d.2.2.1 ≤ 40
def MLk (own : String) (idx : Nat) (d : MD) (nest : Bool) : Prop := if nest then ∃ host, Cond.methodLinkNest own idx d.1 host ∈ nestW else Cond.methodLink own idx d.1 ∈ allW
def SVs (own : String) (idx : Nat) (d : MD) (n : Nat) (nest : Bool) : Prop := MFs d n ∧ MLk own idx d nest ∧ Cond.instanceMethod d.1 ∈ allW ∧ Cond.selects d.1.cls d.1 d.1 ∈ allW
def SSs (own : String) (idx : Nat) (d : MD) (n : Nat) (nest : Bool) : Prop := MFs d n ∧ MLk own idx d nest ∧ Cond.static d.1 ∈ allW
def mW (d : MD) : List Cond := Cond.code d.1 d.2.1 d.2.2.1 d.2.2.2 :: allW
def rm (D : Nat) : Room := { frames := D, cells := 0, slots := 0, locals := 64 * D }
def tysE (E : HE) : List (ClassId × FieldType) := [(E.2.1 0, .int), (E.2.1 1, .boolean), (E.2.1 2, .array .int)]
def nearF (j : Nat) : Value := .int (([-1, 0, 1, 1, 0, 4] : List Int32).getD j 0)
def nearV (j : Nat) : Int32 := ([-1, 0, 1, 1, 0, 4] : List Int32).getD j 0
/-- what a run of a method stands on -/
def Fx (E : HE) (A : Nat → Prop) (sc : Nat × (Nat → Int32)) (p : Program) (R : Room) (s : State) (m : MethodId) (args : Array Value) (c : Code) (cells slots : Nat) (d : MD) (D : Nat) : Prop :=
  p.tables.exec = Jvm.exec ∧ c.code = d.2.1 ∧ c.maxLocals = d.2.2.1 ∧ s.vm.findClass d.1.cls = some m.cls ∧ (∀ w ∈ allW, w.before args s = true) ∧ (∀ w ∈ nestW, va_Nw w s) ∧
  va_K E.2.2 vwCl (tysE E) s ∧ (∀ q : Nat, s.heap.size ≤ q → A q) ∧ va_Z "PaperHour" "NEAREST" "[I" (.ref (E.1 idNear)) A s s.heap ∧ va_T .int (E.1 idNear) 6 nearF A s s.heap ∧
  (d.1 = yL_law → va_X (E.1 idScr) sc.1 sc.2 s s.heap ∧ E.1 idScr < s.heap.size ∧ ¬ A (E.1 idScr)) ∧ D ≤ R.frames ∧ 64 * D ≤ R.locals ∧ cells ≤ R.cells ∧ slots ≤ R.slots
def isBv (v : Int32) : Bool := v == 0 || v == 1
def RetAt (d : MD) (pc : Nat) : Option Value → Prop
  | none => decode d.2.1 pc = .ok (.return_, 1) ∧ d.2.2.2 = none
  | some (.int v) => decode d.2.1 pc = .ok (.ireturn, 1) ∧ (d.2.2.2 = some .int ∨ (d.2.2.2 = some .boolean ∧ isBv v = true))
  | some (.ref _) => decode d.2.1 pc = .ok (.areturn, 1) ∧ ∃ C, d.2.2.2 = some (.object C)
  | some _ => False
/-- from here the method d comes to its end, with this answer and this memory -/
def Ev (l : Launch) (sc : Nat × (Nat → Int32)) (D : Nat) (d : MD) (pc : Nat) (ls : List (Nat × Value)) (st : List Value) (σ : Mem) (Y : Option Value × Mem) : Prop :=
  ∀ (E : HE) (A : Nat → Prop) (p : Program) (e : Jvm.Env) (R : Room) (s : State) (m : MethodId) (args : Array Value) (below : List Frame) (meth : Method) (c : Code) (cells slots : Nat) (Q : State → Prop),
    Fx E A sc p R s m args c cells slots d D →
    (∀ (pcr : Nat) (lsr : Array Slot) (Hr : Heap) (locsr : List Loc), va_P E.2.2 vwCl (wld E Y.2) Hr → va_D A (wld E Y.2) → va_S A s.heap Hr locsr → RetAt d pcr Y.1 → W p l e R s m args below meth c Hr locsr cells slots Q (F0 m pcr lsr (Y.1.toList.map (cv E)))) →
    ∀ (H : Heap) (locs : List Loc) (lsA : Array Slot), va_P E.2.2 vwCl (wld E σ) H → va_D A (wld E σ) → va_S A s.heap H locs → lv_has lsA d.2.2.1 (ls.map fun q => (q.1, cv E q.2)) →
      W p l e R s m args below meth c H locs cells slots Q (F0 m pc lsA (st.map (cv E)))
/-- if the pure answer is there, the method comes to it -/
def G {α : Type} (l : Launch) (sc : Nat × (Nat → Int32)) (D : Nat) (d : MD) (pc : Nat) (ls : List (Nat × Value)) (st : List Value) (σ : Mem) (o : Option α) (mk : α → Option Value × Mem) : Prop := ∀ y, o = some y → Ev l sc D d pc ls st σ (mk y)
/-- an instruction, its length, where the next one is -/
def Dc (d : MD) (pc : Nat) (i : Instr) (len nx : Nat) : Prop := decode d.2.1 pc = .ok (i, len) ∧ pc + len = nx
/-- the cells that a method may change -/
def fA (E : HE) (sz : Nat) : Nat → Prop := fun q => (∃ k, k < NC ∧ q = E.1 k) ∨ sz ≤ q
def Pw (E : HE) (σ : Mem) (sz : Nat) (U : State) : Prop := U.heap.size = sz ∧ va_P E.2.2 vwCl (wld E σ) U.heap ∧ va_K E.2.2 vwCl (tysE E) U ∧ va_D (fun _ => True) (wld E σ) ∧ (∀ w ∈ nestW, va_Nw w U) ∧ va_Z "PaperHour" "NEAREST" "[I" (.ref (E.1 idNear)) (fA E sz) U U.heap ∧ va_T .int (E.1 idNear) 6 nearF (fA E sz) U U.heap
def Qw (E : HE) (Y : Option Value × Mem) (sz : Nat) : Array Value → State → Outcome → State → Prop := fun _ st oc t => oc = .returned (Y.1.map (cv E)) ∧ (va_P E.2.2 vwCl (wld E Y.2) t.heap ∧ va_D (fA E sz) (wld E Y.2)) ∧ va_F (fA E sz) st t
/-- the method, as a caller sees it -/
def EvM (l : Launch) (D : Nat) (d : MD) (as : List Value) (σ : Mem) (Y : Option Value × Mem) : Prop :=
  ∀ (E : HE) (sz : Nat), Met l d.1 (mW d) (rm D) (va_Pc (as.map (cv E)) (Pw E σ sz)) (Qw E Y sz) 0 0 (fA E sz)
end
section
/-! ===== the rules: an instruction each ===== -/
def inB (i : Int32) (n : Nat) : Bool := decide (¬ (i < 0 ∨ n ≤ i.toNatClampNeg))
theorem inB_in {i : Int32} {n : Nat} (h : inB i n = true) : vp_in i n := by unfold vp_in; exact of_decide_eq_true h
section GR
variable {α : Type} {l : Launch} {sc : Nat × (Nat → Int32)} {D pc nx : Nat} {d : MD} {ls ls' : List (Nat × Value)} {st : List Value} {σ : Mem} {o : Option α} {mk : α → Option Value × Mem}
theorem loc_at {E : HE} {lsA : Array Slot} {n k i : Nat} {v : Value} (hl : lv_has lsA n (ls.map fun q => (q.1, cv E q.2))) (hk : ls[k]? = some (i, v)) : lsA[i]? = some (.val (cv E v)) := lv_at hl k (by rw [List.getElem?_map, hk]; rfl)
theorem cv_cat (E : HE) (v : Value) : (cv E v).category = v.category := by cases v <;> rfl
theorem st_map1 (E : HE) (i : Nat) : ∀ L : List (Nat × Value), (L.map fun q => (q.1, cv E q.2)).filter (fun q => !(q.1 == i) && !(q.1 + 1 == i && q.2.category == 2)) = (L.filter (fun q => !(q.1 == i) && !(q.1 + 1 == i && q.2.category == 2))).map fun q => (q.1, cv E q.2)
  | [] => rfl
  | q :: L => by
    rw [List.map_cons, List.filter_cons, List.filter_cons, st_map1 E i L, cv_cat]
    split <;> rfl
theorem st_map2 (E : HE) (i : Nat) : ∀ L : List (Nat × Value), (L.map fun q => (q.1, cv E q.2)).filter (fun q => !(q.1 == i) && (!(q.1 == i + 1) && !(q.1 + 1 == i && q.2.category == 2))) = (L.filter (fun q => !(q.1 == i) && (!(q.1 == i + 1) && !(q.1 + 1 == i && q.2.category == 2)))).map fun q => (q.1, cv E q.2)
  | [] => rfl
  | q :: L => by
    rw [List.map_cons, List.filter_cons, List.filter_cons, st_map2 E i L, cv_cat]
    split <;> rfl
theorem g_sub (is : List Nat) (hs : is.filterMap (fun i => ls[i]?) = ls') (k : G l sc D d pc ls' st σ o mk) : G l sc D d pc ls st σ o mk := by
  intro v hv E A p e_ R s m args below meth c cells slots Q F K H locs lsA hP hD hS hl
  refine k v hv E A p e_ R s m args below meth c cells slots Q F K H locs lsA hP hD hS (lv_sub hl is ?_)
  subst hs
  unfold lv_pick
  rw [List.map_filterMap]
  congr 1
  funext i
  rw [List.getElem?_map]
theorem g_if {c : Prop} [Decidable c] {o2 : Option α} (k1 : c → G l sc D d pc ls st σ o mk) (k2 : ¬ c → G l sc D d pc ls st σ o2 mk) : G l sc D d pc ls st σ (if c then o else o2) mk := by
  by_cases h : c
  · rw [if_pos h]; exact k1 h
  · rw [if_neg h]; exact k2 h
theorem g_guard {b : Bool} (k1 : b = true → G l sc D d pc ls st σ o mk) : G l sc D d pc ls st σ (if b = true then o else none) mk := g_if k1 (fun _ _ h => by cases h)
theorem g_none : G l sc D d pc ls st σ (none : Option α) mk := fun _ h => by cases h
theorem g_eqm {τ : Mem} (h : σ = τ) (k : G l sc D d pc ls st τ o mk) : G l sc D d pc ls st σ o mk := h ▸ k
theorem g_iadd {x y : Int32} (hi : Dc d pc .iadd 1 nx)  (k : G l sc D d nx ls (.int (x + y) :: st) σ o mk) : G l sc D d pc ls (.int y :: .int x :: st) σ o mk := by
  obtain ⟨hi, rfl⟩ := hi
  intro v hv E A p e_ R s m args below meth c cells slots Q F K H locs lsA hP hD hS hl
  exact lv_iadd F.1 F.2.1 hi  (k v hv E A p e_ R s m args below meth c cells slots Q F K H locs lsA hP hD hS hl)
theorem g_isub {x y : Int32} (hi : Dc d pc .isub 1 nx)  (k : G l sc D d nx ls (.int (x - y) :: st) σ o mk) : G l sc D d pc ls (.int y :: .int x :: st) σ o mk := by
  obtain ⟨hi, rfl⟩ := hi
  intro v hv E A p e_ R s m args below meth c cells slots Q F K H locs lsA hP hD hS hl
  exact lv_isub F.1 F.2.1 hi  (k v hv E A p e_ R s m args below meth c cells slots Q F K H locs lsA hP hD hS hl)
theorem g_imul {x y : Int32} (hi : Dc d pc .imul 1 nx)  (k : G l sc D d nx ls (.int (x * y) :: st) σ o mk) : G l sc D d pc ls (.int y :: .int x :: st) σ o mk := by
  obtain ⟨hi, rfl⟩ := hi
  intro v hv E A p e_ R s m args below meth c cells slots Q F K H locs lsA hP hD hS hl
  exact lv_imul F.1 F.2.1 hi  (k v hv E A p e_ R s m args below meth c cells slots Q F K H locs lsA hP hD hS hl)
theorem g_iand {x y : Int32} (hi : Dc d pc .iand 1 nx)  (k : G l sc D d nx ls (.int (x &&& y) :: st) σ o mk) : G l sc D d pc ls (.int y :: .int x :: st) σ o mk := by
  obtain ⟨hi, rfl⟩ := hi
  intro v hv E A p e_ R s m args below meth c cells slots Q F K H locs lsA hP hD hS hl
  exact lv_iand F.1 F.2.1 hi  (k v hv E A p e_ R s m args below meth c cells slots Q F K H locs lsA hP hD hS hl)
theorem g_ior {x y : Int32} (hi : Dc d pc .ior 1 nx)  (k : G l sc D d nx ls (.int (x ||| y) :: st) σ o mk) : G l sc D d pc ls (.int y :: .int x :: st) σ o mk := by
  obtain ⟨hi, rfl⟩ := hi
  intro v hv E A p e_ R s m args below meth c cells slots Q F K H locs lsA hP hD hS hl
  exact lv_ior F.1 F.2.1 hi  (k v hv E A p e_ R s m args below meth c cells slots Q F K H locs lsA hP hD hS hl)
theorem g_ixor {x y : Int32} (hi : Dc d pc .ixor 1 nx)  (k : G l sc D d nx ls (.int (x ^^^ y) :: st) σ o mk) : G l sc D d pc ls (.int y :: .int x :: st) σ o mk := by
  obtain ⟨hi, rfl⟩ := hi
  intro v hv E A p e_ R s m args below meth c cells slots Q F K H locs lsA hP hD hS hl
  exact lv_ixor F.1 F.2.1 hi  (k v hv E A p e_ R s m args below meth c cells slots Q F K H locs lsA hP hD hS hl)
theorem g_ishl {x y : Int32} (hi : Dc d pc .ishl 1 nx)  (k : G l sc D d nx ls (.int (x <<< (y &&& 31)) :: st) σ o mk) : G l sc D d pc ls (.int y :: .int x :: st) σ o mk := by
  obtain ⟨hi, rfl⟩ := hi
  intro v hv E A p e_ R s m args below meth c cells slots Q F K H locs lsA hP hD hS hl
  exact lv_ishl F.1 F.2.1 hi  (k v hv E A p e_ R s m args below meth c cells slots Q F K H locs lsA hP hD hS hl)
theorem g_ishr {x y : Int32} (hi : Dc d pc .ishr 1 nx)  (k : G l sc D d nx ls (.int (x >>> (y &&& 31)) :: st) σ o mk) : G l sc D d pc ls (.int y :: .int x :: st) σ o mk := by
  obtain ⟨hi, rfl⟩ := hi
  intro v hv E A p e_ R s m args below meth c cells slots Q F K H locs lsA hP hD hS hl
  exact lv_ishr F.1 F.2.1 hi  (k v hv E A p e_ R s m args below meth c cells slots Q F K H locs lsA hP hD hS hl)
theorem g_idiv {x y : Int32} (hi : Dc d pc .idiv 1 nx) (hne : ¬ y = 0) (k : G l sc D d nx ls (.int (x / y) :: st) σ o mk) : G l sc D d pc ls (.int y :: .int x :: st) σ o mk := by
  obtain ⟨hi, rfl⟩ := hi
  intro v hv E A p e_ R s m args below meth c cells slots Q F K H locs lsA hP hD hS hl
  exact lv_idiv F.1 F.2.1 hi hne (k v hv E A p e_ R s m args below meth c cells slots Q F K H locs lsA hP hD hS hl)
theorem g_irem {x y : Int32} (hi : Dc d pc .irem 1 nx) (hne : ¬ y = 0) (k : G l sc D d nx ls (.int (x - x / y * y) :: st) σ o mk) : G l sc D d pc ls (.int y :: .int x :: st) σ o mk := by
  obtain ⟨hi, rfl⟩ := hi
  intro v hv E A p e_ R s m args below meth c cells slots Q F K H locs lsA hP hD hS hl
  exact lv_irem F.1 F.2.1 hi hne (k v hv E A p e_ R s m args below meth c cells slots Q F K H locs lsA hP hD hS hl)
theorem g_ineg {x : Int32} (hi : Dc d pc .ineg 1 nx)  (k : G l sc D d nx ls (.int (-x) :: st) σ o mk) : G l sc D d pc ls (.int x :: st) σ o mk := by
  obtain ⟨hi, rfl⟩ := hi
  intro v hv E A p e_ R s m args below meth c cells slots Q F K H locs lsA hP hD hS hl
  exact lv_ineg F.1 F.2.1 hi  (k v hv E A p e_ R s m args below meth c cells slots Q F K H locs lsA hP hD hS hl)
theorem g_i2l {x : Int32} (hi : Dc d pc .i2l 1 nx)  (k : G l sc D d nx ls (.long x.toInt64 :: st) σ o mk) : G l sc D d pc ls (.int x :: st) σ o mk := by
  obtain ⟨hi, rfl⟩ := hi
  intro v hv E A p e_ R s m args below meth c cells slots Q F K H locs lsA hP hD hS hl
  exact lv_i2l F.1 F.2.1 hi rfl (k v hv E A p e_ R s m args below meth c cells slots Q F K H locs lsA hP hD hS hl)
theorem g_l2i {x : Int64} (hi : Dc d pc .l2i 1 nx)  (k : G l sc D d nx ls (.int x.toInt32 :: st) σ o mk) : G l sc D d pc ls (.long x :: st) σ o mk := by
  obtain ⟨hi, rfl⟩ := hi
  intro v hv E A p e_ R s m args below meth c cells slots Q F K H locs lsA hP hD hS hl
  exact lv_l2i F.1 F.2.1 hi rfl (k v hv E A p e_ R s m args below meth c cells slots Q F K H locs lsA hP hD hS hl)
theorem g_i2b {x : Int32} (hi : Dc d pc .i2b 1 nx)  (k : G l sc D d nx ls (.int x.toInt8.toInt32 :: st) σ o mk) : G l sc D d pc ls (.int x :: st) σ o mk := by
  obtain ⟨hi, rfl⟩ := hi
  intro v hv E A p e_ R s m args below meth c cells slots Q F K H locs lsA hP hD hS hl
  exact lv_i2b F.1 F.2.1 hi rfl (k v hv E A p e_ R s m args below meth c cells slots Q F K H locs lsA hP hD hS hl)
theorem g_i2s {x : Int32} (hi : Dc d pc .i2s 1 nx)  (k : G l sc D d nx ls (.int x.toInt16.toInt32 :: st) σ o mk) : G l sc D d pc ls (.int x :: st) σ o mk := by
  obtain ⟨hi, rfl⟩ := hi
  intro v hv E A p e_ R s m args below meth c cells slots Q F K H locs lsA hP hD hS hl
  exact lv_i2s F.1 F.2.1 hi rfl (k v hv E A p e_ R s m args below meth c cells slots Q F K H locs lsA hP hD hS hl)
theorem g_lmul {x y : Int64} (hi : Dc d pc .lmul 1 nx)  (k : G l sc D d nx ls (.long (x * y) :: st) σ o mk) : G l sc D d pc ls (.long y :: .long x :: st) σ o mk := by
  obtain ⟨hi, rfl⟩ := hi
  intro v hv E A p e_ R s m args below meth c cells slots Q F K H locs lsA hP hD hS hl
  exact lv_lmul F.1 F.2.1 hi  (k v hv E A p e_ R s m args below meth c cells slots Q F K H locs lsA hP hD hS hl)
theorem g_lrem {x y : Int64} (hi : Dc d pc .lrem 1 nx) (hne : ¬ y = 0) (k : G l sc D d nx ls (.long (x - x / y * y) :: st) σ o mk) : G l sc D d pc ls (.long y :: .long x :: st) σ o mk := by
  obtain ⟨hi, rfl⟩ := hi
  intro v hv E A p e_ R s m args below meth c cells slots Q F K H locs lsA hP hD hS hl
  exact lv_lrem F.1 F.2.1 hi hne (k v hv E A p e_ R s m args below meth c cells slots Q F K H locs lsA hP hD hS hl)
theorem g_iconst {n : Int} {v : Int32} (hi : Dc d pc (.iconst n) 1 nx) (hv0 : Int32.ofInt n = v) (k : G l sc D d nx ls (.int v :: st) σ o mk) : G l sc D d pc ls (st) σ o mk := by
  obtain ⟨hi, rfl⟩ := hi
  intro v hv E A p e_ R s m args below meth c cells slots Q F K H locs lsA hP hD hS hl
  exact lv_iconst F.1 F.2.1 hi hv0 (k v hv E A p e_ R s m args below meth c cells slots Q F K H locs lsA hP hD hS hl)
theorem g_bipush {n : Int} {v : Int32} (hi : Dc d pc (.bipush n) 2 nx) (hv0 : (Int8.ofInt n).toInt32 = v) (k : G l sc D d nx ls (.int v :: st) σ o mk) : G l sc D d pc ls (st) σ o mk := by
  obtain ⟨hi, rfl⟩ := hi
  intro v hv E A p e_ R s m args below meth c cells slots Q F K H locs lsA hP hD hS hl
  exact lv_bipush F.1 F.2.1 hi hv0 (k v hv E A p e_ R s m args below meth c cells slots Q F K H locs lsA hP hD hS hl)
theorem g_sipush {n : Int} {v : Int32} (hi : Dc d pc (.sipush n) 3 nx) (hv0 : (Int16.ofInt n).toInt32 = v) (k : G l sc D d nx ls (.int v :: st) σ o mk) : G l sc D d pc ls (st) σ o mk := by
  obtain ⟨hi, rfl⟩ := hi
  intro v hv E A p e_ R s m args below meth c cells slots Q F K H locs lsA hP hD hS hl
  exact lv_sipush F.1 F.2.1 hi hv0 (k v hv E A p e_ R s m args below meth c cells slots Q F K H locs lsA hP hD hS hl)
theorem g_ldc {idx : Nat} {v : Int32} (hi : Dc d pc (.ldc idx) 2 nx) (hw : Cond.constant d.1.cls idx v ∈ allW) (k : G l sc D d nx ls (.int v :: st) σ o mk) : G l sc D d pc ls st σ o mk := by
  obtain ⟨hi, rfl⟩ := hi
  intro v0 hv E A p e_ R s m args below meth c cells slots Q F K H locs lsA hP hD hS hl
  exact lv_ldc F.1 F.2.1 F.2.2.2.1 (F.2.2.2.2.1 _ hw) hi (k v0 hv E A p e_ R s m args below meth c cells slots Q F K H locs lsA hP hD hS hl)
theorem g_ldcw {idx : Nat} {v : Int32} (hi : Dc d pc (.ldc_w idx) 3 nx) (hw : Cond.constant d.1.cls idx v ∈ allW) (k : G l sc D d nx ls (.int v :: st) σ o mk) : G l sc D d pc ls st σ o mk := by
  obtain ⟨hi, rfl⟩ := hi
  intro v0 hv E A p e_ R s m args below meth c cells slots Q F K H locs lsA hP hD hS hl
  exact lv_ldcw F.1 F.2.1 F.2.2.2.1 (F.2.2.2.2.1 _ hw) hi (k v0 hv E A p e_ R s m args below meth c cells slots Q F K H locs lsA hP hD hS hl)
theorem g_ldc2 {idx : Nat} {v : Int64} (hi : Dc d pc (.ldc2_w idx) 3 nx) (hw : Cond.constantLong d.1.cls idx v ∈ allW) (k : G l sc D d nx ls (.long v :: st) σ o mk) : G l sc D d pc ls st σ o mk := by
  obtain ⟨hi, rfl⟩ := hi
  intro v0 hv E A p e_ R s m args below meth c cells slots Q F K H locs lsA hP hD hS hl
  exact lv_ldc2 F.1 F.2.1 F.2.2.2.1 (F.2.2.2.2.1 _ hw) hi (k v0 hv E A p e_ R s m args below meth c cells slots Q F K H locs lsA hP hD hS hl)
theorem g_iload_n {i n : Nat} {x : Int32} {j : Fin 4} (hi : Dc d pc (.iload_n j) 1 nx) (hj : (j : Nat) = i) (hk : ls[n]? = some (i, .int x)) (k : G l sc D d nx ls (.int x :: st) σ o mk) : G l sc D d pc ls st σ o mk := by
  obtain ⟨hi, rfl⟩ := hi
  intro v hv E A p e_ R s m args below meth c cells slots Q F K H locs lsA hP hD hS hl
  exact lv_iload_n F.1 F.2.1 hi hj (loc_at hl hk) (k v hv E A p e_ R s m args below meth c cells slots Q F K H locs lsA hP hD hS hl)
theorem g_iload {i n : Nat} {x : Int32}  (hi : Dc d pc (.iload i) 2 nx)  (hk : ls[n]? = some (i, .int x)) (k : G l sc D d nx ls (.int x :: st) σ o mk) : G l sc D d pc ls st σ o mk := by
  obtain ⟨hi, rfl⟩ := hi
  intro v hv E A p e_ R s m args below meth c cells slots Q F K H locs lsA hP hD hS hl
  exact lv_iload F.1 F.2.1 hi  (loc_at hl hk) (k v hv E A p e_ R s m args below meth c cells slots Q F K H locs lsA hP hD hS hl)
theorem g_lload {i n : Nat} {x : Int64}  (hi : Dc d pc (.lload i) 2 nx)  (hk : ls[n]? = some (i, .long x)) (k : G l sc D d nx ls (.long x :: st) σ o mk) : G l sc D d pc ls st σ o mk := by
  obtain ⟨hi, rfl⟩ := hi
  intro v hv E A p e_ R s m args below meth c cells slots Q F K H locs lsA hP hD hS hl
  exact lv_lload F.1 F.2.1 hi  (loc_at hl hk) (k v hv E A p e_ R s m args below meth c cells slots Q F K H locs lsA hP hD hS hl)
theorem g_aload_n {i n : Nat} {x : Nat} {j : Fin 4} (hi : Dc d pc (.aload_n j) 1 nx) (hj : (j : Nat) = i) (hk : ls[n]? = some (i, .ref x)) (k : G l sc D d nx ls (.ref x :: st) σ o mk) : G l sc D d pc ls st σ o mk := by
  obtain ⟨hi, rfl⟩ := hi
  intro v hv E A p e_ R s m args below meth c cells slots Q F K H locs lsA hP hD hS hl
  exact lv_aload_n F.1 F.2.1 hi hj (loc_at hl hk) (k v hv E A p e_ R s m args below meth c cells slots Q F K H locs lsA hP hD hS hl)
theorem g_aload {i n : Nat} {x : Nat}  (hi : Dc d pc (.aload i) 2 nx)  (hk : ls[n]? = some (i, .ref x)) (k : G l sc D d nx ls (.ref x :: st) σ o mk) : G l sc D d pc ls st σ o mk := by
  obtain ⟨hi, rfl⟩ := hi
  intro v hv E A p e_ R s m args below meth c cells slots Q F K H locs lsA hP hD hS hl
  exact lv_aload F.1 F.2.1 hi  (loc_at hl hk) (k v hv E A p e_ R s m args below meth c cells slots Q F K H locs lsA hP hD hS hl)
theorem g_istore_n {i : Nat} {x : Int32} {j : Fin 4} (hi : Dc d pc (.istore_n j) 1 nx) (hj : (j : Nat) = i) (hn : i < d.2.2.1) (hl0 : ((i, Value.int x) :: ls.filter (fun q => !(q.1 == i) && !(q.1 + 1 == i && q.2.category == 2))) = ls') (k : G l sc D d nx ls' st σ o mk) : G l sc D d pc ls (.int x :: st) σ o mk := by
  obtain ⟨hi, rfl⟩ := hi
  intro v hv E A p e_ R s m args below meth c cells slots Q F K H locs lsA hP hD hS hl
  subst hl0
  exact lv_istore_n F.1 F.2.1 hi hj hl hn rfl (fun lsB hlB => k v hv E A p e_ R s m args below meth c cells slots Q F K H locs lsB hP hD hS  (by rw [st_map1] at hlB; exact hlB))
theorem g_istore {i : Nat} {x : Int32}  (hi : Dc d pc (.istore i) 2 nx)  (hn : i < d.2.2.1) (hl0 : ((i, Value.int x) :: ls.filter (fun q => !(q.1 == i) && !(q.1 + 1 == i && q.2.category == 2))) = ls') (k : G l sc D d nx ls' st σ o mk) : G l sc D d pc ls (.int x :: st) σ o mk := by
  obtain ⟨hi, rfl⟩ := hi
  intro v hv E A p e_ R s m args below meth c cells slots Q F K H locs lsA hP hD hS hl
  subst hl0
  exact lv_istore F.1 F.2.1 hi  hl hn rfl (fun lsB hlB => k v hv E A p e_ R s m args below meth c cells slots Q F K H locs lsB hP hD hS  (by rw [st_map1] at hlB; exact hlB))
theorem g_astore_n {i : Nat} {x : Nat} {j : Fin 4} (hi : Dc d pc (.astore_n j) 1 nx) (hj : (j : Nat) = i) (hn : i < d.2.2.1) (hl0 : ((i, Value.ref x) :: ls.filter (fun q => !(q.1 == i) && !(q.1 + 1 == i && q.2.category == 2))) = ls') (k : G l sc D d nx ls' st σ o mk) : G l sc D d pc ls (.ref x :: st) σ o mk := by
  obtain ⟨hi, rfl⟩ := hi
  intro v hv E A p e_ R s m args below meth c cells slots Q F K H locs lsA hP hD hS hl
  subst hl0
  exact lv_astore_n F.1 F.2.1 hi hj hl hn rfl (fun lsB hlB => k v hv E A p e_ R s m args below meth c cells slots Q F K H locs lsB hP hD hS  (by rw [st_map1] at hlB; exact hlB))
theorem g_astore {i : Nat} {x : Nat}  (hi : Dc d pc (.astore i) 2 nx)  (hn : i < d.2.2.1) (hl0 : ((i, Value.ref x) :: ls.filter (fun q => !(q.1 == i) && !(q.1 + 1 == i && q.2.category == 2))) = ls') (k : G l sc D d nx ls' st σ o mk) : G l sc D d pc ls (.ref x :: st) σ o mk := by
  obtain ⟨hi, rfl⟩ := hi
  intro v hv E A p e_ R s m args below meth c cells slots Q F K H locs lsA hP hD hS hl
  subst hl0
  exact lv_astore F.1 F.2.1 hi  hl hn rfl (fun lsB hlB => k v hv E A p e_ R s m args below meth c cells slots Q F K H locs lsB hP hD hS  (by rw [st_map1] at hlB; exact hlB))
theorem g_lstore {i : Nat} {x : Int64} (hi : Dc d pc (.lstore i) 2 nx) (hn : i + 1 < d.2.2.1) (hl0 : ((i, Value.long x) :: ls.filter (fun q => !(q.1 == i) && (!(q.1 == i + 1) && !(q.1 + 1 == i && q.2.category == 2)))) = ls') (k : G l sc D d nx ls' st σ o mk) : G l sc D d pc ls (.long x :: st) σ o mk := by
  obtain ⟨hi, rfl⟩ := hi
  intro v hv E A p e_ R s m args below meth c cells slots Q F K H locs lsA hP hD hS hl
  subst hl0
  exact lv_lstore F.1 F.2.1 hi hl hn rfl (fun lsB hlB => k v hv E A p e_ R s m args below meth c cells slots Q F K H locs lsB hP hD hS  (by rw [st_map2] at hlB; exact hlB))
theorem g_iinc {i n : Nat} {z : Int} {x w : Int32} (hi : Dc d pc (.iinc i z) 3 nx) (hk : ls[n]? = some (i, .int x)) (hw : Int32.ofInt z = w) (hn : i < d.2.2.1) (hl0 : ((i, Value.int (x + w)) :: ls.filter (fun q => !(q.1 == i) && !(q.1 + 1 == i && q.2.category == 2))) = ls') (k : G l sc D d nx ls' st σ o mk) : G l sc D d pc ls st σ o mk := by
  obtain ⟨hi, rfl⟩ := hi
  intro v hv E A p e_ R s m args below meth c cells slots Q F K H locs lsA hP hD hS hl
  subst hl0; subst hw
  exact lv_iinc (k := n) (v := x + Int32.ofInt z) F.1 F.2.1 hi hl (by rw [List.getElem?_map, hk]; rfl) rfl hn rfl (fun lsB hlB => k v hv E A p e_ R s m args below meth c cells slots Q F K H locs lsB hP hD hS  (by rw [st_map1] at hlB; exact hlB))
theorem g_dup {a : Value} (hi : Dc d pc .dup 1 nx) (ha : a.category = 1) (k : G l sc D d nx ls (a :: a :: st) σ o mk) : G l sc D d pc ls (a :: st) σ o mk := by
  obtain ⟨hi, rfl⟩ := hi
  intro v hv E A p e_ R s m args below meth c cells slots Q F K H locs lsA hP hD hS hl
  exact lv_dup F.1 F.2.1 hi (by rw [cv_cat]; exact ha) (k v hv E A p e_ R s m args below meth c cells slots Q F K H locs lsA hP hD hS hl)
theorem g_dup2 {a b : Value} (hi : Dc d pc .dup2 1 nx) (ha : a.category = 1) (hb : b.category = 1) (k : G l sc D d nx ls (a :: b :: a :: b :: st) σ o mk) : G l sc D d pc ls (a :: b :: st) σ o mk := by
  obtain ⟨hi, rfl⟩ := hi
  intro v hv E A p e_ R s m args below meth c cells slots Q F K H locs lsA hP hD hS hl
  exact lv_dup2_11 F.1 F.2.1 hi (by rw [cv_cat]; exact ha) (by rw [cv_cat]; exact hb) (k v hv E A p e_ R s m args below meth c cells slots Q F K H locs lsA hP hD hS hl)
theorem g_pop {a : Value} (hi : Dc d pc .pop 1 nx) (ha : a.category = 1) (k : G l sc D d nx ls st σ o mk) : G l sc D d pc ls (a :: st) σ o mk := by
  obtain ⟨hi, rfl⟩ := hi
  intro v hv E A p e_ R s m args below meth c cells slots Q F K H locs lsA hP hD hS hl
  exact lv_pop F.1 F.2.1 hi (by rw [cv_cat]; exact ha) (k v hv E A p e_ R s m args below meth c cells slots Q F K H locs lsA hP hD hS hl)
theorem g_goto {off : Int} {tgt : Nat} (hi : Dc d pc (.goto off) 3 nx) (ht : (pc : Int) + off = (tgt : Int)) (k : G l sc D d tgt ls st σ o mk) : G l sc D d pc ls st σ o mk := by
  obtain ⟨hi, rfl⟩ := hi
  intro v hv E A p e_ R s m args below meth c cells slots Q F K H locs lsA hP hD hS hl
  exact lv_goto F.1 F.2.1 hi ht (k v hv E A p e_ R s m args below meth c cells slots Q F K H locs lsA hP hD hS hl)
theorem g_if_eq {x : Int32} {off : Int} {tgt : Nat} {o2 : Option α} (hi : Dc d pc (.ifCond .eq off) 3 nx) (ht : (pc : Int) + off = (tgt : Int)) (kt : x = 0 → G l sc D d tgt ls st σ o mk) (kf : ¬ x = 0 → G l sc D d nx ls st σ o2 mk) : G l sc D d pc ls (.int x :: st) σ (if x = 0 then o else o2) mk := by
  obtain ⟨hi, rfl⟩ := hi
  intro v hv E A p e_ R s m args below meth c cells slots Q F K H locs lsA hP hD hS hl
  refine lv_if_eq F.1 F.2.1 hi ht (fun h => kt h v ?_ E A p e_ R s m args below meth c cells slots Q F K H locs lsA hP hD hS hl) (fun h => kf h v ?_ E A p e_ R s m args below meth c cells slots Q F K H locs lsA hP hD hS hl)
  · rw [if_pos h] at hv; exact hv
  · rw [if_neg h] at hv; exact hv
theorem g_icmp_eq {x y : Int32} {off : Int} {tgt : Nat} {o2 : Option α} (hi : Dc d pc (.if_icmp .eq off) 3 nx) (ht : (pc : Int) + off = (tgt : Int)) (kt : x = y → G l sc D d tgt ls st σ o mk) (kf : ¬ x = y → G l sc D d nx ls st σ o2 mk) : G l sc D d pc ls (.int y :: .int x :: st) σ (if x = y then o else o2) mk := by
  obtain ⟨hi, rfl⟩ := hi
  intro v hv E A p e_ R s m args below meth c cells slots Q F K H locs lsA hP hD hS hl
  refine lv_icmp_eq F.1 F.2.1 hi ht (fun h => kt h v ?_ E A p e_ R s m args below meth c cells slots Q F K H locs lsA hP hD hS hl) (fun h => kf h v ?_ E A p e_ R s m args below meth c cells slots Q F K H locs lsA hP hD hS hl)
  · rw [if_pos h] at hv; exact hv
  · rw [if_neg h] at hv; exact hv
theorem g_if_ne {x : Int32} {off : Int} {tgt : Nat} {o2 : Option α} (hi : Dc d pc (.ifCond .ne off) 3 nx) (ht : (pc : Int) + off = (tgt : Int)) (kt : ¬ x = 0 → G l sc D d tgt ls st σ o mk) (kf : x = 0 → G l sc D d nx ls st σ o2 mk) : G l sc D d pc ls (.int x :: st) σ (if x = 0 then o2 else o) mk := by
  obtain ⟨hi, rfl⟩ := hi
  intro v hv E A p e_ R s m args below meth c cells slots Q F K H locs lsA hP hD hS hl
  refine lv_if_ne F.1 F.2.1 hi ht (fun h => kt h v ?_ E A p e_ R s m args below meth c cells slots Q F K H locs lsA hP hD hS hl) (fun h => kf h v ?_ E A p e_ R s m args below meth c cells slots Q F K H locs lsA hP hD hS hl)
  · rw [if_neg h] at hv; exact hv
  · rw [if_pos h] at hv; exact hv
theorem g_icmp_ne {x y : Int32} {off : Int} {tgt : Nat} {o2 : Option α} (hi : Dc d pc (.if_icmp .ne off) 3 nx) (ht : (pc : Int) + off = (tgt : Int)) (kt : ¬ x = y → G l sc D d tgt ls st σ o mk) (kf : x = y → G l sc D d nx ls st σ o2 mk) : G l sc D d pc ls (.int y :: .int x :: st) σ (if x = y then o2 else o) mk := by
  obtain ⟨hi, rfl⟩ := hi
  intro v hv E A p e_ R s m args below meth c cells slots Q F K H locs lsA hP hD hS hl
  refine lv_icmp_ne F.1 F.2.1 hi ht (fun h => kt h v ?_ E A p e_ R s m args below meth c cells slots Q F K H locs lsA hP hD hS hl) (fun h => kf h v ?_ E A p e_ R s m args below meth c cells slots Q F K H locs lsA hP hD hS hl)
  · rw [if_neg h] at hv; exact hv
  · rw [if_pos h] at hv; exact hv
theorem g_if_lt {x : Int32} {off : Int} {tgt : Nat} {o2 : Option α} (hi : Dc d pc (.ifCond .lt off) 3 nx) (ht : (pc : Int) + off = (tgt : Int)) (kt : x < 0 → G l sc D d tgt ls st σ o mk) (kf : ¬ x < 0 → G l sc D d nx ls st σ o2 mk) : G l sc D d pc ls (.int x :: st) σ (if x < 0 then o else o2) mk := by
  obtain ⟨hi, rfl⟩ := hi
  intro v hv E A p e_ R s m args below meth c cells slots Q F K H locs lsA hP hD hS hl
  refine lv_if_lt F.1 F.2.1 hi ht (fun h => kt h v ?_ E A p e_ R s m args below meth c cells slots Q F K H locs lsA hP hD hS hl) (fun h => kf h v ?_ E A p e_ R s m args below meth c cells slots Q F K H locs lsA hP hD hS hl)
  · rw [if_pos h] at hv; exact hv
  · rw [if_neg h] at hv; exact hv
theorem g_icmp_lt {x y : Int32} {off : Int} {tgt : Nat} {o2 : Option α} (hi : Dc d pc (.if_icmp .lt off) 3 nx) (ht : (pc : Int) + off = (tgt : Int)) (kt : x < y → G l sc D d tgt ls st σ o mk) (kf : ¬ x < y → G l sc D d nx ls st σ o2 mk) : G l sc D d pc ls (.int y :: .int x :: st) σ (if x < y then o else o2) mk := by
  obtain ⟨hi, rfl⟩ := hi
  intro v hv E A p e_ R s m args below meth c cells slots Q F K H locs lsA hP hD hS hl
  refine lv_icmp_lt F.1 F.2.1 hi ht (fun h => kt h v ?_ E A p e_ R s m args below meth c cells slots Q F K H locs lsA hP hD hS hl) (fun h => kf h v ?_ E A p e_ R s m args below meth c cells slots Q F K H locs lsA hP hD hS hl)
  · rw [if_pos h] at hv; exact hv
  · rw [if_neg h] at hv; exact hv
theorem g_if_ge {x : Int32} {off : Int} {tgt : Nat} {o2 : Option α} (hi : Dc d pc (.ifCond .ge off) 3 nx) (ht : (pc : Int) + off = (tgt : Int)) (kt : 0 ≤ x → G l sc D d tgt ls st σ o mk) (kf : ¬ 0 ≤ x → G l sc D d nx ls st σ o2 mk) : G l sc D d pc ls (.int x :: st) σ (if 0 ≤ x then o else o2) mk := by
  obtain ⟨hi, rfl⟩ := hi
  intro v hv E A p e_ R s m args below meth c cells slots Q F K H locs lsA hP hD hS hl
  refine lv_if_ge F.1 F.2.1 hi ht (fun h => kt h v ?_ E A p e_ R s m args below meth c cells slots Q F K H locs lsA hP hD hS hl) (fun h => kf h v ?_ E A p e_ R s m args below meth c cells slots Q F K H locs lsA hP hD hS hl)
  · rw [if_pos h] at hv; exact hv
  · rw [if_neg h] at hv; exact hv
theorem g_icmp_ge {x y : Int32} {off : Int} {tgt : Nat} {o2 : Option α} (hi : Dc d pc (.if_icmp .ge off) 3 nx) (ht : (pc : Int) + off = (tgt : Int)) (kt : y ≤ x → G l sc D d tgt ls st σ o mk) (kf : ¬ y ≤ x → G l sc D d nx ls st σ o2 mk) : G l sc D d pc ls (.int y :: .int x :: st) σ (if y ≤ x then o else o2) mk := by
  obtain ⟨hi, rfl⟩ := hi
  intro v hv E A p e_ R s m args below meth c cells slots Q F K H locs lsA hP hD hS hl
  refine lv_icmp_ge F.1 F.2.1 hi ht (fun h => kt h v ?_ E A p e_ R s m args below meth c cells slots Q F K H locs lsA hP hD hS hl) (fun h => kf h v ?_ E A p e_ R s m args below meth c cells slots Q F K H locs lsA hP hD hS hl)
  · rw [if_pos h] at hv; exact hv
  · rw [if_neg h] at hv; exact hv
theorem g_if_gt {x : Int32} {off : Int} {tgt : Nat} {o2 : Option α} (hi : Dc d pc (.ifCond .gt off) 3 nx) (ht : (pc : Int) + off = (tgt : Int)) (kt : 0 < x → G l sc D d tgt ls st σ o mk) (kf : ¬ 0 < x → G l sc D d nx ls st σ o2 mk) : G l sc D d pc ls (.int x :: st) σ (if 0 < x then o else o2) mk := by
  obtain ⟨hi, rfl⟩ := hi
  intro v hv E A p e_ R s m args below meth c cells slots Q F K H locs lsA hP hD hS hl
  refine lv_if_gt F.1 F.2.1 hi ht (fun h => kt h v ?_ E A p e_ R s m args below meth c cells slots Q F K H locs lsA hP hD hS hl) (fun h => kf h v ?_ E A p e_ R s m args below meth c cells slots Q F K H locs lsA hP hD hS hl)
  · rw [if_pos h] at hv; exact hv
  · rw [if_neg h] at hv; exact hv
theorem g_icmp_gt {x y : Int32} {off : Int} {tgt : Nat} {o2 : Option α} (hi : Dc d pc (.if_icmp .gt off) 3 nx) (ht : (pc : Int) + off = (tgt : Int)) (kt : y < x → G l sc D d tgt ls st σ o mk) (kf : ¬ y < x → G l sc D d nx ls st σ o2 mk) : G l sc D d pc ls (.int y :: .int x :: st) σ (if y < x then o else o2) mk := by
  obtain ⟨hi, rfl⟩ := hi
  intro v hv E A p e_ R s m args below meth c cells slots Q F K H locs lsA hP hD hS hl
  refine lv_icmp_gt F.1 F.2.1 hi ht (fun h => kt h v ?_ E A p e_ R s m args below meth c cells slots Q F K H locs lsA hP hD hS hl) (fun h => kf h v ?_ E A p e_ R s m args below meth c cells slots Q F K H locs lsA hP hD hS hl)
  · rw [if_pos h] at hv; exact hv
  · rw [if_neg h] at hv; exact hv
theorem g_if_le {x : Int32} {off : Int} {tgt : Nat} {o2 : Option α} (hi : Dc d pc (.ifCond .le off) 3 nx) (ht : (pc : Int) + off = (tgt : Int)) (kt : x ≤ 0 → G l sc D d tgt ls st σ o mk) (kf : ¬ x ≤ 0 → G l sc D d nx ls st σ o2 mk) : G l sc D d pc ls (.int x :: st) σ (if x ≤ 0 then o else o2) mk := by
  obtain ⟨hi, rfl⟩ := hi
  intro v hv E A p e_ R s m args below meth c cells slots Q F K H locs lsA hP hD hS hl
  refine lv_if_le F.1 F.2.1 hi ht (fun h => kt h v ?_ E A p e_ R s m args below meth c cells slots Q F K H locs lsA hP hD hS hl) (fun h => kf h v ?_ E A p e_ R s m args below meth c cells slots Q F K H locs lsA hP hD hS hl)
  · rw [if_pos h] at hv; exact hv
  · rw [if_neg h] at hv; exact hv
theorem g_icmp_le {x y : Int32} {off : Int} {tgt : Nat} {o2 : Option α} (hi : Dc d pc (.if_icmp .le off) 3 nx) (ht : (pc : Int) + off = (tgt : Int)) (kt : x ≤ y → G l sc D d tgt ls st σ o mk) (kf : ¬ x ≤ y → G l sc D d nx ls st σ o2 mk) : G l sc D d pc ls (.int y :: .int x :: st) σ (if x ≤ y then o else o2) mk := by
  obtain ⟨hi, rfl⟩ := hi
  intro v hv E A p e_ R s m args below meth c cells slots Q F K H locs lsA hP hD hS hl
  refine lv_icmp_le F.1 F.2.1 hi ht (fun h => kt h v ?_ E A p e_ R s m args below meth c cells slots Q F K H locs lsA hP hD hS hl) (fun h => kf h v ?_ E A p e_ R s m args below meth c cells slots Q F K H locs lsA hP hD hS hl)
  · rw [if_pos h] at hv; exact hv
  · rw [if_neg h] at hv; exact hv
theorem g_iret {w : Int32} {z : α} (hi : Dc d pc .ireturn 1 nx) (hb0 : d.2.2.2 = some .int ∨ (d.2.2.2 = some .boolean ∧ isBv w = true)) (hm : mk z = (some (.int w), σ)) : G l sc D d pc ls [.int w] σ (some z) mk := by
  obtain ⟨hi, -⟩ := hi
  intro v hv E A p e_ R s m args below meth c cells slots Q F K H locs lsA hP hD hS hl
  cases hv
  rw [hm] at K
  exact K pc lsA H locs hP hD hS ⟨hi, hb0⟩
theorem g_vret {z : α} (hi : Dc d pc .return_ 1 nx) (hb0 : d.2.2.2 = none) (hm : mk z = (none, σ)) : G l sc D d pc ls [] σ (some z) mk := by
  obtain ⟨hi, -⟩ := hi
  intro v hv E A p e_ R s m args below meth c cells slots Q F K H locs lsA hP hD hS hl
  cases hv
  rw [hm] at K
  exact K pc lsA H locs hP hD hS ⟨hi, hb0⟩
theorem g_aret {w : Nat} {z : α} (hi : Dc d pc .areturn 1 nx) (hb0 : ∃ C, d.2.2.2 = some (.object C)) (hm : mk z = (some (.ref w), σ)) : G l sc D d pc ls [.ref w] σ (some z) mk := by
  obtain ⟨hi, -⟩ := hi
  intro v hv E A p e_ R s m args below meth c cells slots Q F K H locs lsA hP hD hS hl
  cases hv
  rw [hm] at K
  exact K pc lsA H locs hP hD hS ⟨hi, hb0⟩
theorem g_iaload {a n : Nat} {i : Int32} (hi : Dc d pc .iaload 1 nx) (hs : shp a = shA n) (k : inB i n = true → G l sc D d nx ls (.int (σ a i.toNatClampNeg) :: st) σ o mk) : G l sc D d pc ls (.int i :: .ref a :: st) σ (if inB i n = true then o else none) mk := by
  refine g_guard (fun hb => ?_)
  obtain ⟨hi, rfl⟩ := hi
  intro v hv E A p e_ R s m args below meth c cells slots Q F K H locs lsA hP hD hS hl
  exact va_iald F.1 F.2.1 F.2.2.2.2.2.2.1 hP a 0 (wld_arr hs) rfl (inB_in hb) hi (k hb v hv E A p e_ R s m args below meth c cells slots Q F K H locs lsA hP hD hS hl)
theorem g_baload {a n : Nat} {i : Int32} (hi : Dc d pc .baload 1 nx) (hs : shp a = (1, n, [])) (k : inB i n = true → G l sc D d nx ls (.int (σ a i.toNatClampNeg) :: st) σ o mk) : G l sc D d pc ls (.int i :: .ref a :: st) σ (if inB i n = true then o else none) mk := by
  refine g_guard (fun hb => ?_)
  obtain ⟨hi, rfl⟩ := hi
  intro v hv E A p e_ R s m args below meth c cells slots Q F K H locs lsA hP hD hS hl
  exact va_zald F.1 F.2.1 F.2.2.2.2.2.2.1 hP a 1 (wld_barr hs) rfl (inB_in hb) hi (k hb v hv E A p e_ R s m args below meth c cells slots Q F K H locs lsA hP hD hS hl)
theorem g_aaload {a n b : Nat} {i : Int32} (hi : Dc d pc .aaload 1 nx) (hs : shp a = (3, n, [(0, b)])) (k : inB i n = true → G l sc D d nx ls (.ref (b + i.toNatClampNeg) :: st) σ o mk) : G l sc D d pc ls (.int i :: .ref a :: st) σ (if inB i n = true then o else none) mk := by
  refine g_guard (fun hb => ?_)
  obtain ⟨hi, rfl⟩ := hi
  intro v hv E A p e_ R s m args below meth c cells slots Q F K H locs lsA hP hD hS hl
  have hlt : i.toNatClampNeg < n := Nat.not_le.mp fun q => inB_in hb (Or.inr q)
  exact W.aald (v := va_rf (some (E.1 (b + i.toNatClampNeg)))) (ty := .array .int) F.1 F.2.1 (hP a _ (wld_rows hs)) ((F.2.2.2.2.2.2.1.2 2 _ rfl).1 n (fun j => va_rf (some (E.1 (b + j))))) rfl (fun q => by cases q) (by show ¬ (i < 0 ∨ (arrV _ _ _).slots.size ≤ _); rw [arrV_size]; exact inB_in hb) (by show (arrV _ _ _).slots[_]? = _; rw [arrV_read _ _ hlt]) rfl rfl hi (k hb v hv E A p e_ R s m args below meth c cells slots Q F K H locs lsA hP hD hS hl)
theorem g_alen {a n : Nat} {v : Int32} (hi : Dc d pc .arraylength 1 nx) (hs : shp a = shA n) (hv0 : Int32.ofNat n = v) (k : G l sc D d nx ls (.int v :: st) σ o mk) : G l sc D d pc ls (.ref a :: st) σ o mk := by
  obtain ⟨hi, rfl⟩ := hi
  intro v0 hv E A p e_ R s m args below meth c cells slots Q F K H locs lsA hP hD hS hl
  exact va_alen F.1 F.2.1 F.2.2.2.2.2.2.1 hP a 0 (wld_arr hs) rfl hv0 hi (k v0 hv E A p e_ R s m args below meth c cells slots Q F K H locs lsA hP hD hS hl)
theorem g_iastore {a n : Nat} {i x : Int32} (hi : Dc d pc .iastore 1 nx) (hs : shp a = shA n) (k : inB i n = true → G l sc D d nx ls st (mset σ a i.toNatClampNeg x) o mk) : G l sc D d pc ls (.int x :: .int i :: .ref a :: st) σ (if inB i n = true then o else none) mk := by
  refine g_guard (fun hb => ?_)
  obtain ⟨hi, rfl⟩ := hi
  intro v hv E A p e_ R s m args below meth c cells slots Q F K H locs lsA hP hD hS hl
  refine va_iast F.1 F.2.1 F.2.2.2.2.2.2.1 hP hD hS a 0 (wld_arr hs) rfl (inB_in hb) hi (fun H1 locs1 hP1 hD1 hS1 => ?_)
  have e := wld_set (E := E) (σ := σ) (τ := mset σ a i.toNatClampNeg x) (a := a) (e := .inl (E.2.1 0, n, .inl (upd (σ a) i.toNatClampNeg x))) (shp_lt (by rw [hs]; simp [shA])) mset_ne (by rw [hs]; show _ = Sum.inl _; rw [mset_row]; rfl)
  rw [e] at hP1 hD1
  exact k hb v hv E A p e_ R s m args below meth c cells slots Q F K H1 locs1 lsA hP1 hD1 hS1 hl
theorem g_bastore {a n : Nat} {i x : Int32} (hi : Dc d pc .bastore 1 nx) (hs : shp a = (1, n, [])) (hx : vp_nar .boolean x = x) (k : inB i n = true → G l sc D d nx ls st (mset σ a i.toNatClampNeg x) o mk) : G l sc D d pc ls (.int x :: .int i :: .ref a :: st) σ (if inB i n = true then o else none) mk := by
  refine g_guard (fun hb => ?_)
  obtain ⟨hi, rfl⟩ := hi
  intro v hv E A p e_ R s m args below meth c cells slots Q F K H locs lsA hP hD hS hl
  refine va_zast F.1 F.2.1 F.2.2.2.2.2.2.1 hP hD hS a 1 (wld_barr hs) rfl (inB_in hb) hi (fun H1 locs1 hP1 hD1 hS1 => ?_)
  rw [hx] at hP1 hD1
  have e := wld_set (E := E) (σ := σ) (τ := mset σ a i.toNatClampNeg x) (a := a) (e := .inl (E.2.1 1, n, .inl (upd (σ a) i.toNatClampNeg x))) (shp_lt (by rw [hs]; simp)) mset_ne (by rw [hs]; show _ = Sum.inl _; rw [mset_row])
  rw [e] at hP1 hD1
  exact k hb v hv E A p e_ R s m args below meth c cells slots Q F K H1 locs1 lsA hP1 hD1 hS1 hl
theorem fld_get {a ci k : Nat} {ks : List (Nat × Nat)} {q : Nat × Nat} {E : HE} (hq : ks[k]? = some q) : (ks.mapIdx (fun j q => cfield E σ a j q))[k]? = some (cfield E σ a k q) := by
  rw [List.getElem?_mapIdx, hq]; rfl
theorem g_getv {a ci n idx : Nat} {ks : List (Nat × Nat)} {q : Nat × Nat} {z : FieldType} {fin nest : Bool} {w : Value} (hi : Dc d pc (.getfield idx) 3 nx) (hf : FLd d.1.cls idx ci n z fin nest) (hs : shp a = (2, ci, ks)) (hq : ks[n]? = some q) (hw : ∀ E : HE, cfield E σ a n q = cv E w) (k : G l sc D d nx ls (w :: st) σ o mk) : G l sc D d pc ls (.ref a :: st) σ o mk := by
  obtain ⟨hi, rfl⟩ := hi
  intro v hv E A p e_ R s m args below meth c cells slots Q F K H locs lsA hP hD hS hl
  obtain ⟨C, T, N, ty, ⟨h1, h2, h3, h4⟩, hn, -, -, hlk⟩ := hf
  have hv1 := fld_get (σ := σ) (a := a) (ci := ci) (E := E) hq
  rw [hw E] at hv1
  cases nest with
  | false => exact va_get F.1 F.2.1 F.2.2.2.2.1 h2 F.2.2.2.1 F.2.2.2.2.2.2.1 hP a (wld_obj hs) h1 n hn (F.2.2.2.2.1 _ hlk) (fun _ h => h) hv1 hi (k v hv E A p e_ R s m args below meth c cells slots Q F K H locs lsA hP hD hS hl)
  | true =>
    obtain ⟨host, hlk⟩ := hlk
    exact va_getN F.1 F.2.1 F.2.2.2.2.1 h2 F.2.2.2.1 F.2.2.2.2.2.2.1 hP a (wld_obj hs) h1 n hn (va_Nw.use rfl (F.2.2.2.2.2.1 _ hlk)) (fun _ h => h) hv1 hi (k v hv E A p e_ R s m args below meth c cells slots Q F K H locs lsA hP hD hS hl)
theorem g_geti {a ci n idx : Nat} {ks : List (Nat × Nat)} {z : FieldType} {fin nest : Bool} (hi : Dc d pc (.getfield idx) 3 nx) (hf : FLd d.1.cls idx ci n z fin nest) (hs : shp a = (2, ci, ks)) (hq : ks[n]? = some (0, 0)) (k : G l sc D d nx ls (.int (σ a n) :: st) σ o mk) : G l sc D d pc ls (.ref a :: st) σ o mk := g_getv hi hf hs hq (fun _ => rfl) k
theorem g_getr {a ci n idx b : Nat} {ks : List (Nat × Nat)} {z : FieldType} {fin nest : Bool} (hi : Dc d pc (.getfield idx) 3 nx) (hf : FLd d.1.cls idx ci n z fin nest) (hs : shp a = (2, ci, ks)) (hq : ks[n]? = some (1, b)) (k : G l sc D d nx ls (.ref b :: st) σ o mk) : G l sc D d pc ls (.ref a :: st) σ o mk := g_getv hi hf hs hq (fun _ => rfl) k
theorem g_getm {a ci n idx : Nat} {ks : List (Nat × Nat)} {z : FieldType} {fin nest : Bool} (hi : Dc d pc (.getfield idx) 3 nx) (hf : FLd d.1.cls idx ci n z fin nest) (hs : shp a = (2, ci, ks)) (hq : ks[n]? = some (2, 0)) (k : G l sc D d nx ls (.ref (σ a n).toNatClampNeg :: st) σ o mk) : G l sc D d pc ls (.ref a :: st) σ o mk := g_getv hi hf hs hq (fun _ => rfl) k
theorem mapIdx_set {β γ : Type} (f g : Nat → β → γ) (L : List β) (k : Nat) (q : β) (hq : L[k]? = some q) (h : ∀ j x, j ≠ k → g j x = f j x) : (L.mapIdx f).set k (g k q) = L.mapIdx g := by
  apply List.ext_getElem?
  intro i
  by_cases hi : i = k
  · subst hi
    rw [List.getElem?_set_self (by rw [List.length_mapIdx]; exact (List.getElem?_eq_some_iff.mp hq).1), List.getElem?_mapIdx, hq]; rfl
  · rw [List.getElem?_set_ne (Ne.symm hi), List.getElem?_mapIdx, List.getElem?_mapIdx]
    cases L[i]? with
    | none => rfl
    | some x => simp [h i x hi]
theorem g_putv {a ci n idx : Nat} {ks : List (Nat × Nat)} {q : Nat × Nat} {z : FieldType} {nest : Bool} {x : Int32} {w : Value} (hi : Dc d pc (.putfield idx) 3 nx) (hf : FLd d.1.cls idx ci n z false nest) (hs : shp a = (2, ci, ks)) (hq : ks[n]? = some q) (hw : ∀ E : HE, cv E w = cfield E (mset σ a n x) a n q) (hnar : ∀ E : HE, narrow z (cv E w) = cv E w) (hfit : ∀ E : HE, fits z (cv E w) = true) (k : G l sc D d nx ls st (mset σ a n x) o mk) : G l sc D d pc ls (w :: .ref a :: st) σ o mk := by
  obtain ⟨hi, rfl⟩ := hi
  intro v hv E A p e_ R s m args below meth c cells slots Q F K H locs lsA hP hD hS hl
  obtain ⟨C, T, N, ty, ⟨h1, h2, h3, h4⟩, hn, hty, hfin, hlk⟩ := hf
  have hlen : n < (ks.mapIdx (fun j q => cfield E σ a j q)).length := by rw [List.length_mapIdx]; exact (List.getElem?_eq_some_iff.mp hq).1
  have hparse := h3 n hn
  rw [hty] at hparse
  have e := wld_set (E := E) (σ := σ) (τ := mset σ a n x) (a := a) (e := .inr (ci, (ks.mapIdx (fun j q => cfield E σ a j q)).set n (cv E w))) (shp_lt (by rw [hs]; simp)) mset_ne (by
    rw [hs, hw E, mapIdx_set (fun j q => cfield E σ a j q) (fun j q => cfield E (mset σ a n x) a j q) ks n q hq (fun j y hj => by unfold cfield; rw [mset_off hj])]; rfl)
  have kk : ∀ (H1 : Heap) (locs1 : List Loc), va_P E.2.2 vwCl ((wld E σ).set a (E.1 a, .inr (ci, (ks.mapIdx (fun j q => cfield E σ a j q)).set n (cv E w)))) H1 → va_D A ((wld E σ).set a (E.1 a, .inr (ci, (ks.mapIdx (fun j q => cfield E σ a j q)).set n (cv E w)))) → va_S A s.heap H1 locs1 → W p l e_ R s m args below meth c H1 locs1 cells slots Q (F0 m (pc + 3) lsA (st.map (cv E))) := by
    intro H1 locs1 hP1 hD1 hS1
    rw [e] at hP1 hD1
    exact k v hv E A p e_ R s m args below meth c cells slots Q F K H1 locs1 lsA hP1 hD1 hS1 hl
  cases nest with
  | false => exact va_put F.1 F.2.1 F.2.2.2.2.1 h2 ty h3 h4 F.2.2.2.1 F.2.2.2.2.2.2.1 hP hD hS a (wld_obj hs) h1 n hn (F.2.2.2.2.1 _ hlk) (fun _ h => h) hfin hparse (hnar E) (hfit E) hlen hi kk
  | true =>
    obtain ⟨host, hlk⟩ := hlk
    exact va_putN F.1 F.2.1 F.2.2.2.2.1 h2 ty h3 h4 F.2.2.2.1 F.2.2.2.2.2.2.1 hP hD hS a (wld_obj hs) h1 n hn (va_Nw.use rfl (F.2.2.2.2.2.1 _ hlk)) (fun _ h => h) hfin hparse (hnar E) (hfit E) hlen hi kk
theorem g_puti {a ci n idx : Nat} {ks : List (Nat × Nat)} {nest : Bool} {x : Int32} (hi : Dc d pc (.putfield idx) 3 nx) (hf : FLd d.1.cls idx ci n .int false nest) (hs : shp a = (2, ci, ks)) (hq : ks[n]? = some (0, 0)) (k : G l sc D d nx ls st (mset σ a n x) o mk) : G l sc D d pc ls (.int x :: .ref a :: st) σ o mk :=
  g_putv hi hf hs hq (fun E => by show Value.int x = Value.int _; rw [mset_at]) (fun _ => rfl) (fun _ => rfl) k
theorem bv_nar {x : Int32} (h : isBv x = true) : narrow .boolean (.int x) = .int x ∧ fits .boolean (.int x) = true := by
  have : x = 0 ∨ x = 1 := by simpa [isBv] using h
  rcases this with rfl | rfl <;> exact ⟨rfl, rfl⟩
theorem g_putb {a ci n idx : Nat} {ks : List (Nat × Nat)} {nest : Bool} {x : Int32} (hi : Dc d pc (.putfield idx) 3 nx) (hf : FLd d.1.cls idx ci n .boolean false nest) (hs : shp a = (2, ci, ks)) (hq : ks[n]? = some (0, 0)) (k : isBv x = true → G l sc D d nx ls st (mset σ a n x) o mk) : G l sc D d pc ls (.int x :: .ref a :: st) σ (if isBv x = true then o else none) mk :=
  g_guard (fun hb => g_putv hi hf hs hq (fun E => by show Value.int x = Value.int _; rw [mset_at]) (fun _ => (bv_nar hb).1) (fun _ => (bv_nar hb).2) (k hb))
theorem g_putm {a ci n idx b : Nat} {ks : List (Nat × Nat)} {nest : Bool} {ty : FieldType} (hi : Dc d pc (.putfield idx) 3 nx) (hf : FLd d.1.cls idx ci n (.array ty) false nest) (hs : shp a = (2, ci, ks)) (hq : ks[n]? = some (2, 0)) (hb : b < 2 ^ 31) (k : G l sc D d nx ls st (mset σ a n (Int32.ofNat b)) o mk) : G l sc D d pc ls (.ref b :: .ref a :: st) σ o mk :=
  g_putv hi hf hs hq (fun E => by show Value.ref _ = Value.ref _; rw [mset_at]; exact congrArg _ (congrArg _ (nI_clamp hb).symm)) (fun _ => rfl) (fun _ => rfl) k
end GR
end
section
/-! ===== calls, and a method out of its body ===== -/
section GC
variable {p : Program} {l : Launch} {e : Jvm.Env} {R : Room} {s : State} {m : MethodId} {args : Array Value} {below : List Frame} {meth : Method} {c : Code} {H : Heap} {locs : List Loc} {cells slots : Nat} {Q : State → Prop}
variable {pc : Nat} {lsA : Array Slot} {rest st0 : List Value} {a : Array Value} {A0 A1 : Nat → Prop} {H0 : Heap} {free : Addr → Prop}
theorem va_callg {Yv : Option Value} {B : State → Prop} (hr : va_Run p l e R s m args below meth c H locs cells slots 0 0 (F0 m pc lsA st0) rest (fun st oc t => oc = .returned Yv ∧ B t ∧ va_F A1 st t) free) (hS : va_S A0 H0 H locs) (hA : ∀ q, q < H.size → A1 q → A0 q) (hf : ∀ q, free q → A0 q)
    (kk : ∀ (t : State) (H1 : Heap) (locs1 : List Loc), t.heap = H1 → B t → va_S A0 H0 H1 locs1 → W p l e R s m args below meth c H1 locs1 cells slots Q (F0 m (pc + 3) lsA (Yv.toList ++ rest))) : W p l e R s m args below meth c H locs cells slots Q (F0 m pc lsA st0) := by
  intro T hT X
  obtain ⟨v, st₀, t, T', L, h0, X', hL, e1, e2, ⟨hv, hb, hz, hk⟩, st⟩ := hr T hT X
  cases hv
  rw [h0] at hz hk
  obtain ⟨t2, a1, b1⟩ := kk t T'.heap (locs ++ L) e1.symm hb
    ⟨Nat.le_trans hS.1 (by rw [e1]; exact hz), fun q h1 h2 => by rw [e1, hk q (Nat.lt_of_lt_of_le h1 hS.1) (fun z => h2 (hA q (Nat.lt_of_lt_of_le h1 hS.1) z))]; exact hS.2.1 q h1 h2, fun q hq => by
      rcases List.mem_append.mp hq with h | h
      · exact hS.2.2 q h
      · exact hf _ (hL q h)⟩ T' rfl X'
  exact ⟨t2, st t2 a1, b1⟩
end GC
theorem Pw_blind {E : HE} {σ : Mem} {sz : Nat} {av : List Value} : FrameBlind (va_Pc av (Pw E σ sz)) := by
  intro a U g mk h
  obtain ⟨h0, h1, h2, h3, h4, h5, h6, h7⟩ := h
  exact ⟨h0, h1, h2, va_K.moved (u := U) (U := U.calling g mk a) (Vm.Alike.refl U.vm) h3, h4, fun w hw => nest_same (u := U) (U := U.calling g mk a) hw rfl (h5 w hw), va_Z.moved (u := U) (U := U.calling g mk a) (Vm.Alike.refl U.vm) h6, va_T.moved (u := U) (U := U.calling g mk a) (Vm.Alike.refl U.vm) h7⟩
/-- the cell b is an object of class C -/
def OB (b : Nat) (C : String) : Prop := ∃ (ci : Nat) (ks : List (Nat × Nat)) (T : u_T) (N : Nat) (ty : Nat → FieldType), shp b = (2, ci, ks) ∧ CLs ci C T N ty
section GC2
variable {α β : Type} {l : Launch} {sc : Nat × (Nat → Int32)} {D pc nx : Nat} {d : MD} {ls : List (Nat × Value)} {st : List Value} {σ : Mem} {o : Option α} {mk : α → Option Value × Mem}
theorem fA_A {E : HE} {A : Nat → Prop} {s : State} {H : Heap} {locs : List Loc} (hD : va_D A (wld E σ)) (hS : va_S A s.heap H locs) (hA : ∀ q : Nat, s.heap.size ≤ q → A q) : ∀ q, fA E H.size q → A q := by
  intro q h
  rcases h with ⟨k, hk, rfl⟩ | h
  · exact hD.2 k _ (wld_get hk)
  · exact hA q (Nat.le_trans hS.1 h)
theorem fA_self {E : HE} {sz : Nat} {A : Nat → Prop} (h : va_D A (wld E σ)) : va_D (fA E sz) (wld E σ) := by
  refine ⟨h.1, fun k q hk => Or.inl ?_⟩
  have hlt : k < NC := by
    have := (List.getElem?_eq_some_iff.mp hk).1
    unfold wld at this; simpa using this
  rw [wld_get hlt] at hk
  cases hk
  exact ⟨k, hlt, rfl⟩
theorem wld_D {E : HE} {τ : Mem} {A : Nat → Prop} (h : va_D A (wld E σ)) : va_D A (wld E τ) := by
  have key : ∀ (μ : Mem) (i : Nat) (q : Nat × va_E), (wld E μ)[i]? = some q → i < NC ∧ q.1 = E.1 i := by
    intro μ i q hq
    have hlt : i < NC := by
      have := (List.getElem?_eq_some_iff.mp hq).1
      unfold wld at this; simpa using this
    rw [wld_get hlt] at hq
    cases hq
    exact ⟨hlt, rfl⟩
  refine ⟨fun i j x y hx hy hxy => ?_, fun k q hk => ?_⟩
  · obtain ⟨hi, ei⟩ := key τ i x hx
    obtain ⟨hj, ej⟩ := key τ j y hy
    exact h.1 i j _ _ (wld_get hi) (wld_get hj) (by show E.1 i = E.1 j; rw [← ei, ← ej]; exact hxy)
  · obtain ⟨hi, ei⟩ := key τ k q hk
    rw [ei]
    exact h.2 k _ (wld_get hi)
/-- the state at a call is one that the callee may start from -/
theorem Pw_at {E : HE} {A : Nat → Prop} {p : Program} {R : Room} {s : State} {m : MethodId} {args : Array Value} {c : Code} {cells slots : Nat} (F : Fx E A sc p R s m args c cells slots d D) {H : Heap} {locs : List Loc} (hP : va_P E.2.2 vwCl (wld E σ) H) (hD : va_D A (wld E σ)) (hS : va_S A s.heap H locs) {U : State} (hU : U.heap = H) (hW : s.WarmedH U.vm) : Pw E σ H.size U := by
  obtain ⟨-, -, -, -, -, hnw, hK, hA, hZ, hT, -⟩ := F
  subst hU
  have hfa := fA_A hD hS hA
  exact ⟨rfl, hP, va_K.moved hW.alike hK, hD.weaken (fun _ _ _ _ => trivial), fun w hw => nest_warm hw hW (hnw w hw), (va_Z.narrow (va_Z.kept (va_Z.moved hW.alike hZ) hS.2.1) hfa), (va_T.narrow (va_T.kept (va_T.moved hW.alike hT) hS.2.1) hfa)⟩
theorem callV_of {d2 : MD} {n : Nat} {nest : Bool} {b idx : Nat} {As : List Value} {Y : Option Value × Mem} {E : HE} {A : Nat → Prop} {p : Program} {e : Jvm.Env} {R : Room} {s : State} {m : MethodId} {args : Array Value} {below : List Frame} {meth : Method} {c : Code} {cells slots : Nat} (F : Fx E A sc p R s m args c cells slots d (D + 1)) {H : Heap} {locs : List Loc} {lsA : Array Slot} (hsz : lsA.size = d.2.2.1)
    (hi : decode d.2.1 pc = .ok (.invokevirtual idx, 3)) (hs : SVs d.1.cls idx d2 n nest) (hb : OB b d2.1.cls) (hn : As.length = n) (hst : st.length ≤ 4) (hM : EvM l D d2 (.ref b :: As) σ Y)
    (hP : va_P E.2.2 vwCl (wld E σ) H) (hD : va_D A (wld E σ)) (hS : va_S A s.heap H locs) {st0 : List Value} (hst0 : st0 = (As.map (cv E)).reverse ++ .ref (E.1 b) :: st.map (cv E)) :
    va_Run p l e R s m args below meth c H locs cells slots 0 0 (F0 m pc lsA st0) (st.map (cv E)) (Qw E Y H.size ((Value.ref b :: As).map (cv E)).toArray) (fA E H.size) := by
  subst hn
  obtain ⟨⟨hcode, hini, hdc, hml⟩, hlk, hin, hsel⟩ := hs
  obtain ⟨ci, ks, T, N, ty, hshp, ⟨hcl, -⟩⟩ := hb
  have hPre := fun (U : State) (hU : U.heap = H) (hW : s.WarmedH U.vm) => Pw_at F hP hD hS hU hW
  obtain ⟨hx, hbc, hmlc, hown, hts, hnw, hK, hA, hZ, hT, -, hRf, hRl, hcc, hss⟩ := F
  have hG : GoodIn allW (mW d2) := good_all (fun w hw => by
    rcases List.mem_cons.mp hw with rfl | h
    · exact hcode
    · exact h)
  have hR : (rm D).frames + 1 ≤ R.frames ∧ 8 + (d2.2.2.1 + 11) + (rm D).locals ≤ R.locals := ⟨hRf, by show 8 + (d2.2.2.1 + 11) + 64 * D ≤ R.locals; omega⟩
  have hroom : 2 * (F0 m pc lsA st0).monitorRoom + ((st.map (cv E)).map fun v => v.category).sum ≤ 8 := by
    refine lv_room ?_
    rw [List.map_map]
    have : ∀ L : List Value, ((L.map ((fun v => v.category) ∘ cv E)).sum ≤ 2 * L.length) := by
      intro L
      induction L with
      | nil => exact Nat.le_refl 0
      | cons v L ih =>
        simp only [List.map_cons, List.sum_cons, List.length_cons, Function.comp]
        rcases lv_cat (cv E v) with h | h <;> rw [h] <;> omega
    have := this st
    omega
  have hpv : PreV s H d2.1.cls (E.1 b) (va_Pc ((Value.ref b :: As).map (cv E)) (Pw E σ H.size)) (As.map (cv E)) :=
    ⟨Pw_blind, va_recv hK hP hcl (wld_obj hshp), fun U hU hW => ⟨rfl, hPre U hU hW⟩⟩
  have hMM := hM E H.size
  have hsel' := hts _ hsel
  cases nest with
  | false =>
    refine va_runV (Qc := Qw E Y H.size) ⟨hx, hbc, hmlc, hown, hts⟩ hMM (cwV As.length hts (good_all ?_) rfl rfl rfl ⟨rfl, hdc⟩ hR) hpv rfl (List.length_map _) hsz hst0 hroom hi ⟨hcc, hss⟩
    intro w hw
    simp only [wsV, List.mem_append, List.mem_cons, List.not_mem_nil, or_false] at hw
    rcases hw with (rfl | rfl | rfl | rfl) | hw
    · exact hlk
    · exact hin
    · exact hsel
    · exact hini
    · exact (hG w hw).1
  | true =>
    obtain ⟨host, hlk⟩ := hlk
    exact va_runVN (C := d2.1.cls) (Qc := Qw E Y H.size) ⟨hx, hbc, hmlc, hown, hts⟩ hMM ⟨va_cnB As.length hts hG rfl rfl rfl (hnw _ hlk) (hts _ hini) hdc hR, hts _ hin, hsel'⟩ hpv rfl (List.length_map _) hsz hst0 hroom hi ⟨hcc, hss⟩
theorem callS_of {d2 : MD} {n : Nat} {nest : Bool} {idx : Nat} {As : List Value} {Y : Option Value × Mem} {E : HE} {A : Nat → Prop} {p : Program} {e : Jvm.Env} {R : Room} {s : State} {m : MethodId} {args : Array Value} {below : List Frame} {meth : Method} {c : Code} {cells slots : Nat} (F : Fx E A sc p R s m args c cells slots d (D + 1)) {H : Heap} {locs : List Loc} {lsA : Array Slot} (hsz : lsA.size = d.2.2.1)
    (hi : decode d.2.1 pc = .ok (.invokestatic idx, 3)) (hs : SSs d.1.cls idx d2 n nest) (hn : As.length = n) (hst : st.length ≤ 4) (hM : EvM l D d2 As σ Y)
    (hP : va_P E.2.2 vwCl (wld E σ) H) (hD : va_D A (wld E σ)) (hS : va_S A s.heap H locs) {st0 : List Value} (hst0 : st0 = (As.map (cv E)).reverse ++ st.map (cv E)) :
    va_Run p l e R s m args below meth c H locs cells slots 0 0 (F0 m pc lsA st0) (st.map (cv E)) (Qw E Y H.size (As.map (cv E)).toArray) (fA E H.size) := by
  subst hn
  obtain ⟨⟨hcode, hini, hdc, hml⟩, hlk, hstt⟩ := hs
  have hPre := fun (U : State) (hU : U.heap = H) (hW : s.WarmedH U.vm) => Pw_at F hP hD hS hU hW
  obtain ⟨hx, hbc, hmlc, hown, hts, hnw, hK, hA, hZ, hT, -, hRf, hRl, hcc, hss⟩ := F
  have hG : GoodIn allW (mW d2) := good_all (fun w hw => by
    rcases List.mem_cons.mp hw with rfl | h
    · exact hcode
    · exact h)
  have hR : (rm D).frames + 1 ≤ R.frames ∧ 8 + (d2.2.2.1 + 11) + (rm D).locals ≤ R.locals := ⟨hRf, by show 8 + (d2.2.2.1 + 11) + 64 * D ≤ R.locals; omega⟩
  have hroom : 2 * (F0 m pc lsA st0).monitorRoom + ((st.map (cv E)).map fun v => v.category).sum ≤ 8 := by
    refine lv_room ?_
    rw [List.map_map]
    have : ∀ L : List Value, ((L.map ((fun v => v.category) ∘ cv E)).sum ≤ 2 * L.length) := by
      intro L
      induction L with
      | nil => exact Nat.le_refl 0
      | cons v L ih =>
        simp only [List.map_cons, List.sum_cons, List.length_cons, Function.comp]
        rcases lv_cat (cv E v) with h | h <;> rw [h] <;> omega
    have := this st
    omega
  have hpv : PreS s H (va_Pc (As.map (cv E)) (Pw E σ H.size)) (As.map (cv E)) := ⟨Pw_blind, fun U hU hW => ⟨rfl, hPre U hU hW⟩⟩
  have hMM := hM E H.size
  cases nest with
  | false =>
    refine va_runS (Qc := Qw E Y H.size) ⟨hx, hbc, hmlc, hown, hts⟩ hMM (va_cwS As.length hts (good_all ?_) rfl rfl rfl hdc hR) hpv rfl (List.length_map _) hsz hst0 hroom hi ⟨hcc, hss⟩
    intro w hw
    simp only [va_wsS, List.mem_append, List.mem_cons, List.not_mem_nil, or_false] at hw
    rcases hw with (rfl | rfl | rfl) | hw
    · exact hlk
    · exact hstt
    · exact hini
    · exact (hG w hw).1
  | true =>
    obtain ⟨host, hlk⟩ := hlk
    exact va_runSN (Qc := Qw E Y H.size) ⟨hx, hbc, hmlc, hown, hts⟩ hMM ⟨va_cnB As.length hts hG rfl rfl rfl (hnw _ hlk) (hts _ hini) hdc hR, hts _ hstt, trivial⟩ hpv rfl (List.length_map _) hsz hst0 hroom hi ⟨hcc, hss⟩
/-- EvM at another name of the depth -/
theorem EvM_cast {D1 D2 : Nat} {d2 : MD} {as : List Value} {Y : Option Value × Mem} (h : D1 = D2) (k : EvM l D1 d2 as σ Y) : EvM l D2 d2 as σ Y := h ▸ k
/-- a call of an instance method: o1 is the callee's pure answer, mk1 what it leaves -/
theorem g_callv {d2 : MD} {n : Nat} {nest : Bool} {b idx : Nat} {As S0 : List Value} {o1 : Option β} {mk1 : β → Option Value × Mem} {kf : β → Option α} (hi : Dc d pc (.invokevirtual idx) 3 nx) (hs : SVs d.1.cls idx d2 n nest) (hb : OB b d2.1.cls) (hn : As.length = n) (hst : st.length ≤ 4) (hS0 : S0 = As.reverse ++ .ref b :: st)
    (hM : ∀ y, o1 = some y → EvM l D d2 (.ref b :: As) σ (mk1 y)) (k : ∀ y, o1 = some y → G l sc (D + 1) d nx ls ((mk1 y).1.toList ++ st) (mk1 y).2 (kf y) mk) : G l sc (D + 1) d pc ls S0 σ (o1.bind kf) mk := by
  obtain ⟨hi, rfl⟩ := hi
  subst hS0
  intro v hv E A p e_ R s m args below meth c cells slots Q F K H locs lsA hP hD hS hl
  obtain ⟨y, hy, hv⟩ := Option.bind_eq_some_iff.mp hv
  have hrun := callV_of (l := l) (e := e_) (below := below) (meth := meth) F hl.1 hi hs hb hn hst (hM y hy) hP hD hS (st0 := (As.reverse ++ .ref b :: st).map (cv E)) (by rw [List.map_append, List.map_reverse]; rfl)
  have hfa := fA_A hD hS F.2.2.2.2.2.2.2.1
  refine va_callg hrun hS (fun q _ h => hfa q h) hfa (fun t H1 locs1 ht hB hS1 => ?_)
  subst ht
  have := k y hy v hv E A p e_ R s m args below meth c cells slots Q F K t.heap locs1 lsA hB.1 (wld_D hD) hS1 hl
  rw [List.map_append] at this
  have e2 : ((mk1 y).1.map (cv E)).toList = (mk1 y).1.toList.map (cv E) := by cases (mk1 y).1 <;> rfl
  rw [e2]
  exact this
theorem g_calls {d2 : MD} {n : Nat} {nest : Bool} {idx : Nat} {As S0 : List Value} {o1 : Option β} {mk1 : β → Option Value × Mem} {kf : β → Option α} (hi : Dc d pc (.invokestatic idx) 3 nx) (hs : SSs d.1.cls idx d2 n nest) (hn : As.length = n) (hst : st.length ≤ 4) (hS0 : S0 = As.reverse ++ st)
    (hM : ∀ y, o1 = some y → EvM l D d2 As σ (mk1 y)) (k : ∀ y, o1 = some y → G l sc (D + 1) d nx ls ((mk1 y).1.toList ++ st) (mk1 y).2 (kf y) mk) : G l sc (D + 1) d pc ls S0 σ (o1.bind kf) mk := by
  obtain ⟨hi, rfl⟩ := hi
  subst hS0
  intro v hv E A p e_ R s m args below meth c cells slots Q F K H locs lsA hP hD hS hl
  obtain ⟨y, hy, hv⟩ := Option.bind_eq_some_iff.mp hv
  have hrun := callS_of (l := l) (e := e_) (below := below) (meth := meth) F hl.1 hi hs hn hst (hM y hy) hP hD hS (st0 := (As.reverse ++ st).map (cv E)) (by rw [List.map_append, List.map_reverse])
  have hfa := fA_A hD hS F.2.2.2.2.2.2.2.1
  refine va_callg hrun hS (fun q _ h => hfa q h) hfa (fun t H1 locs1 ht hB hS1 => ?_)
  subst ht
  have := k y hy v hv E A p e_ R s m args below meth c cells slots Q F K t.heap locs1 lsA hB.1 (wld_D hD) hS1 hl
  rw [List.map_append] at this
  have e2 : ((mk1 y).1.map (cv E)).toList = (mk1 y).1.toList.map (cv E) := by cases (mk1 y).1 <;> rfl
  rw [e2]
  exact this
theorem g_callv_pi {d2 : MD} {n : Nat} {nest : Bool} {b idx : Nat} {As S0 : List Value} {o1 : Option (Int32)} {kf : Int32 → Option α} (hi : Dc d pc (.invokevirtual idx) 3 nx) (hs : SVs d.1.cls idx d2 n nest) (hb : OB b d2.1.cls) (hn : As.length = n) (hst : st.length ≤ 4) (hS0 : S0 = As.reverse ++ .ref b :: st) (hM : ∀ y, o1 = some y → EvM l D d2 (.ref b :: As) σ ((fun v => (some (.int v), σ)) y)) (k : ∀ y, G l sc (D + 1) d nx ls (.int y :: st) σ (kf y) mk) : G l sc (D + 1) d pc ls S0 σ (o1.bind kf) mk :=
  g_callv (mk1 := fun v => (some (.int v), σ)) hi hs hb hn hst hS0 hM (fun y _ => k y)
theorem g_callv_pr {d2 : MD} {n : Nat} {nest : Bool} {b idx : Nat} {As S0 : List Value} {o1 : Option (Nat)} {kf : Nat → Option α} (hi : Dc d pc (.invokevirtual idx) 3 nx) (hs : SVs d.1.cls idx d2 n nest) (hb : OB b d2.1.cls) (hn : As.length = n) (hst : st.length ≤ 4) (hS0 : S0 = As.reverse ++ .ref b :: st) (hM : ∀ y, o1 = some y → EvM l D d2 (.ref b :: As) σ ((fun v => (some (.ref v), σ)) y)) (k : ∀ y, G l sc (D + 1) d nx ls (.ref y :: st) σ (kf y) mk) : G l sc (D + 1) d pc ls S0 σ (o1.bind kf) mk :=
  g_callv (mk1 := fun v => (some (.ref v), σ)) hi hs hb hn hst hS0 hM (fun y _ => k y)
theorem g_callv_ii {d2 : MD} {n : Nat} {nest : Bool} {b idx : Nat} {As S0 : List Value} {o1 : Option (Int32 × Mem)} {kf : Int32 × Mem → Option α} (hi : Dc d pc (.invokevirtual idx) 3 nx) (hs : SVs d.1.cls idx d2 n nest) (hb : OB b d2.1.cls) (hn : As.length = n) (hst : st.length ≤ 4) (hS0 : S0 = As.reverse ++ .ref b :: st) (hM : ∀ y, o1 = some y → EvM l D d2 (.ref b :: As) σ ((fun v => (some (.int v.1), v.2)) y)) (k : ∀ (y : Int32) (τ : Mem), G l sc (D + 1) d nx ls (.int y :: st) τ (kf (y, τ)) mk) : G l sc (D + 1) d pc ls S0 σ (o1.bind kf) mk :=
  g_callv (mk1 := fun v => (some (.int v.1), v.2)) hi hs hb hn hst hS0 hM (fun y _ => by obtain ⟨a, b⟩ := y; exact k a b)
theorem g_callv_vv {d2 : MD} {n : Nat} {nest : Bool} {b idx : Nat} {As S0 : List Value} {o1 : Option (Mem)} {kf : Mem → Option α} (hi : Dc d pc (.invokevirtual idx) 3 nx) (hs : SVs d.1.cls idx d2 n nest) (hb : OB b d2.1.cls) (hn : As.length = n) (hst : st.length ≤ 4) (hS0 : S0 = As.reverse ++ .ref b :: st) (hM : ∀ y, o1 = some y → EvM l D d2 (.ref b :: As) σ ((fun v => (none, v)) y)) (k : ∀ y, G l sc (D + 1) d nx ls st y (kf y) mk) : G l sc (D + 1) d pc ls S0 σ (o1.bind kf) mk :=
  g_callv (mk1 := fun v => (none, v)) hi hs hb hn hst hS0 hM (fun y _ => k y)
theorem g_calls_pi {d2 : MD} {n : Nat} {nest : Bool} {idx : Nat} {As S0 : List Value} {o1 : Option (Int32)} {kf : Int32 → Option α} (hi : Dc d pc (.invokestatic idx) 3 nx) (hs : SSs d.1.cls idx d2 n nest) (hn : As.length = n) (hst : st.length ≤ 4) (hS0 : S0 = As.reverse ++ st) (hM : ∀ y, o1 = some y → EvM l D d2 As σ ((fun v => (some (.int v), σ)) y)) (k : ∀ y, G l sc (D + 1) d nx ls (.int y :: st) σ (kf y) mk) : G l sc (D + 1) d pc ls S0 σ (o1.bind kf) mk :=
  g_calls (mk1 := fun v => (some (.int v), σ)) hi hs hn hst hS0 hM (fun y _ => k y)
theorem g_calls_pr {d2 : MD} {n : Nat} {nest : Bool} {idx : Nat} {As S0 : List Value} {o1 : Option (Nat)} {kf : Nat → Option α} (hi : Dc d pc (.invokestatic idx) 3 nx) (hs : SSs d.1.cls idx d2 n nest) (hn : As.length = n) (hst : st.length ≤ 4) (hS0 : S0 = As.reverse ++ st) (hM : ∀ y, o1 = some y → EvM l D d2 As σ ((fun v => (some (.ref v), σ)) y)) (k : ∀ y, G l sc (D + 1) d nx ls (.ref y :: st) σ (kf y) mk) : G l sc (D + 1) d pc ls S0 σ (o1.bind kf) mk :=
  g_calls (mk1 := fun v => (some (.ref v), σ)) hi hs hn hst hS0 hM (fun y _ => k y)
theorem g_calls_ii {d2 : MD} {n : Nat} {nest : Bool} {idx : Nat} {As S0 : List Value} {o1 : Option (Int32 × Mem)} {kf : Int32 × Mem → Option α} (hi : Dc d pc (.invokestatic idx) 3 nx) (hs : SSs d.1.cls idx d2 n nest) (hn : As.length = n) (hst : st.length ≤ 4) (hS0 : S0 = As.reverse ++ st) (hM : ∀ y, o1 = some y → EvM l D d2 As σ ((fun v => (some (.int v.1), v.2)) y)) (k : ∀ (y : Int32) (τ : Mem), G l sc (D + 1) d nx ls (.int y :: st) τ (kf (y, τ)) mk) : G l sc (D + 1) d pc ls S0 σ (o1.bind kf) mk :=
  g_calls (mk1 := fun v => (some (.int v.1), v.2)) hi hs hn hst hS0 hM (fun y _ => by obtain ⟨a, b⟩ := y; exact k a b)
theorem g_calls_vv {d2 : MD} {n : Nat} {nest : Bool} {idx : Nat} {As S0 : List Value} {o1 : Option (Mem)} {kf : Mem → Option α} (hi : Dc d pc (.invokestatic idx) 3 nx) (hs : SSs d.1.cls idx d2 n nest) (hn : As.length = n) (hst : st.length ≤ 4) (hS0 : S0 = As.reverse ++ st) (hM : ∀ y, o1 = some y → EvM l D d2 As σ ((fun v => (none, v)) y)) (k : ∀ y, G l sc (D + 1) d nx ls st y (kf y) mk) : G l sc (D + 1) d pc ls S0 σ (o1.bind kf) mk :=
  g_calls (mk1 := fun v => (none, v)) hi hs hn hst hS0 hM (fun y _ => k y)
/-- a name for a number, for a memory -/
theorem g_nm {x : Int32} {kf : Int32 → Option α} (k : ∀ y, G l sc D d pc ls (.int y :: st) σ (kf y) mk) : G l sc D d pc ls (.int x :: st) σ ((some x).bind kf) mk := k x
theorem g_nml {x : Int64} {kf : Int64 → Option α} (k : ∀ y, G l sc D d pc ls (.long y :: st) σ (kf y) mk) : G l sc D d pc ls (.long x :: st) σ ((some x).bind kf) mk := k x
theorem g_mem {τ : Mem} {kf : Mem → Option α} (k : ∀ τ : Mem, G l sc D d pc ls st τ (kf τ) mk) : G l sc D d pc ls st τ ((some τ).bind kf) mk := k τ
theorem g_tabIn {dflt lo hh : Int} {offs : Array Int} {len : Nat} {x : Int32} {off : Int} {tgt : Nat} (hi : Dc d pc (.tableswitch dflt lo hh offs) len nx) (h1 : ¬ x.toInt < lo) (h2 : ¬ hh < x.toInt) (ho : offs[(x.toInt - lo).toNat]? = some off) (ht : (pc : Int) + off = (tgt : Int)) (k : G l sc D d tgt ls st σ o mk) : G l sc D d pc ls (.int x :: st) σ o mk := by
  obtain ⟨hi, -⟩ := hi
  intro v hv E A p e_ R s m args below meth c cells slots Q F K H locs lsA hP hD hS hl
  exact lv_tableIn F.1 F.2.1 hi h1 h2 ho ht (k v hv E A p e_ R s m args below meth c cells slots Q F K H locs lsA hP hD hS hl)
theorem g_tabOut {dflt lo hh : Int} {offs : Array Int} {len : Nat} {x : Int32} {tgt : Nat} (hi : Dc d pc (.tableswitch dflt lo hh offs) len nx) (h1 : x.toInt < lo ∨ hh < x.toInt) (ht : (pc : Int) + dflt = (tgt : Int)) (k : G l sc D d tgt ls st σ o mk) : G l sc D d pc ls (.int x :: st) σ o mk := by
  obtain ⟨hi, -⟩ := hi
  intro v hv E A p e_ R s m args below meth c cells slots Q F K H locs lsA hP hD hS hl
  exact lv_tableOut F.1 F.2.1 hi h1 ht (k v hv E A p e_ R s m args below meth c cells slots Q F K H locs lsA hP hD hS hl)
theorem g_lookup {dflt : Int} {ps : Array (Int × Int)} {len : Nat} {x : Int32} {off : Int} {tgt : Nat} (hi : Dc d pc (.lookupswitch dflt ps) len nx) (hp : (ps.toList.zip (ps.toList.drop 1)).all (fun (a, next) => a.1 < next.1) = true) (ho : Op.lookupswitch.offset ps.toList dflt x.toInt = off) (ht : (pc : Int) + off = (tgt : Int)) (k : G l sc D d tgt ls st σ o mk) : G l sc D d pc ls (.int x :: st) σ o mk := by
  obtain ⟨hi, -⟩ := hi
  intro v hv E A p e_ R s m args below meth c cells slots Q F K H locs lsA hP hD hS hl
  exact lv_lookup F.1 F.2.1 hi hp ho ht (k v hv E A p e_ R s m args below meth c cells slots Q F K H locs lsA hP hD hS hl)
theorem inB_lt {i : Int32} {n : Nat} (h : inB i n = true) : i.toNatClampNeg < n := Nat.not_le.mp fun q => inB_in h (Or.inr q)
/-- a method out of the walk of its body -/
theorem evM_of {as : List Value} {Y : Option Value × Mem} {nL : Nat} (hd : d.2.2.1 = nL) (hpl : plainName d.1.cls = true) (hnl : d.1 ≠ yL_law) (hlen : (lg_sl as).length ≤ nL)
    (hev : Ev l (0, fun _ => 0) D d 0 (lv_args 0 as) [] σ Y) : EvM l D d as σ Y := by
  intro E sz
  refine Met.ofW (cc := d.2.1) (maxL := d.2.2.1) (ret := d.2.2.2) hpl rfl ?_
  intro p e s m args below meth c s₁ B hml hv
  obtain ⟨rfl, hsz, hP, hK, hD0, hnw, hZ, hT⟩ := hv
  have hts := atoms_spec (ws := mW d) B.pre
  have hown : s.vm.findClass d.1.cls = some m.cls := findClass_of_methodNamed B.named
  have hlocks := B.notSynchronized
  have hr := B.returns
  have hx := B.exec
  have hb := B.bytes
  subst hsz
  have hD := fA_self (sz := s.heap.size) hD0
  have hA : ∀ q : Nat, s.heap.size ≤ q → fA E s.heap.size q := fun q h => Or.inr h
  have F : Fx E (fA E s.heap.size) (0, fun _ => 0) p (headSpec (mW d) (rm D)).room s m ((as.map (cv E)).toArray) c 0 0 d D := ⟨hx, hb, hml, hown, fun w hw => hts w (List.mem_cons_of_mem _ hw), hnw, hK, hA, hZ, hT, fun h => absurd h hnl, Nat.le_refl _, Nat.le_refl _, Nat.le_refl _, Nat.le_refl _⟩
  have hlg : ∀ L : List Value, (lg_sl (L.map (cv E))).length = (lg_sl L).length := by
    intro L
    simp only [lg_sl, List.length_flatMap, List.map_map]
    congr 1
    apply List.map_congr_left
    intro v _
    simp only [Function.comp, cv_cat]
    split <;> rfl
  have hla : ∀ (L : List Value) (i : Nat), lv_args i (L.map (cv E)) = (lv_args i L).map fun q => (q.1, cv E q.2) := by
    intro L
    induction L with
    | nil => intro i; rfl
    | cons v L ih => intro i; cases v <;> simp [lv_args, cv, ih, Value.category]
  have hl := lv_entry (as.map (cv E)) (n := d.2.2.1) (by rw [hlg, hd]; exact hlen)
  rw [lg_entry_eq]
  generalize (lg_sl (as.map (cv E)) ++ List.replicate (d.2.2.1 - (lg_sl (as.map (cv E))).length) Slot.unset).toArray = lsA at hl ⊢
  rw [hla] at hl
  refine hev E (fA E s.heap.size) p e _ s m _ below meth c 0 0 _ F ?_ s.heap [] lsA hP hD va_S.rf hl
  intro pcr lsr Hr locsr hPr hDr hSr hRet
  have hqq : ∀ t : State, t.heap = Hr → s.WarmedH t.vm → Qw E Y s.heap.size ((as.map (cv E)).toArray) s (.returned (Y.1.map (cv E))) t := fun t ht hW => ⟨rfl, ⟨by rw [ht]; exact hPr, hDr⟩, hSr.F ht⟩
  cases hY : Y.1 with
  | none =>
    rw [hY] at hRet
    rw [show Y.1.map (cv E) = none by rw [hY]; rfl] at hqq
    exact W.vret hx hb (hr.trans hRet.2) hqq hSr.2.2 hRet.1
  | some y =>
    rw [hY] at hRet
    rw [show Y.1.map (cv E) = some (cv E y) by rw [hY]; rfl] at hqq
    cases y with
    | int v =>
      obtain ⟨hRet, hz | ⟨hz, hb01⟩⟩ := hRet
      · exact W.iret (v := v) hx hb (hr.trans hz) hqq hSr.2.2 hRet
      · exact W.zret (v := v) hx hb (hr.trans hz) (bv_nar hb01).1 hqq hSr.2.2 hRet
    | ref v =>
      obtain ⟨hRet, C, hz⟩ := hRet
      exact W.aret hx hb (hr.trans hz) (Or.inl ⟨C, rfl⟩) (Or.inr ⟨_, rfl⟩) hqq hSr.2.2 hRet
    | _ => exact absurd hRet (fun h => h)
/-! the static row, the script, System.arraycopy -/
theorem g_gets {idx : Nat} {nest : Bool} (hi : Dc d pc (.getstatic idx) 3 nx) (hw : if nest then ∃ host, Cond.fieldLinkNest d.1.cls idx "PaperHour" "NEAREST" "[I" host ∈ nestW else Cond.fieldLink d.1.cls idx "PaperHour" "NEAREST" "[I" ∈ allW) (k : G l sc D d nx ls (.ref idNear :: st) σ o mk) : G l sc D d pc ls st σ o mk := by
  obtain ⟨hi, rfl⟩ := hi
  intro v hv E A p e_ R s m args below meth c cells slots Q F K H locs lsA hP hD hS hl
  cases nest with
  | false => exact va_gets F.1 F.2.1 F.2.2.2.2.2.2.2.2.1 hS F.2.2.2.1 (F.2.2.2.2.1 _ hw) (fun _ h => h) hi (k v hv E A p e_ R s m args below meth c cells slots Q F K H locs lsA hP hD hS hl)
  | true =>
    obtain ⟨host, hw⟩ := hw
    exact va_getsN F.1 F.2.1 F.2.2.2.2.2.2.2.2.1 hS F.2.2.2.1 (va_Nw.use rfl (F.2.2.2.2.2.1 _ hw)) (fun _ h => h) hi (k v hv E A p e_ R s m args below meth c cells slots Q F K H locs lsA hP hD hS hl)
theorem g_near {i : Int32} (hi : Dc d pc .iaload 1 nx) (k : inB i 6 = true → G l sc D d nx ls (.int (nearV i.toNatClampNeg) :: st) σ o mk) : G l sc D d pc ls (.int i :: .ref idNear :: st) σ (if inB i 6 = true then o else none) mk := by
  refine g_guard (fun hb => ?_)
  obtain ⟨hi, rfl⟩ := hi
  intro v hv E A p e_ R s m args below meth c cells slots Q F K H locs lsA hP hD hS hl
  exact va_ti F.1 F.2.1 F.2.2.2.2.2.2.2.2.2.1 hS (inB_in hb) rfl hi (k hb v hv E A p e_ R s m args below meth c cells slots Q F K H locs lsA hP hD hS hl)
theorem g_sld {i : Int32} (hlaw : d.1 = yL_law) (hi : Dc d pc .iaload 1 nx) (k : inB i sc.1 = true → G l sc D d nx ls (.int (sc.2 i.toNatClampNeg) :: st) σ o mk) : G l sc D d pc ls (.int i :: .ref idScr :: st) σ (if inB i sc.1 = true then o else none) mk := by
  refine g_guard (fun hb => ?_)
  obtain ⟨hi, rfl⟩ := hi
  intro v hv E A p e_ R s m args below meth c cells slots Q F K H locs lsA hP hD hS hl
  obtain ⟨hX, hbl, hbA⟩ := F.2.2.2.2.2.2.2.2.2.2.1 hlaw
  exact va_sld F.1 F.2.1 hX hbl hbA hS (inB_in hb) hi (k hb v hv E A p e_ R s m args below meth c cells slots Q F K H locs lsA hP hD hS hl)
theorem g_slen (hlaw : d.1 = yL_law) (hi : Dc d pc .arraylength 1 nx) (k : G l sc D d nx ls (.int (Int32.ofNat sc.1) :: st) σ o mk) : G l sc D d pc ls (.ref idScr :: st) σ o mk := by
  obtain ⟨hi, rfl⟩ := hi
  intro v hv E A p e_ R s m args below meth c cells slots Q F K H locs lsA hP hD hS hl
  obtain ⟨hX, hbl, hbA⟩ := F.2.2.2.2.2.2.2.2.2.2.1 hlaw
  exact va_slen F.1 F.2.1 hX hbl hbA hS hi (k v hv E A p e_ R s m args below meth c cells slots Q F K H locs lsA hP hD hS hl)
def okCopy (n0 n1 : Nat) (sp dp n : Int32) : Bool := decide (¬ sp < 0 ∧ ¬ dp < 0 ∧ ¬ n < 0 ∧ sp.toNatClampNeg + n.toNatClampNeg ≤ n0 ∧ dp.toNatClampNeg + n.toNatClampNeg ≤ n1)
theorem g_acopy {a b n0 n1 idx : Nat} {sp dp n : Int32} (hi : Dc d pc (.invokestatic idx) 3 nx) (hw : Cond.methodLink d.1.cls idx arraycopyName ∈ allW ∧ Cond.native arraycopyName ∈ allW ∧ Cond.static arraycopyName ∈ allW ∧ Cond.initialized "java/lang/System" ∈ allW) (hst : st.length ≤ 4) (ha : shp a = shA n0) (hb : shp b = shA n1) (k : okCopy n0 n1 sp dp n = true → G l sc (D + 1) d nx ls st (mcpy σ a sp.toNatClampNeg b dp.toNatClampNeg n.toNatClampNeg) o mk) :
    G l sc (D + 1) d pc ls (.int n :: .int dp :: .ref b :: .int sp :: .ref a :: st) σ (if okCopy n0 n1 sp dp n = true then o else none) mk := by
  refine g_guard (fun hok => ?_)
  obtain ⟨hi, rfl⟩ := hi
  obtain ⟨w1, w2, w3, w4⟩ := hw
  intro v hv E A p e_ R s m args below meth c cells slots Q F K H locs lsA hP hD hS hl
  obtain ⟨h1, h2, h3, h4, h5⟩ : ¬ sp < 0 ∧ ¬ dp < 0 ∧ ¬ n < 0 ∧ sp.toNatClampNeg + n.toNatClampNeg ≤ n0 ∧ dp.toNatClampNeg + n.toNatClampNeg ≤ n1 := by unfold okCopy at hok; exact of_decide_eq_true hok
  have hsum : ((st.map (cv E)).map fun v => v.category).sum ≤ 8 := by
    rw [List.map_map]
    have : ∀ L : List Value, ((L.map ((fun v => v.category) ∘ cv E)).sum ≤ 2 * L.length) := by
      intro L
      induction L with
      | nil => exact Nat.le_refl 0
      | cons v L ih =>
        simp only [List.map_cons, List.sum_cons, List.length_cons, Function.comp]
        rcases lv_cat (cv E v) with h | h <;> rw [h] <;> omega
    have := this st
    omega
  have hF := F
  obtain ⟨hx, hbc, hmlc, hown, hts, hnw, hK, hA, hZ, hT, -, hRf, hRl, hcc, hss⟩ := F
  have hwords : nativeFrameWords "java/lang/System" "arraycopy" 5 + 11 ≤ 50 := by decide +kernel
  refine va_copyi hx hbc (hmlc.trans hl.1.symm) hown (hts _ w1) (hts _ w2) (hts _ w3) (hts _ w4) hK hP hD hS a b 0 0 (ty := .int) (wld_arr ha) (wld_arr hb) rfl rfl rfl h1 h2 h3 h4 h5 (fun _ _ => rfl) (by omega) (by omega) hi (fun H1 locs1 hP1 hD1 hS1 => ?_)
  have e := wld_set (E := E) (σ := σ) (τ := mcpy σ a sp.toNatClampNeg b dp.toNatClampNeg n.toNatClampNeg) (a := b) (e := .inl (E.2.1 0, n1, .inl (va_cpy (σ a) (σ b) sp.toNatClampNeg dp.toNatClampNeg n.toNatClampNeg))) (shp_lt (by rw [hb]; simp [shA])) mcpy_ne (by rw [hb]; show _ = Sum.inl _; rw [mcpy_row]; rfl)
  rw [e] at hP1 hD1
  exact k hok v hv E A p e_ R s m args below meth c cells slots Q hF K H1 locs1 lsA hP1 hD1 hS1 hl
end GC2
end
section
theorem zz_end : True := trivial
end
