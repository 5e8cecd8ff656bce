section
-- ===== PART A: goes FIRST, ahead of the names: the tables' words, and 'selects' of the private methods out of them =====
/-- a private method of a class that the tables say can be made, by its rows of tables_1 -/
def lw_okq (q : MethodName × Nat) : Prop := (q.1.cls ≠ "java/lang/invoke/MethodHandle" ∧ q.1.cls ≠ "java/lang/invoke/VarHandle") ∧ Cond.instantiable q.1.cls q.2 ∈ tables_1 ∧ Cond.privateMethod q.1 ∈ tables_1 ∧ Cond.instanceMethod q.1 ∈ tables_1
theorem lw_p0 : lw_okq (⟨"PaperHour", "found", "(I)I"⟩, 11) := ⟨⟨by decide +kernel, by decide +kernel⟩, List.mem_of_getElem? (i := 14) (by decide +kernel), List.mem_of_getElem? (i := 317) (by decide +kernel), List.mem_of_getElem? (i := 318) (by decide +kernel)⟩
theorem lw_p1 : lw_okq (⟨"PaperHour$Rows", "lay", "(III)V"⟩, 3) := ⟨⟨by decide +kernel, by decide +kernel⟩, List.mem_of_getElem? (i := 22) (by decide +kernel), List.mem_of_getElem? (i := 322) (by decide +kernel), List.mem_of_getElem? (i := 323) (by decide +kernel)⟩
theorem lw_p2 : lw_okq (⟨"PaperHour", "foundNothing", "(I)I"⟩, 11) := ⟨⟨by decide +kernel, by decide +kernel⟩, List.mem_of_getElem? (i := 14) (by decide +kernel), List.mem_of_getElem? (i := 326) (by decide +kernel), List.mem_of_getElem? (i := 327) (by decide +kernel)⟩
theorem lw_p3 : lw_okq (⟨"PaperHour$Rows", "findingOf", "(III)I"⟩, 3) := ⟨⟨by decide +kernel, by decide +kernel⟩, List.mem_of_getElem? (i := 22) (by decide +kernel), List.mem_of_getElem? (i := 334) (by decide +kernel), List.mem_of_getElem? (i := 335) (by decide +kernel)⟩
theorem lw_p4 : lw_okq (⟨"PaperHour$Rows", "isMissing", "(I)Z"⟩, 3) := ⟨⟨by decide +kernel, by decide +kernel⟩, List.mem_of_getElem? (i := 22) (by decide +kernel), List.mem_of_getElem? (i := 338) (by decide +kernel), List.mem_of_getElem? (i := 339) (by decide +kernel)⟩
theorem lw_p5 : lw_okq (⟨"PaperHour$Rows", "hasSpan", "(III)Z"⟩, 3) := ⟨⟨by decide +kernel, by decide +kernel⟩, List.mem_of_getElem? (i := 22) (by decide +kernel), List.mem_of_getElem? (i := 342) (by decide +kernel), List.mem_of_getElem? (i := 343) (by decide +kernel)⟩
theorem lw_p6 : lw_okq (⟨"PaperHour$Rows", "put", "(III)I"⟩, 3) := ⟨⟨by decide +kernel, by decide +kernel⟩, List.mem_of_getElem? (i := 22) (by decide +kernel), List.mem_of_getElem? (i := 346) (by decide +kernel), List.mem_of_getElem? (i := 347) (by decide +kernel)⟩
theorem lw_p7 : lw_okq (⟨"PaperHour$Rows", "takeAway", "(I)I"⟩, 3) := ⟨⟨by decide +kernel, by decide +kernel⟩, List.mem_of_getElem? (i := 22) (by decide +kernel), List.mem_of_getElem? (i := 363) (by decide +kernel), List.mem_of_getElem? (i := 364) (by decide +kernel)⟩
theorem lw_p8 : lw_okq (⟨"PaperHour$Tape", "append", "(I)Z"⟩, 6) := ⟨⟨by decide +kernel, by decide +kernel⟩, List.mem_of_getElem? (i := 46) (by decide +kernel), List.mem_of_getElem? (i := 371) (by decide +kernel), List.mem_of_getElem? (i := 372) (by decide +kernel)⟩
theorem lw_p9 : lw_okq (⟨"PaperHour$Tape", "readInto", "(LPaperHour$Town;)Z"⟩, 6) := ⟨⟨by decide +kernel, by decide +kernel⟩, List.mem_of_getElem? (i := 46) (by decide +kernel), List.mem_of_getElem? (i := 380) (by decide +kernel), List.mem_of_getElem? (i := 381) (by decide +kernel)⟩
theorem lw_p10 : lw_okq (⟨"PaperHour$Tape", "readLaw", "(LPaperHour$Town;)V"⟩, 6) := ⟨⟨by decide +kernel, by decide +kernel⟩, List.mem_of_getElem? (i := 46) (by decide +kernel), List.mem_of_getElem? (i := 384) (by decide +kernel), List.mem_of_getElem? (i := 385) (by decide +kernel)⟩
theorem lw_p11 : lw_okq (⟨"PaperHour$Tape", "readByte", "(I)V"⟩, 6) := ⟨⟨by decide +kernel, by decide +kernel⟩, List.mem_of_getElem? (i := 46) (by decide +kernel), List.mem_of_getElem? (i := 388) (by decide +kernel), List.mem_of_getElem? (i := 389) (by decide +kernel)⟩
theorem lw_p12 : lw_okq (⟨"PaperHour$Tape", "peek", "()I"⟩, 6) := ⟨⟨by decide +kernel, by decide +kernel⟩, List.mem_of_getElem? (i := 46) (by decide +kernel), List.mem_of_getElem? (i := 392) (by decide +kernel), List.mem_of_getElem? (i := 393) (by decide +kernel)⟩
theorem lw_p13 : lw_okq (⟨"PaperHour$Tape", "fail", "(I)V"⟩, 6) := ⟨⟨by decide +kernel, by decide +kernel⟩, List.mem_of_getElem? (i := 46) (by decide +kernel), List.mem_of_getElem? (i := 396) (by decide +kernel), List.mem_of_getElem? (i := 397) (by decide +kernel)⟩
theorem lw_p14 : lw_okq (⟨"PaperHour$Tape", "readNumber", "(I)I"⟩, 6) := ⟨⟨by decide +kernel, by decide +kernel⟩, List.mem_of_getElem? (i := 46) (by decide +kernel), List.mem_of_getElem? (i := 400) (by decide +kernel), List.mem_of_getElem? (i := 401) (by decide +kernel)⟩
theorem lw_p15 : lw_okq (⟨"PaperHour$Tape", "readReader", "(LPaperHour$Town;)V"⟩, 6) := ⟨⟨by decide +kernel, by decide +kernel⟩, List.mem_of_getElem? (i := 46) (by decide +kernel), List.mem_of_getElem? (i := 407) (by decide +kernel), List.mem_of_getElem? (i := 408) (by decide +kernel)⟩
def lw_privs_1 : List (MethodName × Nat) := [(⟨"PaperHour", "found", "(I)I"⟩, 11), (⟨"PaperHour$Rows", "lay", "(III)V"⟩, 3), (⟨"PaperHour", "foundNothing", "(I)I"⟩, 11), (⟨"PaperHour$Rows", "findingOf", "(III)I"⟩, 3), (⟨"PaperHour$Rows", "isMissing", "(I)Z"⟩, 3), (⟨"PaperHour$Rows", "hasSpan", "(III)Z"⟩, 3), (⟨"PaperHour$Rows", "put", "(III)I"⟩, 3), (⟨"PaperHour$Rows", "takeAway", "(I)I"⟩, 3), (⟨"PaperHour$Tape", "append", "(I)Z"⟩, 6), (⟨"PaperHour$Tape", "readInto", "(LPaperHour$Town;)Z"⟩, 6), (⟨"PaperHour$Tape", "readLaw", "(LPaperHour$Town;)V"⟩, 6), (⟨"PaperHour$Tape", "readByte", "(I)V"⟩, 6), (⟨"PaperHour$Tape", "peek", "()I"⟩, 6), (⟨"PaperHour$Tape", "fail", "(I)V"⟩, 6), (⟨"PaperHour$Tape", "readNumber", "(I)I"⟩, 6), (⟨"PaperHour$Tape", "readReader", "(LPaperHour$Town;)V"⟩, 6)]
theorem lw_r1 : ∀ q ∈ lw_privs_1, lw_okq q := List.forall_mem_cons.mpr ⟨lw_p0, List.forall_mem_cons.mpr ⟨lw_p1, List.forall_mem_cons.mpr ⟨lw_p2, List.forall_mem_cons.mpr ⟨lw_p3, List.forall_mem_cons.mpr ⟨lw_p4, List.forall_mem_cons.mpr ⟨lw_p5, List.forall_mem_cons.mpr ⟨lw_p6, List.forall_mem_cons.mpr ⟨lw_p7, List.forall_mem_cons.mpr ⟨lw_p8, List.forall_mem_cons.mpr ⟨lw_p9, List.forall_mem_cons.mpr ⟨lw_p10, List.forall_mem_cons.mpr ⟨lw_p11, List.forall_mem_cons.mpr ⟨lw_p12, List.forall_mem_cons.mpr ⟨lw_p13, List.forall_mem_cons.mpr ⟨lw_p14, List.forall_mem_cons.mpr ⟨lw_p15, fun _ h => absurd h List.not_mem_nil⟩⟩⟩⟩⟩⟩⟩⟩⟩⟩⟩⟩⟩⟩⟩⟩
theorem lw_p16 : lw_okq (⟨"PaperHour$Town", "begin", "()V"⟩, 13) := ⟨⟨by decide +kernel, by decide +kernel⟩, List.mem_of_getElem? (i := 74) (by decide +kernel), List.mem_of_getElem? (i := 415) (by decide +kernel), List.mem_of_getElem? (i := 416) (by decide +kernel)⟩
theorem lw_p17 : lw_okq (⟨"PaperHour$Town", "copyStands", "(IIII)V"⟩, 13) := ⟨⟨by decide +kernel, by decide +kernel⟩, List.mem_of_getElem? (i := 74) (by decide +kernel), List.mem_of_getElem? (i := 419) (by decide +kernel), List.mem_of_getElem? (i := 420) (by decide +kernel)⟩
theorem lw_p18 : lw_okq (⟨"PaperHour$Town", "takeOver", "(LPaperHour$Town;)V"⟩, 13) := ⟨⟨by decide +kernel, by decide +kernel⟩, List.mem_of_getElem? (i := 74) (by decide +kernel), List.mem_of_getElem? (i := 423) (by decide +kernel), List.mem_of_getElem? (i := 424) (by decide +kernel)⟩
theorem lw_p19 : lw_okq (⟨"PaperHour$Acts", "forget", "()V"⟩, 3) := ⟨⟨by decide +kernel, by decide +kernel⟩, List.mem_of_getElem? (i := 154) (by decide +kernel), List.mem_of_getElem? (i := 428) (by decide +kernel), List.mem_of_getElem? (i := 429) (by decide +kernel)⟩
theorem lw_p20 : lw_okq (⟨"PaperHour$Town", "has", "(I)Z"⟩, 13) := ⟨⟨by decide +kernel, by decide +kernel⟩, List.mem_of_getElem? (i := 74) (by decide +kernel), List.mem_of_getElem? (i := 440) (by decide +kernel), List.mem_of_getElem? (i := 441) (by decide +kernel)⟩
theorem lw_p21 : lw_okq (⟨"PaperHour$Town", "canHave", "(I)Z"⟩, 13) := ⟨⟨by decide +kernel, by decide +kernel⟩, List.mem_of_getElem? (i := 74) (by decide +kernel), List.mem_of_getElem? (i := 444) (by decide +kernel), List.mem_of_getElem? (i := 445) (by decide +kernel)⟩
theorem lw_p22 : lw_okq (⟨"PaperHour$Town", "hasRead", "(I)Z"⟩, 13) := ⟨⟨by decide +kernel, by decide +kernel⟩, List.mem_of_getElem? (i := 74) (by decide +kernel), List.mem_of_getElem? (i := 449) (by decide +kernel), List.mem_of_getElem? (i := 450) (by decide +kernel)⟩
theorem lw_p23 : lw_okq (⟨"PaperHour$Town", "comes", "(I)I"⟩, 13) := ⟨⟨by decide +kernel, by decide +kernel⟩, List.mem_of_getElem? (i := 74) (by decide +kernel), List.mem_of_getElem? (i := 453) (by decide +kernel), List.mem_of_getElem? (i := 454) (by decide +kernel)⟩
theorem lw_p24 : lw_okq (⟨"PaperHour$Acts", "keep", "(LPaperHour$Town;I)V"⟩, 3) := ⟨⟨by decide +kernel, by decide +kernel⟩, List.mem_of_getElem? (i := 154) (by decide +kernel), List.mem_of_getElem? (i := 461) (by decide +kernel), List.mem_of_getElem? (i := 462) (by decide +kernel)⟩
theorem lw_p25 : lw_okq (⟨"PaperHour$Town", "hand", "(I)I"⟩, 13) := ⟨⟨by decide +kernel, by decide +kernel⟩, List.mem_of_getElem? (i := 74) (by decide +kernel), List.mem_of_getElem? (i := 466) (by decide +kernel), List.mem_of_getElem? (i := 467) (by decide +kernel)⟩
theorem lw_p26 : lw_okq (⟨"PaperHour$Town", "brings", "(I)I"⟩, 13) := ⟨⟨by decide +kernel, by decide +kernel⟩, List.mem_of_getElem? (i := 74) (by decide +kernel), List.mem_of_getElem? (i := 470) (by decide +kernel), List.mem_of_getElem? (i := 471) (by decide +kernel)⟩
theorem lw_p27 : lw_okq (⟨"PaperHour$Town", "neighbours", "(I)I"⟩, 13) := ⟨⟨by decide +kernel, by decide +kernel⟩, List.mem_of_getElem? (i := 74) (by decide +kernel), List.mem_of_getElem? (i := 477) (by decide +kernel), List.mem_of_getElem? (i := 478) (by decide +kernel)⟩
theorem lw_p28 : lw_okq (⟨"PaperHour$Acts", "takeBack", "(LPaperHour$Town;)V"⟩, 3) := ⟨⟨by decide +kernel, by decide +kernel⟩, List.mem_of_getElem? (i := 154) (by decide +kernel), List.mem_of_getElem? (i := 497) (by decide +kernel), List.mem_of_getElem? (i := 498) (by decide +kernel)⟩
theorem lw_p29 : lw_okq (⟨"PaperHour$Search", "forMost", "(LPaperHour$Town;)V"⟩, 10) := ⟨⟨by decide +kernel, by decide +kernel⟩, List.mem_of_getElem? (i := 172) (by decide +kernel), List.mem_of_getElem? (i := 518) (by decide +kernel), List.mem_of_getElem? (i := 519) (by decide +kernel)⟩
theorem lw_p30 : lw_okq (⟨"PaperHour$Town", "everybody", "()I"⟩, 13) := ⟨⟨by decide +kernel, by decide +kernel⟩, List.mem_of_getElem? (i := 74) (by decide +kernel), List.mem_of_getElem? (i := 523) (by decide +kernel), List.mem_of_getElem? (i := 524) (by decide +kernel)⟩
theorem lw_p31 : lw_okq (⟨"PaperHour$Search", "seek", "(II)V"⟩, 10) := ⟨⟨by decide +kernel, by decide +kernel⟩, List.mem_of_getElem? (i := 172) (by decide +kernel), List.mem_of_getElem? (i := 527) (by decide +kernel), List.mem_of_getElem? (i := 528) (by decide +kernel)⟩
def lw_privs_2 : List (MethodName × Nat) := [(⟨"PaperHour$Town", "begin", "()V"⟩, 13), (⟨"PaperHour$Town", "copyStands", "(IIII)V"⟩, 13), (⟨"PaperHour$Town", "takeOver", "(LPaperHour$Town;)V"⟩, 13), (⟨"PaperHour$Acts", "forget", "()V"⟩, 3), (⟨"PaperHour$Town", "has", "(I)Z"⟩, 13), (⟨"PaperHour$Town", "canHave", "(I)Z"⟩, 13), (⟨"PaperHour$Town", "hasRead", "(I)Z"⟩, 13), (⟨"PaperHour$Town", "comes", "(I)I"⟩, 13), (⟨"PaperHour$Acts", "keep", "(LPaperHour$Town;I)V"⟩, 3), (⟨"PaperHour$Town", "hand", "(I)I"⟩, 13), (⟨"PaperHour$Town", "brings", "(I)I"⟩, 13), (⟨"PaperHour$Town", "neighbours", "(I)I"⟩, 13), (⟨"PaperHour$Acts", "takeBack", "(LPaperHour$Town;)V"⟩, 3), (⟨"PaperHour$Search", "forMost", "(LPaperHour$Town;)V"⟩, 10), (⟨"PaperHour$Town", "everybody", "()I"⟩, 13), (⟨"PaperHour$Search", "seek", "(II)V"⟩, 10)]
theorem lw_r2 : ∀ q ∈ lw_privs_2, lw_okq q := List.forall_mem_cons.mpr ⟨lw_p16, List.forall_mem_cons.mpr ⟨lw_p17, List.forall_mem_cons.mpr ⟨lw_p18, List.forall_mem_cons.mpr ⟨lw_p19, List.forall_mem_cons.mpr ⟨lw_p20, List.forall_mem_cons.mpr ⟨lw_p21, List.forall_mem_cons.mpr ⟨lw_p22, List.forall_mem_cons.mpr ⟨lw_p23, List.forall_mem_cons.mpr ⟨lw_p24, List.forall_mem_cons.mpr ⟨lw_p25, List.forall_mem_cons.mpr ⟨lw_p26, List.forall_mem_cons.mpr ⟨lw_p27, List.forall_mem_cons.mpr ⟨lw_p28, List.forall_mem_cons.mpr ⟨lw_p29, List.forall_mem_cons.mpr ⟨lw_p30, List.forall_mem_cons.mpr ⟨lw_p31, fun _ h => absurd h List.not_mem_nil⟩⟩⟩⟩⟩⟩⟩⟩⟩⟩⟩⟩⟩⟩⟩⟩
theorem lw_p32 : lw_okq (⟨"PaperHour$Search", "weigh", "(I)V"⟩, 10) := ⟨⟨by decide +kernel, by decide +kernel⟩, List.mem_of_getElem? (i := 172) (by decide +kernel), List.mem_of_getElem? (i := 534) (by decide +kernel), List.mem_of_getElem? (i := 535) (by decide +kernel)⟩
theorem lw_p33 : lw_okq (⟨"PaperHour$Search", "keepRow", "(II)V"⟩, 10) := ⟨⟨by decide +kernel, by decide +kernel⟩, List.mem_of_getElem? (i := 172) (by decide +kernel), List.mem_of_getElem? (i := 538) (by decide +kernel), List.mem_of_getElem? (i := 539) (by decide +kernel)⟩
theorem lw_p34 : lw_okq (⟨"PaperHour$Search", "told", "(I)I"⟩, 10) := ⟨⟨by decide +kernel, by decide +kernel⟩, List.mem_of_getElem? (i := 172) (by decide +kernel), List.mem_of_getElem? (i := 547) (by decide +kernel), List.mem_of_getElem? (i := 548) (by decide +kernel)⟩
theorem lw_p35 : lw_okq (⟨"PaperHour$Search", "forSoonest", "(LPaperHour$Town;I)V"⟩, 10) := ⟨⟨by decide +kernel, by decide +kernel⟩, List.mem_of_getElem? (i := 172) (by decide +kernel), List.mem_of_getElem? (i := 557) (by decide +kernel), List.mem_of_getElem? (i := 558) (by decide +kernel)⟩
theorem lw_p36 : lw_okq (⟨"PaperHour$Search", "forSets", "(LPaperHour$Town;)V"⟩, 10) := ⟨⟨by decide +kernel, by decide +kernel⟩, List.mem_of_getElem? (i := 172) (by decide +kernel), List.mem_of_getElem? (i := 565) (by decide +kernel), List.mem_of_getElem? (i := 566) (by decide +kernel)⟩
theorem lw_p37 : lw_okq (⟨"PaperHour$Sharing", "of", "(ILPaperHour$Town;[I)V"⟩, 8) := ⟨⟨by decide +kernel, by decide +kernel⟩, List.mem_of_getElem? (i := 215) (by decide +kernel), List.mem_of_getElem? (i := 571) (by decide +kernel), List.mem_of_getElem? (i := 572) (by decide +kernel)⟩
theorem lw_p38 : lw_okq (⟨"PaperHour$Sharing", "weighShares", "()V"⟩, 8) := ⟨⟨by decide +kernel, by decide +kernel⟩, List.mem_of_getElem? (i := 215) (by decide +kernel), List.mem_of_getElem? (i := 579) (by decide +kernel), List.mem_of_getElem? (i := 580) (by decide +kernel)⟩
theorem lw_p39 : lw_okq (⟨"PaperHour$Town", "suppose", "(III)V"⟩, 13) := ⟨⟨by decide +kernel, by decide +kernel⟩, List.mem_of_getElem? (i := 74) (by decide +kernel), List.mem_of_getElem? (i := 592) (by decide +kernel), List.mem_of_getElem? (i := 593) (by decide +kernel)⟩
theorem lw_p40 : lw_okq (⟨"PaperHour$Town", "handAlong", "([III)I"⟩, 13) := ⟨⟨by decide +kernel, by decide +kernel⟩, List.mem_of_getElem? (i := 74) (by decide +kernel), List.mem_of_getElem? (i := 596) (by decide +kernel), List.mem_of_getElem? (i := 597) (by decide +kernel)⟩
theorem lw_p41 : lw_okq (⟨"PaperHour", "timesUntil", "(I[III)I"⟩, 11) := ⟨⟨by decide +kernel, by decide +kernel⟩, List.mem_of_getElem? (i := 14) (by decide +kernel), List.mem_of_getElem? (i := 607) (by decide +kernel), List.mem_of_getElem? (i := 608) (by decide +kernel)⟩
theorem lw_p42 : lw_okq (⟨"PaperHour", "imageNumber", "(I)LPaperHour$Town;"⟩, 11) := ⟨⟨by decide +kernel, by decide +kernel⟩, List.mem_of_getElem? (i := 14) (by decide +kernel), List.mem_of_getElem? (i := 629) (by decide +kernel), List.mem_of_getElem? (i := 630) (by decide +kernel)⟩
theorem lw_p43 : lw_okq (⟨"PaperHour$Asks", "of", "(LPaperHour$Town;I)V"⟩, 6) := ⟨⟨by decide +kernel, by decide +kernel⟩, List.mem_of_getElem? (i := 248) (by decide +kernel), List.mem_of_getElem? (i := 654) (by decide +kernel), List.mem_of_getElem? (i := 655) (by decide +kernel)⟩
theorem lw_p44 : lw_okq (⟨"PaperHour$Asks", "sizeAsked", "()I"⟩, 6) := ⟨⟨by decide +kernel, by decide +kernel⟩, List.mem_of_getElem? (i := 248) (by decide +kernel), List.mem_of_getElem? (i := 658) (by decide +kernel), List.mem_of_getElem? (i := 659) (by decide +kernel)⟩
theorem lw_p45 : lw_okq (⟨"PaperHour$Asks", "sizeAskedOfOld", "()I"⟩, 6) := ⟨⟨by decide +kernel, by decide +kernel⟩, List.mem_of_getElem? (i := 248) (by decide +kernel), List.mem_of_getElem? (i := 663) (by decide +kernel), List.mem_of_getElem? (i := 664) (by decide +kernel)⟩
theorem lw_p46 : lw_okq (⟨"PaperHour$Asks", "begins", "(I)V"⟩, 6) := ⟨⟨by decide +kernel, by decide +kernel⟩, List.mem_of_getElem? (i := 248) (by decide +kernel), List.mem_of_getElem? (i := 667) (by decide +kernel), List.mem_of_getElem? (i := 668) (by decide +kernel)⟩
theorem lw_p47 : lw_okq (⟨"PaperHour$Asks", "oldSize", "()I"⟩, 6) := ⟨⟨by decide +kernel, by decide +kernel⟩, List.mem_of_getElem? (i := 248) (by decide +kernel), List.mem_of_getElem? (i := 671) (by decide +kernel), List.mem_of_getElem? (i := 672) (by decide +kernel)⟩
def lw_privs_3 : List (MethodName × Nat) := [(⟨"PaperHour$Search", "weigh", "(I)V"⟩, 10), (⟨"PaperHour$Search", "keepRow", "(II)V"⟩, 10), (⟨"PaperHour$Search", "told", "(I)I"⟩, 10), (⟨"PaperHour$Search", "forSoonest", "(LPaperHour$Town;I)V"⟩, 10), (⟨"PaperHour$Search", "forSets", "(LPaperHour$Town;)V"⟩, 10), (⟨"PaperHour$Sharing", "of", "(ILPaperHour$Town;[I)V"⟩, 8), (⟨"PaperHour$Sharing", "weighShares", "()V"⟩, 8), (⟨"PaperHour$Town", "suppose", "(III)V"⟩, 13), (⟨"PaperHour$Town", "handAlong", "([III)I"⟩, 13), (⟨"PaperHour", "timesUntil", "(I[III)I"⟩, 11), (⟨"PaperHour", "imageNumber", "(I)LPaperHour$Town;"⟩, 11), (⟨"PaperHour$Asks", "of", "(LPaperHour$Town;I)V"⟩, 6), (⟨"PaperHour$Asks", "sizeAsked", "()I"⟩, 6), (⟨"PaperHour$Asks", "sizeAskedOfOld", "()I"⟩, 6), (⟨"PaperHour$Asks", "begins", "(I)V"⟩, 6), (⟨"PaperHour$Asks", "oldSize", "()I"⟩, 6)]
theorem lw_r3 : ∀ q ∈ lw_privs_3, lw_okq q := List.forall_mem_cons.mpr ⟨lw_p32, List.forall_mem_cons.mpr ⟨lw_p33, List.forall_mem_cons.mpr ⟨lw_p34, List.forall_mem_cons.mpr ⟨lw_p35, List.forall_mem_cons.mpr ⟨lw_p36, List.forall_mem_cons.mpr ⟨lw_p37, List.forall_mem_cons.mpr ⟨lw_p38, List.forall_mem_cons.mpr ⟨lw_p39, List.forall_mem_cons.mpr ⟨lw_p40, List.forall_mem_cons.mpr ⟨lw_p41, List.forall_mem_cons.mpr ⟨lw_p42, List.forall_mem_cons.mpr ⟨lw_p43, List.forall_mem_cons.mpr ⟨lw_p44, List.forall_mem_cons.mpr ⟨lw_p45, List.forall_mem_cons.mpr ⟨lw_p46, List.forall_mem_cons.mpr ⟨lw_p47, fun _ h => absurd h List.not_mem_nil⟩⟩⟩⟩⟩⟩⟩⟩⟩⟩⟩⟩⟩⟩⟩⟩
theorem lw_p48 : lw_okq (⟨"PaperHour$Asks", "lentSize", "()I"⟩, 6) := ⟨⟨by decide +kernel, by decide +kernel⟩, List.mem_of_getElem? (i := 248) (by decide +kernel), List.mem_of_getElem? (i := 675) (by decide +kernel), List.mem_of_getElem? (i := 676) (by decide +kernel)⟩
theorem lw_p49 : lw_okq (⟨"PaperHour$Asks", "sizeAskedOfFresh", "()I"⟩, 6) := ⟨⟨by decide +kernel, by decide +kernel⟩, List.mem_of_getElem? (i := 248) (by decide +kernel), List.mem_of_getElem? (i := 679) (by decide +kernel), List.mem_of_getElem? (i := 680) (by decide +kernel)⟩
theorem lw_p50 : lw_okq (⟨"PaperHour$Asks", "freshSize", "()I"⟩, 6) := ⟨⟨by decide +kernel, by decide +kernel⟩, List.mem_of_getElem? (i := 248) (by decide +kernel), List.mem_of_getElem? (i := 683) (by decide +kernel), List.mem_of_getElem? (i := 684) (by decide +kernel)⟩
theorem lw_p51 : lw_okq (⟨"PaperHour$Asks", "markAskedOfFresh", "()I"⟩, 6) := ⟨⟨by decide +kernel, by decide +kernel⟩, List.mem_of_getElem? (i := 248) (by decide +kernel), List.mem_of_getElem? (i := 687) (by decide +kernel), List.mem_of_getElem? (i := 688) (by decide +kernel)⟩
theorem lw_p52 : lw_okq (⟨"PaperHour$Asks", "freshMark", "()I"⟩, 6) := ⟨⟨by decide +kernel, by decide +kernel⟩, List.mem_of_getElem? (i := 248) (by decide +kernel), List.mem_of_getElem? (i := 691) (by decide +kernel), List.mem_of_getElem? (i := 692) (by decide +kernel)⟩
theorem lw_p53 : lw_okq (⟨"PaperHour$Asks", "lentMark", "()I"⟩, 6) := ⟨⟨by decide +kernel, by decide +kernel⟩, List.mem_of_getElem? (i := 248) (by decide +kernel), List.mem_of_getElem? (i := 695) (by decide +kernel), List.mem_of_getElem? (i := 696) (by decide +kernel)⟩
theorem lw_p54 : lw_okq (⟨"PaperHour$Asks", "markAsked", "()I"⟩, 6) := ⟨⟨by decide +kernel, by decide +kernel⟩, List.mem_of_getElem? (i := 248) (by decide +kernel), List.mem_of_getElem? (i := 699) (by decide +kernel), List.mem_of_getElem? (i := 700) (by decide +kernel)⟩
theorem lw_p55 : lw_okq (⟨"PaperHour$Asks", "oldMark", "()I"⟩, 6) := ⟨⟨by decide +kernel, by decide +kernel⟩, List.mem_of_getElem? (i := 248) (by decide +kernel), List.mem_of_getElem? (i := 703) (by decide +kernel), List.mem_of_getElem? (i := 704) (by decide +kernel)⟩
theorem lw_p56 : lw_okq (⟨"PaperHour$Rows", "howMany", "()I"⟩, 3) := ⟨⟨by decide +kernel, by decide +kernel⟩, List.mem_of_getElem? (i := 22) (by decide +kernel), List.mem_of_getElem? (i := 715) (by decide +kernel), List.mem_of_getElem? (i := 716) (by decide +kernel)⟩
theorem lw_p57 : lw_okq (⟨"PaperHourModel", "finds", "(I)I"⟩, 28) := ⟨⟨by decide +kernel, by decide +kernel⟩, List.mem_of_getElem? (i := 723) (by decide +kernel), List.mem_of_getElem? (i := 826) (by decide +kernel), List.mem_of_getElem? (i := 827) (by decide +kernel)⟩
theorem lw_p58 : lw_okq (⟨"PaperHourModel", "done", "(I)I"⟩, 28) := ⟨⟨by decide +kernel, by decide +kernel⟩, List.mem_of_getElem? (i := 723) (by decide +kernel), List.mem_of_getElem? (i := 831) (by decide +kernel), List.mem_of_getElem? (i := 832) (by decide +kernel)⟩
theorem lw_p59 : lw_okq (⟨"PaperHourModel", "isRead", "()Z"⟩, 28) := ⟨⟨by decide +kernel, by decide +kernel⟩, List.mem_of_getElem? (i := 723) (by decide +kernel), List.mem_of_getElem? (i := 859) (by decide +kernel), List.mem_of_getElem? (i := 860) (by decide +kernel)⟩
theorem lw_p60 : lw_okq (⟨"PaperHourModel", "isSign", "(I)Z"⟩, 28) := ⟨⟨by decide +kernel, by decide +kernel⟩, List.mem_of_getElem? (i := 723) (by decide +kernel), List.mem_of_getElem? (i := 863) (by decide +kernel), List.mem_of_getElem? (i := 864) (by decide +kernel)⟩
theorem lw_p61 : lw_okq (⟨"PaperHourModel", "nextToken", "()V"⟩, 28) := ⟨⟨by decide +kernel, by decide +kernel⟩, List.mem_of_getElem? (i := 723) (by decide +kernel), List.mem_of_getElem? (i := 867) (by decide +kernel), List.mem_of_getElem? (i := 868) (by decide +kernel)⟩
theorem lw_p62 : lw_okq (⟨"PaperHourModel", "fails", "(I)Z"⟩, 28) := ⟨⟨by decide +kernel, by decide +kernel⟩, List.mem_of_getElem? (i := 723) (by decide +kernel), List.mem_of_getElem? (i := 871) (by decide +kernel), List.mem_of_getElem? (i := 872) (by decide +kernel)⟩
theorem lw_p63 : lw_okq (⟨"PaperHourModel", "isThree", "(IIIIII)Z"⟩, 28) := ⟨⟨by decide +kernel, by decide +kernel⟩, List.mem_of_getElem? (i := 723) (by decide +kernel), List.mem_of_getElem? (i := 875) (by decide +kernel), List.mem_of_getElem? (i := 876) (by decide +kernel)⟩
def lw_privs_4 : List (MethodName × Nat) := [(⟨"PaperHour$Asks", "lentSize", "()I"⟩, 6), (⟨"PaperHour$Asks", "sizeAskedOfFresh", "()I"⟩, 6), (⟨"PaperHour$Asks", "freshSize", "()I"⟩, 6), (⟨"PaperHour$Asks", "markAskedOfFresh", "()I"⟩, 6), (⟨"PaperHour$Asks", "freshMark", "()I"⟩, 6), (⟨"PaperHour$Asks", "lentMark", "()I"⟩, 6), (⟨"PaperHour$Asks", "markAsked", "()I"⟩, 6), (⟨"PaperHour$Asks", "oldMark", "()I"⟩, 6), (⟨"PaperHour$Rows", "howMany", "()I"⟩, 3), (⟨"PaperHourModel", "finds", "(I)I"⟩, 28), (⟨"PaperHourModel", "done", "(I)I"⟩, 28), (⟨"PaperHourModel", "isRead", "()Z"⟩, 28), (⟨"PaperHourModel", "isSign", "(I)Z"⟩, 28), (⟨"PaperHourModel", "nextToken", "()V"⟩, 28), (⟨"PaperHourModel", "fails", "(I)Z"⟩, 28), (⟨"PaperHourModel", "isThree", "(IIIIII)Z"⟩, 28)]
theorem lw_r4 : ∀ q ∈ lw_privs_4, lw_okq q := List.forall_mem_cons.mpr ⟨lw_p48, List.forall_mem_cons.mpr ⟨lw_p49, List.forall_mem_cons.mpr ⟨lw_p50, List.forall_mem_cons.mpr ⟨lw_p51, List.forall_mem_cons.mpr ⟨lw_p52, List.forall_mem_cons.mpr ⟨lw_p53, List.forall_mem_cons.mpr ⟨lw_p54, List.forall_mem_cons.mpr ⟨lw_p55, List.forall_mem_cons.mpr ⟨lw_p56, List.forall_mem_cons.mpr ⟨lw_p57, List.forall_mem_cons.mpr ⟨lw_p58, List.forall_mem_cons.mpr ⟨lw_p59, List.forall_mem_cons.mpr ⟨lw_p60, List.forall_mem_cons.mpr ⟨lw_p61, List.forall_mem_cons.mpr ⟨lw_p62, List.forall_mem_cons.mpr ⟨lw_p63, fun _ h => absurd h List.not_mem_nil⟩⟩⟩⟩⟩⟩⟩⟩⟩⟩⟩⟩⟩⟩⟩⟩
theorem lw_p64 : lw_okq (⟨"PaperHourModel", "isNumber", "(II)Z"⟩, 28) := ⟨⟨by decide +kernel, by decide +kernel⟩, List.mem_of_getElem? (i := 723) (by decide +kernel), List.mem_of_getElem? (i := 879) (by decide +kernel), List.mem_of_getElem? (i := 880) (by decide +kernel)⟩
theorem lw_p65 : lw_okq (⟨"PaperHourModel", "isReader", "()Z"⟩, 28) := ⟨⟨by decide +kernel, by decide +kernel⟩, List.mem_of_getElem? (i := 723) (by decide +kernel), List.mem_of_getElem? (i := 883) (by decide +kernel), List.mem_of_getElem? (i := 884) (by decide +kernel)⟩
theorem lw_p66 : lw_okq (⟨"PaperHourModel", "isOne", "(I)Z"⟩, 28) := ⟨⟨by decide +kernel, by decide +kernel⟩, List.mem_of_getElem? (i := 723) (by decide +kernel), List.mem_of_getElem? (i := 902) (by decide +kernel), List.mem_of_getElem? (i := 903) (by decide +kernel)⟩
theorem lw_p67 : lw_okq (⟨"PaperHourModel", "note", "()V"⟩, 28) := ⟨⟨by decide +kernel, by decide +kernel⟩, List.mem_of_getElem? (i := 723) (by decide +kernel), List.mem_of_getElem? (i := 916) (by decide +kernel), List.mem_of_getElem? (i := 917) (by decide +kernel)⟩
theorem lw_p68 : lw_okq (⟨"PaperHourModel", "isTown", "()Z"⟩, 28) := ⟨⟨by decide +kernel, by decide +kernel⟩, List.mem_of_getElem? (i := 723) (by decide +kernel), List.mem_of_getElem? (i := 930) (by decide +kernel), List.mem_of_getElem? (i := 931) (by decide +kernel)⟩
theorem lw_p69 : lw_okq (⟨"PaperHourModel", "keepRow", "(II)V"⟩, 28) := ⟨⟨by decide +kernel, by decide +kernel⟩, List.mem_of_getElem? (i := 723) (by decide +kernel), List.mem_of_getElem? (i := 959) (by decide +kernel), List.mem_of_getElem? (i := 960) (by decide +kernel)⟩
theorem lw_p70 : lw_okq (⟨"PaperHourModel", "rowsOf", "(I)I"⟩, 28) := ⟨⟨by decide +kernel, by decide +kernel⟩, List.mem_of_getElem? (i := 723) (by decide +kernel), List.mem_of_getElem? (i := 963) (by decide +kernel), List.mem_of_getElem? (i := 964) (by decide +kernel)⟩
theorem lw_p71 : lw_okq (⟨"PaperHourModel", "layRow", "(II)I"⟩, 28) := ⟨⟨by decide +kernel, by decide +kernel⟩, List.mem_of_getElem? (i := 723) (by decide +kernel), List.mem_of_getElem? (i := 967) (by decide +kernel), List.mem_of_getElem? (i := 968) (by decide +kernel)⟩
theorem lw_p72 : lw_okq (⟨"PaperHourModel", "begin", "()V"⟩, 28) := ⟨⟨by decide +kernel, by decide +kernel⟩, List.mem_of_getElem? (i := 723) (by decide +kernel), List.mem_of_getElem? (i := 974) (by decide +kernel), List.mem_of_getElem? (i := 975) (by decide +kernel)⟩
theorem lw_p73 : lw_okq (⟨"PaperHourModel", "goesOn", "([II)Z"⟩, 28) := ⟨⟨by decide +kernel, by decide +kernel⟩, List.mem_of_getElem? (i := 723) (by decide +kernel), List.mem_of_getElem? (i := 978) (by decide +kernel), List.mem_of_getElem? (i := 979) (by decide +kernel)⟩
theorem lw_p74 : lw_okq (⟨"PaperHourModel", "laySets", "()V"⟩, 28) := ⟨⟨by decide +kernel, by decide +kernel⟩, List.mem_of_getElem? (i := 723) (by decide +kernel), List.mem_of_getElem? (i := 990) (by decide +kernel), List.mem_of_getElem? (i := 991) (by decide +kernel)⟩
theorem lw_p75 : lw_okq (⟨"PaperHourModel", "earnedBy", "(II)I"⟩, 28) := ⟨⟨by decide +kernel, by decide +kernel⟩, List.mem_of_getElem? (i := 723) (by decide +kernel), List.mem_of_getElem? (i := 994) (by decide +kernel), List.mem_of_getElem? (i := 995) (by decide +kernel)⟩
theorem lw_p76 : lw_okq (⟨"PaperHourModel", "takeOut", "(III)I"⟩, 28) := ⟨⟨by decide +kernel, by decide +kernel⟩, List.mem_of_getElem? (i := 723) (by decide +kernel), List.mem_of_getElem? (i := 1002) (by decide +kernel), List.mem_of_getElem? (i := 1003) (by decide +kernel)⟩
theorem lw_p77 : lw_okq (⟨"PaperHourModel", "isSo", "(II)Z"⟩, 28) := ⟨⟨by decide +kernel, by decide +kernel⟩, List.mem_of_getElem? (i := 723) (by decide +kernel), List.mem_of_getElem? (i := 1006) (by decide +kernel), List.mem_of_getElem? (i := 1007) (by decide +kernel)⟩
theorem lw_p78 : lw_okq (⟨"PaperHourModel", "sizeOf", "(I)I"⟩, 28) := ⟨⟨by decide +kernel, by decide +kernel⟩, List.mem_of_getElem? (i := 723) (by decide +kernel), List.mem_of_getElem? (i := 1044) (by decide +kernel), List.mem_of_getElem? (i := 1045) (by decide +kernel)⟩
theorem lw_p79 : lw_okq (⟨"PaperHourModel", "begins", "(I)V"⟩, 28) := ⟨⟨by decide +kernel, by decide +kernel⟩, List.mem_of_getElem? (i := 723) (by decide +kernel), List.mem_of_getElem? (i := 1048) (by decide +kernel), List.mem_of_getElem? (i := 1049) (by decide +kernel)⟩
def lw_privs_5 : List (MethodName × Nat) := [(⟨"PaperHourModel", "isNumber", "(II)Z"⟩, 28), (⟨"PaperHourModel", "isReader", "()Z"⟩, 28), (⟨"PaperHourModel", "isOne", "(I)Z"⟩, 28), (⟨"PaperHourModel", "note", "()V"⟩, 28), (⟨"PaperHourModel", "isTown", "()Z"⟩, 28), (⟨"PaperHourModel", "keepRow", "(II)V"⟩, 28), (⟨"PaperHourModel", "rowsOf", "(I)I"⟩, 28), (⟨"PaperHourModel", "layRow", "(II)I"⟩, 28), (⟨"PaperHourModel", "begin", "()V"⟩, 28), (⟨"PaperHourModel", "goesOn", "([II)Z"⟩, 28), (⟨"PaperHourModel", "laySets", "()V"⟩, 28), (⟨"PaperHourModel", "earnedBy", "(II)I"⟩, 28), (⟨"PaperHourModel", "takeOut", "(III)I"⟩, 28), (⟨"PaperHourModel", "isSo", "(II)Z"⟩, 28), (⟨"PaperHourModel", "sizeOf", "(I)I"⟩, 28), (⟨"PaperHourModel", "begins", "(I)V"⟩, 28)]
theorem lw_r5 : ∀ q ∈ lw_privs_5, lw_okq q := List.forall_mem_cons.mpr ⟨lw_p64, List.forall_mem_cons.mpr ⟨lw_p65, List.forall_mem_cons.mpr ⟨lw_p66, List.forall_mem_cons.mpr ⟨lw_p67, List.forall_mem_cons.mpr ⟨lw_p68, List.forall_mem_cons.mpr ⟨lw_p69, List.forall_mem_cons.mpr ⟨lw_p70, List.forall_mem_cons.mpr ⟨lw_p71, List.forall_mem_cons.mpr ⟨lw_p72, List.forall_mem_cons.mpr ⟨lw_p73, List.forall_mem_cons.mpr ⟨lw_p74, List.forall_mem_cons.mpr ⟨lw_p75, List.forall_mem_cons.mpr ⟨lw_p76, List.forall_mem_cons.mpr ⟨lw_p77, List.forall_mem_cons.mpr ⟨lw_p78, List.forall_mem_cons.mpr ⟨lw_p79, fun _ h => absurd h List.not_mem_nil⟩⟩⟩⟩⟩⟩⟩⟩⟩⟩⟩⟩⟩⟩⟩⟩
theorem lw_p80 : lw_okq (⟨"PaperHourModel", "sizeOld", "(I)I"⟩, 28) := ⟨⟨by decide +kernel, by decide +kernel⟩, List.mem_of_getElem? (i := 723) (by decide +kernel), List.mem_of_getElem? (i := 1052) (by decide +kernel), List.mem_of_getElem? (i := 1053) (by decide +kernel)⟩
theorem lw_p81 : lw_okq (⟨"PaperHourModel", "markNew", "(I)I"⟩, 28) := ⟨⟨by decide +kernel, by decide +kernel⟩, List.mem_of_getElem? (i := 723) (by decide +kernel), List.mem_of_getElem? (i := 1056) (by decide +kernel), List.mem_of_getElem? (i := 1057) (by decide +kernel)⟩
theorem lw_p82 : lw_okq (⟨"PaperHourModel", "markFresh", "(I)I"⟩, 28) := ⟨⟨by decide +kernel, by decide +kernel⟩, List.mem_of_getElem? (i := 723) (by decide +kernel), List.mem_of_getElem? (i := 1060) (by decide +kernel), List.mem_of_getElem? (i := 1061) (by decide +kernel)⟩
theorem lw_p83 : lw_okq (⟨"PaperHourModel", "markOf", "(I)I"⟩, 28) := ⟨⟨by decide +kernel, by decide +kernel⟩, List.mem_of_getElem? (i := 723) (by decide +kernel), List.mem_of_getElem? (i := 1064) (by decide +kernel), List.mem_of_getElem? (i := 1065) (by decide +kernel)⟩
def lw_privs_6 : List (MethodName × Nat) := [(⟨"PaperHourModel", "sizeOld", "(I)I"⟩, 28), (⟨"PaperHourModel", "markNew", "(I)I"⟩, 28), (⟨"PaperHourModel", "markFresh", "(I)I"⟩, 28), (⟨"PaperHourModel", "markOf", "(I)I"⟩, 28)]
theorem lw_r6 : ∀ q ∈ lw_privs_6, lw_okq q := List.forall_mem_cons.mpr ⟨lw_p80, List.forall_mem_cons.mpr ⟨lw_p81, List.forall_mem_cons.mpr ⟨lw_p82, List.forall_mem_cons.mpr ⟨lw_p83, fun _ h => absurd h List.not_mem_nil⟩⟩⟩⟩
def lw_privs : List (MethodName × Nat) := lw_privs_1 ++ (lw_privs_2 ++ (lw_privs_3 ++ (lw_privs_4 ++ (lw_privs_5 ++ (lw_privs_6)))))
def lw_tbl : List Cond := k2_sels lw_privs ++ tables_1
theorem lw_privs_ok : ∀ q ∈ lw_privs, lw_okq q := by
  show ∀ q ∈ lw_privs_1 ++ (lw_privs_2 ++ (lw_privs_3 ++ (lw_privs_4 ++ (lw_privs_5 ++ (lw_privs_6))))), lw_okq q
  exact List.forall_mem_append.mpr ⟨lw_r1, List.forall_mem_append.mpr ⟨lw_r2, List.forall_mem_append.mpr ⟨lw_r3, List.forall_mem_append.mpr ⟨lw_r4, List.forall_mem_append.mpr ⟨lw_r5, lw_r6⟩⟩⟩⟩⟩

def RX0 : String := "PaperHour$Acts"
def TX0 : u_T := fun k => match k with
  | 0 => ("PaperHour$Acts", "ahead", "[[I", true)
  | 1 => ("PaperHour$Acts", "oldest", "I", false)
  | _ => ("PaperHour$Acts", "kept", "I", false)
def tyX0 : Nat → FieldType := fun k => match k with
  | 0 => .array (.array .int)
  | 1 => .int
  | _ => .int
abbrev wsX00 : List Cond := u_ws RX0 TX0 3
theorem nmX0 : ∀ a, a < 3 → ∀ b, b < 3 → a ≠ b → (TX0 a).2.1 ≠ (TX0 b).2.1 := by decide +kernel
theorem tyX0_ok : ∀ k, k < 3 → parseFieldDescriptor (TX0 k).2.2.1 = some (tyX0 k) := by decide +kernel
abbrev cX0_init : ByteArray := prog_2_method_1_code
def yX0_init : MethodName := ⟨RX0, "<init>", "()V"⟩
abbrev cX0_forget : ByteArray := prog_2_method_2_code
def yX0_forget : MethodName := ⟨RX0, "forget", "()V"⟩
abbrev cX0_keep : ByteArray := prog_2_method_3_code
def yX0_keep : MethodName := ⟨RX0, "keep", "(LPaperHour$Town;I)V"⟩
abbrev cX0_takeBack : ByteArray := prog_2_method_4_code
def yX0_takeBack : MethodName := ⟨RX0, "takeBack", "(LPaperHour$Town;)V"⟩
def RX1 : String := "PaperHour$Asks"
def TX1 : u_T := fun k => match k with
  | 0 => ("PaperHour$Asks", "bodies", "[I", true)
  | 1 => ("PaperHour$Asks", "begun", "I", false)
  | 2 => ("PaperHour$Asks", "sort", "I", false)
  | 3 => ("PaperHour$Asks", "number", "I", false)
  | 4 => ("PaperHour$Asks", "worth", "I", false)
  | _ => ("PaperHour$Asks", "place", "I", false)
def tyX1 : Nat → FieldType := fun k => match k with
  | 0 => .array .int
  | 1 => .int
  | 2 => .int
  | 3 => .int
  | 4 => .int
  | _ => .int
abbrev wsX10 : List Cond := u_ws RX1 TX1 6
theorem nmX1 : ∀ a, a < 6 → ∀ b, b < 6 → a ≠ b → (TX1 a).2.1 ≠ (TX1 b).2.1 := by decide +kernel
theorem tyX1_ok : ∀ k, k < 6 → parseFieldDescriptor (TX1 k).2.2.1 = some (tyX1 k) := by decide +kernel
abbrev cX1_init : ByteArray := prog_3_method_1_code
def yX1_init : MethodName := ⟨RX1, "<init>", "()V"⟩
abbrev cX1_of : ByteArray := prog_3_method_2_code
def yX1_of : MethodName := ⟨RX1, "of", "(LPaperHour$Town;I)V"⟩
abbrev cX1_begins : ByteArray := prog_3_method_3_code
def yX1_begins : MethodName := ⟨RX1, "begins", "(I)V"⟩
abbrev cX1_sizeAsked : ByteArray := prog_3_method_4_code
def yX1_sizeAsked : MethodName := ⟨RX1, "sizeAsked", "()I"⟩
abbrev cX1_markAsked : ByteArray := prog_3_method_5_code
def yX1_markAsked : MethodName := ⟨RX1, "markAsked", "()I"⟩
abbrev cX1_sizeAskedOfFresh : ByteArray := prog_3_method_6_code
def yX1_sizeAskedOfFresh : MethodName := ⟨RX1, "sizeAskedOfFresh", "()I"⟩
abbrev cX1_sizeAskedOfOld : ByteArray := prog_3_method_7_code
def yX1_sizeAskedOfOld : MethodName := ⟨RX1, "sizeAskedOfOld", "()I"⟩
abbrev cX1_markAskedOfFresh : ByteArray := prog_3_method_8_code
def yX1_markAskedOfFresh : MethodName := ⟨RX1, "markAskedOfFresh", "()I"⟩
abbrev cX1_lentSize : ByteArray := prog_3_method_9_code
def yX1_lentSize : MethodName := ⟨RX1, "lentSize", "()I"⟩
abbrev cX1_freshSize : ByteArray := prog_3_method_10_code
def yX1_freshSize : MethodName := ⟨RX1, "freshSize", "()I"⟩
abbrev cX1_oldSize : ByteArray := prog_3_method_11_code
def yX1_oldSize : MethodName := ⟨RX1, "oldSize", "()I"⟩
abbrev cX1_lentMark : ByteArray := prog_3_method_12_code
def yX1_lentMark : MethodName := ⟨RX1, "lentMark", "()I"⟩
abbrev cX1_freshMark : ByteArray := prog_3_method_13_code
def yX1_freshMark : MethodName := ⟨RX1, "freshMark", "()I"⟩
abbrev cX1_oldMark : ByteArray := prog_3_method_14_code
def yX1_oldMark : MethodName := ⟨RX1, "oldMark", "()I"⟩
def RX2 : String := "PaperHour$Rows"
def TX2 : u_T := fun k => match k with
  | 0 => ("PaperHour$Rows", "lane", "[I", true)
  | 1 => ("PaperHour$Rows", "size", "[I", true)
  | _ => ("PaperHour$Rows", "items", "[[I", true)
def tyX2 : Nat → FieldType := fun k => match k with
  | 0 => .array .int
  | 1 => .array .int
  | _ => .array (.array .int)
abbrev wsX20 : List Cond := u_ws RX2 TX2 3
theorem nmX2 : ∀ a, a < 3 → ∀ b, b < 3 → a ≠ b → (TX2 a).2.1 ≠ (TX2 b).2.1 := by decide +kernel
theorem tyX2_ok : ∀ k, k < 3 → parseFieldDescriptor (TX2 k).2.2.1 = some (tyX2 k) := by decide +kernel
abbrev cX2_init : ByteArray := prog_4_method_1_code
def yX2_init : MethodName := ⟨RX2, "<init>", "()V"⟩
abbrev cX2_isNumber : ByteArray := prog_4_method_2_code
def yX2_isNumber : MethodName := ⟨RX2, "isNumber", "(I)Z"⟩
abbrev cX2_isMissing : ByteArray := prog_4_method_3_code
def yX2_isMissing : MethodName := ⟨RX2, "isMissing", "(I)Z"⟩
abbrev cX2_hasSpan : ByteArray := prog_4_method_4_code
def yX2_hasSpan : MethodName := ⟨RX2, "hasSpan", "(III)Z"⟩
abbrev cX2_findingOf : ByteArray := prog_4_method_5_code
def yX2_findingOf : MethodName := ⟨RX2, "findingOf", "(III)I"⟩
abbrev cX2_lay : ByteArray := prog_4_method_6_code
def yX2_lay : MethodName := ⟨RX2, "lay", "(III)V"⟩
abbrev cX2_put : ByteArray := prog_4_method_7_code
def yX2_put : MethodName := ⟨RX2, "put", "(III)I"⟩
abbrev cX2_takeAway : ByteArray := prog_4_method_8_code
def yX2_takeAway : MethodName := ⟨RX2, "takeAway", "(I)I"⟩
abbrev cX2_howMany : ByteArray := prog_4_method_9_code
def yX2_howMany : MethodName := ⟨RX2, "howMany", "()I"⟩
def RX3 : String := "PaperHour$Search"
def TX3 : u_T := fun k => match k with
  | 0 => ("PaperHour$Search", "town", "LPaperHour$Town;", true)
  | 1 => ("PaperHour$Search", "row", "[I", true)
  | 2 => ("PaperHour$Search", "aim", "I", false)
  | 3 => ("PaperHour$Search", "among", "I", false)
  | 4 => ("PaperHour$Search", "earnedAhead", "I", false)
  | 5 => ("PaperHour$Search", "kept", "[I", true)
  | 6 => ("PaperHour$Search", "length", "I", false)
  | 7 => ("PaperHour$Search", "found", "Z", false)
  | 8 => ("PaperHour$Search", "figure", "I", false)
  | _ => ("PaperHour$Search", "mostOfSet", "[I", true)
def tyX3 : Nat → FieldType := fun k => match k with
  | 0 => .object "PaperHour$Town"
  | 1 => .array .int
  | 2 => .int
  | 3 => .int
  | 4 => .int
  | 5 => .array .int
  | 6 => .int
  | 7 => .boolean
  | 8 => .int
  | _ => .array .int
abbrev wsX30 : List Cond := u_ws RX3 TX3 10
theorem nmX3 : ∀ a, a < 10 → ∀ b, b < 10 → a ≠ b → (TX3 a).2.1 ≠ (TX3 b).2.1 := by decide +kernel
theorem tyX3_ok : ∀ k, k < 10 → parseFieldDescriptor (TX3 k).2.2.1 = some (tyX3 k) := by decide +kernel
abbrev cX3_init : ByteArray := prog_5_method_1_code
def yX3_init : MethodName := ⟨RX3, "<init>", "()V"⟩
abbrev cX3_forMost : ByteArray := prog_5_method_2_code
def yX3_forMost : MethodName := ⟨RX3, "forMost", "(LPaperHour$Town;)V"⟩
abbrev cX3_forSoonest : ByteArray := prog_5_method_3_code
def yX3_forSoonest : MethodName := ⟨RX3, "forSoonest", "(LPaperHour$Town;I)V"⟩
abbrev cX3_forSets : ByteArray := prog_5_method_4_code
def yX3_forSets : MethodName := ⟨RX3, "forSets", "(LPaperHour$Town;)V"⟩
abbrev cX3_seek : ByteArray := prog_5_method_5_code
def yX3_seek : MethodName := ⟨RX3, "seek", "(II)V"⟩
abbrev cX3_tryRows : ByteArray := prog_5_method_6_code
def yX3_tryRows : MethodName := ⟨RX3, "tryRows", "(LPaperHour$Search;I)V"⟩
abbrev cX3_weigh : ByteArray := prog_5_method_7_code
def yX3_weigh : MethodName := ⟨RX3, "weigh", "(I)V"⟩
abbrev cX3_keepRow : ByteArray := prog_5_method_8_code
def yX3_keepRow : MethodName := ⟨RX3, "keepRow", "(II)V"⟩
abbrev cX3_told : ByteArray := prog_5_method_9_code
def yX3_told : MethodName := ⟨RX3, "told", "(I)I"⟩
def RX4 : String := "PaperHour$Sharing"
def TX4 : u_T := fun k => match k with
  | 0 => ("PaperHour$Sharing", "which", "[I", true)
  | 1 => ("PaperHour$Sharing", "held", "[I", true)
  | 2 => ("PaperHour$Sharing", "chosen", "[I", true)
  | 3 => ("PaperHour$Sharing", "mostOfSet", "[I", false)
  | 4 => ("PaperHour$Sharing", "m", "I", false)
  | 5 => ("PaperHour$Sharing", "readers", "I", false)
  | 6 => ("PaperHour$Sharing", "most", "I", false)
  | _ => ("PaperHour$Sharing", "found", "Z", false)
def tyX4 : Nat → FieldType := fun k => match k with
  | 0 => .array .int
  | 1 => .array .int
  | 2 => .array .int
  | 3 => .array .int
  | 4 => .int
  | 5 => .int
  | 6 => .int
  | _ => .boolean
abbrev wsX40 : List Cond := u_ws RX4 TX4 8
theorem nmX4 : ∀ a, a < 8 → ∀ b, b < 8 → a ≠ b → (TX4 a).2.1 ≠ (TX4 b).2.1 := by decide +kernel
theorem tyX4_ok : ∀ k, k < 8 → parseFieldDescriptor (TX4 k).2.2.1 = some (tyX4 k) := by decide +kernel
abbrev cX4_init : ByteArray := prog_6_method_1_code
def yX4_init : MethodName := ⟨RX4, "<init>", "()V"⟩
abbrev cX4_of : ByteArray := prog_6_method_2_code
def yX4_of : MethodName := ⟨RX4, "of", "(ILPaperHour$Town;[I)V"⟩
abbrev cX4_share : ByteArray := prog_6_method_3_code
def yX4_share : MethodName := ⟨RX4, "share", "(LPaperHour$Sharing;I)V"⟩
abbrev cX4_weighShares : ByteArray := prog_6_method_4_code
def yX4_weighShares : MethodName := ⟨RX4, "weighShares", "()V"⟩
def RX5 : String := "PaperHour$Tape"
def TX5 : u_T := fun k => match k with
  | 0 => ("PaperHour$Tape", "bytes", "[I", true)
  | 1 => ("PaperHour$Tape", "length", "I", false)
  | 2 => ("PaperHour$Tape", "next", "I", false)
  | 3 => ("PaperHour$Tape", "fault", "I", false)
  | 4 => ("PaperHour$Tape", "faultPlace", "I", false)
  | _ => ("PaperHour$Tape", "whole", "Z", false)
def tyX5 : Nat → FieldType := fun k => match k with
  | 0 => .array .int
  | 1 => .int
  | 2 => .int
  | 3 => .int
  | 4 => .int
  | _ => .boolean
abbrev wsX50 : List Cond := u_ws RX5 TX5 6
theorem nmX5 : ∀ a, a < 6 → ∀ b, b < 6 → a ≠ b → (TX5 a).2.1 ≠ (TX5 b).2.1 := by decide +kernel
theorem tyX5_ok : ∀ k, k < 6 → parseFieldDescriptor (TX5 k).2.2.1 = some (tyX5 k) := by decide +kernel
abbrev cX5_init : ByteArray := prog_7_method_1_code
def yX5_init : MethodName := ⟨RX5, "<init>", "()V"⟩
abbrev cX5_append : ByteArray := prog_7_method_2_code
def yX5_append : MethodName := ⟨RX5, "append", "(I)Z"⟩
abbrev cX5_readInto : ByteArray := prog_7_method_3_code
def yX5_readInto : MethodName := ⟨RX5, "readInto", "(LPaperHour$Town;)Z"⟩
abbrev cX5_readLaw : ByteArray := prog_7_method_4_code
def yX5_readLaw : MethodName := ⟨RX5, "readLaw", "(LPaperHour$Town;)V"⟩
abbrev cX5_readReader : ByteArray := prog_7_method_5_code
def yX5_readReader : MethodName := ⟨RX5, "readReader", "(LPaperHour$Town;)V"⟩
abbrev cX5_sortOf : ByteArray := prog_7_method_6_code
def yX5_sortOf : MethodName := ⟨RX5, "sortOf", "(I)I"⟩
abbrev cX5_peek : ByteArray := prog_7_method_7_code
def yX5_peek : MethodName := ⟨RX5, "peek", "()I"⟩
abbrev cX5_readByte : ByteArray := prog_7_method_8_code
def yX5_readByte : MethodName := ⟨RX5, "readByte", "(I)V"⟩
abbrev cX5_readNumber : ByteArray := prog_7_method_9_code
def yX5_readNumber : MethodName := ⟨RX5, "readNumber", "(I)I"⟩
abbrev cX5_isFigure : ByteArray := prog_7_method_10_code
def yX5_isFigure : MethodName := ⟨RX5, "isFigure", "(I)Z"⟩
abbrev cX5_fail : ByteArray := prog_7_method_11_code
def yX5_fail : MethodName := ⟨RX5, "fail", "(I)V"⟩
def RX6 : String := "PaperHour$Town"
def TX6 : u_T := fun k => match k with
  | 0 => ("PaperHour$Town", "there", "Z", false)
  | 1 => ("PaperHour$Town", "press", "I", false)
  | 2 => ("PaperHour$Town", "stamp", "I", false)
  | 3 => ("PaperHour$Town", "last", "I", false)
  | 4 => ("PaperHour$Town", "readers", "I", false)
  | 5 => ("PaperHour$Town", "sort", "[I", true)
  | 6 => ("PaperHour$Town", "place", "[I", true)
  | 7 => ("PaperHour$Town", "worth", "[I", true)
  | 8 => ("PaperHour$Town", "late", "[I", true)
  | 9 => ("PaperHour$Town", "at", "I", false)
  | 10 => ("PaperHour$Town", "hour", "I", false)
  | 11 => ("PaperHour$Town", "read", "I", false)
  | _ => ("PaperHour$Town", "earned", "I", false)
def tyX6 : Nat → FieldType := fun k => match k with
  | 0 => .boolean
  | 1 => .int
  | 2 => .int
  | 3 => .int
  | 4 => .int
  | 5 => .array .int
  | 6 => .array .int
  | 7 => .array .int
  | 8 => .array .int
  | 9 => .int
  | 10 => .int
  | 11 => .int
  | _ => .int
abbrev wsX60 : List Cond := u_ws RX6 TX6 13
theorem nmX6 : ∀ a, a < 13 → ∀ b, b < 13 → a ≠ b → (TX6 a).2.1 ≠ (TX6 b).2.1 := by decide +kernel
theorem tyX6_ok : ∀ k, k < 13 → parseFieldDescriptor (TX6 k).2.2.1 = some (tyX6 k) := by decide +kernel
abbrev cX6_init : ByteArray := prog_8_method_1_code
def yX6_init : MethodName := ⟨RX6, "<init>", "()V"⟩
abbrev cX6_takeOver : ByteArray := prog_8_method_2_code
def yX6_takeOver : MethodName := ⟨RX6, "takeOver", "(LPaperHour$Town;)V"⟩
abbrev cX6_copyStands : ByteArray := prog_8_method_3_code
def yX6_copyStands : MethodName := ⟨RX6, "copyStands", "(IIII)V"⟩
abbrev cX6_begin : ByteArray := prog_8_method_4_code
def yX6_begin : MethodName := ⟨RX6, "begin", "()V"⟩
abbrev cX6_has : ByteArray := prog_8_method_5_code
def yX6_has : MethodName := ⟨RX6, "has", "(I)Z"⟩
abbrev cX6_everybody : ByteArray := prog_8_method_6_code
def yX6_everybody : MethodName := ⟨RX6, "everybody", "()I"⟩
abbrev cX6_hasRead : ByteArray := prog_8_method_7_code
def yX6_hasRead : MethodName := ⟨RX6, "hasRead", "(I)Z"⟩
abbrev cX6_canHave : ByteArray := prog_8_method_8_code
def yX6_canHave : MethodName := ⟨RX6, "canHave", "(I)Z"⟩
abbrev cX6_comes : ByteArray := prog_8_method_9_code
def yX6_comes : MethodName := ⟨RX6, "comes", "(I)I"⟩
abbrev cX6_brings : ByteArray := prog_8_method_10_code
def yX6_brings : MethodName := ⟨RX6, "brings", "(I)I"⟩
abbrev cX6_neighbours : ByteArray := prog_8_method_11_code
def yX6_neighbours : MethodName := ⟨RX6, "neighbours", "(I)I"⟩
abbrev cX6_hand : ByteArray := prog_8_method_12_code
def yX6_hand : MethodName := ⟨RX6, "hand", "(I)I"⟩
abbrev cX6_handAlong : ByteArray := prog_8_method_13_code
def yX6_handAlong : MethodName := ⟨RX6, "handAlong", "([III)I"⟩
abbrev cX6_suppose : ByteArray := prog_8_method_14_code
def yX6_suppose : MethodName := ⟨RX6, "suppose", "(III)V"⟩
def RX7 : String := "PaperHour"
def TX7 : u_T := fun k => match k with
  | 0 => ("PaperHour", "rows", "LPaperHour$Rows;", true)
  | 1 => ("PaperHour", "tape", "LPaperHour$Tape;", true)
  | 2 => ("PaperHour", "now", "LPaperHour$Town;", true)
  | 3 => ("PaperHour", "trial", "LPaperHour$Town;", true)
  | 4 => ("PaperHour", "firstImage", "LPaperHour$Town;", true)
  | 5 => ("PaperHour", "secondImage", "LPaperHour$Town;", true)
  | 6 => ("PaperHour", "acts", "LPaperHour$Acts;", true)
  | 7 => ("PaperHour", "search", "LPaperHour$Search;", true)
  | 8 => ("PaperHour", "sharing", "LPaperHour$Sharing;", true)
  | 9 => ("PaperHour", "asks", "LPaperHour$Asks;", true)
  | _ => ("PaperHour", "finding", "I", false)
def tyX7 : Nat → FieldType := fun k => match k with
  | 0 => .object "PaperHour$Rows"
  | 1 => .object "PaperHour$Tape"
  | 2 => .object "PaperHour$Town"
  | 3 => .object "PaperHour$Town"
  | 4 => .object "PaperHour$Town"
  | 5 => .object "PaperHour$Town"
  | 6 => .object "PaperHour$Acts"
  | 7 => .object "PaperHour$Search"
  | 8 => .object "PaperHour$Sharing"
  | 9 => .object "PaperHour$Asks"
  | _ => .int
abbrev wsX70 : List Cond := u_ws RX7 TX7 11
theorem nmX7 : ∀ a, a < 11 → ∀ b, b < 11 → a ≠ b → (TX7 a).2.1 ≠ (TX7 b).2.1 := by decide +kernel
theorem tyX7_ok : ∀ k, k < 11 → parseFieldDescriptor (TX7 k).2.2.1 = some (tyX7 k) := by decide +kernel
abbrev cX7_init : ByteArray := prog_1_method_1_code
def yX7_init : MethodName := ⟨RX7, "<init>", "()V"⟩
abbrev cX7_row : ByteArray := prog_1_method_2_code
def yX7_row : MethodName := ⟨RX7, "row", "(III)I"⟩
abbrev cX7_set : ByteArray := prog_1_method_3_code
def yX7_set : MethodName := ⟨RX7, "set", "(III)I"⟩
abbrev cX7_copy : ByteArray := prog_1_method_4_code
def yX7_copy : MethodName := ⟨RX7, "copy", "(IIIII)I"⟩
abbrev cX7_drop : ByteArray := prog_1_method_5_code
def yX7_drop : MethodName := ⟨RX7, "drop", "(I)I"⟩
abbrev cX7_feed : ByteArray := prog_1_method_6_code
def yX7_feed : MethodName := ⟨RX7, "feed", "(I)I"⟩
abbrev cX7_town : ByteArray := prog_1_method_7_code
def yX7_town : MethodName := ⟨RX7, "town", "()I"⟩
abbrev cX7_fault : ByteArray := prog_1_method_8_code
def yX7_fault : MethodName := ⟨RX7, "fault", "()I"⟩
abbrev cX7_give : ByteArray := prog_1_method_9_code
def yX7_give : MethodName := ⟨RX7, "give", "(I)I"⟩
abbrev cX7_pause : ByteArray := prog_1_method_10_code
def yX7_pause : MethodName := ⟨RX7, "pause", "(I)I"⟩
abbrev cX7_value : ByteArray := prog_1_method_11_code
def yX7_value : MethodName := ⟨RX7, "value", "(II)I"⟩
abbrev cX7_move : ByteArray := prog_1_method_12_code
def yX7_move : MethodName := ⟨RX7, "move", "(II)I"⟩
abbrev cX7_undo : ByteArray := prog_1_method_13_code
def yX7_undo : MethodName := ⟨RX7, "undo", "()I"⟩
abbrev cX7_reader : ByteArray := prog_1_method_14_code
def yX7_reader : MethodName := ⟨RX7, "reader", "(II)I"⟩
abbrev cX7_would : ByteArray := prog_1_method_15_code
def yX7_would : MethodName := ⟨RX7, "would", "(II)I"⟩
abbrev cX7_best : ByteArray := prog_1_method_16_code
def yX7_best : MethodName := ⟨RX7, "best", "(I)I"⟩
abbrev cX7_soonest : ByteArray := prog_1_method_17_code
def yX7_soonest : MethodName := ⟨RX7, "soonest", "(II)I"⟩
abbrev cX7_copies : ByteArray := prog_1_method_18_code
def yX7_copies : MethodName := ⟨RX7, "copies", "(II)I"⟩
abbrev cX7_fits : ByteArray := prog_1_method_19_code
def yX7_fits : MethodName := ⟨RX7, "fits", "(IIIIII)I"⟩
abbrev cX7_lost : ByteArray := prog_1_method_20_code
def yX7_lost : MethodName := ⟨RX7, "lost", "(IIIIII)I"⟩
abbrev cX7_drawn : ByteArray := prog_1_method_21_code
def yX7_drawn : MethodName := ⟨RX7, "drawn", "(III)I"⟩
abbrev cX7_image : ByteArray := prog_1_method_22_code
def yX7_image : MethodName := ⟨RX7, "image", "(I)I"⟩
abbrev cX7_restore : ByteArray := prog_1_method_23_code
def yX7_restore : MethodName := ⟨RX7, "restore", "(I)I"⟩
abbrev cX7_kind : ByteArray := prog_1_method_24_code
def yX7_kind : MethodName := ⟨RX7, "kind", "(I)I"⟩
abbrev cX7_as : ByteArray := prog_1_method_25_code
def yX7_as : MethodName := ⟨RX7, "as", "(II)I"⟩
abbrev cX7_ask : ByteArray := prog_1_method_26_code
def yX7_ask : MethodName := ⟨RX7, "ask", "(II)I"⟩
abbrev cX7_trace : ByteArray := prog_1_method_27_code
def yX7_trace : MethodName := ⟨RX7, "trace", "(I)I"⟩
abbrev cX7_count : ByteArray := prog_1_method_28_code
def yX7_count : MethodName := ⟨RX7, "count", "(I)I"⟩
abbrev cX7_status : ByteArray := prog_1_method_29_code
def yX7_status : MethodName := ⟨RX7, "status", "()I"⟩
abbrev cX7_found : ByteArray := prog_1_method_30_code
def yX7_found : MethodName := ⟨RX7, "found", "(I)I"⟩
abbrev cX7_foundNothing : ByteArray := prog_1_method_31_code
def yX7_foundNothing : MethodName := ⟨RX7, "foundNothing", "(I)I"⟩
abbrev cX7_isTold : ByteArray := prog_1_method_32_code
def yX7_isTold : MethodName := ⟨RX7, "isTold", "(III)Z"⟩
abbrev cX7_imageNumber : ByteArray := prog_1_method_33_code
def yX7_imageNumber : MethodName := ⟨RX7, "imageNumber", "(I)LPaperHour$Town;"⟩
abbrev cX7_timesUntil : ByteArray := prog_1_method_34_code
def yX7_timesUntil : MethodName := ⟨RX7, "timesUntil", "(I[III)I"⟩
abbrev cX7_power : ByteArray := prog_1_method_35_code
def yX7_power : MethodName := ⟨RX7, "power", "(II)I"⟩
abbrev cX7_commonDivisor : ByteArray := prog_1_method_36_code
def yX7_commonDivisor : MethodName := ⟨RX7, "commonDivisor", "(II)I"⟩
abbrev cX7_isOfKind : ByteArray := prog_1_method_37_code
def yX7_isOfKind : MethodName := ⟨RX7, "isOfKind", "(II)Z"⟩
def RX8 : String := "PaperHourModel"
def TX8 : u_T := fun k => match k with
  | 0 => ("PaperHourModel", "lane", "[I", true)
  | 1 => ("PaperHourModel", "size", "[I", true)
  | 2 => ("PaperHourModel", "items", "[I", true)
  | 3 => ("PaperHourModel", "status", "I", false)
  | 4 => ("PaperHourModel", "letters", "I", false)
  | 5 => ("PaperHourModel", "tape", "[I", true)
  | 6 => ("PaperHourModel", "position", "I", false)
  | 7 => ("PaperHourModel", "tokenAt", "I", false)
  | 8 => ("PaperHourModel", "token", "I", false)
  | 9 => ("PaperHourModel", "number", "I", false)
  | 10 => ("PaperHourModel", "faultIs", "I", false)
  | 11 => ("PaperHourModel", "faultNow", "I", false)
  | 12 => ("PaperHourModel", "now", "[I", true)
  | 13 => ("PaperHourModel", "read", "[I", true)
  | 14 => ("PaperHourModel", "tried", "[I", true)
  | 15 => ("PaperHourModel", "image", "[I", true)
  | 16 => ("PaperHourModel", "isKept", "[Z", true)
  | 17 => ("PaperHourModel", "actOf", "[I", true)
  | 18 => ("PaperHourModel", "acts", "I", false)
  | 19 => ("PaperHourModel", "trace", "[I", true)
  | 20 => ("PaperHourModel", "traceMany", "I", false)
  | 21 => ("PaperHourModel", "told", "[I", true)
  | 22 => ("PaperHourModel", "row", "[I", true)
  | 23 => ("PaperHourModel", "bestRow", "[I", true)
  | 24 => ("PaperHourModel", "bestMuch", "I", false)
  | 25 => ("PaperHourModel", "bestMany", "I", false)
  | 26 => ("PaperHourModel", "bySet", "[I", true)
  | _ => ("PaperHourModel", "has", "[I", true)
def tyX8 : Nat → FieldType := fun k => match k with
  | 0 => .array .int
  | 1 => .array .int
  | 2 => .array .int
  | 3 => .int
  | 4 => .int
  | 5 => .array .int
  | 6 => .int
  | 7 => .int
  | 8 => .int
  | 9 => .int
  | 10 => .int
  | 11 => .int
  | 12 => .array .int
  | 13 => .array .int
  | 14 => .array .int
  | 15 => .array .int
  | 16 => .array .boolean
  | 17 => .array .int
  | 18 => .int
  | 19 => .array .int
  | 20 => .int
  | 21 => .array .int
  | 22 => .array .int
  | 23 => .array .int
  | 24 => .int
  | 25 => .int
  | 26 => .array .int
  | _ => .array .int
abbrev wsX80 : List Cond := u_ws RX8 TX8 28
theorem nmX8 : ∀ a, a < 28 → ∀ b, b < 28 → a ≠ b → (TX8 a).2.1 ≠ (TX8 b).2.1 := by decide +kernel
theorem tyX8_ok : ∀ k, k < 28 → parseFieldDescriptor (TX8 k).2.2.1 = some (tyX8 k) := by decide +kernel
abbrev cX8_init : ByteArray := prog_10_method_1_code
def yX8_init : MethodName := ⟨RX8, "<init>", "()V"⟩
abbrev cX8_in : ByteArray := prog_10_method_2_code
def yX8_in : MethodName := ⟨RX8, "in", "(III)Z"⟩
abbrev cX8_isIn : ByteArray := prog_10_method_3_code
def yX8_isIn : MethodName := ⟨RX8, "isIn", "(II)Z"⟩
abbrev cX8_lay : ByteArray := prog_10_method_4_code
def yX8_lay : MethodName := ⟨RX8, "lay", "([II[II)V"⟩
abbrev cX8_isTown : ByteArray := prog_10_method_5_code
def yX8_isTown : MethodName := ⟨RX8, "isTown", "()Z"⟩
abbrev cX8_isOne : ByteArray := prog_10_method_6_code
def yX8_isOne : MethodName := ⟨RX8, "isOne", "(I)Z"⟩
abbrev cX8_finds : ByteArray := prog_10_method_7_code
def yX8_finds : MethodName := ⟨RX8, "finds", "(I)I"⟩
abbrev cX8_done : ByteArray := prog_10_method_8_code
def yX8_done : MethodName := ⟨RX8, "done", "(I)I"⟩
abbrev cX8_isRow : ByteArray := prog_10_method_9_code
def yX8_isRow : MethodName := ⟨RX8, "isRow", "(I)Z"⟩
abbrev cX8_row : ByteArray := prog_10_method_10_code
def yX8_row : MethodName := ⟨RX8, "row", "(III)I"⟩
abbrev cX8_set : ByteArray := prog_10_method_11_code
def yX8_set : MethodName := ⟨RX8, "set", "(III)I"⟩
abbrev cX8_isPart : ByteArray := prog_10_method_12_code
def yX8_isPart : MethodName := ⟨RX8, "isPart", "(III)Z"⟩
abbrev cX8_copy : ByteArray := prog_10_method_13_code
def yX8_copy : MethodName := ⟨RX8, "copy", "(IIIII)I"⟩
abbrev cX8_drop : ByteArray := prog_10_method_14_code
def yX8_drop : MethodName := ⟨RX8, "drop", "(I)I"⟩
abbrev cX8_feed : ByteArray := prog_10_method_15_code
def yX8_feed : MethodName := ⟨RX8, "feed", "(I)I"⟩
abbrev cX8_nextToken : ByteArray := prog_10_method_16_code
def yX8_nextToken : MethodName := ⟨RX8, "nextToken", "()V"⟩
abbrev cX8_fails : ByteArray := prog_10_method_17_code
def yX8_fails : MethodName := ⟨RX8, "fails", "(I)Z"⟩
abbrev cX8_isSign : ByteArray := prog_10_method_18_code
def yX8_isSign : MethodName := ⟨RX8, "isSign", "(I)Z"⟩
abbrev cX8_isNumber : ByteArray := prog_10_method_19_code
def yX8_isNumber : MethodName := ⟨RX8, "isNumber", "(II)Z"⟩
abbrev cX8_sortBy : ByteArray := prog_10_method_20_code
def yX8_sortBy : MethodName := ⟨RX8, "sortBy", "(I)I"⟩
abbrev cX8_isThree : ByteArray := prog_10_method_21_code
def yX8_isThree : MethodName := ⟨RX8, "isThree", "(IIIIII)Z"⟩
abbrev cX8_isReader : ByteArray := prog_10_method_22_code
def yX8_isReader : MethodName := ⟨RX8, "isReader", "()Z"⟩
abbrev cX8_isRead : ByteArray := prog_10_method_23_code
def yX8_isRead : MethodName := ⟨RX8, "isRead", "()Z"⟩
abbrev cX8_town : ByteArray := prog_10_method_24_code
def yX8_town : MethodName := ⟨RX8, "town", "()I"⟩
abbrev cX8_fault : ByteArray := prog_10_method_25_code
def yX8_fault : MethodName := ⟨RX8, "fault", "()I"⟩
abbrev cX8_note : ByteArray := prog_10_method_26_code
def yX8_note : MethodName := ⟨RX8, "note", "()V"⟩
abbrev cX8_comesTo : ByteArray := prog_10_method_27_code
def yX8_comesTo : MethodName := ⟨RX8, "comesTo", "([II)I"⟩
abbrev cX8_canBe : ByteArray := prog_10_method_28_code
def yX8_canBe : MethodName := ⟨RX8, "canBe", "([II)Z"⟩
abbrev cX8_bringsBy : ByteArray := prog_10_method_29_code
def yX8_bringsBy : MethodName := ⟨RX8, "bringsBy", "([II)I"⟩
abbrev cX8_gives : ByteArray := prog_10_method_30_code
def yX8_gives : MethodName := ⟨RX8, "gives", "([II)I"⟩
abbrev cX8_give : ByteArray := prog_10_method_31_code
def yX8_give : MethodName := ⟨RX8, "give", "(I)I"⟩
abbrev cX8_pause : ByteArray := prog_10_method_32_code
def yX8_pause : MethodName := ⟨RX8, "pause", "(I)I"⟩
abbrev cX8_value : ByteArray := prog_10_method_33_code
def yX8_value : MethodName := ⟨RX8, "value", "(II)I"⟩
abbrev cX8_move : ByteArray := prog_10_method_34_code
def yX8_move : MethodName := ⟨RX8, "move", "(II)I"⟩
abbrev cX8_undo : ByteArray := prog_10_method_35_code
def yX8_undo : MethodName := ⟨RX8, "undo", "()I"⟩
abbrev cX8_reader : ByteArray := prog_10_method_36_code
def yX8_reader : MethodName := ⟨RX8, "reader", "(II)I"⟩
abbrev cX8_would : ByteArray := prog_10_method_37_code
def yX8_would : MethodName := ⟨RX8, "would", "(II)I"⟩
abbrev cX8_begin : ByteArray := prog_10_method_38_code
def yX8_begin : MethodName := ⟨RX8, "begin", "()V"⟩
abbrev cX8_goesOn : ByteArray := prog_10_method_39_code
def yX8_goesOn : MethodName := ⟨RX8, "goesOn", "([II)Z"⟩
abbrev cX8_layRow : ByteArray := prog_10_method_40_code
def yX8_layRow : MethodName := ⟨RX8, "layRow", "(II)I"⟩
abbrev cX8_bits : ByteArray := prog_10_method_41_code
def yX8_bits : MethodName := ⟨RX8, "bits", "(I)I"⟩
abbrev cX8_rowsOf : ByteArray := prog_10_method_42_code
def yX8_rowsOf : MethodName := ⟨RX8, "rowsOf", "(I)I"⟩
abbrev cX8_keepRow : ByteArray := prog_10_method_43_code
def yX8_keepRow : MethodName := ⟨RX8, "keepRow", "(II)V"⟩
abbrev cX8_best : ByteArray := prog_10_method_44_code
def yX8_best : MethodName := ⟨RX8, "best", "(I)I"⟩
abbrev cX8_soonest : ByteArray := prog_10_method_45_code
def yX8_soonest : MethodName := ⟨RX8, "soonest", "(II)I"⟩
abbrev cX8_laySets : ByteArray := prog_10_method_46_code
def yX8_laySets : MethodName := ⟨RX8, "laySets", "()V"⟩
abbrev cX8_copies : ByteArray := prog_10_method_47_code
def yX8_copies : MethodName := ⟨RX8, "copies", "(II)I"⟩
abbrev cX8_earnedBy : ByteArray := prog_10_method_48_code
def yX8_earnedBy : MethodName := ⟨RX8, "earnedBy", "(II)I"⟩
abbrev cX8_takeOut : ByteArray := prog_10_method_49_code
def yX8_takeOut : MethodName := ⟨RX8, "takeOut", "(III)I"⟩
abbrev cX8_isSo : ByteArray := prog_10_method_50_code
def yX8_isSo : MethodName := ⟨RX8, "isSo", "(II)Z"⟩
abbrev cX8_fits : ByteArray := prog_10_method_51_code
def yX8_fits : MethodName := ⟨RX8, "fits", "(IIIIII)I"⟩
abbrev cX8_lost : ByteArray := prog_10_method_52_code
def yX8_lost : MethodName := ⟨RX8, "lost", "(IIIIII)I"⟩
abbrev cX8_drawn : ByteArray := prog_10_method_53_code
def yX8_drawn : MethodName := ⟨RX8, "drawn", "(III)I"⟩
abbrev cX8_image : ByteArray := prog_10_method_54_code
def yX8_image : MethodName := ⟨RX8, "image", "(I)I"⟩
abbrev cX8_restore : ByteArray := prog_10_method_55_code
def yX8_restore : MethodName := ⟨RX8, "restore", "(I)I"⟩
abbrev cX8_kind : ByteArray := prog_10_method_56_code
def yX8_kind : MethodName := ⟨RX8, "kind", "(I)I"⟩
abbrev cX8_parentOf : ByteArray := prog_10_method_57_code
def yX8_parentOf : MethodName := ⟨RX8, "parentOf", "(I)I"⟩
abbrev cX8_as : ByteArray := prog_10_method_58_code
def yX8_as : MethodName := ⟨RX8, "as", "(II)I"⟩
abbrev cX8_begins : ByteArray := prog_10_method_59_code
def yX8_begins : MethodName := ⟨RX8, "begins", "(I)V"⟩
abbrev cX8_markFresh : ByteArray := prog_10_method_60_code
def yX8_markFresh : MethodName := ⟨RX8, "markFresh", "(I)I"⟩
abbrev cX8_markNew : ByteArray := prog_10_method_61_code
def yX8_markNew : MethodName := ⟨RX8, "markNew", "(I)I"⟩
abbrev cX8_sizeOld : ByteArray := prog_10_method_62_code
def yX8_sizeOld : MethodName := ⟨RX8, "sizeOld", "(I)I"⟩
abbrev cX8_sizeOf : ByteArray := prog_10_method_63_code
def yX8_sizeOf : MethodName := ⟨RX8, "sizeOf", "(I)I"⟩
abbrev cX8_markOf : ByteArray := prog_10_method_64_code
def yX8_markOf : MethodName := ⟨RX8, "markOf", "(I)I"⟩
abbrev cX8_ask : ByteArray := prog_10_method_65_code
def yX8_ask : MethodName := ⟨RX8, "ask", "(II)I"⟩
abbrev cX8_trace : ByteArray := prog_10_method_66_code
def yX8_trace : MethodName := ⟨RX8, "trace", "(I)I"⟩
abbrev cX8_count : ByteArray := prog_10_method_67_code
def yX8_count : MethodName := ⟨RX8, "count", "(I)I"⟩
abbrev cX8_status : ByteArray := prog_10_method_68_code
def yX8_status : MethodName := ⟨RX8, "status", "()I"⟩
def RJ9 : String := "java/lang/Math"
abbrev cJ9_abs_0f7a4 : ByteArray := prog_11_method_59_code
def yJ9_abs_0f7a4 : MethodName := ⟨RJ9, "abs", "(I)I"⟩
abbrev cJ9_max_7cf53 : ByteArray := prog_11_method_65_code
def yJ9_max_7cf53 : MethodName := ⟨RJ9, "max", "(II)I"⟩
def RJ10 : String := "java/lang/System"
def RJ7 : String := "java/util/Arrays"
abbrev cJ7_fill_53178 : ByteArray := prog_13_method_103_code
def yJ7_fill_53178 : MethodName := ⟨RJ7, "fill", "([II)V"⟩
def RL : String := "PaperHourLaw"
abbrev cL_law : ByteArray := code
def yL_law : MethodName := ⟨RL, "law", "([I)Z"⟩
abbrev vwCl : List vw_C := [(RX0, TX0, 3), (RX1, TX1, 6), (RX2, TX2, 3), (RX3, TX3, 10), (RX4, TX4, 8), (RX5, TX5, 6), (RX6, TX6, 13), (RX7, TX7, 11), (RX8, TX8, 28)]
def m_X0_init : MethodName × ByteArray × Nat × Option FieldType := (yX0_init, cX0_init, 1, none)
def m_X0_forget : MethodName × ByteArray × Nat × Option FieldType := (yX0_forget, cX0_forget, 1, none)
def m_X0_keep : MethodName × ByteArray × Nat × Option FieldType := (yX0_keep, cX0_keep, 5, none)
def m_X0_takeBack : MethodName × ByteArray × Nat × Option FieldType := (yX0_takeBack, cX0_takeBack, 4, none)
def m_X1_init : MethodName × ByteArray × Nat × Option FieldType := (yX1_init, cX1_init, 1, none)
def m_X1_of : MethodName × ByteArray × Nat × Option FieldType := (yX1_of, cX1_of, 3, none)
def m_X1_begins : MethodName × ByteArray × Nat × Option FieldType := (yX1_begins, cX1_begins, 2, none)
def m_X1_sizeAsked : MethodName × ByteArray × Nat × Option FieldType := (yX1_sizeAsked, cX1_sizeAsked, 1, some .int)
def m_X1_markAsked : MethodName × ByteArray × Nat × Option FieldType := (yX1_markAsked, cX1_markAsked, 1, some .int)
def m_X1_sizeAskedOfFresh : MethodName × ByteArray × Nat × Option FieldType := (yX1_sizeAskedOfFresh, cX1_sizeAskedOfFresh, 1, some .int)
def m_X1_sizeAskedOfOld : MethodName × ByteArray × Nat × Option FieldType := (yX1_sizeAskedOfOld, cX1_sizeAskedOfOld, 1, some .int)
def m_X1_markAskedOfFresh : MethodName × ByteArray × Nat × Option FieldType := (yX1_markAskedOfFresh, cX1_markAskedOfFresh, 1, some .int)
def m_X1_lentSize : MethodName × ByteArray × Nat × Option FieldType := (yX1_lentSize, cX1_lentSize, 1, some .int)
def m_X1_freshSize : MethodName × ByteArray × Nat × Option FieldType := (yX1_freshSize, cX1_freshSize, 2, some .int)
def m_X1_oldSize : MethodName × ByteArray × Nat × Option FieldType := (yX1_oldSize, cX1_oldSize, 1, some .int)
def m_X1_lentMark : MethodName × ByteArray × Nat × Option FieldType := (yX1_lentMark, cX1_lentMark, 1, some .int)
def m_X1_freshMark : MethodName × ByteArray × Nat × Option FieldType := (yX1_freshMark, cX1_freshMark, 1, some .int)
def m_X1_oldMark : MethodName × ByteArray × Nat × Option FieldType := (yX1_oldMark, cX1_oldMark, 2, some .int)
def m_X2_init : MethodName × ByteArray × Nat × Option FieldType := (yX2_init, cX2_init, 1, none)
def m_X2_isNumber : MethodName × ByteArray × Nat × Option FieldType := (yX2_isNumber, cX2_isNumber, 1, some .boolean)
def m_X2_isMissing : MethodName × ByteArray × Nat × Option FieldType := (yX2_isMissing, cX2_isMissing, 2, some .boolean)
def m_X2_hasSpan : MethodName × ByteArray × Nat × Option FieldType := (yX2_hasSpan, cX2_hasSpan, 4, some .boolean)
def m_X2_findingOf : MethodName × ByteArray × Nat × Option FieldType := (yX2_findingOf, cX2_findingOf, 4, some .int)
def m_X2_lay : MethodName × ByteArray × Nat × Option FieldType := (yX2_lay, cX2_lay, 4, none)
def m_X2_put : MethodName × ByteArray × Nat × Option FieldType := (yX2_put, cX2_put, 5, some .int)
def m_X2_takeAway : MethodName × ByteArray × Nat × Option FieldType := (yX2_takeAway, cX2_takeAway, 2, some .int)
def m_X2_howMany : MethodName × ByteArray × Nat × Option FieldType := (yX2_howMany, cX2_howMany, 3, some .int)
def m_X3_init : MethodName × ByteArray × Nat × Option FieldType := (yX3_init, cX3_init, 1, none)
def m_X3_forMost : MethodName × ByteArray × Nat × Option FieldType := (yX3_forMost, cX3_forMost, 2, none)
def m_X3_forSoonest : MethodName × ByteArray × Nat × Option FieldType := (yX3_forSoonest, cX3_forSoonest, 3, none)
def m_X3_forSets : MethodName × ByteArray × Nat × Option FieldType := (yX3_forSets, cX3_forSets, 2, none)
def m_X3_seek : MethodName × ByteArray × Nat × Option FieldType := (yX3_seek, cX3_seek, 3, none)
def m_X3_tryRows : MethodName × ByteArray × Nat × Option FieldType := (yX3_tryRows, cX3_tryRows, 8, none)
def m_X3_weigh : MethodName × ByteArray × Nat × Option FieldType := (yX3_weigh, cX3_weigh, 3, none)
def m_X3_keepRow : MethodName × ByteArray × Nat × Option FieldType := (yX3_keepRow, cX3_keepRow, 3, none)
def m_X3_told : MethodName × ByteArray × Nat × Option FieldType := (yX3_told, cX3_told, 2, some .int)
def m_X4_init : MethodName × ByteArray × Nat × Option FieldType := (yX4_init, cX4_init, 1, none)
def m_X4_of : MethodName × ByteArray × Nat × Option FieldType := (yX4_of, cX4_of, 4, none)
def m_X4_share : MethodName × ByteArray × Nat × Option FieldType := (yX4_share, cX4_share, 4, none)
def m_X4_weighShares : MethodName × ByteArray × Nat × Option FieldType := (yX4_weighShares, cX4_weighShares, 4, none)
def m_X5_init : MethodName × ByteArray × Nat × Option FieldType := (yX5_init, cX5_init, 1, none)
def m_X5_append : MethodName × ByteArray × Nat × Option FieldType := (yX5_append, cX5_append, 2, some .boolean)
def m_X5_readInto : MethodName × ByteArray × Nat × Option FieldType := (yX5_readInto, cX5_readInto, 3, some .boolean)
def m_X5_readLaw : MethodName × ByteArray × Nat × Option FieldType := (yX5_readLaw, cX5_readLaw, 2, none)
def m_X5_readReader : MethodName × ByteArray × Nat × Option FieldType := (yX5_readReader, cX5_readReader, 4, none)
def m_X5_sortOf : MethodName × ByteArray × Nat × Option FieldType := (yX5_sortOf, cX5_sortOf, 1, some .int)
def m_X5_peek : MethodName × ByteArray × Nat × Option FieldType := (yX5_peek, cX5_peek, 1, some .int)
def m_X5_readByte : MethodName × ByteArray × Nat × Option FieldType := (yX5_readByte, cX5_readByte, 2, none)
def m_X5_readNumber : MethodName × ByteArray × Nat × Option FieldType := (yX5_readNumber, cX5_readNumber, 4, some .int)
def m_X5_isFigure : MethodName × ByteArray × Nat × Option FieldType := (yX5_isFigure, cX5_isFigure, 1, some .boolean)
def m_X5_fail : MethodName × ByteArray × Nat × Option FieldType := (yX5_fail, cX5_fail, 2, none)
def m_X6_init : MethodName × ByteArray × Nat × Option FieldType := (yX6_init, cX6_init, 1, none)
def m_X6_takeOver : MethodName × ByteArray × Nat × Option FieldType := (yX6_takeOver, cX6_takeOver, 2, none)
def m_X6_copyStands : MethodName × ByteArray × Nat × Option FieldType := (yX6_copyStands, cX6_copyStands, 5, none)
def m_X6_begin : MethodName × ByteArray × Nat × Option FieldType := (yX6_begin, cX6_begin, 1, none)
def m_X6_has : MethodName × ByteArray × Nat × Option FieldType := (yX6_has, cX6_has, 2, some .boolean)
def m_X6_everybody : MethodName × ByteArray × Nat × Option FieldType := (yX6_everybody, cX6_everybody, 1, some .int)
def m_X6_hasRead : MethodName × ByteArray × Nat × Option FieldType := (yX6_hasRead, cX6_hasRead, 2, some .boolean)
def m_X6_canHave : MethodName × ByteArray × Nat × Option FieldType := (yX6_canHave, cX6_canHave, 2, some .boolean)
def m_X6_comes : MethodName × ByteArray × Nat × Option FieldType := (yX6_comes, cX6_comes, 2, some .int)
def m_X6_brings : MethodName × ByteArray × Nat × Option FieldType := (yX6_brings, cX6_brings, 3, some .int)
def m_X6_neighbours : MethodName × ByteArray × Nat × Option FieldType := (yX6_neighbours, cX6_neighbours, 4, some .int)
def m_X6_hand : MethodName × ByteArray × Nat × Option FieldType := (yX6_hand, cX6_hand, 4, some .int)
def m_X6_handAlong : MethodName × ByteArray × Nat × Option FieldType := (yX6_handAlong, cX6_handAlong, 7, some .int)
def m_X6_suppose : MethodName × ByteArray × Nat × Option FieldType := (yX6_suppose, cX6_suppose, 4, none)
def m_X7_init : MethodName × ByteArray × Nat × Option FieldType := (yX7_init, cX7_init, 1, none)
def m_X7_row : MethodName × ByteArray × Nat × Option FieldType := (yX7_row, cX7_row, 4, some .int)
def m_X7_set : MethodName × ByteArray × Nat × Option FieldType := (yX7_set, cX7_set, 5, some .int)
def m_X7_copy : MethodName × ByteArray × Nat × Option FieldType := (yX7_copy, cX7_copy, 6, some .int)
def m_X7_drop : MethodName × ByteArray × Nat × Option FieldType := (yX7_drop, cX7_drop, 2, some .int)
def m_X7_feed : MethodName × ByteArray × Nat × Option FieldType := (yX7_feed, cX7_feed, 2, some .int)
def m_X7_town : MethodName × ByteArray × Nat × Option FieldType := (yX7_town, cX7_town, 2, some .int)
def m_X7_fault : MethodName × ByteArray × Nat × Option FieldType := (yX7_fault, cX7_fault, 1, some .int)
def m_X7_give : MethodName × ByteArray × Nat × Option FieldType := (yX7_give, cX7_give, 2, some .int)
def m_X7_pause : MethodName × ByteArray × Nat × Option FieldType := (yX7_pause, cX7_pause, 2, some .int)
def m_X7_value : MethodName × ByteArray × Nat × Option FieldType := (yX7_value, cX7_value, 4, some .int)
def m_X7_move : MethodName × ByteArray × Nat × Option FieldType := (yX7_move, cX7_move, 4, some .int)
def m_X7_undo : MethodName × ByteArray × Nat × Option FieldType := (yX7_undo, cX7_undo, 1, some .int)
def m_X7_reader : MethodName × ByteArray × Nat × Option FieldType := (yX7_reader, cX7_reader, 3, some .int)
def m_X7_would : MethodName × ByteArray × Nat × Option FieldType := (yX7_would, cX7_would, 3, some .int)
def m_X7_best : MethodName × ByteArray × Nat × Option FieldType := (yX7_best, cX7_best, 2, some .int)
def m_X7_soonest : MethodName × ByteArray × Nat × Option FieldType := (yX7_soonest, cX7_soonest, 3, some .int)
def m_X7_copies : MethodName × ByteArray × Nat × Option FieldType := (yX7_copies, cX7_copies, 3, some .int)
def m_X7_fits : MethodName × ByteArray × Nat × Option FieldType := (yX7_fits, cX7_fits, 12, some .int)
def m_X7_lost : MethodName × ByteArray × Nat × Option FieldType := (yX7_lost, cX7_lost, 12, some .int)
def m_X7_drawn : MethodName × ByteArray × Nat × Option FieldType := (yX7_drawn, cX7_drawn, 8, some .int)
def m_X7_image : MethodName × ByteArray × Nat × Option FieldType := (yX7_image, cX7_image, 2, some .int)
def m_X7_restore : MethodName × ByteArray × Nat × Option FieldType := (yX7_restore, cX7_restore, 2, some .int)
def m_X7_kind : MethodName × ByteArray × Nat × Option FieldType := (yX7_kind, cX7_kind, 2, some .int)
def m_X7_as : MethodName × ByteArray × Nat × Option FieldType := (yX7_as, cX7_as, 3, some .int)
def m_X7_ask : MethodName × ByteArray × Nat × Option FieldType := (yX7_ask, cX7_ask, 3, some .int)
def m_X7_trace : MethodName × ByteArray × Nat × Option FieldType := (yX7_trace, cX7_trace, 2, some .int)
def m_X7_count : MethodName × ByteArray × Nat × Option FieldType := (yX7_count, cX7_count, 2, some .int)
def m_X7_status : MethodName × ByteArray × Nat × Option FieldType := (yX7_status, cX7_status, 1, some .int)
def m_X7_found : MethodName × ByteArray × Nat × Option FieldType := (yX7_found, cX7_found, 2, some .int)
def m_X7_foundNothing : MethodName × ByteArray × Nat × Option FieldType := (yX7_foundNothing, cX7_foundNothing, 2, some .int)
def m_X7_isTold : MethodName × ByteArray × Nat × Option FieldType := (yX7_isTold, cX7_isTold, 3, some .boolean)
def m_X7_imageNumber : MethodName × ByteArray × Nat × Option FieldType := (yX7_imageNumber, cX7_imageNumber, 2, some (.object "PaperHour$Town"))
def m_X7_timesUntil : MethodName × ByteArray × Nat × Option FieldType := (yX7_timesUntil, cX7_timesUntil, 9, some .int)
def m_X7_power : MethodName × ByteArray × Nat × Option FieldType := (yX7_power, cX7_power, 4, some .int)
def m_X7_commonDivisor : MethodName × ByteArray × Nat × Option FieldType := (yX7_commonDivisor, cX7_commonDivisor, 6, some .int)
def m_X7_isOfKind : MethodName × ByteArray × Nat × Option FieldType := (yX7_isOfKind, cX7_isOfKind, 4, some .boolean)
def m_X8_init : MethodName × ByteArray × Nat × Option FieldType := (yX8_init, cX8_init, 2, none)
def m_X8_in : MethodName × ByteArray × Nat × Option FieldType := (yX8_in, cX8_in, 3, some .boolean)
def m_X8_isIn : MethodName × ByteArray × Nat × Option FieldType := (yX8_isIn, cX8_isIn, 2, some .boolean)
def m_X8_lay : MethodName × ByteArray × Nat × Option FieldType := (yX8_lay, cX8_lay, 5, none)
def m_X8_isTown : MethodName × ByteArray × Nat × Option FieldType := (yX8_isTown, cX8_isTown, 1, some .boolean)
def m_X8_isOne : MethodName × ByteArray × Nat × Option FieldType := (yX8_isOne, cX8_isOne, 2, some .boolean)
def m_X8_finds : MethodName × ByteArray × Nat × Option FieldType := (yX8_finds, cX8_finds, 2, some .int)
def m_X8_done : MethodName × ByteArray × Nat × Option FieldType := (yX8_done, cX8_done, 2, some .int)
def m_X8_isRow : MethodName × ByteArray × Nat × Option FieldType := (yX8_isRow, cX8_isRow, 1, some .boolean)
def m_X8_row : MethodName × ByteArray × Nat × Option FieldType := (yX8_row, cX8_row, 5, some .int)
def m_X8_set : MethodName × ByteArray × Nat × Option FieldType := (yX8_set, cX8_set, 4, some .int)
def m_X8_isPart : MethodName × ByteArray × Nat × Option FieldType := (yX8_isPart, cX8_isPart, 3, some .boolean)
def m_X8_copy : MethodName × ByteArray × Nat × Option FieldType := (yX8_copy, cX8_copy, 9, some .int)
def m_X8_drop : MethodName × ByteArray × Nat × Option FieldType := (yX8_drop, cX8_drop, 2, some .int)
def m_X8_feed : MethodName × ByteArray × Nat × Option FieldType := (yX8_feed, cX8_feed, 2, some .int)
def m_X8_nextToken : MethodName × ByteArray × Nat × Option FieldType := (yX8_nextToken, cX8_nextToken, 2, none)
def m_X8_fails : MethodName × ByteArray × Nat × Option FieldType := (yX8_fails, cX8_fails, 2, some .boolean)
def m_X8_isSign : MethodName × ByteArray × Nat × Option FieldType := (yX8_isSign, cX8_isSign, 2, some .boolean)
def m_X8_isNumber : MethodName × ByteArray × Nat × Option FieldType := (yX8_isNumber, cX8_isNumber, 3, some .boolean)
def m_X8_sortBy : MethodName × ByteArray × Nat × Option FieldType := (yX8_sortBy, cX8_sortBy, 1, some .int)
def m_X8_isThree : MethodName × ByteArray × Nat × Option FieldType := (yX8_isThree, cX8_isThree, 8, some .boolean)
def m_X8_isReader : MethodName × ByteArray × Nat × Option FieldType := (yX8_isReader, cX8_isReader, 3, some .boolean)
def m_X8_isRead : MethodName × ByteArray × Nat × Option FieldType := (yX8_isRead, cX8_isRead, 2, some .boolean)
def m_X8_town : MethodName × ByteArray × Nat × Option FieldType := (yX8_town, cX8_town, 2, some .int)
def m_X8_fault : MethodName × ByteArray × Nat × Option FieldType := (yX8_fault, cX8_fault, 1, some .int)
def m_X8_note : MethodName × ByteArray × Nat × Option FieldType := (yX8_note, cX8_note, 2, none)
def m_X8_comesTo : MethodName × ByteArray × Nat × Option FieldType := (yX8_comesTo, cX8_comesTo, 3, some .int)
def m_X8_canBe : MethodName × ByteArray × Nat × Option FieldType := (yX8_canBe, cX8_canBe, 2, some .boolean)
def m_X8_bringsBy : MethodName × ByteArray × Nat × Option FieldType := (yX8_bringsBy, cX8_bringsBy, 6, some .int)
def m_X8_gives : MethodName × ByteArray × Nat × Option FieldType := (yX8_gives, cX8_gives, 3, some .int)
def m_X8_give : MethodName × ByteArray × Nat × Option FieldType := (yX8_give, cX8_give, 2, some .int)
def m_X8_pause : MethodName × ByteArray × Nat × Option FieldType := (yX8_pause, cX8_pause, 2, some .int)
def m_X8_value : MethodName × ByteArray × Nat × Option FieldType := (yX8_value, cX8_value, 4, some .int)
def m_X8_move : MethodName × ByteArray × Nat × Option FieldType := (yX8_move, cX8_move, 4, some .int)
def m_X8_undo : MethodName × ByteArray × Nat × Option FieldType := (yX8_undo, cX8_undo, 1, some .int)
def m_X8_reader : MethodName × ByteArray × Nat × Option FieldType := (yX8_reader, cX8_reader, 3, some .int)
def m_X8_would : MethodName × ByteArray × Nat × Option FieldType := (yX8_would, cX8_would, 3, some .int)
def m_X8_begin : MethodName × ByteArray × Nat × Option FieldType := (yX8_begin, cX8_begin, 1, none)
def m_X8_goesOn : MethodName × ByteArray × Nat × Option FieldType := (yX8_goesOn, cX8_goesOn, 4, some .boolean)
def m_X8_layRow : MethodName × ByteArray × Nat × Option FieldType := (yX8_layRow, cX8_layRow, 6, some .int)
def m_X8_bits : MethodName × ByteArray × Nat × Option FieldType := (yX8_bits, cX8_bits, 3, some .int)
def m_X8_rowsOf : MethodName × ByteArray × Nat × Option FieldType := (yX8_rowsOf, cX8_rowsOf, 4, some .int)
def m_X8_keepRow : MethodName × ByteArray × Nat × Option FieldType := (yX8_keepRow, cX8_keepRow, 4, none)
def m_X8_best : MethodName × ByteArray × Nat × Option FieldType := (yX8_best, cX8_best, 4, some .int)
def m_X8_soonest : MethodName × ByteArray × Nat × Option FieldType := (yX8_soonest, cX8_soonest, 7, some .int)
def m_X8_laySets : MethodName × ByteArray × Nat × Option FieldType := (yX8_laySets, cX8_laySets, 4, none)
def m_X8_copies : MethodName × ByteArray × Nat × Option FieldType := (yX8_copies, cX8_copies, 9, some .int)
def m_X8_earnedBy : MethodName × ByteArray × Nat × Option FieldType := (yX8_earnedBy, cX8_earnedBy, 8, some .int)
def m_X8_takeOut : MethodName × ByteArray × Nat × Option FieldType := (yX8_takeOut, cX8_takeOut, 5, some .int)
def m_X8_isSo : MethodName × ByteArray × Nat × Option FieldType := (yX8_isSo, cX8_isSo, 4, some .boolean)
def m_X8_fits : MethodName × ByteArray × Nat × Option FieldType := (yX8_fits, cX8_fits, 10, some .int)
def m_X8_lost : MethodName × ByteArray × Nat × Option FieldType := (yX8_lost, cX8_lost, 14, some .int)
def m_X8_drawn : MethodName × ByteArray × Nat × Option FieldType := (yX8_drawn, cX8_drawn, 8, some .int)
def m_X8_image : MethodName × ByteArray × Nat × Option FieldType := (yX8_image, cX8_image, 2, some .int)
def m_X8_restore : MethodName × ByteArray × Nat × Option FieldType := (yX8_restore, cX8_restore, 2, some .int)
def m_X8_kind : MethodName × ByteArray × Nat × Option FieldType := (yX8_kind, cX8_kind, 2, some .int)
def m_X8_parentOf : MethodName × ByteArray × Nat × Option FieldType := (yX8_parentOf, cX8_parentOf, 1, some .int)
def m_X8_as : MethodName × ByteArray × Nat × Option FieldType := (yX8_as, cX8_as, 5, some .int)
def m_X8_begins : MethodName × ByteArray × Nat × Option FieldType := (yX8_begins, cX8_begins, 2, none)
def m_X8_markFresh : MethodName × ByteArray × Nat × Option FieldType := (yX8_markFresh, cX8_markFresh, 2, some .int)
def m_X8_markNew : MethodName × ByteArray × Nat × Option FieldType := (yX8_markNew, cX8_markNew, 3, some .int)
def m_X8_sizeOld : MethodName × ByteArray × Nat × Option FieldType := (yX8_sizeOld, cX8_sizeOld, 2, some .int)
def m_X8_sizeOf : MethodName × ByteArray × Nat × Option FieldType := (yX8_sizeOf, cX8_sizeOf, 4, some .int)
def m_X8_markOf : MethodName × ByteArray × Nat × Option FieldType := (yX8_markOf, cX8_markOf, 2, some .int)
def m_X8_ask : MethodName × ByteArray × Nat × Option FieldType := (yX8_ask, cX8_ask, 3, some .int)
def m_X8_trace : MethodName × ByteArray × Nat × Option FieldType := (yX8_trace, cX8_trace, 2, some .int)
def m_X8_count : MethodName × ByteArray × Nat × Option FieldType := (yX8_count, cX8_count, 4, some .int)
def m_X8_status : MethodName × ByteArray × Nat × Option FieldType := (yX8_status, cX8_status, 1, some .int)
def m_J9_abs_0f7a4 : MethodName × ByteArray × Nat × Option FieldType := (yJ9_abs_0f7a4, cJ9_abs_0f7a4, 1, some .int)
def m_J9_max_7cf53 : MethodName × ByteArray × Nat × Option FieldType := (yJ9_max_7cf53, cJ9_max_7cf53, 2, some .int)
def m_J7_fill_53178 : MethodName × ByteArray × Nat × Option FieldType := (yJ7_fill_53178, cJ7_fill_53178, 4, none)
def m_L_law : MethodName × ByteArray × Nat × Option FieldType := (yL_law, cL_law, 4, some .boolean)
end
section
/-! ===== an abstract machine over the kit's W: memory is a total map of numbers, the cells' shapes are fixed ===== -/
abbrev MD : Type := MethodName × ByteArray × Nat × Option FieldType
abbrev Mem : Type := Nat → Nat → Int32
/-- addresses of the ids; the classes of the arrays by their kinds; the classes' table -/
abbrev HE : Type := (Nat → Nat) × ((Nat → ClassId) × va_G)
def mset (σ : Mem) (a k : Nat) (v : Int32) : Mem := fun b j => if b = a ∧ j = k then v else σ b j
def mcpy (σ : Mem) (a sp b dp n : Nat) : Mem := fun c j => if c = b ∧ dp ≤ j ∧ j < dp + n then σ a (sp + (j - dp)) else σ c j
/-- (0, n, []) int[n]; (1, n, []) boolean[n]; (2, class, fields) an object: a field is (0, _) a number, (1, id) a reference that stays, (2, _) a reference that the memory holds; (3, n, [(0, base)]) int[n][] -/
abbrev Shp : Type := Nat × Nat × List (Nat × Nat)
def shTown (b : Nat) : Shp := (2, 6, [(0,0),(0,0),(0,0),(0,0),(0,0),(1,b+1),(1,b+2),(1,b+3),(1,b+4),(0,0),(0,0),(0,0),(0,0)])
def shA (n : Nat) : Shp := (0, n, [])
def shpL : List Shp :=
  [(2, 7, [(1,1),(1,13),(1,15),(1,20),(1,25),(1,30),(1,35),(1,61),(1,70),(1,75),(0,0)]),
   (2, 2, [(1,2),(1,3),(1,4)]), shA 8, shA 8, (3, 8, [(0,5)]), shA 40, shA 40, shA 40, shA 40, shA 40, shA 40, shA 40, shA 40,
   (2, 5, [(1,14),(0,0),(0,0),(0,0),(0,0),(0,0)]), shA 100,
   shTown 15, shA 6, shA 6, shA 6, shA 6, shTown 20, shA 6, shA 6, shA 6, shA 6, shTown 25, shA 6, shA 6, shA 6, shA 6, shTown 30, shA 6, shA 6, shA 6, shA 6,
   (2, 0, [(1,36),(0,0),(0,0)]), (3, 24, [(0,37)]), shA 7, shA 7, shA 7, shA 7, shA 7, shA 7, shA 7, shA 7, shA 7, shA 7, shA 7, shA 7, shA 7, shA 7, shA 7, shA 7, shA 7, shA 7, shA 7, shA 7, shA 7, shA 7, shA 7, shA 7,
   (2, 3, [(1,62),(1,67),(0,0),(0,0),(0,0),(1,68),(0,0),(0,0),(0,0),(1,69)]), shTown 62, shA 6, shA 6, shA 6, shA 6, shA 6, shA 6, shA 64,
   (2, 4, [(1,71),(1,72),(1,73),(2,0),(0,0),(0,0),(0,0),(0,0)]), shA 6, shA 4, shA 6, shA 0,
   (2, 1, [(1,76),(0,0),(0,0),(0,0),(0,0),(0,0)]), shA 16,
   (2, 8, [(1,78),(1,79),(1,80),(0,0),(0,0),(1,81),(0,0),(0,0),(0,0),(0,0),(0,0),(0,0),(1,82),(1,83),(1,84),(1,85),(1,86),(1,87),(0,0),(1,88),(0,0),(1,89),(1,90),(1,91),(0,0),(0,0),(1,92),(1,93)]),
   shA 8, shA 8, shA 320, shA 100, shA 33, shA 33, shA 33, shA 66, (1, 2, []), shA 792, shA 16, shA 6, shA 6, shA 6, shA 64, shA 6]
abbrev NC : Nat := 94
/-- the id of the static row, and of the script: no cells of the world -/
abbrev idNear : Nat := 94
abbrev idScr : Nat := 95
theorem shpL_len : shpL.length = 94 := by decide +kernel
def shp (k : Nat) : Shp := shpL.getD k (9, 0, [])
def isTown (t : Nat) : Bool := t == 15 || t == 20 || t == 25 || t == 30 || t == 62
def isIA (a : Nat) : Bool := (shp a).1 == 0
def alen (a : Nat) : Nat := (shp a).2.1
theorem shp_lt {a : Nat} (h : (shp a).1 ≠ 9) : a < NC := by
  rcases Nat.lt_or_ge a NC with q | q
  · exact q
  · exact absurd (by unfold shp; rw [List.getD_eq_getElem?_getD, List.getElem?_eq_none (by rw [shpL_len]; exact q)]; rfl) h
theorem shp_town {t : Nat} (h : isTown t = true) : shp t = shTown t ∧ shp (t+1) = shA 6 ∧ shp (t+2) = shA 6 ∧ shp (t+3) = shA 6 ∧ shp (t+4) = shA 6 := by
  simp only [isTown, Bool.or_eq_true, beq_iff_eq] at h
  rcases h with (((h | h) | h) | h) | h <;> subst h <;> decide +kernel
theorem shp_IA {a : Nat} (h : isIA a = true) : shp a = shA (alen a) := by
  have h0 : (shp a).1 = 0 := by simpa [isIA] using h
  have hl := shp_lt (a := a) (by rw [h0]; decide)
  have : ∀ a, a < 94 → ((shp a).1 ≠ 0 ∨ shp a = shA (alen a)) := by decide +kernel
  exact (this a hl).resolve_left (fun q => q h0)
theorem shp_rows {j : Nat} (h : j < 8) : shp (5 + j) = shA 40 := by
  have : ∀ j, j < 8 → shp (5 + j) = shA 40 := by decide +kernel
  exact this j h
theorem shp_acts {j : Nat} (h : j < 24) : shp (37 + j) = shA 7 := by
  have : ∀ j, j < 24 → shp (37 + j) = shA 7 := by decide +kernel
  exact this j h
def cv (E : HE) : Value → Value
  | .ref k => .ref (E.1 k)
  | v => v
def cfield (E : HE) (σ : Mem) (a j : Nat) (q : Nat × Nat) : Value := if q.1 = 0 then .int (σ a j) else if q.1 = 1 then .ref (E.1 q.2) else .ref (E.1 (σ a j).toNatClampNeg)
def ccell (E : HE) (σ : Mem) (a : Nat) (sh : Shp) : va_E :=
  if sh.1 = 0 then .inl (E.2.1 0, sh.2.1, .inl (σ a))
  else if sh.1 = 1 then .inl (E.2.1 1, sh.2.1, .inl (σ a))
  else if sh.1 = 2 then .inr (sh.2.1, sh.2.2.mapIdx (fun j q => cfield E σ a j q))
  else .inl (E.2.1 2, sh.2.1, .inr (.inr (.inr (.inr (fun i => some (E.1 ((sh.2.2.getD 0 (0,0)).2 + i)))))))
def wld (E : HE) (σ : Mem) : va_W := (List.range NC).map fun k => (E.1 k, ccell E σ k (shp k))
theorem wld_get {E : HE} {σ : Mem} {k : Nat} (h : k < NC) : (wld E σ)[k]? = some (E.1 k, ccell E σ k (shp k)) := by
  unfold wld
  rw [List.getElem?_map, List.getElem?_range h]; rfl
theorem wld_arr {E : HE} {σ : Mem} {a n : Nat} (h : shp a = shA n) : (wld E σ)[a]? = some (E.1 a, .inl (E.2.1 0, n, .inl (σ a))) := by
  rw [wld_get (shp_lt (by rw [h]; simp [shA])), h]; rfl
theorem wld_barr {E : HE} {σ : Mem} {a n : Nat} (h : shp a = (1, n, [])) : (wld E σ)[a]? = some (E.1 a, .inl (E.2.1 1, n, .inl (σ a))) := by
  rw [wld_get (shp_lt (by rw [h]; simp)), h]; rfl
theorem wld_obj {E : HE} {σ : Mem} {a ci : Nat} {ks : List (Nat × Nat)} (h : shp a = (2, ci, ks)) : (wld E σ)[a]? = some (E.1 a, .inr (ci, ks.mapIdx (fun j q => cfield E σ a j q))) := by
  rw [wld_get (shp_lt (by rw [h]; simp)), h]; rfl
theorem wld_rows {E : HE} {σ : Mem} {a n b : Nat} (h : shp a = (3, n, [(0, b)])) : (wld E σ)[a]? = some (E.1 a, .inl (E.2.1 2, n, .inr (.inr (.inr (.inr (fun i => some (E.1 (b + i)))))))) := by
  rw [wld_get (shp_lt (by rw [h]; simp)), h]; rfl
theorem ccell_other {E : HE} {σ τ : Mem} {a : Nat} {sh : Shp} (h : σ a = τ a) : ccell E σ a sh = ccell E τ a sh := by
  unfold ccell cfield; rw [h]
/-- one cell is another, by a memory that differs there alone -/
theorem wld_set {E : HE} {σ τ : Mem} {a : Nat} {e : va_E} (ha : a < NC) (ho : ∀ b, b ≠ a → τ b = σ b) (he : e = ccell E τ a (shp a)) : (wld E σ).set a (E.1 a, e) = wld E τ := by
  apply List.ext_getElem?
  intro i
  by_cases hi : i < NC
  · by_cases hia : i = a
    · subst hia
      rw [wld_get hi, List.getElem?_set_self (by unfold wld; simpa using hi), he]
    · rw [List.getElem?_set_ne (Ne.symm hia), wld_get hi, wld_get hi, ccell_other (ho i hia)]
  · rw [List.getElem?_eq_none (by unfold wld; simp; omega), List.getElem?_eq_none (by unfold wld; simp; omega)]
theorem mset_ne {σ : Mem} {a k : Nat} {v : Int32} (b : Nat) (h : b ≠ a) : mset σ a k v b = σ b := by
  funext j; simp [mset, h]
theorem mset_row {σ : Mem} {a k : Nat} {v : Int32} : mset σ a k v a = upd (σ a) k v := by
  funext j; simp [mset, upd]
theorem mset_at {σ : Mem} {a k : Nat} {v : Int32} : mset σ a k v a k = v := by simp [mset]
theorem mset_off {σ : Mem} {a k j : Nat} {v : Int32} (h : j ≠ k) : mset σ a k v a j = σ a j := by simp [mset, h]
theorem mcpy_ne {σ : Mem} {a sp b dp n : Nat} (c : Nat) (h : c ≠ b) : mcpy σ a sp b dp n c = σ c := by
  funext j; simp [mcpy, h]
theorem mcpy_row {σ : Mem} {a sp b dp n : Nat} : mcpy σ a sp b dp n b = va_cpy (σ a) (σ b) sp dp n := by
  funext j
  by_cases h : dp ≤ j ∧ j < dp + n
  · rw [pk_cpy_in h.1 h.2]; simp [mcpy, h]
  · rw [pk_cpy_out (by omega)]; simp [mcpy, h]
/-! the words that every method has: all good ones of the tables; the nest mates' links apart -/
def allW : List Cond := lw_tbl.filter goodWord
def isNest : Cond → Bool
  | .methodLinkNest _ _ _ _ => true
  | .fieldLinkNest _ _ _ _ _ _ => true
  | _ => false
def nestW : List Cond := lw_tbl.filter isNest
theorem allW_of {w : Cond} (h : w ∈ lw_tbl) (hg : goodWord w = true) : w ∈ allW := List.mem_filter.mpr ⟨h, hg⟩
theorem nestW_of {w : Cond} (h : w ∈ lw_tbl) (hg : isNest w = true) : w ∈ nestW := List.mem_filter.mpr ⟨h, hg⟩
theorem tb_mem {w : Cond} (h : w ∈ tables_1) : w ∈ lw_tbl := List.mem_append_right _ h
theorem good_all {ws : List Cond} (h : ∀ w ∈ ws, w ∈ allW) : GoodIn allW ws := fun w hw => ⟨h w hw, good_of_word (List.mem_filter.mp (h w hw)).2⟩
theorem nest_warm {w : Cond} (h : w ∈ nestW) {s U : State} (hW : s.WarmedH U.vm) (hz : va_Nw w s) : va_Nw w U := by
  have := (List.mem_filter.mp h).2
  cases w <;> first | exact va_Nw.warmM hW hz | exact va_Nw.warmF hW hz | exact Bool.noConfusion this
theorem nest_same {w : Cond} (h : w ∈ nestW) {u U : State} (hv : u.vm = U.vm) (hz : va_Nw w u) : va_Nw w U := by
  have := (List.mem_filter.mp h).2
  cases w <;> first | exact Bool.noConfusion this | exact va_Nw.same rfl hv hz
theorem nest_of {w : Cond} (h : w ∈ nestW) {A : Array Value} {U : State} (hz : w.before A U = true) : va_Nw w U := by
  have := (List.mem_filter.mp h).2
  cases w <;> first | exact Bool.noConfusion this | exact va_Nw.of rfl hz
/-! classes -/
def CLs (ci : Nat) (C : String) (T : u_T) (N : Nat) (ty : Nat → FieldType) : Prop := vwCl[ci]? = some (C, T, N) ∧ (∀ w ∈ u_ws C T N, w ∈ allW) ∧ (∀ k, k < N → parseFieldDescriptor (T k).2.2.1 = some (ty k)) ∧ ∀ a, a < N → ∀ b, b < N → a ≠ b → (T a).2.1 ≠ (T b).2.1
/-- a field by a pool entry: of class ci, its slot k, its type -/
def FLd (own : String) (idx ci k : Nat) (z : FieldType) (fin nest : Bool) : Prop := ∃ (C : String) (T : u_T) (N : Nat) (ty : Nat → FieldType), CLs ci C T N ty ∧ k < N ∧ ty k = z ∧ (T k).2.2.2 = fin ∧ (if nest then ∃ host, Cond.fieldLinkNest own idx (T k).1 (T k).2.1 (T k).2.2.1 host ∈ nestW else Cond.fieldLink own idx (T k).1 (T k).2.1 (T k).2.2.1 ∈ allW)
/-- a method that can be called: its code, its class made ready, how many parameters -/
def MFs (d : MD) (n : Nat) : Prop := Cond.code d.1 d.2.1 d.2.2.1 d.2.2.2 ∈ allW ∧ Cond.initialized d.1.cls ∈ allW ∧ (d.1.cls ≠ "java/lang/invoke/MethodHandle" ∧ d.1.cls ≠ "java/lang/invoke/VarHandle" ∧ (parseMethodDescriptor d.1.desc).map (fun q => q.parameters.length) = some n) ∧ d.2.2.1 ≤ 40
def MLk (own : String) (idx : Nat) (d : MD) (nest : Bool) : Prop := if nest then ∃ host, Cond.methodLinkNest own idx d.1 host ∈ nestW else Cond.methodLink own idx d.1 ∈ allW
def SVs (own : String) (idx : Nat) (d : MD) (n : Nat) (nest : Bool) : Prop := MFs d n ∧ MLk own idx d nest ∧ Cond.instanceMethod d.1 ∈ allW ∧ Cond.selects d.1.cls d.1 d.1 ∈ allW
def SSs (own : String) (idx : Nat) (d : MD) (n : Nat) (nest : Bool) : Prop := MFs d n ∧ MLk own idx d nest ∧ Cond.static d.1 ∈ allW
def mW (d : MD) : List Cond := Cond.code d.1 d.2.1 d.2.2.1 d.2.2.2 :: allW
def rm (D : Nat) : Room := { frames := D, cells := 0, slots := 0, locals := 64 * D }
def tysE (E : HE) : List (ClassId × FieldType) := [(E.2.1 0, .int), (E.2.1 1, .boolean), (E.2.1 2, .array .int)]
def nearF (j : Nat) : Value := .int (([-1, 0, 1, 1, 0, 4] : List Int32).getD j 0)
def nearV (j : Nat) : Int32 := ([-1, 0, 1, 1, 0, 4] : List Int32).getD j 0
/-- what a run of a method stands on -/
def Fx (E : HE) (A : Nat → Prop) (sc : Nat × (Nat → Int32)) (p : Program) (R : Room) (s : State) (m : MethodId) (args : Array Value) (c : Code) (cells slots : Nat) (d : MD) (D : Nat) : Prop :=
  p.tables.exec = Jvm.exec ∧ c.code = d.2.1 ∧ c.maxLocals = d.2.2.1 ∧ s.vm.findClass d.1.cls = some m.cls ∧ (∀ w ∈ allW, w.before args s = true) ∧ (∀ w ∈ nestW, va_Nw w s) ∧
  va_K E.2.2 vwCl (tysE E) s ∧ (∀ q : Nat, s.heap.size ≤ q → A q) ∧ va_Z "PaperHour" "NEAREST" "[I" (.ref (E.1 idNear)) A s s.heap ∧ va_T .int (E.1 idNear) 6 nearF A s s.heap ∧
  (d.1 = yL_law → va_X (E.1 idScr) sc.1 sc.2 s s.heap ∧ E.1 idScr < s.heap.size ∧ ¬ A (E.1 idScr)) ∧ D ≤ R.frames ∧ 64 * D ≤ R.locals ∧ cells ≤ R.cells ∧ slots ≤ R.slots
def isBv (v : Int32) : Bool := v == 0 || v == 1
def RetAt (d : MD) (pc : Nat) : Option Value → Prop
  | none => decode d.2.1 pc = .ok (.return_, 1) ∧ d.2.2.2 = none
  | some (.int v) => decode d.2.1 pc = .ok (.ireturn, 1) ∧ (d.2.2.2 = some .int ∨ (d.2.2.2 = some .boolean ∧ isBv v = true))
  | some (.ref _) => decode d.2.1 pc = .ok (.areturn, 1) ∧ ∃ C, d.2.2.2 = some (.object C)
  | some _ => False
/-- from here the method d comes to its end, with this answer and this memory -/
def Ev (l : Launch) (sc : Nat × (Nat → Int32)) (D : Nat) (d : MD) (pc : Nat) (ls : List (Nat × Value)) (st : List Value) (σ : Mem) (Y : Option Value × Mem) : Prop :=
  ∀ (E : HE) (A : Nat → Prop) (p : Program) (e : Jvm.Env) (R : Room) (s : State) (m : MethodId) (args : Array Value) (below : List Frame) (meth : Method) (c : Code) (cells slots : Nat) (Q : State → Prop),
    Fx E A sc p R s m args c cells slots d D →
    (∀ (pcr : Nat) (lsr : Array Slot) (Hr : Heap) (locsr : List Loc), va_P E.2.2 vwCl (wld E Y.2) Hr → va_D A (wld E Y.2) → va_S A s.heap Hr locsr → RetAt d pcr Y.1 → W p l e R s m args below meth c Hr locsr cells slots Q (F0 m pcr lsr (Y.1.toList.map (cv E)))) →
    ∀ (H : Heap) (locs : List Loc) (lsA : Array Slot), va_P E.2.2 vwCl (wld E σ) H → va_D A (wld E σ) → va_S A s.heap H locs → lv_has lsA d.2.2.1 (ls.map fun q => (q.1, cv E q.2)) →
      W p l e R s m args below meth c H locs cells slots Q (F0 m pc lsA (st.map (cv E)))
/-- if the pure answer is there, the method comes to it -/
def G {α : Type} (l : Launch) (sc : Nat × (Nat → Int32)) (D : Nat) (d : MD) (pc : Nat) (ls : List (Nat × Value)) (st : List Value) (σ : Mem) (o : Option α) (mk : α → Option Value × Mem) : Prop := ∀ y, o = some y → Ev l sc D d pc ls st σ (mk y)
/-- an instruction, its length, where the next one is -/
def Dc (d : MD) (pc : Nat) (i : Instr) (len nx : Nat) : Prop := decode d.2.1 pc = .ok (i, len) ∧ pc + len = nx
/-- the cells that a method may change -/
def fA (E : HE) (sz : Nat) : Nat → Prop := fun q => (∃ k, k < NC ∧ q = E.1 k) ∨ sz ≤ q
def Pw (E : HE) (σ : Mem) (sz : Nat) (U : State) : Prop := U.heap.size = sz ∧ va_P E.2.2 vwCl (wld E σ) U.heap ∧ va_K E.2.2 vwCl (tysE E) U ∧ va_D (fun _ => True) (wld E σ) ∧ (∀ w ∈ nestW, va_Nw w U) ∧ va_Z "PaperHour" "NEAREST" "[I" (.ref (E.1 idNear)) (fA E sz) U U.heap ∧ va_T .int (E.1 idNear) 6 nearF (fA E sz) U U.heap
def Qw (E : HE) (Y : Option Value × Mem) (sz : Nat) : Array Value → State → Outcome → State → Prop := fun _ st oc t => oc = .returned (Y.1.map (cv E)) ∧ (va_P E.2.2 vwCl (wld E Y.2) t.heap ∧ va_D (fA E sz) (wld E Y.2)) ∧ va_F (fA E sz) st t
/-- the method, as a caller sees it -/
def EvM (l : Launch) (D : Nat) (d : MD) (as : List Value) (σ : Mem) (Y : Option Value × Mem) : Prop :=
  ∀ (E : HE) (sz : Nat), Met l d.1 (mW d) (rm D) (va_Pc (as.map (cv E)) (Pw E σ sz)) (Qw E Y sz) 0 0 (fA E sz)
end
section
/-! ===== the rules: an instruction each ===== -/
def inB (i : Int32) (n : Nat) : Bool := decide (¬ (i < 0 ∨ n ≤ i.toNatClampNeg))
theorem inB_in {i : Int32} {n : Nat} (h : inB i n = true) : vp_in i n := by unfold vp_in; exact of_decide_eq_true h
section GR
variable {α : Type} {l : Launch} {sc : Nat × (Nat → Int32)} {D pc nx : Nat} {d : MD} {ls ls' : List (Nat × Value)} {st : List Value} {σ : Mem} {o : Option α} {mk : α → Option Value × Mem}
theorem loc_at {E : HE} {lsA : Array Slot} {n k i : Nat} {v : Value} (hl : lv_has lsA n (ls.map fun q => (q.1, cv E q.2))) (hk : ls[k]? = some (i, v)) : lsA[i]? = some (.val (cv E v)) := lv_at hl k (by rw [List.getElem?_map, hk]; rfl)
theorem cv_cat (E : HE) (v : Value) : (cv E v).category = v.category := by cases v <;> rfl
theorem st_map1 (E : HE) (i : Nat) : ∀ L : List (Nat × Value), (L.map fun q => (q.1, cv E q.2)).filter (fun q => !(q.1 == i) && !(q.1 + 1 == i && q.2.category == 2)) = (L.filter (fun q => !(q.1 == i) && !(q.1 + 1 == i && q.2.category == 2))).map fun q => (q.1, cv E q.2)
  | [] => rfl
  | q :: L => by
    rw [List.map_cons, List.filter_cons, List.filter_cons, st_map1 E i L, cv_cat]
    split <;> rfl
theorem st_map2 (E : HE) (i : Nat) : ∀ L : List (Nat × Value), (L.map fun q => (q.1, cv E q.2)).filter (fun q => !(q.1 == i) && (!(q.1 == i + 1) && !(q.1 + 1 == i && q.2.category == 2))) = (L.filter (fun q => !(q.1 == i) && (!(q.1 == i + 1) && !(q.1 + 1 == i && q.2.category == 2)))).map fun q => (q.1, cv E q.2)
  | [] => rfl
  | q :: L => by
    rw [List.map_cons, List.filter_cons, List.filter_cons, st_map2 E i L, cv_cat]
    split <;> rfl
theorem g_sub (is : List Nat) (hs : is.filterMap (fun i => ls[i]?) = ls') (k : G l sc D d pc ls' st σ o mk) : G l sc D d pc ls st σ o mk := by
  intro v hv E A p e_ R s m args below meth c cells slots Q F K H locs lsA hP hD hS hl
  refine k v hv E A p e_ R s m args below meth c cells slots Q F K H locs lsA hP hD hS (lv_sub hl is ?_)
  subst hs
  unfold lv_pick
  rw [List.map_filterMap]
  congr 1
  funext i
  rw [List.getElem?_map]
theorem g_if {c : Prop} [Decidable c] {o2 : Option α} (k1 : c → G l sc D d pc ls st σ o mk) (k2 : ¬ c → G l sc D d pc ls st σ o2 mk) : G l sc D d pc ls st σ (if c then o else o2) mk := by
  by_cases h : c
  · rw [if_pos h]; exact k1 h
  · rw [if_neg h]; exact k2 h
theorem g_guard {b : Bool} (k1 : b = true → G l sc D d pc ls st σ o mk) : G l sc D d pc ls st σ (if b = true then o else none) mk := g_if k1 (fun _ _ h => by cases h)
theorem g_none : G l sc D d pc ls st σ (none : Option α) mk := fun _ h => by cases h
theorem g_eqm {τ : Mem} (h : σ = τ) (k : G l sc D d pc ls st τ o mk) : G l sc D d pc ls st σ o mk := h ▸ k
theorem g_iadd {x y : Int32} (hi : Dc d pc .iadd 1 nx)  (k : G l sc D d nx ls (.int (x + y) :: st) σ o mk) : G l sc D d pc ls (.int y :: .int x :: st) σ o mk := by
  obtain ⟨hi, rfl⟩ := hi
  intro v hv E A p e_ R s m args below meth c cells slots Q F K H locs lsA hP hD hS hl
  exact lv_iadd F.1 F.2.1 hi  (k v hv E A p e_ R s m args below meth c cells slots Q F K H locs lsA hP hD hS hl)
theorem g_isub {x y : Int32} (hi : Dc d pc .isub 1 nx)  (k : G l sc D d nx ls (.int (x - y) :: st) σ o mk) : G l sc D d pc ls (.int y :: .int x :: st) σ o mk := by
  obtain ⟨hi, rfl⟩ := hi
  intro v hv E A p e_ R s m args below meth c cells slots Q F K H locs lsA hP hD hS hl
  exact lv_isub F.1 F.2.1 hi  (k v hv E A p e_ R s m args below meth c cells slots Q F K H locs lsA hP hD hS hl)
theorem g_imul {x y : Int32} (hi : Dc d pc .imul 1 nx)  (k : G l sc D d nx ls (.int (x * y) :: st) σ o mk) : G l sc D d pc ls (.int y :: .int x :: st) σ o mk := by
  obtain ⟨hi, rfl⟩ := hi
  intro v hv E A p e_ R s m args below meth c cells slots Q F K H locs lsA hP hD hS hl
  exact lv_imul F.1 F.2.1 hi  (k v hv E A p e_ R s m args below meth c cells slots Q F K H locs lsA hP hD hS hl)
theorem g_iand {x y : Int32} (hi : Dc d pc .iand 1 nx)  (k : G l sc D d nx ls (.int (x &&& y) :: st) σ o mk) : G l sc D d pc ls (.int y :: .int x :: st) σ o mk := by
  obtain ⟨hi, rfl⟩ := hi
  intro v hv E A p e_ R s m args below meth c cells slots Q F K H locs lsA hP hD hS hl
  exact lv_iand F.1 F.2.1 hi  (k v hv E A p e_ R s m args below meth c cells slots Q F K H locs lsA hP hD hS hl)
theorem g_ior {x y : Int32} (hi : Dc d pc .ior 1 nx)  (k : G l sc D d nx ls (.int (x ||| y) :: st) σ o mk) : G l sc D d pc ls (.int y :: .int x :: st) σ o mk := by
  obtain ⟨hi, rfl⟩ := hi
  intro v hv E A p e_ R s m args below meth c cells slots Q F K H locs lsA hP hD hS hl
  exact lv_ior F.1 F.2.1 hi  (k v hv E A p e_ R s m args below meth c cells slots Q F K H locs lsA hP hD hS hl)
theorem g_ixor {x y : Int32} (hi : Dc d pc .ixor 1 nx)  (k : G l sc D d nx ls (.int (x ^^^ y) :: st) σ o mk) : G l sc D d pc ls (.int y :: .int x :: st) σ o mk := by
  obtain ⟨hi, rfl⟩ := hi
  intro v hv E A p e_ R s m args below meth c cells slots Q F K H locs lsA hP hD hS hl
  exact lv_ixor F.1 F.2.1 hi  (k v hv E A p e_ R s m args below meth c cells slots Q F K H locs lsA hP hD hS hl)
theorem g_ishl {x y : Int32} (hi : Dc d pc .ishl 1 nx)  (k : G l sc D d nx ls (.int (x <<< (y &&& 31)) :: st) σ o mk) : G l sc D d pc ls (.int y :: .int x :: st) σ o mk := by
  obtain ⟨hi, rfl⟩ := hi
  intro v hv E A p e_ R s m args below meth c cells slots Q F K H locs lsA hP hD hS hl
  exact lv_ishl F.1 F.2.1 hi  (k v hv E A p e_ R s m args below meth c cells slots Q F K H locs lsA hP hD hS hl)
theorem g_ishr {x y : Int32} (hi : Dc d pc .ishr 1 nx)  (k : G l sc D d nx ls (.int (x >>> (y &&& 31)) :: st) σ o mk) : G l sc D d pc ls (.int y :: .int x :: st) σ o mk := by
  obtain ⟨hi, rfl⟩ := hi
  intro v hv E A p e_ R s m args below meth c cells slots Q F K H locs lsA hP hD hS hl
  exact lv_ishr F.1 F.2.1 hi  (k v hv E A p e_ R s m args below meth c cells slots Q F K H locs lsA hP hD hS hl)
theorem g_idiv {x y : Int32} (hi : Dc d pc .idiv 1 nx) (hne : ¬ y = 0) (k : G l sc D d nx ls (.int (x / y) :: st) σ o mk) : G l sc D d pc ls (.int y :: .int x :: st) σ o mk := by
  obtain ⟨hi, rfl⟩ := hi
  intro v hv E A p e_ R s m args below meth c cells slots Q F K H locs lsA hP hD hS hl
  exact lv_idiv F.1 F.2.1 hi hne (k v hv E A p e_ R s m args below meth c cells slots Q F K H locs lsA hP hD hS hl)
theorem g_irem {x y : Int32} (hi : Dc d pc .irem 1 nx) (hne : ¬ y = 0) (k : G l sc D d nx ls (.int (x - x / y * y) :: st) σ o mk) : G l sc D d pc ls (.int y :: .int x :: st) σ o mk := by
  obtain ⟨hi, rfl⟩ := hi
  intro v hv E A p e_ R s m args below meth c cells slots Q F K H locs lsA hP hD hS hl
  exact lv_irem F.1 F.2.1 hi hne (k v hv E A p e_ R s m args below meth c cells slots Q F K H locs lsA hP hD hS hl)
theorem g_ineg {x : Int32} (hi : Dc d pc .ineg 1 nx)  (k : G l sc D d nx ls (.int (-x) :: st) σ o mk) : G l sc D d pc ls (.int x :: st) σ o mk := by
  obtain ⟨hi, rfl⟩ := hi
  intro v hv E A p e_ R s m args below meth c cells slots Q F K H locs lsA hP hD hS hl
  exact lv_ineg F.1 F.2.1 hi  (k v hv E A p e_ R s m args below meth c cells slots Q F K H locs lsA hP hD hS hl)
theorem g_i2l {x : Int32} (hi : Dc d pc .i2l 1 nx)  (k : G l sc D d nx ls (.long x.toInt64 :: st) σ o mk) : G l sc D d pc ls (.int x :: st) σ o mk := by
  obtain ⟨hi, rfl⟩ := hi
  intro v hv E A p e_ R s m args below meth c cells slots Q F K H locs lsA hP hD hS hl
  exact lv_i2l F.1 F.2.1 hi rfl (k v hv E A p e_ R s m args below meth c cells slots Q F K H locs lsA hP hD hS hl)
theorem g_l2i {x : Int64} (hi : Dc d pc .l2i 1 nx)  (k : G l sc D d nx ls (.int x.toInt32 :: st) σ o mk) : G l sc D d pc ls (.long x :: st) σ o mk := by
  obtain ⟨hi, rfl⟩ := hi
  intro v hv E A p e_ R s m args below meth c cells slots Q F K H locs lsA hP hD hS hl
  exact lv_l2i F.1 F.2.1 hi rfl (k v hv E A p e_ R s m args below meth c cells slots Q F K H locs lsA hP hD hS hl)
theorem g_i2b {x : Int32} (hi : Dc d pc .i2b 1 nx)  (k : G l sc D d nx ls (.int x.toInt8.toInt32 :: st) σ o mk) : G l sc D d pc ls (.int x :: st) σ o mk := by
  obtain ⟨hi, rfl⟩ := hi
  intro v hv E A p e_ R s m args below meth c cells slots Q F K H locs lsA hP hD hS hl
  exact lv_i2b F.1 F.2.1 hi rfl (k v hv E A p e_ R s m args below meth c cells slots Q F K H locs lsA hP hD hS hl)
theorem g_i2s {x : Int32} (hi : Dc d pc .i2s 1 nx)  (k : G l sc D d nx ls (.int x.toInt16.toInt32 :: st) σ o mk) : G l sc D d pc ls (.int x :: st) σ o mk := by
  obtain ⟨hi, rfl⟩ := hi
  intro v hv E A p e_ R s m args below meth c cells slots Q F K H locs lsA hP hD hS hl
  exact lv_i2s F.1 F.2.1 hi rfl (k v hv E A p e_ R s m args below meth c cells slots Q F K H locs lsA hP hD hS hl)
theorem g_lmul {x y : Int64} (hi : Dc d pc .lmul 1 nx)  (k : G l sc D d nx ls (.long (x * y) :: st) σ o mk) : G l sc D d pc ls (.long y :: .long x :: st) σ o mk := by
  obtain ⟨hi, rfl⟩ := hi
  intro v hv E A p e_ R s m args below meth c cells slots Q F K H locs lsA hP hD hS hl
  exact lv_lmul F.1 F.2.1 hi  (k v hv E A p e_ R s m args below meth c cells slots Q F K H locs lsA hP hD hS hl)
theorem g_lrem {x y : Int64} (hi : Dc d pc .lrem 1 nx) (hne : ¬ y = 0) (k : G l sc D d nx ls (.long (x - x / y * y) :: st) σ o mk) : G l sc D d pc ls (.long y :: .long x :: st) σ o mk := by
  obtain ⟨hi, rfl⟩ := hi
  intro v hv E A p e_ R s m args below meth c cells slots Q F K H locs lsA hP hD hS hl
  exact lv_lrem F.1 F.2.1 hi hne (k v hv E A p e_ R s m args below meth c cells slots Q F K H locs lsA hP hD hS hl)
theorem g_iconst {n : Int} {v : Int32} (hi : Dc d pc (.iconst n) 1 nx) (hv0 : Int32.ofInt n = v) (k : G l sc D d nx ls (.int v :: st) σ o mk) : G l sc D d pc ls (st) σ o mk := by
  obtain ⟨hi, rfl⟩ := hi
  intro v hv E A p e_ R s m args below meth c cells slots Q F K H locs lsA hP hD hS hl
  exact lv_iconst F.1 F.2.1 hi hv0 (k v hv E A p e_ R s m args below meth c cells slots Q F K H locs lsA hP hD hS hl)
theorem g_bipush {n : Int} {v : Int32} (hi : Dc d pc (.bipush n) 2 nx) (hv0 : (Int8.ofInt n).toInt32 = v) (k : G l sc D d nx ls (.int v :: st) σ o mk) : G l sc D d pc ls (st) σ o mk := by
  obtain ⟨hi, rfl⟩ := hi
  intro v hv E A p e_ R s m args below meth c cells slots Q F K H locs lsA hP hD hS hl
  exact lv_bipush F.1 F.2.1 hi hv0 (k v hv E A p e_ R s m args below meth c cells slots Q F K H locs lsA hP hD hS hl)
theorem g_sipush {n : Int} {v : Int32} (hi : Dc d pc (.sipush n) 3 nx) (hv0 : (Int16.ofInt n).toInt32 = v) (k : G l sc D d nx ls (.int v :: st) σ o mk) : G l sc D d pc ls (st) σ o mk := by
  obtain ⟨hi, rfl⟩ := hi
  intro v hv E A p e_ R s m args below meth c cells slots Q F K H locs lsA hP hD hS hl
  exact lv_sipush F.1 F.2.1 hi hv0 (k v hv E A p e_ R s m args below meth c cells slots Q F K H locs lsA hP hD hS hl)
theorem g_ldc {idx : Nat} {v : Int32} (hi : Dc d pc (.ldc idx) 2 nx) (hw : Cond.constant d.1.cls idx v ∈ allW) (k : G l sc D d nx ls (.int v :: st) σ o mk) : G l sc D d pc ls st σ o mk := by
  obtain ⟨hi, rfl⟩ := hi
  intro v0 hv E A p e_ R s m args below meth c cells slots Q F K H locs lsA hP hD hS hl
  exact lv_ldc F.1 F.2.1 F.2.2.2.1 (F.2.2.2.2.1 _ hw) hi (k v0 hv E A p e_ R s m args below meth c cells slots Q F K H locs lsA hP hD hS hl)
theorem g_ldcw {idx : Nat} {v : Int32} (hi : Dc d pc (.ldc_w idx) 3 nx) (hw : Cond.constant d.1.cls idx v ∈ allW) (k : G l sc D d nx ls (.int v :: st) σ o mk) : G l sc D d pc ls st σ o mk := by
  obtain ⟨hi, rfl⟩ := hi
  intro v0 hv E A p e_ R s m args below meth c cells slots Q F K H locs lsA hP hD hS hl
  exact lv_ldcw F.1 F.2.1 F.2.2.2.1 (F.2.2.2.2.1 _ hw) hi (k v0 hv E A p e_ R s m args below meth c cells slots Q F K H locs lsA hP hD hS hl)
theorem g_ldc2 {idx : Nat} {v : Int64} (hi : Dc d pc (.ldc2_w idx) 3 nx) (hw : Cond.constantLong d.1.cls idx v ∈ allW) (k : G l sc D d nx ls (.long v :: st) σ o mk) : G l sc D d pc ls st σ o mk := by
  obtain ⟨hi, rfl⟩ := hi
  intro v0 hv E A p e_ R s m args below meth c cells slots Q F K H locs lsA hP hD hS hl
  exact lv_ldc2 F.1 F.2.1 F.2.2.2.1 (F.2.2.2.2.1 _ hw) hi (k v0 hv E A p e_ R s m args below meth c cells slots Q F K H locs lsA hP hD hS hl)
theorem g_iload_n {i n : Nat} {x : Int32} {j : Fin 4} (hi : Dc d pc (.iload_n j) 1 nx) (hj : (j : Nat) = i) (hk : ls[n]? = some (i, .int x)) (k : G l sc D d nx ls (.int x :: st) σ o mk) : G l sc D d pc ls st σ o mk := by
  obtain ⟨hi, rfl⟩ := hi
  intro v hv E A p e_ R s m args below meth c cells slots Q F K H locs lsA hP hD hS hl
  exact lv_iload_n F.1 F.2.1 hi hj (loc_at hl hk) (k v hv E A p e_ R s m args below meth c cells slots Q F K H locs lsA hP hD hS hl)
theorem g_iload {i n : Nat} {x : Int32}  (hi : Dc d pc (.iload i) 2 nx)  (hk : ls[n]? = some (i, .int x)) (k : G l sc D d nx ls (.int x :: st) σ o mk) : G l sc D d pc ls st σ o mk := by
  obtain ⟨hi, rfl⟩ := hi
  intro v hv E A p e_ R s m args below meth c cells slots Q F K H locs lsA hP hD hS hl
  exact lv_iload F.1 F.2.1 hi  (loc_at hl hk) (k v hv E A p e_ R s m args below meth c cells slots Q F K H locs lsA hP hD hS hl)
theorem g_lload {i n : Nat} {x : Int64}  (hi : Dc d pc (.lload i) 2 nx)  (hk : ls[n]? = some (i, .long x)) (k : G l sc D d nx ls (.long x :: st) σ o mk) : G l sc D d pc ls st σ o mk := by
  obtain ⟨hi, rfl⟩ := hi
  intro v hv E A p e_ R s m args below meth c cells slots Q F K H locs lsA hP hD hS hl
  exact lv_lload F.1 F.2.1 hi  (loc_at hl hk) (k v hv E A p e_ R s m args below meth c cells slots Q F K H locs lsA hP hD hS hl)
theorem g_aload_n {i n : Nat} {x : Nat} {j : Fin 4} (hi : Dc d pc (.aload_n j) 1 nx) (hj : (j : Nat) = i) (hk : ls[n]? = some (i, .ref x)) (k : G l sc D d nx ls (.ref x :: st) σ o mk) : G l sc D d pc ls st σ o mk := by
  obtain ⟨hi, rfl⟩ := hi
  intro v hv E A p e_ R s m args below meth c cells slots Q F K H locs lsA hP hD hS hl
  exact lv_aload_n F.1 F.2.1 hi hj (loc_at hl hk) (k v hv E A p e_ R s m args below meth c cells slots Q F K H locs lsA hP hD hS hl)
theorem g_aload {i n : Nat} {x : Nat}  (hi : Dc d pc (.aload i) 2 nx)  (hk : ls[n]? = some (i, .ref x)) (k : G l sc D d nx ls (.ref x :: st) σ o mk) : G l sc D d pc ls st σ o mk := by
  obtain ⟨hi, rfl⟩ := hi
  intro v hv E A p e_ R s m args below meth c cells slots Q F K H locs lsA hP hD hS hl
  exact lv_aload F.1 F.2.1 hi  (loc_at hl hk) (k v hv E A p e_ R s m args below meth c cells slots Q F K H locs lsA hP hD hS hl)
theorem g_istore_n {i : Nat} {x : Int32} {j : Fin 4} (hi : Dc d pc (.istore_n j) 1 nx) (hj : (j : Nat) = i) (hn : i < d.2.2.1) (hl0 : ((i, Value.int x) :: ls.filter (fun q => !(q.1 == i) && !(q.1 + 1 == i && q.2.category == 2))) = ls') (k : G l sc D d nx ls' st σ o mk) : G l sc D d pc ls (.int x :: st) σ o mk := by
  obtain ⟨hi, rfl⟩ := hi
  intro v hv E A p e_ R s m args below meth c cells slots Q F K H locs lsA hP hD hS hl
  subst hl0
  exact lv_istore_n F.1 F.2.1 hi hj hl hn rfl (fun lsB hlB => k v hv E A p e_ R s m args below meth c cells slots Q F K H locs lsB hP hD hS  (by rw [st_map1] at hlB; exact hlB))
theorem g_istore {i : Nat} {x : Int32}  (hi : Dc d pc (.istore i) 2 nx)  (hn : i < d.2.2.1) (hl0 : ((i, Value.int x) :: ls.filter (fun q => !(q.1 == i) && !(q.1 + 1 == i && q.2.category == 2))) = ls') (k : G l sc D d nx ls' st σ o mk) : G l sc D d pc ls (.int x :: st) σ o mk := by
  obtain ⟨hi, rfl⟩ := hi
  intro v hv E A p e_ R s m args below meth c cells slots Q F K H locs lsA hP hD hS hl
  subst hl0
  exact lv_istore F.1 F.2.1 hi  hl hn rfl (fun lsB hlB => k v hv E A p e_ R s m args below meth c cells slots Q F K H locs lsB hP hD hS  (by rw [st_map1] at hlB; exact hlB))
theorem g_astore_n {i : Nat} {x : Nat} {j : Fin 4} (hi : Dc d pc (.astore_n j) 1 nx) (hj : (j : Nat) = i) (hn : i < d.2.2.1) (hl0 : ((i, Value.ref x) :: ls.filter (fun q => !(q.1 == i) && !(q.1 + 1 == i && q.2.category == 2))) = ls') (k : G l sc D d nx ls' st σ o mk) : G l sc D d pc ls (.ref x :: st) σ o mk := by
  obtain ⟨hi, rfl⟩ := hi
  intro v hv E A p e_ R s m args below meth c cells slots Q F K H locs lsA hP hD hS hl
  subst hl0
  exact lv_astore_n F.1 F.2.1 hi hj hl hn rfl (fun lsB hlB => k v hv E A p e_ R s m args below meth c cells slots Q F K H locs lsB hP hD hS  (by rw [st_map1] at hlB; exact hlB))
theorem g_astore {i : Nat} {x : Nat}  (hi : Dc d pc (.astore i) 2 nx)  (hn : i < d.2.2.1) (hl0 : ((i, Value.ref x) :: ls.filter (fun q => !(q.1 == i) && !(q.1 + 1 == i && q.2.category == 2))) = ls') (k : G l sc D d nx ls' st σ o mk) : G l sc D d pc ls (.ref x :: st) σ o mk := by
  obtain ⟨hi, rfl⟩ := hi
  intro v hv E A p e_ R s m args below meth c cells slots Q F K H locs lsA hP hD hS hl
  subst hl0
  exact lv_astore F.1 F.2.1 hi  hl hn rfl (fun lsB hlB => k v hv E A p e_ R s m args below meth c cells slots Q F K H locs lsB hP hD hS  (by rw [st_map1] at hlB; exact hlB))
theorem g_lstore {i : Nat} {x : Int64} (hi : Dc d pc (.lstore i) 2 nx) (hn : i + 1 < d.2.2.1) (hl0 : ((i, Value.long x) :: ls.filter (fun q => !(q.1 == i) && (!(q.1 == i + 1) && !(q.1 + 1 == i && q.2.category == 2)))) = ls') (k : G l sc D d nx ls' st σ o mk) : G l sc D d pc ls (.long x :: st) σ o mk := by
  obtain ⟨hi, rfl⟩ := hi
  intro v hv E A p e_ R s m args below meth c cells slots Q F K H locs lsA hP hD hS hl
  subst hl0
  exact lv_lstore F.1 F.2.1 hi hl hn rfl (fun lsB hlB => k v hv E A p e_ R s m args below meth c cells slots Q F K H locs lsB hP hD hS  (by rw [st_map2] at hlB; exact hlB))
theorem g_iinc {i n : Nat} {z : Int} {x w : Int32} (hi : Dc d pc (.iinc i z) 3 nx) (hk : ls[n]? = some (i, .int x)) (hw : Int32.ofInt z = w) (hn : i < d.2.2.1) (hl0 : ((i, Value.int (x + w)) :: ls.filter (fun q => !(q.1 == i) && !(q.1 + 1 == i && q.2.category == 2))) = ls') (k : G l sc D d nx ls' st σ o mk) : G l sc D d pc ls st σ o mk := by
  obtain ⟨hi, rfl⟩ := hi
  intro v hv E A p e_ R s m args below meth c cells slots Q F K H locs lsA hP hD hS hl
  subst hl0; subst hw
  exact lv_iinc (k := n) (v := x + Int32.ofInt z) F.1 F.2.1 hi hl (by rw [List.getElem?_map, hk]; rfl) rfl hn rfl (fun lsB hlB => k v hv E A p e_ R s m args below meth c cells slots Q F K H locs lsB hP hD hS  (by rw [st_map1] at hlB; exact hlB))
theorem g_dup {a : Value} (hi : Dc d pc .dup 1 nx) (ha : a.category = 1) (k : G l sc D d nx ls (a :: a :: st) σ o mk) : G l sc D d pc ls (a :: st) σ o mk := by
  obtain ⟨hi, rfl⟩ := hi
  intro v hv E A p e_ R s m args below meth c cells slots Q F K H locs lsA hP hD hS hl
  exact lv_dup F.1 F.2.1 hi (by rw [cv_cat]; exact ha) (k v hv E A p e_ R s m args below meth c cells slots Q F K H locs lsA hP hD hS hl)
theorem g_dup2 {a b : Value} (hi : Dc d pc .dup2 1 nx) (ha : a.category = 1) (hb : b.category = 1) (k : G l sc D d nx ls (a :: b :: a :: b :: st) σ o mk) : G l sc D d pc ls (a :: b :: st) σ o mk := by
  obtain ⟨hi, rfl⟩ := hi
  intro v hv E A p e_ R s m args below meth c cells slots Q F K H locs lsA hP hD hS hl
  exact lv_dup2_11 F.1 F.2.1 hi (by rw [cv_cat]; exact ha) (by rw [cv_cat]; exact hb) (k v hv E A p e_ R s m args below meth c cells slots Q F K H locs lsA hP hD hS hl)
theorem g_pop {a : Value} (hi : Dc d pc .pop 1 nx) (ha : a.category = 1) (k : G l sc D d nx ls st σ o mk) : G l sc D d pc ls (a :: st) σ o mk := by
  obtain ⟨hi, rfl⟩ := hi
  intro v hv E A p e_ R s m args below meth c cells slots Q F K H locs lsA hP hD hS hl
  exact lv_pop F.1 F.2.1 hi (by rw [cv_cat]; exact ha) (k v hv E A p e_ R s m args below meth c cells slots Q F K H locs lsA hP hD hS hl)
theorem g_goto {off : Int} {tgt : Nat} (hi : Dc d pc (.goto off) 3 nx) (ht : (pc : Int) + off = (tgt : Int)) (k : G l sc D d tgt ls st σ o mk) : G l sc D d pc ls st σ o mk := by
  obtain ⟨hi, rfl⟩ := hi
  intro v hv E A p e_ R s m args below meth c cells slots Q F K H locs lsA hP hD hS hl
  exact lv_goto F.1 F.2.1 hi ht (k v hv E A p e_ R s m args below meth c cells slots Q F K H locs lsA hP hD hS hl)
theorem g_if_eq {x : Int32} {off : Int} {tgt : Nat} {o2 : Option α} (hi : Dc d pc (.ifCond .eq off) 3 nx) (ht : (pc : Int) + off = (tgt : Int)) (kt : x = 0 → G l sc D d tgt ls st σ o mk) (kf : ¬ x = 0 → G l sc D d nx ls st σ o2 mk) : G l sc D d pc ls (.int x :: st) σ (if x = 0 then o else o2) mk := by
  obtain ⟨hi, rfl⟩ := hi
  intro v hv E A p e_ R s m args below meth c cells slots Q F K H locs lsA hP hD hS hl
  refine lv_if_eq F.1 F.2.1 hi ht (fun h => kt h v ?_ E A p e_ R s m args below meth c cells slots Q F K H locs lsA hP hD hS hl) (fun h => kf h v ?_ E A p e_ R s m args below meth c cells slots Q F K H locs lsA hP hD hS hl)
  · rw [if_pos h] at hv; exact hv
  · rw [if_neg h] at hv; exact hv
theorem g_icmp_eq {x y : Int32} {off : Int} {tgt : Nat} {o2 : Option α} (hi : Dc d pc (.if_icmp .eq off) 3 nx) (ht : (pc : Int) + off = (tgt : Int)) (kt : x = y → G l sc D d tgt ls st σ o mk) (kf : ¬ x = y → G l sc D d nx ls st σ o2 mk) : G l sc D d pc ls (.int y :: .int x :: st) σ (if x = y then o else o2) mk := by
  obtain ⟨hi, rfl⟩ := hi
  intro v hv E A p e_ R s m args below meth c cells slots Q F K H locs lsA hP hD hS hl
  refine lv_icmp_eq F.1 F.2.1 hi ht (fun h => kt h v ?_ E A p e_ R s m args below meth c cells slots Q F K H locs lsA hP hD hS hl) (fun h => kf h v ?_ E A p e_ R s m args below meth c cells slots Q F K H locs lsA hP hD hS hl)
  · rw [if_pos h] at hv; exact hv
  · rw [if_neg h] at hv; exact hv
theorem g_if_ne {x : Int32} {off : Int} {tgt : Nat} {o2 : Option α} (hi : Dc d pc (.ifCond .ne off) 3 nx) (ht : (pc : Int) + off = (tgt : Int)) (kt : ¬ x = 0 → G l sc D d tgt ls st σ o mk) (kf : x = 0 → G l sc D d nx ls st σ o2 mk) : G l sc D d pc ls (.int x :: st) σ (if x = 0 then o2 else o) mk := by
  obtain ⟨hi, rfl⟩ := hi
  intro v hv E A p e_ R s m args below meth c cells slots Q F K H locs lsA hP hD hS hl
  refine lv_if_ne F.1 F.2.1 hi ht (fun h => kt h v ?_ E A p e_ R s m args below meth c cells slots Q F K H locs lsA hP hD hS hl) (fun h => kf h v ?_ E A p e_ R s m args below meth c cells slots Q F K H locs lsA hP hD hS hl)
  · rw [if_neg h] at hv; exact hv
  · rw [if_pos h] at hv; exact hv
theorem g_icmp_ne {x y : Int32} {off : Int} {tgt : Nat} {o2 : Option α} (hi : Dc d pc (.if_icmp .ne off) 3 nx) (ht : (pc : Int) + off = (tgt : Int)) (kt : ¬ x = y → G l sc D d tgt ls st σ o mk) (kf : x = y → G l sc D d nx ls st σ o2 mk) : G l sc D d pc ls (.int y :: .int x :: st) σ (if x = y then o2 else o) mk := by
  obtain ⟨hi, rfl⟩ := hi
  intro v hv E A p e_ R s m args below meth c cells slots Q F K H locs lsA hP hD hS hl
  refine lv_icmp_ne F.1 F.2.1 hi ht (fun h => kt h v ?_ E A p e_ R s m args below meth c cells slots Q F K H locs lsA hP hD hS hl) (fun h => kf h v ?_ E A p e_ R s m args below meth c cells slots Q F K H locs lsA hP hD hS hl)
  · rw [if_neg h] at hv; exact hv
  · rw [if_pos h] at hv; exact hv
theorem g_if_lt {x : Int32} {off : Int} {tgt : Nat} {o2 : Option α} (hi : Dc d pc (.ifCond .lt off) 3 nx) (ht : (pc : Int) + off = (tgt : Int)) (kt : x < 0 → G l sc D d tgt ls st σ o mk) (kf : ¬ x < 0 → G l sc D d nx ls st σ o2 mk) : G l sc D d pc ls (.int x :: st) σ (if x < 0 then o else o2) mk := by
  obtain ⟨hi, rfl⟩ := hi
  intro v hv E A p e_ R s m args below meth c cells slots Q F K H locs lsA hP hD hS hl
  refine lv_if_lt F.1 F.2.1 hi ht (fun h => kt h v ?_ E A p e_ R s m args below meth c cells slots Q F K H locs lsA hP hD hS hl) (fun h => kf h v ?_ E A p e_ R s m args below meth c cells slots Q F K H locs lsA hP hD hS hl)
  · rw [if_pos h] at hv; exact hv
  · rw [if_neg h] at hv; exact hv
theorem g_icmp_lt {x y : Int32} {off : Int} {tgt : Nat} {o2 : Option α} (hi : Dc d pc (.if_icmp .lt off) 3 nx) (ht : (pc : Int) + off = (tgt : Int)) (kt : x < y → G l sc D d tgt ls st σ o mk) (kf : ¬ x < y → G l sc D d nx ls st σ o2 mk) : G l sc D d pc ls (.int y :: .int x :: st) σ (if x < y then o else o2) mk := by
  obtain ⟨hi, rfl⟩ := hi
  intro v hv E A p e_ R s m args below meth c cells slots Q F K H locs lsA hP hD hS hl
  refine lv_icmp_lt F.1 F.2.1 hi ht (fun h => kt h v ?_ E A p e_ R s m args below meth c cells slots Q F K H locs lsA hP hD hS hl) (fun h => kf h v ?_ E A p e_ R s m args below meth c cells slots Q F K H locs lsA hP hD hS hl)
  · rw [if_pos h] at hv; exact hv
  · rw [if_neg h] at hv; exact hv
theorem g_if_ge {x : Int32} {off : Int} {tgt : Nat} {o2 : Option α} (hi : Dc d pc (.ifCond .ge off) 3 nx) (ht : (pc : Int) + off = (tgt : Int)) (kt : 0 ≤ x → G l sc D d tgt ls st σ o mk) (kf : ¬ 0 ≤ x → G l sc D d nx ls st σ o2 mk) : G l sc D d pc ls (.int x :: st) σ (if 0 ≤ x then o else o2) mk := by
  obtain ⟨hi, rfl⟩ := hi
  intro v hv E A p e_ R s m args below meth c cells slots Q F K H locs lsA hP hD hS hl
  refine lv_if_ge F.1 F.2.1 hi ht (fun h => kt h v ?_ E A p e_ R s m args below meth c cells slots Q F K H locs lsA hP hD hS hl) (fun h => kf h v ?_ E A p e_ R s m args below meth c cells slots Q F K H locs lsA hP hD hS hl)
  · rw [if_pos h] at hv; exact hv
  · rw [if_neg h] at hv; exact hv
theorem g_icmp_ge {x y : Int32} {off : Int} {tgt : Nat} {o2 : Option α} (hi : Dc d pc (.if_icmp .ge off) 3 nx) (ht : (pc : Int) + off = (tgt : Int)) (kt : y ≤ x → G l sc D d tgt ls st σ o mk) (kf : ¬ y ≤ x → G l sc D d nx ls st σ o2 mk) : G l sc D d pc ls (.int y :: .int x :: st) σ (if y ≤ x then o else o2) mk := by
  obtain ⟨hi, rfl⟩ := hi
  intro v hv E A p e_ R s m args below meth c cells slots Q F K H locs lsA hP hD hS hl
  refine lv_icmp_ge F.1 F.2.1 hi ht (fun h => kt h v ?_ E A p e_ R s m args below meth c cells slots Q F K H locs lsA hP hD hS hl) (fun h => kf h v ?_ E A p e_ R s m args below meth c cells slots Q F K H locs lsA hP hD hS hl)
  · rw [if_pos h] at hv; exact hv
  · rw [if_neg h] at hv; exact hv
theorem g_if_gt {x : Int32} {off : Int} {tgt : Nat} {o2 : Option α} (hi : Dc d pc (.ifCond .gt off) 3 nx) (ht : (pc : Int) + off = (tgt : Int)) (kt : 0 < x → G l sc D d tgt ls st σ o mk) (kf : ¬ 0 < x → G l sc D d nx ls st σ o2 mk) : G l sc D d pc ls (.int x :: st) σ (if 0 < x then o else o2) mk := by
  obtain ⟨hi, rfl⟩ := hi
  intro v hv E A p e_ R s m args below meth c cells slots Q F K H locs lsA hP hD hS hl
  refine lv_if_gt F.1 F.2.1 hi ht (fun h => kt h v ?_ E A p e_ R s m args below meth c cells slots Q F K H locs lsA hP hD hS hl) (fun h => kf h v ?_ E A p e_ R s m args below meth c cells slots Q F K H locs lsA hP hD hS hl)
  · rw [if_pos h] at hv; exact hv
  · rw [if_neg h] at hv; exact hv
theorem g_icmp_gt {x y : Int32} {off : Int} {tgt : Nat} {o2 : Option α} (hi : Dc d pc (.if_icmp .gt off) 3 nx) (ht : (pc : Int) + off = (tgt : Int)) (kt : y < x → G l sc D d tgt ls st σ o mk) (kf : ¬ y < x → G l sc D d nx ls st σ o2 mk) : G l sc D d pc ls (.int y :: .int x :: st) σ (if y < x then o else o2) mk := by
  obtain ⟨hi, rfl⟩ := hi
  intro v hv E A p e_ R s m args below meth c cells slots Q F K H locs lsA hP hD hS hl
  refine lv_icmp_gt F.1 F.2.1 hi ht (fun h => kt h v ?_ E A p e_ R s m args below meth c cells slots Q F K H locs lsA hP hD hS hl) (fun h => kf h v ?_ E A p e_ R s m args below meth c cells slots Q F K H locs lsA hP hD hS hl)
  · rw [if_pos h] at hv; exact hv
  · rw [if_neg h] at hv; exact hv
theorem g_if_le {x : Int32} {off : Int} {tgt : Nat} {o2 : Option α} (hi : Dc d pc (.ifCond .le off) 3 nx) (ht : (pc : Int) + off = (tgt : Int)) (kt : x ≤ 0 → G l sc D d tgt ls st σ o mk) (kf : ¬ x ≤ 0 → G l sc D d nx ls st σ o2 mk) : G l sc D d pc ls (.int x :: st) σ (if x ≤ 0 then o else o2) mk := by
  obtain ⟨hi, rfl⟩ := hi
  intro v hv E A p e_ R s m args below meth c cells slots Q F K H locs lsA hP hD hS hl
  refine lv_if_le F.1 F.2.1 hi ht (fun h => kt h v ?_ E A p e_ R s m args below meth c cells slots Q F K H locs lsA hP hD hS hl) (fun h => kf h v ?_ E A p e_ R s m args below meth c cells slots Q F K H locs lsA hP hD hS hl)
  · rw [if_pos h] at hv; exact hv
  · rw [if_neg h] at hv; exact hv
theorem g_icmp_le {x y : Int32} {off : Int} {tgt : Nat} {o2 : Option α} (hi : Dc d pc (.if_icmp .le off) 3 nx) (ht : (pc : Int) + off = (tgt : Int)) (kt : x ≤ y → G l sc D d tgt ls st σ o mk) (kf : ¬ x ≤ y → G l sc D d nx ls st σ o2 mk) : G l sc D d pc ls (.int y :: .int x :: st) σ (if x ≤ y then o else o2) mk := by
  obtain ⟨hi, rfl⟩ := hi
  intro v hv E A p e_ R s m args below meth c cells slots Q F K H locs lsA hP hD hS hl
  refine lv_icmp_le F.1 F.2.1 hi ht (fun h => kt h v ?_ E A p e_ R s m args below meth c cells slots Q F K H locs lsA hP hD hS hl) (fun h => kf h v ?_ E A p e_ R s m args below meth c cells slots Q F K H locs lsA hP hD hS hl)
  · rw [if_pos h] at hv; exact hv
  · rw [if_neg h] at hv; exact hv
theorem g_iret {w : Int32} {z : α} (hi : Dc d pc .ireturn 1 nx) (hb0 : d.2.2.2 = some .int ∨ (d.2.2.2 = some .boolean ∧ isBv w = true)) (hm : mk z = (some (.int w), σ)) : G l sc D d pc ls [.int w] σ (some z) mk := by
  obtain ⟨hi, -⟩ := hi
  intro v hv E A p e_ R s m args below meth c cells slots Q F K H locs lsA hP hD hS hl
  cases hv
  rw [hm] at K
  exact K pc lsA H locs hP hD hS ⟨hi, hb0⟩
theorem g_vret {z : α} (hi : Dc d pc .return_ 1 nx) (hb0 : d.2.2.2 = none) (hm : mk z = (none, σ)) : G l sc D d pc ls [] σ (some z) mk := by
  obtain ⟨hi, -⟩ := hi
  intro v hv E A p e_ R s m args below meth c cells slots Q F K H locs lsA hP hD hS hl
  cases hv
  rw [hm] at K
  exact K pc lsA H locs hP hD hS ⟨hi, hb0⟩
theorem g_aret {w : Nat} {z : α} (hi : Dc d pc .areturn 1 nx) (hb0 : ∃ C, d.2.2.2 = some (.object C)) (hm : mk z = (some (.ref w), σ)) : G l sc D d pc ls [.ref w] σ (some z) mk := by
  obtain ⟨hi, -⟩ := hi
  intro v hv E A p e_ R s m args below meth c cells slots Q F K H locs lsA hP hD hS hl
  cases hv
  rw [hm] at K
  exact K pc lsA H locs hP hD hS ⟨hi, hb0⟩
theorem g_iaload {a n : Nat} {i : Int32} (hi : Dc d pc .iaload 1 nx) (hs : shp a = shA n) (k : inB i n = true → G l sc D d nx ls (.int (σ a i.toNatClampNeg) :: st) σ o mk) : G l sc D d pc ls (.int i :: .ref a :: st) σ (if inB i n = true then o else none) mk := by
  refine g_guard (fun hb => ?_)
  obtain ⟨hi, rfl⟩ := hi
  intro v hv E A p e_ R s m args below meth c cells slots Q F K H locs lsA hP hD hS hl
  exact va_iald F.1 F.2.1 F.2.2.2.2.2.2.1 hP a 0 (wld_arr hs) rfl (inB_in hb) hi (k hb v hv E A p e_ R s m args below meth c cells slots Q F K H locs lsA hP hD hS hl)
theorem g_baload {a n : Nat} {i : Int32} (hi : Dc d pc .baload 1 nx) (hs : shp a = (1, n, [])) (k : inB i n = true → G l sc D d nx ls (.int (σ a i.toNatClampNeg) :: st) σ o mk) : G l sc D d pc ls (.int i :: .ref a :: st) σ (if inB i n = true then o else none) mk := by
  refine g_guard (fun hb => ?_)
  obtain ⟨hi, rfl⟩ := hi
  intro v hv E A p e_ R s m args below meth c cells slots Q F K H locs lsA hP hD hS hl
  exact va_zald F.1 F.2.1 F.2.2.2.2.2.2.1 hP a 1 (wld_barr hs) rfl (inB_in hb) hi (k hb v hv E A p e_ R s m args below meth c cells slots Q F K H locs lsA hP hD hS hl)
theorem g_aaload {a n b : Nat} {i : Int32} (hi : Dc d pc .aaload 1 nx) (hs : shp a = (3, n, [(0, b)])) (k : inB i n = true → G l sc D d nx ls (.ref (b + i.toNatClampNeg) :: st) σ o mk) : G l sc D d pc ls (.int i :: .ref a :: st) σ (if inB i n = true then o else none) mk := by
  refine g_guard (fun hb => ?_)
  obtain ⟨hi, rfl⟩ := hi
  intro v hv E A p e_ R s m args below meth c cells slots Q F K H locs lsA hP hD hS hl
  have hlt : i.toNatClampNeg < n := Nat.not_le.mp fun q => inB_in hb (Or.inr q)
  exact W.aald (v := va_rf (some (E.1 (b + i.toNatClampNeg)))) (ty := .array .int) F.1 F.2.1 (hP a _ (wld_rows hs)) ((F.2.2.2.2.2.2.1.2 2 _ rfl).1 n (fun j => va_rf (some (E.1 (b + j))))) rfl (fun q => by cases q) (by show ¬ (i < 0 ∨ (arrV _ _ _).slots.size ≤ _); rw [arrV_size]; exact inB_in hb) (by show (arrV _ _ _).slots[_]? = _; rw [arrV_read _ _ hlt]) rfl rfl hi (k hb v hv E A p e_ R s m args below meth c cells slots Q F K H locs lsA hP hD hS hl)
theorem g_alen {a n : Nat} {v : Int32} (hi : Dc d pc .arraylength 1 nx) (hs : shp a = shA n) (hv0 : Int32.ofNat n = v) (k : G l sc D d nx ls (.int v :: st) σ o mk) : G l sc D d pc ls (.ref a :: st) σ o mk := by
  obtain ⟨hi, rfl⟩ := hi
  intro v0 hv E A p e_ R s m args below meth c cells slots Q F K H locs lsA hP hD hS hl
  exact va_alen F.1 F.2.1 F.2.2.2.2.2.2.1 hP a 0 (wld_arr hs) rfl hv0 hi (k v0 hv E A p e_ R s m args below meth c cells slots Q F K H locs lsA hP hD hS hl)
theorem g_iastore {a n : Nat} {i x : Int32} (hi : Dc d pc .iastore 1 nx) (hs : shp a = shA n) (k : inB i n = true → G l sc D d nx ls st (mset σ a i.toNatClampNeg x) o mk) : G l sc D d pc ls (.int x :: .int i :: .ref a :: st) σ (if inB i n = true then o else none) mk := by
  refine g_guard (fun hb => ?_)
  obtain ⟨hi, rfl⟩ := hi
  intro v hv E A p e_ R s m args below meth c cells slots Q F K H locs lsA hP hD hS hl
  refine va_iast F.1 F.2.1 F.2.2.2.2.2.2.1 hP hD hS a 0 (wld_arr hs) rfl (inB_in hb) hi (fun H1 locs1 hP1 hD1 hS1 => ?_)
  have e := wld_set (E := E) (σ := σ) (τ := mset σ a i.toNatClampNeg x) (a := a) (e := .inl (E.2.1 0, n, .inl (upd (σ a) i.toNatClampNeg x))) (shp_lt (by rw [hs]; simp [shA])) mset_ne (by rw [hs]; show _ = Sum.inl _; rw [mset_row]; rfl)
  rw [e] at hP1 hD1
  exact k hb v hv E A p e_ R s m args below meth c cells slots Q F K H1 locs1 lsA hP1 hD1 hS1 hl
theorem g_bastore {a n : Nat} {i x : Int32} (hi : Dc d pc .bastore 1 nx) (hs : shp a = (1, n, [])) (hx : vp_nar .boolean x = x) (k : inB i n = true → G l sc D d nx ls st (mset σ a i.toNatClampNeg x) o mk) : G l sc D d pc ls (.int x :: .int i :: .ref a :: st) σ (if inB i n = true then o else none) mk := by
  refine g_guard (fun hb => ?_)
  obtain ⟨hi, rfl⟩ := hi
  intro v hv E A p e_ R s m args below meth c cells slots Q F K H locs lsA hP hD hS hl
  refine va_zast F.1 F.2.1 F.2.2.2.2.2.2.1 hP hD hS a 1 (wld_barr hs) rfl (inB_in hb) hi (fun H1 locs1 hP1 hD1 hS1 => ?_)
  rw [hx] at hP1 hD1
  have e := wld_set (E := E) (σ := σ) (τ := mset σ a i.toNatClampNeg x) (a := a) (e := .inl (E.2.1 1, n, .inl (upd (σ a) i.toNatClampNeg x))) (shp_lt (by rw [hs]; simp)) mset_ne (by rw [hs]; show _ = Sum.inl _; rw [mset_row])
  rw [e] at hP1 hD1
  exact k hb v hv E A p e_ R s m args below meth c cells slots Q F K H1 locs1 lsA hP1 hD1 hS1 hl
theorem fld_get {a ci k : Nat} {ks : List (Nat × Nat)} {q : Nat × Nat} {E : HE} (hq : ks[k]? = some q) : (ks.mapIdx (fun j q => cfield E σ a j q))[k]? = some (cfield E σ a k q) := by
  rw [List.getElem?_mapIdx, hq]; rfl
theorem g_getv {a ci n idx : Nat} {ks : List (Nat × Nat)} {q : Nat × Nat} {z : FieldType} {fin nest : Bool} {w : Value} (hi : Dc d pc (.getfield idx) 3 nx) (hf : FLd d.1.cls idx ci n z fin nest) (hs : shp a = (2, ci, ks)) (hq : ks[n]? = some q) (hw : ∀ E : HE, cfield E σ a n q = cv E w) (k : G l sc D d nx ls (w :: st) σ o mk) : G l sc D d pc ls (.ref a :: st) σ o mk := by
  obtain ⟨hi, rfl⟩ := hi
  intro v hv E A p e_ R s m args below meth c cells slots Q F K H locs lsA hP hD hS hl
  obtain ⟨C, T, N, ty, ⟨h1, h2, h3, h4⟩, hn, -, -, hlk⟩ := hf
  have hv1 := fld_get (σ := σ) (a := a) (ci := ci) (E := E) hq
  rw [hw E] at hv1
  cases nest with
  | false => exact va_get F.1 F.2.1 F.2.2.2.2.1 h2 F.2.2.2.1 F.2.2.2.2.2.2.1 hP a (wld_obj hs) h1 n hn (F.2.2.2.2.1 _ hlk) (fun _ h => h) hv1 hi (k v hv E A p e_ R s m args below meth c cells slots Q F K H locs lsA hP hD hS hl)
  | true =>
    obtain ⟨host, hlk⟩ := hlk
    exact va_getN F.1 F.2.1 F.2.2.2.2.1 h2 F.2.2.2.1 F.2.2.2.2.2.2.1 hP a (wld_obj hs) h1 n hn (va_Nw.use rfl (F.2.2.2.2.2.1 _ hlk)) (fun _ h => h) hv1 hi (k v hv E A p e_ R s m args below meth c cells slots Q F K H locs lsA hP hD hS hl)
theorem g_geti {a ci n idx : Nat} {ks : List (Nat × Nat)} {z : FieldType} {fin nest : Bool} (hi : Dc d pc (.getfield idx) 3 nx) (hf : FLd d.1.cls idx ci n z fin nest) (hs : shp a = (2, ci, ks)) (hq : ks[n]? = some (0, 0)) (k : G l sc D d nx ls (.int (σ a n) :: st) σ o mk) : G l sc D d pc ls (.ref a :: st) σ o mk := g_getv hi hf hs hq (fun _ => rfl) k
theorem g_getr {a ci n idx b : Nat} {ks : List (Nat × Nat)} {z : FieldType} {fin nest : Bool} (hi : Dc d pc (.getfield idx) 3 nx) (hf : FLd d.1.cls idx ci n z fin nest) (hs : shp a = (2, ci, ks)) (hq : ks[n]? = some (1, b)) (k : G l sc D d nx ls (.ref b :: st) σ o mk) : G l sc D d pc ls (.ref a :: st) σ o mk := g_getv hi hf hs hq (fun _ => rfl) k
theorem g_getm {a ci n idx : Nat} {ks : List (Nat × Nat)} {z : FieldType} {fin nest : Bool} (hi : Dc d pc (.getfield idx) 3 nx) (hf : FLd d.1.cls idx ci n z fin nest) (hs : shp a = (2, ci, ks)) (hq : ks[n]? = some (2, 0)) (k : G l sc D d nx ls (.ref (σ a n).toNatClampNeg :: st) σ o mk) : G l sc D d pc ls (.ref a :: st) σ o mk := g_getv hi hf hs hq (fun _ => rfl) k
theorem mapIdx_set {β γ : Type} (f g : Nat → β → γ) (L : List β) (k : Nat) (q : β) (hq : L[k]? = some q) (h : ∀ j x, j ≠ k → g j x = f j x) : (L.mapIdx f).set k (g k q) = L.mapIdx g := by
  apply List.ext_getElem?
  intro i
  by_cases hi : i = k
  · subst hi
    rw [List.getElem?_set_self (by rw [List.length_mapIdx]; exact (List.getElem?_eq_some_iff.mp hq).1), List.getElem?_mapIdx, hq]; rfl
  · rw [List.getElem?_set_ne (Ne.symm hi), List.getElem?_mapIdx, List.getElem?_mapIdx]
    cases L[i]? with
    | none => rfl
    | some x => simp [h i x hi]
theorem g_putv {a ci n idx : Nat} {ks : List (Nat × Nat)} {q : Nat × Nat} {z : FieldType} {nest : Bool} {x : Int32} {w : Value} (hi : Dc d pc (.putfield idx) 3 nx) (hf : FLd d.1.cls idx ci n z false nest) (hs : shp a = (2, ci, ks)) (hq : ks[n]? = some q) (hw : ∀ E : HE, cv E w = cfield E (mset σ a n x) a n q) (hnar : ∀ E : HE, narrow z (cv E w) = cv E w) (hfit : ∀ E : HE, fits z (cv E w) = true) (k : G l sc D d nx ls st (mset σ a n x) o mk) : G l sc D d pc ls (w :: .ref a :: st) σ o mk := by
  obtain ⟨hi, rfl⟩ := hi
  intro v hv E A p e_ R s m args below meth c cells slots Q F K H locs lsA hP hD hS hl
  obtain ⟨C, T, N, ty, ⟨h1, h2, h3, h4⟩, hn, hty, hfin, hlk⟩ := hf
  have hlen : n < (ks.mapIdx (fun j q => cfield E σ a j q)).length := by rw [List.length_mapIdx]; exact (List.getElem?_eq_some_iff.mp hq).1
  have hparse := h3 n hn
  rw [hty] at hparse
  have e := wld_set (E := E) (σ := σ) (τ := mset σ a n x) (a := a) (e := .inr (ci, (ks.mapIdx (fun j q => cfield E σ a j q)).set n (cv E w))) (shp_lt (by rw [hs]; simp)) mset_ne (by
    rw [hs, hw E, mapIdx_set (fun j q => cfield E σ a j q) (fun j q => cfield E (mset σ a n x) a j q) ks n q hq (fun j y hj => by unfold cfield; rw [mset_off hj])]; rfl)
  have kk : ∀ (H1 : Heap) (locs1 : List Loc), va_P E.2.2 vwCl ((wld E σ).set a (E.1 a, .inr (ci, (ks.mapIdx (fun j q => cfield E σ a j q)).set n (cv E w)))) H1 → va_D A ((wld E σ).set a (E.1 a, .inr (ci, (ks.mapIdx (fun j q => cfield E σ a j q)).set n (cv E w)))) → va_S A s.heap H1 locs1 → W p l e_ R s m args below meth c H1 locs1 cells slots Q (F0 m (pc + 3) lsA (st.map (cv E))) := by
    intro H1 locs1 hP1 hD1 hS1
    rw [e] at hP1 hD1
    exact k v hv E A p e_ R s m args below meth c cells slots Q F K H1 locs1 lsA hP1 hD1 hS1 hl
  cases nest with
  | false => exact va_put F.1 F.2.1 F.2.2.2.2.1 h2 ty h3 h4 F.2.2.2.1 F.2.2.2.2.2.2.1 hP hD hS a (wld_obj hs) h1 n hn (F.2.2.2.2.1 _ hlk) (fun _ h => h) hfin hparse (hnar E) (hfit E) hlen hi kk
  | true =>
    obtain ⟨host, hlk⟩ := hlk
    exact va_putN F.1 F.2.1 F.2.2.2.2.1 h2 ty h3 h4 F.2.2.2.1 F.2.2.2.2.2.2.1 hP hD hS a (wld_obj hs) h1 n hn (va_Nw.use rfl (F.2.2.2.2.2.1 _ hlk)) (fun _ h => h) hfin hparse (hnar E) (hfit E) hlen hi kk
theorem g_puti {a ci n idx : Nat} {ks : List (Nat × Nat)} {nest : Bool} {x : Int32} (hi : Dc d pc (.putfield idx) 3 nx) (hf : FLd d.1.cls idx ci n .int false nest) (hs : shp a = (2, ci, ks)) (hq : ks[n]? = some (0, 0)) (k : G l sc D d nx ls st (mset σ a n x) o mk) : G l sc D d pc ls (.int x :: .ref a :: st) σ o mk :=
  g_putv hi hf hs hq (fun E => by show Value.int x = Value.int _; rw [mset_at]) (fun _ => rfl) (fun _ => rfl) k
theorem bv_nar {x : Int32} (h : isBv x = true) : narrow .boolean (.int x) = .int x ∧ fits .boolean (.int x) = true := by
  have : x = 0 ∨ x = 1 := by simpa [isBv] using h
  rcases this with rfl | rfl <;> exact ⟨rfl, rfl⟩
theorem g_putb {a ci n idx : Nat} {ks : List (Nat × Nat)} {nest : Bool} {x : Int32} (hi : Dc d pc (.putfield idx) 3 nx) (hf : FLd d.1.cls idx ci n .boolean false nest) (hs : shp a = (2, ci, ks)) (hq : ks[n]? = some (0, 0)) (k : isBv x = true → G l sc D d nx ls st (mset σ a n x) o mk) : G l sc D d pc ls (.int x :: .ref a :: st) σ (if isBv x = true then o else none) mk :=
  g_guard (fun hb => g_putv hi hf hs hq (fun E => by show Value.int x = Value.int _; rw [mset_at]) (fun _ => (bv_nar hb).1) (fun _ => (bv_nar hb).2) (k hb))
theorem g_putm {a ci n idx b : Nat} {ks : List (Nat × Nat)} {nest : Bool} {ty : FieldType} (hi : Dc d pc (.putfield idx) 3 nx) (hf : FLd d.1.cls idx ci n (.array ty) false nest) (hs : shp a = (2, ci, ks)) (hq : ks[n]? = some (2, 0)) (hb : b < 2 ^ 31) (k : G l sc D d nx ls st (mset σ a n (Int32.ofNat b)) o mk) : G l sc D d pc ls (.ref b :: .ref a :: st) σ o mk :=
  g_putv hi hf hs hq (fun E => by show Value.ref _ = Value.ref _; rw [mset_at]; exact congrArg _ (congrArg _ (nI_clamp hb).symm)) (fun _ => rfl) (fun _ => rfl) k
end GR
end
section
/-! ===== calls, and a method out of its body ===== -/
section GC
variable {p : Program} {l : Launch} {e : Jvm.Env} {R : Room} {s : State} {m : MethodId} {args : Array Value} {below : List Frame} {meth : Method} {c : Code} {H : Heap} {locs : List Loc} {cells slots : Nat} {Q : State → Prop}
variable {pc : Nat} {lsA : Array Slot} {rest st0 : List Value} {a : Array Value} {A0 A1 : Nat → Prop} {H0 : Heap} {free : Addr → Prop}
theorem va_callg {Yv : Option Value} {B : State → Prop} (hr : va_Run p l e R s m args below meth c H locs cells slots 0 0 (F0 m pc lsA st0) rest (fun st oc t => oc = .returned Yv ∧ B t ∧ va_F A1 st t) free) (hS : va_S A0 H0 H locs) (hA : ∀ q, q < H.size → A1 q → A0 q) (hf : ∀ q, free q → A0 q)
    (kk : ∀ (t : State) (H1 : Heap) (locs1 : List Loc), t.heap = H1 → B t → va_S A0 H0 H1 locs1 → W p l e R s m args below meth c H1 locs1 cells slots Q (F0 m (pc + 3) lsA (Yv.toList ++ rest))) : W p l e R s m args below meth c H locs cells slots Q (F0 m pc lsA st0) := by
  intro T hT X
  obtain ⟨v, st₀, t, T', L, h0, X', hL, e1, e2, ⟨hv, hb, hz, hk⟩, st⟩ := hr T hT X
  cases hv
  rw [h0] at hz hk
  obtain ⟨t2, a1, b1⟩ := kk t T'.heap (locs ++ L) e1.symm hb
    ⟨Nat.le_trans hS.1 (by rw [e1]; exact hz), fun q h1 h2 => by rw [e1, hk q (Nat.lt_of_lt_of_le h1 hS.1) (fun z => h2 (hA q (Nat.lt_of_lt_of_le h1 hS.1) z))]; exact hS.2.1 q h1 h2, fun q hq => by
      rcases List.mem_append.mp hq with h | h
      · exact hS.2.2 q h
      · exact hf _ (hL q h)⟩ T' rfl X'
  exact ⟨t2, st t2 a1, b1⟩
end GC
theorem Pw_blind {E : HE} {σ : Mem} {sz : Nat} {av : List Value} : FrameBlind (va_Pc av (Pw E σ sz)) := by
  intro a U g mk h
  obtain ⟨h0, h1, h2, h3, h4, h5, h6, h7⟩ := h
  exact ⟨h0, h1, h2, va_K.moved (u := U) (U := U.calling g mk a) (Vm.Alike.refl U.vm) h3, h4, fun w hw => nest_same (u := U) (U := U.calling g mk a) hw rfl (h5 w hw), va_Z.moved (u := U) (U := U.calling g mk a) (Vm.Alike.refl U.vm) h6, va_T.moved (u := U) (U := U.calling g mk a) (Vm.Alike.refl U.vm) h7⟩
/-- the cell b is an object of class C -/
def OB (b : Nat) (C : String) : Prop := ∃ (ci : Nat) (ks : List (Nat × Nat)) (T : u_T) (N : Nat) (ty : Nat → FieldType), shp b = (2, ci, ks) ∧ CLs ci C T N ty
section GC2
variable {α β : Type} {l : Launch} {sc : Nat × (Nat → Int32)} {D pc nx : Nat} {d : MD} {ls : List (Nat × Value)} {st : List Value} {σ : Mem} {o : Option α} {mk : α → Option Value × Mem}
theorem fA_A {E : HE} {A : Nat → Prop} {s : State} {H : Heap} {locs : List Loc} (hD : va_D A (wld E σ)) (hS : va_S A s.heap H locs) (hA : ∀ q : Nat, s.heap.size ≤ q → A q) : ∀ q, fA E H.size q → A q := by
  intro q h
  rcases h with ⟨k, hk, rfl⟩ | h
  · exact hD.2 k _ (wld_get hk)
  · exact hA q (Nat.le_trans hS.1 h)
theorem fA_self {E : HE} {sz : Nat} {A : Nat → Prop} (h : va_D A (wld E σ)) : va_D (fA E sz) (wld E σ) := by
  refine ⟨h.1, fun k q hk => Or.inl ?_⟩
  have hlt : k < NC := by
    have := (List.getElem?_eq_some_iff.mp hk).1
    unfold wld at this; simpa using this
  rw [wld_get hlt] at hk
  cases hk
  exact ⟨k, hlt, rfl⟩
theorem wld_D {E : HE} {τ : Mem} {A : Nat → Prop} (h : va_D A (wld E σ)) : va_D A (wld E τ) := by
  have key : ∀ (μ : Mem) (i : Nat) (q : Nat × va_E), (wld E μ)[i]? = some q → i < NC ∧ q.1 = E.1 i := by
    intro μ i q hq
    have hlt : i < NC := by
      have := (List.getElem?_eq_some_iff.mp hq).1
      unfold wld at this; simpa using this
    rw [wld_get hlt] at hq
    cases hq
    exact ⟨hlt, rfl⟩
  refine ⟨fun i j x y hx hy hxy => ?_, fun k q hk => ?_⟩
  · obtain ⟨hi, ei⟩ := key τ i x hx
    obtain ⟨hj, ej⟩ := key τ j y hy
    exact h.1 i j _ _ (wld_get hi) (wld_get hj) (by show E.1 i = E.1 j; rw [← ei, ← ej]; exact hxy)
  · obtain ⟨hi, ei⟩ := key τ k q hk
    rw [ei]
    exact h.2 k _ (wld_get hi)
/-- the state at a call is one that the callee may start from -/
theorem Pw_at {E : HE} {A : Nat → Prop} {p : Program} {R : Room} {s : State} {m : MethodId} {args : Array Value} {c : Code} {cells slots : Nat} (F : Fx E A sc p R s m args c cells slots d D) {H : Heap} {locs : List Loc} (hP : va_P E.2.2 vwCl (wld E σ) H) (hD : va_D A (wld E σ)) (hS : va_S A s.heap H locs) {U : State} (hU : U.heap = H) (hW : s.WarmedH U.vm) : Pw E σ H.size U := by
  obtain ⟨-, -, -, -, -, hnw, hK, hA, hZ, hT, -⟩ := F
  subst hU
  have hfa := fA_A hD hS hA
  exact ⟨rfl, hP, va_K.moved hW.alike hK, hD.weaken (fun _ _ _ _ => trivial), fun w hw => nest_warm hw hW (hnw w hw), (va_Z.narrow (va_Z.kept (va_Z.moved hW.alike hZ) hS.2.1) hfa), (va_T.narrow (va_T.kept (va_T.moved hW.alike hT) hS.2.1) hfa)⟩
theorem callV_of {d2 : MD} {n : Nat} {nest : Bool} {b idx : Nat} {As : List Value} {Y : Option Value × Mem} {E : HE} {A : Nat → Prop} {p : Program} {e : Jvm.Env} {R : Room} {s : State} {m : MethodId} {args : Array Value} {below : List Frame} {meth : Method} {c : Code} {cells slots : Nat} (F : Fx E A sc p R s m args c cells slots d (D + 1)) {H : Heap} {locs : List Loc} {lsA : Array Slot} (hsz : lsA.size = d.2.2.1)
    (hi : decode d.2.1 pc = .ok (.invokevirtual idx, 3)) (hs : SVs d.1.cls idx d2 n nest) (hb : OB b d2.1.cls) (hn : As.length = n) (hst : st.length ≤ 4) (hM : EvM l D d2 (.ref b :: As) σ Y)
    (hP : va_P E.2.2 vwCl (wld E σ) H) (hD : va_D A (wld E σ)) (hS : va_S A s.heap H locs) {st0 : List Value} (hst0 : st0 = (As.map (cv E)).reverse ++ .ref (E.1 b) :: st.map (cv E)) :
    va_Run p l e R s m args below meth c H locs cells slots 0 0 (F0 m pc lsA st0) (st.map (cv E)) (Qw E Y H.size ((Value.ref b :: As).map (cv E)).toArray) (fA E H.size) := by
  subst hn
  obtain ⟨⟨hcode, hini, hdc, hml⟩, hlk, hin, hsel⟩ := hs
  obtain ⟨ci, ks, T, N, ty, hshp, ⟨hcl, -⟩⟩ := hb
  have hPre := fun (U : State) (hU : U.heap = H) (hW : s.WarmedH U.vm) => Pw_at F hP hD hS hU hW
  obtain ⟨hx, hbc, hmlc, hown, hts, hnw, hK, hA, hZ, hT, -, hRf, hRl, hcc, hss⟩ := F
  have hG : GoodIn allW (mW d2) := good_all (fun w hw => by
    rcases List.mem_cons.mp hw with rfl | h
    · exact hcode
    · exact h)
  have hR : (rm D).frames + 1 ≤ R.frames ∧ 8 + (d2.2.2.1 + 11) + (rm D).locals ≤ R.locals := ⟨hRf, by show 8 + (d2.2.2.1 + 11) + 64 * D ≤ R.locals; omega⟩
  have hroom : 2 * (F0 m pc lsA st0).monitorRoom + ((st.map (cv E)).map fun v => v.category).sum ≤ 8 := by
    refine lv_room ?_
    rw [List.map_map]
    have : ∀ L : List Value, ((L.map ((fun v => v.category) ∘ cv E)).sum ≤ 2 * L.length) := by
      intro L
      induction L with
      | nil => exact Nat.le_refl 0
      | cons v L ih =>
        simp only [List.map_cons, List.sum_cons, List.length_cons, Function.comp]
        rcases lv_cat (cv E v) with h | h <;> rw [h] <;> omega
    have := this st
    omega
  have hpv : PreV s H d2.1.cls (E.1 b) (va_Pc ((Value.ref b :: As).map (cv E)) (Pw E σ H.size)) (As.map (cv E)) :=
    ⟨Pw_blind, va_recv hK hP hcl (wld_obj hshp), fun U hU hW => ⟨rfl, hPre U hU hW⟩⟩
  have hMM := hM E H.size
  have hsel' := hts _ hsel
  cases nest with
  | false =>
    refine va_runV (Qc := Qw E Y H.size) ⟨hx, hbc, hmlc, hown, hts⟩ hMM (cwV As.length hts (good_all ?_) rfl rfl rfl ⟨rfl, hdc⟩ hR) hpv rfl (List.length_map _) hsz hst0 hroom hi ⟨hcc, hss⟩
    intro w hw
    simp only [wsV, List.mem_append, List.mem_cons, List.not_mem_nil, or_false] at hw
    rcases hw with (rfl | rfl | rfl | rfl) | hw
    · exact hlk
    · exact hin
    · exact hsel
    · exact hini
    · exact (hG w hw).1
  | true =>
    obtain ⟨host, hlk⟩ := hlk
    exact va_runVN (C := d2.1.cls) (Qc := Qw E Y H.size) ⟨hx, hbc, hmlc, hown, hts⟩ hMM ⟨va_cnB As.length hts hG rfl rfl rfl (hnw _ hlk) (hts _ hini) hdc hR, hts _ hin, hsel'⟩ hpv rfl (List.length_map _) hsz hst0 hroom hi ⟨hcc, hss⟩
theorem callS_of {d2 : MD} {n : Nat} {nest : Bool} {idx : Nat} {As : List Value} {Y : Option Value × Mem} {E : HE} {A : Nat → Prop} {p : Program} {e : Jvm.Env} {R : Room} {s : State} {m : MethodId} {args : Array Value} {below : List Frame} {meth : Method} {c : Code} {cells slots : Nat} (F : Fx E A sc p R s m args c cells slots d (D + 1)) {H : Heap} {locs : List Loc} {lsA : Array Slot} (hsz : lsA.size = d.2.2.1)
    (hi : decode d.2.1 pc = .ok (.invokestatic idx, 3)) (hs : SSs d.1.cls idx d2 n nest) (hn : As.length = n) (hst : st.length ≤ 4) (hM : EvM l D d2 As σ Y)
    (hP : va_P E.2.2 vwCl (wld E σ) H) (hD : va_D A (wld E σ)) (hS : va_S A s.heap H locs) {st0 : List Value} (hst0 : st0 = (As.map (cv E)).reverse ++ st.map (cv E)) :
    va_Run p l e R s m args below meth c H locs cells slots 0 0 (F0 m pc lsA st0) (st.map (cv E)) (Qw E Y H.size (As.map (cv E)).toArray) (fA E H.size) := by
  subst hn
  obtain ⟨⟨hcode, hini, hdc, hml⟩, hlk, hstt⟩ := hs
  have hPre := fun (U : State) (hU : U.heap = H) (hW : s.WarmedH U.vm) => Pw_at F hP hD hS hU hW
  obtain ⟨hx, hbc, hmlc, hown, hts, hnw, hK, hA, hZ, hT, -, hRf, hRl, hcc, hss⟩ := F
  have hG : GoodIn allW (mW d2) := good_all (fun w hw => by
    rcases List.mem_cons.mp hw with rfl | h
    · exact hcode
    · exact h)
  have hR : (rm D).frames + 1 ≤ R.frames ∧ 8 + (d2.2.2.1 + 11) + (rm D).locals ≤ R.locals := ⟨hRf, by show 8 + (d2.2.2.1 + 11) + 64 * D ≤ R.locals; omega⟩
  have hroom : 2 * (F0 m pc lsA st0).monitorRoom + ((st.map (cv E)).map fun v => v.category).sum ≤ 8 := by
    refine lv_room ?_
    rw [List.map_map]
    have : ∀ L : List Value, ((L.map ((fun v => v.category) ∘ cv E)).sum ≤ 2 * L.length) := by
      intro L
      induction L with
      | nil => exact Nat.le_refl 0
      | cons v L ih =>
        simp only [List.map_cons, List.sum_cons, List.length_cons, Function.comp]
        rcases lv_cat (cv E v) with h | h <;> rw [h] <;> omega
    have := this st
    omega
  have hpv : PreS s H (va_Pc (As.map (cv E)) (Pw E σ H.size)) (As.map (cv E)) := ⟨Pw_blind, fun U hU hW => ⟨rfl, hPre U hU hW⟩⟩
  have hMM := hM E H.size
  cases nest with
  | false =>
    refine va_runS (Qc := Qw E Y H.size) ⟨hx, hbc, hmlc, hown, hts⟩ hMM (va_cwS As.length hts (good_all ?_) rfl rfl rfl hdc hR) hpv rfl (List.length_map _) hsz hst0 hroom hi ⟨hcc, hss⟩
    intro w hw
    simp only [va_wsS, List.mem_append, List.mem_cons, List.not_mem_nil, or_false] at hw
    rcases hw with (rfl | rfl | rfl) | hw
    · exact hlk
    · exact hstt
    · exact hini
    · exact (hG w hw).1
  | true =>
    obtain ⟨host, hlk⟩ := hlk
    exact va_runSN (Qc := Qw E Y H.size) ⟨hx, hbc, hmlc, hown, hts⟩ hMM ⟨va_cnB As.length hts hG rfl rfl rfl (hnw _ hlk) (hts _ hini) hdc hR, hts _ hstt, trivial⟩ hpv rfl (List.length_map _) hsz hst0 hroom hi ⟨hcc, hss⟩
/-- EvM at another name of the depth -/
theorem EvM_cast {D1 D2 : Nat} {d2 : MD} {as : List Value} {Y : Option Value × Mem} (h : D1 = D2) (k : EvM l D1 d2 as σ Y) : EvM l D2 d2 as σ Y := h ▸ k
/-- a call of an instance method: o1 is the callee's pure answer, mk1 what it leaves -/
theorem g_callv {d2 : MD} {n : Nat} {nest : Bool} {b idx : Nat} {As S0 : List Value} {o1 : Option β} {mk1 : β → Option Value × Mem} {kf : β → Option α} (hi : Dc d pc (.invokevirtual idx) 3 nx) (hs : SVs d.1.cls idx d2 n nest) (hb : OB b d2.1.cls) (hn : As.length = n) (hst : st.length ≤ 4) (hS0 : S0 = As.reverse ++ .ref b :: st)
    (hM : ∀ y, o1 = some y → EvM l D d2 (.ref b :: As) σ (mk1 y)) (k : ∀ y, o1 = some y → G l sc (D + 1) d nx ls ((mk1 y).1.toList ++ st) (mk1 y).2 (kf y) mk) : G l sc (D + 1) d pc ls S0 σ (o1.bind kf) mk := by
  obtain ⟨hi, rfl⟩ := hi
  subst hS0
  intro v hv E A p e_ R s m args below meth c cells slots Q F K H locs lsA hP hD hS hl
  obtain ⟨y, hy, hv⟩ := Option.bind_eq_some_iff.mp hv
  have hrun := callV_of (l := l) (e := e_) (below := below) (meth := meth) F hl.1 hi hs hb hn hst (hM y hy) hP hD hS (st0 := (As.reverse ++ .ref b :: st).map (cv E)) (by rw [List.map_append, List.map_reverse]; rfl)
  have hfa := fA_A hD hS F.2.2.2.2.2.2.2.1
  refine va_callg hrun hS (fun q _ h => hfa q h) hfa (fun t H1 locs1 ht hB hS1 => ?_)
  subst ht
  have := k y hy v hv E A p e_ R s m args below meth c cells slots Q F K t.heap locs1 lsA hB.1 (wld_D hD) hS1 hl
  rw [List.map_append] at this
  have e2 : ((mk1 y).1.map (cv E)).toList = (mk1 y).1.toList.map (cv E) := by cases (mk1 y).1 <;> rfl
  rw [e2]
  exact this
theorem g_calls {d2 : MD} {n : Nat} {nest : Bool} {idx : Nat} {As S0 : List Value} {o1 : Option β} {mk1 : β → Option Value × Mem} {kf : β → Option α} (hi : Dc d pc (.invokestatic idx) 3 nx) (hs : SSs d.1.cls idx d2 n nest) (hn : As.length = n) (hst : st.length ≤ 4) (hS0 : S0 = As.reverse ++ st)
    (hM : ∀ y, o1 = some y → EvM l D d2 As σ (mk1 y)) (k : ∀ y, o1 = some y → G l sc (D + 1) d nx ls ((mk1 y).1.toList ++ st) (mk1 y).2 (kf y) mk) : G l sc (D + 1) d pc ls S0 σ (o1.bind kf) mk := by
  obtain ⟨hi, rfl⟩ := hi
  subst hS0
  intro v hv E A p e_ R s m args below meth c cells slots Q F K H locs lsA hP hD hS hl
  obtain ⟨y, hy, hv⟩ := Option.bind_eq_some_iff.mp hv
  have hrun := callS_of (l := l) (e := e_) (below := below) (meth := meth) F hl.1 hi hs hn hst (hM y hy) hP hD hS (st0 := (As.reverse ++ st).map (cv E)) (by rw [List.map_append, List.map_reverse])
  have hfa := fA_A hD hS F.2.2.2.2.2.2.2.1
  refine va_callg hrun hS (fun q _ h => hfa q h) hfa (fun t H1 locs1 ht hB hS1 => ?_)
  subst ht
  have := k y hy v hv E A p e_ R s m args below meth c cells slots Q F K t.heap locs1 lsA hB.1 (wld_D hD) hS1 hl
  rw [List.map_append] at this
  have e2 : ((mk1 y).1.map (cv E)).toList = (mk1 y).1.toList.map (cv E) := by cases (mk1 y).1 <;> rfl
  rw [e2]
  exact this
theorem g_callv_pi {d2 : MD} {n : Nat} {nest : Bool} {b idx : Nat} {As S0 : List Value} {o1 : Option (Int32)} {kf : Int32 → Option α} (hi : Dc d pc (.invokevirtual idx) 3 nx) (hs : SVs d.1.cls idx d2 n nest) (hb : OB b d2.1.cls) (hn : As.length = n) (hst : st.length ≤ 4) (hS0 : S0 = As.reverse ++ .ref b :: st) (hM : ∀ y, o1 = some y → EvM l D d2 (.ref b :: As) σ ((fun v => (some (.int v), σ)) y)) (k : ∀ y, G l sc (D + 1) d nx ls (.int y :: st) σ (kf y) mk) : G l sc (D + 1) d pc ls S0 σ (o1.bind kf) mk :=
  g_callv (mk1 := fun v => (some (.int v), σ)) hi hs hb hn hst hS0 hM (fun y _ => k y)
theorem g_callv_pr {d2 : MD} {n : Nat} {nest : Bool} {b idx : Nat} {As S0 : List Value} {o1 : Option (Nat)} {kf : Nat → Option α} (hi : Dc d pc (.invokevirtual idx) 3 nx) (hs : SVs d.1.cls idx d2 n nest) (hb : OB b d2.1.cls) (hn : As.length = n) (hst : st.length ≤ 4) (hS0 : S0 = As.reverse ++ .ref b :: st) (hM : ∀ y, o1 = some y → EvM l D d2 (.ref b :: As) σ ((fun v => (some (.ref v), σ)) y)) (k : ∀ y, G l sc (D + 1) d nx ls (.ref y :: st) σ (kf y) mk) : G l sc (D + 1) d pc ls S0 σ (o1.bind kf) mk :=
  g_callv (mk1 := fun v => (some (.ref v), σ)) hi hs hb hn hst hS0 hM (fun y _ => k y)
theorem g_callv_ii {d2 : MD} {n : Nat} {nest : Bool} {b idx : Nat} {As S0 : List Value} {o1 : Option (Int32 × Mem)} {kf : Int32 × Mem → Option α} (hi : Dc d pc (.invokevirtual idx) 3 nx) (hs : SVs d.1.cls idx d2 n nest) (hb : OB b d2.1.cls) (hn : As.length = n) (hst : st.length ≤ 4) (hS0 : S0 = As.reverse ++ .ref b :: st) (hM : ∀ y, o1 = some y → EvM l D d2 (.ref b :: As) σ ((fun v => (some (.int v.1), v.2)) y)) (k : ∀ (y : Int32) (τ : Mem), G l sc (D + 1) d nx ls (.int y :: st) τ (kf (y, τ)) mk) : G l sc (D + 1) d pc ls S0 σ (o1.bind kf) mk :=
  g_callv (mk1 := fun v => (some (.int v.1), v.2)) hi hs hb hn hst hS0 hM (fun y _ => by obtain ⟨a, b⟩ := y; exact k a b)
theorem g_callv_vv {d2 : MD} {n : Nat} {nest : Bool} {b idx : Nat} {As S0 : List Value} {o1 : Option (Mem)} {kf : Mem → Option α} (hi : Dc d pc (.invokevirtual idx) 3 nx) (hs : SVs d.1.cls idx d2 n nest) (hb : OB b d2.1.cls) (hn : As.length = n) (hst : st.length ≤ 4) (hS0 : S0 = As.reverse ++ .ref b :: st) (hM : ∀ y, o1 = some y → EvM l D d2 (.ref b :: As) σ ((fun v => (none, v)) y)) (k : ∀ y, G l sc (D + 1) d nx ls st y (kf y) mk) : G l sc (D + 1) d pc ls S0 σ (o1.bind kf) mk :=
  g_callv (mk1 := fun v => (none, v)) hi hs hb hn hst hS0 hM (fun y _ => k y)
theorem g_calls_pi {d2 : MD} {n : Nat} {nest : Bool} {idx : Nat} {As S0 : List Value} {o1 : Option (Int32)} {kf : Int32 → Option α} (hi : Dc d pc (.invokestatic idx) 3 nx) (hs : SSs d.1.cls idx d2 n nest) (hn : As.length = n) (hst : st.length ≤ 4) (hS0 : S0 = As.reverse ++ st) (hM : ∀ y, o1 = some y → EvM l D d2 As σ ((fun v => (some (.int v), σ)) y)) (k : ∀ y, G l sc (D + 1) d nx ls (.int y :: st) σ (kf y) mk) : G l sc (D + 1) d pc ls S0 σ (o1.bind kf) mk :=
  g_calls (mk1 := fun v => (some (.int v), σ)) hi hs hn hst hS0 hM (fun y _ => k y)
theorem g_calls_pr {d2 : MD} {n : Nat} {nest : Bool} {idx : Nat} {As S0 : List Value} {o1 : Option (Nat)} {kf : Nat → Option α} (hi : Dc d pc (.invokestatic idx) 3 nx) (hs : SSs d.1.cls idx d2 n nest) (hn : As.length = n) (hst : st.length ≤ 4) (hS0 : S0 = As.reverse ++ st) (hM : ∀ y, o1 = some y → EvM l D d2 As σ ((fun v => (some (.ref v), σ)) y)) (k : ∀ y, G l sc (D + 1) d nx ls (.ref y :: st) σ (kf y) mk) : G l sc (D + 1) d pc ls S0 σ (o1.bind kf) mk :=
  g_calls (mk1 := fun v => (some (.ref v), σ)) hi hs hn hst hS0 hM (fun y _ => k y)
theorem g_calls_ii {d2 : MD} {n : Nat} {nest : Bool} {idx : Nat} {As S0 : List Value} {o1 : Option (Int32 × Mem)} {kf : Int32 × Mem → Option α} (hi : Dc d pc (.invokestatic idx) 3 nx) (hs : SSs d.1.cls idx d2 n nest) (hn : As.length = n) (hst : st.length ≤ 4) (hS0 : S0 = As.reverse ++ st) (hM : ∀ y, o1 = some y → EvM l D d2 As σ ((fun v => (some (.int v.1), v.2)) y)) (k : ∀ (y : Int32) (τ : Mem), G l sc (D + 1) d nx ls (.int y :: st) τ (kf (y, τ)) mk) : G l sc (D + 1) d pc ls S0 σ (o1.bind kf) mk :=
  g_calls (mk1 := fun v => (some (.int v.1), v.2)) hi hs hn hst hS0 hM (fun y _ => by obtain ⟨a, b⟩ := y; exact k a b)
theorem g_calls_vv {d2 : MD} {n : Nat} {nest : Bool} {idx : Nat} {As S0 : List Value} {o1 : Option (Mem)} {kf : Mem → Option α} (hi : Dc d pc (.invokestatic idx) 3 nx) (hs : SSs d.1.cls idx d2 n nest) (hn : As.length = n) (hst : st.length ≤ 4) (hS0 : S0 = As.reverse ++ st) (hM : ∀ y, o1 = some y → EvM l D d2 As σ ((fun v => (none, v)) y)) (k : ∀ y, G l sc (D + 1) d nx ls st y (kf y) mk) : G l sc (D + 1) d pc ls S0 σ (o1.bind kf) mk :=
  g_calls (mk1 := fun v => (none, v)) hi hs hn hst hS0 hM (fun y _ => k y)
/-- a name for a number, for a memory -/
theorem g_nm {x : Int32} {kf : Int32 → Option α} (k : ∀ y, G l sc D d pc ls (.int y :: st) σ (kf y) mk) : G l sc D d pc ls (.int x :: st) σ ((some x).bind kf) mk := k x
theorem g_nml {x : Int64} {kf : Int64 → Option α} (k : ∀ y, G l sc D d pc ls (.long y :: st) σ (kf y) mk) : G l sc D d pc ls (.long x :: st) σ ((some x).bind kf) mk := k x
theorem g_mem {τ : Mem} {kf : Mem → Option α} (k : ∀ τ : Mem, G l sc D d pc ls st τ (kf τ) mk) : G l sc D d pc ls st τ ((some τ).bind kf) mk := k τ
theorem g_tabIn {dflt lo hh : Int} {offs : Array Int} {len : Nat} {x : Int32} {off : Int} {tgt : Nat} (hi : Dc d pc (.tableswitch dflt lo hh offs) len nx) (h1 : ¬ x.toInt < lo) (h2 : ¬ hh < x.toInt) (ho : offs[(x.toInt - lo).toNat]? = some off) (ht : (pc : Int) + off = (tgt : Int)) (k : G l sc D d tgt ls st σ o mk) : G l sc D d pc ls (.int x :: st) σ o mk := by
  obtain ⟨hi, -⟩ := hi
  intro v hv E A p e_ R s m args below meth c cells slots Q F K H locs lsA hP hD hS hl
  exact lv_tableIn F.1 F.2.1 hi h1 h2 ho ht (k v hv E A p e_ R s m args below meth c cells slots Q F K H locs lsA hP hD hS hl)
theorem g_tabOut {dflt lo hh : Int} {offs : Array Int} {len : Nat} {x : Int32} {tgt : Nat} (hi : Dc d pc (.tableswitch dflt lo hh offs) len nx) (h1 : x.toInt < lo ∨ hh < x.toInt) (ht : (pc : Int) + dflt = (tgt : Int)) (k : G l sc D d tgt ls st σ o mk) : G l sc D d pc ls (.int x :: st) σ o mk := by
  obtain ⟨hi, -⟩ := hi
  intro v hv E A p e_ R s m args below meth c cells slots Q F K H locs lsA hP hD hS hl
  exact lv_tableOut F.1 F.2.1 hi h1 ht (k v hv E A p e_ R s m args below meth c cells slots Q F K H locs lsA hP hD hS hl)
theorem g_lookup {dflt : Int} {ps : Array (Int × Int)} {len : Nat} {x : Int32} {off : Int} {tgt : Nat} (hi : Dc d pc (.lookupswitch dflt ps) len nx) (hp : (ps.toList.zip (ps.toList.drop 1)).all (fun (a, next) => a.1 < next.1) = true) (ho : Op.lookupswitch.offset ps.toList dflt x.toInt = off) (ht : (pc : Int) + off = (tgt : Int)) (k : G l sc D d tgt ls st σ o mk) : G l sc D d pc ls (.int x :: st) σ o mk := by
  obtain ⟨hi, -⟩ := hi
  intro v hv E A p e_ R s m args below meth c cells slots Q F K H locs lsA hP hD hS hl
  exact lv_lookup F.1 F.2.1 hi hp ho ht (k v hv E A p e_ R s m args below meth c cells slots Q F K H locs lsA hP hD hS hl)
theorem inB_lt {i : Int32} {n : Nat} (h : inB i n = true) : i.toNatClampNeg < n := Nat.not_le.mp fun q => inB_in h (Or.inr q)
/-- a method out of the walk of its body -/
theorem evM_of {as : List Value} {Y : Option Value × Mem} {nL : Nat} (hd : d.2.2.1 = nL) (hpl : plainName d.1.cls = true) (hnl : d.1 ≠ yL_law) (hlen : (lg_sl as).length ≤ nL)
    (hev : Ev l (0, fun _ => 0) D d 0 (lv_args 0 as) [] σ Y) : EvM l D d as σ Y := by
  intro E sz
  refine Met.ofW (cc := d.2.1) (maxL := d.2.2.1) (ret := d.2.2.2) hpl rfl ?_
  intro p e s m args below meth c s₁ B hml hv
  obtain ⟨rfl, hsz, hP, hK, hD0, hnw, hZ, hT⟩ := hv
  have hts := atoms_spec (ws := mW d) B.pre
  have hown : s.vm.findClass d.1.cls = some m.cls := findClass_of_methodNamed B.named
  have hlocks := B.notSynchronized
  have hr := B.returns
  have hx := B.exec
  have hb := B.bytes
  subst hsz
  have hD := fA_self (sz := s.heap.size) hD0
  have hA : ∀ q : Nat, s.heap.size ≤ q → fA E s.heap.size q := fun q h => Or.inr h
  have F : Fx E (fA E s.heap.size) (0, fun _ => 0) p (headSpec (mW d) (rm D)).room s m ((as.map (cv E)).toArray) c 0 0 d D := ⟨hx, hb, hml, hown, fun w hw => hts w (List.mem_cons_of_mem _ hw), hnw, hK, hA, hZ, hT, fun h => absurd h hnl, Nat.le_refl _, Nat.le_refl _, Nat.le_refl _, Nat.le_refl _⟩
  have hlg : ∀ L : List Value, (lg_sl (L.map (cv E))).length = (lg_sl L).length := by
    intro L
    simp only [lg_sl, List.length_flatMap, List.map_map]
    congr 1
    apply List.map_congr_left
    intro v _
    simp only [Function.comp, cv_cat]
    split <;> rfl
  have hla : ∀ (L : List Value) (i : Nat), lv_args i (L.map (cv E)) = (lv_args i L).map fun q => (q.1, cv E q.2) := by
    intro L
    induction L with
    | nil => intro i; rfl
    | cons v L ih => intro i; cases v <;> simp [lv_args, cv, ih, Value.category]
  have hl := lv_entry (as.map (cv E)) (n := d.2.2.1) (by rw [hlg, hd]; exact hlen)
  rw [lg_entry_eq]
  generalize (lg_sl (as.map (cv E)) ++ List.replicate (d.2.2.1 - (lg_sl (as.map (cv E))).length) Slot.unset).toArray = lsA at hl ⊢
  rw [hla] at hl
  refine hev E (fA E s.heap.size) p e _ s m _ below meth c 0 0 _ F ?_ s.heap [] lsA hP hD va_S.rf hl
  intro pcr lsr Hr locsr hPr hDr hSr hRet
  have hqq : ∀ t : State, t.heap = Hr → s.WarmedH t.vm → Qw E Y s.heap.size ((as.map (cv E)).toArray) s (.returned (Y.1.map (cv E))) t := fun t ht hW => ⟨rfl, ⟨by rw [ht]; exact hPr, hDr⟩, hSr.F ht⟩
  cases hY : Y.1 with
  | none =>
    rw [hY] at hRet
    rw [show Y.1.map (cv E) = none by rw [hY]; rfl] at hqq
    exact W.vret hx hb (hr.trans hRet.2) hqq hSr.2.2 hRet.1
  | some y =>
    rw [hY] at hRet
    rw [show Y.1.map (cv E) = some (cv E y) by rw [hY]; rfl] at hqq
    cases y with
    | int v =>
      obtain ⟨hRet, hz | ⟨hz, hb01⟩⟩ := hRet
      · exact W.iret (v := v) hx hb (hr.trans hz) hqq hSr.2.2 hRet
      · exact W.zret (v := v) hx hb (hr.trans hz) (bv_nar hb01).1 hqq hSr.2.2 hRet
    | ref v =>
      obtain ⟨hRet, C, hz⟩ := hRet
      exact W.aret hx hb (hr.trans hz) (Or.inl ⟨C, rfl⟩) (Or.inr ⟨_, rfl⟩) hqq hSr.2.2 hRet
    | _ => exact absurd hRet (fun h => h)
/-! the static row, the script, System.arraycopy -/
theorem g_gets {idx : Nat} {nest : Bool} (hi : Dc d pc (.getstatic idx) 3 nx) (hw : if nest then ∃ host, Cond.fieldLinkNest d.1.cls idx "PaperHour" "NEAREST" "[I" host ∈ nestW else Cond.fieldLink d.1.cls idx "PaperHour" "NEAREST" "[I" ∈ allW) (k : G l sc D d nx ls (.ref idNear :: st) σ o mk) : G l sc D d pc ls st σ o mk := by
  obtain ⟨hi, rfl⟩ := hi
  intro v hv E A p e_ R s m args below meth c cells slots Q F K H locs lsA hP hD hS hl
  cases nest with
  | false => exact va_gets F.1 F.2.1 F.2.2.2.2.2.2.2.2.1 hS F.2.2.2.1 (F.2.2.2.2.1 _ hw) (fun _ h => h) hi (k v hv E A p e_ R s m args below meth c cells slots Q F K H locs lsA hP hD hS hl)
  | true =>
    obtain ⟨host, hw⟩ := hw
    exact va_getsN F.1 F.2.1 F.2.2.2.2.2.2.2.2.1 hS F.2.2.2.1 (va_Nw.use rfl (F.2.2.2.2.2.1 _ hw)) (fun _ h => h) hi (k v hv E A p e_ R s m args below meth c cells slots Q F K H locs lsA hP hD hS hl)
theorem g_near {i : Int32} (hi : Dc d pc .iaload 1 nx) (k : inB i 6 = true → G l sc D d nx ls (.int (nearV i.toNatClampNeg) :: st) σ o mk) : G l sc D d pc ls (.int i :: .ref idNear :: st) σ (if inB i 6 = true then o else none) mk := by
  refine g_guard (fun hb => ?_)
  obtain ⟨hi, rfl⟩ := hi
  intro v hv E A p e_ R s m args below meth c cells slots Q F K H locs lsA hP hD hS hl
  exact va_ti F.1 F.2.1 F.2.2.2.2.2.2.2.2.2.1 hS (inB_in hb) rfl hi (k hb v hv E A p e_ R s m args below meth c cells slots Q F K H locs lsA hP hD hS hl)
theorem g_sld {i : Int32} (hlaw : d.1 = yL_law) (hi : Dc d pc .iaload 1 nx) (k : inB i sc.1 = true → G l sc D d nx ls (.int (sc.2 i.toNatClampNeg) :: st) σ o mk) : G l sc D d pc ls (.int i :: .ref idScr :: st) σ (if inB i sc.1 = true then o else none) mk := by
  refine g_guard (fun hb => ?_)
  obtain ⟨hi, rfl⟩ := hi
  intro v hv E A p e_ R s m args below meth c cells slots Q F K H locs lsA hP hD hS hl
  obtain ⟨hX, hbl, hbA⟩ := F.2.2.2.2.2.2.2.2.2.2.1 hlaw
  exact va_sld F.1 F.2.1 hX hbl hbA hS (inB_in hb) hi (k hb v hv E A p e_ R s m args below meth c cells slots Q F K H locs lsA hP hD hS hl)
theorem g_slen (hlaw : d.1 = yL_law) (hi : Dc d pc .arraylength 1 nx) (k : G l sc D d nx ls (.int (Int32.ofNat sc.1) :: st) σ o mk) : G l sc D d pc ls (.ref idScr :: st) σ o mk := by
  obtain ⟨hi, rfl⟩ := hi
  intro v hv E A p e_ R s m args below meth c cells slots Q F K H locs lsA hP hD hS hl
  obtain ⟨hX, hbl, hbA⟩ := F.2.2.2.2.2.2.2.2.2.2.1 hlaw
  exact va_slen F.1 F.2.1 hX hbl hbA hS hi (k v hv E A p e_ R s m args below meth c cells slots Q F K H locs lsA hP hD hS hl)
def okCopy (n0 n1 : Nat) (sp dp n : Int32) : Bool := decide (¬ sp < 0 ∧ ¬ dp < 0 ∧ ¬ n < 0 ∧ sp.toNatClampNeg + n.toNatClampNeg ≤ n0 ∧ dp.toNatClampNeg + n.toNatClampNeg ≤ n1)
theorem g_acopy {a b n0 n1 idx : Nat} {sp dp n : Int32} (hi : Dc d pc (.invokestatic idx) 3 nx) (hw : Cond.methodLink d.1.cls idx arraycopyName ∈ allW ∧ Cond.native arraycopyName ∈ allW ∧ Cond.static arraycopyName ∈ allW ∧ Cond.initialized "java/lang/System" ∈ allW) (hst : st.length ≤ 4) (ha : shp a = shA n0) (hb : shp b = shA n1) (k : okCopy n0 n1 sp dp n = true → G l sc (D + 1) d nx ls st (mcpy σ a sp.toNatClampNeg b dp.toNatClampNeg n.toNatClampNeg) o mk) :
    G l sc (D + 1) d pc ls (.int n :: .int dp :: .ref b :: .int sp :: .ref a :: st) σ (if okCopy n0 n1 sp dp n = true then o else none) mk := by
  refine g_guard (fun hok => ?_)
  obtain ⟨hi, rfl⟩ := hi
  obtain ⟨w1, w2, w3, w4⟩ := hw
  intro v hv E A p e_ R s m args below meth c cells slots Q F K H locs lsA hP hD hS hl
  obtain ⟨h1, h2, h3, h4, h5⟩ : ¬ sp < 0 ∧ ¬ dp < 0 ∧ ¬ n < 0 ∧ sp.toNatClampNeg + n.toNatClampNeg ≤ n0 ∧ dp.toNatClampNeg + n.toNatClampNeg ≤ n1 := by unfold okCopy at hok; exact of_decide_eq_true hok
  have hsum : ((st.map (cv E)).map fun v => v.category).sum ≤ 8 := by
    rw [List.map_map]
    have : ∀ L : List Value, ((L.map ((fun v => v.category) ∘ cv E)).sum ≤ 2 * L.length) := by
      intro L
      induction L with
      | nil => exact Nat.le_refl 0
      | cons v L ih =>
        simp only [List.map_cons, List.sum_cons, List.length_cons, Function.comp]
        rcases lv_cat (cv E v) with h | h <;> rw [h] <;> omega
    have := this st
    omega
  have hF := F
  obtain ⟨hx, hbc, hmlc, hown, hts, hnw, hK, hA, hZ, hT, -, hRf, hRl, hcc, hss⟩ := F
  have hwords : nativeFrameWords "java/lang/System" "arraycopy" 5 + 11 ≤ 50 := by decide +kernel
  refine va_copyi hx hbc (hmlc.trans hl.1.symm) hown (hts _ w1) (hts _ w2) (hts _ w3) (hts _ w4) hK hP hD hS a b 0 0 (ty := .int) (wld_arr ha) (wld_arr hb) rfl rfl rfl h1 h2 h3 h4 h5 (fun _ _ => rfl) (by omega) (by omega) hi (fun H1 locs1 hP1 hD1 hS1 => ?_)
  have e := wld_set (E := E) (σ := σ) (τ := mcpy σ a sp.toNatClampNeg b dp.toNatClampNeg n.toNatClampNeg) (a := b) (e := .inl (E.2.1 0, n1, .inl (va_cpy (σ a) (σ b) sp.toNatClampNeg dp.toNatClampNeg n.toNatClampNeg))) (shp_lt (by rw [hb]; simp [shA])) mcpy_ne (by rw [hb]; show _ = Sum.inl _; rw [mcpy_row]; rfl)
  rw [e] at hP1 hD1
  exact k hok v hv E A p e_ R s m args below meth c cells slots Q hF K H1 locs1 lsA hP1 hD1 hS1 hl
end GC2
end
section
theorem sh_0 : shp 0 = (2, 7, [(1, 1), (1, 13), (1, 15), (1, 20), (1, 25), (1, 30), (1, 35), (1, 61), (1, 70), (1, 75), (0, 0)]) := by decide +kernel
theorem sh_1 : shp 1 = (2, 2, [(1, 2), (1, 3), (1, 4)]) := by decide +kernel
theorem sh_2 : shp 2 = shA 8 := by decide +kernel
theorem sh_3 : shp 3 = shA 8 := by decide +kernel
theorem sh_4 : shp 4 = (3, 8, [(0, 5)]) := by decide +kernel
theorem sh_5 : shp 5 = shA 40 := by decide +kernel
theorem sh_6 : shp 6 = shA 40 := by decide +kernel
theorem sh_7 : shp 7 = shA 40 := by decide +kernel
theorem sh_8 : shp 8 = shA 40 := by decide +kernel
theorem sh_9 : shp 9 = shA 40 := by decide +kernel
theorem sh_10 : shp 10 = shA 40 := by decide +kernel
theorem sh_11 : shp 11 = shA 40 := by decide +kernel
theorem sh_12 : shp 12 = shA 40 := by decide +kernel
theorem sh_13 : shp 13 = (2, 5, [(1, 14), (0, 0), (0, 0), (0, 0), (0, 0), (0, 0)]) := by decide +kernel
theorem sh_14 : shp 14 = shA 100 := by decide +kernel
theorem sh_15 : shp 15 = (2, 6, [(0, 0), (0, 0), (0, 0), (0, 0), (0, 0), (1, 16), (1, 17), (1, 18), (1, 19), (0, 0), (0, 0), (0, 0), (0, 0)]) := by decide +kernel
theorem sh_16 : shp 16 = shA 6 := by decide +kernel
theorem sh_17 : shp 17 = shA 6 := by decide +kernel
theorem sh_18 : shp 18 = shA 6 := by decide +kernel
theorem sh_19 : shp 19 = shA 6 := by decide +kernel
theorem sh_20 : shp 20 = (2, 6, [(0, 0), (0, 0), (0, 0), (0, 0), (0, 0), (1, 21), (1, 22), (1, 23), (1, 24), (0, 0), (0, 0), (0, 0), (0, 0)]) := by decide +kernel
theorem sh_21 : shp 21 = shA 6 := by decide +kernel
theorem sh_22 : shp 22 = shA 6 := by decide +kernel
theorem sh_23 : shp 23 = shA 6 := by decide +kernel
theorem sh_24 : shp 24 = shA 6 := by decide +kernel
theorem sh_25 : shp 25 = (2, 6, [(0, 0), (0, 0), (0, 0), (0, 0), (0, 0), (1, 26), (1, 27), (1, 28), (1, 29), (0, 0), (0, 0), (0, 0), (0, 0)]) := by decide +kernel
theorem sh_26 : shp 26 = shA 6 := by decide +kernel
theorem sh_27 : shp 27 = shA 6 := by decide +kernel
theorem sh_28 : shp 28 = shA 6 := by decide +kernel
theorem sh_29 : shp 29 = shA 6 := by decide +kernel
theorem sh_30 : shp 30 = (2, 6, [(0, 0), (0, 0), (0, 0), (0, 0), (0, 0), (1, 31), (1, 32), (1, 33), (1, 34), (0, 0), (0, 0), (0, 0), (0, 0)]) := by decide +kernel
theorem sh_31 : shp 31 = shA 6 := by decide +kernel
theorem sh_32 : shp 32 = shA 6 := by decide +kernel
theorem sh_33 : shp 33 = shA 6 := by decide +kernel
theorem sh_34 : shp 34 = shA 6 := by decide +kernel
theorem sh_35 : shp 35 = (2, 0, [(1, 36), (0, 0), (0, 0)]) := by decide +kernel
theorem sh_36 : shp 36 = (3, 24, [(0, 37)]) := by decide +kernel
theorem sh_37 : shp 37 = shA 7 := by decide +kernel
theorem sh_38 : shp 38 = shA 7 := by decide +kernel
theorem sh_39 : shp 39 = shA 7 := by decide +kernel
theorem sh_40 : shp 40 = shA 7 := by decide +kernel
theorem sh_41 : shp 41 = shA 7 := by decide +kernel
theorem sh_42 : shp 42 = shA 7 := by decide +kernel
theorem sh_43 : shp 43 = shA 7 := by decide +kernel
theorem sh_44 : shp 44 = shA 7 := by decide +kernel
theorem sh_45 : shp 45 = shA 7 := by decide +kernel
theorem sh_46 : shp 46 = shA 7 := by decide +kernel
theorem sh_47 : shp 47 = shA 7 := by decide +kernel
theorem sh_48 : shp 48 = shA 7 := by decide +kernel
theorem sh_49 : shp 49 = shA 7 := by decide +kernel
theorem sh_50 : shp 50 = shA 7 := by decide +kernel
theorem sh_51 : shp 51 = shA 7 := by decide +kernel
theorem sh_52 : shp 52 = shA 7 := by decide +kernel
theorem sh_53 : shp 53 = shA 7 := by decide +kernel
theorem sh_54 : shp 54 = shA 7 := by decide +kernel
theorem sh_55 : shp 55 = shA 7 := by decide +kernel
theorem sh_56 : shp 56 = shA 7 := by decide +kernel
theorem sh_57 : shp 57 = shA 7 := by decide +kernel
theorem sh_58 : shp 58 = shA 7 := by decide +kernel
theorem sh_59 : shp 59 = shA 7 := by decide +kernel
theorem sh_60 : shp 60 = shA 7 := by decide +kernel
theorem sh_61 : shp 61 = (2, 3, [(1, 62), (1, 67), (0, 0), (0, 0), (0, 0), (1, 68), (0, 0), (0, 0), (0, 0), (1, 69)]) := by decide +kernel
theorem sh_62 : shp 62 = (2, 6, [(0, 0), (0, 0), (0, 0), (0, 0), (0, 0), (1, 63), (1, 64), (1, 65), (1, 66), (0, 0), (0, 0), (0, 0), (0, 0)]) := by decide +kernel
theorem sh_63 : shp 63 = shA 6 := by decide +kernel
theorem sh_64 : shp 64 = shA 6 := by decide +kernel
theorem sh_65 : shp 65 = shA 6 := by decide +kernel
theorem sh_66 : shp 66 = shA 6 := by decide +kernel
theorem sh_67 : shp 67 = shA 6 := by decide +kernel
theorem sh_68 : shp 68 = shA 6 := by decide +kernel
theorem sh_69 : shp 69 = shA 64 := by decide +kernel
theorem sh_70 : shp 70 = (2, 4, [(1, 71), (1, 72), (1, 73), (2, 0), (0, 0), (0, 0), (0, 0), (0, 0)]) := by decide +kernel
theorem sh_71 : shp 71 = shA 6 := by decide +kernel
theorem sh_72 : shp 72 = shA 4 := by decide +kernel
theorem sh_73 : shp 73 = shA 6 := by decide +kernel
theorem sh_74 : shp 74 = shA 0 := by decide +kernel
theorem sh_75 : shp 75 = (2, 1, [(1, 76), (0, 0), (0, 0), (0, 0), (0, 0), (0, 0)]) := by decide +kernel
theorem sh_76 : shp 76 = shA 16 := by decide +kernel
theorem sh_77 : shp 77 = (2, 8, [(1, 78), (1, 79), (1, 80), (0, 0), (0, 0), (1, 81), (0, 0), (0, 0), (0, 0), (0, 0), (0, 0), (0, 0), (1, 82), (1, 83), (1, 84), (1, 85), (1, 86), (1, 87), (0, 0), (1, 88), (0, 0), (1, 89), (1, 90), (1, 91), (0, 0), (0, 0), (1, 92), (1, 93)]) := by decide +kernel
theorem sh_78 : shp 78 = shA 8 := by decide +kernel
theorem sh_79 : shp 79 = shA 8 := by decide +kernel
theorem sh_80 : shp 80 = shA 320 := by decide +kernel
theorem sh_81 : shp 81 = shA 100 := by decide +kernel
theorem sh_82 : shp 82 = shA 33 := by decide +kernel
theorem sh_83 : shp 83 = shA 33 := by decide +kernel
theorem sh_84 : shp 84 = shA 33 := by decide +kernel
theorem sh_85 : shp 85 = shA 66 := by decide +kernel
theorem sh_86 : shp 86 = (1, 2, []) := by decide +kernel
theorem sh_87 : shp 87 = shA 792 := by decide +kernel
theorem sh_88 : shp 88 = shA 16 := by decide +kernel
theorem sh_89 : shp 89 = shA 6 := by decide +kernel
theorem sh_90 : shp 90 = shA 6 := by decide +kernel
theorem sh_91 : shp 91 = shA 6 := by decide +kernel
theorem sh_92 : shp 92 = shA 64 := by decide +kernel
theorem sh_93 : shp 93 = shA 6 := by decide +kernel
theorem cls_0 : CLs 0 RX0 TX0 3 tyX0 := ⟨rfl, by decide +kernel, tyX0_ok, nmX0⟩
theorem cls_1 : CLs 1 RX1 TX1 6 tyX1 := ⟨rfl, by decide +kernel, tyX1_ok, nmX1⟩
theorem cls_2 : CLs 2 RX2 TX2 3 tyX2 := ⟨rfl, by decide +kernel, tyX2_ok, nmX2⟩
theorem cls_3 : CLs 3 RX3 TX3 10 tyX3 := ⟨rfl, by decide +kernel, tyX3_ok, nmX3⟩
theorem cls_4 : CLs 4 RX4 TX4 8 tyX4 := ⟨rfl, by decide +kernel, tyX4_ok, nmX4⟩
theorem cls_5 : CLs 5 RX5 TX5 6 tyX5 := ⟨rfl, by decide +kernel, tyX5_ok, nmX5⟩
theorem cls_6 : CLs 6 RX6 TX6 13 tyX6 := ⟨rfl, by decide +kernel, tyX6_ok, nmX6⟩
theorem cls_7 : CLs 7 RX7 TX7 11 tyX7 := ⟨rfl, by decide +kernel, tyX7_ok, nmX7⟩
theorem cls_8 : CLs 8 RX8 TX8 28 tyX8 := ⟨rfl, by decide +kernel, tyX8_ok, nmX8⟩
theorem ob_0 : OB 0 RX7 := ⟨7, _, _, _, _, sh_0, cls_7⟩
theorem ob_1 : OB 1 RX2 := ⟨2, _, _, _, _, sh_1, cls_2⟩
theorem ob_13 : OB 13 RX5 := ⟨5, _, _, _, _, sh_13, cls_5⟩
theorem ob_15 : OB 15 RX6 := ⟨6, _, _, _, _, sh_15, cls_6⟩
theorem ob_20 : OB 20 RX6 := ⟨6, _, _, _, _, sh_20, cls_6⟩
theorem ob_25 : OB 25 RX6 := ⟨6, _, _, _, _, sh_25, cls_6⟩
theorem ob_30 : OB 30 RX6 := ⟨6, _, _, _, _, sh_30, cls_6⟩
theorem ob_35 : OB 35 RX0 := ⟨0, _, _, _, _, sh_35, cls_0⟩
theorem ob_61 : OB 61 RX3 := ⟨3, _, _, _, _, sh_61, cls_3⟩
theorem ob_62 : OB 62 RX6 := ⟨6, _, _, _, _, sh_62, cls_6⟩
theorem ob_70 : OB 70 RX4 := ⟨4, _, _, _, _, sh_70, cls_4⟩
theorem ob_75 : OB 75 RX1 := ⟨1, _, _, _, _, sh_75, cls_1⟩
theorem ob_77 : OB 77 RX8 := ⟨8, _, _, _, _, sh_77, cls_8⟩
theorem ob_town {t : Nat} (h : isTown t = true) : OB t RX6 := ⟨6, _, _, _, _, (shp_town h).1, cls_6⟩
theorem fl_X2_11 : FLd RX2 11 2 0 (.array .int) true false := ⟨RX2, TX2, 3, tyX2, cls_2, by decide, rfl, rfl, (allW_of (List.mem_of_getElem? (i := 116) (by decide +kernel)) (by decide +kernel))⟩
theorem fl_X7_93 : FLd RX7 93 2 0 (.array .int) true true := ⟨RX2, TX2, 3, tyX2, cls_2, by decide, rfl, rfl, ⟨"PaperHour", (nestW_of (List.mem_of_getElem? (i := 117) (by decide +kernel)) (by decide +kernel))⟩⟩
theorem fl_X2_15 : FLd RX2 15 2 1 (.array .int) true false := ⟨RX2, TX2, 3, tyX2, cls_2, by decide, rfl, rfl, (allW_of (List.mem_of_getElem? (i := 118) (by decide +kernel)) (by decide +kernel))⟩
theorem fl_X2_20 : FLd RX2 20 2 2 (.array (.array .int)) true false := ⟨RX2, TX2, 3, tyX2, cls_2, by decide, rfl, rfl, (allW_of (List.mem_of_getElem? (i := 119) (by decide +kernel)) (by decide +kernel))⟩
theorem fl_X7_101 : FLd RX7 101 2 2 (.array (.array .int)) true true := ⟨RX2, TX2, 3, tyX2, cls_2, by decide, rfl, rfl, ⟨"PaperHour", (nestW_of (List.mem_of_getElem? (i := 120) (by decide +kernel)) (by decide +kernel))⟩⟩
theorem fl_X5_11 : FLd RX5 11 5 0 (.array .int) true false := ⟨RX5, TX5, 6, tyX5, cls_5, by decide, rfl, rfl, (allW_of (List.mem_of_getElem? (i := 135) (by decide +kernel)) (by decide +kernel))⟩
theorem fl_X5_15 : FLd RX5 15 5 1 .int false false := ⟨RX5, TX5, 6, tyX5, cls_5, by decide, rfl, rfl, (allW_of (List.mem_of_getElem? (i := 136) (by decide +kernel)) (by decide +kernel))⟩
theorem fl_X7_117 : FLd RX7 117 5 1 .int false true := ⟨RX5, TX5, 6, tyX5, cls_5, by decide, rfl, rfl, ⟨"PaperHour", (nestW_of (List.mem_of_getElem? (i := 137) (by decide +kernel)) (by decide +kernel))⟩⟩
theorem fl_X5_19 : FLd RX5 19 5 2 .int false false := ⟨RX5, TX5, 6, tyX5, cls_5, by decide, rfl, rfl, (allW_of (List.mem_of_getElem? (i := 138) (by decide +kernel)) (by decide +kernel))⟩
theorem fl_X7_147 : FLd RX7 147 5 3 .int false true := ⟨RX5, TX5, 6, tyX5, cls_5, by decide, rfl, rfl, ⟨"PaperHour", (nestW_of (List.mem_of_getElem? (i := 139) (by decide +kernel)) (by decide +kernel))⟩⟩
theorem fl_X5_81 : FLd RX5 81 5 3 .int false false := ⟨RX5, TX5, 6, tyX5, cls_5, by decide, rfl, rfl, (allW_of (List.mem_of_getElem? (i := 140) (by decide +kernel)) (by decide +kernel))⟩
theorem fl_X7_127 : FLd RX7 127 5 4 .int false true := ⟨RX5, TX5, 6, tyX5, cls_5, by decide, rfl, rfl, ⟨"PaperHour", (nestW_of (List.mem_of_getElem? (i := 141) (by decide +kernel)) (by decide +kernel))⟩⟩
theorem fl_X5_84 : FLd RX5 84 5 4 .int false false := ⟨RX5, TX5, 6, tyX5, cls_5, by decide, rfl, rfl, (allW_of (List.mem_of_getElem? (i := 142) (by decide +kernel)) (by decide +kernel))⟩
theorem fl_X5_22 : FLd RX5 22 5 5 .boolean false false := ⟨RX5, TX5, 6, tyX5, cls_5, by decide, rfl, rfl, (allW_of (List.mem_of_getElem? (i := 143) (by decide +kernel)) (by decide +kernel))⟩
theorem fl_X6_24 : FLd RX6 24 6 0 .boolean false false := ⟨RX6, TX6, 13, tyX6, cls_6, by decide, rfl, rfl, (allW_of (List.mem_of_getElem? (i := 163) (by decide +kernel)) (by decide +kernel))⟩
theorem fl_X7_130 : FLd RX7 130 6 0 .boolean false true := ⟨RX6, TX6, 13, tyX6, cls_6, by decide, rfl, rfl, ⟨"PaperHour", (nestW_of (List.mem_of_getElem? (i := 164) (by decide +kernel)) (by decide +kernel))⟩⟩
theorem fl_X6_28 : FLd RX6 28 6 1 .int false false := ⟨RX6, TX6, 13, tyX6, cls_6, by decide, rfl, rfl, (allW_of (List.mem_of_getElem? (i := 165) (by decide +kernel)) (by decide +kernel))⟩
theorem fl_X5_46 : FLd RX5 46 6 1 .int false true := ⟨RX6, TX6, 13, tyX6, cls_6, by decide, rfl, rfl, ⟨"PaperHour", (nestW_of (List.mem_of_getElem? (i := 166) (by decide +kernel)) (by decide +kernel))⟩⟩
theorem fl_X6_32 : FLd RX6 32 6 2 .int false false := ⟨RX6, TX6, 13, tyX6, cls_6, by decide, rfl, rfl, (allW_of (List.mem_of_getElem? (i := 167) (by decide +kernel)) (by decide +kernel))⟩
theorem fl_X5_49 : FLd RX5 49 6 2 .int false true := ⟨RX6, TX6, 13, tyX6, cls_6, by decide, rfl, rfl, ⟨"PaperHour", (nestW_of (List.mem_of_getElem? (i := 168) (by decide +kernel)) (by decide +kernel))⟩⟩
theorem fl_X7_224 : FLd RX7 224 6 2 .int false true := ⟨RX6, TX6, 13, tyX6, cls_6, by decide, rfl, rfl, ⟨"PaperHour", (nestW_of (List.mem_of_getElem? (i := 169) (by decide +kernel)) (by decide +kernel))⟩⟩
theorem fl_X6_35 : FLd RX6 35 6 3 .int false false := ⟨RX6, TX6, 13, tyX6, cls_6, by decide, rfl, rfl, (allW_of (List.mem_of_getElem? (i := 170) (by decide +kernel)) (by decide +kernel))⟩
theorem fl_X5_52 : FLd RX5 52 6 3 .int false true := ⟨RX6, TX6, 13, tyX6, cls_6, by decide, rfl, rfl, ⟨"PaperHour", (nestW_of (List.mem_of_getElem? (i := 171) (by decide +kernel)) (by decide +kernel))⟩⟩
theorem fl_X4_28 : FLd RX4 28 6 4 .int false true := ⟨RX6, TX6, 13, tyX6, cls_6, by decide, rfl, rfl, ⟨"PaperHour", (nestW_of (List.mem_of_getElem? (i := 172) (by decide +kernel)) (by decide +kernel))⟩⟩
theorem fl_X6_38 : FLd RX6 38 6 4 .int false false := ⟨RX6, TX6, 13, tyX6, cls_6, by decide, rfl, rfl, (allW_of (List.mem_of_getElem? (i := 173) (by decide +kernel)) (by decide +kernel))⟩
theorem fl_X5_30 : FLd RX5 30 6 4 .int false true := ⟨RX6, TX6, 13, tyX6, cls_6, by decide, rfl, rfl, ⟨"PaperHour", (nestW_of (List.mem_of_getElem? (i := 174) (by decide +kernel)) (by decide +kernel))⟩⟩
theorem fl_X3_90 : FLd RX3 90 6 4 .int false true := ⟨RX6, TX6, 13, tyX6, cls_6, by decide, rfl, rfl, ⟨"PaperHour", (nestW_of (List.mem_of_getElem? (i := 175) (by decide +kernel)) (by decide +kernel))⟩⟩
theorem fl_X7_144 : FLd RX7 144 6 4 .int false true := ⟨RX6, TX6, 13, tyX6, cls_6, by decide, rfl, rfl, ⟨"PaperHour", (nestW_of (List.mem_of_getElem? (i := 176) (by decide +kernel)) (by decide +kernel))⟩⟩
theorem fl_X6_9 : FLd RX6 9 6 5 (.array .int) true false := ⟨RX6, TX6, 13, tyX6, cls_6, by decide, rfl, rfl, (allW_of (List.mem_of_getElem? (i := 177) (by decide +kernel)) (by decide +kernel))⟩
theorem fl_X1_19 : FLd RX1 19 6 5 (.array .int) true true := ⟨RX6, TX6, 13, tyX6, cls_6, by decide, rfl, rfl, ⟨"PaperHour", (nestW_of (List.mem_of_getElem? (i := 178) (by decide +kernel)) (by decide +kernel))⟩⟩
theorem fl_X5_65 : FLd RX5 65 6 5 (.array .int) true true := ⟨RX6, TX6, 13, tyX6, cls_6, by decide, rfl, rfl, ⟨"PaperHour", (nestW_of (List.mem_of_getElem? (i := 179) (by decide +kernel)) (by decide +kernel))⟩⟩
theorem fl_X7_271 : FLd RX7 271 6 5 (.array .int) true true := ⟨RX6, TX6, 13, tyX6, cls_6, by decide, rfl, rfl, ⟨"PaperHour", (nestW_of (List.mem_of_getElem? (i := 180) (by decide +kernel)) (by decide +kernel))⟩⟩
theorem fl_X6_15 : FLd RX6 15 6 6 (.array .int) true false := ⟨RX6, TX6, 13, tyX6, cls_6, by decide, rfl, rfl, (allW_of (List.mem_of_getElem? (i := 181) (by decide +kernel)) (by decide +kernel))⟩
theorem fl_X1_34 : FLd RX1 34 6 6 (.array .int) true true := ⟨RX6, TX6, 13, tyX6, cls_6, by decide, rfl, rfl, ⟨"PaperHour", (nestW_of (List.mem_of_getElem? (i := 182) (by decide +kernel)) (by decide +kernel))⟩⟩
theorem fl_X0_27 : FLd RX0 27 6 6 (.array .int) true true := ⟨RX6, TX6, 13, tyX6, cls_6, by decide, rfl, rfl, ⟨"PaperHour", (nestW_of (List.mem_of_getElem? (i := 183) (by decide +kernel)) (by decide +kernel))⟩⟩
theorem fl_X5_68 : FLd RX5 68 6 6 (.array .int) true true := ⟨RX6, TX6, 13, tyX6, cls_6, by decide, rfl, rfl, ⟨"PaperHour", (nestW_of (List.mem_of_getElem? (i := 184) (by decide +kernel)) (by decide +kernel))⟩⟩
theorem fl_X7_170 : FLd RX7 170 6 6 (.array .int) true true := ⟨RX6, TX6, 13, tyX6, cls_6, by decide, rfl, rfl, ⟨"PaperHour", (nestW_of (List.mem_of_getElem? (i := 185) (by decide +kernel)) (by decide +kernel))⟩⟩
theorem fl_X6_18 : FLd RX6 18 6 7 (.array .int) true false := ⟨RX6, TX6, 13, tyX6, cls_6, by decide, rfl, rfl, (allW_of (List.mem_of_getElem? (i := 186) (by decide +kernel)) (by decide +kernel))⟩
theorem fl_X1_29 : FLd RX1 29 6 7 (.array .int) true true := ⟨RX6, TX6, 13, tyX6, cls_6, by decide, rfl, rfl, ⟨"PaperHour", (nestW_of (List.mem_of_getElem? (i := 187) (by decide +kernel)) (by decide +kernel))⟩⟩
theorem fl_X0_31 : FLd RX0 31 6 7 (.array .int) true true := ⟨RX6, TX6, 13, tyX6, cls_6, by decide, rfl, rfl, ⟨"PaperHour", (nestW_of (List.mem_of_getElem? (i := 188) (by decide +kernel)) (by decide +kernel))⟩⟩
theorem fl_X5_71 : FLd RX5 71 6 7 (.array .int) true true := ⟨RX6, TX6, 13, tyX6, cls_6, by decide, rfl, rfl, ⟨"PaperHour", (nestW_of (List.mem_of_getElem? (i := 189) (by decide +kernel)) (by decide +kernel))⟩⟩
theorem fl_X7_167 : FLd RX7 167 6 7 (.array .int) true true := ⟨RX6, TX6, 13, tyX6, cls_6, by decide, rfl, rfl, ⟨"PaperHour", (nestW_of (List.mem_of_getElem? (i := 190) (by decide +kernel)) (by decide +kernel))⟩⟩
theorem fl_X6_21 : FLd RX6 21 6 8 (.array .int) true false := ⟨RX6, TX6, 13, tyX6, cls_6, by decide, rfl, rfl, (allW_of (List.mem_of_getElem? (i := 191) (by decide +kernel)) (by decide +kernel))⟩
theorem fl_X5_74 : FLd RX5 74 6 8 (.array .int) true true := ⟨RX6, TX6, 13, tyX6, cls_6, by decide, rfl, rfl, ⟨"PaperHour", (nestW_of (List.mem_of_getElem? (i := 192) (by decide +kernel)) (by decide +kernel))⟩⟩
theorem fl_X7_179 : FLd RX7 179 6 8 (.array .int) true true := ⟨RX6, TX6, 13, tyX6, cls_6, by decide, rfl, rfl, ⟨"PaperHour", (nestW_of (List.mem_of_getElem? (i := 193) (by decide +kernel)) (by decide +kernel))⟩⟩
theorem fl_X6_47 : FLd RX6 47 6 9 .int false false := ⟨RX6, TX6, 13, tyX6, cls_6, by decide, rfl, rfl, (allW_of (List.mem_of_getElem? (i := 194) (by decide +kernel)) (by decide +kernel))⟩
theorem fl_X0_34 : FLd RX0 34 6 9 .int false true := ⟨RX6, TX6, 13, tyX6, cls_6, by decide, rfl, rfl, ⟨"PaperHour", (nestW_of (List.mem_of_getElem? (i := 195) (by decide +kernel)) (by decide +kernel))⟩⟩
theorem fl_X3_84 : FLd RX3 84 6 9 .int false true := ⟨RX6, TX6, 13, tyX6, cls_6, by decide, rfl, rfl, ⟨"PaperHour", (nestW_of (List.mem_of_getElem? (i := 196) (by decide +kernel)) (by decide +kernel))⟩⟩
theorem fl_X7_295 : FLd RX7 295 6 9 .int false true := ⟨RX6, TX6, 13, tyX6, cls_6, by decide, rfl, rfl, ⟨"PaperHour", (nestW_of (List.mem_of_getElem? (i := 197) (by decide +kernel)) (by decide +kernel))⟩⟩
theorem fl_X6_50 : FLd RX6 50 6 10 .int false false := ⟨RX6, TX6, 13, tyX6, cls_6, by decide, rfl, rfl, (allW_of (List.mem_of_getElem? (i := 198) (by decide +kernel)) (by decide +kernel))⟩
theorem fl_X0_37 : FLd RX0 37 6 10 .int false true := ⟨RX6, TX6, 13, tyX6, cls_6, by decide, rfl, rfl, ⟨"PaperHour", (nestW_of (List.mem_of_getElem? (i := 199) (by decide +kernel)) (by decide +kernel))⟩⟩
theorem fl_X3_87 : FLd RX3 87 6 10 .int false true := ⟨RX6, TX6, 13, tyX6, cls_6, by decide, rfl, rfl, ⟨"PaperHour", (nestW_of (List.mem_of_getElem? (i := 200) (by decide +kernel)) (by decide +kernel))⟩⟩
theorem fl_X7_164 : FLd RX7 164 6 10 .int false true := ⟨RX6, TX6, 13, tyX6, cls_6, by decide, rfl, rfl, ⟨"PaperHour", (nestW_of (List.mem_of_getElem? (i := 201) (by decide +kernel)) (by decide +kernel))⟩⟩
theorem fl_X6_53 : FLd RX6 53 6 11 .int false false := ⟨RX6, TX6, 13, tyX6, cls_6, by decide, rfl, rfl, (allW_of (List.mem_of_getElem? (i := 202) (by decide +kernel)) (by decide +kernel))⟩
theorem fl_X3_40 : FLd RX3 40 6 11 .int false true := ⟨RX6, TX6, 13, tyX6, cls_6, by decide, rfl, rfl, ⟨"PaperHour", (nestW_of (List.mem_of_getElem? (i := 203) (by decide +kernel)) (by decide +kernel))⟩⟩
theorem fl_X0_40 : FLd RX0 40 6 11 .int false true := ⟨RX6, TX6, 13, tyX6, cls_6, by decide, rfl, rfl, ⟨"PaperHour", (nestW_of (List.mem_of_getElem? (i := 204) (by decide +kernel)) (by decide +kernel))⟩⟩
theorem fl_X7_264 : FLd RX7 264 6 11 .int false true := ⟨RX6, TX6, 13, tyX6, cls_6, by decide, rfl, rfl, ⟨"PaperHour", (nestW_of (List.mem_of_getElem? (i := 205) (by decide +kernel)) (by decide +kernel))⟩⟩
theorem fl_X6_56 : FLd RX6 56 6 12 .int false false := ⟨RX6, TX6, 13, tyX6, cls_6, by decide, rfl, rfl, (allW_of (List.mem_of_getElem? (i := 206) (by decide +kernel)) (by decide +kernel))⟩
theorem fl_X0_43 : FLd RX0 43 6 12 .int false true := ⟨RX6, TX6, 13, tyX6, cls_6, by decide, rfl, rfl, ⟨"PaperHour", (nestW_of (List.mem_of_getElem? (i := 207) (by decide +kernel)) (by decide +kernel))⟩⟩
theorem fl_X3_60 : FLd RX3 60 6 12 .int false true := ⟨RX6, TX6, 13, tyX6, cls_6, by decide, rfl, rfl, ⟨"PaperHour", (nestW_of (List.mem_of_getElem? (i := 208) (by decide +kernel)) (by decide +kernel))⟩⟩
theorem fl_X7_261 : FLd RX7 261 6 12 .int false true := ⟨RX6, TX6, 13, tyX6, cls_6, by decide, rfl, rfl, ⟨"PaperHour", (nestW_of (List.mem_of_getElem? (i := 209) (by decide +kernel)) (by decide +kernel))⟩⟩
theorem fl_X0_11 : FLd RX0 11 0 0 (.array (.array .int)) true false := ⟨RX0, TX0, 3, tyX0, cls_0, by decide, rfl, rfl, (allW_of (List.mem_of_getElem? (i := 244) (by decide +kernel)) (by decide +kernel))⟩
theorem fl_X0_14 : FLd RX0 14 0 1 .int false false := ⟨RX0, TX0, 3, tyX0, cls_0, by decide, rfl, rfl, (allW_of (List.mem_of_getElem? (i := 245) (by decide +kernel)) (by decide +kernel))⟩
theorem fl_X0_18 : FLd RX0 18 0 2 .int false false := ⟨RX0, TX0, 3, tyX0, cls_0, by decide, rfl, rfl, (allW_of (List.mem_of_getElem? (i := 246) (by decide +kernel)) (by decide +kernel))⟩
theorem fl_X7_173 : FLd RX7 173 0 2 .int false true := ⟨RX0, TX0, 3, tyX0, cls_0, by decide, rfl, rfl, ⟨"PaperHour", (nestW_of (List.mem_of_getElem? (i := 247) (by decide +kernel)) (by decide +kernel))⟩⟩
theorem fl_X3_12 : FLd RX3 12 3 0 (.object "PaperHour$Town") true false := ⟨RX3, TX3, 10, tyX3, cls_3, by decide, rfl, rfl, (allW_of (List.mem_of_getElem? (i := 263) (by decide +kernel)) (by decide +kernel))⟩
theorem fl_X3_18 : FLd RX3 18 3 1 (.array .int) true false := ⟨RX3, TX3, 10, tyX3, cls_3, by decide, rfl, rfl, (allW_of (List.mem_of_getElem? (i := 264) (by decide +kernel)) (by decide +kernel))⟩
theorem fl_X3_54 : FLd RX3 54 3 2 .int false false := ⟨RX3, TX3, 10, tyX3, cls_3, by decide, rfl, rfl, (allW_of (List.mem_of_getElem? (i := 265) (by decide +kernel)) (by decide +kernel))⟩
theorem fl_X3_57 : FLd RX3 57 3 3 .int false false := ⟨RX3, TX3, 10, tyX3, cls_3, by decide, rfl, rfl, (allW_of (List.mem_of_getElem? (i := 266) (by decide +kernel)) (by decide +kernel))⟩
theorem fl_X3_63 : FLd RX3 63 3 4 .int false false := ⟨RX3, TX3, 10, tyX3, cls_3, by decide, rfl, rfl, (allW_of (List.mem_of_getElem? (i := 267) (by decide +kernel)) (by decide +kernel))⟩
theorem fl_X3_22 : FLd RX3 22 3 5 (.array .int) true false := ⟨RX3, TX3, 10, tyX3, cls_3, by decide, rfl, rfl, (allW_of (List.mem_of_getElem? (i := 268) (by decide +kernel)) (by decide +kernel))⟩
theorem fl_X3_70 : FLd RX3 70 3 6 .int false false := ⟨RX3, TX3, 10, tyX3, cls_3, by decide, rfl, rfl, (allW_of (List.mem_of_getElem? (i := 269) (by decide +kernel)) (by decide +kernel))⟩
theorem fl_X7_195 : FLd RX7 195 3 6 .int false true := ⟨RX3, TX3, 10, tyX3, cls_3, by decide, rfl, rfl, ⟨"PaperHour", (nestW_of (List.mem_of_getElem? (i := 270) (by decide +kernel)) (by decide +kernel))⟩⟩
theorem fl_X3_66 : FLd RX3 66 3 7 .boolean false false := ⟨RX3, TX3, 10, tyX3, cls_3, by decide, rfl, rfl, (allW_of (List.mem_of_getElem? (i := 271) (by decide +kernel)) (by decide +kernel))⟩
theorem fl_X7_209 : FLd RX7 209 3 7 .boolean false true := ⟨RX3, TX3, 10, tyX3, cls_3, by decide, rfl, rfl, ⟨"PaperHour", (nestW_of (List.mem_of_getElem? (i := 272) (by decide +kernel)) (by decide +kernel))⟩⟩
theorem fl_X3_73 : FLd RX3 73 3 8 .int false false := ⟨RX3, TX3, 10, tyX3, cls_3, by decide, rfl, rfl, (allW_of (List.mem_of_getElem? (i := 273) (by decide +kernel)) (by decide +kernel))⟩
theorem fl_X7_196 : FLd RX7 196 3 8 .int false true := ⟨RX3, TX3, 10, tyX3, cls_3, by decide, rfl, rfl, ⟨"PaperHour", (nestW_of (List.mem_of_getElem? (i := 274) (by decide +kernel)) (by decide +kernel))⟩⟩
theorem fl_X3_25 : FLd RX3 25 3 9 (.array .int) true false := ⟨RX3, TX3, 10, tyX3, cls_3, by decide, rfl, rfl, (allW_of (List.mem_of_getElem? (i := 275) (by decide +kernel)) (by decide +kernel))⟩
theorem fl_X7_214 : FLd RX7 214 3 9 (.array .int) true true := ⟨RX3, TX3, 10, tyX3, cls_3, by decide, rfl, rfl, ⟨"PaperHour", (nestW_of (List.mem_of_getElem? (i := 276) (by decide +kernel)) (by decide +kernel))⟩⟩
theorem fl_X4_9 : FLd RX4 9 4 0 (.array .int) true false := ⟨RX4, TX4, 8, tyX4, cls_4, by decide, rfl, rfl, (allW_of (List.mem_of_getElem? (i := 304) (by decide +kernel)) (by decide +kernel))⟩
theorem fl_X4_15 : FLd RX4 15 4 1 (.array .int) true false := ⟨RX4, TX4, 8, tyX4, cls_4, by decide, rfl, rfl, (allW_of (List.mem_of_getElem? (i := 305) (by decide +kernel)) (by decide +kernel))⟩
theorem fl_X4_18 : FLd RX4 18 4 2 (.array .int) true false := ⟨RX4, TX4, 8, tyX4, cls_4, by decide, rfl, rfl, (allW_of (List.mem_of_getElem? (i := 306) (by decide +kernel)) (by decide +kernel))⟩
theorem fl_X7_227 : FLd RX7 227 4 2 (.array .int) true true := ⟨RX4, TX4, 8, tyX4, cls_4, by decide, rfl, rfl, ⟨"PaperHour", (nestW_of (List.mem_of_getElem? (i := 307) (by decide +kernel)) (by decide +kernel))⟩⟩
theorem fl_X4_21 : FLd RX4 21 4 3 (.array .int) false false := ⟨RX4, TX4, 8, tyX4, cls_4, by decide, rfl, rfl, (allW_of (List.mem_of_getElem? (i := 308) (by decide +kernel)) (by decide +kernel))⟩
theorem fl_X4_24 : FLd RX4 24 4 4 .int false false := ⟨RX4, TX4, 8, tyX4, cls_4, by decide, rfl, rfl, (allW_of (List.mem_of_getElem? (i := 309) (by decide +kernel)) (by decide +kernel))⟩
theorem fl_X4_33 : FLd RX4 33 4 5 .int false false := ⟨RX4, TX4, 8, tyX4, cls_4, by decide, rfl, rfl, (allW_of (List.mem_of_getElem? (i := 310) (by decide +kernel)) (by decide +kernel))⟩
theorem fl_X4_38 : FLd RX4 38 4 6 .int false false := ⟨RX4, TX4, 8, tyX4, cls_4, by decide, rfl, rfl, (allW_of (List.mem_of_getElem? (i := 311) (by decide +kernel)) (by decide +kernel))⟩
theorem fl_X7_221 : FLd RX7 221 4 6 .int false true := ⟨RX4, TX4, 8, tyX4, cls_4, by decide, rfl, rfl, ⟨"PaperHour", (nestW_of (List.mem_of_getElem? (i := 312) (by decide +kernel)) (by decide +kernel))⟩⟩
theorem fl_X4_34 : FLd RX4 34 4 7 .boolean false false := ⟨RX4, TX4, 8, tyX4, cls_4, by decide, rfl, rfl, (allW_of (List.mem_of_getElem? (i := 313) (by decide +kernel)) (by decide +kernel))⟩
theorem fl_X1_11 : FLd RX1 11 1 0 (.array .int) true false := ⟨RX1, TX1, 6, tyX1, cls_1, by decide, rfl, rfl, (allW_of (List.mem_of_getElem? (i := 337) (by decide +kernel)) (by decide +kernel))⟩
theorem fl_X7_289 : FLd RX7 289 1 0 (.array .int) true true := ⟨RX1, TX1, 6, tyX1, cls_1, by decide, rfl, rfl, ⟨"PaperHour", (nestW_of (List.mem_of_getElem? (i := 338) (by decide +kernel)) (by decide +kernel))⟩⟩
theorem fl_X1_15 : FLd RX1 15 1 1 .int false false := ⟨RX1, TX1, 6, tyX1, cls_1, by decide, rfl, rfl, (allW_of (List.mem_of_getElem? (i := 339) (by decide +kernel)) (by decide +kernel))⟩
theorem fl_X7_286 : FLd RX7 286 1 1 .int false true := ⟨RX1, TX1, 6, tyX1, cls_1, by decide, rfl, rfl, ⟨"PaperHour", (nestW_of (List.mem_of_getElem? (i := 340) (by decide +kernel)) (by decide +kernel))⟩⟩
theorem fl_X1_24 : FLd RX1 24 1 2 .int false false := ⟨RX1, TX1, 6, tyX1, cls_1, by decide, rfl, rfl, (allW_of (List.mem_of_getElem? (i := 341) (by decide +kernel)) (by decide +kernel))⟩
theorem fl_X1_26 : FLd RX1 26 1 3 .int false false := ⟨RX1, TX1, 6, tyX1, cls_1, by decide, rfl, rfl, (allW_of (List.mem_of_getElem? (i := 342) (by decide +kernel)) (by decide +kernel))⟩
theorem fl_X1_32 : FLd RX1 32 1 4 .int false false := ⟨RX1, TX1, 6, tyX1, cls_1, by decide, rfl, rfl, (allW_of (List.mem_of_getElem? (i := 343) (by decide +kernel)) (by decide +kernel))⟩
theorem fl_X1_37 : FLd RX1 37 1 5 .int false false := ⟨RX1, TX1, 6, tyX1, cls_1, by decide, rfl, rfl, (allW_of (List.mem_of_getElem? (i := 344) (by decide +kernel)) (by decide +kernel))⟩
theorem fl_X7_10 : FLd RX7 10 7 0 (.object "PaperHour$Rows") true false := ⟨RX7, TX7, 11, tyX7, cls_7, by decide, rfl, rfl, (allW_of (List.mem_of_getElem? (i := 358) (by decide +kernel)) (by decide +kernel))⟩
theorem fl_X7_19 : FLd RX7 19 7 1 (.object "PaperHour$Tape") true false := ⟨RX7, TX7, 11, tyX7, cls_7, by decide, rfl, rfl, (allW_of (List.mem_of_getElem? (i := 359) (by decide +kernel)) (by decide +kernel))⟩
theorem fl_X7_26 : FLd RX7 26 7 2 (.object "PaperHour$Town") true false := ⟨RX7, TX7, 11, tyX7, cls_7, by decide, rfl, rfl, (allW_of (List.mem_of_getElem? (i := 360) (by decide +kernel)) (by decide +kernel))⟩
theorem fl_X7_30 : FLd RX7 30 7 3 (.object "PaperHour$Town") true false := ⟨RX7, TX7, 11, tyX7, cls_7, by decide, rfl, rfl, (allW_of (List.mem_of_getElem? (i := 361) (by decide +kernel)) (by decide +kernel))⟩
theorem fl_X7_33 : FLd RX7 33 7 4 (.object "PaperHour$Town") true false := ⟨RX7, TX7, 11, tyX7, cls_7, by decide, rfl, rfl, (allW_of (List.mem_of_getElem? (i := 362) (by decide +kernel)) (by decide +kernel))⟩
theorem fl_X7_36 : FLd RX7 36 7 5 (.object "PaperHour$Town") true false := ⟨RX7, TX7, 11, tyX7, cls_7, by decide, rfl, rfl, (allW_of (List.mem_of_getElem? (i := 363) (by decide +kernel)) (by decide +kernel))⟩
theorem fl_X7_42 : FLd RX7 42 7 6 (.object "PaperHour$Acts") true false := ⟨RX7, TX7, 11, tyX7, cls_7, by decide, rfl, rfl, (allW_of (List.mem_of_getElem? (i := 364) (by decide +kernel)) (by decide +kernel))⟩
theorem fl_X7_49 : FLd RX7 49 7 7 (.object "PaperHour$Search") true false := ⟨RX7, TX7, 11, tyX7, cls_7, by decide, rfl, rfl, (allW_of (List.mem_of_getElem? (i := 365) (by decide +kernel)) (by decide +kernel))⟩
theorem fl_X7_56 : FLd RX7 56 7 8 (.object "PaperHour$Sharing") true false := ⟨RX7, TX7, 11, tyX7, cls_7, by decide, rfl, rfl, (allW_of (List.mem_of_getElem? (i := 366) (by decide +kernel)) (by decide +kernel))⟩
theorem fl_X7_63 : FLd RX7 63 7 9 (.object "PaperHour$Asks") true false := ⟨RX7, TX7, 11, tyX7, cls_7, by decide, rfl, rfl, (allW_of (List.mem_of_getElem? (i := 367) (by decide +kernel)) (by decide +kernel))⟩
theorem fl_X7_298 : FLd RX7 298 7 10 .int false false := ⟨RX7, TX7, 11, tyX7, cls_7, by decide, rfl, rfl, (allW_of (List.mem_of_getElem? (i := 368) (by decide +kernel)) (by decide +kernel))⟩
theorem kc_X7_71 : Cond.constant RX7 71 (-1000001) ∈ allW := (allW_of (List.mem_of_getElem? (i := 399) (by decide +kernel)) (by decide +kernel))
theorem kc_X7_301 : Cond.constant RX7 301 (-1000010) ∈ allW := (allW_of (List.mem_of_getElem? (i := 404) (by decide +kernel)) (by decide +kernel))
theorem kc_X7_121 : Cond.constant RX7 121 (-1000003) ∈ allW := (allW_of (List.mem_of_getElem? (i := 458) (by decide +kernel)) (by decide +kernel))
theorem kc_X7_126 : Cond.constant RX7 126 (-1000100) ∈ allW := (allW_of (List.mem_of_getElem? (i := 497) (by decide +kernel)) (by decide +kernel))
theorem kc_X7_156 : Cond.constant RX7 156 (-1000002) ∈ allW := (allW_of (List.mem_of_getElem? (i := 543) (by decide +kernel)) (by decide +kernel))
theorem kc_X7_185 : Cond.constant RX7 185 (-1000000) ∈ allW := (allW_of (List.mem_of_getElem? (i := 594) (by decide +kernel)) (by decide +kernel))
theorem kc_X3_47 : Cond.constant RX3 47 (-1000000) ∈ allW := (allW_of (List.mem_of_getElem? (i := 634) (by decide +kernel)) (by decide +kernel))
theorem kc_X4_54 : Cond.constant RX4 54 (-1000000) ∈ allW := (allW_of (List.mem_of_getElem? (i := 666) (by decide +kernel)) (by decide +kernel))
theorem kc_X6_92 : Cond.constant RX6 92 (-1000000) ∈ allW := (allW_of (List.mem_of_getElem? (i := 684) (by decide +kernel)) (by decide +kernel))
theorem kc_X7_256 : Cond.constant RX7 256 (999999) ∈ allW := (allW_of (List.mem_of_getElem? (i := 705) (by decide +kernel)) (by decide +kernel))
theorem kc_X7_257 : Cond.constantLong RX7 257 (16807) ∈ allW := (allW_of (List.mem_of_getElem? (i := 706) (by decide +kernel)) (by decide +kernel))
theorem kc_X7_259 : Cond.constantLong RX7 259 (2147483647) ∈ allW := (allW_of (List.mem_of_getElem? (i := 707) (by decide +kernel)) (by decide +kernel))
theorem fs_X7_302 : Cond.fieldLink RX7 302 "PaperHour" "NEAREST" "[I" ∈ allW := (allW_of (List.mem_of_getElem? (i := 731) (by decide +kernel)) (by decide +kernel))
theorem fl_X8_7 : FLd RX8 7 8 0 (.array .int) true false := ⟨RX8, TX8, 28, tyX8, cls_8, by decide, rfl, rfl, (allW_of (List.mem_of_getElem? (i := 812) (by decide +kernel)) (by decide +kernel))⟩
theorem fl_X8_13 : FLd RX8 13 8 1 (.array .int) true false := ⟨RX8, TX8, 28, tyX8, cls_8, by decide, rfl, rfl, (allW_of (List.mem_of_getElem? (i := 813) (by decide +kernel)) (by decide +kernel))⟩
theorem fl_X8_16 : FLd RX8 16 8 2 (.array .int) true false := ⟨RX8, TX8, 28, tyX8, cls_8, by decide, rfl, rfl, (allW_of (List.mem_of_getElem? (i := 814) (by decide +kernel)) (by decide +kernel))⟩
theorem fl_X8_63 : FLd RX8 63 8 3 .int false false := ⟨RX8, TX8, 28, tyX8, cls_8, by decide, rfl, rfl, (allW_of (List.mem_of_getElem? (i := 815) (by decide +kernel)) (by decide +kernel))⟩
theorem fl_X8_83 : FLd RX8 83 8 4 .int false false := ⟨RX8, TX8, 28, tyX8, cls_8, by decide, rfl, rfl, (allW_of (List.mem_of_getElem? (i := 816) (by decide +kernel)) (by decide +kernel))⟩
theorem fl_X8_19 : FLd RX8 19 8 5 (.array .int) true false := ⟨RX8, TX8, 28, tyX8, cls_8, by decide, rfl, rfl, (allW_of (List.mem_of_getElem? (i := 817) (by decide +kernel)) (by decide +kernel))⟩
theorem fl_X8_87 : FLd RX8 87 8 6 .int false false := ⟨RX8, TX8, 28, tyX8, cls_8, by decide, rfl, rfl, (allW_of (List.mem_of_getElem? (i := 818) (by decide +kernel)) (by decide +kernel))⟩
theorem fl_X8_90 : FLd RX8 90 8 7 .int false false := ⟨RX8, TX8, 28, tyX8, cls_8, by decide, rfl, rfl, (allW_of (List.mem_of_getElem? (i := 819) (by decide +kernel)) (by decide +kernel))⟩
theorem fl_X8_96 : FLd RX8 96 8 8 .int false false := ⟨RX8, TX8, 28, tyX8, cls_8, by decide, rfl, rfl, (allW_of (List.mem_of_getElem? (i := 820) (by decide +kernel)) (by decide +kernel))⟩
theorem fl_X8_93 : FLd RX8 93 8 9 .int false false := ⟨RX8, TX8, 28, tyX8, cls_8, by decide, rfl, rfl, (allW_of (List.mem_of_getElem? (i := 821) (by decide +kernel)) (by decide +kernel))⟩
theorem fl_X8_99 : FLd RX8 99 8 10 .int false false := ⟨RX8, TX8, 28, tyX8, cls_8, by decide, rfl, rfl, (allW_of (List.mem_of_getElem? (i := 822) (by decide +kernel)) (by decide +kernel))⟩
theorem fl_X8_129 : FLd RX8 129 8 11 .int false false := ⟨RX8, TX8, 28, tyX8, cls_8, by decide, rfl, rfl, (allW_of (List.mem_of_getElem? (i := 823) (by decide +kernel)) (by decide +kernel))⟩
theorem fl_X8_22 : FLd RX8 22 8 12 (.array .int) true false := ⟨RX8, TX8, 28, tyX8, cls_8, by decide, rfl, rfl, (allW_of (List.mem_of_getElem? (i := 824) (by decide +kernel)) (by decide +kernel))⟩
theorem fl_X8_25 : FLd RX8 25 8 13 (.array .int) true false := ⟨RX8, TX8, 28, tyX8, cls_8, by decide, rfl, rfl, (allW_of (List.mem_of_getElem? (i := 825) (by decide +kernel)) (by decide +kernel))⟩
theorem fl_X8_28 : FLd RX8 28 8 14 (.array .int) true false := ⟨RX8, TX8, 28, tyX8, cls_8, by decide, rfl, rfl, (allW_of (List.mem_of_getElem? (i := 826) (by decide +kernel)) (by decide +kernel))⟩
theorem fl_X8_31 : FLd RX8 31 8 15 (.array .int) true false := ⟨RX8, TX8, 28, tyX8, cls_8, by decide, rfl, rfl, (allW_of (List.mem_of_getElem? (i := 827) (by decide +kernel)) (by decide +kernel))⟩
theorem fl_X8_34 : FLd RX8 34 8 16 (.array .boolean) true false := ⟨RX8, TX8, 28, tyX8, cls_8, by decide, rfl, rfl, (allW_of (List.mem_of_getElem? (i := 828) (by decide +kernel)) (by decide +kernel))⟩
theorem fl_X8_38 : FLd RX8 38 8 17 (.array .int) true false := ⟨RX8, TX8, 28, tyX8, cls_8, by decide, rfl, rfl, (allW_of (List.mem_of_getElem? (i := 829) (by decide +kernel)) (by decide +kernel))⟩
theorem fl_X8_137 : FLd RX8 137 8 18 .int false false := ⟨RX8, TX8, 28, tyX8, cls_8, by decide, rfl, rfl, (allW_of (List.mem_of_getElem? (i := 830) (by decide +kernel)) (by decide +kernel))⟩
theorem fl_X8_41 : FLd RX8 41 8 19 (.array .int) true false := ⟨RX8, TX8, 28, tyX8, cls_8, by decide, rfl, rfl, (allW_of (List.mem_of_getElem? (i := 831) (by decide +kernel)) (by decide +kernel))⟩
theorem fl_X8_215 : FLd RX8 215 8 20 .int false false := ⟨RX8, TX8, 28, tyX8, cls_8, by decide, rfl, rfl, (allW_of (List.mem_of_getElem? (i := 832) (by decide +kernel)) (by decide +kernel))⟩
theorem fl_X8_44 : FLd RX8 44 8 21 (.array .int) true false := ⟨RX8, TX8, 28, tyX8, cls_8, by decide, rfl, rfl, (allW_of (List.mem_of_getElem? (i := 833) (by decide +kernel)) (by decide +kernel))⟩
theorem fl_X8_47 : FLd RX8 47 8 22 (.array .int) true false := ⟨RX8, TX8, 28, tyX8, cls_8, by decide, rfl, rfl, (allW_of (List.mem_of_getElem? (i := 834) (by decide +kernel)) (by decide +kernel))⟩
theorem fl_X8_50 : FLd RX8 50 8 23 (.array .int) true false := ⟨RX8, TX8, 28, tyX8, cls_8, by decide, rfl, rfl, (allW_of (List.mem_of_getElem? (i := 835) (by decide +kernel)) (by decide +kernel))⟩
theorem fl_X8_168 : FLd RX8 168 8 24 .int false false := ⟨RX8, TX8, 28, tyX8, cls_8, by decide, rfl, rfl, (allW_of (List.mem_of_getElem? (i := 836) (by decide +kernel)) (by decide +kernel))⟩
theorem fl_X8_171 : FLd RX8 171 8 25 .int false false := ⟨RX8, TX8, 28, tyX8, cls_8, by decide, rfl, rfl, (allW_of (List.mem_of_getElem? (i := 837) (by decide +kernel)) (by decide +kernel))⟩
theorem fl_X8_53 : FLd RX8 53 8 26 (.array .int) true false := ⟨RX8, TX8, 28, tyX8, cls_8, by decide, rfl, rfl, (allW_of (List.mem_of_getElem? (i := 838) (by decide +kernel)) (by decide +kernel))⟩
theorem fl_X8_56 : FLd RX8 56 8 27 (.array .int) true false := ⟨RX8, TX8, 28, tyX8, cls_8, by decide, rfl, rfl, (allW_of (List.mem_of_getElem? (i := 839) (by decide +kernel)) (by decide +kernel))⟩
theorem kc_X8_72 : Cond.constant RX8 72 (-1000001) ∈ allW := (allW_of (List.mem_of_getElem? (i := 908) (by decide +kernel)) (by decide +kernel))
theorem kc_X8_67 : Cond.constant RX8 67 (-1000010) ∈ allW := (allW_of (List.mem_of_getElem? (i := 913) (by decide +kernel)) (by decide +kernel))
theorem kc_X8_86 : Cond.constant RX8 86 (-1000003) ∈ allW := (allW_of (List.mem_of_getElem? (i := 937) (by decide +kernel)) (by decide +kernel))
theorem kc_X8_132 : Cond.constant RX8 132 (-1000100) ∈ allW := (allW_of (List.mem_of_getElem? (i := 973) (by decide +kernel)) (by decide +kernel))
theorem kc_X8_157 : Cond.constant RX8 157 (-1000002) ∈ allW := (allW_of (List.mem_of_getElem? (i := 998) (by decide +kernel)) (by decide +kernel))
theorem kc_X8_167 : Cond.constant RX8 167 (-1000000) ∈ allW := (allW_of (List.mem_of_getElem? (i := 1037) (by decide +kernel)) (by decide +kernel))
theorem kc_X8_207 : Cond.constant RX8 207 (999999) ∈ allW := (allW_of (List.mem_of_getElem? (i := 1101) (by decide +kernel)) (by decide +kernel))
theorem kc_X8_208 : Cond.constantLong RX8 208 (16807) ∈ allW := (allW_of (List.mem_of_getElem? (i := 1102) (by decide +kernel)) (by decide +kernel))
theorem kc_X8_210 : Cond.constantLong RX8 210 (2147483647) ∈ allW := (allW_of (List.mem_of_getElem? (i := 1103) (by decide +kernel)) (by decide +kernel))
theorem mf_X0_forget : MFs m_X0_forget 0 := ⟨(allW_of (List.mem_of_getElem? (i := 514) (by decide +kernel)) (by decide +kernel)), (allW_of (List.mem_of_getElem? (i := 90) (by decide +kernel)) (by decide +kernel)), ⟨by decide +kernel, by decide +kernel, by decide +kernel⟩, by decide⟩
theorem mf_X0_keep : MFs m_X0_keep 2 := ⟨(allW_of (List.mem_of_getElem? (i := 547) (by decide +kernel)) (by decide +kernel)), (allW_of (List.mem_of_getElem? (i := 90) (by decide +kernel)) (by decide +kernel)), ⟨by decide +kernel, by decide +kernel, by decide +kernel⟩, by decide⟩
theorem mf_X0_takeBack : MFs m_X0_takeBack 1 := ⟨(allW_of (List.mem_of_getElem? (i := 583) (by decide +kernel)) (by decide +kernel)), (allW_of (List.mem_of_getElem? (i := 90) (by decide +kernel)) (by decide +kernel)), ⟨by decide +kernel, by decide +kernel, by decide +kernel⟩, by decide⟩
theorem mf_X1_of : MFs m_X1_of 2 := ⟨(allW_of (List.mem_of_getElem? (i := 740) (by decide +kernel)) (by decide +kernel)), (allW_of (List.mem_of_getElem? (i := 93) (by decide +kernel)) (by decide +kernel)), ⟨by decide +kernel, by decide +kernel, by decide +kernel⟩, by decide⟩
theorem mf_X1_begins : MFs m_X1_begins 1 := ⟨(allW_of (List.mem_of_getElem? (i := 753) (by decide +kernel)) (by decide +kernel)), (allW_of (List.mem_of_getElem? (i := 93) (by decide +kernel)) (by decide +kernel)), ⟨by decide +kernel, by decide +kernel, by decide +kernel⟩, by decide⟩
theorem mf_X1_sizeAsked : MFs m_X1_sizeAsked 0 := ⟨(allW_of (List.mem_of_getElem? (i := 744) (by decide +kernel)) (by decide +kernel)), (allW_of (List.mem_of_getElem? (i := 93) (by decide +kernel)) (by decide +kernel)), ⟨by decide +kernel, by decide +kernel, by decide +kernel⟩, by decide⟩
theorem mf_X1_markAsked : MFs m_X1_markAsked 0 := ⟨(allW_of (List.mem_of_getElem? (i := 785) (by decide +kernel)) (by decide +kernel)), (allW_of (List.mem_of_getElem? (i := 93) (by decide +kernel)) (by decide +kernel)), ⟨by decide +kernel, by decide +kernel, by decide +kernel⟩, by decide⟩
theorem mf_X1_sizeAskedOfFresh : MFs m_X1_sizeAskedOfFresh 0 := ⟨(allW_of (List.mem_of_getElem? (i := 765) (by decide +kernel)) (by decide +kernel)), (allW_of (List.mem_of_getElem? (i := 93) (by decide +kernel)) (by decide +kernel)), ⟨by decide +kernel, by decide +kernel, by decide +kernel⟩, by decide⟩
theorem mf_X1_sizeAskedOfOld : MFs m_X1_sizeAskedOfOld 0 := ⟨(allW_of (List.mem_of_getElem? (i := 749) (by decide +kernel)) (by decide +kernel)), (allW_of (List.mem_of_getElem? (i := 93) (by decide +kernel)) (by decide +kernel)), ⟨by decide +kernel, by decide +kernel, by decide +kernel⟩, by decide⟩
theorem mf_X1_markAskedOfFresh : MFs m_X1_markAskedOfFresh 0 := ⟨(allW_of (List.mem_of_getElem? (i := 773) (by decide +kernel)) (by decide +kernel)), (allW_of (List.mem_of_getElem? (i := 93) (by decide +kernel)) (by decide +kernel)), ⟨by decide +kernel, by decide +kernel, by decide +kernel⟩, by decide⟩
theorem mf_X1_lentSize : MFs m_X1_lentSize 0 := ⟨(allW_of (List.mem_of_getElem? (i := 761) (by decide +kernel)) (by decide +kernel)), (allW_of (List.mem_of_getElem? (i := 93) (by decide +kernel)) (by decide +kernel)), ⟨by decide +kernel, by decide +kernel, by decide +kernel⟩, by decide⟩
theorem mf_X1_freshSize : MFs m_X1_freshSize 0 := ⟨(allW_of (List.mem_of_getElem? (i := 769) (by decide +kernel)) (by decide +kernel)), (allW_of (List.mem_of_getElem? (i := 93) (by decide +kernel)) (by decide +kernel)), ⟨by decide +kernel, by decide +kernel, by decide +kernel⟩, by decide⟩
theorem mf_X1_oldSize : MFs m_X1_oldSize 0 := ⟨(allW_of (List.mem_of_getElem? (i := 757) (by decide +kernel)) (by decide +kernel)), (allW_of (List.mem_of_getElem? (i := 93) (by decide +kernel)) (by decide +kernel)), ⟨by decide +kernel, by decide +kernel, by decide +kernel⟩, by decide⟩
theorem mf_X1_lentMark : MFs m_X1_lentMark 0 := ⟨(allW_of (List.mem_of_getElem? (i := 781) (by decide +kernel)) (by decide +kernel)), (allW_of (List.mem_of_getElem? (i := 93) (by decide +kernel)) (by decide +kernel)), ⟨by decide +kernel, by decide +kernel, by decide +kernel⟩, by decide⟩
theorem mf_X1_freshMark : MFs m_X1_freshMark 0 := ⟨(allW_of (List.mem_of_getElem? (i := 777) (by decide +kernel)) (by decide +kernel)), (allW_of (List.mem_of_getElem? (i := 93) (by decide +kernel)) (by decide +kernel)), ⟨by decide +kernel, by decide +kernel, by decide +kernel⟩, by decide⟩
theorem mf_X1_oldMark : MFs m_X1_oldMark 0 := ⟨(allW_of (List.mem_of_getElem? (i := 789) (by decide +kernel)) (by decide +kernel)), (allW_of (List.mem_of_getElem? (i := 93) (by decide +kernel)) (by decide +kernel)), ⟨by decide +kernel, by decide +kernel, by decide +kernel⟩, by decide⟩
theorem mf_X2_isNumber : MFs m_X2_isNumber 1 := ⟨(allW_of (List.mem_of_getElem? (i := 398) (by decide +kernel)) (by decide +kernel)), (allW_of (List.mem_of_getElem? (i := 86) (by decide +kernel)) (by decide +kernel)), ⟨by decide +kernel, by decide +kernel, by decide +kernel⟩, by decide⟩
theorem mf_X2_isMissing : MFs m_X2_isMissing 1 := ⟨(allW_of (List.mem_of_getElem? (i := 424) (by decide +kernel)) (by decide +kernel)), (allW_of (List.mem_of_getElem? (i := 86) (by decide +kernel)) (by decide +kernel)), ⟨by decide +kernel, by decide +kernel, by decide +kernel⟩, by decide⟩
theorem mf_X2_hasSpan : MFs m_X2_hasSpan 3 := ⟨(allW_of (List.mem_of_getElem? (i := 428) (by decide +kernel)) (by decide +kernel)), (allW_of (List.mem_of_getElem? (i := 86) (by decide +kernel)) (by decide +kernel)), ⟨by decide +kernel, by decide +kernel, by decide +kernel⟩, by decide⟩
theorem mf_X2_findingOf : MFs m_X2_findingOf 3 := ⟨(allW_of (List.mem_of_getElem? (i := 420) (by decide +kernel)) (by decide +kernel)), (allW_of (List.mem_of_getElem? (i := 86) (by decide +kernel)) (by decide +kernel)), ⟨by decide +kernel, by decide +kernel, by decide +kernel⟩, by decide⟩
theorem mf_X2_lay : MFs m_X2_lay 3 := ⟨(allW_of (List.mem_of_getElem? (i := 408) (by decide +kernel)) (by decide +kernel)), (allW_of (List.mem_of_getElem? (i := 86) (by decide +kernel)) (by decide +kernel)), ⟨by decide +kernel, by decide +kernel, by decide +kernel⟩, by decide⟩
theorem mf_X2_put : MFs m_X2_put 3 := ⟨(allW_of (List.mem_of_getElem? (i := 432) (by decide +kernel)) (by decide +kernel)), (allW_of (List.mem_of_getElem? (i := 86) (by decide +kernel)) (by decide +kernel)), ⟨by decide +kernel, by decide +kernel, by decide +kernel⟩, by decide⟩
theorem mf_X2_takeAway : MFs m_X2_takeAway 1 := ⟨(allW_of (List.mem_of_getElem? (i := 449) (by decide +kernel)) (by decide +kernel)), (allW_of (List.mem_of_getElem? (i := 86) (by decide +kernel)) (by decide +kernel)), ⟨by decide +kernel, by decide +kernel, by decide +kernel⟩, by decide⟩
theorem mf_X2_howMany : MFs m_X2_howMany 0 := ⟨(allW_of (List.mem_of_getElem? (i := 801) (by decide +kernel)) (by decide +kernel)), (allW_of (List.mem_of_getElem? (i := 86) (by decide +kernel)) (by decide +kernel)), ⟨by decide +kernel, by decide +kernel, by decide +kernel⟩, by decide⟩
theorem mf_X3_forMost : MFs m_X3_forMost 1 := ⟨(allW_of (List.mem_of_getElem? (i := 604) (by decide +kernel)) (by decide +kernel)), (allW_of (List.mem_of_getElem? (i := 91) (by decide +kernel)) (by decide +kernel)), ⟨by decide +kernel, by decide +kernel, by decide +kernel⟩, by decide⟩
theorem mf_X3_forSoonest : MFs m_X3_forSoonest 2 := ⟨(allW_of (List.mem_of_getElem? (i := 643) (by decide +kernel)) (by decide +kernel)), (allW_of (List.mem_of_getElem? (i := 91) (by decide +kernel)) (by decide +kernel)), ⟨by decide +kernel, by decide +kernel, by decide +kernel⟩, by decide⟩
theorem mf_X3_forSets : MFs m_X3_forSets 1 := ⟨(allW_of (List.mem_of_getElem? (i := 651) (by decide +kernel)) (by decide +kernel)), (allW_of (List.mem_of_getElem? (i := 91) (by decide +kernel)) (by decide +kernel)), ⟨by decide +kernel, by decide +kernel, by decide +kernel⟩, by decide⟩
theorem mf_X3_seek : MFs m_X3_seek 2 := ⟨(allW_of (List.mem_of_getElem? (i := 613) (by decide +kernel)) (by decide +kernel)), (allW_of (List.mem_of_getElem? (i := 91) (by decide +kernel)) (by decide +kernel)), ⟨by decide +kernel, by decide +kernel, by decide +kernel⟩, by decide⟩
theorem mf_X3_tryRows : MFs m_X3_tryRows 2 := ⟨(allW_of (List.mem_of_getElem? (i := 616) (by decide +kernel)) (by decide +kernel)), (allW_of (List.mem_of_getElem? (i := 91) (by decide +kernel)) (by decide +kernel)), ⟨by decide +kernel, by decide +kernel, by decide +kernel⟩, by decide⟩
theorem mf_X3_weigh : MFs m_X3_weigh 1 := ⟨(allW_of (List.mem_of_getElem? (i := 620) (by decide +kernel)) (by decide +kernel)), (allW_of (List.mem_of_getElem? (i := 91) (by decide +kernel)) (by decide +kernel)), ⟨by decide +kernel, by decide +kernel, by decide +kernel⟩, by decide⟩
theorem mf_X3_keepRow : MFs m_X3_keepRow 2 := ⟨(allW_of (List.mem_of_getElem? (i := 624) (by decide +kernel)) (by decide +kernel)), (allW_of (List.mem_of_getElem? (i := 91) (by decide +kernel)) (by decide +kernel)), ⟨by decide +kernel, by decide +kernel, by decide +kernel⟩, by decide⟩
theorem mf_X3_told : MFs m_X3_told 1 := ⟨(allW_of (List.mem_of_getElem? (i := 633) (by decide +kernel)) (by decide +kernel)), (allW_of (List.mem_of_getElem? (i := 91) (by decide +kernel)) (by decide +kernel)), ⟨by decide +kernel, by decide +kernel, by decide +kernel⟩, by decide⟩
theorem mf_X4_of : MFs m_X4_of 3 := ⟨(allW_of (List.mem_of_getElem? (i := 657) (by decide +kernel)) (by decide +kernel)), (allW_of (List.mem_of_getElem? (i := 92) (by decide +kernel)) (by decide +kernel)), ⟨by decide +kernel, by decide +kernel, by decide +kernel⟩, by decide⟩
theorem mf_X4_share : MFs m_X4_share 2 := ⟨(allW_of (List.mem_of_getElem? (i := 661) (by decide +kernel)) (by decide +kernel)), (allW_of (List.mem_of_getElem? (i := 92) (by decide +kernel)) (by decide +kernel)), ⟨by decide +kernel, by decide +kernel, by decide +kernel⟩, by decide⟩
theorem mf_X4_weighShares : MFs m_X4_weighShares 0 := ⟨(allW_of (List.mem_of_getElem? (i := 665) (by decide +kernel)) (by decide +kernel)), (allW_of (List.mem_of_getElem? (i := 92) (by decide +kernel)) (by decide +kernel)), ⟨by decide +kernel, by decide +kernel, by decide +kernel⟩, by decide⟩
theorem mf_X5_append : MFs m_X5_append 1 := ⟨(allW_of (List.mem_of_getElem? (i := 457) (by decide +kernel)) (by decide +kernel)), (allW_of (List.mem_of_getElem? (i := 88) (by decide +kernel)) (by decide +kernel)), ⟨by decide +kernel, by decide +kernel, by decide +kernel⟩, by decide⟩
theorem mf_X5_readInto : MFs m_X5_readInto 1 := ⟨(allW_of (List.mem_of_getElem? (i := 466) (by decide +kernel)) (by decide +kernel)), (allW_of (List.mem_of_getElem? (i := 88) (by decide +kernel)) (by decide +kernel)), ⟨by decide +kernel, by decide +kernel, by decide +kernel⟩, by decide⟩
theorem mf_X5_readLaw : MFs m_X5_readLaw 1 := ⟨(allW_of (List.mem_of_getElem? (i := 470) (by decide +kernel)) (by decide +kernel)), (allW_of (List.mem_of_getElem? (i := 88) (by decide +kernel)) (by decide +kernel)), ⟨by decide +kernel, by decide +kernel, by decide +kernel⟩, by decide⟩
theorem mf_X5_readReader : MFs m_X5_readReader 1 := ⟨(allW_of (List.mem_of_getElem? (i := 493) (by decide +kernel)) (by decide +kernel)), (allW_of (List.mem_of_getElem? (i := 88) (by decide +kernel)) (by decide +kernel)), ⟨by decide +kernel, by decide +kernel, by decide +kernel⟩, by decide⟩
theorem mf_X5_sortOf : MFs m_X5_sortOf 1 := ⟨(allW_of (List.mem_of_getElem? (i := 496) (by decide +kernel)) (by decide +kernel)), (allW_of (List.mem_of_getElem? (i := 88) (by decide +kernel)) (by decide +kernel)), ⟨by decide +kernel, by decide +kernel, by decide +kernel⟩, by decide⟩
theorem mf_X5_peek : MFs m_X5_peek 0 := ⟨(allW_of (List.mem_of_getElem? (i := 478) (by decide +kernel)) (by decide +kernel)), (allW_of (List.mem_of_getElem? (i := 88) (by decide +kernel)) (by decide +kernel)), ⟨by decide +kernel, by decide +kernel, by decide +kernel⟩, by decide⟩
theorem mf_X5_readByte : MFs m_X5_readByte 1 := ⟨(allW_of (List.mem_of_getElem? (i := 474) (by decide +kernel)) (by decide +kernel)), (allW_of (List.mem_of_getElem? (i := 88) (by decide +kernel)) (by decide +kernel)), ⟨by decide +kernel, by decide +kernel, by decide +kernel⟩, by decide⟩
theorem mf_X5_readNumber : MFs m_X5_readNumber 1 := ⟨(allW_of (List.mem_of_getElem? (i := 486) (by decide +kernel)) (by decide +kernel)), (allW_of (List.mem_of_getElem? (i := 88) (by decide +kernel)) (by decide +kernel)), ⟨by decide +kernel, by decide +kernel, by decide +kernel⟩, by decide⟩
theorem mf_X5_isFigure : MFs m_X5_isFigure 1 := ⟨(allW_of (List.mem_of_getElem? (i := 489) (by decide +kernel)) (by decide +kernel)), (allW_of (List.mem_of_getElem? (i := 88) (by decide +kernel)) (by decide +kernel)), ⟨by decide +kernel, by decide +kernel, by decide +kernel⟩, by decide⟩
theorem mf_X5_fail : MFs m_X5_fail 1 := ⟨(allW_of (List.mem_of_getElem? (i := 482) (by decide +kernel)) (by decide +kernel)), (allW_of (List.mem_of_getElem? (i := 88) (by decide +kernel)) (by decide +kernel)), ⟨by decide +kernel, by decide +kernel, by decide +kernel⟩, by decide⟩
theorem mf_X6_takeOver : MFs m_X6_takeOver 1 := ⟨(allW_of (List.mem_of_getElem? (i := 509) (by decide +kernel)) (by decide +kernel)), (allW_of (List.mem_of_getElem? (i := 89) (by decide +kernel)) (by decide +kernel)), ⟨by decide +kernel, by decide +kernel, by decide +kernel⟩, by decide⟩
theorem mf_X6_copyStands : MFs m_X6_copyStands 4 := ⟨(allW_of (List.mem_of_getElem? (i := 505) (by decide +kernel)) (by decide +kernel)), (allW_of (List.mem_of_getElem? (i := 89) (by decide +kernel)) (by decide +kernel)), ⟨by decide +kernel, by decide +kernel, by decide +kernel⟩, by decide⟩
theorem mf_X6_begin : MFs m_X6_begin 0 := ⟨(allW_of (List.mem_of_getElem? (i := 501) (by decide +kernel)) (by decide +kernel)), (allW_of (List.mem_of_getElem? (i := 89) (by decide +kernel)) (by decide +kernel)), ⟨by decide +kernel, by decide +kernel, by decide +kernel⟩, by decide⟩
theorem mf_X6_has : MFs m_X6_has 1 := ⟨(allW_of (List.mem_of_getElem? (i := 526) (by decide +kernel)) (by decide +kernel)), (allW_of (List.mem_of_getElem? (i := 89) (by decide +kernel)) (by decide +kernel)), ⟨by decide +kernel, by decide +kernel, by decide +kernel⟩, by decide⟩
theorem mf_X6_everybody : MFs m_X6_everybody 0 := ⟨(allW_of (List.mem_of_getElem? (i := 609) (by decide +kernel)) (by decide +kernel)), (allW_of (List.mem_of_getElem? (i := 89) (by decide +kernel)) (by decide +kernel)), ⟨by decide +kernel, by decide +kernel, by decide +kernel⟩, by decide⟩
theorem mf_X6_hasRead : MFs m_X6_hasRead 1 := ⟨(allW_of (List.mem_of_getElem? (i := 535) (by decide +kernel)) (by decide +kernel)), (allW_of (List.mem_of_getElem? (i := 89) (by decide +kernel)) (by decide +kernel)), ⟨by decide +kernel, by decide +kernel, by decide +kernel⟩, by decide⟩
theorem mf_X6_canHave : MFs m_X6_canHave 1 := ⟨(allW_of (List.mem_of_getElem? (i := 530) (by decide +kernel)) (by decide +kernel)), (allW_of (List.mem_of_getElem? (i := 89) (by decide +kernel)) (by decide +kernel)), ⟨by decide +kernel, by decide +kernel, by decide +kernel⟩, by decide⟩
theorem mf_X6_comes : MFs m_X6_comes 1 := ⟨(allW_of (List.mem_of_getElem? (i := 539) (by decide +kernel)) (by decide +kernel)), (allW_of (List.mem_of_getElem? (i := 89) (by decide +kernel)) (by decide +kernel)), ⟨by decide +kernel, by decide +kernel, by decide +kernel⟩, by decide⟩
theorem mf_X6_brings : MFs m_X6_brings 1 := ⟨(allW_of (List.mem_of_getElem? (i := 556) (by decide +kernel)) (by decide +kernel)), (allW_of (List.mem_of_getElem? (i := 89) (by decide +kernel)) (by decide +kernel)), ⟨by decide +kernel, by decide +kernel, by decide +kernel⟩, by decide⟩
theorem mf_X6_neighbours : MFs m_X6_neighbours 1 := ⟨(allW_of (List.mem_of_getElem? (i := 563) (by decide +kernel)) (by decide +kernel)), (allW_of (List.mem_of_getElem? (i := 89) (by decide +kernel)) (by decide +kernel)), ⟨by decide +kernel, by decide +kernel, by decide +kernel⟩, by decide⟩
theorem mf_X6_hand : MFs m_X6_hand 1 := ⟨(allW_of (List.mem_of_getElem? (i := 552) (by decide +kernel)) (by decide +kernel)), (allW_of (List.mem_of_getElem? (i := 89) (by decide +kernel)) (by decide +kernel)), ⟨by decide +kernel, by decide +kernel, by decide +kernel⟩, by decide⟩
theorem mf_X6_handAlong : MFs m_X6_handAlong 3 := ⟨(allW_of (List.mem_of_getElem? (i := 682) (by decide +kernel)) (by decide +kernel)), (allW_of (List.mem_of_getElem? (i := 89) (by decide +kernel)) (by decide +kernel)), ⟨by decide +kernel, by decide +kernel, by decide +kernel⟩, by decide⟩
theorem mf_X6_suppose : MFs m_X6_suppose 3 := ⟨(allW_of (List.mem_of_getElem? (i := 678) (by decide +kernel)) (by decide +kernel)), (allW_of (List.mem_of_getElem? (i := 89) (by decide +kernel)) (by decide +kernel)), ⟨by decide +kernel, by decide +kernel, by decide +kernel⟩, by decide⟩
theorem mf_X7_row : MFs m_X7_row 3 := ⟨(allW_of (List.mem_of_getElem? (i := 395) (by decide +kernel)) (by decide +kernel)), (allW_of (List.mem_of_getElem? (i := 85) (by decide +kernel)) (by decide +kernel)), ⟨by decide +kernel, by decide +kernel, by decide +kernel⟩, by decide⟩
theorem mf_X7_set : MFs m_X7_set 3 := ⟨(allW_of (List.mem_of_getElem? (i := 416) (by decide +kernel)) (by decide +kernel)), (allW_of (List.mem_of_getElem? (i := 85) (by decide +kernel)) (by decide +kernel)), ⟨by decide +kernel, by decide +kernel, by decide +kernel⟩, by decide⟩
theorem mf_X7_copy : MFs m_X7_copy 5 := ⟨(allW_of (List.mem_of_getElem? (i := 436) (by decide +kernel)) (by decide +kernel)), (allW_of (List.mem_of_getElem? (i := 85) (by decide +kernel)) (by decide +kernel)), ⟨by decide +kernel, by decide +kernel, by decide +kernel⟩, by decide⟩
theorem mf_X7_drop : MFs m_X7_drop 1 := ⟨(allW_of (List.mem_of_getElem? (i := 445) (by decide +kernel)) (by decide +kernel)), (allW_of (List.mem_of_getElem? (i := 85) (by decide +kernel)) (by decide +kernel)), ⟨by decide +kernel, by decide +kernel, by decide +kernel⟩, by decide⟩
theorem mf_X7_feed : MFs m_X7_feed 1 := ⟨(allW_of (List.mem_of_getElem? (i := 453) (by decide +kernel)) (by decide +kernel)), (allW_of (List.mem_of_getElem? (i := 85) (by decide +kernel)) (by decide +kernel)), ⟨by decide +kernel, by decide +kernel, by decide +kernel⟩, by decide⟩
theorem mf_X7_town : MFs m_X7_town 0 := ⟨(allW_of (List.mem_of_getElem? (i := 462) (by decide +kernel)) (by decide +kernel)), (allW_of (List.mem_of_getElem? (i := 85) (by decide +kernel)) (by decide +kernel)), ⟨by decide +kernel, by decide +kernel, by decide +kernel⟩, by decide⟩
theorem mf_X7_fault : MFs m_X7_fault 0 := ⟨(allW_of (List.mem_of_getElem? (i := 518) (by decide +kernel)) (by decide +kernel)), (allW_of (List.mem_of_getElem? (i := 85) (by decide +kernel)) (by decide +kernel)), ⟨by decide +kernel, by decide +kernel, by decide +kernel⟩, by decide⟩
theorem mf_X7_give : MFs m_X7_give 1 := ⟨(allW_of (List.mem_of_getElem? (i := 522) (by decide +kernel)) (by decide +kernel)), (allW_of (List.mem_of_getElem? (i := 85) (by decide +kernel)) (by decide +kernel)), ⟨by decide +kernel, by decide +kernel, by decide +kernel⟩, by decide⟩
theorem mf_X7_pause : MFs m_X7_pause 1 := ⟨(allW_of (List.mem_of_getElem? (i := 567) (by decide +kernel)) (by decide +kernel)), (allW_of (List.mem_of_getElem? (i := 85) (by decide +kernel)) (by decide +kernel)), ⟨by decide +kernel, by decide +kernel, by decide +kernel⟩, by decide⟩
theorem mf_X7_value : MFs m_X7_value 2 := ⟨(allW_of (List.mem_of_getElem? (i := 571) (by decide +kernel)) (by decide +kernel)), (allW_of (List.mem_of_getElem? (i := 85) (by decide +kernel)) (by decide +kernel)), ⟨by decide +kernel, by decide +kernel, by decide +kernel⟩, by decide⟩
theorem mf_X7_move : MFs m_X7_move 2 := ⟨(allW_of (List.mem_of_getElem? (i := 575) (by decide +kernel)) (by decide +kernel)), (allW_of (List.mem_of_getElem? (i := 85) (by decide +kernel)) (by decide +kernel)), ⟨by decide +kernel, by decide +kernel, by decide +kernel⟩, by decide⟩
theorem mf_X7_undo : MFs m_X7_undo 0 := ⟨(allW_of (List.mem_of_getElem? (i := 579) (by decide +kernel)) (by decide +kernel)), (allW_of (List.mem_of_getElem? (i := 85) (by decide +kernel)) (by decide +kernel)), ⟨by decide +kernel, by decide +kernel, by decide +kernel⟩, by decide⟩
theorem mf_X7_reader : MFs m_X7_reader 2 := ⟨(allW_of (List.mem_of_getElem? (i := 588) (by decide +kernel)) (by decide +kernel)), (allW_of (List.mem_of_getElem? (i := 85) (by decide +kernel)) (by decide +kernel)), ⟨by decide +kernel, by decide +kernel, by decide +kernel⟩, by decide⟩
theorem mf_X7_would : MFs m_X7_would 2 := ⟨(allW_of (List.mem_of_getElem? (i := 593) (by decide +kernel)) (by decide +kernel)), (allW_of (List.mem_of_getElem? (i := 85) (by decide +kernel)) (by decide +kernel)), ⟨by decide +kernel, by decide +kernel, by decide +kernel⟩, by decide⟩
theorem mf_X7_best : MFs m_X7_best 1 := ⟨(allW_of (List.mem_of_getElem? (i := 600) (by decide +kernel)) (by decide +kernel)), (allW_of (List.mem_of_getElem? (i := 85) (by decide +kernel)) (by decide +kernel)), ⟨by decide +kernel, by decide +kernel, by decide +kernel⟩, by decide⟩
theorem mf_X7_soonest : MFs m_X7_soonest 2 := ⟨(allW_of (List.mem_of_getElem? (i := 638) (by decide +kernel)) (by decide +kernel)), (allW_of (List.mem_of_getElem? (i := 85) (by decide +kernel)) (by decide +kernel)), ⟨by decide +kernel, by decide +kernel, by decide +kernel⟩, by decide⟩
theorem mf_X7_copies : MFs m_X7_copies 2 := ⟨(allW_of (List.mem_of_getElem? (i := 647) (by decide +kernel)) (by decide +kernel)), (allW_of (List.mem_of_getElem? (i := 85) (by decide +kernel)) (by decide +kernel)), ⟨by decide +kernel, by decide +kernel, by decide +kernel⟩, by decide⟩
theorem mf_X7_fits : MFs m_X7_fits 6 := ⟨(allW_of (List.mem_of_getElem? (i := 671) (by decide +kernel)) (by decide +kernel)), (allW_of (List.mem_of_getElem? (i := 85) (by decide +kernel)) (by decide +kernel)), ⟨by decide +kernel, by decide +kernel, by decide +kernel⟩, by decide⟩
theorem mf_X7_lost : MFs m_X7_lost 6 := ⟨(allW_of (List.mem_of_getElem? (i := 689) (by decide +kernel)) (by decide +kernel)), (allW_of (List.mem_of_getElem? (i := 85) (by decide +kernel)) (by decide +kernel)), ⟨by decide +kernel, by decide +kernel, by decide +kernel⟩, by decide⟩
theorem mf_X7_drawn : MFs m_X7_drawn 3 := ⟨(allW_of (List.mem_of_getElem? (i := 704) (by decide +kernel)) (by decide +kernel)), (allW_of (List.mem_of_getElem? (i := 85) (by decide +kernel)) (by decide +kernel)), ⟨by decide +kernel, by decide +kernel, by decide +kernel⟩, by decide⟩
theorem mf_X7_image : MFs m_X7_image 1 := ⟨(allW_of (List.mem_of_getElem? (i := 711) (by decide +kernel)) (by decide +kernel)), (allW_of (List.mem_of_getElem? (i := 85) (by decide +kernel)) (by decide +kernel)), ⟨by decide +kernel, by decide +kernel, by decide +kernel⟩, by decide⟩
theorem mf_X7_restore : MFs m_X7_restore 1 := ⟨(allW_of (List.mem_of_getElem? (i := 719) (by decide +kernel)) (by decide +kernel)), (allW_of (List.mem_of_getElem? (i := 85) (by decide +kernel)) (by decide +kernel)), ⟨by decide +kernel, by decide +kernel, by decide +kernel⟩, by decide⟩
theorem mf_X7_kind : MFs m_X7_kind 1 := ⟨(allW_of (List.mem_of_getElem? (i := 723) (by decide +kernel)) (by decide +kernel)), (allW_of (List.mem_of_getElem? (i := 85) (by decide +kernel)) (by decide +kernel)), ⟨by decide +kernel, by decide +kernel, by decide +kernel⟩, by decide⟩
theorem mf_X7_as : MFs m_X7_as 2 := ⟨(allW_of (List.mem_of_getElem? (i := 727) (by decide +kernel)) (by decide +kernel)), (allW_of (List.mem_of_getElem? (i := 85) (by decide +kernel)) (by decide +kernel)), ⟨by decide +kernel, by decide +kernel, by decide +kernel⟩, by decide⟩
theorem mf_X7_ask : MFs m_X7_ask 2 := ⟨(allW_of (List.mem_of_getElem? (i := 736) (by decide +kernel)) (by decide +kernel)), (allW_of (List.mem_of_getElem? (i := 85) (by decide +kernel)) (by decide +kernel)), ⟨by decide +kernel, by decide +kernel, by decide +kernel⟩, by decide⟩
theorem mf_X7_trace : MFs m_X7_trace 1 := ⟨(allW_of (List.mem_of_getElem? (i := 793) (by decide +kernel)) (by decide +kernel)), (allW_of (List.mem_of_getElem? (i := 85) (by decide +kernel)) (by decide +kernel)), ⟨by decide +kernel, by decide +kernel, by decide +kernel⟩, by decide⟩
theorem mf_X7_count : MFs m_X7_count 1 := ⟨(allW_of (List.mem_of_getElem? (i := 797) (by decide +kernel)) (by decide +kernel)), (allW_of (List.mem_of_getElem? (i := 85) (by decide +kernel)) (by decide +kernel)), ⟨by decide +kernel, by decide +kernel, by decide +kernel⟩, by decide⟩
theorem mf_X7_status : MFs m_X7_status 0 := ⟨(allW_of (List.mem_of_getElem? (i := 805) (by decide +kernel)) (by decide +kernel)), (allW_of (List.mem_of_getElem? (i := 85) (by decide +kernel)) (by decide +kernel)), ⟨by decide +kernel, by decide +kernel, by decide +kernel⟩, by decide⟩
theorem mf_X7_found : MFs m_X7_found 1 := ⟨(allW_of (List.mem_of_getElem? (i := 403) (by decide +kernel)) (by decide +kernel)), (allW_of (List.mem_of_getElem? (i := 85) (by decide +kernel)) (by decide +kernel)), ⟨by decide +kernel, by decide +kernel, by decide +kernel⟩, by decide⟩
theorem mf_X7_foundNothing : MFs m_X7_foundNothing 1 := ⟨(allW_of (List.mem_of_getElem? (i := 412) (by decide +kernel)) (by decide +kernel)), (allW_of (List.mem_of_getElem? (i := 85) (by decide +kernel)) (by decide +kernel)), ⟨by decide +kernel, by decide +kernel, by decide +kernel⟩, by decide⟩
theorem mf_X7_isTold : MFs m_X7_isTold 3 := ⟨(allW_of (List.mem_of_getElem? (i := 674) (by decide +kernel)) (by decide +kernel)), (allW_of (List.mem_of_getElem? (i := 85) (by decide +kernel)) (by decide +kernel)), ⟨by decide +kernel, by decide +kernel, by decide +kernel⟩, by decide⟩
theorem mf_X7_imageNumber : MFs m_X7_imageNumber 1 := ⟨(allW_of (List.mem_of_getElem? (i := 715) (by decide +kernel)) (by decide +kernel)), (allW_of (List.mem_of_getElem? (i := 85) (by decide +kernel)) (by decide +kernel)), ⟨by decide +kernel, by decide +kernel, by decide +kernel⟩, by decide⟩
theorem mf_X7_timesUntil : MFs m_X7_timesUntil 4 := ⟨(allW_of (List.mem_of_getElem? (i := 693) (by decide +kernel)) (by decide +kernel)), (allW_of (List.mem_of_getElem? (i := 85) (by decide +kernel)) (by decide +kernel)), ⟨by decide +kernel, by decide +kernel, by decide +kernel⟩, by decide⟩
theorem mf_X7_power : MFs m_X7_power 2 := ⟨(allW_of (List.mem_of_getElem? (i := 696) (by decide +kernel)) (by decide +kernel)), (allW_of (List.mem_of_getElem? (i := 85) (by decide +kernel)) (by decide +kernel)), ⟨by decide +kernel, by decide +kernel, by decide +kernel⟩, by decide⟩
theorem mf_X7_commonDivisor : MFs m_X7_commonDivisor 2 := ⟨(allW_of (List.mem_of_getElem? (i := 699) (by decide +kernel)) (by decide +kernel)), (allW_of (List.mem_of_getElem? (i := 85) (by decide +kernel)) (by decide +kernel)), ⟨by decide +kernel, by decide +kernel, by decide +kernel⟩, by decide⟩
theorem mf_X7_isOfKind : MFs m_X7_isOfKind 2 := ⟨(allW_of (List.mem_of_getElem? (i := 730) (by decide +kernel)) (by decide +kernel)), (allW_of (List.mem_of_getElem? (i := 85) (by decide +kernel)) (by decide +kernel)), ⟨by decide +kernel, by decide +kernel, by decide +kernel⟩, by decide⟩
theorem mf_X8_in : MFs m_X8_in 3 := ⟨(allW_of (List.mem_of_getElem? (i := 907) (by decide +kernel)) (by decide +kernel)), (allW_of (List.mem_of_getElem? (i := 94) (by decide +kernel)) (by decide +kernel)), ⟨by decide +kernel, by decide +kernel, by decide +kernel⟩, by decide⟩
theorem mf_X8_isIn : MFs m_X8_isIn 2 := ⟨(allW_of (List.mem_of_getElem? (i := 994) (by decide +kernel)) (by decide +kernel)), (allW_of (List.mem_of_getElem? (i := 94) (by decide +kernel)) (by decide +kernel)), ⟨by decide +kernel, by decide +kernel, by decide +kernel⟩, by decide⟩
theorem mf_X8_lay : MFs m_X8_lay 4 := ⟨(allW_of (List.mem_of_getElem? (i := 976) (by decide +kernel)) (by decide +kernel)), (allW_of (List.mem_of_getElem? (i := 94) (by decide +kernel)) (by decide +kernel)), ⟨by decide +kernel, by decide +kernel, by decide +kernel⟩, by decide⟩
theorem mf_X8_isTown : MFs m_X8_isTown 0 := ⟨(allW_of (List.mem_of_getElem? (i := 1016) (by decide +kernel)) (by decide +kernel)), (allW_of (List.mem_of_getElem? (i := 94) (by decide +kernel)) (by decide +kernel)), ⟨by decide +kernel, by decide +kernel, by decide +kernel⟩, by decide⟩
theorem mf_X8_isOne : MFs m_X8_isOne 1 := ⟨(allW_of (List.mem_of_getElem? (i := 988) (by decide +kernel)) (by decide +kernel)), (allW_of (List.mem_of_getElem? (i := 94) (by decide +kernel)) (by decide +kernel)), ⟨by decide +kernel, by decide +kernel, by decide +kernel⟩, by decide⟩
theorem mf_X8_finds : MFs m_X8_finds 1 := ⟨(allW_of (List.mem_of_getElem? (i := 912) (by decide +kernel)) (by decide +kernel)), (allW_of (List.mem_of_getElem? (i := 94) (by decide +kernel)) (by decide +kernel)), ⟨by decide +kernel, by decide +kernel, by decide +kernel⟩, by decide⟩
theorem mf_X8_done : MFs m_X8_done 1 := ⟨(allW_of (List.mem_of_getElem? (i := 917) (by decide +kernel)) (by decide +kernel)), (allW_of (List.mem_of_getElem? (i := 94) (by decide +kernel)) (by decide +kernel)), ⟨by decide +kernel, by decide +kernel, by decide +kernel⟩, by decide⟩
theorem mf_X8_isRow : MFs m_X8_isRow 1 := ⟨(allW_of (List.mem_of_getElem? (i := 904) (by decide +kernel)) (by decide +kernel)), (allW_of (List.mem_of_getElem? (i := 94) (by decide +kernel)) (by decide +kernel)), ⟨by decide +kernel, by decide +kernel, by decide +kernel⟩, by decide⟩
theorem mf_X8_row : MFs m_X8_row 3 := ⟨(allW_of (List.mem_of_getElem? (i := 901) (by decide +kernel)) (by decide +kernel)), (allW_of (List.mem_of_getElem? (i := 94) (by decide +kernel)) (by decide +kernel)), ⟨by decide +kernel, by decide +kernel, by decide +kernel⟩, by decide⟩
theorem mf_X8_set : MFs m_X8_set 3 := ⟨(allW_of (List.mem_of_getElem? (i := 921) (by decide +kernel)) (by decide +kernel)), (allW_of (List.mem_of_getElem? (i := 94) (by decide +kernel)) (by decide +kernel)), ⟨by decide +kernel, by decide +kernel, by decide +kernel⟩, by decide⟩
theorem mf_X8_isPart : MFs m_X8_isPart 3 := ⟨(allW_of (List.mem_of_getElem? (i := 928) (by decide +kernel)) (by decide +kernel)), (allW_of (List.mem_of_getElem? (i := 94) (by decide +kernel)) (by decide +kernel)), ⟨by decide +kernel, by decide +kernel, by decide +kernel⟩, by decide⟩
theorem mf_X8_copy : MFs m_X8_copy 5 := ⟨(allW_of (List.mem_of_getElem? (i := 925) (by decide +kernel)) (by decide +kernel)), (allW_of (List.mem_of_getElem? (i := 94) (by decide +kernel)) (by decide +kernel)), ⟨by decide +kernel, by decide +kernel, by decide +kernel⟩, by decide⟩
theorem mf_X8_drop : MFs m_X8_drop 1 := ⟨(allW_of (List.mem_of_getElem? (i := 932) (by decide +kernel)) (by decide +kernel)), (allW_of (List.mem_of_getElem? (i := 94) (by decide +kernel)) (by decide +kernel)), ⟨by decide +kernel, by decide +kernel, by decide +kernel⟩, by decide⟩
theorem mf_X8_feed : MFs m_X8_feed 1 := ⟨(allW_of (List.mem_of_getElem? (i := 936) (by decide +kernel)) (by decide +kernel)), (allW_of (List.mem_of_getElem? (i := 94) (by decide +kernel)) (by decide +kernel)), ⟨by decide +kernel, by decide +kernel, by decide +kernel⟩, by decide⟩
theorem mf_X8_nextToken : MFs m_X8_nextToken 0 := ⟨(allW_of (List.mem_of_getElem? (i := 953) (by decide +kernel)) (by decide +kernel)), (allW_of (List.mem_of_getElem? (i := 94) (by decide +kernel)) (by decide +kernel)), ⟨by decide +kernel, by decide +kernel, by decide +kernel⟩, by decide⟩
theorem mf_X8_fails : MFs m_X8_fails 1 := ⟨(allW_of (List.mem_of_getElem? (i := 957) (by decide +kernel)) (by decide +kernel)), (allW_of (List.mem_of_getElem? (i := 94) (by decide +kernel)) (by decide +kernel)), ⟨by decide +kernel, by decide +kernel, by decide +kernel⟩, by decide⟩
theorem mf_X8_isSign : MFs m_X8_isSign 1 := ⟨(allW_of (List.mem_of_getElem? (i := 949) (by decide +kernel)) (by decide +kernel)), (allW_of (List.mem_of_getElem? (i := 94) (by decide +kernel)) (by decide +kernel)), ⟨by decide +kernel, by decide +kernel, by decide +kernel⟩, by decide⟩
theorem mf_X8_isNumber : MFs m_X8_isNumber 2 := ⟨(allW_of (List.mem_of_getElem? (i := 965) (by decide +kernel)) (by decide +kernel)), (allW_of (List.mem_of_getElem? (i := 94) (by decide +kernel)) (by decide +kernel)), ⟨by decide +kernel, by decide +kernel, by decide +kernel⟩, by decide⟩
theorem mf_X8_sortBy : MFs m_X8_sortBy 1 := ⟨(allW_of (List.mem_of_getElem? (i := 972) (by decide +kernel)) (by decide +kernel)), (allW_of (List.mem_of_getElem? (i := 94) (by decide +kernel)) (by decide +kernel)), ⟨by decide +kernel, by decide +kernel, by decide +kernel⟩, by decide⟩
theorem mf_X8_isThree : MFs m_X8_isThree 6 := ⟨(allW_of (List.mem_of_getElem? (i := 961) (by decide +kernel)) (by decide +kernel)), (allW_of (List.mem_of_getElem? (i := 94) (by decide +kernel)) (by decide +kernel)), ⟨by decide +kernel, by decide +kernel, by decide +kernel⟩, by decide⟩
theorem mf_X8_isReader : MFs m_X8_isReader 0 := ⟨(allW_of (List.mem_of_getElem? (i := 969) (by decide +kernel)) (by decide +kernel)), (allW_of (List.mem_of_getElem? (i := 94) (by decide +kernel)) (by decide +kernel)), ⟨by decide +kernel, by decide +kernel, by decide +kernel⟩, by decide⟩
theorem mf_X8_isRead : MFs m_X8_isRead 0 := ⟨(allW_of (List.mem_of_getElem? (i := 945) (by decide +kernel)) (by decide +kernel)), (allW_of (List.mem_of_getElem? (i := 94) (by decide +kernel)) (by decide +kernel)), ⟨by decide +kernel, by decide +kernel, by decide +kernel⟩, by decide⟩
theorem mf_X8_town : MFs m_X8_town 0 := ⟨(allW_of (List.mem_of_getElem? (i := 941) (by decide +kernel)) (by decide +kernel)), (allW_of (List.mem_of_getElem? (i := 94) (by decide +kernel)) (by decide +kernel)), ⟨by decide +kernel, by decide +kernel, by decide +kernel⟩, by decide⟩
theorem mf_X8_fault : MFs m_X8_fault 0 := ⟨(allW_of (List.mem_of_getElem? (i := 980) (by decide +kernel)) (by decide +kernel)), (allW_of (List.mem_of_getElem? (i := 94) (by decide +kernel)) (by decide +kernel)), ⟨by decide +kernel, by decide +kernel, by decide +kernel⟩, by decide⟩
theorem mf_X8_note : MFs m_X8_note 0 := ⟨(allW_of (List.mem_of_getElem? (i := 1002) (by decide +kernel)) (by decide +kernel)), (allW_of (List.mem_of_getElem? (i := 94) (by decide +kernel)) (by decide +kernel)), ⟨by decide +kernel, by decide +kernel, by decide +kernel⟩, by decide⟩
theorem mf_X8_comesTo : MFs m_X8_comesTo 2 := ⟨(allW_of (List.mem_of_getElem? (i := 997) (by decide +kernel)) (by decide +kernel)), (allW_of (List.mem_of_getElem? (i := 94) (by decide +kernel)) (by decide +kernel)), ⟨by decide +kernel, by decide +kernel, by decide +kernel⟩, by decide⟩
theorem mf_X8_canBe : MFs m_X8_canBe 2 := ⟨(allW_of (List.mem_of_getElem? (i := 991) (by decide +kernel)) (by decide +kernel)), (allW_of (List.mem_of_getElem? (i := 94) (by decide +kernel)) (by decide +kernel)), ⟨by decide +kernel, by decide +kernel, by decide +kernel⟩, by decide⟩
theorem mf_X8_bringsBy : MFs m_X8_bringsBy 2 := ⟨(allW_of (List.mem_of_getElem? (i := 1008) (by decide +kernel)) (by decide +kernel)), (allW_of (List.mem_of_getElem? (i := 94) (by decide +kernel)) (by decide +kernel)), ⟨by decide +kernel, by decide +kernel, by decide +kernel⟩, by decide⟩
theorem mf_X8_gives : MFs m_X8_gives 2 := ⟨(allW_of (List.mem_of_getElem? (i := 1005) (by decide +kernel)) (by decide +kernel)), (allW_of (List.mem_of_getElem? (i := 94) (by decide +kernel)) (by decide +kernel)), ⟨by decide +kernel, by decide +kernel, by decide +kernel⟩, by decide⟩
theorem mf_X8_give : MFs m_X8_give 1 := ⟨(allW_of (List.mem_of_getElem? (i := 984) (by decide +kernel)) (by decide +kernel)), (allW_of (List.mem_of_getElem? (i := 94) (by decide +kernel)) (by decide +kernel)), ⟨by decide +kernel, by decide +kernel, by decide +kernel⟩, by decide⟩
theorem mf_X8_pause : MFs m_X8_pause 1 := ⟨(allW_of (List.mem_of_getElem? (i := 1012) (by decide +kernel)) (by decide +kernel)), (allW_of (List.mem_of_getElem? (i := 94) (by decide +kernel)) (by decide +kernel)), ⟨by decide +kernel, by decide +kernel, by decide +kernel⟩, by decide⟩
theorem mf_X8_value : MFs m_X8_value 2 := ⟨(allW_of (List.mem_of_getElem? (i := 1020) (by decide +kernel)) (by decide +kernel)), (allW_of (List.mem_of_getElem? (i := 94) (by decide +kernel)) (by decide +kernel)), ⟨by decide +kernel, by decide +kernel, by decide +kernel⟩, by decide⟩
theorem mf_X8_move : MFs m_X8_move 2 := ⟨(allW_of (List.mem_of_getElem? (i := 1024) (by decide +kernel)) (by decide +kernel)), (allW_of (List.mem_of_getElem? (i := 94) (by decide +kernel)) (by decide +kernel)), ⟨by decide +kernel, by decide +kernel, by decide +kernel⟩, by decide⟩
theorem mf_X8_undo : MFs m_X8_undo 0 := ⟨(allW_of (List.mem_of_getElem? (i := 1028) (by decide +kernel)) (by decide +kernel)), (allW_of (List.mem_of_getElem? (i := 94) (by decide +kernel)) (by decide +kernel)), ⟨by decide +kernel, by decide +kernel, by decide +kernel⟩, by decide⟩
theorem mf_X8_reader : MFs m_X8_reader 2 := ⟨(allW_of (List.mem_of_getElem? (i := 1032) (by decide +kernel)) (by decide +kernel)), (allW_of (List.mem_of_getElem? (i := 94) (by decide +kernel)) (by decide +kernel)), ⟨by decide +kernel, by decide +kernel, by decide +kernel⟩, by decide⟩
theorem mf_X8_would : MFs m_X8_would 2 := ⟨(allW_of (List.mem_of_getElem? (i := 1036) (by decide +kernel)) (by decide +kernel)), (allW_of (List.mem_of_getElem? (i := 94) (by decide +kernel)) (by decide +kernel)), ⟨by decide +kernel, by decide +kernel, by decide +kernel⟩, by decide⟩
theorem mf_X8_begin : MFs m_X8_begin 0 := ⟨(allW_of (List.mem_of_getElem? (i := 1060) (by decide +kernel)) (by decide +kernel)), (allW_of (List.mem_of_getElem? (i := 94) (by decide +kernel)) (by decide +kernel)), ⟨by decide +kernel, by decide +kernel, by decide +kernel⟩, by decide⟩
theorem mf_X8_goesOn : MFs m_X8_goesOn 2 := ⟨(allW_of (List.mem_of_getElem? (i := 1064) (by decide +kernel)) (by decide +kernel)), (allW_of (List.mem_of_getElem? (i := 94) (by decide +kernel)) (by decide +kernel)), ⟨by decide +kernel, by decide +kernel, by decide +kernel⟩, by decide⟩
theorem mf_X8_layRow : MFs m_X8_layRow 2 := ⟨(allW_of (List.mem_of_getElem? (i := 1053) (by decide +kernel)) (by decide +kernel)), (allW_of (List.mem_of_getElem? (i := 94) (by decide +kernel)) (by decide +kernel)), ⟨by decide +kernel, by decide +kernel, by decide +kernel⟩, by decide⟩
theorem mf_X8_bits : MFs m_X8_bits 1 := ⟨(allW_of (List.mem_of_getElem? (i := 1056) (by decide +kernel)) (by decide +kernel)), (allW_of (List.mem_of_getElem? (i := 94) (by decide +kernel)) (by decide +kernel)), ⟨by decide +kernel, by decide +kernel, by decide +kernel⟩, by decide⟩
theorem mf_X8_rowsOf : MFs m_X8_rowsOf 1 := ⟨(allW_of (List.mem_of_getElem? (i := 1049) (by decide +kernel)) (by decide +kernel)), (allW_of (List.mem_of_getElem? (i := 94) (by decide +kernel)) (by decide +kernel)), ⟨by decide +kernel, by decide +kernel, by decide +kernel⟩, by decide⟩
theorem mf_X8_keepRow : MFs m_X8_keepRow 2 := ⟨(allW_of (List.mem_of_getElem? (i := 1045) (by decide +kernel)) (by decide +kernel)), (allW_of (List.mem_of_getElem? (i := 94) (by decide +kernel)) (by decide +kernel)), ⟨by decide +kernel, by decide +kernel, by decide +kernel⟩, by decide⟩
theorem mf_X8_best : MFs m_X8_best 1 := ⟨(allW_of (List.mem_of_getElem? (i := 1041) (by decide +kernel)) (by decide +kernel)), (allW_of (List.mem_of_getElem? (i := 94) (by decide +kernel)) (by decide +kernel)), ⟨by decide +kernel, by decide +kernel, by decide +kernel⟩, by decide⟩
theorem mf_X8_soonest : MFs m_X8_soonest 2 := ⟨(allW_of (List.mem_of_getElem? (i := 1068) (by decide +kernel)) (by decide +kernel)), (allW_of (List.mem_of_getElem? (i := 94) (by decide +kernel)) (by decide +kernel)), ⟨by decide +kernel, by decide +kernel, by decide +kernel⟩, by decide⟩
theorem mf_X8_laySets : MFs m_X8_laySets 0 := ⟨(allW_of (List.mem_of_getElem? (i := 1076) (by decide +kernel)) (by decide +kernel)), (allW_of (List.mem_of_getElem? (i := 94) (by decide +kernel)) (by decide +kernel)), ⟨by decide +kernel, by decide +kernel, by decide +kernel⟩, by decide⟩
theorem mf_X8_copies : MFs m_X8_copies 2 := ⟨(allW_of (List.mem_of_getElem? (i := 1072) (by decide +kernel)) (by decide +kernel)), (allW_of (List.mem_of_getElem? (i := 94) (by decide +kernel)) (by decide +kernel)), ⟨by decide +kernel, by decide +kernel, by decide +kernel⟩, by decide⟩
theorem mf_X8_earnedBy : MFs m_X8_earnedBy 2 := ⟨(allW_of (List.mem_of_getElem? (i := 1080) (by decide +kernel)) (by decide +kernel)), (allW_of (List.mem_of_getElem? (i := 94) (by decide +kernel)) (by decide +kernel)), ⟨by decide +kernel, by decide +kernel, by decide +kernel⟩, by decide⟩
theorem mf_X8_takeOut : MFs m_X8_takeOut 3 := ⟨(allW_of (List.mem_of_getElem? (i := 1088) (by decide +kernel)) (by decide +kernel)), (allW_of (List.mem_of_getElem? (i := 94) (by decide +kernel)) (by decide +kernel)), ⟨by decide +kernel, by decide +kernel, by decide +kernel⟩, by decide⟩
theorem mf_X8_isSo : MFs m_X8_isSo 2 := ⟨(allW_of (List.mem_of_getElem? (i := 1092) (by decide +kernel)) (by decide +kernel)), (allW_of (List.mem_of_getElem? (i := 94) (by decide +kernel)) (by decide +kernel)), ⟨by decide +kernel, by decide +kernel, by decide +kernel⟩, by decide⟩
theorem mf_X8_fits : MFs m_X8_fits 6 := ⟨(allW_of (List.mem_of_getElem? (i := 1084) (by decide +kernel)) (by decide +kernel)), (allW_of (List.mem_of_getElem? (i := 94) (by decide +kernel)) (by decide +kernel)), ⟨by decide +kernel, by decide +kernel, by decide +kernel⟩, by decide⟩
theorem mf_X8_lost : MFs m_X8_lost 6 := ⟨(allW_of (List.mem_of_getElem? (i := 1096) (by decide +kernel)) (by decide +kernel)), (allW_of (List.mem_of_getElem? (i := 94) (by decide +kernel)) (by decide +kernel)), ⟨by decide +kernel, by decide +kernel, by decide +kernel⟩, by decide⟩
theorem mf_X8_drawn : MFs m_X8_drawn 3 := ⟨(allW_of (List.mem_of_getElem? (i := 1100) (by decide +kernel)) (by decide +kernel)), (allW_of (List.mem_of_getElem? (i := 94) (by decide +kernel)) (by decide +kernel)), ⟨by decide +kernel, by decide +kernel, by decide +kernel⟩, by decide⟩
theorem mf_X8_image : MFs m_X8_image 1 := ⟨(allW_of (List.mem_of_getElem? (i := 1107) (by decide +kernel)) (by decide +kernel)), (allW_of (List.mem_of_getElem? (i := 94) (by decide +kernel)) (by decide +kernel)), ⟨by decide +kernel, by decide +kernel, by decide +kernel⟩, by decide⟩
theorem mf_X8_restore : MFs m_X8_restore 1 := ⟨(allW_of (List.mem_of_getElem? (i := 1111) (by decide +kernel)) (by decide +kernel)), (allW_of (List.mem_of_getElem? (i := 94) (by decide +kernel)) (by decide +kernel)), ⟨by decide +kernel, by decide +kernel, by decide +kernel⟩, by decide⟩
theorem mf_X8_kind : MFs m_X8_kind 1 := ⟨(allW_of (List.mem_of_getElem? (i := 1115) (by decide +kernel)) (by decide +kernel)), (allW_of (List.mem_of_getElem? (i := 94) (by decide +kernel)) (by decide +kernel)), ⟨by decide +kernel, by decide +kernel, by decide +kernel⟩, by decide⟩
theorem mf_X8_parentOf : MFs m_X8_parentOf 1 := ⟨(allW_of (List.mem_of_getElem? (i := 1122) (by decide +kernel)) (by decide +kernel)), (allW_of (List.mem_of_getElem? (i := 94) (by decide +kernel)) (by decide +kernel)), ⟨by decide +kernel, by decide +kernel, by decide +kernel⟩, by decide⟩
theorem mf_X8_as : MFs m_X8_as 2 := ⟨(allW_of (List.mem_of_getElem? (i := 1119) (by decide +kernel)) (by decide +kernel)), (allW_of (List.mem_of_getElem? (i := 94) (by decide +kernel)) (by decide +kernel)), ⟨by decide +kernel, by decide +kernel, by decide +kernel⟩, by decide⟩
theorem mf_X8_begins : MFs m_X8_begins 1 := ⟨(allW_of (List.mem_of_getElem? (i := 1134) (by decide +kernel)) (by decide +kernel)), (allW_of (List.mem_of_getElem? (i := 94) (by decide +kernel)) (by decide +kernel)), ⟨by decide +kernel, by decide +kernel, by decide +kernel⟩, by decide⟩
theorem mf_X8_markFresh : MFs m_X8_markFresh 1 := ⟨(allW_of (List.mem_of_getElem? (i := 1146) (by decide +kernel)) (by decide +kernel)), (allW_of (List.mem_of_getElem? (i := 94) (by decide +kernel)) (by decide +kernel)), ⟨by decide +kernel, by decide +kernel, by decide +kernel⟩, by decide⟩
theorem mf_X8_markNew : MFs m_X8_markNew 1 := ⟨(allW_of (List.mem_of_getElem? (i := 1142) (by decide +kernel)) (by decide +kernel)), (allW_of (List.mem_of_getElem? (i := 94) (by decide +kernel)) (by decide +kernel)), ⟨by decide +kernel, by decide +kernel, by decide +kernel⟩, by decide⟩
theorem mf_X8_sizeOld : MFs m_X8_sizeOld 1 := ⟨(allW_of (List.mem_of_getElem? (i := 1138) (by decide +kernel)) (by decide +kernel)), (allW_of (List.mem_of_getElem? (i := 94) (by decide +kernel)) (by decide +kernel)), ⟨by decide +kernel, by decide +kernel, by decide +kernel⟩, by decide⟩
theorem mf_X8_sizeOf : MFs m_X8_sizeOf 1 := ⟨(allW_of (List.mem_of_getElem? (i := 1130) (by decide +kernel)) (by decide +kernel)), (allW_of (List.mem_of_getElem? (i := 94) (by decide +kernel)) (by decide +kernel)), ⟨by decide +kernel, by decide +kernel, by decide +kernel⟩, by decide⟩
theorem mf_X8_markOf : MFs m_X8_markOf 1 := ⟨(allW_of (List.mem_of_getElem? (i := 1150) (by decide +kernel)) (by decide +kernel)), (allW_of (List.mem_of_getElem? (i := 94) (by decide +kernel)) (by decide +kernel)), ⟨by decide +kernel, by decide +kernel, by decide +kernel⟩, by decide⟩
theorem mf_X8_ask : MFs m_X8_ask 2 := ⟨(allW_of (List.mem_of_getElem? (i := 1126) (by decide +kernel)) (by decide +kernel)), (allW_of (List.mem_of_getElem? (i := 94) (by decide +kernel)) (by decide +kernel)), ⟨by decide +kernel, by decide +kernel, by decide +kernel⟩, by decide⟩
theorem mf_X8_trace : MFs m_X8_trace 1 := ⟨(allW_of (List.mem_of_getElem? (i := 1154) (by decide +kernel)) (by decide +kernel)), (allW_of (List.mem_of_getElem? (i := 94) (by decide +kernel)) (by decide +kernel)), ⟨by decide +kernel, by decide +kernel, by decide +kernel⟩, by decide⟩
theorem mf_X8_count : MFs m_X8_count 1 := ⟨(allW_of (List.mem_of_getElem? (i := 1158) (by decide +kernel)) (by decide +kernel)), (allW_of (List.mem_of_getElem? (i := 94) (by decide +kernel)) (by decide +kernel)), ⟨by decide +kernel, by decide +kernel, by decide +kernel⟩, by decide⟩
theorem mf_X8_status : MFs m_X8_status 0 := ⟨(allW_of (List.mem_of_getElem? (i := 1162) (by decide +kernel)) (by decide +kernel)), (allW_of (List.mem_of_getElem? (i := 94) (by decide +kernel)) (by decide +kernel)), ⟨by decide +kernel, by decide +kernel, by decide +kernel⟩, by decide⟩
theorem mf_J9_abs_0f7a4 : MFs m_J9_abs_0f7a4 1 := ⟨(allW_of (List.mem_of_getElem? (i := 542) (by decide +kernel)) (by decide +kernel)), (allW_of (List.mem_of_getElem? (i := 96) (by decide +kernel)) (by decide +kernel)), ⟨by decide +kernel, by decide +kernel, by decide +kernel⟩, by decide⟩
theorem mf_J9_max_7cf53 : MFs m_J9_max_7cf53 2 := ⟨(allW_of (List.mem_of_getElem? (i := 559) (by decide +kernel)) (by decide +kernel)), (allW_of (List.mem_of_getElem? (i := 96) (by decide +kernel)) (by decide +kernel)), ⟨by decide +kernel, by decide +kernel, by decide +kernel⟩, by decide⟩
theorem mf_J7_fill_53178 : MFs m_J7_fill_53178 2 := ⟨(allW_of (List.mem_of_getElem? (i := 115) (by decide +kernel)) (by decide +kernel)), (allW_of (List.mem_of_getElem? (i := 87) (by decide +kernel)) (by decide +kernel)), ⟨by decide +kernel, by decide +kernel, by decide +kernel⟩, by decide⟩
theorem ss_X2_23 : SSs RX2 23 m_J7_fill_53178 2 false := ⟨mf_J7_fill_53178, (allW_of (List.mem_of_getElem? (i := 113) (by decide +kernel)) (by decide +kernel)), (allW_of (List.mem_of_getElem? (i := 114) (by decide +kernel)) (by decide +kernel))⟩
theorem sv_L_13 : SVs RL 13 m_X7_row 3 false := ⟨mf_X7_row, (allW_of (List.mem_of_getElem? (i := 392) (by decide +kernel)) (by decide +kernel)), (allW_of (List.mem_of_getElem? (i := 393) (by decide +kernel)) (by decide +kernel)), (allW_of (List.mem_of_getElem? (i := 394) (by decide +kernel)) (by decide +kernel))⟩
theorem ss_X7_67 : SSs RX7 67 m_X2_isNumber 1 true := ⟨mf_X2_isNumber, ⟨"PaperHour", (nestW_of (List.mem_of_getElem? (i := 396) (by decide +kernel)) (by decide +kernel))⟩, (allW_of (List.mem_of_getElem? (i := 397) (by decide +kernel)) (by decide +kernel))⟩
theorem sv_X7_72 : SVs RX7 72 m_X7_found 1 false := ⟨mf_X7_found, (allW_of (List.mem_of_getElem? (i := 400) (by decide +kernel)) (by decide +kernel)), (allW_of (List.mem_of_getElem? (i := 402) (by decide +kernel)) (by decide +kernel)), (allW_of (List.mem_of_getElem? (i := 0) (by decide +kernel)) (by decide +kernel))⟩
theorem sv_X7_76 : SVs RX7 76 m_X2_lay 3 true := ⟨mf_X2_lay, ⟨"PaperHour", (nestW_of (List.mem_of_getElem? (i := 405) (by decide +kernel)) (by decide +kernel))⟩, (allW_of (List.mem_of_getElem? (i := 407) (by decide +kernel)) (by decide +kernel)), (allW_of (List.mem_of_getElem? (i := 1) (by decide +kernel)) (by decide +kernel))⟩
theorem sv_X7_80 : SVs RX7 80 m_X7_foundNothing 1 false := ⟨mf_X7_foundNothing, (allW_of (List.mem_of_getElem? (i := 409) (by decide +kernel)) (by decide +kernel)), (allW_of (List.mem_of_getElem? (i := 411) (by decide +kernel)) (by decide +kernel)), (allW_of (List.mem_of_getElem? (i := 2) (by decide +kernel)) (by decide +kernel))⟩
theorem sv_L_18 : SVs RL 18 m_X7_set 3 false := ⟨mf_X7_set, (allW_of (List.mem_of_getElem? (i := 413) (by decide +kernel)) (by decide +kernel)), (allW_of (List.mem_of_getElem? (i := 414) (by decide +kernel)) (by decide +kernel)), (allW_of (List.mem_of_getElem? (i := 415) (by decide +kernel)) (by decide +kernel))⟩
theorem sv_X7_83 : SVs RX7 83 m_X2_findingOf 3 true := ⟨mf_X2_findingOf, ⟨"PaperHour", (nestW_of (List.mem_of_getElem? (i := 417) (by decide +kernel)) (by decide +kernel))⟩, (allW_of (List.mem_of_getElem? (i := 419) (by decide +kernel)) (by decide +kernel)), (allW_of (List.mem_of_getElem? (i := 3) (by decide +kernel)) (by decide +kernel))⟩
theorem sv_X2_29 : SVs RX2 29 m_X2_isMissing 1 false := ⟨mf_X2_isMissing, (allW_of (List.mem_of_getElem? (i := 421) (by decide +kernel)) (by decide +kernel)), (allW_of (List.mem_of_getElem? (i := 423) (by decide +kernel)) (by decide +kernel)), (allW_of (List.mem_of_getElem? (i := 4) (by decide +kernel)) (by decide +kernel))⟩
theorem sv_X2_33 : SVs RX2 33 m_X2_hasSpan 3 false := ⟨mf_X2_hasSpan, (allW_of (List.mem_of_getElem? (i := 425) (by decide +kernel)) (by decide +kernel)), (allW_of (List.mem_of_getElem? (i := 427) (by decide +kernel)) (by decide +kernel)), (allW_of (List.mem_of_getElem? (i := 5) (by decide +kernel)) (by decide +kernel))⟩
theorem sv_X7_87 : SVs RX7 87 m_X2_put 3 true := ⟨mf_X2_put, ⟨"PaperHour", (nestW_of (List.mem_of_getElem? (i := 429) (by decide +kernel)) (by decide +kernel))⟩, (allW_of (List.mem_of_getElem? (i := 431) (by decide +kernel)) (by decide +kernel)), (allW_of (List.mem_of_getElem? (i := 6) (by decide +kernel)) (by decide +kernel))⟩
theorem sv_L_22 : SVs RL 22 m_X7_copy 5 false := ⟨mf_X7_copy, (allW_of (List.mem_of_getElem? (i := 433) (by decide +kernel)) (by decide +kernel)), (allW_of (List.mem_of_getElem? (i := 434) (by decide +kernel)) (by decide +kernel)), (allW_of (List.mem_of_getElem? (i := 435) (by decide +kernel)) (by decide +kernel))⟩
theorem sv_X7_90 : SVs RX7 90 m_X2_isMissing 1 true := ⟨mf_X2_isMissing, ⟨"PaperHour", (nestW_of (List.mem_of_getElem? (i := 437) (by decide +kernel)) (by decide +kernel))⟩, (allW_of (List.mem_of_getElem? (i := 423) (by decide +kernel)) (by decide +kernel)), (allW_of (List.mem_of_getElem? (i := 4) (by decide +kernel)) (by decide +kernel))⟩
theorem sv_X7_97 : SVs RX7 97 m_X2_hasSpan 3 true := ⟨mf_X2_hasSpan, ⟨"PaperHour", (nestW_of (List.mem_of_getElem? (i := 438) (by decide +kernel)) (by decide +kernel))⟩, (allW_of (List.mem_of_getElem? (i := 427) (by decide +kernel)) (by decide +kernel)), (allW_of (List.mem_of_getElem? (i := 5) (by decide +kernel)) (by decide +kernel))⟩
theorem sv_L_27 : SVs RL 27 m_X7_drop 1 false := ⟨mf_X7_drop, (allW_of (List.mem_of_getElem? (i := 442) (by decide +kernel)) (by decide +kernel)), (allW_of (List.mem_of_getElem? (i := 443) (by decide +kernel)) (by decide +kernel)), (allW_of (List.mem_of_getElem? (i := 444) (by decide +kernel)) (by decide +kernel))⟩
theorem sv_X7_111 : SVs RX7 111 m_X2_takeAway 1 true := ⟨mf_X2_takeAway, ⟨"PaperHour", (nestW_of (List.mem_of_getElem? (i := 446) (by decide +kernel)) (by decide +kernel))⟩, (allW_of (List.mem_of_getElem? (i := 448) (by decide +kernel)) (by decide +kernel)), (allW_of (List.mem_of_getElem? (i := 7) (by decide +kernel)) (by decide +kernel))⟩
theorem sv_L_32 : SVs RL 32 m_X7_feed 1 false := ⟨mf_X7_feed, (allW_of (List.mem_of_getElem? (i := 450) (by decide +kernel)) (by decide +kernel)), (allW_of (List.mem_of_getElem? (i := 451) (by decide +kernel)) (by decide +kernel)), (allW_of (List.mem_of_getElem? (i := 452) (by decide +kernel)) (by decide +kernel))⟩
theorem sv_X7_114 : SVs RX7 114 m_X5_append 1 true := ⟨mf_X5_append, ⟨"PaperHour", (nestW_of (List.mem_of_getElem? (i := 454) (by decide +kernel)) (by decide +kernel))⟩, (allW_of (List.mem_of_getElem? (i := 456) (by decide +kernel)) (by decide +kernel)), (allW_of (List.mem_of_getElem? (i := 8) (by decide +kernel)) (by decide +kernel))⟩
theorem sv_L_36 : SVs RL 36 m_X7_town 0 false := ⟨mf_X7_town, (allW_of (List.mem_of_getElem? (i := 459) (by decide +kernel)) (by decide +kernel)), (allW_of (List.mem_of_getElem? (i := 460) (by decide +kernel)) (by decide +kernel)), (allW_of (List.mem_of_getElem? (i := 461) (by decide +kernel)) (by decide +kernel))⟩
theorem sv_X7_122 : SVs RX7 122 m_X5_readInto 1 true := ⟨mf_X5_readInto, ⟨"PaperHour", (nestW_of (List.mem_of_getElem? (i := 463) (by decide +kernel)) (by decide +kernel))⟩, (allW_of (List.mem_of_getElem? (i := 465) (by decide +kernel)) (by decide +kernel)), (allW_of (List.mem_of_getElem? (i := 9) (by decide +kernel)) (by decide +kernel))⟩
theorem sv_X5_26 : SVs RX5 26 m_X5_readLaw 1 false := ⟨mf_X5_readLaw, (allW_of (List.mem_of_getElem? (i := 467) (by decide +kernel)) (by decide +kernel)), (allW_of (List.mem_of_getElem? (i := 469) (by decide +kernel)) (by decide +kernel)), (allW_of (List.mem_of_getElem? (i := 10) (by decide +kernel)) (by decide +kernel))⟩
theorem sv_X5_38 : SVs RX5 38 m_X5_readByte 1 false := ⟨mf_X5_readByte, (allW_of (List.mem_of_getElem? (i := 471) (by decide +kernel)) (by decide +kernel)), (allW_of (List.mem_of_getElem? (i := 473) (by decide +kernel)) (by decide +kernel)), (allW_of (List.mem_of_getElem? (i := 11) (by decide +kernel)) (by decide +kernel))⟩
theorem sv_X5_55 : SVs RX5 55 m_X5_peek 0 false := ⟨mf_X5_peek, (allW_of (List.mem_of_getElem? (i := 475) (by decide +kernel)) (by decide +kernel)), (allW_of (List.mem_of_getElem? (i := 477) (by decide +kernel)) (by decide +kernel)), (allW_of (List.mem_of_getElem? (i := 12) (by decide +kernel)) (by decide +kernel))⟩
theorem sv_X5_62 : SVs RX5 62 m_X5_fail 1 false := ⟨mf_X5_fail, (allW_of (List.mem_of_getElem? (i := 479) (by decide +kernel)) (by decide +kernel)), (allW_of (List.mem_of_getElem? (i := 481) (by decide +kernel)) (by decide +kernel)), (allW_of (List.mem_of_getElem? (i := 13) (by decide +kernel)) (by decide +kernel))⟩
theorem sv_X5_42 : SVs RX5 42 m_X5_readNumber 1 false := ⟨mf_X5_readNumber, (allW_of (List.mem_of_getElem? (i := 483) (by decide +kernel)) (by decide +kernel)), (allW_of (List.mem_of_getElem? (i := 485) (by decide +kernel)) (by decide +kernel)), (allW_of (List.mem_of_getElem? (i := 14) (by decide +kernel)) (by decide +kernel))⟩
theorem ss_X5_77 : SSs RX5 77 m_X5_isFigure 1 false := ⟨mf_X5_isFigure, (allW_of (List.mem_of_getElem? (i := 487) (by decide +kernel)) (by decide +kernel)), (allW_of (List.mem_of_getElem? (i := 488) (by decide +kernel)) (by decide +kernel))⟩
theorem sv_X5_35 : SVs RX5 35 m_X5_readReader 1 false := ⟨mf_X5_readReader, (allW_of (List.mem_of_getElem? (i := 490) (by decide +kernel)) (by decide +kernel)), (allW_of (List.mem_of_getElem? (i := 492) (by decide +kernel)) (by decide +kernel)), (allW_of (List.mem_of_getElem? (i := 15) (by decide +kernel)) (by decide +kernel))⟩
theorem ss_X5_59 : SSs RX5 59 m_X5_sortOf 1 false := ⟨mf_X5_sortOf, (allW_of (List.mem_of_getElem? (i := 494) (by decide +kernel)) (by decide +kernel)), (allW_of (List.mem_of_getElem? (i := 495) (by decide +kernel)) (by decide +kernel))⟩
theorem sv_X7_134 : SVs RX7 134 m_X6_begin 0 true := ⟨mf_X6_begin, ⟨"PaperHour", (nestW_of (List.mem_of_getElem? (i := 498) (by decide +kernel)) (by decide +kernel))⟩, (allW_of (List.mem_of_getElem? (i := 500) (by decide +kernel)) (by decide +kernel)), (allW_of (List.mem_of_getElem? (i := 16) (by decide +kernel)) (by decide +kernel))⟩
theorem sv_X6_59 : SVs RX6 59 m_X6_copyStands 4 false := ⟨mf_X6_copyStands, (allW_of (List.mem_of_getElem? (i := 502) (by decide +kernel)) (by decide +kernel)), (allW_of (List.mem_of_getElem? (i := 504) (by decide +kernel)) (by decide +kernel)), (allW_of (List.mem_of_getElem? (i := 17) (by decide +kernel)) (by decide +kernel))⟩
theorem sv_X7_137 : SVs RX7 137 m_X6_takeOver 1 true := ⟨mf_X6_takeOver, ⟨"PaperHour", (nestW_of (List.mem_of_getElem? (i := 506) (by decide +kernel)) (by decide +kernel))⟩, (allW_of (List.mem_of_getElem? (i := 508) (by decide +kernel)) (by decide +kernel)), (allW_of (List.mem_of_getElem? (i := 18) (by decide +kernel)) (by decide +kernel))⟩
theorem sv_X7_141 : SVs RX7 141 m_X0_forget 0 true := ⟨mf_X0_forget, ⟨"PaperHour", (nestW_of (List.mem_of_getElem? (i := 511) (by decide +kernel)) (by decide +kernel))⟩, (allW_of (List.mem_of_getElem? (i := 513) (by decide +kernel)) (by decide +kernel)), (allW_of (List.mem_of_getElem? (i := 19) (by decide +kernel)) (by decide +kernel))⟩
theorem sv_L_41 : SVs RL 41 m_X7_fault 0 false := ⟨mf_X7_fault, (allW_of (List.mem_of_getElem? (i := 515) (by decide +kernel)) (by decide +kernel)), (allW_of (List.mem_of_getElem? (i := 516) (by decide +kernel)) (by decide +kernel)), (allW_of (List.mem_of_getElem? (i := 517) (by decide +kernel)) (by decide +kernel))⟩
theorem sv_L_45 : SVs RL 45 m_X7_give 1 false := ⟨mf_X7_give, (allW_of (List.mem_of_getElem? (i := 519) (by decide +kernel)) (by decide +kernel)), (allW_of (List.mem_of_getElem? (i := 520) (by decide +kernel)) (by decide +kernel)), (allW_of (List.mem_of_getElem? (i := 521) (by decide +kernel)) (by decide +kernel))⟩
theorem sv_X7_150 : SVs RX7 150 m_X6_has 1 true := ⟨mf_X6_has, ⟨"PaperHour", (nestW_of (List.mem_of_getElem? (i := 523) (by decide +kernel)) (by decide +kernel))⟩, (allW_of (List.mem_of_getElem? (i := 525) (by decide +kernel)) (by decide +kernel)), (allW_of (List.mem_of_getElem? (i := 20) (by decide +kernel)) (by decide +kernel))⟩
theorem sv_X7_153 : SVs RX7 153 m_X6_canHave 1 true := ⟨mf_X6_canHave, ⟨"PaperHour", (nestW_of (List.mem_of_getElem? (i := 527) (by decide +kernel)) (by decide +kernel))⟩, (allW_of (List.mem_of_getElem? (i := 529) (by decide +kernel)) (by decide +kernel)), (allW_of (List.mem_of_getElem? (i := 21) (by decide +kernel)) (by decide +kernel))⟩
theorem sv_X6_63 : SVs RX6 63 m_X6_has 1 false := ⟨mf_X6_has, (allW_of (List.mem_of_getElem? (i := 531) (by decide +kernel)) (by decide +kernel)), (allW_of (List.mem_of_getElem? (i := 525) (by decide +kernel)) (by decide +kernel)), (allW_of (List.mem_of_getElem? (i := 20) (by decide +kernel)) (by decide +kernel))⟩
theorem sv_X6_67 : SVs RX6 67 m_X6_hasRead 1 false := ⟨mf_X6_hasRead, (allW_of (List.mem_of_getElem? (i := 532) (by decide +kernel)) (by decide +kernel)), (allW_of (List.mem_of_getElem? (i := 534) (by decide +kernel)) (by decide +kernel)), (allW_of (List.mem_of_getElem? (i := 22) (by decide +kernel)) (by decide +kernel))⟩
theorem sv_X6_70 : SVs RX6 70 m_X6_comes 1 false := ⟨mf_X6_comes, (allW_of (List.mem_of_getElem? (i := 536) (by decide +kernel)) (by decide +kernel)), (allW_of (List.mem_of_getElem? (i := 538) (by decide +kernel)) (by decide +kernel)), (allW_of (List.mem_of_getElem? (i := 23) (by decide +kernel)) (by decide +kernel))⟩
theorem ss_X6_74 : SSs RX6 74 m_J9_abs_0f7a4 1 false := ⟨mf_J9_abs_0f7a4, (allW_of (List.mem_of_getElem? (i := 540) (by decide +kernel)) (by decide +kernel)), (allW_of (List.mem_of_getElem? (i := 541) (by decide +kernel)) (by decide +kernel))⟩
theorem sv_X7_157 : SVs RX7 157 m_X0_keep 2 true := ⟨mf_X0_keep, ⟨"PaperHour", (nestW_of (List.mem_of_getElem? (i := 544) (by decide +kernel)) (by decide +kernel))⟩, (allW_of (List.mem_of_getElem? (i := 546) (by decide +kernel)) (by decide +kernel)), (allW_of (List.mem_of_getElem? (i := 24) (by decide +kernel)) (by decide +kernel))⟩
theorem sv_X0_21 : SVs RX0 21 m_X6_has 1 true := ⟨mf_X6_has, ⟨"PaperHour", (nestW_of (List.mem_of_getElem? (i := 548) (by decide +kernel)) (by decide +kernel))⟩, (allW_of (List.mem_of_getElem? (i := 525) (by decide +kernel)) (by decide +kernel)), (allW_of (List.mem_of_getElem? (i := 20) (by decide +kernel)) (by decide +kernel))⟩
theorem sv_X7_161 : SVs RX7 161 m_X6_hand 1 true := ⟨mf_X6_hand, ⟨"PaperHour", (nestW_of (List.mem_of_getElem? (i := 549) (by decide +kernel)) (by decide +kernel))⟩, (allW_of (List.mem_of_getElem? (i := 551) (by decide +kernel)) (by decide +kernel)), (allW_of (List.mem_of_getElem? (i := 25) (by decide +kernel)) (by decide +kernel))⟩
theorem sv_X6_86 : SVs RX6 86 m_X6_brings 1 false := ⟨mf_X6_brings, (allW_of (List.mem_of_getElem? (i := 553) (by decide +kernel)) (by decide +kernel)), (allW_of (List.mem_of_getElem? (i := 555) (by decide +kernel)) (by decide +kernel)), (allW_of (List.mem_of_getElem? (i := 26) (by decide +kernel)) (by decide +kernel))⟩
theorem ss_X6_79 : SSs RX6 79 m_J9_max_7cf53 2 false := ⟨mf_J9_max_7cf53, (allW_of (List.mem_of_getElem? (i := 557) (by decide +kernel)) (by decide +kernel)), (allW_of (List.mem_of_getElem? (i := 558) (by decide +kernel)) (by decide +kernel))⟩
theorem sv_X6_83 : SVs RX6 83 m_X6_neighbours 1 false := ⟨mf_X6_neighbours, (allW_of (List.mem_of_getElem? (i := 560) (by decide +kernel)) (by decide +kernel)), (allW_of (List.mem_of_getElem? (i := 562) (by decide +kernel)) (by decide +kernel)), (allW_of (List.mem_of_getElem? (i := 27) (by decide +kernel)) (by decide +kernel))⟩
theorem sv_L_49 : SVs RL 49 m_X7_pause 1 false := ⟨mf_X7_pause, (allW_of (List.mem_of_getElem? (i := 564) (by decide +kernel)) (by decide +kernel)), (allW_of (List.mem_of_getElem? (i := 565) (by decide +kernel)) (by decide +kernel)), (allW_of (List.mem_of_getElem? (i := 566) (by decide +kernel)) (by decide +kernel))⟩
theorem sv_L_53 : SVs RL 53 m_X7_value 2 false := ⟨mf_X7_value, (allW_of (List.mem_of_getElem? (i := 568) (by decide +kernel)) (by decide +kernel)), (allW_of (List.mem_of_getElem? (i := 569) (by decide +kernel)) (by decide +kernel)), (allW_of (List.mem_of_getElem? (i := 570) (by decide +kernel)) (by decide +kernel))⟩
theorem sv_L_58 : SVs RL 58 m_X7_move 2 false := ⟨mf_X7_move, (allW_of (List.mem_of_getElem? (i := 572) (by decide +kernel)) (by decide +kernel)), (allW_of (List.mem_of_getElem? (i := 573) (by decide +kernel)) (by decide +kernel)), (allW_of (List.mem_of_getElem? (i := 574) (by decide +kernel)) (by decide +kernel))⟩
theorem sv_L_62 : SVs RL 62 m_X7_undo 0 false := ⟨mf_X7_undo, (allW_of (List.mem_of_getElem? (i := 576) (by decide +kernel)) (by decide +kernel)), (allW_of (List.mem_of_getElem? (i := 577) (by decide +kernel)) (by decide +kernel)), (allW_of (List.mem_of_getElem? (i := 578) (by decide +kernel)) (by decide +kernel))⟩
theorem sv_X7_176 : SVs RX7 176 m_X0_takeBack 1 true := ⟨mf_X0_takeBack, ⟨"PaperHour", (nestW_of (List.mem_of_getElem? (i := 580) (by decide +kernel)) (by decide +kernel))⟩, (allW_of (List.mem_of_getElem? (i := 582) (by decide +kernel)) (by decide +kernel)), (allW_of (List.mem_of_getElem? (i := 28) (by decide +kernel)) (by decide +kernel))⟩
theorem sv_X0_46 : SVs RX0 46 m_X6_copyStands 4 true := ⟨mf_X6_copyStands, ⟨"PaperHour", (nestW_of (List.mem_of_getElem? (i := 584) (by decide +kernel)) (by decide +kernel))⟩, (allW_of (List.mem_of_getElem? (i := 504) (by decide +kernel)) (by decide +kernel)), (allW_of (List.mem_of_getElem? (i := 17) (by decide +kernel)) (by decide +kernel))⟩
theorem sv_L_66 : SVs RL 66 m_X7_reader 2 false := ⟨mf_X7_reader, (allW_of (List.mem_of_getElem? (i := 585) (by decide +kernel)) (by decide +kernel)), (allW_of (List.mem_of_getElem? (i := 586) (by decide +kernel)) (by decide +kernel)), (allW_of (List.mem_of_getElem? (i := 587) (by decide +kernel)) (by decide +kernel))⟩
theorem sv_X7_182 : SVs RX7 182 m_X6_hasRead 1 true := ⟨mf_X6_hasRead, ⟨"PaperHour", (nestW_of (List.mem_of_getElem? (i := 589) (by decide +kernel)) (by decide +kernel))⟩, (allW_of (List.mem_of_getElem? (i := 534) (by decide +kernel)) (by decide +kernel)), (allW_of (List.mem_of_getElem? (i := 22) (by decide +kernel)) (by decide +kernel))⟩
theorem sv_L_70 : SVs RL 70 m_X7_would 2 false := ⟨mf_X7_would, (allW_of (List.mem_of_getElem? (i := 590) (by decide +kernel)) (by decide +kernel)), (allW_of (List.mem_of_getElem? (i := 591) (by decide +kernel)) (by decide +kernel)), (allW_of (List.mem_of_getElem? (i := 592) (by decide +kernel)) (by decide +kernel))⟩
theorem sv_X7_186 : SVs RX7 186 m_X6_comes 1 true := ⟨mf_X6_comes, ⟨"PaperHour", (nestW_of (List.mem_of_getElem? (i := 595) (by decide +kernel)) (by decide +kernel))⟩, (allW_of (List.mem_of_getElem? (i := 538) (by decide +kernel)) (by decide +kernel)), (allW_of (List.mem_of_getElem? (i := 23) (by decide +kernel)) (by decide +kernel))⟩
theorem sv_X7_189 : SVs RX7 189 m_X6_brings 1 true := ⟨mf_X6_brings, ⟨"PaperHour", (nestW_of (List.mem_of_getElem? (i := 596) (by decide +kernel)) (by decide +kernel))⟩, (allW_of (List.mem_of_getElem? (i := 555) (by decide +kernel)) (by decide +kernel)), (allW_of (List.mem_of_getElem? (i := 26) (by decide +kernel)) (by decide +kernel))⟩
theorem sv_L_74 : SVs RL 74 m_X7_best 1 false := ⟨mf_X7_best, (allW_of (List.mem_of_getElem? (i := 597) (by decide +kernel)) (by decide +kernel)), (allW_of (List.mem_of_getElem? (i := 598) (by decide +kernel)) (by decide +kernel)), (allW_of (List.mem_of_getElem? (i := 599) (by decide +kernel)) (by decide +kernel))⟩
theorem sv_X7_192 : SVs RX7 192 m_X3_forMost 1 true := ⟨mf_X3_forMost, ⟨"PaperHour", (nestW_of (List.mem_of_getElem? (i := 601) (by decide +kernel)) (by decide +kernel))⟩, (allW_of (List.mem_of_getElem? (i := 603) (by decide +kernel)) (by decide +kernel)), (allW_of (List.mem_of_getElem? (i := 29) (by decide +kernel)) (by decide +kernel))⟩
theorem sv_X3_28 : SVs RX3 28 m_X6_takeOver 1 true := ⟨mf_X6_takeOver, ⟨"PaperHour", (nestW_of (List.mem_of_getElem? (i := 605) (by decide +kernel)) (by decide +kernel))⟩, (allW_of (List.mem_of_getElem? (i := 508) (by decide +kernel)) (by decide +kernel)), (allW_of (List.mem_of_getElem? (i := 18) (by decide +kernel)) (by decide +kernel))⟩
theorem sv_X3_32 : SVs RX3 32 m_X6_everybody 0 true := ⟨mf_X6_everybody, ⟨"PaperHour", (nestW_of (List.mem_of_getElem? (i := 606) (by decide +kernel)) (by decide +kernel))⟩, (allW_of (List.mem_of_getElem? (i := 608) (by decide +kernel)) (by decide +kernel)), (allW_of (List.mem_of_getElem? (i := 30) (by decide +kernel)) (by decide +kernel))⟩
theorem sv_X3_36 : SVs RX3 36 m_X3_seek 2 false := ⟨mf_X3_seek, (allW_of (List.mem_of_getElem? (i := 610) (by decide +kernel)) (by decide +kernel)), (allW_of (List.mem_of_getElem? (i := 612) (by decide +kernel)) (by decide +kernel)), (allW_of (List.mem_of_getElem? (i := 31) (by decide +kernel)) (by decide +kernel))⟩
theorem ss_X3_76 : SSs RX3 76 m_X3_tryRows 2 false := ⟨mf_X3_tryRows, (allW_of (List.mem_of_getElem? (i := 614) (by decide +kernel)) (by decide +kernel)), (allW_of (List.mem_of_getElem? (i := 615) (by decide +kernel)) (by decide +kernel))⟩
theorem sv_X3_80 : SVs RX3 80 m_X3_weigh 1 false := ⟨mf_X3_weigh, (allW_of (List.mem_of_getElem? (i := 617) (by decide +kernel)) (by decide +kernel)), (allW_of (List.mem_of_getElem? (i := 619) (by decide +kernel)) (by decide +kernel)), (allW_of (List.mem_of_getElem? (i := 32) (by decide +kernel)) (by decide +kernel))⟩
theorem sv_X3_105 : SVs RX3 105 m_X3_keepRow 2 false := ⟨mf_X3_keepRow, (allW_of (List.mem_of_getElem? (i := 621) (by decide +kernel)) (by decide +kernel)), (allW_of (List.mem_of_getElem? (i := 623) (by decide +kernel)) (by decide +kernel)), (allW_of (List.mem_of_getElem? (i := 33) (by decide +kernel)) (by decide +kernel))⟩
theorem ss_X3_108 : SSs RX3 108 m_J9_max_7cf53 2 false := ⟨mf_J9_max_7cf53, (allW_of (List.mem_of_getElem? (i := 626) (by decide +kernel)) (by decide +kernel)), (allW_of (List.mem_of_getElem? (i := 558) (by decide +kernel)) (by decide +kernel))⟩
theorem sv_X3_93 : SVs RX3 93 m_X6_canHave 1 true := ⟨mf_X6_canHave, ⟨"PaperHour", (nestW_of (List.mem_of_getElem? (i := 627) (by decide +kernel)) (by decide +kernel))⟩, (allW_of (List.mem_of_getElem? (i := 529) (by decide +kernel)) (by decide +kernel)), (allW_of (List.mem_of_getElem? (i := 21) (by decide +kernel)) (by decide +kernel))⟩
theorem sv_X3_97 : SVs RX3 97 m_X6_hand 1 true := ⟨mf_X6_hand, ⟨"PaperHour", (nestW_of (List.mem_of_getElem? (i := 628) (by decide +kernel)) (by decide +kernel))⟩, (allW_of (List.mem_of_getElem? (i := 551) (by decide +kernel)) (by decide +kernel)), (allW_of (List.mem_of_getElem? (i := 25) (by decide +kernel)) (by decide +kernel))⟩
theorem sv_X3_101 : SVs RX3 101 m_X6_copyStands 4 true := ⟨mf_X6_copyStands, ⟨"PaperHour", (nestW_of (List.mem_of_getElem? (i := 629) (by decide +kernel)) (by decide +kernel))⟩, (allW_of (List.mem_of_getElem? (i := 504) (by decide +kernel)) (by decide +kernel)), (allW_of (List.mem_of_getElem? (i := 17) (by decide +kernel)) (by decide +kernel))⟩
theorem sv_X7_199 : SVs RX7 199 m_X3_told 1 true := ⟨mf_X3_told, ⟨"PaperHour", (nestW_of (List.mem_of_getElem? (i := 630) (by decide +kernel)) (by decide +kernel))⟩, (allW_of (List.mem_of_getElem? (i := 632) (by decide +kernel)) (by decide +kernel)), (allW_of (List.mem_of_getElem? (i := 34) (by decide +kernel)) (by decide +kernel))⟩
theorem sv_L_78 : SVs RL 78 m_X7_soonest 2 false := ⟨mf_X7_soonest, (allW_of (List.mem_of_getElem? (i := 635) (by decide +kernel)) (by decide +kernel)), (allW_of (List.mem_of_getElem? (i := 636) (by decide +kernel)) (by decide +kernel)), (allW_of (List.mem_of_getElem? (i := 637) (by decide +kernel)) (by decide +kernel))⟩
theorem sv_X7_202 : SVs RX7 202 m_X6_everybody 0 true := ⟨mf_X6_everybody, ⟨"PaperHour", (nestW_of (List.mem_of_getElem? (i := 639) (by decide +kernel)) (by decide +kernel))⟩, (allW_of (List.mem_of_getElem? (i := 608) (by decide +kernel)) (by decide +kernel)), (allW_of (List.mem_of_getElem? (i := 30) (by decide +kernel)) (by decide +kernel))⟩
theorem sv_X7_206 : SVs RX7 206 m_X3_forSoonest 2 true := ⟨mf_X3_forSoonest, ⟨"PaperHour", (nestW_of (List.mem_of_getElem? (i := 640) (by decide +kernel)) (by decide +kernel))⟩, (allW_of (List.mem_of_getElem? (i := 642) (by decide +kernel)) (by decide +kernel)), (allW_of (List.mem_of_getElem? (i := 35) (by decide +kernel)) (by decide +kernel))⟩
theorem sv_L_82 : SVs RL 82 m_X7_copies 2 false := ⟨mf_X7_copies, (allW_of (List.mem_of_getElem? (i := 644) (by decide +kernel)) (by decide +kernel)), (allW_of (List.mem_of_getElem? (i := 645) (by decide +kernel)) (by decide +kernel)), (allW_of (List.mem_of_getElem? (i := 646) (by decide +kernel)) (by decide +kernel))⟩
theorem sv_X7_211 : SVs RX7 211 m_X3_forSets 1 true := ⟨mf_X3_forSets, ⟨"PaperHour", (nestW_of (List.mem_of_getElem? (i := 648) (by decide +kernel)) (by decide +kernel))⟩, (allW_of (List.mem_of_getElem? (i := 650) (by decide +kernel)) (by decide +kernel)), (allW_of (List.mem_of_getElem? (i := 36) (by decide +kernel)) (by decide +kernel))⟩
theorem sv_X3_44 : SVs RX3 44 m_X6_begin 0 true := ⟨mf_X6_begin, ⟨"PaperHour", (nestW_of (List.mem_of_getElem? (i := 652) (by decide +kernel)) (by decide +kernel))⟩, (allW_of (List.mem_of_getElem? (i := 500) (by decide +kernel)) (by decide +kernel)), (allW_of (List.mem_of_getElem? (i := 16) (by decide +kernel)) (by decide +kernel))⟩
theorem ss_X3_48 : SSs RX3 48 m_J7_fill_53178 2 false := ⟨mf_J7_fill_53178, (allW_of (List.mem_of_getElem? (i := 653) (by decide +kernel)) (by decide +kernel)), (allW_of (List.mem_of_getElem? (i := 114) (by decide +kernel)) (by decide +kernel))⟩
theorem sv_X7_217 : SVs RX7 217 m_X4_of 3 true := ⟨mf_X4_of, ⟨"PaperHour", (nestW_of (List.mem_of_getElem? (i := 654) (by decide +kernel)) (by decide +kernel))⟩, (allW_of (List.mem_of_getElem? (i := 656) (by decide +kernel)) (by decide +kernel)), (allW_of (List.mem_of_getElem? (i := 37) (by decide +kernel)) (by decide +kernel))⟩
theorem ss_X4_41 : SSs RX4 41 m_J7_fill_53178 2 false := ⟨mf_J7_fill_53178, (allW_of (List.mem_of_getElem? (i := 658) (by decide +kernel)) (by decide +kernel)), (allW_of (List.mem_of_getElem? (i := 114) (by decide +kernel)) (by decide +kernel))⟩
theorem ss_X4_47 : SSs RX4 47 m_X4_share 2 false := ⟨mf_X4_share, (allW_of (List.mem_of_getElem? (i := 659) (by decide +kernel)) (by decide +kernel)), (allW_of (List.mem_of_getElem? (i := 660) (by decide +kernel)) (by decide +kernel))⟩
theorem sv_X4_51 : SVs RX4 51 m_X4_weighShares 0 false := ⟨mf_X4_weighShares, (allW_of (List.mem_of_getElem? (i := 662) (by decide +kernel)) (by decide +kernel)), (allW_of (List.mem_of_getElem? (i := 664) (by decide +kernel)) (by decide +kernel)), (allW_of (List.mem_of_getElem? (i := 38) (by decide +kernel)) (by decide +kernel))⟩
theorem sv_L_86 : SVs RL 86 m_X7_fits 6 false := ⟨mf_X7_fits, (allW_of (List.mem_of_getElem? (i := 668) (by decide +kernel)) (by decide +kernel)), (allW_of (List.mem_of_getElem? (i := 669) (by decide +kernel)) (by decide +kernel)), (allW_of (List.mem_of_getElem? (i := 670) (by decide +kernel)) (by decide +kernel))⟩
theorem ss_X7_230 : SSs RX7 230 m_X7_isTold 3 false := ⟨mf_X7_isTold, (allW_of (List.mem_of_getElem? (i := 672) (by decide +kernel)) (by decide +kernel)), (allW_of (List.mem_of_getElem? (i := 673) (by decide +kernel)) (by decide +kernel))⟩
theorem sv_X7_233 : SVs RX7 233 m_X6_suppose 3 true := ⟨mf_X6_suppose, ⟨"PaperHour", (nestW_of (List.mem_of_getElem? (i := 675) (by decide +kernel)) (by decide +kernel))⟩, (allW_of (List.mem_of_getElem? (i := 677) (by decide +kernel)) (by decide +kernel)), (allW_of (List.mem_of_getElem? (i := 39) (by decide +kernel)) (by decide +kernel))⟩
theorem sv_X7_236 : SVs RX7 236 m_X6_handAlong 3 true := ⟨mf_X6_handAlong, ⟨"PaperHour", (nestW_of (List.mem_of_getElem? (i := 679) (by decide +kernel)) (by decide +kernel))⟩, (allW_of (List.mem_of_getElem? (i := 681) (by decide +kernel)) (by decide +kernel)), (allW_of (List.mem_of_getElem? (i := 40) (by decide +kernel)) (by decide +kernel))⟩
theorem sv_X6_89 : SVs RX6 89 m_X6_canHave 1 false := ⟨mf_X6_canHave, (allW_of (List.mem_of_getElem? (i := 683) (by decide +kernel)) (by decide +kernel)), (allW_of (List.mem_of_getElem? (i := 529) (by decide +kernel)) (by decide +kernel)), (allW_of (List.mem_of_getElem? (i := 21) (by decide +kernel)) (by decide +kernel))⟩
theorem sv_X6_93 : SVs RX6 93 m_X6_hand 1 false := ⟨mf_X6_hand, (allW_of (List.mem_of_getElem? (i := 685) (by decide +kernel)) (by decide +kernel)), (allW_of (List.mem_of_getElem? (i := 551) (by decide +kernel)) (by decide +kernel)), (allW_of (List.mem_of_getElem? (i := 25) (by decide +kernel)) (by decide +kernel))⟩
theorem sv_L_91 : SVs RL 91 m_X7_lost 6 false := ⟨mf_X7_lost, (allW_of (List.mem_of_getElem? (i := 686) (by decide +kernel)) (by decide +kernel)), (allW_of (List.mem_of_getElem? (i := 687) (by decide +kernel)) (by decide +kernel)), (allW_of (List.mem_of_getElem? (i := 688) (by decide +kernel)) (by decide +kernel))⟩
theorem sv_X7_240 : SVs RX7 240 m_X7_timesUntil 4 false := ⟨mf_X7_timesUntil, (allW_of (List.mem_of_getElem? (i := 690) (by decide +kernel)) (by decide +kernel)), (allW_of (List.mem_of_getElem? (i := 692) (by decide +kernel)) (by decide +kernel)), (allW_of (List.mem_of_getElem? (i := 41) (by decide +kernel)) (by decide +kernel))⟩
theorem ss_X7_244 : SSs RX7 244 m_X7_power 2 false := ⟨mf_X7_power, (allW_of (List.mem_of_getElem? (i := 694) (by decide +kernel)) (by decide +kernel)), (allW_of (List.mem_of_getElem? (i := 695) (by decide +kernel)) (by decide +kernel))⟩
theorem ss_X7_248 : SSs RX7 248 m_X7_commonDivisor 2 false := ⟨mf_X7_commonDivisor, (allW_of (List.mem_of_getElem? (i := 697) (by decide +kernel)) (by decide +kernel)), (allW_of (List.mem_of_getElem? (i := 698) (by decide +kernel)) (by decide +kernel))⟩
theorem ss_X7_251 : SSs RX7 251 m_J9_max_7cf53 2 false := ⟨mf_J9_max_7cf53, (allW_of (List.mem_of_getElem? (i := 700) (by decide +kernel)) (by decide +kernel)), (allW_of (List.mem_of_getElem? (i := 558) (by decide +kernel)) (by decide +kernel))⟩
theorem sv_L_95 : SVs RL 95 m_X7_drawn 3 false := ⟨mf_X7_drawn, (allW_of (List.mem_of_getElem? (i := 701) (by decide +kernel)) (by decide +kernel)), (allW_of (List.mem_of_getElem? (i := 702) (by decide +kernel)) (by decide +kernel)), (allW_of (List.mem_of_getElem? (i := 703) (by decide +kernel)) (by decide +kernel))⟩
theorem sv_L_99 : SVs RL 99 m_X7_image 1 false := ⟨mf_X7_image, (allW_of (List.mem_of_getElem? (i := 708) (by decide +kernel)) (by decide +kernel)), (allW_of (List.mem_of_getElem? (i := 709) (by decide +kernel)) (by decide +kernel)), (allW_of (List.mem_of_getElem? (i := 710) (by decide +kernel)) (by decide +kernel))⟩
theorem sv_X7_267 : SVs RX7 267 m_X7_imageNumber 1 false := ⟨mf_X7_imageNumber, (allW_of (List.mem_of_getElem? (i := 712) (by decide +kernel)) (by decide +kernel)), (allW_of (List.mem_of_getElem? (i := 714) (by decide +kernel)) (by decide +kernel)), (allW_of (List.mem_of_getElem? (i := 42) (by decide +kernel)) (by decide +kernel))⟩
theorem sv_L_103 : SVs RL 103 m_X7_restore 1 false := ⟨mf_X7_restore, (allW_of (List.mem_of_getElem? (i := 716) (by decide +kernel)) (by decide +kernel)), (allW_of (List.mem_of_getElem? (i := 717) (by decide +kernel)) (by decide +kernel)), (allW_of (List.mem_of_getElem? (i := 718) (by decide +kernel)) (by decide +kernel))⟩
theorem sv_L_107 : SVs RL 107 m_X7_kind 1 false := ⟨mf_X7_kind, (allW_of (List.mem_of_getElem? (i := 720) (by decide +kernel)) (by decide +kernel)), (allW_of (List.mem_of_getElem? (i := 721) (by decide +kernel)) (by decide +kernel)), (allW_of (List.mem_of_getElem? (i := 722) (by decide +kernel)) (by decide +kernel))⟩
theorem sv_L_111 : SVs RL 111 m_X7_as 2 false := ⟨mf_X7_as, (allW_of (List.mem_of_getElem? (i := 724) (by decide +kernel)) (by decide +kernel)), (allW_of (List.mem_of_getElem? (i := 725) (by decide +kernel)) (by decide +kernel)), (allW_of (List.mem_of_getElem? (i := 726) (by decide +kernel)) (by decide +kernel))⟩
theorem ss_X7_274 : SSs RX7 274 m_X7_isOfKind 2 false := ⟨mf_X7_isOfKind, (allW_of (List.mem_of_getElem? (i := 728) (by decide +kernel)) (by decide +kernel)), (allW_of (List.mem_of_getElem? (i := 729) (by decide +kernel)) (by decide +kernel))⟩
theorem sv_L_115 : SVs RL 115 m_X7_ask 2 false := ⟨mf_X7_ask, (allW_of (List.mem_of_getElem? (i := 733) (by decide +kernel)) (by decide +kernel)), (allW_of (List.mem_of_getElem? (i := 734) (by decide +kernel)) (by decide +kernel)), (allW_of (List.mem_of_getElem? (i := 735) (by decide +kernel)) (by decide +kernel))⟩
theorem sv_X7_278 : SVs RX7 278 m_X1_of 2 true := ⟨mf_X1_of, ⟨"PaperHour", (nestW_of (List.mem_of_getElem? (i := 737) (by decide +kernel)) (by decide +kernel))⟩, (allW_of (List.mem_of_getElem? (i := 739) (by decide +kernel)) (by decide +kernel)), (allW_of (List.mem_of_getElem? (i := 43) (by decide +kernel)) (by decide +kernel))⟩
theorem sv_X7_280 : SVs RX7 280 m_X1_sizeAsked 0 true := ⟨mf_X1_sizeAsked, ⟨"PaperHour", (nestW_of (List.mem_of_getElem? (i := 741) (by decide +kernel)) (by decide +kernel))⟩, (allW_of (List.mem_of_getElem? (i := 743) (by decide +kernel)) (by decide +kernel)), (allW_of (List.mem_of_getElem? (i := 44) (by decide +kernel)) (by decide +kernel))⟩
theorem ss_X1_39 : SSs RX1 39 m_X7_isOfKind 2 true := ⟨mf_X7_isOfKind, ⟨"PaperHour", (nestW_of (List.mem_of_getElem? (i := 745) (by decide +kernel)) (by decide +kernel))⟩, (allW_of (List.mem_of_getElem? (i := 729) (by decide +kernel)) (by decide +kernel))⟩
theorem sv_X1_43 : SVs RX1 43 m_X1_sizeAskedOfOld 0 false := ⟨mf_X1_sizeAskedOfOld, (allW_of (List.mem_of_getElem? (i := 746) (by decide +kernel)) (by decide +kernel)), (allW_of (List.mem_of_getElem? (i := 748) (by decide +kernel)) (by decide +kernel)), (allW_of (List.mem_of_getElem? (i := 45) (by decide +kernel)) (by decide +kernel))⟩
theorem sv_X1_56 : SVs RX1 56 m_X1_begins 1 false := ⟨mf_X1_begins, (allW_of (List.mem_of_getElem? (i := 750) (by decide +kernel)) (by decide +kernel)), (allW_of (List.mem_of_getElem? (i := 752) (by decide +kernel)) (by decide +kernel)), (allW_of (List.mem_of_getElem? (i := 46) (by decide +kernel)) (by decide +kernel))⟩
theorem sv_X1_63 : SVs RX1 63 m_X1_oldSize 0 false := ⟨mf_X1_oldSize, (allW_of (List.mem_of_getElem? (i := 754) (by decide +kernel)) (by decide +kernel)), (allW_of (List.mem_of_getElem? (i := 756) (by decide +kernel)) (by decide +kernel)), (allW_of (List.mem_of_getElem? (i := 47) (by decide +kernel)) (by decide +kernel))⟩
theorem sv_X1_69 : SVs RX1 69 m_X1_lentSize 0 false := ⟨mf_X1_lentSize, (allW_of (List.mem_of_getElem? (i := 758) (by decide +kernel)) (by decide +kernel)), (allW_of (List.mem_of_getElem? (i := 760) (by decide +kernel)) (by decide +kernel)), (allW_of (List.mem_of_getElem? (i := 48) (by decide +kernel)) (by decide +kernel))⟩
theorem sv_X1_47 : SVs RX1 47 m_X1_sizeAskedOfFresh 0 false := ⟨mf_X1_sizeAskedOfFresh, (allW_of (List.mem_of_getElem? (i := 762) (by decide +kernel)) (by decide +kernel)), (allW_of (List.mem_of_getElem? (i := 764) (by decide +kernel)) (by decide +kernel)), (allW_of (List.mem_of_getElem? (i := 49) (by decide +kernel)) (by decide +kernel))⟩
theorem sv_X1_60 : SVs RX1 60 m_X1_freshSize 0 false := ⟨mf_X1_freshSize, (allW_of (List.mem_of_getElem? (i := 766) (by decide +kernel)) (by decide +kernel)), (allW_of (List.mem_of_getElem? (i := 768) (by decide +kernel)) (by decide +kernel)), (allW_of (List.mem_of_getElem? (i := 50) (by decide +kernel)) (by decide +kernel))⟩
theorem sv_X1_53 : SVs RX1 53 m_X1_markAskedOfFresh 0 false := ⟨mf_X1_markAskedOfFresh, (allW_of (List.mem_of_getElem? (i := 770) (by decide +kernel)) (by decide +kernel)), (allW_of (List.mem_of_getElem? (i := 772) (by decide +kernel)) (by decide +kernel)), (allW_of (List.mem_of_getElem? (i := 51) (by decide +kernel)) (by decide +kernel))⟩
theorem sv_X1_66 : SVs RX1 66 m_X1_freshMark 0 false := ⟨mf_X1_freshMark, (allW_of (List.mem_of_getElem? (i := 774) (by decide +kernel)) (by decide +kernel)), (allW_of (List.mem_of_getElem? (i := 776) (by decide +kernel)) (by decide +kernel)), (allW_of (List.mem_of_getElem? (i := 52) (by decide +kernel)) (by decide +kernel))⟩
theorem sv_X1_72 : SVs RX1 72 m_X1_lentMark 0 false := ⟨mf_X1_lentMark, (allW_of (List.mem_of_getElem? (i := 778) (by decide +kernel)) (by decide +kernel)), (allW_of (List.mem_of_getElem? (i := 780) (by decide +kernel)) (by decide +kernel)), (allW_of (List.mem_of_getElem? (i := 53) (by decide +kernel)) (by decide +kernel))⟩
theorem sv_X7_283 : SVs RX7 283 m_X1_markAsked 0 true := ⟨mf_X1_markAsked, ⟨"PaperHour", (nestW_of (List.mem_of_getElem? (i := 782) (by decide +kernel)) (by decide +kernel))⟩, (allW_of (List.mem_of_getElem? (i := 784) (by decide +kernel)) (by decide +kernel)), (allW_of (List.mem_of_getElem? (i := 54) (by decide +kernel)) (by decide +kernel))⟩
theorem sv_X1_50 : SVs RX1 50 m_X1_oldMark 0 false := ⟨mf_X1_oldMark, (allW_of (List.mem_of_getElem? (i := 786) (by decide +kernel)) (by decide +kernel)), (allW_of (List.mem_of_getElem? (i := 788) (by decide +kernel)) (by decide +kernel)), (allW_of (List.mem_of_getElem? (i := 55) (by decide +kernel)) (by decide +kernel))⟩
theorem sv_L_119 : SVs RL 119 m_X7_trace 1 false := ⟨mf_X7_trace, (allW_of (List.mem_of_getElem? (i := 790) (by decide +kernel)) (by decide +kernel)), (allW_of (List.mem_of_getElem? (i := 791) (by decide +kernel)) (by decide +kernel)), (allW_of (List.mem_of_getElem? (i := 792) (by decide +kernel)) (by decide +kernel))⟩
theorem sv_L_123 : SVs RL 123 m_X7_count 1 false := ⟨mf_X7_count, (allW_of (List.mem_of_getElem? (i := 794) (by decide +kernel)) (by decide +kernel)), (allW_of (List.mem_of_getElem? (i := 795) (by decide +kernel)) (by decide +kernel)), (allW_of (List.mem_of_getElem? (i := 796) (by decide +kernel)) (by decide +kernel))⟩
theorem sv_X7_292 : SVs RX7 292 m_X2_howMany 0 true := ⟨mf_X2_howMany, ⟨"PaperHour", (nestW_of (List.mem_of_getElem? (i := 798) (by decide +kernel)) (by decide +kernel))⟩, (allW_of (List.mem_of_getElem? (i := 800) (by decide +kernel)) (by decide +kernel)), (allW_of (List.mem_of_getElem? (i := 56) (by decide +kernel)) (by decide +kernel))⟩
theorem sv_L_127 : SVs RL 127 m_X7_status 0 false := ⟨mf_X7_status, (allW_of (List.mem_of_getElem? (i := 802) (by decide +kernel)) (by decide +kernel)), (allW_of (List.mem_of_getElem? (i := 803) (by decide +kernel)) (by decide +kernel)), (allW_of (List.mem_of_getElem? (i := 804) (by decide +kernel)) (by decide +kernel))⟩
theorem sv_L_17 : SVs RL 17 m_X8_row 3 false := ⟨mf_X8_row, (allW_of (List.mem_of_getElem? (i := 898) (by decide +kernel)) (by decide +kernel)), (allW_of (List.mem_of_getElem? (i := 899) (by decide +kernel)) (by decide +kernel)), (allW_of (List.mem_of_getElem? (i := 900) (by decide +kernel)) (by decide +kernel))⟩
theorem ss_X8_68 : SSs RX8 68 m_X8_isRow 1 false := ⟨mf_X8_isRow, (allW_of (List.mem_of_getElem? (i := 902) (by decide +kernel)) (by decide +kernel)), (allW_of (List.mem_of_getElem? (i := 903) (by decide +kernel)) (by decide +kernel))⟩
theorem ss_X8_59 : SSs RX8 59 m_X8_in 3 false := ⟨mf_X8_in, (allW_of (List.mem_of_getElem? (i := 905) (by decide +kernel)) (by decide +kernel)), (allW_of (List.mem_of_getElem? (i := 906) (by decide +kernel)) (by decide +kernel))⟩
theorem sv_X8_73 : SVs RX8 73 m_X8_finds 1 false := ⟨mf_X8_finds, (allW_of (List.mem_of_getElem? (i := 909) (by decide +kernel)) (by decide +kernel)), (allW_of (List.mem_of_getElem? (i := 911) (by decide +kernel)) (by decide +kernel)), (allW_of (List.mem_of_getElem? (i := 57) (by decide +kernel)) (by decide +kernel))⟩
theorem sv_X8_77 : SVs RX8 77 m_X8_done 1 false := ⟨mf_X8_done, (allW_of (List.mem_of_getElem? (i := 914) (by decide +kernel)) (by decide +kernel)), (allW_of (List.mem_of_getElem? (i := 916) (by decide +kernel)) (by decide +kernel)), (allW_of (List.mem_of_getElem? (i := 58) (by decide +kernel)) (by decide +kernel))⟩
theorem sv_L_21 : SVs RL 21 m_X8_set 3 false := ⟨mf_X8_set, (allW_of (List.mem_of_getElem? (i := 918) (by decide +kernel)) (by decide +kernel)), (allW_of (List.mem_of_getElem? (i := 919) (by decide +kernel)) (by decide +kernel)), (allW_of (List.mem_of_getElem? (i := 920) (by decide +kernel)) (by decide +kernel))⟩
theorem sv_L_26 : SVs RL 26 m_X8_copy 5 false := ⟨mf_X8_copy, (allW_of (List.mem_of_getElem? (i := 922) (by decide +kernel)) (by decide +kernel)), (allW_of (List.mem_of_getElem? (i := 923) (by decide +kernel)) (by decide +kernel)), (allW_of (List.mem_of_getElem? (i := 924) (by decide +kernel)) (by decide +kernel))⟩
theorem ss_X8_80 : SSs RX8 80 m_X8_isPart 3 false := ⟨mf_X8_isPart, (allW_of (List.mem_of_getElem? (i := 926) (by decide +kernel)) (by decide +kernel)), (allW_of (List.mem_of_getElem? (i := 927) (by decide +kernel)) (by decide +kernel))⟩
theorem sv_L_31 : SVs RL 31 m_X8_drop 1 false := ⟨mf_X8_drop, (allW_of (List.mem_of_getElem? (i := 929) (by decide +kernel)) (by decide +kernel)), (allW_of (List.mem_of_getElem? (i := 930) (by decide +kernel)) (by decide +kernel)), (allW_of (List.mem_of_getElem? (i := 931) (by decide +kernel)) (by decide +kernel))⟩
theorem sv_L_35 : SVs RL 35 m_X8_feed 1 false := ⟨mf_X8_feed, (allW_of (List.mem_of_getElem? (i := 933) (by decide +kernel)) (by decide +kernel)), (allW_of (List.mem_of_getElem? (i := 934) (by decide +kernel)) (by decide +kernel)), (allW_of (List.mem_of_getElem? (i := 935) (by decide +kernel)) (by decide +kernel))⟩
theorem sv_L_40 : SVs RL 40 m_X8_town 0 false := ⟨mf_X8_town, (allW_of (List.mem_of_getElem? (i := 938) (by decide +kernel)) (by decide +kernel)), (allW_of (List.mem_of_getElem? (i := 939) (by decide +kernel)) (by decide +kernel)), (allW_of (List.mem_of_getElem? (i := 940) (by decide +kernel)) (by decide +kernel))⟩
theorem sv_X8_126 : SVs RX8 126 m_X8_isRead 0 false := ⟨mf_X8_isRead, (allW_of (List.mem_of_getElem? (i := 942) (by decide +kernel)) (by decide +kernel)), (allW_of (List.mem_of_getElem? (i := 944) (by decide +kernel)) (by decide +kernel)), (allW_of (List.mem_of_getElem? (i := 59) (by decide +kernel)) (by decide +kernel))⟩
theorem sv_X8_112 : SVs RX8 112 m_X8_isSign 1 false := ⟨mf_X8_isSign, (allW_of (List.mem_of_getElem? (i := 946) (by decide +kernel)) (by decide +kernel)), (allW_of (List.mem_of_getElem? (i := 948) (by decide +kernel)) (by decide +kernel)), (allW_of (List.mem_of_getElem? (i := 60) (by decide +kernel)) (by decide +kernel))⟩
theorem sv_X8_102 : SVs RX8 102 m_X8_nextToken 0 false := ⟨mf_X8_nextToken, (allW_of (List.mem_of_getElem? (i := 950) (by decide +kernel)) (by decide +kernel)), (allW_of (List.mem_of_getElem? (i := 952) (by decide +kernel)) (by decide +kernel)), (allW_of (List.mem_of_getElem? (i := 61) (by decide +kernel)) (by decide +kernel))⟩
theorem sv_X8_105 : SVs RX8 105 m_X8_fails 1 false := ⟨mf_X8_fails, (allW_of (List.mem_of_getElem? (i := 954) (by decide +kernel)) (by decide +kernel)), (allW_of (List.mem_of_getElem? (i := 956) (by decide +kernel)) (by decide +kernel)), (allW_of (List.mem_of_getElem? (i := 62) (by decide +kernel)) (by decide +kernel))⟩
theorem sv_X8_118 : SVs RX8 118 m_X8_isThree 6 false := ⟨mf_X8_isThree, (allW_of (List.mem_of_getElem? (i := 958) (by decide +kernel)) (by decide +kernel)), (allW_of (List.mem_of_getElem? (i := 960) (by decide +kernel)) (by decide +kernel)), (allW_of (List.mem_of_getElem? (i := 63) (by decide +kernel)) (by decide +kernel))⟩
theorem sv_X8_108 : SVs RX8 108 m_X8_isNumber 2 false := ⟨mf_X8_isNumber, (allW_of (List.mem_of_getElem? (i := 962) (by decide +kernel)) (by decide +kernel)), (allW_of (List.mem_of_getElem? (i := 964) (by decide +kernel)) (by decide +kernel)), (allW_of (List.mem_of_getElem? (i := 64) (by decide +kernel)) (by decide +kernel))⟩
theorem sv_X8_122 : SVs RX8 122 m_X8_isReader 0 false := ⟨mf_X8_isReader, (allW_of (List.mem_of_getElem? (i := 966) (by decide +kernel)) (by decide +kernel)), (allW_of (List.mem_of_getElem? (i := 968) (by decide +kernel)) (by decide +kernel)), (allW_of (List.mem_of_getElem? (i := 65) (by decide +kernel)) (by decide +kernel))⟩
theorem ss_X8_115 : SSs RX8 115 m_X8_sortBy 1 false := ⟨mf_X8_sortBy, (allW_of (List.mem_of_getElem? (i := 970) (by decide +kernel)) (by decide +kernel)), (allW_of (List.mem_of_getElem? (i := 971) (by decide +kernel)) (by decide +kernel))⟩
theorem ss_X8_133 : SSs RX8 133 m_X8_lay 4 false := ⟨mf_X8_lay, (allW_of (List.mem_of_getElem? (i := 974) (by decide +kernel)) (by decide +kernel)), (allW_of (List.mem_of_getElem? (i := 975) (by decide +kernel)) (by decide +kernel))⟩
theorem sv_L_44 : SVs RL 44 m_X8_fault 0 false := ⟨mf_X8_fault, (allW_of (List.mem_of_getElem? (i := 977) (by decide +kernel)) (by decide +kernel)), (allW_of (List.mem_of_getElem? (i := 978) (by decide +kernel)) (by decide +kernel)), (allW_of (List.mem_of_getElem? (i := 979) (by decide +kernel)) (by decide +kernel))⟩
theorem sv_L_48 : SVs RL 48 m_X8_give 1 false := ⟨mf_X8_give, (allW_of (List.mem_of_getElem? (i := 981) (by decide +kernel)) (by decide +kernel)), (allW_of (List.mem_of_getElem? (i := 982) (by decide +kernel)) (by decide +kernel)), (allW_of (List.mem_of_getElem? (i := 983) (by decide +kernel)) (by decide +kernel))⟩
theorem sv_X8_150 : SVs RX8 150 m_X8_isOne 1 false := ⟨mf_X8_isOne, (allW_of (List.mem_of_getElem? (i := 985) (by decide +kernel)) (by decide +kernel)), (allW_of (List.mem_of_getElem? (i := 987) (by decide +kernel)) (by decide +kernel)), (allW_of (List.mem_of_getElem? (i := 66) (by decide +kernel)) (by decide +kernel))⟩
theorem ss_X8_153 : SSs RX8 153 m_X8_canBe 2 false := ⟨mf_X8_canBe, (allW_of (List.mem_of_getElem? (i := 989) (by decide +kernel)) (by decide +kernel)), (allW_of (List.mem_of_getElem? (i := 990) (by decide +kernel)) (by decide +kernel))⟩
theorem ss_X8_140 : SSs RX8 140 m_X8_isIn 2 false := ⟨mf_X8_isIn, (allW_of (List.mem_of_getElem? (i := 992) (by decide +kernel)) (by decide +kernel)), (allW_of (List.mem_of_getElem? (i := 993) (by decide +kernel)) (by decide +kernel))⟩
theorem ss_X8_143 : SSs RX8 143 m_X8_comesTo 2 false := ⟨mf_X8_comesTo, (allW_of (List.mem_of_getElem? (i := 995) (by decide +kernel)) (by decide +kernel)), (allW_of (List.mem_of_getElem? (i := 996) (by decide +kernel)) (by decide +kernel))⟩
theorem sv_X8_158 : SVs RX8 158 m_X8_note 0 false := ⟨mf_X8_note, (allW_of (List.mem_of_getElem? (i := 999) (by decide +kernel)) (by decide +kernel)), (allW_of (List.mem_of_getElem? (i := 1001) (by decide +kernel)) (by decide +kernel)), (allW_of (List.mem_of_getElem? (i := 67) (by decide +kernel)) (by decide +kernel))⟩
theorem ss_X8_161 : SSs RX8 161 m_X8_gives 2 false := ⟨mf_X8_gives, (allW_of (List.mem_of_getElem? (i := 1003) (by decide +kernel)) (by decide +kernel)), (allW_of (List.mem_of_getElem? (i := 1004) (by decide +kernel)) (by decide +kernel))⟩
theorem ss_X8_147 : SSs RX8 147 m_X8_bringsBy 2 false := ⟨mf_X8_bringsBy, (allW_of (List.mem_of_getElem? (i := 1006) (by decide +kernel)) (by decide +kernel)), (allW_of (List.mem_of_getElem? (i := 1007) (by decide +kernel)) (by decide +kernel))⟩
theorem sv_L_52 : SVs RL 52 m_X8_pause 1 false := ⟨mf_X8_pause, (allW_of (List.mem_of_getElem? (i := 1009) (by decide +kernel)) (by decide +kernel)), (allW_of (List.mem_of_getElem? (i := 1010) (by decide +kernel)) (by decide +kernel)), (allW_of (List.mem_of_getElem? (i := 1011) (by decide +kernel)) (by decide +kernel))⟩
theorem sv_X8_164 : SVs RX8 164 m_X8_isTown 0 false := ⟨mf_X8_isTown, (allW_of (List.mem_of_getElem? (i := 1013) (by decide +kernel)) (by decide +kernel)), (allW_of (List.mem_of_getElem? (i := 1015) (by decide +kernel)) (by decide +kernel)), (allW_of (List.mem_of_getElem? (i := 68) (by decide +kernel)) (by decide +kernel))⟩
theorem sv_L_57 : SVs RL 57 m_X8_value 2 false := ⟨mf_X8_value, (allW_of (List.mem_of_getElem? (i := 1017) (by decide +kernel)) (by decide +kernel)), (allW_of (List.mem_of_getElem? (i := 1018) (by decide +kernel)) (by decide +kernel)), (allW_of (List.mem_of_getElem? (i := 1019) (by decide +kernel)) (by decide +kernel))⟩
theorem sv_L_61 : SVs RL 61 m_X8_move 2 false := ⟨mf_X8_move, (allW_of (List.mem_of_getElem? (i := 1021) (by decide +kernel)) (by decide +kernel)), (allW_of (List.mem_of_getElem? (i := 1022) (by decide +kernel)) (by decide +kernel)), (allW_of (List.mem_of_getElem? (i := 1023) (by decide +kernel)) (by decide +kernel))⟩
theorem sv_L_65 : SVs RL 65 m_X8_undo 0 false := ⟨mf_X8_undo, (allW_of (List.mem_of_getElem? (i := 1025) (by decide +kernel)) (by decide +kernel)), (allW_of (List.mem_of_getElem? (i := 1026) (by decide +kernel)) (by decide +kernel)), (allW_of (List.mem_of_getElem? (i := 1027) (by decide +kernel)) (by decide +kernel))⟩
theorem sv_L_69 : SVs RL 69 m_X8_reader 2 false := ⟨mf_X8_reader, (allW_of (List.mem_of_getElem? (i := 1029) (by decide +kernel)) (by decide +kernel)), (allW_of (List.mem_of_getElem? (i := 1030) (by decide +kernel)) (by decide +kernel)), (allW_of (List.mem_of_getElem? (i := 1031) (by decide +kernel)) (by decide +kernel))⟩
theorem sv_L_73 : SVs RL 73 m_X8_would 2 false := ⟨mf_X8_would, (allW_of (List.mem_of_getElem? (i := 1033) (by decide +kernel)) (by decide +kernel)), (allW_of (List.mem_of_getElem? (i := 1034) (by decide +kernel)) (by decide +kernel)), (allW_of (List.mem_of_getElem? (i := 1035) (by decide +kernel)) (by decide +kernel))⟩
theorem sv_L_77 : SVs RL 77 m_X8_best 1 false := ⟨mf_X8_best, (allW_of (List.mem_of_getElem? (i := 1038) (by decide +kernel)) (by decide +kernel)), (allW_of (List.mem_of_getElem? (i := 1039) (by decide +kernel)) (by decide +kernel)), (allW_of (List.mem_of_getElem? (i := 1040) (by decide +kernel)) (by decide +kernel))⟩
theorem sv_X8_174 : SVs RX8 174 m_X8_keepRow 2 false := ⟨mf_X8_keepRow, (allW_of (List.mem_of_getElem? (i := 1042) (by decide +kernel)) (by decide +kernel)), (allW_of (List.mem_of_getElem? (i := 1044) (by decide +kernel)) (by decide +kernel)), (allW_of (List.mem_of_getElem? (i := 69) (by decide +kernel)) (by decide +kernel))⟩
theorem sv_X8_178 : SVs RX8 178 m_X8_rowsOf 1 false := ⟨mf_X8_rowsOf, (allW_of (List.mem_of_getElem? (i := 1046) (by decide +kernel)) (by decide +kernel)), (allW_of (List.mem_of_getElem? (i := 1048) (by decide +kernel)) (by decide +kernel)), (allW_of (List.mem_of_getElem? (i := 70) (by decide +kernel)) (by decide +kernel))⟩
theorem sv_X8_181 : SVs RX8 181 m_X8_layRow 2 false := ⟨mf_X8_layRow, (allW_of (List.mem_of_getElem? (i := 1050) (by decide +kernel)) (by decide +kernel)), (allW_of (List.mem_of_getElem? (i := 1052) (by decide +kernel)) (by decide +kernel)), (allW_of (List.mem_of_getElem? (i := 71) (by decide +kernel)) (by decide +kernel))⟩
theorem ss_X8_185 : SSs RX8 185 m_X8_bits 1 false := ⟨mf_X8_bits, (allW_of (List.mem_of_getElem? (i := 1054) (by decide +kernel)) (by decide +kernel)), (allW_of (List.mem_of_getElem? (i := 1055) (by decide +kernel)) (by decide +kernel))⟩
theorem sv_X8_188 : SVs RX8 188 m_X8_begin 0 false := ⟨mf_X8_begin, (allW_of (List.mem_of_getElem? (i := 1057) (by decide +kernel)) (by decide +kernel)), (allW_of (List.mem_of_getElem? (i := 1059) (by decide +kernel)) (by decide +kernel)), (allW_of (List.mem_of_getElem? (i := 72) (by decide +kernel)) (by decide +kernel))⟩
theorem sv_X8_191 : SVs RX8 191 m_X8_goesOn 2 false := ⟨mf_X8_goesOn, (allW_of (List.mem_of_getElem? (i := 1061) (by decide +kernel)) (by decide +kernel)), (allW_of (List.mem_of_getElem? (i := 1063) (by decide +kernel)) (by decide +kernel)), (allW_of (List.mem_of_getElem? (i := 73) (by decide +kernel)) (by decide +kernel))⟩
theorem sv_L_81 : SVs RL 81 m_X8_soonest 2 false := ⟨mf_X8_soonest, (allW_of (List.mem_of_getElem? (i := 1065) (by decide +kernel)) (by decide +kernel)), (allW_of (List.mem_of_getElem? (i := 1066) (by decide +kernel)) (by decide +kernel)), (allW_of (List.mem_of_getElem? (i := 1067) (by decide +kernel)) (by decide +kernel))⟩
theorem sv_L_85 : SVs RL 85 m_X8_copies 2 false := ⟨mf_X8_copies, (allW_of (List.mem_of_getElem? (i := 1069) (by decide +kernel)) (by decide +kernel)), (allW_of (List.mem_of_getElem? (i := 1070) (by decide +kernel)) (by decide +kernel)), (allW_of (List.mem_of_getElem? (i := 1071) (by decide +kernel)) (by decide +kernel))⟩
theorem sv_X8_194 : SVs RX8 194 m_X8_laySets 0 false := ⟨mf_X8_laySets, (allW_of (List.mem_of_getElem? (i := 1073) (by decide +kernel)) (by decide +kernel)), (allW_of (List.mem_of_getElem? (i := 1075) (by decide +kernel)) (by decide +kernel)), (allW_of (List.mem_of_getElem? (i := 74) (by decide +kernel)) (by decide +kernel))⟩
theorem sv_X8_197 : SVs RX8 197 m_X8_earnedBy 2 false := ⟨mf_X8_earnedBy, (allW_of (List.mem_of_getElem? (i := 1077) (by decide +kernel)) (by decide +kernel)), (allW_of (List.mem_of_getElem? (i := 1079) (by decide +kernel)) (by decide +kernel)), (allW_of (List.mem_of_getElem? (i := 75) (by decide +kernel)) (by decide +kernel))⟩
theorem sv_L_90 : SVs RL 90 m_X8_fits 6 false := ⟨mf_X8_fits, (allW_of (List.mem_of_getElem? (i := 1081) (by decide +kernel)) (by decide +kernel)), (allW_of (List.mem_of_getElem? (i := 1082) (by decide +kernel)) (by decide +kernel)), (allW_of (List.mem_of_getElem? (i := 1083) (by decide +kernel)) (by decide +kernel))⟩
theorem sv_X8_200 : SVs RX8 200 m_X8_takeOut 3 false := ⟨mf_X8_takeOut, (allW_of (List.mem_of_getElem? (i := 1085) (by decide +kernel)) (by decide +kernel)), (allW_of (List.mem_of_getElem? (i := 1087) (by decide +kernel)) (by decide +kernel)), (allW_of (List.mem_of_getElem? (i := 76) (by decide +kernel)) (by decide +kernel))⟩
theorem sv_X8_204 : SVs RX8 204 m_X8_isSo 2 false := ⟨mf_X8_isSo, (allW_of (List.mem_of_getElem? (i := 1089) (by decide +kernel)) (by decide +kernel)), (allW_of (List.mem_of_getElem? (i := 1091) (by decide +kernel)) (by decide +kernel)), (allW_of (List.mem_of_getElem? (i := 77) (by decide +kernel)) (by decide +kernel))⟩
theorem sv_L_94 : SVs RL 94 m_X8_lost 6 false := ⟨mf_X8_lost, (allW_of (List.mem_of_getElem? (i := 1093) (by decide +kernel)) (by decide +kernel)), (allW_of (List.mem_of_getElem? (i := 1094) (by decide +kernel)) (by decide +kernel)), (allW_of (List.mem_of_getElem? (i := 1095) (by decide +kernel)) (by decide +kernel))⟩
theorem sv_L_98 : SVs RL 98 m_X8_drawn 3 false := ⟨mf_X8_drawn, (allW_of (List.mem_of_getElem? (i := 1097) (by decide +kernel)) (by decide +kernel)), (allW_of (List.mem_of_getElem? (i := 1098) (by decide +kernel)) (by decide +kernel)), (allW_of (List.mem_of_getElem? (i := 1099) (by decide +kernel)) (by decide +kernel))⟩
theorem sv_L_102 : SVs RL 102 m_X8_image 1 false := ⟨mf_X8_image, (allW_of (List.mem_of_getElem? (i := 1104) (by decide +kernel)) (by decide +kernel)), (allW_of (List.mem_of_getElem? (i := 1105) (by decide +kernel)) (by decide +kernel)), (allW_of (List.mem_of_getElem? (i := 1106) (by decide +kernel)) (by decide +kernel))⟩
theorem sv_L_106 : SVs RL 106 m_X8_restore 1 false := ⟨mf_X8_restore, (allW_of (List.mem_of_getElem? (i := 1108) (by decide +kernel)) (by decide +kernel)), (allW_of (List.mem_of_getElem? (i := 1109) (by decide +kernel)) (by decide +kernel)), (allW_of (List.mem_of_getElem? (i := 1110) (by decide +kernel)) (by decide +kernel))⟩
theorem sv_L_110 : SVs RL 110 m_X8_kind 1 false := ⟨mf_X8_kind, (allW_of (List.mem_of_getElem? (i := 1112) (by decide +kernel)) (by decide +kernel)), (allW_of (List.mem_of_getElem? (i := 1113) (by decide +kernel)) (by decide +kernel)), (allW_of (List.mem_of_getElem? (i := 1114) (by decide +kernel)) (by decide +kernel))⟩
theorem sv_L_114 : SVs RL 114 m_X8_as 2 false := ⟨mf_X8_as, (allW_of (List.mem_of_getElem? (i := 1116) (by decide +kernel)) (by decide +kernel)), (allW_of (List.mem_of_getElem? (i := 1117) (by decide +kernel)) (by decide +kernel)), (allW_of (List.mem_of_getElem? (i := 1118) (by decide +kernel)) (by decide +kernel))⟩
theorem ss_X8_212 : SSs RX8 212 m_X8_parentOf 1 false := ⟨mf_X8_parentOf, (allW_of (List.mem_of_getElem? (i := 1120) (by decide +kernel)) (by decide +kernel)), (allW_of (List.mem_of_getElem? (i := 1121) (by decide +kernel)) (by decide +kernel))⟩
theorem sv_L_118 : SVs RL 118 m_X8_ask 2 false := ⟨mf_X8_ask, (allW_of (List.mem_of_getElem? (i := 1123) (by decide +kernel)) (by decide +kernel)), (allW_of (List.mem_of_getElem? (i := 1124) (by decide +kernel)) (by decide +kernel)), (allW_of (List.mem_of_getElem? (i := 1125) (by decide +kernel)) (by decide +kernel))⟩
theorem sv_X8_231 : SVs RX8 231 m_X8_sizeOf 1 false := ⟨mf_X8_sizeOf, (allW_of (List.mem_of_getElem? (i := 1127) (by decide +kernel)) (by decide +kernel)), (allW_of (List.mem_of_getElem? (i := 1129) (by decide +kernel)) (by decide +kernel)), (allW_of (List.mem_of_getElem? (i := 78) (by decide +kernel)) (by decide +kernel))⟩
theorem sv_X8_218 : SVs RX8 218 m_X8_begins 1 false := ⟨mf_X8_begins, (allW_of (List.mem_of_getElem? (i := 1131) (by decide +kernel)) (by decide +kernel)), (allW_of (List.mem_of_getElem? (i := 1133) (by decide +kernel)) (by decide +kernel)), (allW_of (List.mem_of_getElem? (i := 79) (by decide +kernel)) (by decide +kernel))⟩
theorem sv_X8_225 : SVs RX8 225 m_X8_sizeOld 1 false := ⟨mf_X8_sizeOld, (allW_of (List.mem_of_getElem? (i := 1135) (by decide +kernel)) (by decide +kernel)), (allW_of (List.mem_of_getElem? (i := 1137) (by decide +kernel)) (by decide +kernel)), (allW_of (List.mem_of_getElem? (i := 80) (by decide +kernel)) (by decide +kernel))⟩
theorem sv_X8_228 : SVs RX8 228 m_X8_markNew 1 false := ⟨mf_X8_markNew, (allW_of (List.mem_of_getElem? (i := 1139) (by decide +kernel)) (by decide +kernel)), (allW_of (List.mem_of_getElem? (i := 1141) (by decide +kernel)) (by decide +kernel)), (allW_of (List.mem_of_getElem? (i := 81) (by decide +kernel)) (by decide +kernel))⟩
theorem sv_X8_222 : SVs RX8 222 m_X8_markFresh 1 false := ⟨mf_X8_markFresh, (allW_of (List.mem_of_getElem? (i := 1143) (by decide +kernel)) (by decide +kernel)), (allW_of (List.mem_of_getElem? (i := 1145) (by decide +kernel)) (by decide +kernel)), (allW_of (List.mem_of_getElem? (i := 82) (by decide +kernel)) (by decide +kernel))⟩
theorem sv_X8_234 : SVs RX8 234 m_X8_markOf 1 false := ⟨mf_X8_markOf, (allW_of (List.mem_of_getElem? (i := 1147) (by decide +kernel)) (by decide +kernel)), (allW_of (List.mem_of_getElem? (i := 1149) (by decide +kernel)) (by decide +kernel)), (allW_of (List.mem_of_getElem? (i := 83) (by decide +kernel)) (by decide +kernel))⟩
theorem sv_L_122 : SVs RL 122 m_X8_trace 1 false := ⟨mf_X8_trace, (allW_of (List.mem_of_getElem? (i := 1151) (by decide +kernel)) (by decide +kernel)), (allW_of (List.mem_of_getElem? (i := 1152) (by decide +kernel)) (by decide +kernel)), (allW_of (List.mem_of_getElem? (i := 1153) (by decide +kernel)) (by decide +kernel))⟩
theorem sv_L_126 : SVs RL 126 m_X8_count 1 false := ⟨mf_X8_count, (allW_of (List.mem_of_getElem? (i := 1155) (by decide +kernel)) (by decide +kernel)), (allW_of (List.mem_of_getElem? (i := 1156) (by decide +kernel)) (by decide +kernel)), (allW_of (List.mem_of_getElem? (i := 1157) (by decide +kernel)) (by decide +kernel))⟩
theorem sv_L_130 : SVs RL 130 m_X8_status 0 false := ⟨mf_X8_status, (allW_of (List.mem_of_getElem? (i := 1159) (by decide +kernel)) (by decide +kernel)), (allW_of (List.mem_of_getElem? (i := 1160) (by decide +kernel)) (by decide +kernel)), (allW_of (List.mem_of_getElem? (i := 1161) (by decide +kernel)) (by decide +kernel))⟩
theorem ac_X7_105 : Cond.methodLink RX7 105 arraycopyName ∈ allW ∧ Cond.native arraycopyName ∈ allW ∧ Cond.static arraycopyName ∈ allW ∧ Cond.initialized "java/lang/System" ∈ allW := ⟨(allW_of (List.mem_of_getElem? (i := 439) (by decide +kernel)) (by decide +kernel)), (allW_of (List.mem_of_getElem? (i := 441) (by decide +kernel)) (by decide +kernel)), (allW_of (List.mem_of_getElem? (i := 440) (by decide +kernel)) (by decide +kernel)), (allW_of (List.mem_of_getElem? (i := 95) (by decide +kernel)) (by decide +kernel))⟩
theorem ac_X6_41 : Cond.methodLink RX6 41 arraycopyName ∈ allW ∧ Cond.native arraycopyName ∈ allW ∧ Cond.static arraycopyName ∈ allW ∧ Cond.initialized "java/lang/System" ∈ allW := ⟨(allW_of (List.mem_of_getElem? (i := 510) (by decide +kernel)) (by decide +kernel)), (allW_of (List.mem_of_getElem? (i := 441) (by decide +kernel)) (by decide +kernel)), (allW_of (List.mem_of_getElem? (i := 440) (by decide +kernel)) (by decide +kernel)), (allW_of (List.mem_of_getElem? (i := 95) (by decide +kernel)) (by decide +kernel))⟩
theorem ac_X3_114 : Cond.methodLink RX3 114 arraycopyName ∈ allW ∧ Cond.native arraycopyName ∈ allW ∧ Cond.static arraycopyName ∈ allW ∧ Cond.initialized "java/lang/System" ∈ allW := ⟨(allW_of (List.mem_of_getElem? (i := 625) (by decide +kernel)) (by decide +kernel)), (allW_of (List.mem_of_getElem? (i := 441) (by decide +kernel)) (by decide +kernel)), (allW_of (List.mem_of_getElem? (i := 440) (by decide +kernel)) (by decide +kernel)), (allW_of (List.mem_of_getElem? (i := 95) (by decide +kernel)) (by decide +kernel))⟩
theorem ac_X4_55 : Cond.methodLink RX4 55 arraycopyName ∈ allW ∧ Cond.native arraycopyName ∈ allW ∧ Cond.static arraycopyName ∈ allW ∧ Cond.initialized "java/lang/System" ∈ allW := ⟨(allW_of (List.mem_of_getElem? (i := 667) (by decide +kernel)) (by decide +kernel)), (allW_of (List.mem_of_getElem? (i := 441) (by decide +kernel)) (by decide +kernel)), (allW_of (List.mem_of_getElem? (i := 440) (by decide +kernel)) (by decide +kernel)), (allW_of (List.mem_of_getElem? (i := 95) (by decide +kernel)) (by decide +kernel))⟩
end
section
theorem d_X0_forget_0 : Dc m_X0_forget 0 (.aload_n 0) 1 1 := ⟨by decide +kernel, rfl⟩
theorem d_X0_forget_1 : Dc m_X0_forget 1 (.iconst 0) 1 2 := ⟨by decide +kernel, rfl⟩
theorem d_X0_forget_2 : Dc m_X0_forget 2 (.putfield 14) 3 5 := ⟨by decide +kernel, rfl⟩
theorem d_X0_forget_5 : Dc m_X0_forget 5 (.aload_n 0) 1 6 := ⟨by decide +kernel, rfl⟩
theorem d_X0_forget_6 : Dc m_X0_forget 6 (.iconst 0) 1 7 := ⟨by decide +kernel, rfl⟩
theorem d_X0_forget_7 : Dc m_X0_forget 7 (.putfield 18) 3 10 := ⟨by decide +kernel, rfl⟩
theorem d_X0_forget_10 : Dc m_X0_forget 10 (.return_) 1 11 := ⟨by decide +kernel, rfl⟩
theorem d_X0_keep_0 : Dc m_X0_keep 0 (.aload_n 0) 1 1 := ⟨by decide +kernel, rfl⟩
theorem d_X0_keep_1 : Dc m_X0_keep 1 (.getfield 11) 3 4 := ⟨by decide +kernel, rfl⟩
theorem d_X0_keep_4 : Dc m_X0_keep 4 (.aload_n 0) 1 5 := ⟨by decide +kernel, rfl⟩
theorem d_X0_keep_5 : Dc m_X0_keep 5 (.getfield 14) 3 8 := ⟨by decide +kernel, rfl⟩
theorem d_X0_keep_8 : Dc m_X0_keep 8 (.aload_n 0) 1 9 := ⟨by decide +kernel, rfl⟩
theorem d_X0_keep_9 : Dc m_X0_keep 9 (.getfield 18) 3 12 := ⟨by decide +kernel, rfl⟩
theorem d_X0_keep_12 : Dc m_X0_keep 12 (.iadd) 1 13 := ⟨by decide +kernel, rfl⟩
theorem d_X0_keep_13 : Dc m_X0_keep 13 (.bipush 24) 2 15 := ⟨by decide +kernel, rfl⟩
theorem d_X0_keep_15 : Dc m_X0_keep 15 (.irem) 1 16 := ⟨by decide +kernel, rfl⟩
theorem d_X0_keep_16 : Dc m_X0_keep 16 (.aaload) 1 17 := ⟨by decide +kernel, rfl⟩
theorem d_X0_keep_17 : Dc m_X0_keep 17 (.astore_n 3) 1 18 := ⟨by decide +kernel, rfl⟩
theorem d_X0_keep_18 : Dc m_X0_keep 18 (.aload_n 0) 1 19 := ⟨by decide +kernel, rfl⟩
theorem d_X0_keep_19 : Dc m_X0_keep 19 (.getfield 18) 3 22 := ⟨by decide +kernel, rfl⟩
theorem d_X0_keep_22 : Dc m_X0_keep 22 (.bipush 24) 2 24 := ⟨by decide +kernel, rfl⟩
theorem d_X0_keep_24 : Dc m_X0_keep 24 (.if_icmp .ge 16) 3 27 := ⟨by decide +kernel, rfl⟩
theorem d_X0_keep_27 : Dc m_X0_keep 27 (.aload_n 0) 1 28 := ⟨by decide +kernel, rfl⟩
theorem d_X0_keep_28 : Dc m_X0_keep 28 (.dup) 1 29 := ⟨by decide +kernel, rfl⟩
theorem d_X0_keep_29 : Dc m_X0_keep 29 (.getfield 18) 3 32 := ⟨by decide +kernel, rfl⟩
theorem d_X0_keep_32 : Dc m_X0_keep 32 (.iconst 1) 1 33 := ⟨by decide +kernel, rfl⟩
theorem d_X0_keep_33 : Dc m_X0_keep 33 (.iadd) 1 34 := ⟨by decide +kernel, rfl⟩
theorem d_X0_keep_34 : Dc m_X0_keep 34 (.putfield 18) 3 37 := ⟨by decide +kernel, rfl⟩
theorem d_X0_keep_37 : Dc m_X0_keep 37 (.goto 16) 3 40 := ⟨by decide +kernel, rfl⟩
theorem d_X0_keep_40 : Dc m_X0_keep 40 (.aload_n 0) 1 41 := ⟨by decide +kernel, rfl⟩
theorem d_X0_keep_41 : Dc m_X0_keep 41 (.aload_n 0) 1 42 := ⟨by decide +kernel, rfl⟩
theorem d_X0_keep_42 : Dc m_X0_keep 42 (.getfield 14) 3 45 := ⟨by decide +kernel, rfl⟩
theorem d_X0_keep_45 : Dc m_X0_keep 45 (.iconst 1) 1 46 := ⟨by decide +kernel, rfl⟩
theorem d_X0_keep_46 : Dc m_X0_keep 46 (.iadd) 1 47 := ⟨by decide +kernel, rfl⟩
theorem d_X0_keep_47 : Dc m_X0_keep 47 (.bipush 24) 2 49 := ⟨by decide +kernel, rfl⟩
theorem d_X0_keep_49 : Dc m_X0_keep 49 (.irem) 1 50 := ⟨by decide +kernel, rfl⟩
theorem d_X0_keep_50 : Dc m_X0_keep 50 (.putfield 14) 3 53 := ⟨by decide +kernel, rfl⟩
theorem d_X0_keep_53 : Dc m_X0_keep 53 (.aload_n 1) 1 54 := ⟨by decide +kernel, rfl⟩
theorem d_X0_keep_54 : Dc m_X0_keep 54 (.iload_n 2) 1 55 := ⟨by decide +kernel, rfl⟩
theorem d_X0_keep_55 : Dc m_X0_keep 55 (.invokevirtual 21) 3 58 := ⟨by decide +kernel, rfl⟩
theorem d_X0_keep_58 : Dc m_X0_keep 58 (.istore 4) 2 60 := ⟨by decide +kernel, rfl⟩
theorem d_X0_keep_60 : Dc m_X0_keep 60 (.aload_n 3) 1 61 := ⟨by decide +kernel, rfl⟩
theorem d_X0_keep_61 : Dc m_X0_keep 61 (.iconst 0) 1 62 := ⟨by decide +kernel, rfl⟩
theorem d_X0_keep_62 : Dc m_X0_keep 62 (.iload 4) 2 64 := ⟨by decide +kernel, rfl⟩
theorem d_X0_keep_64 : Dc m_X0_keep 64 (.ifCond .eq 7) 3 67 := ⟨by decide +kernel, rfl⟩
theorem d_X0_keep_67 : Dc m_X0_keep 67 (.iload_n 2) 1 68 := ⟨by decide +kernel, rfl⟩
theorem d_X0_keep_68 : Dc m_X0_keep 68 (.goto 4) 3 71 := ⟨by decide +kernel, rfl⟩
theorem d_X0_keep_71 : Dc m_X0_keep 71 (.iconst (-1)) 1 72 := ⟨by decide +kernel, rfl⟩
theorem d_X0_keep_72 : Dc m_X0_keep 72 (.iastore) 1 73 := ⟨by decide +kernel, rfl⟩
theorem d_X0_keep_73 : Dc m_X0_keep 73 (.aload_n 3) 1 74 := ⟨by decide +kernel, rfl⟩
theorem d_X0_keep_74 : Dc m_X0_keep 74 (.iconst 1) 1 75 := ⟨by decide +kernel, rfl⟩
theorem d_X0_keep_75 : Dc m_X0_keep 75 (.iload 4) 2 77 := ⟨by decide +kernel, rfl⟩
theorem d_X0_keep_77 : Dc m_X0_keep 77 (.ifCond .eq 12) 3 80 := ⟨by decide +kernel, rfl⟩
theorem d_X0_keep_80 : Dc m_X0_keep 80 (.aload_n 1) 1 81 := ⟨by decide +kernel, rfl⟩
theorem d_X0_keep_81 : Dc m_X0_keep 81 (.getfield 27) 3 84 := ⟨by decide +kernel, rfl⟩
theorem d_X0_keep_84 : Dc m_X0_keep 84 (.iload_n 2) 1 85 := ⟨by decide +kernel, rfl⟩
theorem d_X0_keep_85 : Dc m_X0_keep 85 (.iaload) 1 86 := ⟨by decide +kernel, rfl⟩
theorem d_X0_keep_86 : Dc m_X0_keep 86 (.goto 4) 3 89 := ⟨by decide +kernel, rfl⟩
theorem d_X0_keep_89 : Dc m_X0_keep 89 (.iconst 0) 1 90 := ⟨by decide +kernel, rfl⟩
theorem d_X0_keep_90 : Dc m_X0_keep 90 (.iastore) 1 91 := ⟨by decide +kernel, rfl⟩
theorem d_X0_keep_91 : Dc m_X0_keep 91 (.aload_n 3) 1 92 := ⟨by decide +kernel, rfl⟩
theorem d_X0_keep_92 : Dc m_X0_keep 92 (.iconst 2) 1 93 := ⟨by decide +kernel, rfl⟩
theorem d_X0_keep_93 : Dc m_X0_keep 93 (.iload 4) 2 95 := ⟨by decide +kernel, rfl⟩
theorem d_X0_keep_95 : Dc m_X0_keep 95 (.ifCond .eq 12) 3 98 := ⟨by decide +kernel, rfl⟩
theorem d_X0_keep_98 : Dc m_X0_keep 98 (.aload_n 1) 1 99 := ⟨by decide +kernel, rfl⟩
theorem d_X0_keep_99 : Dc m_X0_keep 99 (.getfield 31) 3 102 := ⟨by decide +kernel, rfl⟩
theorem d_X0_keep_102 : Dc m_X0_keep 102 (.iload_n 2) 1 103 := ⟨by decide +kernel, rfl⟩
theorem d_X0_keep_103 : Dc m_X0_keep 103 (.iaload) 1 104 := ⟨by decide +kernel, rfl⟩
theorem d_X0_keep_104 : Dc m_X0_keep 104 (.goto 4) 3 107 := ⟨by decide +kernel, rfl⟩
theorem d_X0_keep_107 : Dc m_X0_keep 107 (.iconst 0) 1 108 := ⟨by decide +kernel, rfl⟩
theorem d_X0_keep_108 : Dc m_X0_keep 108 (.iastore) 1 109 := ⟨by decide +kernel, rfl⟩
theorem d_X0_keep_109 : Dc m_X0_keep 109 (.aload_n 3) 1 110 := ⟨by decide +kernel, rfl⟩
theorem d_X0_keep_110 : Dc m_X0_keep 110 (.iconst 3) 1 111 := ⟨by decide +kernel, rfl⟩
theorem d_X0_keep_111 : Dc m_X0_keep 111 (.aload_n 1) 1 112 := ⟨by decide +kernel, rfl⟩
theorem d_X0_keep_112 : Dc m_X0_keep 112 (.getfield 34) 3 115 := ⟨by decide +kernel, rfl⟩
theorem d_X0_keep_115 : Dc m_X0_keep 115 (.iastore) 1 116 := ⟨by decide +kernel, rfl⟩
theorem d_X0_keep_116 : Dc m_X0_keep 116 (.aload_n 3) 1 117 := ⟨by decide +kernel, rfl⟩
theorem d_X0_keep_117 : Dc m_X0_keep 117 (.iconst 4) 1 118 := ⟨by decide +kernel, rfl⟩
theorem d_X0_keep_118 : Dc m_X0_keep 118 (.aload_n 1) 1 119 := ⟨by decide +kernel, rfl⟩
theorem d_X0_keep_119 : Dc m_X0_keep 119 (.getfield 37) 3 122 := ⟨by decide +kernel, rfl⟩
theorem d_X0_keep_122 : Dc m_X0_keep 122 (.iastore) 1 123 := ⟨by decide +kernel, rfl⟩
theorem d_X0_keep_123 : Dc m_X0_keep 123 (.aload_n 3) 1 124 := ⟨by decide +kernel, rfl⟩
theorem d_X0_keep_124 : Dc m_X0_keep 124 (.iconst 5) 1 125 := ⟨by decide +kernel, rfl⟩
theorem d_X0_keep_125 : Dc m_X0_keep 125 (.aload_n 1) 1 126 := ⟨by decide +kernel, rfl⟩
theorem d_X0_keep_126 : Dc m_X0_keep 126 (.getfield 40) 3 129 := ⟨by decide +kernel, rfl⟩
theorem d_X0_keep_129 : Dc m_X0_keep 129 (.iastore) 1 130 := ⟨by decide +kernel, rfl⟩
theorem d_X0_keep_130 : Dc m_X0_keep 130 (.aload_n 3) 1 131 := ⟨by decide +kernel, rfl⟩
theorem d_X0_keep_131 : Dc m_X0_keep 131 (.bipush 6) 2 133 := ⟨by decide +kernel, rfl⟩
theorem d_X0_keep_133 : Dc m_X0_keep 133 (.aload_n 1) 1 134 := ⟨by decide +kernel, rfl⟩
theorem d_X0_keep_134 : Dc m_X0_keep 134 (.getfield 43) 3 137 := ⟨by decide +kernel, rfl⟩
theorem d_X0_keep_137 : Dc m_X0_keep 137 (.iastore) 1 138 := ⟨by decide +kernel, rfl⟩
theorem d_X0_keep_138 : Dc m_X0_keep 138 (.return_) 1 139 := ⟨by decide +kernel, rfl⟩
theorem d_X0_takeBack_0 : Dc m_X0_takeBack 0 (.aload_n 0) 1 1 := ⟨by decide +kernel, rfl⟩
theorem d_X0_takeBack_1 : Dc m_X0_takeBack 1 (.getfield 18) 3 4 := ⟨by decide +kernel, rfl⟩
theorem d_X0_takeBack_4 : Dc m_X0_takeBack 4 (.ifCond .gt 4) 3 7 := ⟨by decide +kernel, rfl⟩
theorem d_X0_takeBack_7 : Dc m_X0_takeBack 7 (.return_) 1 8 := ⟨by decide +kernel, rfl⟩
theorem d_X0_takeBack_8 : Dc m_X0_takeBack 8 (.aload_n 0) 1 9 := ⟨by decide +kernel, rfl⟩
theorem d_X0_takeBack_9 : Dc m_X0_takeBack 9 (.dup) 1 10 := ⟨by decide +kernel, rfl⟩
theorem d_X0_takeBack_10 : Dc m_X0_takeBack 10 (.getfield 18) 3 13 := ⟨by decide +kernel, rfl⟩
theorem d_X0_takeBack_13 : Dc m_X0_takeBack 13 (.iconst 1) 1 14 := ⟨by decide +kernel, rfl⟩
theorem d_X0_takeBack_14 : Dc m_X0_takeBack 14 (.isub) 1 15 := ⟨by decide +kernel, rfl⟩
theorem d_X0_takeBack_15 : Dc m_X0_takeBack 15 (.putfield 18) 3 18 := ⟨by decide +kernel, rfl⟩
theorem d_X0_takeBack_18 : Dc m_X0_takeBack 18 (.aload_n 0) 1 19 := ⟨by decide +kernel, rfl⟩
theorem d_X0_takeBack_19 : Dc m_X0_takeBack 19 (.getfield 11) 3 22 := ⟨by decide +kernel, rfl⟩
theorem d_X0_takeBack_22 : Dc m_X0_takeBack 22 (.aload_n 0) 1 23 := ⟨by decide +kernel, rfl⟩
theorem d_X0_takeBack_23 : Dc m_X0_takeBack 23 (.getfield 14) 3 26 := ⟨by decide +kernel, rfl⟩
theorem d_X0_takeBack_26 : Dc m_X0_takeBack 26 (.aload_n 0) 1 27 := ⟨by decide +kernel, rfl⟩
theorem d_X0_takeBack_27 : Dc m_X0_takeBack 27 (.getfield 18) 3 30 := ⟨by decide +kernel, rfl⟩
theorem d_X0_takeBack_30 : Dc m_X0_takeBack 30 (.iadd) 1 31 := ⟨by decide +kernel, rfl⟩
theorem d_X0_takeBack_31 : Dc m_X0_takeBack 31 (.bipush 24) 2 33 := ⟨by decide +kernel, rfl⟩
theorem d_X0_takeBack_33 : Dc m_X0_takeBack 33 (.irem) 1 34 := ⟨by decide +kernel, rfl⟩
theorem d_X0_takeBack_34 : Dc m_X0_takeBack 34 (.aaload) 1 35 := ⟨by decide +kernel, rfl⟩
theorem d_X0_takeBack_35 : Dc m_X0_takeBack 35 (.astore_n 2) 1 36 := ⟨by decide +kernel, rfl⟩
theorem d_X0_takeBack_36 : Dc m_X0_takeBack 36 (.aload_n 2) 1 37 := ⟨by decide +kernel, rfl⟩
theorem d_X0_takeBack_37 : Dc m_X0_takeBack 37 (.iconst 0) 1 38 := ⟨by decide +kernel, rfl⟩
theorem d_X0_takeBack_38 : Dc m_X0_takeBack 38 (.iaload) 1 39 := ⟨by decide +kernel, rfl⟩
theorem d_X0_takeBack_39 : Dc m_X0_takeBack 39 (.istore_n 3) 1 40 := ⟨by decide +kernel, rfl⟩
theorem d_X0_takeBack_40 : Dc m_X0_takeBack 40 (.aload_n 1) 1 41 := ⟨by decide +kernel, rfl⟩
theorem d_X0_takeBack_41 : Dc m_X0_takeBack 41 (.iload_n 3) 1 42 := ⟨by decide +kernel, rfl⟩
theorem d_X0_takeBack_42 : Dc m_X0_takeBack 42 (.invokevirtual 21) 3 45 := ⟨by decide +kernel, rfl⟩
theorem d_X0_takeBack_45 : Dc m_X0_takeBack 45 (.ifCond .eq 21) 3 48 := ⟨by decide +kernel, rfl⟩
theorem d_X0_takeBack_48 : Dc m_X0_takeBack 48 (.aload_n 1) 1 49 := ⟨by decide +kernel, rfl⟩
theorem d_X0_takeBack_49 : Dc m_X0_takeBack 49 (.getfield 27) 3 52 := ⟨by decide +kernel, rfl⟩
theorem d_X0_takeBack_52 : Dc m_X0_takeBack 52 (.iload_n 3) 1 53 := ⟨by decide +kernel, rfl⟩
theorem d_X0_takeBack_53 : Dc m_X0_takeBack 53 (.aload_n 2) 1 54 := ⟨by decide +kernel, rfl⟩
theorem d_X0_takeBack_54 : Dc m_X0_takeBack 54 (.iconst 1) 1 55 := ⟨by decide +kernel, rfl⟩
theorem d_X0_takeBack_55 : Dc m_X0_takeBack 55 (.iaload) 1 56 := ⟨by decide +kernel, rfl⟩
theorem d_X0_takeBack_56 : Dc m_X0_takeBack 56 (.iastore) 1 57 := ⟨by decide +kernel, rfl⟩
theorem d_X0_takeBack_57 : Dc m_X0_takeBack 57 (.aload_n 1) 1 58 := ⟨by decide +kernel, rfl⟩
theorem d_X0_takeBack_58 : Dc m_X0_takeBack 58 (.getfield 31) 3 61 := ⟨by decide +kernel, rfl⟩
theorem d_X0_takeBack_61 : Dc m_X0_takeBack 61 (.iload_n 3) 1 62 := ⟨by decide +kernel, rfl⟩
theorem d_X0_takeBack_62 : Dc m_X0_takeBack 62 (.aload_n 2) 1 63 := ⟨by decide +kernel, rfl⟩
theorem d_X0_takeBack_63 : Dc m_X0_takeBack 63 (.iconst 2) 1 64 := ⟨by decide +kernel, rfl⟩
theorem d_X0_takeBack_64 : Dc m_X0_takeBack 64 (.iaload) 1 65 := ⟨by decide +kernel, rfl⟩
theorem d_X0_takeBack_65 : Dc m_X0_takeBack 65 (.iastore) 1 66 := ⟨by decide +kernel, rfl⟩
theorem d_X0_takeBack_66 : Dc m_X0_takeBack 66 (.aload_n 1) 1 67 := ⟨by decide +kernel, rfl⟩
theorem d_X0_takeBack_67 : Dc m_X0_takeBack 67 (.aload_n 2) 1 68 := ⟨by decide +kernel, rfl⟩
theorem d_X0_takeBack_68 : Dc m_X0_takeBack 68 (.iconst 3) 1 69 := ⟨by decide +kernel, rfl⟩
theorem d_X0_takeBack_69 : Dc m_X0_takeBack 69 (.iaload) 1 70 := ⟨by decide +kernel, rfl⟩
theorem d_X0_takeBack_70 : Dc m_X0_takeBack 70 (.aload_n 2) 1 71 := ⟨by decide +kernel, rfl⟩
theorem d_X0_takeBack_71 : Dc m_X0_takeBack 71 (.iconst 4) 1 72 := ⟨by decide +kernel, rfl⟩
theorem d_X0_takeBack_72 : Dc m_X0_takeBack 72 (.iaload) 1 73 := ⟨by decide +kernel, rfl⟩
theorem d_X0_takeBack_73 : Dc m_X0_takeBack 73 (.aload_n 2) 1 74 := ⟨by decide +kernel, rfl⟩
theorem d_X0_takeBack_74 : Dc m_X0_takeBack 74 (.iconst 5) 1 75 := ⟨by decide +kernel, rfl⟩
theorem d_X0_takeBack_75 : Dc m_X0_takeBack 75 (.iaload) 1 76 := ⟨by decide +kernel, rfl⟩
theorem d_X0_takeBack_76 : Dc m_X0_takeBack 76 (.aload_n 2) 1 77 := ⟨by decide +kernel, rfl⟩
theorem d_X0_takeBack_77 : Dc m_X0_takeBack 77 (.bipush 6) 2 79 := ⟨by decide +kernel, rfl⟩
theorem d_X0_takeBack_79 : Dc m_X0_takeBack 79 (.iaload) 1 80 := ⟨by decide +kernel, rfl⟩
theorem d_X0_takeBack_80 : Dc m_X0_takeBack 80 (.invokevirtual 46) 3 83 := ⟨by decide +kernel, rfl⟩
theorem d_X0_takeBack_83 : Dc m_X0_takeBack 83 (.return_) 1 84 := ⟨by decide +kernel, rfl⟩
theorem d_X1_of_0 : Dc m_X1_of 0 (.aload_n 0) 1 1 := ⟨by decide +kernel, rfl⟩
theorem d_X1_of_1 : Dc m_X1_of 1 (.iconst 0) 1 2 := ⟨by decide +kernel, rfl⟩
theorem d_X1_of_2 : Dc m_X1_of 2 (.putfield 15) 3 5 := ⟨by decide +kernel, rfl⟩
theorem d_X1_of_5 : Dc m_X1_of 5 (.aload_n 0) 1 6 := ⟨by decide +kernel, rfl⟩
theorem d_X1_of_6 : Dc m_X1_of 6 (.aload_n 1) 1 7 := ⟨by decide +kernel, rfl⟩
theorem d_X1_of_7 : Dc m_X1_of 7 (.getfield 19) 3 10 := ⟨by decide +kernel, rfl⟩
theorem d_X1_of_10 : Dc m_X1_of 10 (.iload_n 2) 1 11 := ⟨by decide +kernel, rfl⟩
theorem d_X1_of_11 : Dc m_X1_of 11 (.iaload) 1 12 := ⟨by decide +kernel, rfl⟩
theorem d_X1_of_12 : Dc m_X1_of 12 (.putfield 24) 3 15 := ⟨by decide +kernel, rfl⟩
theorem d_X1_of_15 : Dc m_X1_of 15 (.aload_n 0) 1 16 := ⟨by decide +kernel, rfl⟩
theorem d_X1_of_16 : Dc m_X1_of 16 (.iload_n 2) 1 17 := ⟨by decide +kernel, rfl⟩
theorem d_X1_of_17 : Dc m_X1_of 17 (.putfield 26) 3 20 := ⟨by decide +kernel, rfl⟩
theorem d_X1_of_20 : Dc m_X1_of 20 (.aload_n 0) 1 21 := ⟨by decide +kernel, rfl⟩
theorem d_X1_of_21 : Dc m_X1_of 21 (.aload_n 1) 1 22 := ⟨by decide +kernel, rfl⟩
theorem d_X1_of_22 : Dc m_X1_of 22 (.getfield 29) 3 25 := ⟨by decide +kernel, rfl⟩
theorem d_X1_of_25 : Dc m_X1_of 25 (.iload_n 2) 1 26 := ⟨by decide +kernel, rfl⟩
theorem d_X1_of_26 : Dc m_X1_of 26 (.iaload) 1 27 := ⟨by decide +kernel, rfl⟩
theorem d_X1_of_27 : Dc m_X1_of 27 (.putfield 32) 3 30 := ⟨by decide +kernel, rfl⟩
theorem d_X1_of_30 : Dc m_X1_of 30 (.aload_n 0) 1 31 := ⟨by decide +kernel, rfl⟩
theorem d_X1_of_31 : Dc m_X1_of 31 (.aload_n 1) 1 32 := ⟨by decide +kernel, rfl⟩
theorem d_X1_of_32 : Dc m_X1_of 32 (.getfield 34) 3 35 := ⟨by decide +kernel, rfl⟩
theorem d_X1_of_35 : Dc m_X1_of 35 (.iload_n 2) 1 36 := ⟨by decide +kernel, rfl⟩
theorem d_X1_of_36 : Dc m_X1_of 36 (.iaload) 1 37 := ⟨by decide +kernel, rfl⟩
theorem d_X1_of_37 : Dc m_X1_of 37 (.putfield 37) 3 40 := ⟨by decide +kernel, rfl⟩
theorem d_X1_of_40 : Dc m_X1_of 40 (.return_) 1 41 := ⟨by decide +kernel, rfl⟩
theorem d_X1_begins_0 : Dc m_X1_begins 0 (.aload_n 0) 1 1 := ⟨by decide +kernel, rfl⟩
theorem d_X1_begins_1 : Dc m_X1_begins 1 (.getfield 15) 3 4 := ⟨by decide +kernel, rfl⟩
theorem d_X1_begins_4 : Dc m_X1_begins 4 (.bipush 16) 2 6 := ⟨by decide +kernel, rfl⟩
theorem d_X1_begins_6 : Dc m_X1_begins 6 (.if_icmp .ge 23) 3 9 := ⟨by decide +kernel, rfl⟩
theorem d_X1_begins_9 : Dc m_X1_begins 9 (.aload_n 0) 1 10 := ⟨by decide +kernel, rfl⟩
theorem d_X1_begins_10 : Dc m_X1_begins 10 (.getfield 11) 3 13 := ⟨by decide +kernel, rfl⟩
theorem d_X1_begins_13 : Dc m_X1_begins 13 (.aload_n 0) 1 14 := ⟨by decide +kernel, rfl⟩
theorem d_X1_begins_14 : Dc m_X1_begins 14 (.getfield 15) 3 17 := ⟨by decide +kernel, rfl⟩
theorem d_X1_begins_17 : Dc m_X1_begins 17 (.iload_n 1) 1 18 := ⟨by decide +kernel, rfl⟩
theorem d_X1_begins_18 : Dc m_X1_begins 18 (.iastore) 1 19 := ⟨by decide +kernel, rfl⟩
theorem d_X1_begins_19 : Dc m_X1_begins 19 (.aload_n 0) 1 20 := ⟨by decide +kernel, rfl⟩
theorem d_X1_begins_20 : Dc m_X1_begins 20 (.dup) 1 21 := ⟨by decide +kernel, rfl⟩
theorem d_X1_begins_21 : Dc m_X1_begins 21 (.getfield 15) 3 24 := ⟨by decide +kernel, rfl⟩
theorem d_X1_begins_24 : Dc m_X1_begins 24 (.iconst 1) 1 25 := ⟨by decide +kernel, rfl⟩
theorem d_X1_begins_25 : Dc m_X1_begins 25 (.iadd) 1 26 := ⟨by decide +kernel, rfl⟩
theorem d_X1_begins_26 : Dc m_X1_begins 26 (.putfield 15) 3 29 := ⟨by decide +kernel, rfl⟩
theorem d_X1_begins_29 : Dc m_X1_begins 29 (.return_) 1 30 := ⟨by decide +kernel, rfl⟩
theorem d_X1_sizeAsked_0 : Dc m_X1_sizeAsked 0 (.aload_n 0) 1 1 := ⟨by decide +kernel, rfl⟩
theorem d_X1_sizeAsked_1 : Dc m_X1_sizeAsked 1 (.getfield 24) 3 4 := ⟨by decide +kernel, rfl⟩
theorem d_X1_sizeAsked_4 : Dc m_X1_sizeAsked 4 (.iconst 4) 1 5 := ⟨by decide +kernel, rfl⟩
theorem d_X1_sizeAsked_5 : Dc m_X1_sizeAsked 5 (.invokestatic 39) 3 8 := ⟨by decide +kernel, rfl⟩
theorem d_X1_sizeAsked_8 : Dc m_X1_sizeAsked 8 (.ifCond .eq 10) 3 11 := ⟨by decide +kernel, rfl⟩
theorem d_X1_sizeAsked_11 : Dc m_X1_sizeAsked 11 (.aload_n 0) 1 12 := ⟨by decide +kernel, rfl⟩
theorem d_X1_sizeAsked_12 : Dc m_X1_sizeAsked 12 (.invokevirtual 43) 3 15 := ⟨by decide +kernel, rfl⟩
theorem d_X1_sizeAsked_15 : Dc m_X1_sizeAsked 15 (.goto 7) 3 18 := ⟨by decide +kernel, rfl⟩
theorem d_X1_sizeAsked_18 : Dc m_X1_sizeAsked 18 (.aload_n 0) 1 19 := ⟨by decide +kernel, rfl⟩
theorem d_X1_sizeAsked_19 : Dc m_X1_sizeAsked 19 (.invokevirtual 47) 3 22 := ⟨by decide +kernel, rfl⟩
theorem d_X1_sizeAsked_22 : Dc m_X1_sizeAsked 22 (.ireturn) 1 23 := ⟨by decide +kernel, rfl⟩
theorem d_X1_markAsked_0 : Dc m_X1_markAsked 0 (.aload_n 0) 1 1 := ⟨by decide +kernel, rfl⟩
theorem d_X1_markAsked_1 : Dc m_X1_markAsked 1 (.getfield 24) 3 4 := ⟨by decide +kernel, rfl⟩
theorem d_X1_markAsked_4 : Dc m_X1_markAsked 4 (.iconst 4) 1 5 := ⟨by decide +kernel, rfl⟩
theorem d_X1_markAsked_5 : Dc m_X1_markAsked 5 (.invokestatic 39) 3 8 := ⟨by decide +kernel, rfl⟩
theorem d_X1_markAsked_8 : Dc m_X1_markAsked 8 (.ifCond .eq 10) 3 11 := ⟨by decide +kernel, rfl⟩
theorem d_X1_markAsked_11 : Dc m_X1_markAsked 11 (.aload_n 0) 1 12 := ⟨by decide +kernel, rfl⟩
theorem d_X1_markAsked_12 : Dc m_X1_markAsked 12 (.invokevirtual 50) 3 15 := ⟨by decide +kernel, rfl⟩
theorem d_X1_markAsked_15 : Dc m_X1_markAsked 15 (.goto 7) 3 18 := ⟨by decide +kernel, rfl⟩
theorem d_X1_markAsked_18 : Dc m_X1_markAsked 18 (.aload_n 0) 1 19 := ⟨by decide +kernel, rfl⟩
theorem d_X1_markAsked_19 : Dc m_X1_markAsked 19 (.invokevirtual 53) 3 22 := ⟨by decide +kernel, rfl⟩
theorem d_X1_markAsked_22 : Dc m_X1_markAsked 22 (.ireturn) 1 23 := ⟨by decide +kernel, rfl⟩
theorem d_X1_sizeAskedOfFresh_0 : Dc m_X1_sizeAskedOfFresh 0 (.aload_n 0) 1 1 := ⟨by decide +kernel, rfl⟩
theorem d_X1_sizeAskedOfFresh_1 : Dc m_X1_sizeAskedOfFresh 1 (.getfield 24) 3 4 := ⟨by decide +kernel, rfl⟩
theorem d_X1_sizeAskedOfFresh_4 : Dc m_X1_sizeAskedOfFresh 4 (.iconst 2) 1 5 := ⟨by decide +kernel, rfl⟩
theorem d_X1_sizeAskedOfFresh_5 : Dc m_X1_sizeAskedOfFresh 5 (.if_icmp .ne 15) 3 8 := ⟨by decide +kernel, rfl⟩
theorem d_X1_sizeAskedOfFresh_8 : Dc m_X1_sizeAskedOfFresh 8 (.aload_n 0) 1 9 := ⟨by decide +kernel, rfl⟩
theorem d_X1_sizeAskedOfFresh_9 : Dc m_X1_sizeAskedOfFresh 9 (.bipush 12) 2 11 := ⟨by decide +kernel, rfl⟩
theorem d_X1_sizeAskedOfFresh_11 : Dc m_X1_sizeAskedOfFresh 11 (.invokevirtual 56) 3 14 := ⟨by decide +kernel, rfl⟩
theorem d_X1_sizeAskedOfFresh_14 : Dc m_X1_sizeAskedOfFresh 14 (.aload_n 0) 1 15 := ⟨by decide +kernel, rfl⟩
theorem d_X1_sizeAskedOfFresh_15 : Dc m_X1_sizeAskedOfFresh 15 (.invokevirtual 60) 3 18 := ⟨by decide +kernel, rfl⟩
theorem d_X1_sizeAskedOfFresh_18 : Dc m_X1_sizeAskedOfFresh 18 (.ineg) 1 19 := ⟨by decide +kernel, rfl⟩
theorem d_X1_sizeAskedOfFresh_19 : Dc m_X1_sizeAskedOfFresh 19 (.ireturn) 1 20 := ⟨by decide +kernel, rfl⟩
theorem d_X1_sizeAskedOfFresh_20 : Dc m_X1_sizeAskedOfFresh 20 (.aload_n 0) 1 21 := ⟨by decide +kernel, rfl⟩
theorem d_X1_sizeAskedOfFresh_21 : Dc m_X1_sizeAskedOfFresh 21 (.invokevirtual 60) 3 24 := ⟨by decide +kernel, rfl⟩
theorem d_X1_sizeAskedOfFresh_24 : Dc m_X1_sizeAskedOfFresh 24 (.ireturn) 1 25 := ⟨by decide +kernel, rfl⟩
theorem d_X1_sizeAskedOfOld_0 : Dc m_X1_sizeAskedOfOld 0 (.aload_n 0) 1 1 := ⟨by decide +kernel, rfl⟩
theorem d_X1_sizeAskedOfOld_1 : Dc m_X1_sizeAskedOfOld 1 (.getfield 24) 3 4 := ⟨by decide +kernel, rfl⟩
theorem d_X1_sizeAskedOfOld_4 : Dc m_X1_sizeAskedOfOld 4 (.iconst 5) 1 5 := ⟨by decide +kernel, rfl⟩
theorem d_X1_sizeAskedOfOld_5 : Dc m_X1_sizeAskedOfOld 5 (.if_icmp .ne 16) 3 8 := ⟨by decide +kernel, rfl⟩
theorem d_X1_sizeAskedOfOld_8 : Dc m_X1_sizeAskedOfOld 8 (.aload_n 0) 1 9 := ⟨by decide +kernel, rfl⟩
theorem d_X1_sizeAskedOfOld_9 : Dc m_X1_sizeAskedOfOld 9 (.bipush 14) 2 11 := ⟨by decide +kernel, rfl⟩
theorem d_X1_sizeAskedOfOld_11 : Dc m_X1_sizeAskedOfOld 11 (.invokevirtual 56) 3 14 := ⟨by decide +kernel, rfl⟩
theorem d_X1_sizeAskedOfOld_14 : Dc m_X1_sizeAskedOfOld 14 (.iconst 2) 1 15 := ⟨by decide +kernel, rfl⟩
theorem d_X1_sizeAskedOfOld_15 : Dc m_X1_sizeAskedOfOld 15 (.aload_n 0) 1 16 := ⟨by decide +kernel, rfl⟩
theorem d_X1_sizeAskedOfOld_16 : Dc m_X1_sizeAskedOfOld 16 (.invokevirtual 63) 3 19 := ⟨by decide +kernel, rfl⟩
theorem d_X1_sizeAskedOfOld_19 : Dc m_X1_sizeAskedOfOld 19 (.imul) 1 20 := ⟨by decide +kernel, rfl⟩
theorem d_X1_sizeAskedOfOld_20 : Dc m_X1_sizeAskedOfOld 20 (.ireturn) 1 21 := ⟨by decide +kernel, rfl⟩
theorem d_X1_sizeAskedOfOld_21 : Dc m_X1_sizeAskedOfOld 21 (.aload_n 0) 1 22 := ⟨by decide +kernel, rfl⟩
theorem d_X1_sizeAskedOfOld_22 : Dc m_X1_sizeAskedOfOld 22 (.invokevirtual 63) 3 25 := ⟨by decide +kernel, rfl⟩
theorem d_X1_sizeAskedOfOld_25 : Dc m_X1_sizeAskedOfOld 25 (.ireturn) 1 26 := ⟨by decide +kernel, rfl⟩
theorem d_X1_markAskedOfFresh_0 : Dc m_X1_markAskedOfFresh 0 (.aload_n 0) 1 1 := ⟨by decide +kernel, rfl⟩
theorem d_X1_markAskedOfFresh_1 : Dc m_X1_markAskedOfFresh 1 (.getfield 24) 3 4 := ⟨by decide +kernel, rfl⟩
theorem d_X1_markAskedOfFresh_4 : Dc m_X1_markAskedOfFresh 4 (.iconst 2) 1 5 := ⟨by decide +kernel, rfl⟩
theorem d_X1_markAskedOfFresh_5 : Dc m_X1_markAskedOfFresh 5 (.if_icmp .ne 16) 3 8 := ⟨by decide +kernel, rfl⟩
theorem d_X1_markAskedOfFresh_8 : Dc m_X1_markAskedOfFresh 8 (.aload_n 0) 1 9 := ⟨by decide +kernel, rfl⟩
theorem d_X1_markAskedOfFresh_9 : Dc m_X1_markAskedOfFresh 9 (.bipush 24) 2 11 := ⟨by decide +kernel, rfl⟩
theorem d_X1_markAskedOfFresh_11 : Dc m_X1_markAskedOfFresh 11 (.invokevirtual 56) 3 14 := ⟨by decide +kernel, rfl⟩
theorem d_X1_markAskedOfFresh_14 : Dc m_X1_markAskedOfFresh 14 (.iconst 2) 1 15 := ⟨by decide +kernel, rfl⟩
theorem d_X1_markAskedOfFresh_15 : Dc m_X1_markAskedOfFresh 15 (.aload_n 0) 1 16 := ⟨by decide +kernel, rfl⟩
theorem d_X1_markAskedOfFresh_16 : Dc m_X1_markAskedOfFresh 16 (.invokevirtual 66) 3 19 := ⟨by decide +kernel, rfl⟩
theorem d_X1_markAskedOfFresh_19 : Dc m_X1_markAskedOfFresh 19 (.imul) 1 20 := ⟨by decide +kernel, rfl⟩
theorem d_X1_markAskedOfFresh_20 : Dc m_X1_markAskedOfFresh 20 (.ireturn) 1 21 := ⟨by decide +kernel, rfl⟩
theorem d_X1_markAskedOfFresh_21 : Dc m_X1_markAskedOfFresh 21 (.aload_n 0) 1 22 := ⟨by decide +kernel, rfl⟩
theorem d_X1_markAskedOfFresh_22 : Dc m_X1_markAskedOfFresh 22 (.getfield 24) 3 25 := ⟨by decide +kernel, rfl⟩
theorem d_X1_markAskedOfFresh_25 : Dc m_X1_markAskedOfFresh 25 (.iconst 3) 1 26 := ⟨by decide +kernel, rfl⟩
theorem d_X1_markAskedOfFresh_26 : Dc m_X1_markAskedOfFresh 26 (.if_icmp .ne 18) 3 29 := ⟨by decide +kernel, rfl⟩
theorem d_X1_markAskedOfFresh_29 : Dc m_X1_markAskedOfFresh 29 (.aload_n 0) 1 30 := ⟨by decide +kernel, rfl⟩
theorem d_X1_markAskedOfFresh_30 : Dc m_X1_markAskedOfFresh 30 (.bipush 22) 2 32 := ⟨by decide +kernel, rfl⟩
theorem d_X1_markAskedOfFresh_32 : Dc m_X1_markAskedOfFresh 32 (.invokevirtual 56) 3 35 := ⟨by decide +kernel, rfl⟩
theorem d_X1_markAskedOfFresh_35 : Dc m_X1_markAskedOfFresh 35 (.aload_n 0) 1 36 := ⟨by decide +kernel, rfl⟩
theorem d_X1_markAskedOfFresh_36 : Dc m_X1_markAskedOfFresh 36 (.invokevirtual 66) 3 39 := ⟨by decide +kernel, rfl⟩
theorem d_X1_markAskedOfFresh_39 : Dc m_X1_markAskedOfFresh 39 (.sipush 1000) 3 42 := ⟨by decide +kernel, rfl⟩
theorem d_X1_markAskedOfFresh_42 : Dc m_X1_markAskedOfFresh 42 (.isub) 1 43 := ⟨by decide +kernel, rfl⟩
theorem d_X1_markAskedOfFresh_43 : Dc m_X1_markAskedOfFresh 43 (.ireturn) 1 44 := ⟨by decide +kernel, rfl⟩
theorem d_X1_markAskedOfFresh_44 : Dc m_X1_markAskedOfFresh 44 (.aload_n 0) 1 45 := ⟨by decide +kernel, rfl⟩
theorem d_X1_markAskedOfFresh_45 : Dc m_X1_markAskedOfFresh 45 (.invokevirtual 66) 3 48 := ⟨by decide +kernel, rfl⟩
theorem d_X1_markAskedOfFresh_48 : Dc m_X1_markAskedOfFresh 48 (.ireturn) 1 49 := ⟨by decide +kernel, rfl⟩
theorem d_X1_lentSize_0 : Dc m_X1_lentSize 0 (.aload_n 0) 1 1 := ⟨by decide +kernel, rfl⟩
theorem d_X1_lentSize_1 : Dc m_X1_lentSize 1 (.bipush 10) 2 3 := ⟨by decide +kernel, rfl⟩
theorem d_X1_lentSize_3 : Dc m_X1_lentSize 3 (.invokevirtual 56) 3 6 := ⟨by decide +kernel, rfl⟩
theorem d_X1_lentSize_6 : Dc m_X1_lentSize 6 (.aload_n 0) 1 7 := ⟨by decide +kernel, rfl⟩
theorem d_X1_lentSize_7 : Dc m_X1_lentSize 7 (.getfield 32) 3 10 := ⟨by decide +kernel, rfl⟩
theorem d_X1_lentSize_10 : Dc m_X1_lentSize 10 (.ireturn) 1 11 := ⟨by decide +kernel, rfl⟩
theorem d_X1_freshSize_0 : Dc m_X1_freshSize 0 (.aload_n 0) 1 1 := ⟨by decide +kernel, rfl⟩
theorem d_X1_freshSize_1 : Dc m_X1_freshSize 1 (.bipush 11) 2 3 := ⟨by decide +kernel, rfl⟩
theorem d_X1_freshSize_3 : Dc m_X1_freshSize 3 (.invokevirtual 56) 3 6 := ⟨by decide +kernel, rfl⟩
theorem d_X1_freshSize_6 : Dc m_X1_freshSize 6 (.aload_n 0) 1 7 := ⟨by decide +kernel, rfl⟩
theorem d_X1_freshSize_7 : Dc m_X1_freshSize 7 (.invokevirtual 69) 3 10 := ⟨by decide +kernel, rfl⟩
theorem d_X1_freshSize_10 : Dc m_X1_freshSize 10 (.istore_n 1) 1 11 := ⟨by decide +kernel, rfl⟩
theorem d_X1_freshSize_11 : Dc m_X1_freshSize 11 (.iload_n 1) 1 12 := ⟨by decide +kernel, rfl⟩
theorem d_X1_freshSize_12 : Dc m_X1_freshSize 12 (.aload_n 0) 1 13 := ⟨by decide +kernel, rfl⟩
theorem d_X1_freshSize_13 : Dc m_X1_freshSize 13 (.invokevirtual 53) 3 16 := ⟨by decide +kernel, rfl⟩
theorem d_X1_freshSize_16 : Dc m_X1_freshSize 16 (.iadd) 1 17 := ⟨by decide +kernel, rfl⟩
theorem d_X1_freshSize_17 : Dc m_X1_freshSize 17 (.ireturn) 1 18 := ⟨by decide +kernel, rfl⟩
theorem d_X1_oldSize_0 : Dc m_X1_oldSize 0 (.aload_n 0) 1 1 := ⟨by decide +kernel, rfl⟩
theorem d_X1_oldSize_1 : Dc m_X1_oldSize 1 (.bipush 13) 2 3 := ⟨by decide +kernel, rfl⟩
theorem d_X1_oldSize_3 : Dc m_X1_oldSize 3 (.invokevirtual 56) 3 6 := ⟨by decide +kernel, rfl⟩
theorem d_X1_oldSize_6 : Dc m_X1_oldSize 6 (.aload_n 0) 1 7 := ⟨by decide +kernel, rfl⟩
theorem d_X1_oldSize_7 : Dc m_X1_oldSize 7 (.invokevirtual 69) 3 10 := ⟨by decide +kernel, rfl⟩
theorem d_X1_oldSize_10 : Dc m_X1_oldSize 10 (.bipush 100) 2 12 := ⟨by decide +kernel, rfl⟩
theorem d_X1_oldSize_12 : Dc m_X1_oldSize 12 (.isub) 1 13 := ⟨by decide +kernel, rfl⟩
theorem d_X1_oldSize_13 : Dc m_X1_oldSize 13 (.ireturn) 1 14 := ⟨by decide +kernel, rfl⟩
theorem d_X1_lentMark_0 : Dc m_X1_lentMark 0 (.aload_n 0) 1 1 := ⟨by decide +kernel, rfl⟩
theorem d_X1_lentMark_1 : Dc m_X1_lentMark 1 (.bipush 20) 2 3 := ⟨by decide +kernel, rfl⟩
theorem d_X1_lentMark_3 : Dc m_X1_lentMark 3 (.invokevirtual 56) 3 6 := ⟨by decide +kernel, rfl⟩
theorem d_X1_lentMark_6 : Dc m_X1_lentMark 6 (.aload_n 0) 1 7 := ⟨by decide +kernel, rfl⟩
theorem d_X1_lentMark_7 : Dc m_X1_lentMark 7 (.getfield 26) 3 10 := ⟨by decide +kernel, rfl⟩
theorem d_X1_lentMark_10 : Dc m_X1_lentMark 10 (.ireturn) 1 11 := ⟨by decide +kernel, rfl⟩
theorem d_X1_freshMark_0 : Dc m_X1_freshMark 0 (.aload_n 0) 1 1 := ⟨by decide +kernel, rfl⟩
theorem d_X1_freshMark_1 : Dc m_X1_freshMark 1 (.bipush 21) 2 3 := ⟨by decide +kernel, rfl⟩
theorem d_X1_freshMark_3 : Dc m_X1_freshMark 3 (.invokevirtual 56) 3 6 := ⟨by decide +kernel, rfl⟩
theorem d_X1_freshMark_6 : Dc m_X1_freshMark 6 (.aload_n 0) 1 7 := ⟨by decide +kernel, rfl⟩
theorem d_X1_freshMark_7 : Dc m_X1_freshMark 7 (.invokevirtual 72) 3 10 := ⟨by decide +kernel, rfl⟩
theorem d_X1_freshMark_10 : Dc m_X1_freshMark 10 (.aload_n 0) 1 11 := ⟨by decide +kernel, rfl⟩
theorem d_X1_freshMark_11 : Dc m_X1_freshMark 11 (.getfield 37) 3 14 := ⟨by decide +kernel, rfl⟩
theorem d_X1_freshMark_14 : Dc m_X1_freshMark 14 (.iadd) 1 15 := ⟨by decide +kernel, rfl⟩
theorem d_X1_freshMark_15 : Dc m_X1_freshMark 15 (.ireturn) 1 16 := ⟨by decide +kernel, rfl⟩
theorem d_X1_oldMark_0 : Dc m_X1_oldMark 0 (.aload_n 0) 1 1 := ⟨by decide +kernel, rfl⟩
theorem d_X1_oldMark_1 : Dc m_X1_oldMark 1 (.bipush 23) 2 3 := ⟨by decide +kernel, rfl⟩
theorem d_X1_oldMark_3 : Dc m_X1_oldMark 3 (.invokevirtual 56) 3 6 := ⟨by decide +kernel, rfl⟩
theorem d_X1_oldMark_6 : Dc m_X1_oldMark 6 (.aload_n 0) 1 7 := ⟨by decide +kernel, rfl⟩
theorem d_X1_oldMark_7 : Dc m_X1_oldMark 7 (.invokevirtual 72) 3 10 := ⟨by decide +kernel, rfl⟩
theorem d_X1_oldMark_10 : Dc m_X1_oldMark 10 (.istore_n 1) 1 11 := ⟨by decide +kernel, rfl⟩
theorem d_X1_oldMark_11 : Dc m_X1_oldMark 11 (.iload_n 1) 1 12 := ⟨by decide +kernel, rfl⟩
theorem d_X1_oldMark_12 : Dc m_X1_oldMark 12 (.aload_n 0) 1 13 := ⟨by decide +kernel, rfl⟩
theorem d_X1_oldMark_13 : Dc m_X1_oldMark 13 (.invokevirtual 43) 3 16 := ⟨by decide +kernel, rfl⟩
theorem d_X1_oldMark_16 : Dc m_X1_oldMark 16 (.isub) 1 17 := ⟨by decide +kernel, rfl⟩
theorem d_X1_oldMark_17 : Dc m_X1_oldMark 17 (.ireturn) 1 18 := ⟨by decide +kernel, rfl⟩
theorem d_X2_isNumber_0 : Dc m_X2_isNumber 0 (.iload_n 0) 1 1 := ⟨by decide +kernel, rfl⟩
theorem d_X2_isNumber_1 : Dc m_X2_isNumber 1 (.ifCond .lt 13) 3 4 := ⟨by decide +kernel, rfl⟩
theorem d_X2_isNumber_4 : Dc m_X2_isNumber 4 (.iload_n 0) 1 5 := ⟨by decide +kernel, rfl⟩
theorem d_X2_isNumber_5 : Dc m_X2_isNumber 5 (.bipush 8) 2 7 := ⟨by decide +kernel, rfl⟩
theorem d_X2_isNumber_7 : Dc m_X2_isNumber 7 (.if_icmp .ge 7) 3 10 := ⟨by decide +kernel, rfl⟩
theorem d_X2_isNumber_10 : Dc m_X2_isNumber 10 (.iconst 1) 1 11 := ⟨by decide +kernel, rfl⟩
theorem d_X2_isNumber_11 : Dc m_X2_isNumber 11 (.goto 4) 3 14 := ⟨by decide +kernel, rfl⟩
theorem d_X2_isNumber_14 : Dc m_X2_isNumber 14 (.iconst 0) 1 15 := ⟨by decide +kernel, rfl⟩
theorem d_X2_isNumber_15 : Dc m_X2_isNumber 15 (.ireturn) 1 16 := ⟨by decide +kernel, rfl⟩
theorem d_X2_isMissing_0 : Dc m_X2_isMissing 0 (.aload_n 0) 1 1 := ⟨by decide +kernel, rfl⟩
theorem d_X2_isMissing_1 : Dc m_X2_isMissing 1 (.getfield 11) 3 4 := ⟨by decide +kernel, rfl⟩
theorem d_X2_isMissing_4 : Dc m_X2_isMissing 4 (.iload_n 1) 1 5 := ⟨by decide +kernel, rfl⟩
theorem d_X2_isMissing_5 : Dc m_X2_isMissing 5 (.iaload) 1 6 := ⟨by decide +kernel, rfl⟩
theorem d_X2_isMissing_6 : Dc m_X2_isMissing 6 (.iconst (-1)) 1 7 := ⟨by decide +kernel, rfl⟩
theorem d_X2_isMissing_7 : Dc m_X2_isMissing 7 (.if_icmp .ne 7) 3 10 := ⟨by decide +kernel, rfl⟩
theorem d_X2_isMissing_10 : Dc m_X2_isMissing 10 (.iconst 1) 1 11 := ⟨by decide +kernel, rfl⟩
theorem d_X2_isMissing_11 : Dc m_X2_isMissing 11 (.goto 4) 3 14 := ⟨by decide +kernel, rfl⟩
theorem d_X2_isMissing_14 : Dc m_X2_isMissing 14 (.iconst 0) 1 15 := ⟨by decide +kernel, rfl⟩
theorem d_X2_isMissing_15 : Dc m_X2_isMissing 15 (.ireturn) 1 16 := ⟨by decide +kernel, rfl⟩
theorem d_X2_hasSpan_0 : Dc m_X2_hasSpan 0 (.iload_n 2) 1 1 := ⟨by decide +kernel, rfl⟩
theorem d_X2_hasSpan_1 : Dc m_X2_hasSpan 1 (.ifCond .lt 23) 3 4 := ⟨by decide +kernel, rfl⟩
theorem d_X2_hasSpan_4 : Dc m_X2_hasSpan 4 (.iload_n 3) 1 5 := ⟨by decide +kernel, rfl⟩
theorem d_X2_hasSpan_5 : Dc m_X2_hasSpan 5 (.ifCond .lt 19) 3 8 := ⟨by decide +kernel, rfl⟩
theorem d_X2_hasSpan_8 : Dc m_X2_hasSpan 8 (.iload_n 2) 1 9 := ⟨by decide +kernel, rfl⟩
theorem d_X2_hasSpan_9 : Dc m_X2_hasSpan 9 (.aload_n 0) 1 10 := ⟨by decide +kernel, rfl⟩
theorem d_X2_hasSpan_10 : Dc m_X2_hasSpan 10 (.getfield 15) 3 13 := ⟨by decide +kernel, rfl⟩
theorem d_X2_hasSpan_13 : Dc m_X2_hasSpan 13 (.iload_n 1) 1 14 := ⟨by decide +kernel, rfl⟩
theorem d_X2_hasSpan_14 : Dc m_X2_hasSpan 14 (.iaload) 1 15 := ⟨by decide +kernel, rfl⟩
theorem d_X2_hasSpan_15 : Dc m_X2_hasSpan 15 (.iload_n 3) 1 16 := ⟨by decide +kernel, rfl⟩
theorem d_X2_hasSpan_16 : Dc m_X2_hasSpan 16 (.isub) 1 17 := ⟨by decide +kernel, rfl⟩
theorem d_X2_hasSpan_17 : Dc m_X2_hasSpan 17 (.if_icmp .gt 7) 3 20 := ⟨by decide +kernel, rfl⟩
theorem d_X2_hasSpan_20 : Dc m_X2_hasSpan 20 (.iconst 1) 1 21 := ⟨by decide +kernel, rfl⟩
theorem d_X2_hasSpan_21 : Dc m_X2_hasSpan 21 (.goto 4) 3 24 := ⟨by decide +kernel, rfl⟩
theorem d_X2_hasSpan_24 : Dc m_X2_hasSpan 24 (.iconst 0) 1 25 := ⟨by decide +kernel, rfl⟩
theorem d_X2_hasSpan_25 : Dc m_X2_hasSpan 25 (.ireturn) 1 26 := ⟨by decide +kernel, rfl⟩
theorem d_X2_findingOf_0 : Dc m_X2_findingOf 0 (.aload_n 0) 1 1 := ⟨by decide +kernel, rfl⟩
theorem d_X2_findingOf_1 : Dc m_X2_findingOf 1 (.iload_n 1) 1 2 := ⟨by decide +kernel, rfl⟩
theorem d_X2_findingOf_2 : Dc m_X2_findingOf 2 (.invokevirtual 29) 3 5 := ⟨by decide +kernel, rfl⟩
theorem d_X2_findingOf_5 : Dc m_X2_findingOf 5 (.ifCond .eq 5) 3 8 := ⟨by decide +kernel, rfl⟩
theorem d_X2_findingOf_8 : Dc m_X2_findingOf 8 (.iconst 1) 1 9 := ⟨by decide +kernel, rfl⟩
theorem d_X2_findingOf_9 : Dc m_X2_findingOf 9 (.ireturn) 1 10 := ⟨by decide +kernel, rfl⟩
theorem d_X2_findingOf_10 : Dc m_X2_findingOf 10 (.aload_n 0) 1 11 := ⟨by decide +kernel, rfl⟩
theorem d_X2_findingOf_11 : Dc m_X2_findingOf 11 (.iload_n 1) 1 12 := ⟨by decide +kernel, rfl⟩
theorem d_X2_findingOf_12 : Dc m_X2_findingOf 12 (.iload_n 2) 1 13 := ⟨by decide +kernel, rfl⟩
theorem d_X2_findingOf_13 : Dc m_X2_findingOf 13 (.iload_n 3) 1 14 := ⟨by decide +kernel, rfl⟩
theorem d_X2_findingOf_14 : Dc m_X2_findingOf 14 (.invokevirtual 33) 3 17 := ⟨by decide +kernel, rfl⟩
theorem d_X2_findingOf_17 : Dc m_X2_findingOf 17 (.ifCond .eq 7) 3 20 := ⟨by decide +kernel, rfl⟩
theorem d_X2_findingOf_20 : Dc m_X2_findingOf 20 (.iconst 0) 1 21 := ⟨by decide +kernel, rfl⟩
theorem d_X2_findingOf_21 : Dc m_X2_findingOf 21 (.goto 4) 3 24 := ⟨by decide +kernel, rfl⟩
theorem d_X2_findingOf_24 : Dc m_X2_findingOf 24 (.iconst 2) 1 25 := ⟨by decide +kernel, rfl⟩
theorem d_X2_findingOf_25 : Dc m_X2_findingOf 25 (.ireturn) 1 26 := ⟨by decide +kernel, rfl⟩
theorem d_X2_lay_0 : Dc m_X2_lay 0 (.aload_n 0) 1 1 := ⟨by decide +kernel, rfl⟩
theorem d_X2_lay_1 : Dc m_X2_lay 1 (.getfield 11) 3 4 := ⟨by decide +kernel, rfl⟩
theorem d_X2_lay_4 : Dc m_X2_lay 4 (.iload_n 1) 1 5 := ⟨by decide +kernel, rfl⟩
theorem d_X2_lay_5 : Dc m_X2_lay 5 (.iload_n 2) 1 6 := ⟨by decide +kernel, rfl⟩
theorem d_X2_lay_6 : Dc m_X2_lay 6 (.iastore) 1 7 := ⟨by decide +kernel, rfl⟩
theorem d_X2_lay_7 : Dc m_X2_lay 7 (.aload_n 0) 1 8 := ⟨by decide +kernel, rfl⟩
theorem d_X2_lay_8 : Dc m_X2_lay 8 (.getfield 15) 3 11 := ⟨by decide +kernel, rfl⟩
theorem d_X2_lay_11 : Dc m_X2_lay 11 (.iload_n 1) 1 12 := ⟨by decide +kernel, rfl⟩
theorem d_X2_lay_12 : Dc m_X2_lay 12 (.iload_n 3) 1 13 := ⟨by decide +kernel, rfl⟩
theorem d_X2_lay_13 : Dc m_X2_lay 13 (.iastore) 1 14 := ⟨by decide +kernel, rfl⟩
theorem d_X2_lay_14 : Dc m_X2_lay 14 (.aload_n 0) 1 15 := ⟨by decide +kernel, rfl⟩
theorem d_X2_lay_15 : Dc m_X2_lay 15 (.getfield 20) 3 18 := ⟨by decide +kernel, rfl⟩
theorem d_X2_lay_18 : Dc m_X2_lay 18 (.iload_n 1) 1 19 := ⟨by decide +kernel, rfl⟩
theorem d_X2_lay_19 : Dc m_X2_lay 19 (.aaload) 1 20 := ⟨by decide +kernel, rfl⟩
theorem d_X2_lay_20 : Dc m_X2_lay 20 (.iconst 0) 1 21 := ⟨by decide +kernel, rfl⟩
theorem d_X2_lay_21 : Dc m_X2_lay 21 (.invokestatic 23) 3 24 := ⟨by decide +kernel, rfl⟩
theorem d_X2_lay_24 : Dc m_X2_lay 24 (.return_) 1 25 := ⟨by decide +kernel, rfl⟩
theorem d_X2_put_0 : Dc m_X2_put 0 (.aload_n 0) 1 1 := ⟨by decide +kernel, rfl⟩
theorem d_X2_put_1 : Dc m_X2_put 1 (.getfield 11) 3 4 := ⟨by decide +kernel, rfl⟩
theorem d_X2_put_4 : Dc m_X2_put 4 (.iload_n 1) 1 5 := ⟨by decide +kernel, rfl⟩
theorem d_X2_put_5 : Dc m_X2_put 5 (.iaload) 1 6 := ⟨by decide +kernel, rfl⟩
theorem d_X2_put_6 : Dc m_X2_put 6 (.ifCond .ne 8) 3 9 := ⟨by decide +kernel, rfl⟩
theorem d_X2_put_9 : Dc m_X2_put 9 (.iload_n 3) 1 10 := ⟨by decide +kernel, rfl⟩
theorem d_X2_put_10 : Dc m_X2_put 10 (.i2b) 1 11 := ⟨by decide +kernel, rfl⟩
theorem d_X2_put_11 : Dc m_X2_put 11 (.goto 19) 3 14 := ⟨by decide +kernel, rfl⟩
theorem d_X2_put_14 : Dc m_X2_put 14 (.aload_n 0) 1 15 := ⟨by decide +kernel, rfl⟩
theorem d_X2_put_15 : Dc m_X2_put 15 (.getfield 11) 3 18 := ⟨by decide +kernel, rfl⟩
theorem d_X2_put_18 : Dc m_X2_put 18 (.iload_n 1) 1 19 := ⟨by decide +kernel, rfl⟩
theorem d_X2_put_19 : Dc m_X2_put 19 (.iaload) 1 20 := ⟨by decide +kernel, rfl⟩
theorem d_X2_put_20 : Dc m_X2_put 20 (.iconst 1) 1 21 := ⟨by decide +kernel, rfl⟩
theorem d_X2_put_21 : Dc m_X2_put 21 (.if_icmp .ne 8) 3 24 := ⟨by decide +kernel, rfl⟩
theorem d_X2_put_24 : Dc m_X2_put 24 (.iload_n 3) 1 25 := ⟨by decide +kernel, rfl⟩
theorem d_X2_put_25 : Dc m_X2_put 25 (.i2s) 1 26 := ⟨by decide +kernel, rfl⟩
theorem d_X2_put_26 : Dc m_X2_put 26 (.goto 4) 3 29 := ⟨by decide +kernel, rfl⟩
theorem d_X2_put_29 : Dc m_X2_put 29 (.iload_n 3) 1 30 := ⟨by decide +kernel, rfl⟩
theorem d_X2_put_30 : Dc m_X2_put 30 (.istore 4) 2 32 := ⟨by decide +kernel, rfl⟩
theorem d_X2_put_32 : Dc m_X2_put 32 (.aload_n 0) 1 33 := ⟨by decide +kernel, rfl⟩
theorem d_X2_put_33 : Dc m_X2_put 33 (.getfield 20) 3 36 := ⟨by decide +kernel, rfl⟩
theorem d_X2_put_36 : Dc m_X2_put 36 (.iload_n 1) 1 37 := ⟨by decide +kernel, rfl⟩
theorem d_X2_put_37 : Dc m_X2_put 37 (.aaload) 1 38 := ⟨by decide +kernel, rfl⟩
theorem d_X2_put_38 : Dc m_X2_put 38 (.iload_n 2) 1 39 := ⟨by decide +kernel, rfl⟩
theorem d_X2_put_39 : Dc m_X2_put 39 (.iload 4) 2 41 := ⟨by decide +kernel, rfl⟩
theorem d_X2_put_41 : Dc m_X2_put 41 (.iastore) 1 42 := ⟨by decide +kernel, rfl⟩
theorem d_X2_put_42 : Dc m_X2_put 42 (.iload 4) 2 44 := ⟨by decide +kernel, rfl⟩
theorem d_X2_put_44 : Dc m_X2_put 44 (.ireturn) 1 45 := ⟨by decide +kernel, rfl⟩
theorem d_X2_takeAway_0 : Dc m_X2_takeAway 0 (.aload_n 0) 1 1 := ⟨by decide +kernel, rfl⟩
theorem d_X2_takeAway_1 : Dc m_X2_takeAway 1 (.getfield 11) 3 4 := ⟨by decide +kernel, rfl⟩
theorem d_X2_takeAway_4 : Dc m_X2_takeAway 4 (.iload_n 1) 1 5 := ⟨by decide +kernel, rfl⟩
theorem d_X2_takeAway_5 : Dc m_X2_takeAway 5 (.iconst (-1)) 1 6 := ⟨by decide +kernel, rfl⟩
theorem d_X2_takeAway_6 : Dc m_X2_takeAway 6 (.iastore) 1 7 := ⟨by decide +kernel, rfl⟩
theorem d_X2_takeAway_7 : Dc m_X2_takeAway 7 (.aload_n 0) 1 8 := ⟨by decide +kernel, rfl⟩
theorem d_X2_takeAway_8 : Dc m_X2_takeAway 8 (.getfield 15) 3 11 := ⟨by decide +kernel, rfl⟩
theorem d_X2_takeAway_11 : Dc m_X2_takeAway 11 (.iload_n 1) 1 12 := ⟨by decide +kernel, rfl⟩
theorem d_X2_takeAway_12 : Dc m_X2_takeAway 12 (.iaload) 1 13 := ⟨by decide +kernel, rfl⟩
theorem d_X2_takeAway_13 : Dc m_X2_takeAway 13 (.ireturn) 1 14 := ⟨by decide +kernel, rfl⟩
theorem d_X2_howMany_0 : Dc m_X2_howMany 0 (.iconst 0) 1 1 := ⟨by decide +kernel, rfl⟩
theorem d_X2_howMany_1 : Dc m_X2_howMany 1 (.istore_n 1) 1 2 := ⟨by decide +kernel, rfl⟩
theorem d_X2_howMany_2 : Dc m_X2_howMany 2 (.iconst 0) 1 3 := ⟨by decide +kernel, rfl⟩
theorem d_X2_howMany_3 : Dc m_X2_howMany 3 (.istore_n 2) 1 4 := ⟨by decide +kernel, rfl⟩
theorem d_X2_howMany_4 : Dc m_X2_howMany 4 (.iload_n 2) 1 5 := ⟨by decide +kernel, rfl⟩
theorem d_X2_howMany_5 : Dc m_X2_howMany 5 (.bipush 8) 2 7 := ⟨by decide +kernel, rfl⟩
theorem d_X2_howMany_7 : Dc m_X2_howMany 7 (.if_icmp .ge 20) 3 10 := ⟨by decide +kernel, rfl⟩
theorem d_X2_howMany_10 : Dc m_X2_howMany 10 (.aload_n 0) 1 11 := ⟨by decide +kernel, rfl⟩
theorem d_X2_howMany_11 : Dc m_X2_howMany 11 (.iload_n 2) 1 12 := ⟨by decide +kernel, rfl⟩
theorem d_X2_howMany_12 : Dc m_X2_howMany 12 (.invokevirtual 29) 3 15 := ⟨by decide +kernel, rfl⟩
theorem d_X2_howMany_15 : Dc m_X2_howMany 15 (.ifCond .ne 6) 3 18 := ⟨by decide +kernel, rfl⟩
theorem d_X2_howMany_18 : Dc m_X2_howMany 18 (.iinc 1 1) 3 21 := ⟨by decide +kernel, rfl⟩
theorem d_X2_howMany_21 : Dc m_X2_howMany 21 (.iinc 2 1) 3 24 := ⟨by decide +kernel, rfl⟩
theorem d_X2_howMany_24 : Dc m_X2_howMany 24 (.goto (-20)) 3 27 := ⟨by decide +kernel, rfl⟩
theorem d_X2_howMany_27 : Dc m_X2_howMany 27 (.iload_n 1) 1 28 := ⟨by decide +kernel, rfl⟩
theorem d_X2_howMany_28 : Dc m_X2_howMany 28 (.ireturn) 1 29 := ⟨by decide +kernel, rfl⟩
theorem d_X3_forMost_0 : Dc m_X3_forMost 0 (.aload_n 0) 1 1 := ⟨by decide +kernel, rfl⟩
theorem d_X3_forMost_1 : Dc m_X3_forMost 1 (.getfield 12) 3 4 := ⟨by decide +kernel, rfl⟩
theorem d_X3_forMost_4 : Dc m_X3_forMost 4 (.aload_n 1) 1 5 := ⟨by decide +kernel, rfl⟩
theorem d_X3_forMost_5 : Dc m_X3_forMost 5 (.invokevirtual 28) 3 8 := ⟨by decide +kernel, rfl⟩
theorem d_X3_forMost_8 : Dc m_X3_forMost 8 (.aload_n 0) 1 9 := ⟨by decide +kernel, rfl⟩
theorem d_X3_forMost_9 : Dc m_X3_forMost 9 (.iconst 0) 1 10 := ⟨by decide +kernel, rfl⟩
theorem d_X3_forMost_10 : Dc m_X3_forMost 10 (.aload_n 1) 1 11 := ⟨by decide +kernel, rfl⟩
theorem d_X3_forMost_11 : Dc m_X3_forMost 11 (.invokevirtual 32) 3 14 := ⟨by decide +kernel, rfl⟩
theorem d_X3_forMost_14 : Dc m_X3_forMost 14 (.invokevirtual 36) 3 17 := ⟨by decide +kernel, rfl⟩
theorem d_X3_forMost_17 : Dc m_X3_forMost 17 (.return_) 1 18 := ⟨by decide +kernel, rfl⟩
theorem d_X3_forSoonest_0 : Dc m_X3_forSoonest 0 (.aload_n 0) 1 1 := ⟨by decide +kernel, rfl⟩
theorem d_X3_forSoonest_1 : Dc m_X3_forSoonest 1 (.getfield 12) 3 4 := ⟨by decide +kernel, rfl⟩
theorem d_X3_forSoonest_4 : Dc m_X3_forSoonest 4 (.aload_n 1) 1 5 := ⟨by decide +kernel, rfl⟩
theorem d_X3_forSoonest_5 : Dc m_X3_forSoonest 5 (.invokevirtual 28) 3 8 := ⟨by decide +kernel, rfl⟩
theorem d_X3_forSoonest_8 : Dc m_X3_forSoonest 8 (.aload_n 0) 1 9 := ⟨by decide +kernel, rfl⟩
theorem d_X3_forSoonest_9 : Dc m_X3_forSoonest 9 (.iconst 1) 1 10 := ⟨by decide +kernel, rfl⟩
theorem d_X3_forSoonest_10 : Dc m_X3_forSoonest 10 (.iload_n 2) 1 11 := ⟨by decide +kernel, rfl⟩
theorem d_X3_forSoonest_11 : Dc m_X3_forSoonest 11 (.aload_n 1) 1 12 := ⟨by decide +kernel, rfl⟩
theorem d_X3_forSoonest_12 : Dc m_X3_forSoonest 12 (.getfield 40) 3 15 := ⟨by decide +kernel, rfl⟩
theorem d_X3_forSoonest_15 : Dc m_X3_forSoonest 15 (.iconst (-1)) 1 16 := ⟨by decide +kernel, rfl⟩
theorem d_X3_forSoonest_16 : Dc m_X3_forSoonest 16 (.ixor) 1 17 := ⟨by decide +kernel, rfl⟩
theorem d_X3_forSoonest_17 : Dc m_X3_forSoonest 17 (.iand) 1 18 := ⟨by decide +kernel, rfl⟩
theorem d_X3_forSoonest_18 : Dc m_X3_forSoonest 18 (.invokevirtual 36) 3 21 := ⟨by decide +kernel, rfl⟩
theorem d_X3_forSoonest_21 : Dc m_X3_forSoonest 21 (.return_) 1 22 := ⟨by decide +kernel, rfl⟩
theorem d_X3_forSets_0 : Dc m_X3_forSets 0 (.aload_n 0) 1 1 := ⟨by decide +kernel, rfl⟩
theorem d_X3_forSets_1 : Dc m_X3_forSets 1 (.getfield 12) 3 4 := ⟨by decide +kernel, rfl⟩
theorem d_X3_forSets_4 : Dc m_X3_forSets 4 (.aload_n 1) 1 5 := ⟨by decide +kernel, rfl⟩
theorem d_X3_forSets_5 : Dc m_X3_forSets 5 (.invokevirtual 28) 3 8 := ⟨by decide +kernel, rfl⟩
theorem d_X3_forSets_8 : Dc m_X3_forSets 8 (.aload_n 0) 1 9 := ⟨by decide +kernel, rfl⟩
theorem d_X3_forSets_9 : Dc m_X3_forSets 9 (.getfield 12) 3 12 := ⟨by decide +kernel, rfl⟩
theorem d_X3_forSets_12 : Dc m_X3_forSets 12 (.invokevirtual 44) 3 15 := ⟨by decide +kernel, rfl⟩
theorem d_X3_forSets_15 : Dc m_X3_forSets 15 (.aload_n 0) 1 16 := ⟨by decide +kernel, rfl⟩
theorem d_X3_forSets_16 : Dc m_X3_forSets 16 (.getfield 25) 3 19 := ⟨by decide +kernel, rfl⟩
theorem d_X3_forSets_19 : Dc m_X3_forSets 19 (.ldc 47) 2 21 := ⟨by decide +kernel, rfl⟩
theorem d_X3_forSets_21 : Dc m_X3_forSets 21 (.invokestatic 48) 3 24 := ⟨by decide +kernel, rfl⟩
theorem d_X3_forSets_24 : Dc m_X3_forSets 24 (.aload_n 0) 1 25 := ⟨by decide +kernel, rfl⟩
theorem d_X3_forSets_25 : Dc m_X3_forSets 25 (.iconst 2) 1 26 := ⟨by decide +kernel, rfl⟩
theorem d_X3_forSets_26 : Dc m_X3_forSets 26 (.aload_n 1) 1 27 := ⟨by decide +kernel, rfl⟩
theorem d_X3_forSets_27 : Dc m_X3_forSets 27 (.invokevirtual 32) 3 30 := ⟨by decide +kernel, rfl⟩
theorem d_X3_forSets_30 : Dc m_X3_forSets 30 (.invokevirtual 36) 3 33 := ⟨by decide +kernel, rfl⟩
theorem d_X3_forSets_33 : Dc m_X3_forSets 33 (.return_) 1 34 := ⟨by decide +kernel, rfl⟩
theorem d_X3_seek_0 : Dc m_X3_seek 0 (.aload_n 0) 1 1 := ⟨by decide +kernel, rfl⟩
theorem d_X3_seek_1 : Dc m_X3_seek 1 (.iload_n 1) 1 2 := ⟨by decide +kernel, rfl⟩
theorem d_X3_seek_2 : Dc m_X3_seek 2 (.putfield 54) 3 5 := ⟨by decide +kernel, rfl⟩
theorem d_X3_seek_5 : Dc m_X3_seek 5 (.aload_n 0) 1 6 := ⟨by decide +kernel, rfl⟩
theorem d_X3_seek_6 : Dc m_X3_seek 6 (.iload_n 2) 1 7 := ⟨by decide +kernel, rfl⟩
theorem d_X3_seek_7 : Dc m_X3_seek 7 (.putfield 57) 3 10 := ⟨by decide +kernel, rfl⟩
theorem d_X3_seek_10 : Dc m_X3_seek 10 (.aload_n 0) 1 11 := ⟨by decide +kernel, rfl⟩
theorem d_X3_seek_11 : Dc m_X3_seek 11 (.aload_n 0) 1 12 := ⟨by decide +kernel, rfl⟩
theorem d_X3_seek_12 : Dc m_X3_seek 12 (.getfield 12) 3 15 := ⟨by decide +kernel, rfl⟩
theorem d_X3_seek_15 : Dc m_X3_seek 15 (.getfield 60) 3 18 := ⟨by decide +kernel, rfl⟩
theorem d_X3_seek_18 : Dc m_X3_seek 18 (.putfield 63) 3 21 := ⟨by decide +kernel, rfl⟩
theorem d_X3_seek_21 : Dc m_X3_seek 21 (.aload_n 0) 1 22 := ⟨by decide +kernel, rfl⟩
theorem d_X3_seek_22 : Dc m_X3_seek 22 (.iconst 0) 1 23 := ⟨by decide +kernel, rfl⟩
theorem d_X3_seek_23 : Dc m_X3_seek 23 (.putfield 66) 3 26 := ⟨by decide +kernel, rfl⟩
theorem d_X3_seek_26 : Dc m_X3_seek 26 (.aload_n 0) 1 27 := ⟨by decide +kernel, rfl⟩
theorem d_X3_seek_27 : Dc m_X3_seek 27 (.iconst 0) 1 28 := ⟨by decide +kernel, rfl⟩
theorem d_X3_seek_28 : Dc m_X3_seek 28 (.putfield 70) 3 31 := ⟨by decide +kernel, rfl⟩
theorem d_X3_seek_31 : Dc m_X3_seek 31 (.aload_n 0) 1 32 := ⟨by decide +kernel, rfl⟩
theorem d_X3_seek_32 : Dc m_X3_seek 32 (.iconst 0) 1 33 := ⟨by decide +kernel, rfl⟩
theorem d_X3_seek_33 : Dc m_X3_seek 33 (.putfield 73) 3 36 := ⟨by decide +kernel, rfl⟩
theorem d_X3_seek_36 : Dc m_X3_seek 36 (.aload_n 0) 1 37 := ⟨by decide +kernel, rfl⟩
theorem d_X3_seek_37 : Dc m_X3_seek 37 (.iconst 0) 1 38 := ⟨by decide +kernel, rfl⟩
theorem d_X3_seek_38 : Dc m_X3_seek 38 (.invokestatic 76) 3 41 := ⟨by decide +kernel, rfl⟩
theorem d_X3_seek_41 : Dc m_X3_seek 41 (.return_) 1 42 := ⟨by decide +kernel, rfl⟩
theorem d_X3_tryRows_0 : Dc m_X3_tryRows 0 (.aload_n 0) 1 1 := ⟨by decide +kernel, rfl⟩
theorem d_X3_tryRows_1 : Dc m_X3_tryRows 1 (.iload_n 1) 1 2 := ⟨by decide +kernel, rfl⟩
theorem d_X3_tryRows_2 : Dc m_X3_tryRows 2 (.invokevirtual 80) 3 5 := ⟨by decide +kernel, rfl⟩
theorem d_X3_tryRows_5 : Dc m_X3_tryRows 5 (.iload_n 1) 1 6 := ⟨by decide +kernel, rfl⟩
theorem d_X3_tryRows_6 : Dc m_X3_tryRows 6 (.bipush 6) 2 8 := ⟨by decide +kernel, rfl⟩
theorem d_X3_tryRows_8 : Dc m_X3_tryRows 8 (.if_icmp .lt 4) 3 11 := ⟨by decide +kernel, rfl⟩
theorem d_X3_tryRows_11 : Dc m_X3_tryRows 11 (.return_) 1 12 := ⟨by decide +kernel, rfl⟩
theorem d_X3_tryRows_12 : Dc m_X3_tryRows 12 (.aload_n 0) 1 13 := ⟨by decide +kernel, rfl⟩
theorem d_X3_tryRows_13 : Dc m_X3_tryRows 13 (.getfield 12) 3 16 := ⟨by decide +kernel, rfl⟩
theorem d_X3_tryRows_16 : Dc m_X3_tryRows 16 (.astore_n 2) 1 17 := ⟨by decide +kernel, rfl⟩
theorem d_X3_tryRows_17 : Dc m_X3_tryRows 17 (.aload_n 2) 1 18 := ⟨by decide +kernel, rfl⟩
theorem d_X3_tryRows_18 : Dc m_X3_tryRows 18 (.getfield 84) 3 21 := ⟨by decide +kernel, rfl⟩
theorem d_X3_tryRows_21 : Dc m_X3_tryRows 21 (.istore_n 3) 1 22 := ⟨by decide +kernel, rfl⟩
theorem d_X3_tryRows_22 : Dc m_X3_tryRows 22 (.aload_n 2) 1 23 := ⟨by decide +kernel, rfl⟩
theorem d_X3_tryRows_23 : Dc m_X3_tryRows 23 (.getfield 87) 3 26 := ⟨by decide +kernel, rfl⟩
theorem d_X3_tryRows_26 : Dc m_X3_tryRows 26 (.istore 4) 2 28 := ⟨by decide +kernel, rfl⟩
theorem d_X3_tryRows_28 : Dc m_X3_tryRows 28 (.aload_n 2) 1 29 := ⟨by decide +kernel, rfl⟩
theorem d_X3_tryRows_29 : Dc m_X3_tryRows 29 (.getfield 40) 3 32 := ⟨by decide +kernel, rfl⟩
theorem d_X3_tryRows_32 : Dc m_X3_tryRows 32 (.istore 5) 2 34 := ⟨by decide +kernel, rfl⟩
theorem d_X3_tryRows_34 : Dc m_X3_tryRows 34 (.aload_n 2) 1 35 := ⟨by decide +kernel, rfl⟩
theorem d_X3_tryRows_35 : Dc m_X3_tryRows 35 (.getfield 60) 3 38 := ⟨by decide +kernel, rfl⟩
theorem d_X3_tryRows_38 : Dc m_X3_tryRows 38 (.istore 6) 2 40 := ⟨by decide +kernel, rfl⟩
theorem d_X3_tryRows_40 : Dc m_X3_tryRows 40 (.iconst 0) 1 41 := ⟨by decide +kernel, rfl⟩
theorem d_X3_tryRows_41 : Dc m_X3_tryRows 41 (.istore 7) 2 43 := ⟨by decide +kernel, rfl⟩
theorem d_X3_tryRows_43 : Dc m_X3_tryRows 43 (.iload 7) 2 45 := ⟨by decide +kernel, rfl⟩
theorem d_X3_tryRows_45 : Dc m_X3_tryRows 45 (.aload_n 2) 1 46 := ⟨by decide +kernel, rfl⟩
theorem d_X3_tryRows_46 : Dc m_X3_tryRows 46 (.getfield 90) 3 49 := ⟨by decide +kernel, rfl⟩
theorem d_X3_tryRows_49 : Dc m_X3_tryRows 49 (.if_icmp .ge 63) 3 52 := ⟨by decide +kernel, rfl⟩
theorem d_X3_tryRows_52 : Dc m_X3_tryRows 52 (.aload_n 0) 1 53 := ⟨by decide +kernel, rfl⟩
theorem d_X3_tryRows_53 : Dc m_X3_tryRows 53 (.getfield 57) 3 56 := ⟨by decide +kernel, rfl⟩
theorem d_X3_tryRows_56 : Dc m_X3_tryRows 56 (.iload 7) 2 58 := ⟨by decide +kernel, rfl⟩
theorem d_X3_tryRows_58 : Dc m_X3_tryRows 58 (.ishr) 1 59 := ⟨by decide +kernel, rfl⟩
theorem d_X3_tryRows_59 : Dc m_X3_tryRows 59 (.iconst 1) 1 60 := ⟨by decide +kernel, rfl⟩
theorem d_X3_tryRows_60 : Dc m_X3_tryRows 60 (.iand) 1 61 := ⟨by decide +kernel, rfl⟩
theorem d_X3_tryRows_61 : Dc m_X3_tryRows 61 (.ifCond .eq 45) 3 64 := ⟨by decide +kernel, rfl⟩
theorem d_X3_tryRows_64 : Dc m_X3_tryRows 64 (.aload_n 2) 1 65 := ⟨by decide +kernel, rfl⟩
theorem d_X3_tryRows_65 : Dc m_X3_tryRows 65 (.iload 7) 2 67 := ⟨by decide +kernel, rfl⟩
theorem d_X3_tryRows_67 : Dc m_X3_tryRows 67 (.invokevirtual 93) 3 70 := ⟨by decide +kernel, rfl⟩
theorem d_X3_tryRows_70 : Dc m_X3_tryRows 70 (.ifCond .eq 36) 3 73 := ⟨by decide +kernel, rfl⟩
theorem d_X3_tryRows_73 : Dc m_X3_tryRows 73 (.aload_n 0) 1 74 := ⟨by decide +kernel, rfl⟩
theorem d_X3_tryRows_74 : Dc m_X3_tryRows 74 (.getfield 18) 3 77 := ⟨by decide +kernel, rfl⟩
theorem d_X3_tryRows_77 : Dc m_X3_tryRows 77 (.iload_n 1) 1 78 := ⟨by decide +kernel, rfl⟩
theorem d_X3_tryRows_78 : Dc m_X3_tryRows 78 (.iload 7) 2 80 := ⟨by decide +kernel, rfl⟩
theorem d_X3_tryRows_80 : Dc m_X3_tryRows 80 (.iastore) 1 81 := ⟨by decide +kernel, rfl⟩
theorem d_X3_tryRows_81 : Dc m_X3_tryRows 81 (.aload_n 2) 1 82 := ⟨by decide +kernel, rfl⟩
theorem d_X3_tryRows_82 : Dc m_X3_tryRows 82 (.iload 7) 2 84 := ⟨by decide +kernel, rfl⟩
theorem d_X3_tryRows_84 : Dc m_X3_tryRows 84 (.invokevirtual 97) 3 87 := ⟨by decide +kernel, rfl⟩
theorem d_X3_tryRows_87 : Dc m_X3_tryRows 87 (.pop) 1 88 := ⟨by decide +kernel, rfl⟩
theorem d_X3_tryRows_88 : Dc m_X3_tryRows 88 (.aload_n 0) 1 89 := ⟨by decide +kernel, rfl⟩
theorem d_X3_tryRows_89 : Dc m_X3_tryRows 89 (.iload_n 1) 1 90 := ⟨by decide +kernel, rfl⟩
theorem d_X3_tryRows_90 : Dc m_X3_tryRows 90 (.iconst 1) 1 91 := ⟨by decide +kernel, rfl⟩
theorem d_X3_tryRows_91 : Dc m_X3_tryRows 91 (.iadd) 1 92 := ⟨by decide +kernel, rfl⟩
theorem d_X3_tryRows_92 : Dc m_X3_tryRows 92 (.invokestatic 76) 3 95 := ⟨by decide +kernel, rfl⟩
theorem d_X3_tryRows_95 : Dc m_X3_tryRows 95 (.aload_n 2) 1 96 := ⟨by decide +kernel, rfl⟩
theorem d_X3_tryRows_96 : Dc m_X3_tryRows 96 (.iload_n 3) 1 97 := ⟨by decide +kernel, rfl⟩
theorem d_X3_tryRows_97 : Dc m_X3_tryRows 97 (.iload 4) 2 99 := ⟨by decide +kernel, rfl⟩
theorem d_X3_tryRows_99 : Dc m_X3_tryRows 99 (.iload 5) 2 101 := ⟨by decide +kernel, rfl⟩
theorem d_X3_tryRows_101 : Dc m_X3_tryRows 101 (.iload 6) 2 103 := ⟨by decide +kernel, rfl⟩
theorem d_X3_tryRows_103 : Dc m_X3_tryRows 103 (.invokevirtual 101) 3 106 := ⟨by decide +kernel, rfl⟩
theorem d_X3_tryRows_106 : Dc m_X3_tryRows 106 (.iinc 7 1) 3 109 := ⟨by decide +kernel, rfl⟩
theorem d_X3_tryRows_109 : Dc m_X3_tryRows 109 (.goto (-66)) 3 112 := ⟨by decide +kernel, rfl⟩
theorem d_X3_tryRows_112 : Dc m_X3_tryRows 112 (.return_) 1 113 := ⟨by decide +kernel, rfl⟩
theorem d_X3_weigh_0 : Dc m_X3_weigh 0 (.aload_n 0) 1 1 := ⟨by decide +kernel, rfl⟩
theorem d_X3_weigh_1 : Dc m_X3_weigh 1 (.getfield 54) 3 4 := ⟨by decide +kernel, rfl⟩
theorem d_X3_weigh_4 : Dc m_X3_weigh 4 (.ifCond .ne 56) 3 7 := ⟨by decide +kernel, rfl⟩
theorem d_X3_weigh_7 : Dc m_X3_weigh 7 (.aload_n 0) 1 8 := ⟨by decide +kernel, rfl⟩
theorem d_X3_weigh_8 : Dc m_X3_weigh 8 (.getfield 12) 3 11 := ⟨by decide +kernel, rfl⟩
theorem d_X3_weigh_11 : Dc m_X3_weigh 11 (.getfield 60) 3 14 := ⟨by decide +kernel, rfl⟩
theorem d_X3_weigh_14 : Dc m_X3_weigh 14 (.aload_n 0) 1 15 := ⟨by decide +kernel, rfl⟩
theorem d_X3_weigh_15 : Dc m_X3_weigh 15 (.getfield 63) 3 18 := ⟨by decide +kernel, rfl⟩
theorem d_X3_weigh_18 : Dc m_X3_weigh 18 (.isub) 1 19 := ⟨by decide +kernel, rfl⟩
theorem d_X3_weigh_19 : Dc m_X3_weigh 19 (.istore_n 2) 1 20 := ⟨by decide +kernel, rfl⟩
theorem d_X3_weigh_20 : Dc m_X3_weigh 20 (.aload_n 0) 1 21 := ⟨by decide +kernel, rfl⟩
theorem d_X3_weigh_21 : Dc m_X3_weigh 21 (.getfield 66) 3 24 := ⟨by decide +kernel, rfl⟩
theorem d_X3_weigh_24 : Dc m_X3_weigh 24 (.ifCond .eq 27) 3 27 := ⟨by decide +kernel, rfl⟩
theorem d_X3_weigh_27 : Dc m_X3_weigh 27 (.iload_n 2) 1 28 := ⟨by decide +kernel, rfl⟩
theorem d_X3_weigh_28 : Dc m_X3_weigh 28 (.aload_n 0) 1 29 := ⟨by decide +kernel, rfl⟩
theorem d_X3_weigh_29 : Dc m_X3_weigh 29 (.getfield 73) 3 32 := ⟨by decide +kernel, rfl⟩
theorem d_X3_weigh_32 : Dc m_X3_weigh 32 (.if_icmp .gt 19) 3 35 := ⟨by decide +kernel, rfl⟩
theorem d_X3_weigh_35 : Dc m_X3_weigh 35 (.iload_n 2) 1 36 := ⟨by decide +kernel, rfl⟩
theorem d_X3_weigh_36 : Dc m_X3_weigh 36 (.aload_n 0) 1 37 := ⟨by decide +kernel, rfl⟩
theorem d_X3_weigh_37 : Dc m_X3_weigh 37 (.getfield 73) 3 40 := ⟨by decide +kernel, rfl⟩
theorem d_X3_weigh_40 : Dc m_X3_weigh 40 (.if_icmp .ne 17) 3 43 := ⟨by decide +kernel, rfl⟩
theorem d_X3_weigh_43 : Dc m_X3_weigh 43 (.iload_n 1) 1 44 := ⟨by decide +kernel, rfl⟩
theorem d_X3_weigh_44 : Dc m_X3_weigh 44 (.aload_n 0) 1 45 := ⟨by decide +kernel, rfl⟩
theorem d_X3_weigh_45 : Dc m_X3_weigh 45 (.getfield 70) 3 48 := ⟨by decide +kernel, rfl⟩
theorem d_X3_weigh_48 : Dc m_X3_weigh 48 (.if_icmp .ge 9) 3 51 := ⟨by decide +kernel, rfl⟩
theorem d_X3_weigh_51 : Dc m_X3_weigh 51 (.aload_n 0) 1 52 := ⟨by decide +kernel, rfl⟩
theorem d_X3_weigh_52 : Dc m_X3_weigh 52 (.iload_n 1) 1 53 := ⟨by decide +kernel, rfl⟩
theorem d_X3_weigh_53 : Dc m_X3_weigh 53 (.iload_n 2) 1 54 := ⟨by decide +kernel, rfl⟩
theorem d_X3_weigh_54 : Dc m_X3_weigh 54 (.invokevirtual 105) 3 57 := ⟨by decide +kernel, rfl⟩
theorem d_X3_weigh_57 : Dc m_X3_weigh 57 (.goto 123) 3 60 := ⟨by decide +kernel, rfl⟩
theorem d_X3_weigh_60 : Dc m_X3_weigh 60 (.aload_n 0) 1 61 := ⟨by decide +kernel, rfl⟩
theorem d_X3_weigh_61 : Dc m_X3_weigh 61 (.getfield 54) 3 64 := ⟨by decide +kernel, rfl⟩
theorem d_X3_weigh_64 : Dc m_X3_weigh 64 (.iconst 1) 1 65 := ⟨by decide +kernel, rfl⟩
theorem d_X3_weigh_65 : Dc m_X3_weigh 65 (.if_icmp .ne 56) 3 68 := ⟨by decide +kernel, rfl⟩
theorem d_X3_weigh_68 : Dc m_X3_weigh 68 (.aload_n 0) 1 69 := ⟨by decide +kernel, rfl⟩
theorem d_X3_weigh_69 : Dc m_X3_weigh 69 (.getfield 57) 3 72 := ⟨by decide +kernel, rfl⟩
theorem d_X3_weigh_72 : Dc m_X3_weigh 72 (.aload_n 0) 1 73 := ⟨by decide +kernel, rfl⟩
theorem d_X3_weigh_73 : Dc m_X3_weigh 73 (.getfield 12) 3 76 := ⟨by decide +kernel, rfl⟩
theorem d_X3_weigh_76 : Dc m_X3_weigh 76 (.getfield 40) 3 79 := ⟨by decide +kernel, rfl⟩
theorem d_X3_weigh_79 : Dc m_X3_weigh 79 (.iconst (-1)) 1 80 := ⟨by decide +kernel, rfl⟩
theorem d_X3_weigh_80 : Dc m_X3_weigh 80 (.ixor) 1 81 := ⟨by decide +kernel, rfl⟩
theorem d_X3_weigh_81 : Dc m_X3_weigh 81 (.iand) 1 82 := ⟨by decide +kernel, rfl⟩
theorem d_X3_weigh_82 : Dc m_X3_weigh 82 (.ifCond .ne 98) 3 85 := ⟨by decide +kernel, rfl⟩
theorem d_X3_weigh_85 : Dc m_X3_weigh 85 (.aload_n 0) 1 86 := ⟨by decide +kernel, rfl⟩
theorem d_X3_weigh_86 : Dc m_X3_weigh 86 (.getfield 66) 3 89 := ⟨by decide +kernel, rfl⟩
theorem d_X3_weigh_89 : Dc m_X3_weigh 89 (.ifCond .eq 17) 3 92 := ⟨by decide +kernel, rfl⟩
theorem d_X3_weigh_92 : Dc m_X3_weigh 92 (.aload_n 0) 1 93 := ⟨by decide +kernel, rfl⟩
theorem d_X3_weigh_93 : Dc m_X3_weigh 93 (.getfield 12) 3 96 := ⟨by decide +kernel, rfl⟩
theorem d_X3_weigh_96 : Dc m_X3_weigh 96 (.getfield 87) 3 99 := ⟨by decide +kernel, rfl⟩
theorem d_X3_weigh_99 : Dc m_X3_weigh 99 (.aload_n 0) 1 100 := ⟨by decide +kernel, rfl⟩
theorem d_X3_weigh_100 : Dc m_X3_weigh 100 (.getfield 73) 3 103 := ⟨by decide +kernel, rfl⟩
theorem d_X3_weigh_103 : Dc m_X3_weigh 103 (.if_icmp .ge 77) 3 106 := ⟨by decide +kernel, rfl⟩
theorem d_X3_weigh_106 : Dc m_X3_weigh 106 (.aload_n 0) 1 107 := ⟨by decide +kernel, rfl⟩
theorem d_X3_weigh_107 : Dc m_X3_weigh 107 (.iload_n 1) 1 108 := ⟨by decide +kernel, rfl⟩
theorem d_X3_weigh_108 : Dc m_X3_weigh 108 (.aload_n 0) 1 109 := ⟨by decide +kernel, rfl⟩
theorem d_X3_weigh_109 : Dc m_X3_weigh 109 (.getfield 12) 3 112 := ⟨by decide +kernel, rfl⟩
theorem d_X3_weigh_112 : Dc m_X3_weigh 112 (.getfield 87) 3 115 := ⟨by decide +kernel, rfl⟩
theorem d_X3_weigh_115 : Dc m_X3_weigh 115 (.invokevirtual 105) 3 118 := ⟨by decide +kernel, rfl⟩
theorem d_X3_weigh_118 : Dc m_X3_weigh 118 (.goto 62) 3 121 := ⟨by decide +kernel, rfl⟩
theorem d_X3_weigh_121 : Dc m_X3_weigh 121 (.aload_n 0) 1 122 := ⟨by decide +kernel, rfl⟩
theorem d_X3_weigh_122 : Dc m_X3_weigh 122 (.getfield 12) 3 125 := ⟨by decide +kernel, rfl⟩
theorem d_X3_weigh_125 : Dc m_X3_weigh 125 (.getfield 40) 3 128 := ⟨by decide +kernel, rfl⟩
theorem d_X3_weigh_128 : Dc m_X3_weigh 128 (.ifCond .lt 52) 3 131 := ⟨by decide +kernel, rfl⟩
theorem d_X3_weigh_131 : Dc m_X3_weigh 131 (.aload_n 0) 1 132 := ⟨by decide +kernel, rfl⟩
theorem d_X3_weigh_132 : Dc m_X3_weigh 132 (.getfield 12) 3 135 := ⟨by decide +kernel, rfl⟩
theorem d_X3_weigh_135 : Dc m_X3_weigh 135 (.getfield 40) 3 138 := ⟨by decide +kernel, rfl⟩
theorem d_X3_weigh_138 : Dc m_X3_weigh 138 (.aload_n 0) 1 139 := ⟨by decide +kernel, rfl⟩
theorem d_X3_weigh_139 : Dc m_X3_weigh 139 (.getfield 25) 3 142 := ⟨by decide +kernel, rfl⟩
theorem d_X3_weigh_142 : Dc m_X3_weigh 142 (.arraylength) 1 143 := ⟨by decide +kernel, rfl⟩
theorem d_X3_weigh_143 : Dc m_X3_weigh 143 (.if_icmp .ge 37) 3 146 := ⟨by decide +kernel, rfl⟩
theorem d_X3_weigh_146 : Dc m_X3_weigh 146 (.aload_n 0) 1 147 := ⟨by decide +kernel, rfl⟩
theorem d_X3_weigh_147 : Dc m_X3_weigh 147 (.getfield 25) 3 150 := ⟨by decide +kernel, rfl⟩
theorem d_X3_weigh_150 : Dc m_X3_weigh 150 (.aload_n 0) 1 151 := ⟨by decide +kernel, rfl⟩
theorem d_X3_weigh_151 : Dc m_X3_weigh 151 (.getfield 12) 3 154 := ⟨by decide +kernel, rfl⟩
theorem d_X3_weigh_154 : Dc m_X3_weigh 154 (.getfield 40) 3 157 := ⟨by decide +kernel, rfl⟩
theorem d_X3_weigh_157 : Dc m_X3_weigh 157 (.aload_n 0) 1 158 := ⟨by decide +kernel, rfl⟩
theorem d_X3_weigh_158 : Dc m_X3_weigh 158 (.getfield 25) 3 161 := ⟨by decide +kernel, rfl⟩
theorem d_X3_weigh_161 : Dc m_X3_weigh 161 (.aload_n 0) 1 162 := ⟨by decide +kernel, rfl⟩
theorem d_X3_weigh_162 : Dc m_X3_weigh 162 (.getfield 12) 3 165 := ⟨by decide +kernel, rfl⟩
theorem d_X3_weigh_165 : Dc m_X3_weigh 165 (.getfield 40) 3 168 := ⟨by decide +kernel, rfl⟩
theorem d_X3_weigh_168 : Dc m_X3_weigh 168 (.iaload) 1 169 := ⟨by decide +kernel, rfl⟩
theorem d_X3_weigh_169 : Dc m_X3_weigh 169 (.aload_n 0) 1 170 := ⟨by decide +kernel, rfl⟩
theorem d_X3_weigh_170 : Dc m_X3_weigh 170 (.getfield 12) 3 173 := ⟨by decide +kernel, rfl⟩
theorem d_X3_weigh_173 : Dc m_X3_weigh 173 (.getfield 60) 3 176 := ⟨by decide +kernel, rfl⟩
theorem d_X3_weigh_176 : Dc m_X3_weigh 176 (.invokestatic 108) 3 179 := ⟨by decide +kernel, rfl⟩
theorem d_X3_weigh_179 : Dc m_X3_weigh 179 (.iastore) 1 180 := ⟨by decide +kernel, rfl⟩
theorem d_X3_weigh_180 : Dc m_X3_weigh 180 (.return_) 1 181 := ⟨by decide +kernel, rfl⟩
theorem d_X3_keepRow_0 : Dc m_X3_keepRow 0 (.aload_n 0) 1 1 := ⟨by decide +kernel, rfl⟩
theorem d_X3_keepRow_1 : Dc m_X3_keepRow 1 (.iconst 1) 1 2 := ⟨by decide +kernel, rfl⟩
theorem d_X3_keepRow_2 : Dc m_X3_keepRow 2 (.putfield 66) 3 5 := ⟨by decide +kernel, rfl⟩
theorem d_X3_keepRow_5 : Dc m_X3_keepRow 5 (.aload_n 0) 1 6 := ⟨by decide +kernel, rfl⟩
theorem d_X3_keepRow_6 : Dc m_X3_keepRow 6 (.iload_n 2) 1 7 := ⟨by decide +kernel, rfl⟩
theorem d_X3_keepRow_7 : Dc m_X3_keepRow 7 (.putfield 73) 3 10 := ⟨by decide +kernel, rfl⟩
theorem d_X3_keepRow_10 : Dc m_X3_keepRow 10 (.aload_n 0) 1 11 := ⟨by decide +kernel, rfl⟩
theorem d_X3_keepRow_11 : Dc m_X3_keepRow 11 (.iload_n 1) 1 12 := ⟨by decide +kernel, rfl⟩
theorem d_X3_keepRow_12 : Dc m_X3_keepRow 12 (.putfield 70) 3 15 := ⟨by decide +kernel, rfl⟩
theorem d_X3_keepRow_15 : Dc m_X3_keepRow 15 (.aload_n 0) 1 16 := ⟨by decide +kernel, rfl⟩
theorem d_X3_keepRow_16 : Dc m_X3_keepRow 16 (.getfield 18) 3 19 := ⟨by decide +kernel, rfl⟩
theorem d_X3_keepRow_19 : Dc m_X3_keepRow 19 (.iconst 0) 1 20 := ⟨by decide +kernel, rfl⟩
theorem d_X3_keepRow_20 : Dc m_X3_keepRow 20 (.aload_n 0) 1 21 := ⟨by decide +kernel, rfl⟩
theorem d_X3_keepRow_21 : Dc m_X3_keepRow 21 (.getfield 22) 3 24 := ⟨by decide +kernel, rfl⟩
theorem d_X3_keepRow_24 : Dc m_X3_keepRow 24 (.iconst 0) 1 25 := ⟨by decide +kernel, rfl⟩
theorem d_X3_keepRow_25 : Dc m_X3_keepRow 25 (.iload_n 1) 1 26 := ⟨by decide +kernel, rfl⟩
theorem d_X3_keepRow_26 : Dc m_X3_keepRow 26 (.invokestatic 114) 3 29 := ⟨by decide +kernel, rfl⟩
theorem d_X3_keepRow_29 : Dc m_X3_keepRow 29 (.return_) 1 30 := ⟨by decide +kernel, rfl⟩
theorem d_X3_told_0 : Dc m_X3_told 0 (.iload_n 1) 1 1 := ⟨by decide +kernel, rfl⟩
theorem d_X3_told_1 : Dc m_X3_told 1 (.ifCond .lt 20) 3 4 := ⟨by decide +kernel, rfl⟩
theorem d_X3_told_4 : Dc m_X3_told 4 (.iload_n 1) 1 5 := ⟨by decide +kernel, rfl⟩
theorem d_X3_told_5 : Dc m_X3_told 5 (.aload_n 0) 1 6 := ⟨by decide +kernel, rfl⟩
theorem d_X3_told_6 : Dc m_X3_told 6 (.getfield 70) 3 9 := ⟨by decide +kernel, rfl⟩
theorem d_X3_told_9 : Dc m_X3_told 9 (.if_icmp .ge 12) 3 12 := ⟨by decide +kernel, rfl⟩
theorem d_X3_told_12 : Dc m_X3_told 12 (.aload_n 0) 1 13 := ⟨by decide +kernel, rfl⟩
theorem d_X3_told_13 : Dc m_X3_told 13 (.getfield 22) 3 16 := ⟨by decide +kernel, rfl⟩
theorem d_X3_told_16 : Dc m_X3_told 16 (.iload_n 1) 1 17 := ⟨by decide +kernel, rfl⟩
theorem d_X3_told_17 : Dc m_X3_told 17 (.iaload) 1 18 := ⟨by decide +kernel, rfl⟩
theorem d_X3_told_18 : Dc m_X3_told 18 (.goto 5) 3 21 := ⟨by decide +kernel, rfl⟩
theorem d_X3_told_21 : Dc m_X3_told 21 (.ldc 47) 2 23 := ⟨by decide +kernel, rfl⟩
theorem d_X3_told_23 : Dc m_X3_told 23 (.ireturn) 1 24 := ⟨by decide +kernel, rfl⟩
theorem d_X4_of_0 : Dc m_X4_of 0 (.aload_n 0) 1 1 := ⟨by decide +kernel, rfl⟩
theorem d_X4_of_1 : Dc m_X4_of 1 (.iload_n 1) 1 2 := ⟨by decide +kernel, rfl⟩
theorem d_X4_of_2 : Dc m_X4_of 2 (.putfield 24) 3 5 := ⟨by decide +kernel, rfl⟩
theorem d_X4_of_5 : Dc m_X4_of 5 (.aload_n 0) 1 6 := ⟨by decide +kernel, rfl⟩
theorem d_X4_of_6 : Dc m_X4_of 6 (.aload_n 2) 1 7 := ⟨by decide +kernel, rfl⟩
theorem d_X4_of_7 : Dc m_X4_of 7 (.getfield 28) 3 10 := ⟨by decide +kernel, rfl⟩
theorem d_X4_of_10 : Dc m_X4_of 10 (.putfield 33) 3 13 := ⟨by decide +kernel, rfl⟩
theorem d_X4_of_13 : Dc m_X4_of 13 (.aload_n 0) 1 14 := ⟨by decide +kernel, rfl⟩
theorem d_X4_of_14 : Dc m_X4_of 14 (.aload_n 3) 1 15 := ⟨by decide +kernel, rfl⟩
theorem d_X4_of_15 : Dc m_X4_of 15 (.putfield 21) 3 18 := ⟨by decide +kernel, rfl⟩
theorem d_X4_of_18 : Dc m_X4_of 18 (.aload_n 0) 1 19 := ⟨by decide +kernel, rfl⟩
theorem d_X4_of_19 : Dc m_X4_of 19 (.iconst 0) 1 20 := ⟨by decide +kernel, rfl⟩
theorem d_X4_of_20 : Dc m_X4_of 20 (.putfield 34) 3 23 := ⟨by decide +kernel, rfl⟩
theorem d_X4_of_23 : Dc m_X4_of 23 (.aload_n 0) 1 24 := ⟨by decide +kernel, rfl⟩
theorem d_X4_of_24 : Dc m_X4_of 24 (.iconst 0) 1 25 := ⟨by decide +kernel, rfl⟩
theorem d_X4_of_25 : Dc m_X4_of 25 (.putfield 38) 3 28 := ⟨by decide +kernel, rfl⟩
theorem d_X4_of_28 : Dc m_X4_of 28 (.aload_n 0) 1 29 := ⟨by decide +kernel, rfl⟩
theorem d_X4_of_29 : Dc m_X4_of 29 (.getfield 15) 3 32 := ⟨by decide +kernel, rfl⟩
theorem d_X4_of_32 : Dc m_X4_of 32 (.iconst 0) 1 33 := ⟨by decide +kernel, rfl⟩
theorem d_X4_of_33 : Dc m_X4_of 33 (.invokestatic 41) 3 36 := ⟨by decide +kernel, rfl⟩
theorem d_X4_of_36 : Dc m_X4_of 36 (.aload_n 0) 1 37 := ⟨by decide +kernel, rfl⟩
theorem d_X4_of_37 : Dc m_X4_of 37 (.iconst 0) 1 38 := ⟨by decide +kernel, rfl⟩
theorem d_X4_of_38 : Dc m_X4_of 38 (.invokestatic 47) 3 41 := ⟨by decide +kernel, rfl⟩
theorem d_X4_of_41 : Dc m_X4_of 41 (.return_) 1 42 := ⟨by decide +kernel, rfl⟩
theorem d_X4_share_0 : Dc m_X4_share 0 (.iload_n 1) 1 1 := ⟨by decide +kernel, rfl⟩
theorem d_X4_share_1 : Dc m_X4_share 1 (.aload_n 0) 1 2 := ⟨by decide +kernel, rfl⟩
theorem d_X4_share_2 : Dc m_X4_share 2 (.getfield 33) 3 5 := ⟨by decide +kernel, rfl⟩
theorem d_X4_share_5 : Dc m_X4_share 5 (.if_icmp .ge 9) 3 8 := ⟨by decide +kernel, rfl⟩
theorem d_X4_share_8 : Dc m_X4_share 8 (.iload_n 1) 1 9 := ⟨by decide +kernel, rfl⟩
theorem d_X4_share_9 : Dc m_X4_share 9 (.bipush 6) 2 11 := ⟨by decide +kernel, rfl⟩
theorem d_X4_share_11 : Dc m_X4_share 11 (.if_icmp .lt 8) 3 14 := ⟨by decide +kernel, rfl⟩
theorem d_X4_share_14 : Dc m_X4_share 14 (.aload_n 0) 1 15 := ⟨by decide +kernel, rfl⟩
theorem d_X4_share_15 : Dc m_X4_share 15 (.invokevirtual 51) 3 18 := ⟨by decide +kernel, rfl⟩
theorem d_X4_share_18 : Dc m_X4_share 18 (.return_) 1 19 := ⟨by decide +kernel, rfl⟩
theorem d_X4_share_19 : Dc m_X4_share 19 (.iconst 0) 1 20 := ⟨by decide +kernel, rfl⟩
theorem d_X4_share_20 : Dc m_X4_share 20 (.istore_n 2) 1 21 := ⟨by decide +kernel, rfl⟩
theorem d_X4_share_21 : Dc m_X4_share 21 (.iload_n 2) 1 22 := ⟨by decide +kernel, rfl⟩
theorem d_X4_share_22 : Dc m_X4_share 22 (.aload_n 0) 1 23 := ⟨by decide +kernel, rfl⟩
theorem d_X4_share_23 : Dc m_X4_share 23 (.getfield 24) 3 26 := ⟨by decide +kernel, rfl⟩
theorem d_X4_share_26 : Dc m_X4_share 26 (.if_icmp .gt 68) 3 29 := ⟨by decide +kernel, rfl⟩
theorem d_X4_share_29 : Dc m_X4_share 29 (.iload_n 2) 1 30 := ⟨by decide +kernel, rfl⟩
theorem d_X4_share_30 : Dc m_X4_share 30 (.iconst 3) 1 31 := ⟨by decide +kernel, rfl⟩
theorem d_X4_share_31 : Dc m_X4_share 31 (.if_icmp .gt 63) 3 34 := ⟨by decide +kernel, rfl⟩
theorem d_X4_share_34 : Dc m_X4_share 34 (.iload_n 2) 1 35 := ⟨by decide +kernel, rfl⟩
theorem d_X4_share_35 : Dc m_X4_share 35 (.aload_n 0) 1 36 := ⟨by decide +kernel, rfl⟩
theorem d_X4_share_36 : Dc m_X4_share 36 (.getfield 24) 3 39 := ⟨by decide +kernel, rfl⟩
theorem d_X4_share_39 : Dc m_X4_share 39 (.if_icmp .ge 7) 3 42 := ⟨by decide +kernel, rfl⟩
theorem d_X4_share_42 : Dc m_X4_share 42 (.iload_n 2) 1 43 := ⟨by decide +kernel, rfl⟩
theorem d_X4_share_43 : Dc m_X4_share 43 (.goto 4) 3 46 := ⟨by decide +kernel, rfl⟩
theorem d_X4_share_46 : Dc m_X4_share 46 (.iconst 3) 1 47 := ⟨by decide +kernel, rfl⟩
theorem d_X4_share_47 : Dc m_X4_share 47 (.istore_n 3) 1 48 := ⟨by decide +kernel, rfl⟩
theorem d_X4_share_48 : Dc m_X4_share 48 (.aload_n 0) 1 49 := ⟨by decide +kernel, rfl⟩
theorem d_X4_share_49 : Dc m_X4_share 49 (.getfield 9) 3 52 := ⟨by decide +kernel, rfl⟩
theorem d_X4_share_52 : Dc m_X4_share 52 (.iload_n 1) 1 53 := ⟨by decide +kernel, rfl⟩
theorem d_X4_share_53 : Dc m_X4_share 53 (.iload_n 3) 1 54 := ⟨by decide +kernel, rfl⟩
theorem d_X4_share_54 : Dc m_X4_share 54 (.iastore) 1 55 := ⟨by decide +kernel, rfl⟩
theorem d_X4_share_55 : Dc m_X4_share 55 (.aload_n 0) 1 56 := ⟨by decide +kernel, rfl⟩
theorem d_X4_share_56 : Dc m_X4_share 56 (.getfield 15) 3 59 := ⟨by decide +kernel, rfl⟩
theorem d_X4_share_59 : Dc m_X4_share 59 (.iload_n 3) 1 60 := ⟨by decide +kernel, rfl⟩
theorem d_X4_share_60 : Dc m_X4_share 60 (.dup2) 1 61 := ⟨by decide +kernel, rfl⟩
theorem d_X4_share_61 : Dc m_X4_share 61 (.iaload) 1 62 := ⟨by decide +kernel, rfl⟩
theorem d_X4_share_62 : Dc m_X4_share 62 (.iconst 1) 1 63 := ⟨by decide +kernel, rfl⟩
theorem d_X4_share_63 : Dc m_X4_share 63 (.iload_n 1) 1 64 := ⟨by decide +kernel, rfl⟩
theorem d_X4_share_64 : Dc m_X4_share 64 (.ishl) 1 65 := ⟨by decide +kernel, rfl⟩
theorem d_X4_share_65 : Dc m_X4_share 65 (.ior) 1 66 := ⟨by decide +kernel, rfl⟩
theorem d_X4_share_66 : Dc m_X4_share 66 (.iastore) 1 67 := ⟨by decide +kernel, rfl⟩
theorem d_X4_share_67 : Dc m_X4_share 67 (.aload_n 0) 1 68 := ⟨by decide +kernel, rfl⟩
theorem d_X4_share_68 : Dc m_X4_share 68 (.iload_n 1) 1 69 := ⟨by decide +kernel, rfl⟩
theorem d_X4_share_69 : Dc m_X4_share 69 (.iconst 1) 1 70 := ⟨by decide +kernel, rfl⟩
theorem d_X4_share_70 : Dc m_X4_share 70 (.iadd) 1 71 := ⟨by decide +kernel, rfl⟩
theorem d_X4_share_71 : Dc m_X4_share 71 (.invokestatic 47) 3 74 := ⟨by decide +kernel, rfl⟩
theorem d_X4_share_74 : Dc m_X4_share 74 (.aload_n 0) 1 75 := ⟨by decide +kernel, rfl⟩
theorem d_X4_share_75 : Dc m_X4_share 75 (.getfield 15) 3 78 := ⟨by decide +kernel, rfl⟩
theorem d_X4_share_78 : Dc m_X4_share 78 (.iload_n 3) 1 79 := ⟨by decide +kernel, rfl⟩
theorem d_X4_share_79 : Dc m_X4_share 79 (.dup2) 1 80 := ⟨by decide +kernel, rfl⟩
theorem d_X4_share_80 : Dc m_X4_share 80 (.iaload) 1 81 := ⟨by decide +kernel, rfl⟩
theorem d_X4_share_81 : Dc m_X4_share 81 (.iconst 1) 1 82 := ⟨by decide +kernel, rfl⟩
theorem d_X4_share_82 : Dc m_X4_share 82 (.iload_n 1) 1 83 := ⟨by decide +kernel, rfl⟩
theorem d_X4_share_83 : Dc m_X4_share 83 (.ishl) 1 84 := ⟨by decide +kernel, rfl⟩
theorem d_X4_share_84 : Dc m_X4_share 84 (.iconst (-1)) 1 85 := ⟨by decide +kernel, rfl⟩
theorem d_X4_share_85 : Dc m_X4_share 85 (.ixor) 1 86 := ⟨by decide +kernel, rfl⟩
theorem d_X4_share_86 : Dc m_X4_share 86 (.iand) 1 87 := ⟨by decide +kernel, rfl⟩
theorem d_X4_share_87 : Dc m_X4_share 87 (.iastore) 1 88 := ⟨by decide +kernel, rfl⟩
theorem d_X4_share_88 : Dc m_X4_share 88 (.iinc 2 1) 3 91 := ⟨by decide +kernel, rfl⟩
theorem d_X4_share_91 : Dc m_X4_share 91 (.goto (-70)) 3 94 := ⟨by decide +kernel, rfl⟩
theorem d_X4_share_94 : Dc m_X4_share 94 (.return_) 1 95 := ⟨by decide +kernel, rfl⟩
theorem d_X4_weighShares_0 : Dc m_X4_weighShares 0 (.iconst 0) 1 1 := ⟨by decide +kernel, rfl⟩
theorem d_X4_weighShares_1 : Dc m_X4_weighShares 1 (.istore_n 1) 1 2 := ⟨by decide +kernel, rfl⟩
theorem d_X4_weighShares_2 : Dc m_X4_weighShares 2 (.iconst 0) 1 3 := ⟨by decide +kernel, rfl⟩
theorem d_X4_weighShares_3 : Dc m_X4_weighShares 3 (.istore_n 2) 1 4 := ⟨by decide +kernel, rfl⟩
theorem d_X4_weighShares_4 : Dc m_X4_weighShares 4 (.iload_n 2) 1 5 := ⟨by decide +kernel, rfl⟩
theorem d_X4_weighShares_5 : Dc m_X4_weighShares 5 (.aload_n 0) 1 6 := ⟨by decide +kernel, rfl⟩
theorem d_X4_weighShares_6 : Dc m_X4_weighShares 6 (.getfield 24) 3 9 := ⟨by decide +kernel, rfl⟩
theorem d_X4_weighShares_9 : Dc m_X4_weighShares 9 (.if_icmp .ge 55) 3 12 := ⟨by decide +kernel, rfl⟩
theorem d_X4_weighShares_12 : Dc m_X4_weighShares 12 (.iload_n 2) 1 13 := ⟨by decide +kernel, rfl⟩
theorem d_X4_weighShares_13 : Dc m_X4_weighShares 13 (.iconst 3) 1 14 := ⟨by decide +kernel, rfl⟩
theorem d_X4_weighShares_14 : Dc m_X4_weighShares 14 (.if_icmp .ge 50) 3 17 := ⟨by decide +kernel, rfl⟩
theorem d_X4_weighShares_17 : Dc m_X4_weighShares 17 (.aload_n 0) 1 18 := ⟨by decide +kernel, rfl⟩
theorem d_X4_weighShares_18 : Dc m_X4_weighShares 18 (.getfield 15) 3 21 := ⟨by decide +kernel, rfl⟩
theorem d_X4_weighShares_21 : Dc m_X4_weighShares 21 (.iload_n 2) 1 22 := ⟨by decide +kernel, rfl⟩
theorem d_X4_weighShares_22 : Dc m_X4_weighShares 22 (.iaload) 1 23 := ⟨by decide +kernel, rfl⟩
theorem d_X4_weighShares_23 : Dc m_X4_weighShares 23 (.istore_n 3) 1 24 := ⟨by decide +kernel, rfl⟩
theorem d_X4_weighShares_24 : Dc m_X4_weighShares 24 (.iload_n 3) 1 25 := ⟨by decide +kernel, rfl⟩
theorem d_X4_weighShares_25 : Dc m_X4_weighShares 25 (.ifCond .lt 23) 3 28 := ⟨by decide +kernel, rfl⟩
theorem d_X4_weighShares_28 : Dc m_X4_weighShares 28 (.iload_n 3) 1 29 := ⟨by decide +kernel, rfl⟩
theorem d_X4_weighShares_29 : Dc m_X4_weighShares 29 (.aload_n 0) 1 30 := ⟨by decide +kernel, rfl⟩
theorem d_X4_weighShares_30 : Dc m_X4_weighShares 30 (.getfield 21) 3 33 := ⟨by decide +kernel, rfl⟩
theorem d_X4_weighShares_33 : Dc m_X4_weighShares 33 (.arraylength) 1 34 := ⟨by decide +kernel, rfl⟩
theorem d_X4_weighShares_34 : Dc m_X4_weighShares 34 (.if_icmp .ge 14) 3 37 := ⟨by decide +kernel, rfl⟩
theorem d_X4_weighShares_37 : Dc m_X4_weighShares 37 (.aload_n 0) 1 38 := ⟨by decide +kernel, rfl⟩
theorem d_X4_weighShares_38 : Dc m_X4_weighShares 38 (.getfield 21) 3 41 := ⟨by decide +kernel, rfl⟩
theorem d_X4_weighShares_41 : Dc m_X4_weighShares 41 (.iload_n 3) 1 42 := ⟨by decide +kernel, rfl⟩
theorem d_X4_weighShares_42 : Dc m_X4_weighShares 42 (.iaload) 1 43 := ⟨by decide +kernel, rfl⟩
theorem d_X4_weighShares_43 : Dc m_X4_weighShares 43 (.ldc 54) 2 45 := ⟨by decide +kernel, rfl⟩
theorem d_X4_weighShares_45 : Dc m_X4_weighShares 45 (.if_icmp .ne 4) 3 48 := ⟨by decide +kernel, rfl⟩
theorem d_X4_weighShares_48 : Dc m_X4_weighShares 48 (.return_) 1 49 := ⟨by decide +kernel, rfl⟩
theorem d_X4_weighShares_49 : Dc m_X4_weighShares 49 (.iload_n 1) 1 50 := ⟨by decide +kernel, rfl⟩
theorem d_X4_weighShares_50 : Dc m_X4_weighShares 50 (.aload_n 0) 1 51 := ⟨by decide +kernel, rfl⟩
theorem d_X4_weighShares_51 : Dc m_X4_weighShares 51 (.getfield 21) 3 54 := ⟨by decide +kernel, rfl⟩
theorem d_X4_weighShares_54 : Dc m_X4_weighShares 54 (.iload_n 3) 1 55 := ⟨by decide +kernel, rfl⟩
theorem d_X4_weighShares_55 : Dc m_X4_weighShares 55 (.iaload) 1 56 := ⟨by decide +kernel, rfl⟩
theorem d_X4_weighShares_56 : Dc m_X4_weighShares 56 (.iadd) 1 57 := ⟨by decide +kernel, rfl⟩
theorem d_X4_weighShares_57 : Dc m_X4_weighShares 57 (.istore_n 1) 1 58 := ⟨by decide +kernel, rfl⟩
theorem d_X4_weighShares_58 : Dc m_X4_weighShares 58 (.iinc 2 1) 3 61 := ⟨by decide +kernel, rfl⟩
theorem d_X4_weighShares_61 : Dc m_X4_weighShares 61 (.goto (-57)) 3 64 := ⟨by decide +kernel, rfl⟩
theorem d_X4_weighShares_64 : Dc m_X4_weighShares 64 (.aload_n 0) 1 65 := ⟨by decide +kernel, rfl⟩
theorem d_X4_weighShares_65 : Dc m_X4_weighShares 65 (.getfield 34) 3 68 := ⟨by decide +kernel, rfl⟩
theorem d_X4_weighShares_68 : Dc m_X4_weighShares 68 (.ifCond .eq 11) 3 71 := ⟨by decide +kernel, rfl⟩
theorem d_X4_weighShares_71 : Dc m_X4_weighShares 71 (.iload_n 1) 1 72 := ⟨by decide +kernel, rfl⟩
theorem d_X4_weighShares_72 : Dc m_X4_weighShares 72 (.aload_n 0) 1 73 := ⟨by decide +kernel, rfl⟩
theorem d_X4_weighShares_73 : Dc m_X4_weighShares 73 (.getfield 38) 3 76 := ⟨by decide +kernel, rfl⟩
theorem d_X4_weighShares_76 : Dc m_X4_weighShares 76 (.if_icmp .le 30) 3 79 := ⟨by decide +kernel, rfl⟩
theorem d_X4_weighShares_79 : Dc m_X4_weighShares 79 (.aload_n 0) 1 80 := ⟨by decide +kernel, rfl⟩
theorem d_X4_weighShares_80 : Dc m_X4_weighShares 80 (.iconst 1) 1 81 := ⟨by decide +kernel, rfl⟩
theorem d_X4_weighShares_81 : Dc m_X4_weighShares 81 (.putfield 34) 3 84 := ⟨by decide +kernel, rfl⟩
theorem d_X4_weighShares_84 : Dc m_X4_weighShares 84 (.aload_n 0) 1 85 := ⟨by decide +kernel, rfl⟩
theorem d_X4_weighShares_85 : Dc m_X4_weighShares 85 (.iload_n 1) 1 86 := ⟨by decide +kernel, rfl⟩
theorem d_X4_weighShares_86 : Dc m_X4_weighShares 86 (.putfield 38) 3 89 := ⟨by decide +kernel, rfl⟩
theorem d_X4_weighShares_89 : Dc m_X4_weighShares 89 (.aload_n 0) 1 90 := ⟨by decide +kernel, rfl⟩
theorem d_X4_weighShares_90 : Dc m_X4_weighShares 90 (.getfield 9) 3 93 := ⟨by decide +kernel, rfl⟩
theorem d_X4_weighShares_93 : Dc m_X4_weighShares 93 (.iconst 0) 1 94 := ⟨by decide +kernel, rfl⟩
theorem d_X4_weighShares_94 : Dc m_X4_weighShares 94 (.aload_n 0) 1 95 := ⟨by decide +kernel, rfl⟩
theorem d_X4_weighShares_95 : Dc m_X4_weighShares 95 (.getfield 18) 3 98 := ⟨by decide +kernel, rfl⟩
theorem d_X4_weighShares_98 : Dc m_X4_weighShares 98 (.iconst 0) 1 99 := ⟨by decide +kernel, rfl⟩
theorem d_X4_weighShares_99 : Dc m_X4_weighShares 99 (.aload_n 0) 1 100 := ⟨by decide +kernel, rfl⟩
theorem d_X4_weighShares_100 : Dc m_X4_weighShares 100 (.getfield 33) 3 103 := ⟨by decide +kernel, rfl⟩
theorem d_X4_weighShares_103 : Dc m_X4_weighShares 103 (.invokestatic 55) 3 106 := ⟨by decide +kernel, rfl⟩
theorem d_X4_weighShares_106 : Dc m_X4_weighShares 106 (.return_) 1 107 := ⟨by decide +kernel, rfl⟩
theorem d_X5_append_0 : Dc m_X5_append 0 (.aload_n 0) 1 1 := ⟨by decide +kernel, rfl⟩
theorem d_X5_append_1 : Dc m_X5_append 1 (.getfield 15) 3 4 := ⟨by decide +kernel, rfl⟩
theorem d_X5_append_4 : Dc m_X5_append 4 (.bipush 100) 2 6 := ⟨by decide +kernel, rfl⟩
theorem d_X5_append_6 : Dc m_X5_append 6 (.if_icmp .lt 5) 3 9 := ⟨by decide +kernel, rfl⟩
theorem d_X5_append_9 : Dc m_X5_append 9 (.iconst 0) 1 10 := ⟨by decide +kernel, rfl⟩
theorem d_X5_append_10 : Dc m_X5_append 10 (.ireturn) 1 11 := ⟨by decide +kernel, rfl⟩
theorem d_X5_append_11 : Dc m_X5_append 11 (.aload_n 0) 1 12 := ⟨by decide +kernel, rfl⟩
theorem d_X5_append_12 : Dc m_X5_append 12 (.getfield 11) 3 15 := ⟨by decide +kernel, rfl⟩
theorem d_X5_append_15 : Dc m_X5_append 15 (.aload_n 0) 1 16 := ⟨by decide +kernel, rfl⟩
theorem d_X5_append_16 : Dc m_X5_append 16 (.getfield 15) 3 19 := ⟨by decide +kernel, rfl⟩
theorem d_X5_append_19 : Dc m_X5_append 19 (.iload_n 1) 1 20 := ⟨by decide +kernel, rfl⟩
theorem d_X5_append_20 : Dc m_X5_append 20 (.iastore) 1 21 := ⟨by decide +kernel, rfl⟩
theorem d_X5_append_21 : Dc m_X5_append 21 (.aload_n 0) 1 22 := ⟨by decide +kernel, rfl⟩
theorem d_X5_append_22 : Dc m_X5_append 22 (.dup) 1 23 := ⟨by decide +kernel, rfl⟩
theorem d_X5_append_23 : Dc m_X5_append 23 (.getfield 15) 3 26 := ⟨by decide +kernel, rfl⟩
theorem d_X5_append_26 : Dc m_X5_append 26 (.iconst 1) 1 27 := ⟨by decide +kernel, rfl⟩
theorem d_X5_append_27 : Dc m_X5_append 27 (.iadd) 1 28 := ⟨by decide +kernel, rfl⟩
theorem d_X5_append_28 : Dc m_X5_append 28 (.putfield 15) 3 31 := ⟨by decide +kernel, rfl⟩
theorem d_X5_append_31 : Dc m_X5_append 31 (.iconst 1) 1 32 := ⟨by decide +kernel, rfl⟩
theorem d_X5_append_32 : Dc m_X5_append 32 (.ireturn) 1 33 := ⟨by decide +kernel, rfl⟩
theorem d_X5_readInto_0 : Dc m_X5_readInto 0 (.aload_n 0) 1 1 := ⟨by decide +kernel, rfl⟩
theorem d_X5_readInto_1 : Dc m_X5_readInto 1 (.iconst 0) 1 2 := ⟨by decide +kernel, rfl⟩
theorem d_X5_readInto_2 : Dc m_X5_readInto 2 (.putfield 19) 3 5 := ⟨by decide +kernel, rfl⟩
theorem d_X5_readInto_5 : Dc m_X5_readInto 5 (.aload_n 0) 1 6 := ⟨by decide +kernel, rfl⟩
theorem d_X5_readInto_6 : Dc m_X5_readInto 6 (.iconst 1) 1 7 := ⟨by decide +kernel, rfl⟩
theorem d_X5_readInto_7 : Dc m_X5_readInto 7 (.putfield 22) 3 10 := ⟨by decide +kernel, rfl⟩
theorem d_X5_readInto_10 : Dc m_X5_readInto 10 (.aload_n 0) 1 11 := ⟨by decide +kernel, rfl⟩
theorem d_X5_readInto_11 : Dc m_X5_readInto 11 (.aload_n 1) 1 12 := ⟨by decide +kernel, rfl⟩
theorem d_X5_readInto_12 : Dc m_X5_readInto 12 (.invokevirtual 26) 3 15 := ⟨by decide +kernel, rfl⟩
theorem d_X5_readInto_15 : Dc m_X5_readInto 15 (.aload_n 1) 1 16 := ⟨by decide +kernel, rfl⟩
theorem d_X5_readInto_16 : Dc m_X5_readInto 16 (.iconst 0) 1 17 := ⟨by decide +kernel, rfl⟩
theorem d_X5_readInto_17 : Dc m_X5_readInto 17 (.putfield 30) 3 20 := ⟨by decide +kernel, rfl⟩
theorem d_X5_readInto_20 : Dc m_X5_readInto 20 (.iconst 0) 1 21 := ⟨by decide +kernel, rfl⟩
theorem d_X5_readInto_21 : Dc m_X5_readInto 21 (.istore_n 2) 1 22 := ⟨by decide +kernel, rfl⟩
theorem d_X5_readInto_22 : Dc m_X5_readInto 22 (.iload_n 2) 1 23 := ⟨by decide +kernel, rfl⟩
theorem d_X5_readInto_23 : Dc m_X5_readInto 23 (.bipush 6) 2 25 := ⟨by decide +kernel, rfl⟩
theorem d_X5_readInto_25 : Dc m_X5_readInto 25 (.if_icmp .gt 32) 3 28 := ⟨by decide +kernel, rfl⟩
theorem d_X5_readInto_28 : Dc m_X5_readInto 28 (.aload_n 0) 1 29 := ⟨by decide +kernel, rfl⟩
theorem d_X5_readInto_29 : Dc m_X5_readInto 29 (.getfield 22) 3 32 := ⟨by decide +kernel, rfl⟩
theorem d_X5_readInto_32 : Dc m_X5_readInto 32 (.ifCond .eq 25) 3 35 := ⟨by decide +kernel, rfl⟩
theorem d_X5_readInto_35 : Dc m_X5_readInto 35 (.aload_n 0) 1 36 := ⟨by decide +kernel, rfl⟩
theorem d_X5_readInto_36 : Dc m_X5_readInto 36 (.getfield 19) 3 39 := ⟨by decide +kernel, rfl⟩
theorem d_X5_readInto_39 : Dc m_X5_readInto 39 (.aload_n 0) 1 40 := ⟨by decide +kernel, rfl⟩
theorem d_X5_readInto_40 : Dc m_X5_readInto 40 (.getfield 15) 3 43 := ⟨by decide +kernel, rfl⟩
theorem d_X5_readInto_43 : Dc m_X5_readInto 43 (.if_icmp .ge 14) 3 46 := ⟨by decide +kernel, rfl⟩
theorem d_X5_readInto_46 : Dc m_X5_readInto 46 (.aload_n 0) 1 47 := ⟨by decide +kernel, rfl⟩
theorem d_X5_readInto_47 : Dc m_X5_readInto 47 (.aload_n 1) 1 48 := ⟨by decide +kernel, rfl⟩
theorem d_X5_readInto_48 : Dc m_X5_readInto 48 (.invokevirtual 35) 3 51 := ⟨by decide +kernel, rfl⟩
theorem d_X5_readInto_51 : Dc m_X5_readInto 51 (.iinc 2 1) 3 54 := ⟨by decide +kernel, rfl⟩
theorem d_X5_readInto_54 : Dc m_X5_readInto 54 (.goto (-32)) 3 57 := ⟨by decide +kernel, rfl⟩
theorem d_X5_readInto_57 : Dc m_X5_readInto 57 (.aload_n 0) 1 58 := ⟨by decide +kernel, rfl⟩
theorem d_X5_readInto_58 : Dc m_X5_readInto 58 (.getfield 22) 3 61 := ⟨by decide +kernel, rfl⟩
theorem d_X5_readInto_61 : Dc m_X5_readInto 61 (.ireturn) 1 62 := ⟨by decide +kernel, rfl⟩
theorem d_X5_readLaw_0 : Dc m_X5_readLaw 0 (.aload_n 0) 1 1 := ⟨by decide +kernel, rfl⟩
theorem d_X5_readLaw_1 : Dc m_X5_readLaw 1 (.bipush 112) 2 3 := ⟨by decide +kernel, rfl⟩
theorem d_X5_readLaw_3 : Dc m_X5_readLaw 3 (.invokevirtual 38) 3 6 := ⟨by decide +kernel, rfl⟩
theorem d_X5_readLaw_6 : Dc m_X5_readLaw 6 (.aload_n 1) 1 7 := ⟨by decide +kernel, rfl⟩
theorem d_X5_readLaw_7 : Dc m_X5_readLaw 7 (.aload_n 0) 1 8 := ⟨by decide +kernel, rfl⟩
theorem d_X5_readLaw_8 : Dc m_X5_readLaw 8 (.bipush 9) 2 10 := ⟨by decide +kernel, rfl⟩
theorem d_X5_readLaw_10 : Dc m_X5_readLaw 10 (.invokevirtual 42) 3 13 := ⟨by decide +kernel, rfl⟩
theorem d_X5_readLaw_13 : Dc m_X5_readLaw 13 (.putfield 46) 3 16 := ⟨by decide +kernel, rfl⟩
theorem d_X5_readLaw_16 : Dc m_X5_readLaw 16 (.aload_n 0) 1 17 := ⟨by decide +kernel, rfl⟩
theorem d_X5_readLaw_17 : Dc m_X5_readLaw 17 (.bipush 44) 2 19 := ⟨by decide +kernel, rfl⟩
theorem d_X5_readLaw_19 : Dc m_X5_readLaw 19 (.invokevirtual 38) 3 22 := ⟨by decide +kernel, rfl⟩
theorem d_X5_readLaw_22 : Dc m_X5_readLaw 22 (.aload_n 1) 1 23 := ⟨by decide +kernel, rfl⟩
theorem d_X5_readLaw_23 : Dc m_X5_readLaw 23 (.aload_n 0) 1 24 := ⟨by decide +kernel, rfl⟩
theorem d_X5_readLaw_24 : Dc m_X5_readLaw 24 (.bipush 20) 2 26 := ⟨by decide +kernel, rfl⟩
theorem d_X5_readLaw_26 : Dc m_X5_readLaw 26 (.invokevirtual 42) 3 29 := ⟨by decide +kernel, rfl⟩
theorem d_X5_readLaw_29 : Dc m_X5_readLaw 29 (.putfield 49) 3 32 := ⟨by decide +kernel, rfl⟩
theorem d_X5_readLaw_32 : Dc m_X5_readLaw 32 (.aload_n 0) 1 33 := ⟨by decide +kernel, rfl⟩
theorem d_X5_readLaw_33 : Dc m_X5_readLaw 33 (.bipush 44) 2 35 := ⟨by decide +kernel, rfl⟩
theorem d_X5_readLaw_35 : Dc m_X5_readLaw 35 (.invokevirtual 38) 3 38 := ⟨by decide +kernel, rfl⟩
theorem d_X5_readLaw_38 : Dc m_X5_readLaw 38 (.aload_n 1) 1 39 := ⟨by decide +kernel, rfl⟩
theorem d_X5_readLaw_39 : Dc m_X5_readLaw 39 (.aload_n 0) 1 40 := ⟨by decide +kernel, rfl⟩
theorem d_X5_readLaw_40 : Dc m_X5_readLaw 40 (.bipush 60) 2 42 := ⟨by decide +kernel, rfl⟩
theorem d_X5_readLaw_42 : Dc m_X5_readLaw 42 (.invokevirtual 42) 3 45 := ⟨by decide +kernel, rfl⟩
theorem d_X5_readLaw_45 : Dc m_X5_readLaw 45 (.putfield 52) 3 48 := ⟨by decide +kernel, rfl⟩
theorem d_X5_readLaw_48 : Dc m_X5_readLaw 48 (.aload_n 0) 1 49 := ⟨by decide +kernel, rfl⟩
theorem d_X5_readLaw_49 : Dc m_X5_readLaw 49 (.bipush 59) 2 51 := ⟨by decide +kernel, rfl⟩
theorem d_X5_readLaw_51 : Dc m_X5_readLaw 51 (.invokevirtual 38) 3 54 := ⟨by decide +kernel, rfl⟩
theorem d_X5_readLaw_54 : Dc m_X5_readLaw 54 (.return_) 1 55 := ⟨by decide +kernel, rfl⟩
theorem d_X5_readReader_0 : Dc m_X5_readReader 0 (.aload_n 0) 1 1 := ⟨by decide +kernel, rfl⟩
theorem d_X5_readReader_1 : Dc m_X5_readReader 1 (.invokevirtual 55) 3 4 := ⟨by decide +kernel, rfl⟩
theorem d_X5_readReader_4 : Dc m_X5_readReader 4 (.invokestatic 59) 3 7 := ⟨by decide +kernel, rfl⟩
theorem d_X5_readReader_7 : Dc m_X5_readReader 7 (.istore_n 2) 1 8 := ⟨by decide +kernel, rfl⟩
theorem d_X5_readReader_8 : Dc m_X5_readReader 8 (.iload_n 2) 1 9 := ⟨by decide +kernel, rfl⟩
theorem d_X5_readReader_9 : Dc m_X5_readReader 9 (.ifCond .ne 9) 3 12 := ⟨by decide +kernel, rfl⟩
theorem d_X5_readReader_12 : Dc m_X5_readReader 12 (.aload_n 0) 1 13 := ⟨by decide +kernel, rfl⟩
theorem d_X5_readReader_13 : Dc m_X5_readReader 13 (.iconst 1) 1 14 := ⟨by decide +kernel, rfl⟩
theorem d_X5_readReader_14 : Dc m_X5_readReader 14 (.invokevirtual 62) 3 17 := ⟨by decide +kernel, rfl⟩
theorem d_X5_readReader_17 : Dc m_X5_readReader 17 (.return_) 1 18 := ⟨by decide +kernel, rfl⟩
theorem d_X5_readReader_18 : Dc m_X5_readReader 18 (.aload_n 1) 1 19 := ⟨by decide +kernel, rfl⟩
theorem d_X5_readReader_19 : Dc m_X5_readReader 19 (.getfield 30) 3 22 := ⟨by decide +kernel, rfl⟩
theorem d_X5_readReader_22 : Dc m_X5_readReader 22 (.bipush 6) 2 24 := ⟨by decide +kernel, rfl⟩
theorem d_X5_readReader_24 : Dc m_X5_readReader 24 (.if_icmp .lt 9) 3 27 := ⟨by decide +kernel, rfl⟩
theorem d_X5_readReader_27 : Dc m_X5_readReader 27 (.aload_n 0) 1 28 := ⟨by decide +kernel, rfl⟩
theorem d_X5_readReader_28 : Dc m_X5_readReader 28 (.iconst 3) 1 29 := ⟨by decide +kernel, rfl⟩
theorem d_X5_readReader_29 : Dc m_X5_readReader 29 (.invokevirtual 62) 3 32 := ⟨by decide +kernel, rfl⟩
theorem d_X5_readReader_32 : Dc m_X5_readReader 32 (.return_) 1 33 := ⟨by decide +kernel, rfl⟩
theorem d_X5_readReader_33 : Dc m_X5_readReader 33 (.aload_n 0) 1 34 := ⟨by decide +kernel, rfl⟩
theorem d_X5_readReader_34 : Dc m_X5_readReader 34 (.dup) 1 35 := ⟨by decide +kernel, rfl⟩
theorem d_X5_readReader_35 : Dc m_X5_readReader 35 (.getfield 19) 3 38 := ⟨by decide +kernel, rfl⟩
theorem d_X5_readReader_38 : Dc m_X5_readReader 38 (.iconst 1) 1 39 := ⟨by decide +kernel, rfl⟩
theorem d_X5_readReader_39 : Dc m_X5_readReader 39 (.iadd) 1 40 := ⟨by decide +kernel, rfl⟩
theorem d_X5_readReader_40 : Dc m_X5_readReader 40 (.putfield 19) 3 43 := ⟨by decide +kernel, rfl⟩
theorem d_X5_readReader_43 : Dc m_X5_readReader 43 (.aload_n 1) 1 44 := ⟨by decide +kernel, rfl⟩
theorem d_X5_readReader_44 : Dc m_X5_readReader 44 (.getfield 30) 3 47 := ⟨by decide +kernel, rfl⟩
theorem d_X5_readReader_47 : Dc m_X5_readReader 47 (.istore_n 3) 1 48 := ⟨by decide +kernel, rfl⟩
theorem d_X5_readReader_48 : Dc m_X5_readReader 48 (.aload_n 1) 1 49 := ⟨by decide +kernel, rfl⟩
theorem d_X5_readReader_49 : Dc m_X5_readReader 49 (.dup) 1 50 := ⟨by decide +kernel, rfl⟩
theorem d_X5_readReader_50 : Dc m_X5_readReader 50 (.getfield 30) 3 53 := ⟨by decide +kernel, rfl⟩
theorem d_X5_readReader_53 : Dc m_X5_readReader 53 (.iconst 1) 1 54 := ⟨by decide +kernel, rfl⟩
theorem d_X5_readReader_54 : Dc m_X5_readReader 54 (.iadd) 1 55 := ⟨by decide +kernel, rfl⟩
theorem d_X5_readReader_55 : Dc m_X5_readReader 55 (.putfield 30) 3 58 := ⟨by decide +kernel, rfl⟩
theorem d_X5_readReader_58 : Dc m_X5_readReader 58 (.aload_n 1) 1 59 := ⟨by decide +kernel, rfl⟩
theorem d_X5_readReader_59 : Dc m_X5_readReader 59 (.getfield 65) 3 62 := ⟨by decide +kernel, rfl⟩
theorem d_X5_readReader_62 : Dc m_X5_readReader 62 (.iload_n 3) 1 63 := ⟨by decide +kernel, rfl⟩
theorem d_X5_readReader_63 : Dc m_X5_readReader 63 (.iload_n 2) 1 64 := ⟨by decide +kernel, rfl⟩
theorem d_X5_readReader_64 : Dc m_X5_readReader 64 (.iastore) 1 65 := ⟨by decide +kernel, rfl⟩
theorem d_X5_readReader_65 : Dc m_X5_readReader 65 (.aload_n 1) 1 66 := ⟨by decide +kernel, rfl⟩
theorem d_X5_readReader_66 : Dc m_X5_readReader 66 (.getfield 68) 3 69 := ⟨by decide +kernel, rfl⟩
theorem d_X5_readReader_69 : Dc m_X5_readReader 69 (.iload_n 3) 1 70 := ⟨by decide +kernel, rfl⟩
theorem d_X5_readReader_70 : Dc m_X5_readReader 70 (.aload_n 0) 1 71 := ⟨by decide +kernel, rfl⟩
theorem d_X5_readReader_71 : Dc m_X5_readReader 71 (.bipush 9) 2 73 := ⟨by decide +kernel, rfl⟩
theorem d_X5_readReader_73 : Dc m_X5_readReader 73 (.invokevirtual 42) 3 76 := ⟨by decide +kernel, rfl⟩
theorem d_X5_readReader_76 : Dc m_X5_readReader 76 (.iastore) 1 77 := ⟨by decide +kernel, rfl⟩
theorem d_X5_readReader_77 : Dc m_X5_readReader 77 (.aload_n 0) 1 78 := ⟨by decide +kernel, rfl⟩
theorem d_X5_readReader_78 : Dc m_X5_readReader 78 (.bipush 44) 2 80 := ⟨by decide +kernel, rfl⟩
theorem d_X5_readReader_80 : Dc m_X5_readReader 80 (.invokevirtual 38) 3 83 := ⟨by decide +kernel, rfl⟩
theorem d_X5_readReader_83 : Dc m_X5_readReader 83 (.aload_n 1) 1 84 := ⟨by decide +kernel, rfl⟩
theorem d_X5_readReader_84 : Dc m_X5_readReader 84 (.getfield 71) 3 87 := ⟨by decide +kernel, rfl⟩
theorem d_X5_readReader_87 : Dc m_X5_readReader 87 (.iload_n 3) 1 88 := ⟨by decide +kernel, rfl⟩
theorem d_X5_readReader_88 : Dc m_X5_readReader 88 (.aload_n 0) 1 89 := ⟨by decide +kernel, rfl⟩
theorem d_X5_readReader_89 : Dc m_X5_readReader 89 (.bipush 30) 2 91 := ⟨by decide +kernel, rfl⟩
theorem d_X5_readReader_91 : Dc m_X5_readReader 91 (.invokevirtual 42) 3 94 := ⟨by decide +kernel, rfl⟩
theorem d_X5_readReader_94 : Dc m_X5_readReader 94 (.iastore) 1 95 := ⟨by decide +kernel, rfl⟩
theorem d_X5_readReader_95 : Dc m_X5_readReader 95 (.aload_n 0) 1 96 := ⟨by decide +kernel, rfl⟩
theorem d_X5_readReader_96 : Dc m_X5_readReader 96 (.bipush 44) 2 98 := ⟨by decide +kernel, rfl⟩
theorem d_X5_readReader_98 : Dc m_X5_readReader 98 (.invokevirtual 38) 3 101 := ⟨by decide +kernel, rfl⟩
theorem d_X5_readReader_101 : Dc m_X5_readReader 101 (.aload_n 1) 1 102 := ⟨by decide +kernel, rfl⟩
theorem d_X5_readReader_102 : Dc m_X5_readReader 102 (.getfield 74) 3 105 := ⟨by decide +kernel, rfl⟩
theorem d_X5_readReader_105 : Dc m_X5_readReader 105 (.iload_n 3) 1 106 := ⟨by decide +kernel, rfl⟩
theorem d_X5_readReader_106 : Dc m_X5_readReader 106 (.aload_n 0) 1 107 := ⟨by decide +kernel, rfl⟩
theorem d_X5_readReader_107 : Dc m_X5_readReader 107 (.bipush 9) 2 109 := ⟨by decide +kernel, rfl⟩
theorem d_X5_readReader_109 : Dc m_X5_readReader 109 (.invokevirtual 42) 3 112 := ⟨by decide +kernel, rfl⟩
theorem d_X5_readReader_112 : Dc m_X5_readReader 112 (.iastore) 1 113 := ⟨by decide +kernel, rfl⟩
theorem d_X5_readReader_113 : Dc m_X5_readReader 113 (.aload_n 0) 1 114 := ⟨by decide +kernel, rfl⟩
theorem d_X5_readReader_114 : Dc m_X5_readReader 114 (.bipush 59) 2 116 := ⟨by decide +kernel, rfl⟩
theorem d_X5_readReader_116 : Dc m_X5_readReader 116 (.invokevirtual 38) 3 119 := ⟨by decide +kernel, rfl⟩
theorem d_X5_readReader_119 : Dc m_X5_readReader 119 (.return_) 1 120 := ⟨by decide +kernel, rfl⟩
theorem d_X5_sortOf_0 : Dc m_X5_sortOf 0 (.iload_n 0) 1 1 := ⟨by decide +kernel, rfl⟩
theorem d_X5_sortOf_1 : Dc m_X5_sortOf 1 (.lookupswitch 61 #[(97, 55), (102, 51), (104, 59), (111, 57), (115, 53)]) 51 52 := ⟨by decide +kernel, rfl⟩
theorem d_X5_sortOf_52 : Dc m_X5_sortOf 52 (.iconst 1) 1 53 := ⟨by decide +kernel, rfl⟩
theorem d_X5_sortOf_53 : Dc m_X5_sortOf 53 (.ireturn) 1 54 := ⟨by decide +kernel, rfl⟩
theorem d_X5_sortOf_54 : Dc m_X5_sortOf 54 (.iconst 2) 1 55 := ⟨by decide +kernel, rfl⟩
theorem d_X5_sortOf_55 : Dc m_X5_sortOf 55 (.ireturn) 1 56 := ⟨by decide +kernel, rfl⟩
theorem d_X5_sortOf_56 : Dc m_X5_sortOf 56 (.iconst 3) 1 57 := ⟨by decide +kernel, rfl⟩
theorem d_X5_sortOf_57 : Dc m_X5_sortOf 57 (.ireturn) 1 58 := ⟨by decide +kernel, rfl⟩
theorem d_X5_sortOf_58 : Dc m_X5_sortOf 58 (.iconst 4) 1 59 := ⟨by decide +kernel, rfl⟩
theorem d_X5_sortOf_59 : Dc m_X5_sortOf 59 (.ireturn) 1 60 := ⟨by decide +kernel, rfl⟩
theorem d_X5_sortOf_60 : Dc m_X5_sortOf 60 (.iconst 5) 1 61 := ⟨by decide +kernel, rfl⟩
theorem d_X5_sortOf_61 : Dc m_X5_sortOf 61 (.ireturn) 1 62 := ⟨by decide +kernel, rfl⟩
theorem d_X5_sortOf_62 : Dc m_X5_sortOf 62 (.iconst 0) 1 63 := ⟨by decide +kernel, rfl⟩
theorem d_X5_sortOf_63 : Dc m_X5_sortOf 63 (.ireturn) 1 64 := ⟨by decide +kernel, rfl⟩
theorem d_X5_peek_0 : Dc m_X5_peek 0 (.aload_n 0) 1 1 := ⟨by decide +kernel, rfl⟩
theorem d_X5_peek_1 : Dc m_X5_peek 1 (.getfield 19) 3 4 := ⟨by decide +kernel, rfl⟩
theorem d_X5_peek_4 : Dc m_X5_peek 4 (.aload_n 0) 1 5 := ⟨by decide +kernel, rfl⟩
theorem d_X5_peek_5 : Dc m_X5_peek 5 (.getfield 15) 3 8 := ⟨by decide +kernel, rfl⟩
theorem d_X5_peek_8 : Dc m_X5_peek 8 (.if_icmp .ge 15) 3 11 := ⟨by decide +kernel, rfl⟩
theorem d_X5_peek_11 : Dc m_X5_peek 11 (.aload_n 0) 1 12 := ⟨by decide +kernel, rfl⟩
theorem d_X5_peek_12 : Dc m_X5_peek 12 (.getfield 11) 3 15 := ⟨by decide +kernel, rfl⟩
theorem d_X5_peek_15 : Dc m_X5_peek 15 (.aload_n 0) 1 16 := ⟨by decide +kernel, rfl⟩
theorem d_X5_peek_16 : Dc m_X5_peek 16 (.getfield 19) 3 19 := ⟨by decide +kernel, rfl⟩
theorem d_X5_peek_19 : Dc m_X5_peek 19 (.iaload) 1 20 := ⟨by decide +kernel, rfl⟩
theorem d_X5_peek_20 : Dc m_X5_peek 20 (.goto 4) 3 23 := ⟨by decide +kernel, rfl⟩
theorem d_X5_peek_23 : Dc m_X5_peek 23 (.iconst (-1)) 1 24 := ⟨by decide +kernel, rfl⟩
theorem d_X5_peek_24 : Dc m_X5_peek 24 (.ireturn) 1 25 := ⟨by decide +kernel, rfl⟩
theorem d_X5_readByte_0 : Dc m_X5_readByte 0 (.aload_n 0) 1 1 := ⟨by decide +kernel, rfl⟩
theorem d_X5_readByte_1 : Dc m_X5_readByte 1 (.invokevirtual 55) 3 4 := ⟨by decide +kernel, rfl⟩
theorem d_X5_readByte_4 : Dc m_X5_readByte 4 (.iload_n 1) 1 5 := ⟨by decide +kernel, rfl⟩
theorem d_X5_readByte_5 : Dc m_X5_readByte 5 (.if_icmp .ne 16) 3 8 := ⟨by decide +kernel, rfl⟩
theorem d_X5_readByte_8 : Dc m_X5_readByte 8 (.aload_n 0) 1 9 := ⟨by decide +kernel, rfl⟩
theorem d_X5_readByte_9 : Dc m_X5_readByte 9 (.dup) 1 10 := ⟨by decide +kernel, rfl⟩
theorem d_X5_readByte_10 : Dc m_X5_readByte 10 (.getfield 19) 3 13 := ⟨by decide +kernel, rfl⟩
theorem d_X5_readByte_13 : Dc m_X5_readByte 13 (.iconst 1) 1 14 := ⟨by decide +kernel, rfl⟩
theorem d_X5_readByte_14 : Dc m_X5_readByte 14 (.iadd) 1 15 := ⟨by decide +kernel, rfl⟩
theorem d_X5_readByte_15 : Dc m_X5_readByte 15 (.putfield 19) 3 18 := ⟨by decide +kernel, rfl⟩
theorem d_X5_readByte_18 : Dc m_X5_readByte 18 (.goto 8) 3 21 := ⟨by decide +kernel, rfl⟩
theorem d_X5_readByte_21 : Dc m_X5_readByte 21 (.aload_n 0) 1 22 := ⟨by decide +kernel, rfl⟩
theorem d_X5_readByte_22 : Dc m_X5_readByte 22 (.iconst 1) 1 23 := ⟨by decide +kernel, rfl⟩
theorem d_X5_readByte_23 : Dc m_X5_readByte 23 (.invokevirtual 62) 3 26 := ⟨by decide +kernel, rfl⟩
theorem d_X5_readByte_26 : Dc m_X5_readByte 26 (.return_) 1 27 := ⟨by decide +kernel, rfl⟩
theorem d_X5_readNumber_0 : Dc m_X5_readNumber 0 (.iconst 0) 1 1 := ⟨by decide +kernel, rfl⟩
theorem d_X5_readNumber_1 : Dc m_X5_readNumber 1 (.istore_n 2) 1 2 := ⟨by decide +kernel, rfl⟩
theorem d_X5_readNumber_2 : Dc m_X5_readNumber 2 (.iconst 0) 1 3 := ⟨by decide +kernel, rfl⟩
theorem d_X5_readNumber_3 : Dc m_X5_readNumber 3 (.istore_n 3) 1 4 := ⟨by decide +kernel, rfl⟩
theorem d_X5_readNumber_4 : Dc m_X5_readNumber 4 (.aload_n 0) 1 5 := ⟨by decide +kernel, rfl⟩
theorem d_X5_readNumber_5 : Dc m_X5_readNumber 5 (.getfield 19) 3 8 := ⟨by decide +kernel, rfl⟩
theorem d_X5_readNumber_8 : Dc m_X5_readNumber 8 (.iload_n 2) 1 9 := ⟨by decide +kernel, rfl⟩
theorem d_X5_readNumber_9 : Dc m_X5_readNumber 9 (.iadd) 1 10 := ⟨by decide +kernel, rfl⟩
theorem d_X5_readNumber_10 : Dc m_X5_readNumber 10 (.aload_n 0) 1 11 := ⟨by decide +kernel, rfl⟩
theorem d_X5_readNumber_11 : Dc m_X5_readNumber 11 (.getfield 15) 3 14 := ⟨by decide +kernel, rfl⟩
theorem d_X5_readNumber_14 : Dc m_X5_readNumber 14 (.if_icmp .ge 51) 3 17 := ⟨by decide +kernel, rfl⟩
theorem d_X5_readNumber_17 : Dc m_X5_readNumber 17 (.aload_n 0) 1 18 := ⟨by decide +kernel, rfl⟩
theorem d_X5_readNumber_18 : Dc m_X5_readNumber 18 (.getfield 11) 3 21 := ⟨by decide +kernel, rfl⟩
theorem d_X5_readNumber_21 : Dc m_X5_readNumber 21 (.aload_n 0) 1 22 := ⟨by decide +kernel, rfl⟩
theorem d_X5_readNumber_22 : Dc m_X5_readNumber 22 (.getfield 19) 3 25 := ⟨by decide +kernel, rfl⟩
theorem d_X5_readNumber_25 : Dc m_X5_readNumber 25 (.iload_n 2) 1 26 := ⟨by decide +kernel, rfl⟩
theorem d_X5_readNumber_26 : Dc m_X5_readNumber 26 (.iadd) 1 27 := ⟨by decide +kernel, rfl⟩
theorem d_X5_readNumber_27 : Dc m_X5_readNumber 27 (.iaload) 1 28 := ⟨by decide +kernel, rfl⟩
theorem d_X5_readNumber_28 : Dc m_X5_readNumber 28 (.invokestatic 77) 3 31 := ⟨by decide +kernel, rfl⟩
theorem d_X5_readNumber_31 : Dc m_X5_readNumber 31 (.ifCond .eq 34) 3 34 := ⟨by decide +kernel, rfl⟩
theorem d_X5_readNumber_34 : Dc m_X5_readNumber 34 (.iload_n 2) 1 35 := ⟨by decide +kernel, rfl⟩
theorem d_X5_readNumber_35 : Dc m_X5_readNumber 35 (.iconst 2) 1 36 := ⟨by decide +kernel, rfl⟩
theorem d_X5_readNumber_36 : Dc m_X5_readNumber 36 (.if_icmp .ge 23) 3 39 := ⟨by decide +kernel, rfl⟩
theorem d_X5_readNumber_39 : Dc m_X5_readNumber 39 (.bipush 10) 2 41 := ⟨by decide +kernel, rfl⟩
theorem d_X5_readNumber_41 : Dc m_X5_readNumber 41 (.iload_n 3) 1 42 := ⟨by decide +kernel, rfl⟩
theorem d_X5_readNumber_42 : Dc m_X5_readNumber 42 (.imul) 1 43 := ⟨by decide +kernel, rfl⟩
theorem d_X5_readNumber_43 : Dc m_X5_readNumber 43 (.aload_n 0) 1 44 := ⟨by decide +kernel, rfl⟩
theorem d_X5_readNumber_44 : Dc m_X5_readNumber 44 (.getfield 11) 3 47 := ⟨by decide +kernel, rfl⟩
theorem d_X5_readNumber_47 : Dc m_X5_readNumber 47 (.aload_n 0) 1 48 := ⟨by decide +kernel, rfl⟩
theorem d_X5_readNumber_48 : Dc m_X5_readNumber 48 (.getfield 19) 3 51 := ⟨by decide +kernel, rfl⟩
theorem d_X5_readNumber_51 : Dc m_X5_readNumber 51 (.iload_n 2) 1 52 := ⟨by decide +kernel, rfl⟩
theorem d_X5_readNumber_52 : Dc m_X5_readNumber 52 (.iadd) 1 53 := ⟨by decide +kernel, rfl⟩
theorem d_X5_readNumber_53 : Dc m_X5_readNumber 53 (.iaload) 1 54 := ⟨by decide +kernel, rfl⟩
theorem d_X5_readNumber_54 : Dc m_X5_readNumber 54 (.iadd) 1 55 := ⟨by decide +kernel, rfl⟩
theorem d_X5_readNumber_55 : Dc m_X5_readNumber 55 (.bipush 48) 2 57 := ⟨by decide +kernel, rfl⟩
theorem d_X5_readNumber_57 : Dc m_X5_readNumber 57 (.isub) 1 58 := ⟨by decide +kernel, rfl⟩
theorem d_X5_readNumber_58 : Dc m_X5_readNumber 58 (.istore_n 3) 1 59 := ⟨by decide +kernel, rfl⟩
theorem d_X5_readNumber_59 : Dc m_X5_readNumber 59 (.iinc 2 1) 3 62 := ⟨by decide +kernel, rfl⟩
theorem d_X5_readNumber_62 : Dc m_X5_readNumber 62 (.goto (-58)) 3 65 := ⟨by decide +kernel, rfl⟩
theorem d_X5_readNumber_65 : Dc m_X5_readNumber 65 (.iload_n 2) 1 66 := ⟨by decide +kernel, rfl⟩
theorem d_X5_readNumber_66 : Dc m_X5_readNumber 66 (.iconst 1) 1 67 := ⟨by decide +kernel, rfl⟩
theorem d_X5_readNumber_67 : Dc m_X5_readNumber 67 (.if_icmp .lt 8) 3 70 := ⟨by decide +kernel, rfl⟩
theorem d_X5_readNumber_70 : Dc m_X5_readNumber 70 (.iload_n 2) 1 71 := ⟨by decide +kernel, rfl⟩
theorem d_X5_readNumber_71 : Dc m_X5_readNumber 71 (.iconst 2) 1 72 := ⟨by decide +kernel, rfl⟩
theorem d_X5_readNumber_72 : Dc m_X5_readNumber 72 (.if_icmp .le 11) 3 75 := ⟨by decide +kernel, rfl⟩
theorem d_X5_readNumber_75 : Dc m_X5_readNumber 75 (.aload_n 0) 1 76 := ⟨by decide +kernel, rfl⟩
theorem d_X5_readNumber_76 : Dc m_X5_readNumber 76 (.iconst 1) 1 77 := ⟨by decide +kernel, rfl⟩
theorem d_X5_readNumber_77 : Dc m_X5_readNumber 77 (.invokevirtual 62) 3 80 := ⟨by decide +kernel, rfl⟩
theorem d_X5_readNumber_80 : Dc m_X5_readNumber 80 (.goto 26) 3 83 := ⟨by decide +kernel, rfl⟩
theorem d_X5_readNumber_83 : Dc m_X5_readNumber 83 (.iload_n 3) 1 84 := ⟨by decide +kernel, rfl⟩
theorem d_X5_readNumber_84 : Dc m_X5_readNumber 84 (.iload_n 1) 1 85 := ⟨by decide +kernel, rfl⟩
theorem d_X5_readNumber_85 : Dc m_X5_readNumber 85 (.if_icmp .le 11) 3 88 := ⟨by decide +kernel, rfl⟩
theorem d_X5_readNumber_88 : Dc m_X5_readNumber 88 (.aload_n 0) 1 89 := ⟨by decide +kernel, rfl⟩
theorem d_X5_readNumber_89 : Dc m_X5_readNumber 89 (.iconst 2) 1 90 := ⟨by decide +kernel, rfl⟩
theorem d_X5_readNumber_90 : Dc m_X5_readNumber 90 (.invokevirtual 62) 3 93 := ⟨by decide +kernel, rfl⟩
theorem d_X5_readNumber_93 : Dc m_X5_readNumber 93 (.goto 13) 3 96 := ⟨by decide +kernel, rfl⟩
theorem d_X5_readNumber_96 : Dc m_X5_readNumber 96 (.aload_n 0) 1 97 := ⟨by decide +kernel, rfl⟩
theorem d_X5_readNumber_97 : Dc m_X5_readNumber 97 (.dup) 1 98 := ⟨by decide +kernel, rfl⟩
theorem d_X5_readNumber_98 : Dc m_X5_readNumber 98 (.getfield 19) 3 101 := ⟨by decide +kernel, rfl⟩
theorem d_X5_readNumber_101 : Dc m_X5_readNumber 101 (.iload_n 2) 1 102 := ⟨by decide +kernel, rfl⟩
theorem d_X5_readNumber_102 : Dc m_X5_readNumber 102 (.iadd) 1 103 := ⟨by decide +kernel, rfl⟩
theorem d_X5_readNumber_103 : Dc m_X5_readNumber 103 (.putfield 19) 3 106 := ⟨by decide +kernel, rfl⟩
theorem d_X5_readNumber_106 : Dc m_X5_readNumber 106 (.iload_n 3) 1 107 := ⟨by decide +kernel, rfl⟩
theorem d_X5_readNumber_107 : Dc m_X5_readNumber 107 (.ireturn) 1 108 := ⟨by decide +kernel, rfl⟩
theorem d_X5_isFigure_0 : Dc m_X5_isFigure 0 (.iload_n 0) 1 1 := ⟨by decide +kernel, rfl⟩
theorem d_X5_isFigure_1 : Dc m_X5_isFigure 1 (.bipush 48) 2 3 := ⟨by decide +kernel, rfl⟩
theorem d_X5_isFigure_3 : Dc m_X5_isFigure 3 (.if_icmp .lt 13) 3 6 := ⟨by decide +kernel, rfl⟩
theorem d_X5_isFigure_6 : Dc m_X5_isFigure 6 (.iload_n 0) 1 7 := ⟨by decide +kernel, rfl⟩
theorem d_X5_isFigure_7 : Dc m_X5_isFigure 7 (.bipush 57) 2 9 := ⟨by decide +kernel, rfl⟩
theorem d_X5_isFigure_9 : Dc m_X5_isFigure 9 (.if_icmp .gt 7) 3 12 := ⟨by decide +kernel, rfl⟩
theorem d_X5_isFigure_12 : Dc m_X5_isFigure 12 (.iconst 1) 1 13 := ⟨by decide +kernel, rfl⟩
theorem d_X5_isFigure_13 : Dc m_X5_isFigure 13 (.goto 4) 3 16 := ⟨by decide +kernel, rfl⟩
theorem d_X5_isFigure_16 : Dc m_X5_isFigure 16 (.iconst 0) 1 17 := ⟨by decide +kernel, rfl⟩
theorem d_X5_isFigure_17 : Dc m_X5_isFigure 17 (.ireturn) 1 18 := ⟨by decide +kernel, rfl⟩
theorem d_X5_fail_0 : Dc m_X5_fail 0 (.aload_n 0) 1 1 := ⟨by decide +kernel, rfl⟩
theorem d_X5_fail_1 : Dc m_X5_fail 1 (.getfield 22) 3 4 := ⟨by decide +kernel, rfl⟩
theorem d_X5_fail_4 : Dc m_X5_fail 4 (.ifCond .eq 21) 3 7 := ⟨by decide +kernel, rfl⟩
theorem d_X5_fail_7 : Dc m_X5_fail 7 (.aload_n 0) 1 8 := ⟨by decide +kernel, rfl⟩
theorem d_X5_fail_8 : Dc m_X5_fail 8 (.iconst 0) 1 9 := ⟨by decide +kernel, rfl⟩
theorem d_X5_fail_9 : Dc m_X5_fail 9 (.putfield 22) 3 12 := ⟨by decide +kernel, rfl⟩
theorem d_X5_fail_12 : Dc m_X5_fail 12 (.aload_n 0) 1 13 := ⟨by decide +kernel, rfl⟩
theorem d_X5_fail_13 : Dc m_X5_fail 13 (.iload_n 1) 1 14 := ⟨by decide +kernel, rfl⟩
theorem d_X5_fail_14 : Dc m_X5_fail 14 (.putfield 81) 3 17 := ⟨by decide +kernel, rfl⟩
theorem d_X5_fail_17 : Dc m_X5_fail 17 (.aload_n 0) 1 18 := ⟨by decide +kernel, rfl⟩
theorem d_X5_fail_18 : Dc m_X5_fail 18 (.aload_n 0) 1 19 := ⟨by decide +kernel, rfl⟩
theorem d_X5_fail_19 : Dc m_X5_fail 19 (.getfield 19) 3 22 := ⟨by decide +kernel, rfl⟩
theorem d_X5_fail_22 : Dc m_X5_fail 22 (.putfield 84) 3 25 := ⟨by decide +kernel, rfl⟩
theorem d_X5_fail_25 : Dc m_X5_fail 25 (.return_) 1 26 := ⟨by decide +kernel, rfl⟩
theorem d_X6_takeOver_0 : Dc m_X6_takeOver 0 (.aload_n 0) 1 1 := ⟨by decide +kernel, rfl⟩
theorem d_X6_takeOver_1 : Dc m_X6_takeOver 1 (.aload_n 1) 1 2 := ⟨by decide +kernel, rfl⟩
theorem d_X6_takeOver_2 : Dc m_X6_takeOver 2 (.getfield 24) 3 5 := ⟨by decide +kernel, rfl⟩
theorem d_X6_takeOver_5 : Dc m_X6_takeOver 5 (.putfield 24) 3 8 := ⟨by decide +kernel, rfl⟩
theorem d_X6_takeOver_8 : Dc m_X6_takeOver 8 (.aload_n 0) 1 9 := ⟨by decide +kernel, rfl⟩
theorem d_X6_takeOver_9 : Dc m_X6_takeOver 9 (.aload_n 1) 1 10 := ⟨by decide +kernel, rfl⟩
theorem d_X6_takeOver_10 : Dc m_X6_takeOver 10 (.getfield 28) 3 13 := ⟨by decide +kernel, rfl⟩
theorem d_X6_takeOver_13 : Dc m_X6_takeOver 13 (.putfield 28) 3 16 := ⟨by decide +kernel, rfl⟩
theorem d_X6_takeOver_16 : Dc m_X6_takeOver 16 (.aload_n 0) 1 17 := ⟨by decide +kernel, rfl⟩
theorem d_X6_takeOver_17 : Dc m_X6_takeOver 17 (.aload_n 1) 1 18 := ⟨by decide +kernel, rfl⟩
theorem d_X6_takeOver_18 : Dc m_X6_takeOver 18 (.getfield 32) 3 21 := ⟨by decide +kernel, rfl⟩
theorem d_X6_takeOver_21 : Dc m_X6_takeOver 21 (.putfield 32) 3 24 := ⟨by decide +kernel, rfl⟩
theorem d_X6_takeOver_24 : Dc m_X6_takeOver 24 (.aload_n 0) 1 25 := ⟨by decide +kernel, rfl⟩
theorem d_X6_takeOver_25 : Dc m_X6_takeOver 25 (.aload_n 1) 1 26 := ⟨by decide +kernel, rfl⟩
theorem d_X6_takeOver_26 : Dc m_X6_takeOver 26 (.getfield 35) 3 29 := ⟨by decide +kernel, rfl⟩
theorem d_X6_takeOver_29 : Dc m_X6_takeOver 29 (.putfield 35) 3 32 := ⟨by decide +kernel, rfl⟩
theorem d_X6_takeOver_32 : Dc m_X6_takeOver 32 (.aload_n 0) 1 33 := ⟨by decide +kernel, rfl⟩
theorem d_X6_takeOver_33 : Dc m_X6_takeOver 33 (.aload_n 1) 1 34 := ⟨by decide +kernel, rfl⟩
theorem d_X6_takeOver_34 : Dc m_X6_takeOver 34 (.getfield 38) 3 37 := ⟨by decide +kernel, rfl⟩
theorem d_X6_takeOver_37 : Dc m_X6_takeOver 37 (.putfield 38) 3 40 := ⟨by decide +kernel, rfl⟩
theorem d_X6_takeOver_40 : Dc m_X6_takeOver 40 (.aload_n 1) 1 41 := ⟨by decide +kernel, rfl⟩
theorem d_X6_takeOver_41 : Dc m_X6_takeOver 41 (.getfield 9) 3 44 := ⟨by decide +kernel, rfl⟩
theorem d_X6_takeOver_44 : Dc m_X6_takeOver 44 (.iconst 0) 1 45 := ⟨by decide +kernel, rfl⟩
theorem d_X6_takeOver_45 : Dc m_X6_takeOver 45 (.aload_n 0) 1 46 := ⟨by decide +kernel, rfl⟩
theorem d_X6_takeOver_46 : Dc m_X6_takeOver 46 (.getfield 9) 3 49 := ⟨by decide +kernel, rfl⟩
theorem d_X6_takeOver_49 : Dc m_X6_takeOver 49 (.iconst 0) 1 50 := ⟨by decide +kernel, rfl⟩
theorem d_X6_takeOver_50 : Dc m_X6_takeOver 50 (.bipush 6) 2 52 := ⟨by decide +kernel, rfl⟩
theorem d_X6_takeOver_52 : Dc m_X6_takeOver 52 (.invokestatic 41) 3 55 := ⟨by decide +kernel, rfl⟩
theorem d_X6_takeOver_55 : Dc m_X6_takeOver 55 (.aload_n 1) 1 56 := ⟨by decide +kernel, rfl⟩
theorem d_X6_takeOver_56 : Dc m_X6_takeOver 56 (.getfield 15) 3 59 := ⟨by decide +kernel, rfl⟩
theorem d_X6_takeOver_59 : Dc m_X6_takeOver 59 (.iconst 0) 1 60 := ⟨by decide +kernel, rfl⟩
theorem d_X6_takeOver_60 : Dc m_X6_takeOver 60 (.aload_n 0) 1 61 := ⟨by decide +kernel, rfl⟩
theorem d_X6_takeOver_61 : Dc m_X6_takeOver 61 (.getfield 15) 3 64 := ⟨by decide +kernel, rfl⟩
theorem d_X6_takeOver_64 : Dc m_X6_takeOver 64 (.iconst 0) 1 65 := ⟨by decide +kernel, rfl⟩
theorem d_X6_takeOver_65 : Dc m_X6_takeOver 65 (.bipush 6) 2 67 := ⟨by decide +kernel, rfl⟩
theorem d_X6_takeOver_67 : Dc m_X6_takeOver 67 (.invokestatic 41) 3 70 := ⟨by decide +kernel, rfl⟩
theorem d_X6_takeOver_70 : Dc m_X6_takeOver 70 (.aload_n 1) 1 71 := ⟨by decide +kernel, rfl⟩
theorem d_X6_takeOver_71 : Dc m_X6_takeOver 71 (.getfield 18) 3 74 := ⟨by decide +kernel, rfl⟩
theorem d_X6_takeOver_74 : Dc m_X6_takeOver 74 (.iconst 0) 1 75 := ⟨by decide +kernel, rfl⟩
theorem d_X6_takeOver_75 : Dc m_X6_takeOver 75 (.aload_n 0) 1 76 := ⟨by decide +kernel, rfl⟩
theorem d_X6_takeOver_76 : Dc m_X6_takeOver 76 (.getfield 18) 3 79 := ⟨by decide +kernel, rfl⟩
theorem d_X6_takeOver_79 : Dc m_X6_takeOver 79 (.iconst 0) 1 80 := ⟨by decide +kernel, rfl⟩
theorem d_X6_takeOver_80 : Dc m_X6_takeOver 80 (.bipush 6) 2 82 := ⟨by decide +kernel, rfl⟩
theorem d_X6_takeOver_82 : Dc m_X6_takeOver 82 (.invokestatic 41) 3 85 := ⟨by decide +kernel, rfl⟩
theorem d_X6_takeOver_85 : Dc m_X6_takeOver 85 (.aload_n 1) 1 86 := ⟨by decide +kernel, rfl⟩
theorem d_X6_takeOver_86 : Dc m_X6_takeOver 86 (.getfield 21) 3 89 := ⟨by decide +kernel, rfl⟩
theorem d_X6_takeOver_89 : Dc m_X6_takeOver 89 (.iconst 0) 1 90 := ⟨by decide +kernel, rfl⟩
theorem d_X6_takeOver_90 : Dc m_X6_takeOver 90 (.aload_n 0) 1 91 := ⟨by decide +kernel, rfl⟩
theorem d_X6_takeOver_91 : Dc m_X6_takeOver 91 (.getfield 21) 3 94 := ⟨by decide +kernel, rfl⟩
theorem d_X6_takeOver_94 : Dc m_X6_takeOver 94 (.iconst 0) 1 95 := ⟨by decide +kernel, rfl⟩
theorem d_X6_takeOver_95 : Dc m_X6_takeOver 95 (.bipush 6) 2 97 := ⟨by decide +kernel, rfl⟩
theorem d_X6_takeOver_97 : Dc m_X6_takeOver 97 (.invokestatic 41) 3 100 := ⟨by decide +kernel, rfl⟩
theorem d_X6_takeOver_100 : Dc m_X6_takeOver 100 (.aload_n 0) 1 101 := ⟨by decide +kernel, rfl⟩
theorem d_X6_takeOver_101 : Dc m_X6_takeOver 101 (.aload_n 1) 1 102 := ⟨by decide +kernel, rfl⟩
theorem d_X6_takeOver_102 : Dc m_X6_takeOver 102 (.getfield 47) 3 105 := ⟨by decide +kernel, rfl⟩
theorem d_X6_takeOver_105 : Dc m_X6_takeOver 105 (.aload_n 1) 1 106 := ⟨by decide +kernel, rfl⟩
theorem d_X6_takeOver_106 : Dc m_X6_takeOver 106 (.getfield 50) 3 109 := ⟨by decide +kernel, rfl⟩
theorem d_X6_takeOver_109 : Dc m_X6_takeOver 109 (.aload_n 1) 1 110 := ⟨by decide +kernel, rfl⟩
theorem d_X6_takeOver_110 : Dc m_X6_takeOver 110 (.getfield 53) 3 113 := ⟨by decide +kernel, rfl⟩
theorem d_X6_takeOver_113 : Dc m_X6_takeOver 113 (.aload_n 1) 1 114 := ⟨by decide +kernel, rfl⟩
theorem d_X6_takeOver_114 : Dc m_X6_takeOver 114 (.getfield 56) 3 117 := ⟨by decide +kernel, rfl⟩
theorem d_X6_takeOver_117 : Dc m_X6_takeOver 117 (.invokevirtual 59) 3 120 := ⟨by decide +kernel, rfl⟩
theorem d_X6_takeOver_120 : Dc m_X6_takeOver 120 (.return_) 1 121 := ⟨by decide +kernel, rfl⟩
theorem d_X6_copyStands_0 : Dc m_X6_copyStands 0 (.aload_n 0) 1 1 := ⟨by decide +kernel, rfl⟩
theorem d_X6_copyStands_1 : Dc m_X6_copyStands 1 (.iload_n 1) 1 2 := ⟨by decide +kernel, rfl⟩
theorem d_X6_copyStands_2 : Dc m_X6_copyStands 2 (.putfield 47) 3 5 := ⟨by decide +kernel, rfl⟩
theorem d_X6_copyStands_5 : Dc m_X6_copyStands 5 (.aload_n 0) 1 6 := ⟨by decide +kernel, rfl⟩
theorem d_X6_copyStands_6 : Dc m_X6_copyStands 6 (.iload_n 2) 1 7 := ⟨by decide +kernel, rfl⟩
theorem d_X6_copyStands_7 : Dc m_X6_copyStands 7 (.putfield 50) 3 10 := ⟨by decide +kernel, rfl⟩
theorem d_X6_copyStands_10 : Dc m_X6_copyStands 10 (.aload_n 0) 1 11 := ⟨by decide +kernel, rfl⟩
theorem d_X6_copyStands_11 : Dc m_X6_copyStands 11 (.iload_n 3) 1 12 := ⟨by decide +kernel, rfl⟩
theorem d_X6_copyStands_12 : Dc m_X6_copyStands 12 (.putfield 53) 3 15 := ⟨by decide +kernel, rfl⟩
theorem d_X6_copyStands_15 : Dc m_X6_copyStands 15 (.aload_n 0) 1 16 := ⟨by decide +kernel, rfl⟩
theorem d_X6_copyStands_16 : Dc m_X6_copyStands 16 (.iload 4) 2 18 := ⟨by decide +kernel, rfl⟩
theorem d_X6_copyStands_18 : Dc m_X6_copyStands 18 (.putfield 56) 3 21 := ⟨by decide +kernel, rfl⟩
theorem d_X6_copyStands_21 : Dc m_X6_copyStands 21 (.return_) 1 22 := ⟨by decide +kernel, rfl⟩
theorem d_X6_begin_0 : Dc m_X6_begin 0 (.aload_n 0) 1 1 := ⟨by decide +kernel, rfl⟩
theorem d_X6_begin_1 : Dc m_X6_begin 1 (.aload_n 0) 1 2 := ⟨by decide +kernel, rfl⟩
theorem d_X6_begin_2 : Dc m_X6_begin 2 (.getfield 28) 3 5 := ⟨by decide +kernel, rfl⟩
theorem d_X6_begin_5 : Dc m_X6_begin 5 (.iconst 0) 1 6 := ⟨by decide +kernel, rfl⟩
theorem d_X6_begin_6 : Dc m_X6_begin 6 (.iconst 0) 1 7 := ⟨by decide +kernel, rfl⟩
theorem d_X6_begin_7 : Dc m_X6_begin 7 (.iconst 0) 1 8 := ⟨by decide +kernel, rfl⟩
theorem d_X6_begin_8 : Dc m_X6_begin 8 (.invokevirtual 59) 3 11 := ⟨by decide +kernel, rfl⟩
theorem d_X6_begin_11 : Dc m_X6_begin 11 (.return_) 1 12 := ⟨by decide +kernel, rfl⟩
theorem d_X6_has_0 : Dc m_X6_has 0 (.iload_n 1) 1 1 := ⟨by decide +kernel, rfl⟩
theorem d_X6_has_1 : Dc m_X6_has 1 (.ifCond .lt 15) 3 4 := ⟨by decide +kernel, rfl⟩
theorem d_X6_has_4 : Dc m_X6_has 4 (.iload_n 1) 1 5 := ⟨by decide +kernel, rfl⟩
theorem d_X6_has_5 : Dc m_X6_has 5 (.aload_n 0) 1 6 := ⟨by decide +kernel, rfl⟩
theorem d_X6_has_6 : Dc m_X6_has 6 (.getfield 38) 3 9 := ⟨by decide +kernel, rfl⟩
theorem d_X6_has_9 : Dc m_X6_has 9 (.if_icmp .ge 7) 3 12 := ⟨by decide +kernel, rfl⟩
theorem d_X6_has_12 : Dc m_X6_has 12 (.iconst 1) 1 13 := ⟨by decide +kernel, rfl⟩
theorem d_X6_has_13 : Dc m_X6_has 13 (.goto 4) 3 16 := ⟨by decide +kernel, rfl⟩
theorem d_X6_has_16 : Dc m_X6_has 16 (.iconst 0) 1 17 := ⟨by decide +kernel, rfl⟩
theorem d_X6_has_17 : Dc m_X6_has 17 (.ireturn) 1 18 := ⟨by decide +kernel, rfl⟩
theorem d_X6_everybody_0 : Dc m_X6_everybody 0 (.iconst 1) 1 1 := ⟨by decide +kernel, rfl⟩
theorem d_X6_everybody_1 : Dc m_X6_everybody 1 (.aload_n 0) 1 2 := ⟨by decide +kernel, rfl⟩
theorem d_X6_everybody_2 : Dc m_X6_everybody 2 (.getfield 38) 3 5 := ⟨by decide +kernel, rfl⟩
theorem d_X6_everybody_5 : Dc m_X6_everybody 5 (.ishl) 1 6 := ⟨by decide +kernel, rfl⟩
theorem d_X6_everybody_6 : Dc m_X6_everybody 6 (.iconst 1) 1 7 := ⟨by decide +kernel, rfl⟩
theorem d_X6_everybody_7 : Dc m_X6_everybody 7 (.isub) 1 8 := ⟨by decide +kernel, rfl⟩
theorem d_X6_everybody_8 : Dc m_X6_everybody 8 (.ireturn) 1 9 := ⟨by decide +kernel, rfl⟩
theorem d_X6_hasRead_0 : Dc m_X6_hasRead 0 (.aload_n 0) 1 1 := ⟨by decide +kernel, rfl⟩
theorem d_X6_hasRead_1 : Dc m_X6_hasRead 1 (.getfield 53) 3 4 := ⟨by decide +kernel, rfl⟩
theorem d_X6_hasRead_4 : Dc m_X6_hasRead 4 (.iload_n 1) 1 5 := ⟨by decide +kernel, rfl⟩
theorem d_X6_hasRead_5 : Dc m_X6_hasRead 5 (.ishr) 1 6 := ⟨by decide +kernel, rfl⟩
theorem d_X6_hasRead_6 : Dc m_X6_hasRead 6 (.iconst 1) 1 7 := ⟨by decide +kernel, rfl⟩
theorem d_X6_hasRead_7 : Dc m_X6_hasRead 7 (.iand) 1 8 := ⟨by decide +kernel, rfl⟩
theorem d_X6_hasRead_8 : Dc m_X6_hasRead 8 (.ifCond .eq 7) 3 11 := ⟨by decide +kernel, rfl⟩
theorem d_X6_hasRead_11 : Dc m_X6_hasRead 11 (.iconst 1) 1 12 := ⟨by decide +kernel, rfl⟩
theorem d_X6_hasRead_12 : Dc m_X6_hasRead 12 (.goto 4) 3 15 := ⟨by decide +kernel, rfl⟩
theorem d_X6_hasRead_15 : Dc m_X6_hasRead 15 (.iconst 0) 1 16 := ⟨by decide +kernel, rfl⟩
theorem d_X6_hasRead_16 : Dc m_X6_hasRead 16 (.ireturn) 1 17 := ⟨by decide +kernel, rfl⟩
theorem d_X6_canHave_0 : Dc m_X6_canHave 0 (.aload_n 0) 1 1 := ⟨by decide +kernel, rfl⟩
theorem d_X6_canHave_1 : Dc m_X6_canHave 1 (.iload_n 1) 1 2 := ⟨by decide +kernel, rfl⟩
theorem d_X6_canHave_2 : Dc m_X6_canHave 2 (.invokevirtual 63) 3 5 := ⟨by decide +kernel, rfl⟩
theorem d_X6_canHave_5 : Dc m_X6_canHave 5 (.ifCond .eq 27) 3 8 := ⟨by decide +kernel, rfl⟩
theorem d_X6_canHave_8 : Dc m_X6_canHave 8 (.aload_n 0) 1 9 := ⟨by decide +kernel, rfl⟩
theorem d_X6_canHave_9 : Dc m_X6_canHave 9 (.iload_n 1) 1 10 := ⟨by decide +kernel, rfl⟩
theorem d_X6_canHave_10 : Dc m_X6_canHave 10 (.invokevirtual 67) 3 13 := ⟨by decide +kernel, rfl⟩
theorem d_X6_canHave_13 : Dc m_X6_canHave 13 (.ifCond .ne 19) 3 16 := ⟨by decide +kernel, rfl⟩
theorem d_X6_canHave_16 : Dc m_X6_canHave 16 (.aload_n 0) 1 17 := ⟨by decide +kernel, rfl⟩
theorem d_X6_canHave_17 : Dc m_X6_canHave 17 (.iload_n 1) 1 18 := ⟨by decide +kernel, rfl⟩
theorem d_X6_canHave_18 : Dc m_X6_canHave 18 (.invokevirtual 70) 3 21 := ⟨by decide +kernel, rfl⟩
theorem d_X6_canHave_21 : Dc m_X6_canHave 21 (.aload_n 0) 1 22 := ⟨by decide +kernel, rfl⟩
theorem d_X6_canHave_22 : Dc m_X6_canHave 22 (.getfield 35) 3 25 := ⟨by decide +kernel, rfl⟩
theorem d_X6_canHave_25 : Dc m_X6_canHave 25 (.if_icmp .gt 7) 3 28 := ⟨by decide +kernel, rfl⟩
theorem d_X6_canHave_28 : Dc m_X6_canHave 28 (.iconst 1) 1 29 := ⟨by decide +kernel, rfl⟩
theorem d_X6_canHave_29 : Dc m_X6_canHave 29 (.goto 4) 3 32 := ⟨by decide +kernel, rfl⟩
theorem d_X6_canHave_32 : Dc m_X6_canHave 32 (.iconst 0) 1 33 := ⟨by decide +kernel, rfl⟩
theorem d_X6_canHave_33 : Dc m_X6_canHave 33 (.ireturn) 1 34 := ⟨by decide +kernel, rfl⟩
theorem d_X6_comes_0 : Dc m_X6_comes 0 (.aload_n 0) 1 1 := ⟨by decide +kernel, rfl⟩
theorem d_X6_comes_1 : Dc m_X6_comes 1 (.getfield 50) 3 4 := ⟨by decide +kernel, rfl⟩
theorem d_X6_comes_4 : Dc m_X6_comes 4 (.aload_n 0) 1 5 := ⟨by decide +kernel, rfl⟩
theorem d_X6_comes_5 : Dc m_X6_comes 5 (.getfield 47) 3 8 := ⟨by decide +kernel, rfl⟩
theorem d_X6_comes_8 : Dc m_X6_comes 8 (.aload_n 0) 1 9 := ⟨by decide +kernel, rfl⟩
theorem d_X6_comes_9 : Dc m_X6_comes 9 (.getfield 15) 3 12 := ⟨by decide +kernel, rfl⟩
theorem d_X6_comes_12 : Dc m_X6_comes 12 (.iload_n 1) 1 13 := ⟨by decide +kernel, rfl⟩
theorem d_X6_comes_13 : Dc m_X6_comes 13 (.iaload) 1 14 := ⟨by decide +kernel, rfl⟩
theorem d_X6_comes_14 : Dc m_X6_comes 14 (.isub) 1 15 := ⟨by decide +kernel, rfl⟩
theorem d_X6_comes_15 : Dc m_X6_comes 15 (.invokestatic 74) 3 18 := ⟨by decide +kernel, rfl⟩
theorem d_X6_comes_18 : Dc m_X6_comes 18 (.iadd) 1 19 := ⟨by decide +kernel, rfl⟩
theorem d_X6_comes_19 : Dc m_X6_comes 19 (.ireturn) 1 20 := ⟨by decide +kernel, rfl⟩
theorem d_X6_brings_0 : Dc m_X6_brings 0 (.iconst 0) 1 1 := ⟨by decide +kernel, rfl⟩
theorem d_X6_brings_1 : Dc m_X6_brings 1 (.aload_n 0) 1 2 := ⟨by decide +kernel, rfl⟩
theorem d_X6_brings_2 : Dc m_X6_brings 2 (.getfield 18) 3 5 := ⟨by decide +kernel, rfl⟩
theorem d_X6_brings_5 : Dc m_X6_brings 5 (.iload_n 1) 1 6 := ⟨by decide +kernel, rfl⟩
theorem d_X6_brings_6 : Dc m_X6_brings 6 (.iaload) 1 7 := ⟨by decide +kernel, rfl⟩
theorem d_X6_brings_7 : Dc m_X6_brings 7 (.aload_n 0) 1 8 := ⟨by decide +kernel, rfl⟩
theorem d_X6_brings_8 : Dc m_X6_brings 8 (.iload_n 1) 1 9 := ⟨by decide +kernel, rfl⟩
theorem d_X6_brings_9 : Dc m_X6_brings 9 (.invokevirtual 70) 3 12 := ⟨by decide +kernel, rfl⟩
theorem d_X6_brings_12 : Dc m_X6_brings 12 (.aload_n 0) 1 13 := ⟨by decide +kernel, rfl⟩
theorem d_X6_brings_13 : Dc m_X6_brings 13 (.getfield 21) 3 16 := ⟨by decide +kernel, rfl⟩
theorem d_X6_brings_16 : Dc m_X6_brings 16 (.iload_n 1) 1 17 := ⟨by decide +kernel, rfl⟩
theorem d_X6_brings_17 : Dc m_X6_brings 17 (.iaload) 1 18 := ⟨by decide +kernel, rfl⟩
theorem d_X6_brings_18 : Dc m_X6_brings 18 (.imul) 1 19 := ⟨by decide +kernel, rfl⟩
theorem d_X6_brings_19 : Dc m_X6_brings 19 (.isub) 1 20 := ⟨by decide +kernel, rfl⟩
theorem d_X6_brings_20 : Dc m_X6_brings 20 (.invokestatic 79) 3 23 := ⟨by decide +kernel, rfl⟩
theorem d_X6_brings_23 : Dc m_X6_brings 23 (.istore_n 2) 1 24 := ⟨by decide +kernel, rfl⟩
theorem d_X6_brings_24 : Dc m_X6_brings 24 (.aload_n 0) 1 25 := ⟨by decide +kernel, rfl⟩
theorem d_X6_brings_25 : Dc m_X6_brings 25 (.getfield 9) 3 28 := ⟨by decide +kernel, rfl⟩
theorem d_X6_brings_28 : Dc m_X6_brings 28 (.iload_n 1) 1 29 := ⟨by decide +kernel, rfl⟩
theorem d_X6_brings_29 : Dc m_X6_brings 29 (.iaload) 1 30 := ⟨by decide +kernel, rfl⟩
theorem d_X6_brings_30 : Dc m_X6_brings 30 (.tableswitch 49 1 3 #[26, 28, 41]) 26 56 := ⟨by decide +kernel, rfl⟩
theorem d_X6_brings_56 : Dc m_X6_brings 56 (.iload_n 2) 1 57 := ⟨by decide +kernel, rfl⟩
theorem d_X6_brings_57 : Dc m_X6_brings 57 (.ireturn) 1 58 := ⟨by decide +kernel, rfl⟩
theorem d_X6_brings_58 : Dc m_X6_brings 58 (.aload_n 0) 1 59 := ⟨by decide +kernel, rfl⟩
theorem d_X6_brings_59 : Dc m_X6_brings 59 (.getfield 53) 3 62 := ⟨by decide +kernel, rfl⟩
theorem d_X6_brings_62 : Dc m_X6_brings 62 (.ifCond .ne 7) 3 65 := ⟨by decide +kernel, rfl⟩
theorem d_X6_brings_65 : Dc m_X6_brings 65 (.iload_n 2) 1 66 := ⟨by decide +kernel, rfl⟩
theorem d_X6_brings_66 : Dc m_X6_brings 66 (.goto 4) 3 69 := ⟨by decide +kernel, rfl⟩
theorem d_X6_brings_69 : Dc m_X6_brings 69 (.iconst 0) 1 70 := ⟨by decide +kernel, rfl⟩
theorem d_X6_brings_70 : Dc m_X6_brings 70 (.ireturn) 1 71 := ⟨by decide +kernel, rfl⟩
theorem d_X6_brings_71 : Dc m_X6_brings 71 (.iload_n 2) 1 72 := ⟨by decide +kernel, rfl⟩
theorem d_X6_brings_72 : Dc m_X6_brings 72 (.aload_n 0) 1 73 := ⟨by decide +kernel, rfl⟩
theorem d_X6_brings_73 : Dc m_X6_brings 73 (.iload_n 1) 1 74 := ⟨by decide +kernel, rfl⟩
theorem d_X6_brings_74 : Dc m_X6_brings 74 (.invokevirtual 83) 3 77 := ⟨by decide +kernel, rfl⟩
theorem d_X6_brings_77 : Dc m_X6_brings 77 (.iadd) 1 78 := ⟨by decide +kernel, rfl⟩
theorem d_X6_brings_78 : Dc m_X6_brings 78 (.ireturn) 1 79 := ⟨by decide +kernel, rfl⟩
theorem d_X6_brings_79 : Dc m_X6_brings 79 (.aload_n 0) 1 80 := ⟨by decide +kernel, rfl⟩
theorem d_X6_brings_80 : Dc m_X6_brings 80 (.getfield 18) 3 83 := ⟨by decide +kernel, rfl⟩
theorem d_X6_brings_83 : Dc m_X6_brings 83 (.iload_n 1) 1 84 := ⟨by decide +kernel, rfl⟩
theorem d_X6_brings_84 : Dc m_X6_brings 84 (.iaload) 1 85 := ⟨by decide +kernel, rfl⟩
theorem d_X6_brings_85 : Dc m_X6_brings 85 (.ireturn) 1 86 := ⟨by decide +kernel, rfl⟩
theorem d_X6_neighbours_0 : Dc m_X6_neighbours 0 (.iconst 0) 1 1 := ⟨by decide +kernel, rfl⟩
theorem d_X6_neighbours_1 : Dc m_X6_neighbours 1 (.istore_n 2) 1 2 := ⟨by decide +kernel, rfl⟩
theorem d_X6_neighbours_2 : Dc m_X6_neighbours 2 (.iconst 0) 1 3 := ⟨by decide +kernel, rfl⟩
theorem d_X6_neighbours_3 : Dc m_X6_neighbours 3 (.istore_n 3) 1 4 := ⟨by decide +kernel, rfl⟩
theorem d_X6_neighbours_4 : Dc m_X6_neighbours 4 (.iload_n 3) 1 5 := ⟨by decide +kernel, rfl⟩
theorem d_X6_neighbours_5 : Dc m_X6_neighbours 5 (.aload_n 0) 1 6 := ⟨by decide +kernel, rfl⟩
theorem d_X6_neighbours_6 : Dc m_X6_neighbours 6 (.getfield 38) 3 9 := ⟨by decide +kernel, rfl⟩
theorem d_X6_neighbours_9 : Dc m_X6_neighbours 9 (.if_icmp .ge 32) 3 12 := ⟨by decide +kernel, rfl⟩
theorem d_X6_neighbours_12 : Dc m_X6_neighbours 12 (.iload_n 3) 1 13 := ⟨by decide +kernel, rfl⟩
theorem d_X6_neighbours_13 : Dc m_X6_neighbours 13 (.iload_n 1) 1 14 := ⟨by decide +kernel, rfl⟩
theorem d_X6_neighbours_14 : Dc m_X6_neighbours 14 (.if_icmp .eq 21) 3 17 := ⟨by decide +kernel, rfl⟩
theorem d_X6_neighbours_17 : Dc m_X6_neighbours 17 (.aload_n 0) 1 18 := ⟨by decide +kernel, rfl⟩
theorem d_X6_neighbours_18 : Dc m_X6_neighbours 18 (.getfield 15) 3 21 := ⟨by decide +kernel, rfl⟩
theorem d_X6_neighbours_21 : Dc m_X6_neighbours 21 (.iload_n 3) 1 22 := ⟨by decide +kernel, rfl⟩
theorem d_X6_neighbours_22 : Dc m_X6_neighbours 22 (.iaload) 1 23 := ⟨by decide +kernel, rfl⟩
theorem d_X6_neighbours_23 : Dc m_X6_neighbours 23 (.aload_n 0) 1 24 := ⟨by decide +kernel, rfl⟩
theorem d_X6_neighbours_24 : Dc m_X6_neighbours 24 (.getfield 15) 3 27 := ⟨by decide +kernel, rfl⟩
theorem d_X6_neighbours_27 : Dc m_X6_neighbours 27 (.iload_n 1) 1 28 := ⟨by decide +kernel, rfl⟩
theorem d_X6_neighbours_28 : Dc m_X6_neighbours 28 (.iaload) 1 29 := ⟨by decide +kernel, rfl⟩
theorem d_X6_neighbours_29 : Dc m_X6_neighbours 29 (.if_icmp .ne 6) 3 32 := ⟨by decide +kernel, rfl⟩
theorem d_X6_neighbours_32 : Dc m_X6_neighbours 32 (.iinc 2 1) 3 35 := ⟨by decide +kernel, rfl⟩
theorem d_X6_neighbours_35 : Dc m_X6_neighbours 35 (.iinc 3 1) 3 38 := ⟨by decide +kernel, rfl⟩
theorem d_X6_neighbours_38 : Dc m_X6_neighbours 38 (.goto (-34)) 3 41 := ⟨by decide +kernel, rfl⟩
theorem d_X6_neighbours_41 : Dc m_X6_neighbours 41 (.iload_n 2) 1 42 := ⟨by decide +kernel, rfl⟩
theorem d_X6_neighbours_42 : Dc m_X6_neighbours 42 (.ireturn) 1 43 := ⟨by decide +kernel, rfl⟩
theorem d_X6_hand_0 : Dc m_X6_hand 0 (.aload_n 0) 1 1 := ⟨by decide +kernel, rfl⟩
theorem d_X6_hand_1 : Dc m_X6_hand 1 (.iload_n 1) 1 2 := ⟨by decide +kernel, rfl⟩
theorem d_X6_hand_2 : Dc m_X6_hand 2 (.invokevirtual 86) 3 5 := ⟨by decide +kernel, rfl⟩
theorem d_X6_hand_5 : Dc m_X6_hand 5 (.istore_n 2) 1 6 := ⟨by decide +kernel, rfl⟩
theorem d_X6_hand_6 : Dc m_X6_hand 6 (.aload_n 0) 1 7 := ⟨by decide +kernel, rfl⟩
theorem d_X6_hand_7 : Dc m_X6_hand 7 (.iload_n 1) 1 8 := ⟨by decide +kernel, rfl⟩
theorem d_X6_hand_8 : Dc m_X6_hand 8 (.invokevirtual 70) 3 11 := ⟨by decide +kernel, rfl⟩
theorem d_X6_hand_11 : Dc m_X6_hand 11 (.aload_n 0) 1 12 := ⟨by decide +kernel, rfl⟩
theorem d_X6_hand_12 : Dc m_X6_hand 12 (.getfield 9) 3 15 := ⟨by decide +kernel, rfl⟩
theorem d_X6_hand_15 : Dc m_X6_hand 15 (.iload_n 1) 1 16 := ⟨by decide +kernel, rfl⟩
theorem d_X6_hand_16 : Dc m_X6_hand 16 (.iaload) 1 17 := ⟨by decide +kernel, rfl⟩
theorem d_X6_hand_17 : Dc m_X6_hand 17 (.iconst 5) 1 18 := ⟨by decide +kernel, rfl⟩
theorem d_X6_hand_18 : Dc m_X6_hand 18 (.if_icmp .ne 7) 3 21 := ⟨by decide +kernel, rfl⟩
theorem d_X6_hand_21 : Dc m_X6_hand 21 (.iconst 2) 1 22 := ⟨by decide +kernel, rfl⟩
theorem d_X6_hand_22 : Dc m_X6_hand 22 (.goto 4) 3 25 := ⟨by decide +kernel, rfl⟩
theorem d_X6_hand_25 : Dc m_X6_hand 25 (.iconst 1) 1 26 := ⟨by decide +kernel, rfl⟩
theorem d_X6_hand_26 : Dc m_X6_hand 26 (.iadd) 1 27 := ⟨by decide +kernel, rfl⟩
theorem d_X6_hand_27 : Dc m_X6_hand 27 (.istore_n 3) 1 28 := ⟨by decide +kernel, rfl⟩
theorem d_X6_hand_28 : Dc m_X6_hand 28 (.aload_n 0) 1 29 := ⟨by decide +kernel, rfl⟩
theorem d_X6_hand_29 : Dc m_X6_hand 29 (.aload_n 0) 1 30 := ⟨by decide +kernel, rfl⟩
theorem d_X6_hand_30 : Dc m_X6_hand 30 (.getfield 15) 3 33 := ⟨by decide +kernel, rfl⟩
theorem d_X6_hand_33 : Dc m_X6_hand 33 (.iload_n 1) 1 34 := ⟨by decide +kernel, rfl⟩
theorem d_X6_hand_34 : Dc m_X6_hand 34 (.iaload) 1 35 := ⟨by decide +kernel, rfl⟩
theorem d_X6_hand_35 : Dc m_X6_hand 35 (.iload_n 3) 1 36 := ⟨by decide +kernel, rfl⟩
theorem d_X6_hand_36 : Dc m_X6_hand 36 (.aload_n 0) 1 37 := ⟨by decide +kernel, rfl⟩
theorem d_X6_hand_37 : Dc m_X6_hand 37 (.getfield 53) 3 40 := ⟨by decide +kernel, rfl⟩
theorem d_X6_hand_40 : Dc m_X6_hand 40 (.iconst 1) 1 41 := ⟨by decide +kernel, rfl⟩
theorem d_X6_hand_41 : Dc m_X6_hand 41 (.iload_n 1) 1 42 := ⟨by decide +kernel, rfl⟩
theorem d_X6_hand_42 : Dc m_X6_hand 42 (.ishl) 1 43 := ⟨by decide +kernel, rfl⟩
theorem d_X6_hand_43 : Dc m_X6_hand 43 (.ior) 1 44 := ⟨by decide +kernel, rfl⟩
theorem d_X6_hand_44 : Dc m_X6_hand 44 (.aload_n 0) 1 45 := ⟨by decide +kernel, rfl⟩
theorem d_X6_hand_45 : Dc m_X6_hand 45 (.getfield 56) 3 48 := ⟨by decide +kernel, rfl⟩
theorem d_X6_hand_48 : Dc m_X6_hand 48 (.iload_n 2) 1 49 := ⟨by decide +kernel, rfl⟩
theorem d_X6_hand_49 : Dc m_X6_hand 49 (.iadd) 1 50 := ⟨by decide +kernel, rfl⟩
theorem d_X6_hand_50 : Dc m_X6_hand 50 (.invokevirtual 59) 3 53 := ⟨by decide +kernel, rfl⟩
theorem d_X6_hand_53 : Dc m_X6_hand 53 (.iload_n 2) 1 54 := ⟨by decide +kernel, rfl⟩
theorem d_X6_hand_54 : Dc m_X6_hand 54 (.ireturn) 1 55 := ⟨by decide +kernel, rfl⟩
theorem d_X6_handAlong_0 : Dc m_X6_handAlong 0 (.iconst 0) 1 1 := ⟨by decide +kernel, rfl⟩
theorem d_X6_handAlong_1 : Dc m_X6_handAlong 1 (.istore 4) 2 3 := ⟨by decide +kernel, rfl⟩
theorem d_X6_handAlong_3 : Dc m_X6_handAlong 3 (.iconst 0) 1 4 := ⟨by decide +kernel, rfl⟩
theorem d_X6_handAlong_4 : Dc m_X6_handAlong 4 (.istore 5) 2 6 := ⟨by decide +kernel, rfl⟩
theorem d_X6_handAlong_6 : Dc m_X6_handAlong 6 (.iload 5) 2 8 := ⟨by decide +kernel, rfl⟩
theorem d_X6_handAlong_8 : Dc m_X6_handAlong 8 (.iload_n 3) 1 9 := ⟨by decide +kernel, rfl⟩
theorem d_X6_handAlong_9 : Dc m_X6_handAlong 9 (.if_icmp .ge 40) 3 12 := ⟨by decide +kernel, rfl⟩
theorem d_X6_handAlong_12 : Dc m_X6_handAlong 12 (.aload_n 1) 1 13 := ⟨by decide +kernel, rfl⟩
theorem d_X6_handAlong_13 : Dc m_X6_handAlong 13 (.iload_n 2) 1 14 := ⟨by decide +kernel, rfl⟩
theorem d_X6_handAlong_14 : Dc m_X6_handAlong 14 (.iload 5) 2 16 := ⟨by decide +kernel, rfl⟩
theorem d_X6_handAlong_16 : Dc m_X6_handAlong 16 (.iadd) 1 17 := ⟨by decide +kernel, rfl⟩
theorem d_X6_handAlong_17 : Dc m_X6_handAlong 17 (.iaload) 1 18 := ⟨by decide +kernel, rfl⟩
theorem d_X6_handAlong_18 : Dc m_X6_handAlong 18 (.istore 6) 2 20 := ⟨by decide +kernel, rfl⟩
theorem d_X6_handAlong_20 : Dc m_X6_handAlong 20 (.aload_n 0) 1 21 := ⟨by decide +kernel, rfl⟩
theorem d_X6_handAlong_21 : Dc m_X6_handAlong 21 (.iload 6) 2 23 := ⟨by decide +kernel, rfl⟩
theorem d_X6_handAlong_23 : Dc m_X6_handAlong 23 (.invokevirtual 89) 3 26 := ⟨by decide +kernel, rfl⟩
theorem d_X6_handAlong_26 : Dc m_X6_handAlong 26 (.ifCond .ne 6) 3 29 := ⟨by decide +kernel, rfl⟩
theorem d_X6_handAlong_29 : Dc m_X6_handAlong 29 (.ldc 92) 2 31 := ⟨by decide +kernel, rfl⟩
theorem d_X6_handAlong_31 : Dc m_X6_handAlong 31 (.ireturn) 1 32 := ⟨by decide +kernel, rfl⟩
theorem d_X6_handAlong_32 : Dc m_X6_handAlong 32 (.iload 4) 2 34 := ⟨by decide +kernel, rfl⟩
theorem d_X6_handAlong_34 : Dc m_X6_handAlong 34 (.aload_n 0) 1 35 := ⟨by decide +kernel, rfl⟩
theorem d_X6_handAlong_35 : Dc m_X6_handAlong 35 (.iload 6) 2 37 := ⟨by decide +kernel, rfl⟩
theorem d_X6_handAlong_37 : Dc m_X6_handAlong 37 (.invokevirtual 93) 3 40 := ⟨by decide +kernel, rfl⟩
theorem d_X6_handAlong_40 : Dc m_X6_handAlong 40 (.iadd) 1 41 := ⟨by decide +kernel, rfl⟩
theorem d_X6_handAlong_41 : Dc m_X6_handAlong 41 (.istore 4) 2 43 := ⟨by decide +kernel, rfl⟩
theorem d_X6_handAlong_43 : Dc m_X6_handAlong 43 (.iinc 5 1) 3 46 := ⟨by decide +kernel, rfl⟩
theorem d_X6_handAlong_46 : Dc m_X6_handAlong 46 (.goto (-40)) 3 49 := ⟨by decide +kernel, rfl⟩
theorem d_X6_handAlong_49 : Dc m_X6_handAlong 49 (.iload 4) 2 51 := ⟨by decide +kernel, rfl⟩
theorem d_X6_handAlong_51 : Dc m_X6_handAlong 51 (.ireturn) 1 52 := ⟨by decide +kernel, rfl⟩
theorem d_X6_suppose_0 : Dc m_X6_suppose 0 (.iload_n 2) 1 1 := ⟨by decide +kernel, rfl⟩
theorem d_X6_suppose_1 : Dc m_X6_suppose 1 (.ifCond .ne 13) 3 4 := ⟨by decide +kernel, rfl⟩
theorem d_X6_suppose_4 : Dc m_X6_suppose 4 (.aload_n 0) 1 5 := ⟨by decide +kernel, rfl⟩
theorem d_X6_suppose_5 : Dc m_X6_suppose 5 (.getfield 9) 3 8 := ⟨by decide +kernel, rfl⟩
theorem d_X6_suppose_8 : Dc m_X6_suppose 8 (.iload_n 1) 1 9 := ⟨by decide +kernel, rfl⟩
theorem d_X6_suppose_9 : Dc m_X6_suppose 9 (.iload_n 3) 1 10 := ⟨by decide +kernel, rfl⟩
theorem d_X6_suppose_10 : Dc m_X6_suppose 10 (.iastore) 1 11 := ⟨by decide +kernel, rfl⟩
theorem d_X6_suppose_11 : Dc m_X6_suppose 11 (.goto 25) 3 14 := ⟨by decide +kernel, rfl⟩
theorem d_X6_suppose_14 : Dc m_X6_suppose 14 (.iload_n 2) 1 15 := ⟨by decide +kernel, rfl⟩
theorem d_X6_suppose_15 : Dc m_X6_suppose 15 (.iconst 1) 1 16 := ⟨by decide +kernel, rfl⟩
theorem d_X6_suppose_16 : Dc m_X6_suppose 16 (.if_icmp .ne 13) 3 19 := ⟨by decide +kernel, rfl⟩
theorem d_X6_suppose_19 : Dc m_X6_suppose 19 (.aload_n 0) 1 20 := ⟨by decide +kernel, rfl⟩
theorem d_X6_suppose_20 : Dc m_X6_suppose 20 (.getfield 21) 3 23 := ⟨by decide +kernel, rfl⟩
theorem d_X6_suppose_23 : Dc m_X6_suppose 23 (.iload_n 1) 1 24 := ⟨by decide +kernel, rfl⟩
theorem d_X6_suppose_24 : Dc m_X6_suppose 24 (.iload_n 3) 1 25 := ⟨by decide +kernel, rfl⟩
theorem d_X6_suppose_25 : Dc m_X6_suppose 25 (.iastore) 1 26 := ⟨by decide +kernel, rfl⟩
theorem d_X6_suppose_26 : Dc m_X6_suppose 26 (.goto 10) 3 29 := ⟨by decide +kernel, rfl⟩
theorem d_X6_suppose_29 : Dc m_X6_suppose 29 (.aload_n 0) 1 30 := ⟨by decide +kernel, rfl⟩
theorem d_X6_suppose_30 : Dc m_X6_suppose 30 (.getfield 15) 3 33 := ⟨by decide +kernel, rfl⟩
theorem d_X6_suppose_33 : Dc m_X6_suppose 33 (.iload_n 1) 1 34 := ⟨by decide +kernel, rfl⟩
theorem d_X6_suppose_34 : Dc m_X6_suppose 34 (.iload_n 3) 1 35 := ⟨by decide +kernel, rfl⟩
theorem d_X6_suppose_35 : Dc m_X6_suppose 35 (.iastore) 1 36 := ⟨by decide +kernel, rfl⟩
theorem d_X6_suppose_36 : Dc m_X6_suppose 36 (.return_) 1 37 := ⟨by decide +kernel, rfl⟩
theorem d_X7_row_0 : Dc m_X7_row 0 (.iload_n 1) 1 1 := ⟨by decide +kernel, rfl⟩
theorem d_X7_row_1 : Dc m_X7_row 1 (.invokestatic 67) 3 4 := ⟨by decide +kernel, rfl⟩
theorem d_X7_row_4 : Dc m_X7_row 4 (.ifCond .eq 18) 3 7 := ⟨by decide +kernel, rfl⟩
theorem d_X7_row_7 : Dc m_X7_row 7 (.iload_n 2) 1 8 := ⟨by decide +kernel, rfl⟩
theorem d_X7_row_8 : Dc m_X7_row 8 (.ifCond .lt 14) 3 11 := ⟨by decide +kernel, rfl⟩
theorem d_X7_row_11 : Dc m_X7_row 11 (.iload_n 2) 1 12 := ⟨by decide +kernel, rfl⟩
theorem d_X7_row_12 : Dc m_X7_row 12 (.iconst 3) 1 13 := ⟨by decide +kernel, rfl⟩
theorem d_X7_row_13 : Dc m_X7_row 13 (.if_icmp .ge 9) 3 16 := ⟨by decide +kernel, rfl⟩
theorem d_X7_row_16 : Dc m_X7_row 16 (.iload_n 3) 1 17 := ⟨by decide +kernel, rfl⟩
theorem d_X7_row_17 : Dc m_X7_row 17 (.bipush 40) 2 19 := ⟨by decide +kernel, rfl⟩
theorem d_X7_row_19 : Dc m_X7_row 19 (.if_icmp .le 6) 3 22 := ⟨by decide +kernel, rfl⟩
theorem d_X7_row_22 : Dc m_X7_row 22 (.ldc 71) 2 24 := ⟨by decide +kernel, rfl⟩
theorem d_X7_row_24 : Dc m_X7_row 24 (.ireturn) 1 25 := ⟨by decide +kernel, rfl⟩
theorem d_X7_row_25 : Dc m_X7_row 25 (.iload_n 3) 1 26 := ⟨by decide +kernel, rfl⟩
theorem d_X7_row_26 : Dc m_X7_row 26 (.ifCond .ge 9) 3 29 := ⟨by decide +kernel, rfl⟩
theorem d_X7_row_29 : Dc m_X7_row 29 (.aload_n 0) 1 30 := ⟨by decide +kernel, rfl⟩
theorem d_X7_row_30 : Dc m_X7_row 30 (.iconst 4) 1 31 := ⟨by decide +kernel, rfl⟩
theorem d_X7_row_31 : Dc m_X7_row 31 (.invokevirtual 72) 3 34 := ⟨by decide +kernel, rfl⟩
theorem d_X7_row_34 : Dc m_X7_row 34 (.ireturn) 1 35 := ⟨by decide +kernel, rfl⟩
theorem d_X7_row_35 : Dc m_X7_row 35 (.aload_n 0) 1 36 := ⟨by decide +kernel, rfl⟩
theorem d_X7_row_36 : Dc m_X7_row 36 (.getfield 10) 3 39 := ⟨by decide +kernel, rfl⟩
theorem d_X7_row_39 : Dc m_X7_row 39 (.iload_n 1) 1 40 := ⟨by decide +kernel, rfl⟩
theorem d_X7_row_40 : Dc m_X7_row 40 (.iload_n 2) 1 41 := ⟨by decide +kernel, rfl⟩
theorem d_X7_row_41 : Dc m_X7_row 41 (.iload_n 3) 1 42 := ⟨by decide +kernel, rfl⟩
theorem d_X7_row_42 : Dc m_X7_row 42 (.invokevirtual 76) 3 45 := ⟨by decide +kernel, rfl⟩
theorem d_X7_row_45 : Dc m_X7_row 45 (.aload_n 0) 1 46 := ⟨by decide +kernel, rfl⟩
theorem d_X7_row_46 : Dc m_X7_row 46 (.iload_n 3) 1 47 := ⟨by decide +kernel, rfl⟩
theorem d_X7_row_47 : Dc m_X7_row 47 (.invokevirtual 80) 3 50 := ⟨by decide +kernel, rfl⟩
theorem d_X7_row_50 : Dc m_X7_row 50 (.ireturn) 1 51 := ⟨by decide +kernel, rfl⟩
theorem d_X7_set_0 : Dc m_X7_set 0 (.iload_n 1) 1 1 := ⟨by decide +kernel, rfl⟩
theorem d_X7_set_1 : Dc m_X7_set 1 (.invokestatic 67) 3 4 := ⟨by decide +kernel, rfl⟩
theorem d_X7_set_4 : Dc m_X7_set 4 (.ifCond .ne 6) 3 7 := ⟨by decide +kernel, rfl⟩
theorem d_X7_set_7 : Dc m_X7_set 7 (.ldc 71) 2 9 := ⟨by decide +kernel, rfl⟩
theorem d_X7_set_9 : Dc m_X7_set 9 (.ireturn) 1 10 := ⟨by decide +kernel, rfl⟩
theorem d_X7_set_10 : Dc m_X7_set 10 (.aload_n 0) 1 11 := ⟨by decide +kernel, rfl⟩
theorem d_X7_set_11 : Dc m_X7_set 11 (.getfield 10) 3 14 := ⟨by decide +kernel, rfl⟩
theorem d_X7_set_14 : Dc m_X7_set 14 (.iload_n 1) 1 15 := ⟨by decide +kernel, rfl⟩
theorem d_X7_set_15 : Dc m_X7_set 15 (.iload_n 2) 1 16 := ⟨by decide +kernel, rfl⟩
theorem d_X7_set_16 : Dc m_X7_set 16 (.iconst 1) 1 17 := ⟨by decide +kernel, rfl⟩
theorem d_X7_set_17 : Dc m_X7_set 17 (.invokevirtual 83) 3 20 := ⟨by decide +kernel, rfl⟩
theorem d_X7_set_20 : Dc m_X7_set 20 (.istore 4) 2 22 := ⟨by decide +kernel, rfl⟩
theorem d_X7_set_22 : Dc m_X7_set 22 (.iload 4) 2 24 := ⟨by decide +kernel, rfl⟩
theorem d_X7_set_24 : Dc m_X7_set 24 (.ifCond .eq 10) 3 27 := ⟨by decide +kernel, rfl⟩
theorem d_X7_set_27 : Dc m_X7_set 27 (.aload_n 0) 1 28 := ⟨by decide +kernel, rfl⟩
theorem d_X7_set_28 : Dc m_X7_set 28 (.iload 4) 2 30 := ⟨by decide +kernel, rfl⟩
theorem d_X7_set_30 : Dc m_X7_set 30 (.invokevirtual 72) 3 33 := ⟨by decide +kernel, rfl⟩
theorem d_X7_set_33 : Dc m_X7_set 33 (.ireturn) 1 34 := ⟨by decide +kernel, rfl⟩
theorem d_X7_set_34 : Dc m_X7_set 34 (.aload_n 0) 1 35 := ⟨by decide +kernel, rfl⟩
theorem d_X7_set_35 : Dc m_X7_set 35 (.aload_n 0) 1 36 := ⟨by decide +kernel, rfl⟩
theorem d_X7_set_36 : Dc m_X7_set 36 (.getfield 10) 3 39 := ⟨by decide +kernel, rfl⟩
theorem d_X7_set_39 : Dc m_X7_set 39 (.iload_n 1) 1 40 := ⟨by decide +kernel, rfl⟩
theorem d_X7_set_40 : Dc m_X7_set 40 (.iload_n 2) 1 41 := ⟨by decide +kernel, rfl⟩
theorem d_X7_set_41 : Dc m_X7_set 41 (.iload_n 3) 1 42 := ⟨by decide +kernel, rfl⟩
theorem d_X7_set_42 : Dc m_X7_set 42 (.invokevirtual 87) 3 45 := ⟨by decide +kernel, rfl⟩
theorem d_X7_set_45 : Dc m_X7_set 45 (.invokevirtual 80) 3 48 := ⟨by decide +kernel, rfl⟩
theorem d_X7_set_48 : Dc m_X7_set 48 (.ireturn) 1 49 := ⟨by decide +kernel, rfl⟩
theorem d_X7_copy_0 : Dc m_X7_copy 0 (.iload_n 1) 1 1 := ⟨by decide +kernel, rfl⟩
theorem d_X7_copy_1 : Dc m_X7_copy 1 (.invokestatic 67) 3 4 := ⟨by decide +kernel, rfl⟩
theorem d_X7_copy_4 : Dc m_X7_copy 4 (.ifCond .eq 10) 3 7 := ⟨by decide +kernel, rfl⟩
theorem d_X7_copy_7 : Dc m_X7_copy 7 (.iload_n 3) 1 8 := ⟨by decide +kernel, rfl⟩
theorem d_X7_copy_8 : Dc m_X7_copy 8 (.invokestatic 67) 3 11 := ⟨by decide +kernel, rfl⟩
theorem d_X7_copy_11 : Dc m_X7_copy 11 (.ifCond .ne 6) 3 14 := ⟨by decide +kernel, rfl⟩
theorem d_X7_copy_14 : Dc m_X7_copy 14 (.ldc 71) 2 16 := ⟨by decide +kernel, rfl⟩
theorem d_X7_copy_16 : Dc m_X7_copy 16 (.ireturn) 1 17 := ⟨by decide +kernel, rfl⟩
theorem d_X7_copy_17 : Dc m_X7_copy 17 (.aload_n 0) 1 18 := ⟨by decide +kernel, rfl⟩
theorem d_X7_copy_18 : Dc m_X7_copy 18 (.getfield 10) 3 21 := ⟨by decide +kernel, rfl⟩
theorem d_X7_copy_21 : Dc m_X7_copy 21 (.iload_n 1) 1 22 := ⟨by decide +kernel, rfl⟩
theorem d_X7_copy_22 : Dc m_X7_copy 22 (.invokevirtual 90) 3 25 := ⟨by decide +kernel, rfl⟩
theorem d_X7_copy_25 : Dc m_X7_copy 25 (.ifCond .ne 14) 3 28 := ⟨by decide +kernel, rfl⟩
theorem d_X7_copy_28 : Dc m_X7_copy 28 (.aload_n 0) 1 29 := ⟨by decide +kernel, rfl⟩
theorem d_X7_copy_29 : Dc m_X7_copy 29 (.getfield 10) 3 32 := ⟨by decide +kernel, rfl⟩
theorem d_X7_copy_32 : Dc m_X7_copy 32 (.iload_n 3) 1 33 := ⟨by decide +kernel, rfl⟩
theorem d_X7_copy_33 : Dc m_X7_copy 33 (.invokevirtual 90) 3 36 := ⟨by decide +kernel, rfl⟩
theorem d_X7_copy_36 : Dc m_X7_copy 36 (.ifCond .eq 9) 3 39 := ⟨by decide +kernel, rfl⟩
theorem d_X7_copy_39 : Dc m_X7_copy 39 (.aload_n 0) 1 40 := ⟨by decide +kernel, rfl⟩
theorem d_X7_copy_40 : Dc m_X7_copy 40 (.iconst 1) 1 41 := ⟨by decide +kernel, rfl⟩
theorem d_X7_copy_41 : Dc m_X7_copy 41 (.invokevirtual 72) 3 44 := ⟨by decide +kernel, rfl⟩
theorem d_X7_copy_44 : Dc m_X7_copy 44 (.ireturn) 1 45 := ⟨by decide +kernel, rfl⟩
theorem d_X7_copy_45 : Dc m_X7_copy 45 (.aload_n 0) 1 46 := ⟨by decide +kernel, rfl⟩
theorem d_X7_copy_46 : Dc m_X7_copy 46 (.getfield 10) 3 49 := ⟨by decide +kernel, rfl⟩
theorem d_X7_copy_49 : Dc m_X7_copy 49 (.getfield 93) 3 52 := ⟨by decide +kernel, rfl⟩
theorem d_X7_copy_52 : Dc m_X7_copy 52 (.iload_n 1) 1 53 := ⟨by decide +kernel, rfl⟩
theorem d_X7_copy_53 : Dc m_X7_copy 53 (.iaload) 1 54 := ⟨by decide +kernel, rfl⟩
theorem d_X7_copy_54 : Dc m_X7_copy 54 (.aload_n 0) 1 55 := ⟨by decide +kernel, rfl⟩
theorem d_X7_copy_55 : Dc m_X7_copy 55 (.getfield 10) 3 58 := ⟨by decide +kernel, rfl⟩
theorem d_X7_copy_58 : Dc m_X7_copy 58 (.getfield 93) 3 61 := ⟨by decide +kernel, rfl⟩
theorem d_X7_copy_61 : Dc m_X7_copy 61 (.iload_n 3) 1 62 := ⟨by decide +kernel, rfl⟩
theorem d_X7_copy_62 : Dc m_X7_copy 62 (.iaload) 1 63 := ⟨by decide +kernel, rfl⟩
theorem d_X7_copy_63 : Dc m_X7_copy 63 (.if_icmp .eq 9) 3 66 := ⟨by decide +kernel, rfl⟩
theorem d_X7_copy_66 : Dc m_X7_copy 66 (.aload_n 0) 1 67 := ⟨by decide +kernel, rfl⟩
theorem d_X7_copy_67 : Dc m_X7_copy 67 (.iconst 5) 1 68 := ⟨by decide +kernel, rfl⟩
theorem d_X7_copy_68 : Dc m_X7_copy 68 (.invokevirtual 72) 3 71 := ⟨by decide +kernel, rfl⟩
theorem d_X7_copy_71 : Dc m_X7_copy 71 (.ireturn) 1 72 := ⟨by decide +kernel, rfl⟩
theorem d_X7_copy_72 : Dc m_X7_copy 72 (.aload_n 0) 1 73 := ⟨by decide +kernel, rfl⟩
theorem d_X7_copy_73 : Dc m_X7_copy 73 (.getfield 10) 3 76 := ⟨by decide +kernel, rfl⟩
theorem d_X7_copy_76 : Dc m_X7_copy 76 (.iload_n 1) 1 77 := ⟨by decide +kernel, rfl⟩
theorem d_X7_copy_77 : Dc m_X7_copy 77 (.iload_n 2) 1 78 := ⟨by decide +kernel, rfl⟩
theorem d_X7_copy_78 : Dc m_X7_copy 78 (.iload 5) 2 80 := ⟨by decide +kernel, rfl⟩
theorem d_X7_copy_80 : Dc m_X7_copy 80 (.invokevirtual 97) 3 83 := ⟨by decide +kernel, rfl⟩
theorem d_X7_copy_83 : Dc m_X7_copy 83 (.ifCond .eq 18) 3 86 := ⟨by decide +kernel, rfl⟩
theorem d_X7_copy_86 : Dc m_X7_copy 86 (.aload_n 0) 1 87 := ⟨by decide +kernel, rfl⟩
theorem d_X7_copy_87 : Dc m_X7_copy 87 (.getfield 10) 3 90 := ⟨by decide +kernel, rfl⟩
theorem d_X7_copy_90 : Dc m_X7_copy 90 (.iload_n 3) 1 91 := ⟨by decide +kernel, rfl⟩
theorem d_X7_copy_91 : Dc m_X7_copy 91 (.iload 4) 2 93 := ⟨by decide +kernel, rfl⟩
theorem d_X7_copy_93 : Dc m_X7_copy 93 (.iload 5) 2 95 := ⟨by decide +kernel, rfl⟩
theorem d_X7_copy_95 : Dc m_X7_copy 95 (.invokevirtual 97) 3 98 := ⟨by decide +kernel, rfl⟩
theorem d_X7_copy_98 : Dc m_X7_copy 98 (.ifCond .ne 9) 3 101 := ⟨by decide +kernel, rfl⟩
theorem d_X7_copy_101 : Dc m_X7_copy 101 (.aload_n 0) 1 102 := ⟨by decide +kernel, rfl⟩
theorem d_X7_copy_102 : Dc m_X7_copy 102 (.iconst 2) 1 103 := ⟨by decide +kernel, rfl⟩
theorem d_X7_copy_103 : Dc m_X7_copy 103 (.invokevirtual 72) 3 106 := ⟨by decide +kernel, rfl⟩
theorem d_X7_copy_106 : Dc m_X7_copy 106 (.ireturn) 1 107 := ⟨by decide +kernel, rfl⟩
theorem d_X7_copy_107 : Dc m_X7_copy 107 (.aload_n 0) 1 108 := ⟨by decide +kernel, rfl⟩
theorem d_X7_copy_108 : Dc m_X7_copy 108 (.getfield 10) 3 111 := ⟨by decide +kernel, rfl⟩
theorem d_X7_copy_111 : Dc m_X7_copy 111 (.getfield 101) 3 114 := ⟨by decide +kernel, rfl⟩
theorem d_X7_copy_114 : Dc m_X7_copy 114 (.iload_n 1) 1 115 := ⟨by decide +kernel, rfl⟩
theorem d_X7_copy_115 : Dc m_X7_copy 115 (.aaload) 1 116 := ⟨by decide +kernel, rfl⟩
theorem d_X7_copy_116 : Dc m_X7_copy 116 (.iload_n 2) 1 117 := ⟨by decide +kernel, rfl⟩
theorem d_X7_copy_117 : Dc m_X7_copy 117 (.aload_n 0) 1 118 := ⟨by decide +kernel, rfl⟩
theorem d_X7_copy_118 : Dc m_X7_copy 118 (.getfield 10) 3 121 := ⟨by decide +kernel, rfl⟩
theorem d_X7_copy_121 : Dc m_X7_copy 121 (.getfield 101) 3 124 := ⟨by decide +kernel, rfl⟩
theorem d_X7_copy_124 : Dc m_X7_copy 124 (.iload_n 3) 1 125 := ⟨by decide +kernel, rfl⟩
theorem d_X7_copy_125 : Dc m_X7_copy 125 (.aaload) 1 126 := ⟨by decide +kernel, rfl⟩
theorem d_X7_copy_126 : Dc m_X7_copy 126 (.iload 4) 2 128 := ⟨by decide +kernel, rfl⟩
theorem d_X7_copy_128 : Dc m_X7_copy 128 (.iload 5) 2 130 := ⟨by decide +kernel, rfl⟩
theorem d_X7_copy_130 : Dc m_X7_copy 130 (.invokestatic 105) 3 133 := ⟨by decide +kernel, rfl⟩
theorem d_X7_copy_133 : Dc m_X7_copy 133 (.aload_n 0) 1 134 := ⟨by decide +kernel, rfl⟩
theorem d_X7_copy_134 : Dc m_X7_copy 134 (.iload 5) 2 136 := ⟨by decide +kernel, rfl⟩
theorem d_X7_copy_136 : Dc m_X7_copy 136 (.invokevirtual 80) 3 139 := ⟨by decide +kernel, rfl⟩
theorem d_X7_copy_139 : Dc m_X7_copy 139 (.ireturn) 1 140 := ⟨by decide +kernel, rfl⟩
theorem d_X7_drop_0 : Dc m_X7_drop 0 (.iload_n 1) 1 1 := ⟨by decide +kernel, rfl⟩
theorem d_X7_drop_1 : Dc m_X7_drop 1 (.invokestatic 67) 3 4 := ⟨by decide +kernel, rfl⟩
theorem d_X7_drop_4 : Dc m_X7_drop 4 (.ifCond .ne 6) 3 7 := ⟨by decide +kernel, rfl⟩
theorem d_X7_drop_7 : Dc m_X7_drop 7 (.ldc 71) 2 9 := ⟨by decide +kernel, rfl⟩
theorem d_X7_drop_9 : Dc m_X7_drop 9 (.ireturn) 1 10 := ⟨by decide +kernel, rfl⟩
theorem d_X7_drop_10 : Dc m_X7_drop 10 (.aload_n 0) 1 11 := ⟨by decide +kernel, rfl⟩
theorem d_X7_drop_11 : Dc m_X7_drop 11 (.getfield 10) 3 14 := ⟨by decide +kernel, rfl⟩
theorem d_X7_drop_14 : Dc m_X7_drop 14 (.iload_n 1) 1 15 := ⟨by decide +kernel, rfl⟩
theorem d_X7_drop_15 : Dc m_X7_drop 15 (.invokevirtual 90) 3 18 := ⟨by decide +kernel, rfl⟩
theorem d_X7_drop_18 : Dc m_X7_drop 18 (.ifCond .eq 9) 3 21 := ⟨by decide +kernel, rfl⟩
theorem d_X7_drop_21 : Dc m_X7_drop 21 (.aload_n 0) 1 22 := ⟨by decide +kernel, rfl⟩
theorem d_X7_drop_22 : Dc m_X7_drop 22 (.iconst 1) 1 23 := ⟨by decide +kernel, rfl⟩
theorem d_X7_drop_23 : Dc m_X7_drop 23 (.invokevirtual 72) 3 26 := ⟨by decide +kernel, rfl⟩
theorem d_X7_drop_26 : Dc m_X7_drop 26 (.ireturn) 1 27 := ⟨by decide +kernel, rfl⟩
theorem d_X7_drop_27 : Dc m_X7_drop 27 (.aload_n 0) 1 28 := ⟨by decide +kernel, rfl⟩
theorem d_X7_drop_28 : Dc m_X7_drop 28 (.aload_n 0) 1 29 := ⟨by decide +kernel, rfl⟩
theorem d_X7_drop_29 : Dc m_X7_drop 29 (.getfield 10) 3 32 := ⟨by decide +kernel, rfl⟩
theorem d_X7_drop_32 : Dc m_X7_drop 32 (.iload_n 1) 1 33 := ⟨by decide +kernel, rfl⟩
theorem d_X7_drop_33 : Dc m_X7_drop 33 (.invokevirtual 111) 3 36 := ⟨by decide +kernel, rfl⟩
theorem d_X7_drop_36 : Dc m_X7_drop 36 (.invokevirtual 80) 3 39 := ⟨by decide +kernel, rfl⟩
theorem d_X7_drop_39 : Dc m_X7_drop 39 (.ireturn) 1 40 := ⟨by decide +kernel, rfl⟩
theorem d_X7_feed_0 : Dc m_X7_feed 0 (.iload_n 1) 1 1 := ⟨by decide +kernel, rfl⟩
theorem d_X7_feed_1 : Dc m_X7_feed 1 (.ifCond .lt 10) 3 4 := ⟨by decide +kernel, rfl⟩
theorem d_X7_feed_4 : Dc m_X7_feed 4 (.iload_n 1) 1 5 := ⟨by decide +kernel, rfl⟩
theorem d_X7_feed_5 : Dc m_X7_feed 5 (.sipush 255) 3 8 := ⟨by decide +kernel, rfl⟩
theorem d_X7_feed_8 : Dc m_X7_feed 8 (.if_icmp .le 6) 3 11 := ⟨by decide +kernel, rfl⟩
theorem d_X7_feed_11 : Dc m_X7_feed 11 (.ldc 71) 2 13 := ⟨by decide +kernel, rfl⟩
theorem d_X7_feed_13 : Dc m_X7_feed 13 (.ireturn) 1 14 := ⟨by decide +kernel, rfl⟩
theorem d_X7_feed_14 : Dc m_X7_feed 14 (.aload_n 0) 1 15 := ⟨by decide +kernel, rfl⟩
theorem d_X7_feed_15 : Dc m_X7_feed 15 (.getfield 19) 3 18 := ⟨by decide +kernel, rfl⟩
theorem d_X7_feed_18 : Dc m_X7_feed 18 (.iload_n 1) 1 19 := ⟨by decide +kernel, rfl⟩
theorem d_X7_feed_19 : Dc m_X7_feed 19 (.invokevirtual 114) 3 22 := ⟨by decide +kernel, rfl⟩
theorem d_X7_feed_22 : Dc m_X7_feed 22 (.ifCond .eq 13) 3 25 := ⟨by decide +kernel, rfl⟩
theorem d_X7_feed_25 : Dc m_X7_feed 25 (.aload_n 0) 1 26 := ⟨by decide +kernel, rfl⟩
theorem d_X7_feed_26 : Dc m_X7_feed 26 (.getfield 19) 3 29 := ⟨by decide +kernel, rfl⟩
theorem d_X7_feed_29 : Dc m_X7_feed 29 (.getfield 117) 3 32 := ⟨by decide +kernel, rfl⟩
theorem d_X7_feed_32 : Dc m_X7_feed 32 (.goto 5) 3 35 := ⟨by decide +kernel, rfl⟩
theorem d_X7_feed_35 : Dc m_X7_feed 35 (.ldc 121) 2 37 := ⟨by decide +kernel, rfl⟩
theorem d_X7_feed_37 : Dc m_X7_feed 37 (.ireturn) 1 38 := ⟨by decide +kernel, rfl⟩
theorem d_X7_town_0 : Dc m_X7_town 0 (.aload_n 0) 1 1 := ⟨by decide +kernel, rfl⟩
theorem d_X7_town_1 : Dc m_X7_town 1 (.getfield 19) 3 4 := ⟨by decide +kernel, rfl⟩
theorem d_X7_town_4 : Dc m_X7_town 4 (.aload_n 0) 1 5 := ⟨by decide +kernel, rfl⟩
theorem d_X7_town_5 : Dc m_X7_town 5 (.getfield 30) 3 8 := ⟨by decide +kernel, rfl⟩
theorem d_X7_town_8 : Dc m_X7_town 8 (.invokevirtual 122) 3 11 := ⟨by decide +kernel, rfl⟩
theorem d_X7_town_11 : Dc m_X7_town 11 (.istore_n 1) 1 12 := ⟨by decide +kernel, rfl⟩
theorem d_X7_town_12 : Dc m_X7_town 12 (.aload_n 0) 1 13 := ⟨by decide +kernel, rfl⟩
theorem d_X7_town_13 : Dc m_X7_town 13 (.getfield 19) 3 16 := ⟨by decide +kernel, rfl⟩
theorem d_X7_town_16 : Dc m_X7_town 16 (.iconst 0) 1 17 := ⟨by decide +kernel, rfl⟩
theorem d_X7_town_17 : Dc m_X7_town 17 (.putfield 117) 3 20 := ⟨by decide +kernel, rfl⟩
theorem d_X7_town_20 : Dc m_X7_town 20 (.iload_n 1) 1 21 := ⟨by decide +kernel, rfl⟩
theorem d_X7_town_21 : Dc m_X7_town 21 (.ifCond .ne 14) 3 24 := ⟨by decide +kernel, rfl⟩
theorem d_X7_town_24 : Dc m_X7_town 24 (.ldc 126) 2 26 := ⟨by decide +kernel, rfl⟩
theorem d_X7_town_26 : Dc m_X7_town 26 (.aload_n 0) 1 27 := ⟨by decide +kernel, rfl⟩
theorem d_X7_town_27 : Dc m_X7_town 27 (.getfield 19) 3 30 := ⟨by decide +kernel, rfl⟩
theorem d_X7_town_30 : Dc m_X7_town 30 (.getfield 127) 3 33 := ⟨by decide +kernel, rfl⟩
theorem d_X7_town_33 : Dc m_X7_town 33 (.isub) 1 34 := ⟨by decide +kernel, rfl⟩
theorem d_X7_town_34 : Dc m_X7_town 34 (.ireturn) 1 35 := ⟨by decide +kernel, rfl⟩
theorem d_X7_town_35 : Dc m_X7_town 35 (.aload_n 0) 1 36 := ⟨by decide +kernel, rfl⟩
theorem d_X7_town_36 : Dc m_X7_town 36 (.getfield 30) 3 39 := ⟨by decide +kernel, rfl⟩
theorem d_X7_town_39 : Dc m_X7_town 39 (.iconst 1) 1 40 := ⟨by decide +kernel, rfl⟩
theorem d_X7_town_40 : Dc m_X7_town 40 (.putfield 130) 3 43 := ⟨by decide +kernel, rfl⟩
theorem d_X7_town_43 : Dc m_X7_town 43 (.aload_n 0) 1 44 := ⟨by decide +kernel, rfl⟩
theorem d_X7_town_44 : Dc m_X7_town 44 (.getfield 30) 3 47 := ⟨by decide +kernel, rfl⟩
theorem d_X7_town_47 : Dc m_X7_town 47 (.invokevirtual 134) 3 50 := ⟨by decide +kernel, rfl⟩
theorem d_X7_town_50 : Dc m_X7_town 50 (.aload_n 0) 1 51 := ⟨by decide +kernel, rfl⟩
theorem d_X7_town_51 : Dc m_X7_town 51 (.getfield 26) 3 54 := ⟨by decide +kernel, rfl⟩
theorem d_X7_town_54 : Dc m_X7_town 54 (.aload_n 0) 1 55 := ⟨by decide +kernel, rfl⟩
theorem d_X7_town_55 : Dc m_X7_town 55 (.getfield 30) 3 58 := ⟨by decide +kernel, rfl⟩
theorem d_X7_town_58 : Dc m_X7_town 58 (.invokevirtual 137) 3 61 := ⟨by decide +kernel, rfl⟩
theorem d_X7_town_61 : Dc m_X7_town 61 (.aload_n 0) 1 62 := ⟨by decide +kernel, rfl⟩
theorem d_X7_town_62 : Dc m_X7_town 62 (.getfield 42) 3 65 := ⟨by decide +kernel, rfl⟩
theorem d_X7_town_65 : Dc m_X7_town 65 (.invokevirtual 141) 3 68 := ⟨by decide +kernel, rfl⟩
theorem d_X7_town_68 : Dc m_X7_town 68 (.aload_n 0) 1 69 := ⟨by decide +kernel, rfl⟩
theorem d_X7_town_69 : Dc m_X7_town 69 (.getfield 26) 3 72 := ⟨by decide +kernel, rfl⟩
theorem d_X7_town_72 : Dc m_X7_town 72 (.getfield 144) 3 75 := ⟨by decide +kernel, rfl⟩
theorem d_X7_town_75 : Dc m_X7_town 75 (.ireturn) 1 76 := ⟨by decide +kernel, rfl⟩
theorem d_X7_fault_0 : Dc m_X7_fault 0 (.aload_n 0) 1 1 := ⟨by decide +kernel, rfl⟩
theorem d_X7_fault_1 : Dc m_X7_fault 1 (.getfield 19) 3 4 := ⟨by decide +kernel, rfl⟩
theorem d_X7_fault_4 : Dc m_X7_fault 4 (.getfield 147) 3 7 := ⟨by decide +kernel, rfl⟩
theorem d_X7_fault_7 : Dc m_X7_fault 7 (.ireturn) 1 8 := ⟨by decide +kernel, rfl⟩
theorem d_X7_give_0 : Dc m_X7_give 0 (.aload_n 0) 1 1 := ⟨by decide +kernel, rfl⟩
theorem d_X7_give_1 : Dc m_X7_give 1 (.getfield 26) 3 4 := ⟨by decide +kernel, rfl⟩
theorem d_X7_give_4 : Dc m_X7_give 4 (.iload_n 1) 1 5 := ⟨by decide +kernel, rfl⟩
theorem d_X7_give_5 : Dc m_X7_give 5 (.invokevirtual 150) 3 8 := ⟨by decide +kernel, rfl⟩
theorem d_X7_give_8 : Dc m_X7_give 8 (.ifCond .ne 6) 3 11 := ⟨by decide +kernel, rfl⟩
theorem d_X7_give_11 : Dc m_X7_give 11 (.ldc 71) 2 13 := ⟨by decide +kernel, rfl⟩
theorem d_X7_give_13 : Dc m_X7_give 13 (.ireturn) 1 14 := ⟨by decide +kernel, rfl⟩
theorem d_X7_give_14 : Dc m_X7_give 14 (.aload_n 0) 1 15 := ⟨by decide +kernel, rfl⟩
theorem d_X7_give_15 : Dc m_X7_give 15 (.getfield 26) 3 18 := ⟨by decide +kernel, rfl⟩
theorem d_X7_give_18 : Dc m_X7_give 18 (.iload_n 1) 1 19 := ⟨by decide +kernel, rfl⟩
theorem d_X7_give_19 : Dc m_X7_give 19 (.invokevirtual 153) 3 22 := ⟨by decide +kernel, rfl⟩
theorem d_X7_give_22 : Dc m_X7_give 22 (.ifCond .ne 6) 3 25 := ⟨by decide +kernel, rfl⟩
theorem d_X7_give_25 : Dc m_X7_give 25 (.ldc 156) 2 27 := ⟨by decide +kernel, rfl⟩
theorem d_X7_give_27 : Dc m_X7_give 27 (.ireturn) 1 28 := ⟨by decide +kernel, rfl⟩
theorem d_X7_give_28 : Dc m_X7_give 28 (.aload_n 0) 1 29 := ⟨by decide +kernel, rfl⟩
theorem d_X7_give_29 : Dc m_X7_give 29 (.getfield 42) 3 32 := ⟨by decide +kernel, rfl⟩
theorem d_X7_give_32 : Dc m_X7_give 32 (.aload_n 0) 1 33 := ⟨by decide +kernel, rfl⟩
theorem d_X7_give_33 : Dc m_X7_give 33 (.getfield 26) 3 36 := ⟨by decide +kernel, rfl⟩
theorem d_X7_give_36 : Dc m_X7_give 36 (.iload_n 1) 1 37 := ⟨by decide +kernel, rfl⟩
theorem d_X7_give_37 : Dc m_X7_give 37 (.invokevirtual 157) 3 40 := ⟨by decide +kernel, rfl⟩
theorem d_X7_give_40 : Dc m_X7_give 40 (.aload_n 0) 1 41 := ⟨by decide +kernel, rfl⟩
theorem d_X7_give_41 : Dc m_X7_give 41 (.getfield 26) 3 44 := ⟨by decide +kernel, rfl⟩
theorem d_X7_give_44 : Dc m_X7_give 44 (.iload_n 1) 1 45 := ⟨by decide +kernel, rfl⟩
theorem d_X7_give_45 : Dc m_X7_give 45 (.invokevirtual 161) 3 48 := ⟨by decide +kernel, rfl⟩
theorem d_X7_give_48 : Dc m_X7_give 48 (.ireturn) 1 49 := ⟨by decide +kernel, rfl⟩
theorem d_X7_pause_0 : Dc m_X7_pause 0 (.aload_n 0) 1 1 := ⟨by decide +kernel, rfl⟩
theorem d_X7_pause_1 : Dc m_X7_pause 1 (.getfield 26) 3 4 := ⟨by decide +kernel, rfl⟩
theorem d_X7_pause_4 : Dc m_X7_pause 4 (.getfield 130) 3 7 := ⟨by decide +kernel, rfl⟩
theorem d_X7_pause_7 : Dc m_X7_pause 7 (.ifCond .ne 6) 3 10 := ⟨by decide +kernel, rfl⟩
theorem d_X7_pause_10 : Dc m_X7_pause 10 (.ldc 156) 2 12 := ⟨by decide +kernel, rfl⟩
theorem d_X7_pause_12 : Dc m_X7_pause 12 (.ireturn) 1 13 := ⟨by decide +kernel, rfl⟩
theorem d_X7_pause_13 : Dc m_X7_pause 13 (.iload_n 1) 1 14 := ⟨by decide +kernel, rfl⟩
theorem d_X7_pause_14 : Dc m_X7_pause 14 (.iconst 1) 1 15 := ⟨by decide +kernel, rfl⟩
theorem d_X7_pause_15 : Dc m_X7_pause 15 (.if_icmp .lt 9) 3 18 := ⟨by decide +kernel, rfl⟩
theorem d_X7_pause_18 : Dc m_X7_pause 18 (.iload_n 1) 1 19 := ⟨by decide +kernel, rfl⟩
theorem d_X7_pause_19 : Dc m_X7_pause 19 (.bipush 24) 2 21 := ⟨by decide +kernel, rfl⟩
theorem d_X7_pause_21 : Dc m_X7_pause 21 (.if_icmp .le 6) 3 24 := ⟨by decide +kernel, rfl⟩
theorem d_X7_pause_24 : Dc m_X7_pause 24 (.ldc 71) 2 26 := ⟨by decide +kernel, rfl⟩
theorem d_X7_pause_26 : Dc m_X7_pause 26 (.ireturn) 1 27 := ⟨by decide +kernel, rfl⟩
theorem d_X7_pause_27 : Dc m_X7_pause 27 (.aload_n 0) 1 28 := ⟨by decide +kernel, rfl⟩
theorem d_X7_pause_28 : Dc m_X7_pause 28 (.getfield 26) 3 31 := ⟨by decide +kernel, rfl⟩
theorem d_X7_pause_31 : Dc m_X7_pause 31 (.getfield 164) 3 34 := ⟨by decide +kernel, rfl⟩
theorem d_X7_pause_34 : Dc m_X7_pause 34 (.iload_n 1) 1 35 := ⟨by decide +kernel, rfl⟩
theorem d_X7_pause_35 : Dc m_X7_pause 35 (.iadd) 1 36 := ⟨by decide +kernel, rfl⟩
theorem d_X7_pause_36 : Dc m_X7_pause 36 (.sipush 999) 3 39 := ⟨by decide +kernel, rfl⟩
theorem d_X7_pause_39 : Dc m_X7_pause 39 (.if_icmp .le 6) 3 42 := ⟨by decide +kernel, rfl⟩
theorem d_X7_pause_42 : Dc m_X7_pause 42 (.ldc 121) 2 44 := ⟨by decide +kernel, rfl⟩
theorem d_X7_pause_44 : Dc m_X7_pause 44 (.ireturn) 1 45 := ⟨by decide +kernel, rfl⟩
theorem d_X7_pause_45 : Dc m_X7_pause 45 (.aload_n 0) 1 46 := ⟨by decide +kernel, rfl⟩
theorem d_X7_pause_46 : Dc m_X7_pause 46 (.getfield 42) 3 49 := ⟨by decide +kernel, rfl⟩
theorem d_X7_pause_49 : Dc m_X7_pause 49 (.aload_n 0) 1 50 := ⟨by decide +kernel, rfl⟩
theorem d_X7_pause_50 : Dc m_X7_pause 50 (.getfield 26) 3 53 := ⟨by decide +kernel, rfl⟩
theorem d_X7_pause_53 : Dc m_X7_pause 53 (.iconst (-1)) 1 54 := ⟨by decide +kernel, rfl⟩
theorem d_X7_pause_54 : Dc m_X7_pause 54 (.invokevirtual 157) 3 57 := ⟨by decide +kernel, rfl⟩
theorem d_X7_pause_57 : Dc m_X7_pause 57 (.aload_n 0) 1 58 := ⟨by decide +kernel, rfl⟩
theorem d_X7_pause_58 : Dc m_X7_pause 58 (.getfield 26) 3 61 := ⟨by decide +kernel, rfl⟩
theorem d_X7_pause_61 : Dc m_X7_pause 61 (.dup) 1 62 := ⟨by decide +kernel, rfl⟩
theorem d_X7_pause_62 : Dc m_X7_pause 62 (.getfield 164) 3 65 := ⟨by decide +kernel, rfl⟩
theorem d_X7_pause_65 : Dc m_X7_pause 65 (.iload_n 1) 1 66 := ⟨by decide +kernel, rfl⟩
theorem d_X7_pause_66 : Dc m_X7_pause 66 (.iadd) 1 67 := ⟨by decide +kernel, rfl⟩
theorem d_X7_pause_67 : Dc m_X7_pause 67 (.putfield 164) 3 70 := ⟨by decide +kernel, rfl⟩
theorem d_X7_pause_70 : Dc m_X7_pause 70 (.aload_n 0) 1 71 := ⟨by decide +kernel, rfl⟩
theorem d_X7_pause_71 : Dc m_X7_pause 71 (.getfield 26) 3 74 := ⟨by decide +kernel, rfl⟩
theorem d_X7_pause_74 : Dc m_X7_pause 74 (.getfield 164) 3 77 := ⟨by decide +kernel, rfl⟩
theorem d_X7_pause_77 : Dc m_X7_pause 77 (.ireturn) 1 78 := ⟨by decide +kernel, rfl⟩
theorem d_X7_value_0 : Dc m_X7_value 0 (.aload_n 0) 1 1 := ⟨by decide +kernel, rfl⟩
theorem d_X7_value_1 : Dc m_X7_value 1 (.getfield 26) 3 4 := ⟨by decide +kernel, rfl⟩
theorem d_X7_value_4 : Dc m_X7_value 4 (.iload_n 1) 1 5 := ⟨by decide +kernel, rfl⟩
theorem d_X7_value_5 : Dc m_X7_value 5 (.invokevirtual 150) 3 8 := ⟨by decide +kernel, rfl⟩
theorem d_X7_value_8 : Dc m_X7_value 8 (.ifCond .eq 13) 3 11 := ⟨by decide +kernel, rfl⟩
theorem d_X7_value_11 : Dc m_X7_value 11 (.iload_n 2) 1 12 := ⟨by decide +kernel, rfl⟩
theorem d_X7_value_12 : Dc m_X7_value 12 (.ifCond .lt 9) 3 15 := ⟨by decide +kernel, rfl⟩
theorem d_X7_value_15 : Dc m_X7_value 15 (.iload_n 2) 1 16 := ⟨by decide +kernel, rfl⟩
theorem d_X7_value_16 : Dc m_X7_value 16 (.bipush 30) 2 18 := ⟨by decide +kernel, rfl⟩
theorem d_X7_value_18 : Dc m_X7_value 18 (.if_icmp .le 6) 3 21 := ⟨by decide +kernel, rfl⟩
theorem d_X7_value_21 : Dc m_X7_value 21 (.ldc 71) 2 23 := ⟨by decide +kernel, rfl⟩
theorem d_X7_value_23 : Dc m_X7_value 23 (.ireturn) 1 24 := ⟨by decide +kernel, rfl⟩
theorem d_X7_value_24 : Dc m_X7_value 24 (.aload_n 0) 1 25 := ⟨by decide +kernel, rfl⟩
theorem d_X7_value_25 : Dc m_X7_value 25 (.getfield 42) 3 28 := ⟨by decide +kernel, rfl⟩
theorem d_X7_value_28 : Dc m_X7_value 28 (.aload_n 0) 1 29 := ⟨by decide +kernel, rfl⟩
theorem d_X7_value_29 : Dc m_X7_value 29 (.getfield 26) 3 32 := ⟨by decide +kernel, rfl⟩
theorem d_X7_value_32 : Dc m_X7_value 32 (.iload_n 1) 1 33 := ⟨by decide +kernel, rfl⟩
theorem d_X7_value_33 : Dc m_X7_value 33 (.invokevirtual 157) 3 36 := ⟨by decide +kernel, rfl⟩
theorem d_X7_value_36 : Dc m_X7_value 36 (.aload_n 0) 1 37 := ⟨by decide +kernel, rfl⟩
theorem d_X7_value_37 : Dc m_X7_value 37 (.getfield 26) 3 40 := ⟨by decide +kernel, rfl⟩
theorem d_X7_value_40 : Dc m_X7_value 40 (.getfield 167) 3 43 := ⟨by decide +kernel, rfl⟩
theorem d_X7_value_43 : Dc m_X7_value 43 (.iload_n 1) 1 44 := ⟨by decide +kernel, rfl⟩
theorem d_X7_value_44 : Dc m_X7_value 44 (.iaload) 1 45 := ⟨by decide +kernel, rfl⟩
theorem d_X7_value_45 : Dc m_X7_value 45 (.istore_n 3) 1 46 := ⟨by decide +kernel, rfl⟩
theorem d_X7_value_46 : Dc m_X7_value 46 (.aload_n 0) 1 47 := ⟨by decide +kernel, rfl⟩
theorem d_X7_value_47 : Dc m_X7_value 47 (.getfield 26) 3 50 := ⟨by decide +kernel, rfl⟩
theorem d_X7_value_50 : Dc m_X7_value 50 (.getfield 167) 3 53 := ⟨by decide +kernel, rfl⟩
theorem d_X7_value_53 : Dc m_X7_value 53 (.iload_n 1) 1 54 := ⟨by decide +kernel, rfl⟩
theorem d_X7_value_54 : Dc m_X7_value 54 (.iload_n 2) 1 55 := ⟨by decide +kernel, rfl⟩
theorem d_X7_value_55 : Dc m_X7_value 55 (.iastore) 1 56 := ⟨by decide +kernel, rfl⟩
theorem d_X7_value_56 : Dc m_X7_value 56 (.iload_n 3) 1 57 := ⟨by decide +kernel, rfl⟩
theorem d_X7_value_57 : Dc m_X7_value 57 (.ireturn) 1 58 := ⟨by decide +kernel, rfl⟩
theorem d_X7_move_0 : Dc m_X7_move 0 (.aload_n 0) 1 1 := ⟨by decide +kernel, rfl⟩
theorem d_X7_move_1 : Dc m_X7_move 1 (.getfield 26) 3 4 := ⟨by decide +kernel, rfl⟩
theorem d_X7_move_4 : Dc m_X7_move 4 (.iload_n 1) 1 5 := ⟨by decide +kernel, rfl⟩
theorem d_X7_move_5 : Dc m_X7_move 5 (.invokevirtual 150) 3 8 := ⟨by decide +kernel, rfl⟩
theorem d_X7_move_8 : Dc m_X7_move 8 (.ifCond .eq 13) 3 11 := ⟨by decide +kernel, rfl⟩
theorem d_X7_move_11 : Dc m_X7_move 11 (.iload_n 2) 1 12 := ⟨by decide +kernel, rfl⟩
theorem d_X7_move_12 : Dc m_X7_move 12 (.ifCond .lt 9) 3 15 := ⟨by decide +kernel, rfl⟩
theorem d_X7_move_15 : Dc m_X7_move 15 (.iload_n 2) 1 16 := ⟨by decide +kernel, rfl⟩
theorem d_X7_move_16 : Dc m_X7_move 16 (.bipush 9) 2 18 := ⟨by decide +kernel, rfl⟩
theorem d_X7_move_18 : Dc m_X7_move 18 (.if_icmp .le 6) 3 21 := ⟨by decide +kernel, rfl⟩
theorem d_X7_move_21 : Dc m_X7_move 21 (.ldc 71) 2 23 := ⟨by decide +kernel, rfl⟩
theorem d_X7_move_23 : Dc m_X7_move 23 (.ireturn) 1 24 := ⟨by decide +kernel, rfl⟩
theorem d_X7_move_24 : Dc m_X7_move 24 (.aload_n 0) 1 25 := ⟨by decide +kernel, rfl⟩
theorem d_X7_move_25 : Dc m_X7_move 25 (.getfield 42) 3 28 := ⟨by decide +kernel, rfl⟩
theorem d_X7_move_28 : Dc m_X7_move 28 (.aload_n 0) 1 29 := ⟨by decide +kernel, rfl⟩
theorem d_X7_move_29 : Dc m_X7_move 29 (.getfield 26) 3 32 := ⟨by decide +kernel, rfl⟩
theorem d_X7_move_32 : Dc m_X7_move 32 (.iload_n 1) 1 33 := ⟨by decide +kernel, rfl⟩
theorem d_X7_move_33 : Dc m_X7_move 33 (.invokevirtual 157) 3 36 := ⟨by decide +kernel, rfl⟩
theorem d_X7_move_36 : Dc m_X7_move 36 (.aload_n 0) 1 37 := ⟨by decide +kernel, rfl⟩
theorem d_X7_move_37 : Dc m_X7_move 37 (.getfield 26) 3 40 := ⟨by decide +kernel, rfl⟩
theorem d_X7_move_40 : Dc m_X7_move 40 (.getfield 170) 3 43 := ⟨by decide +kernel, rfl⟩
theorem d_X7_move_43 : Dc m_X7_move 43 (.iload_n 1) 1 44 := ⟨by decide +kernel, rfl⟩
theorem d_X7_move_44 : Dc m_X7_move 44 (.iaload) 1 45 := ⟨by decide +kernel, rfl⟩
theorem d_X7_move_45 : Dc m_X7_move 45 (.istore_n 3) 1 46 := ⟨by decide +kernel, rfl⟩
theorem d_X7_move_46 : Dc m_X7_move 46 (.aload_n 0) 1 47 := ⟨by decide +kernel, rfl⟩
theorem d_X7_move_47 : Dc m_X7_move 47 (.getfield 26) 3 50 := ⟨by decide +kernel, rfl⟩
theorem d_X7_move_50 : Dc m_X7_move 50 (.getfield 170) 3 53 := ⟨by decide +kernel, rfl⟩
theorem d_X7_move_53 : Dc m_X7_move 53 (.iload_n 1) 1 54 := ⟨by decide +kernel, rfl⟩
theorem d_X7_move_54 : Dc m_X7_move 54 (.iload_n 2) 1 55 := ⟨by decide +kernel, rfl⟩
theorem d_X7_move_55 : Dc m_X7_move 55 (.iastore) 1 56 := ⟨by decide +kernel, rfl⟩
theorem d_X7_move_56 : Dc m_X7_move 56 (.iload_n 3) 1 57 := ⟨by decide +kernel, rfl⟩
theorem d_X7_move_57 : Dc m_X7_move 57 (.ireturn) 1 58 := ⟨by decide +kernel, rfl⟩
theorem d_X7_undo_0 : Dc m_X7_undo 0 (.aload_n 0) 1 1 := ⟨by decide +kernel, rfl⟩
theorem d_X7_undo_1 : Dc m_X7_undo 1 (.getfield 42) 3 4 := ⟨by decide +kernel, rfl⟩
theorem d_X7_undo_4 : Dc m_X7_undo 4 (.getfield 173) 3 7 := ⟨by decide +kernel, rfl⟩
theorem d_X7_undo_7 : Dc m_X7_undo 7 (.ifCond .gt 6) 3 10 := ⟨by decide +kernel, rfl⟩
theorem d_X7_undo_10 : Dc m_X7_undo 10 (.ldc 156) 2 12 := ⟨by decide +kernel, rfl⟩
theorem d_X7_undo_12 : Dc m_X7_undo 12 (.ireturn) 1 13 := ⟨by decide +kernel, rfl⟩
theorem d_X7_undo_13 : Dc m_X7_undo 13 (.aload_n 0) 1 14 := ⟨by decide +kernel, rfl⟩
theorem d_X7_undo_14 : Dc m_X7_undo 14 (.getfield 42) 3 17 := ⟨by decide +kernel, rfl⟩
theorem d_X7_undo_17 : Dc m_X7_undo 17 (.aload_n 0) 1 18 := ⟨by decide +kernel, rfl⟩
theorem d_X7_undo_18 : Dc m_X7_undo 18 (.getfield 26) 3 21 := ⟨by decide +kernel, rfl⟩
theorem d_X7_undo_21 : Dc m_X7_undo 21 (.invokevirtual 176) 3 24 := ⟨by decide +kernel, rfl⟩
theorem d_X7_undo_24 : Dc m_X7_undo 24 (.aload_n 0) 1 25 := ⟨by decide +kernel, rfl⟩
theorem d_X7_undo_25 : Dc m_X7_undo 25 (.getfield 42) 3 28 := ⟨by decide +kernel, rfl⟩
theorem d_X7_undo_28 : Dc m_X7_undo 28 (.getfield 173) 3 31 := ⟨by decide +kernel, rfl⟩
theorem d_X7_undo_31 : Dc m_X7_undo 31 (.ireturn) 1 32 := ⟨by decide +kernel, rfl⟩
theorem d_X7_reader_0 : Dc m_X7_reader 0 (.aload_n 0) 1 1 := ⟨by decide +kernel, rfl⟩
theorem d_X7_reader_1 : Dc m_X7_reader 1 (.getfield 26) 3 4 := ⟨by decide +kernel, rfl⟩
theorem d_X7_reader_4 : Dc m_X7_reader 4 (.iload_n 1) 1 5 := ⟨by decide +kernel, rfl⟩
theorem d_X7_reader_5 : Dc m_X7_reader 5 (.invokevirtual 150) 3 8 := ⟨by decide +kernel, rfl⟩
theorem d_X7_reader_8 : Dc m_X7_reader 8 (.ifCond .ne 6) 3 11 := ⟨by decide +kernel, rfl⟩
theorem d_X7_reader_11 : Dc m_X7_reader 11 (.ldc 71) 2 13 := ⟨by decide +kernel, rfl⟩
theorem d_X7_reader_13 : Dc m_X7_reader 13 (.ireturn) 1 14 := ⟨by decide +kernel, rfl⟩
theorem d_X7_reader_14 : Dc m_X7_reader 14 (.iload_n 2) 1 15 := ⟨by decide +kernel, rfl⟩
theorem d_X7_reader_15 : Dc m_X7_reader 15 (.tableswitch 97 0 4 #[33, 43, 53, 63, 80]) 33 48 := ⟨by decide +kernel, rfl⟩
theorem d_X7_reader_48 : Dc m_X7_reader 48 (.aload_n 0) 1 49 := ⟨by decide +kernel, rfl⟩
theorem d_X7_reader_49 : Dc m_X7_reader 49 (.getfield 26) 3 52 := ⟨by decide +kernel, rfl⟩
theorem d_X7_reader_52 : Dc m_X7_reader 52 (.getfield 170) 3 55 := ⟨by decide +kernel, rfl⟩
theorem d_X7_reader_55 : Dc m_X7_reader 55 (.iload_n 1) 1 56 := ⟨by decide +kernel, rfl⟩
theorem d_X7_reader_56 : Dc m_X7_reader 56 (.iaload) 1 57 := ⟨by decide +kernel, rfl⟩
theorem d_X7_reader_57 : Dc m_X7_reader 57 (.ireturn) 1 58 := ⟨by decide +kernel, rfl⟩
theorem d_X7_reader_58 : Dc m_X7_reader 58 (.aload_n 0) 1 59 := ⟨by decide +kernel, rfl⟩
theorem d_X7_reader_59 : Dc m_X7_reader 59 (.getfield 26) 3 62 := ⟨by decide +kernel, rfl⟩
theorem d_X7_reader_62 : Dc m_X7_reader 62 (.getfield 167) 3 65 := ⟨by decide +kernel, rfl⟩
theorem d_X7_reader_65 : Dc m_X7_reader 65 (.iload_n 1) 1 66 := ⟨by decide +kernel, rfl⟩
theorem d_X7_reader_66 : Dc m_X7_reader 66 (.iaload) 1 67 := ⟨by decide +kernel, rfl⟩
theorem d_X7_reader_67 : Dc m_X7_reader 67 (.ireturn) 1 68 := ⟨by decide +kernel, rfl⟩
theorem d_X7_reader_68 : Dc m_X7_reader 68 (.aload_n 0) 1 69 := ⟨by decide +kernel, rfl⟩
theorem d_X7_reader_69 : Dc m_X7_reader 69 (.getfield 26) 3 72 := ⟨by decide +kernel, rfl⟩
theorem d_X7_reader_72 : Dc m_X7_reader 72 (.getfield 179) 3 75 := ⟨by decide +kernel, rfl⟩
theorem d_X7_reader_75 : Dc m_X7_reader 75 (.iload_n 1) 1 76 := ⟨by decide +kernel, rfl⟩
theorem d_X7_reader_76 : Dc m_X7_reader 76 (.iaload) 1 77 := ⟨by decide +kernel, rfl⟩
theorem d_X7_reader_77 : Dc m_X7_reader 77 (.ireturn) 1 78 := ⟨by decide +kernel, rfl⟩
theorem d_X7_reader_78 : Dc m_X7_reader 78 (.aload_n 0) 1 79 := ⟨by decide +kernel, rfl⟩
theorem d_X7_reader_79 : Dc m_X7_reader 79 (.getfield 26) 3 82 := ⟨by decide +kernel, rfl⟩
theorem d_X7_reader_82 : Dc m_X7_reader 82 (.iload_n 1) 1 83 := ⟨by decide +kernel, rfl⟩
theorem d_X7_reader_83 : Dc m_X7_reader 83 (.invokevirtual 182) 3 86 := ⟨by decide +kernel, rfl⟩
theorem d_X7_reader_86 : Dc m_X7_reader 86 (.ifCond .eq 7) 3 89 := ⟨by decide +kernel, rfl⟩
theorem d_X7_reader_89 : Dc m_X7_reader 89 (.iconst 1) 1 90 := ⟨by decide +kernel, rfl⟩
theorem d_X7_reader_90 : Dc m_X7_reader 90 (.goto 4) 3 93 := ⟨by decide +kernel, rfl⟩
theorem d_X7_reader_93 : Dc m_X7_reader 93 (.iconst 0) 1 94 := ⟨by decide +kernel, rfl⟩
theorem d_X7_reader_94 : Dc m_X7_reader 94 (.ireturn) 1 95 := ⟨by decide +kernel, rfl⟩
theorem d_X7_reader_95 : Dc m_X7_reader 95 (.aload_n 0) 1 96 := ⟨by decide +kernel, rfl⟩
theorem d_X7_reader_96 : Dc m_X7_reader 96 (.getfield 26) 3 99 := ⟨by decide +kernel, rfl⟩
theorem d_X7_reader_99 : Dc m_X7_reader 99 (.iload_n 1) 1 100 := ⟨by decide +kernel, rfl⟩
theorem d_X7_reader_100 : Dc m_X7_reader 100 (.invokevirtual 153) 3 103 := ⟨by decide +kernel, rfl⟩
theorem d_X7_reader_103 : Dc m_X7_reader 103 (.ifCond .eq 7) 3 106 := ⟨by decide +kernel, rfl⟩
theorem d_X7_reader_106 : Dc m_X7_reader 106 (.iconst 1) 1 107 := ⟨by decide +kernel, rfl⟩
theorem d_X7_reader_107 : Dc m_X7_reader 107 (.goto 4) 3 110 := ⟨by decide +kernel, rfl⟩
theorem d_X7_reader_110 : Dc m_X7_reader 110 (.iconst 0) 1 111 := ⟨by decide +kernel, rfl⟩
theorem d_X7_reader_111 : Dc m_X7_reader 111 (.ireturn) 1 112 := ⟨by decide +kernel, rfl⟩
theorem d_X7_reader_112 : Dc m_X7_reader 112 (.ldc 71) 2 114 := ⟨by decide +kernel, rfl⟩
theorem d_X7_reader_114 : Dc m_X7_reader 114 (.ireturn) 1 115 := ⟨by decide +kernel, rfl⟩
theorem d_X7_would_0 : Dc m_X7_would 0 (.aload_n 0) 1 1 := ⟨by decide +kernel, rfl⟩
theorem d_X7_would_1 : Dc m_X7_would 1 (.getfield 26) 3 4 := ⟨by decide +kernel, rfl⟩
theorem d_X7_would_4 : Dc m_X7_would 4 (.iload_n 1) 1 5 := ⟨by decide +kernel, rfl⟩
theorem d_X7_would_5 : Dc m_X7_would 5 (.invokevirtual 150) 3 8 := ⟨by decide +kernel, rfl⟩
theorem d_X7_would_8 : Dc m_X7_would 8 (.ifCond .eq 12) 3 11 := ⟨by decide +kernel, rfl⟩
theorem d_X7_would_11 : Dc m_X7_would 11 (.iload_n 2) 1 12 := ⟨by decide +kernel, rfl⟩
theorem d_X7_would_12 : Dc m_X7_would 12 (.ifCond .lt 8) 3 15 := ⟨by decide +kernel, rfl⟩
theorem d_X7_would_15 : Dc m_X7_would 15 (.iload_n 2) 1 16 := ⟨by decide +kernel, rfl⟩
theorem d_X7_would_16 : Dc m_X7_would 16 (.iconst 1) 1 17 := ⟨by decide +kernel, rfl⟩
theorem d_X7_would_17 : Dc m_X7_would 17 (.if_icmp .le 6) 3 20 := ⟨by decide +kernel, rfl⟩
theorem d_X7_would_20 : Dc m_X7_would 20 (.ldc 71) 2 22 := ⟨by decide +kernel, rfl⟩
theorem d_X7_would_22 : Dc m_X7_would 22 (.ireturn) 1 23 := ⟨by decide +kernel, rfl⟩
theorem d_X7_would_23 : Dc m_X7_would 23 (.aload_n 0) 1 24 := ⟨by decide +kernel, rfl⟩
theorem d_X7_would_24 : Dc m_X7_would 24 (.getfield 26) 3 27 := ⟨by decide +kernel, rfl⟩
theorem d_X7_would_27 : Dc m_X7_would 27 (.iload_n 1) 1 28 := ⟨by decide +kernel, rfl⟩
theorem d_X7_would_28 : Dc m_X7_would 28 (.invokevirtual 153) 3 31 := ⟨by decide +kernel, rfl⟩
theorem d_X7_would_31 : Dc m_X7_would 31 (.ifCond .ne 6) 3 34 := ⟨by decide +kernel, rfl⟩
theorem d_X7_would_34 : Dc m_X7_would 34 (.ldc 185) 2 36 := ⟨by decide +kernel, rfl⟩
theorem d_X7_would_36 : Dc m_X7_would 36 (.ireturn) 1 37 := ⟨by decide +kernel, rfl⟩
theorem d_X7_would_37 : Dc m_X7_would 37 (.iload_n 2) 1 38 := ⟨by decide +kernel, rfl⟩
theorem d_X7_would_38 : Dc m_X7_would 38 (.ifCond .ne 14) 3 41 := ⟨by decide +kernel, rfl⟩
theorem d_X7_would_41 : Dc m_X7_would 41 (.aload_n 0) 1 42 := ⟨by decide +kernel, rfl⟩
theorem d_X7_would_42 : Dc m_X7_would 42 (.getfield 26) 3 45 := ⟨by decide +kernel, rfl⟩
theorem d_X7_would_45 : Dc m_X7_would 45 (.iload_n 1) 1 46 := ⟨by decide +kernel, rfl⟩
theorem d_X7_would_46 : Dc m_X7_would 46 (.invokevirtual 186) 3 49 := ⟨by decide +kernel, rfl⟩
theorem d_X7_would_49 : Dc m_X7_would 49 (.goto 11) 3 52 := ⟨by decide +kernel, rfl⟩
theorem d_X7_would_52 : Dc m_X7_would 52 (.aload_n 0) 1 53 := ⟨by decide +kernel, rfl⟩
theorem d_X7_would_53 : Dc m_X7_would 53 (.getfield 26) 3 56 := ⟨by decide +kernel, rfl⟩
theorem d_X7_would_56 : Dc m_X7_would 56 (.iload_n 1) 1 57 := ⟨by decide +kernel, rfl⟩
theorem d_X7_would_57 : Dc m_X7_would 57 (.invokevirtual 189) 3 60 := ⟨by decide +kernel, rfl⟩
theorem d_X7_would_60 : Dc m_X7_would 60 (.ireturn) 1 61 := ⟨by decide +kernel, rfl⟩
theorem d_X7_best_0 : Dc m_X7_best 0 (.aload_n 0) 1 1 := ⟨by decide +kernel, rfl⟩
theorem d_X7_best_1 : Dc m_X7_best 1 (.getfield 26) 3 4 := ⟨by decide +kernel, rfl⟩
theorem d_X7_best_4 : Dc m_X7_best 4 (.getfield 130) 3 7 := ⟨by decide +kernel, rfl⟩
theorem d_X7_best_7 : Dc m_X7_best 7 (.ifCond .ne 6) 3 10 := ⟨by decide +kernel, rfl⟩
theorem d_X7_best_10 : Dc m_X7_best 10 (.ldc 156) 2 12 := ⟨by decide +kernel, rfl⟩
theorem d_X7_best_12 : Dc m_X7_best 12 (.ireturn) 1 13 := ⟨by decide +kernel, rfl⟩
theorem d_X7_best_13 : Dc m_X7_best 13 (.iload_n 1) 1 14 := ⟨by decide +kernel, rfl⟩
theorem d_X7_best_14 : Dc m_X7_best 14 (.bipush (-2)) 2 16 := ⟨by decide +kernel, rfl⟩
theorem d_X7_best_16 : Dc m_X7_best 16 (.if_icmp .lt 9) 3 19 := ⟨by decide +kernel, rfl⟩
theorem d_X7_best_19 : Dc m_X7_best 19 (.iload_n 1) 1 20 := ⟨by decide +kernel, rfl⟩
theorem d_X7_best_20 : Dc m_X7_best 20 (.bipush 6) 2 22 := ⟨by decide +kernel, rfl⟩
theorem d_X7_best_22 : Dc m_X7_best 22 (.if_icmp .lt 6) 3 25 := ⟨by decide +kernel, rfl⟩
theorem d_X7_best_25 : Dc m_X7_best 25 (.ldc 71) 2 27 := ⟨by decide +kernel, rfl⟩
theorem d_X7_best_27 : Dc m_X7_best 27 (.ireturn) 1 28 := ⟨by decide +kernel, rfl⟩
theorem d_X7_best_28 : Dc m_X7_best 28 (.aload_n 0) 1 29 := ⟨by decide +kernel, rfl⟩
theorem d_X7_best_29 : Dc m_X7_best 29 (.getfield 49) 3 32 := ⟨by decide +kernel, rfl⟩
theorem d_X7_best_32 : Dc m_X7_best 32 (.aload_n 0) 1 33 := ⟨by decide +kernel, rfl⟩
theorem d_X7_best_33 : Dc m_X7_best 33 (.getfield 26) 3 36 := ⟨by decide +kernel, rfl⟩
theorem d_X7_best_36 : Dc m_X7_best 36 (.invokevirtual 192) 3 39 := ⟨by decide +kernel, rfl⟩
theorem d_X7_best_39 : Dc m_X7_best 39 (.iload_n 1) 1 40 := ⟨by decide +kernel, rfl⟩
theorem d_X7_best_40 : Dc m_X7_best 40 (.bipush (-2)) 2 42 := ⟨by decide +kernel, rfl⟩
theorem d_X7_best_42 : Dc m_X7_best 42 (.if_icmp .ne 11) 3 45 := ⟨by decide +kernel, rfl⟩
theorem d_X7_best_45 : Dc m_X7_best 45 (.aload_n 0) 1 46 := ⟨by decide +kernel, rfl⟩
theorem d_X7_best_46 : Dc m_X7_best 46 (.getfield 49) 3 49 := ⟨by decide +kernel, rfl⟩
theorem d_X7_best_49 : Dc m_X7_best 49 (.getfield 195) 3 52 := ⟨by decide +kernel, rfl⟩
theorem d_X7_best_52 : Dc m_X7_best 52 (.ireturn) 1 53 := ⟨by decide +kernel, rfl⟩
theorem d_X7_best_53 : Dc m_X7_best 53 (.iload_n 1) 1 54 := ⟨by decide +kernel, rfl⟩
theorem d_X7_best_54 : Dc m_X7_best 54 (.iconst (-1)) 1 55 := ⟨by decide +kernel, rfl⟩
theorem d_X7_best_55 : Dc m_X7_best 55 (.if_icmp .ne 13) 3 58 := ⟨by decide +kernel, rfl⟩
theorem d_X7_best_58 : Dc m_X7_best 58 (.aload_n 0) 1 59 := ⟨by decide +kernel, rfl⟩
theorem d_X7_best_59 : Dc m_X7_best 59 (.getfield 49) 3 62 := ⟨by decide +kernel, rfl⟩
theorem d_X7_best_62 : Dc m_X7_best 62 (.getfield 196) 3 65 := ⟨by decide +kernel, rfl⟩
theorem d_X7_best_65 : Dc m_X7_best 65 (.goto 11) 3 68 := ⟨by decide +kernel, rfl⟩
theorem d_X7_best_68 : Dc m_X7_best 68 (.aload_n 0) 1 69 := ⟨by decide +kernel, rfl⟩
theorem d_X7_best_69 : Dc m_X7_best 69 (.getfield 49) 3 72 := ⟨by decide +kernel, rfl⟩
theorem d_X7_best_72 : Dc m_X7_best 72 (.iload_n 1) 1 73 := ⟨by decide +kernel, rfl⟩
theorem d_X7_best_73 : Dc m_X7_best 73 (.invokevirtual 199) 3 76 := ⟨by decide +kernel, rfl⟩
theorem d_X7_best_76 : Dc m_X7_best 76 (.ireturn) 1 77 := ⟨by decide +kernel, rfl⟩
theorem d_X7_soonest_0 : Dc m_X7_soonest 0 (.aload_n 0) 1 1 := ⟨by decide +kernel, rfl⟩
theorem d_X7_soonest_1 : Dc m_X7_soonest 1 (.getfield 26) 3 4 := ⟨by decide +kernel, rfl⟩
theorem d_X7_soonest_4 : Dc m_X7_soonest 4 (.getfield 130) 3 7 := ⟨by decide +kernel, rfl⟩
theorem d_X7_soonest_7 : Dc m_X7_soonest 7 (.ifCond .ne 6) 3 10 := ⟨by decide +kernel, rfl⟩
theorem d_X7_soonest_10 : Dc m_X7_soonest 10 (.ldc 156) 2 12 := ⟨by decide +kernel, rfl⟩
theorem d_X7_soonest_12 : Dc m_X7_soonest 12 (.ireturn) 1 13 := ⟨by decide +kernel, rfl⟩
theorem d_X7_soonest_13 : Dc m_X7_soonest 13 (.iload_n 1) 1 14 := ⟨by decide +kernel, rfl⟩
theorem d_X7_soonest_14 : Dc m_X7_soonest 14 (.ifCond .lt 25) 3 17 := ⟨by decide +kernel, rfl⟩
theorem d_X7_soonest_17 : Dc m_X7_soonest 17 (.iload_n 1) 1 18 := ⟨by decide +kernel, rfl⟩
theorem d_X7_soonest_18 : Dc m_X7_soonest 18 (.aload_n 0) 1 19 := ⟨by decide +kernel, rfl⟩
theorem d_X7_soonest_19 : Dc m_X7_soonest 19 (.getfield 26) 3 22 := ⟨by decide +kernel, rfl⟩
theorem d_X7_soonest_22 : Dc m_X7_soonest 22 (.invokevirtual 202) 3 25 := ⟨by decide +kernel, rfl⟩
theorem d_X7_soonest_25 : Dc m_X7_soonest 25 (.if_icmp .gt 14) 3 28 := ⟨by decide +kernel, rfl⟩
theorem d_X7_soonest_28 : Dc m_X7_soonest 28 (.iload_n 2) 1 29 := ⟨by decide +kernel, rfl⟩
theorem d_X7_soonest_29 : Dc m_X7_soonest 29 (.iconst (-1)) 1 30 := ⟨by decide +kernel, rfl⟩
theorem d_X7_soonest_30 : Dc m_X7_soonest 30 (.if_icmp .lt 9) 3 33 := ⟨by decide +kernel, rfl⟩
theorem d_X7_soonest_33 : Dc m_X7_soonest 33 (.iload_n 2) 1 34 := ⟨by decide +kernel, rfl⟩
theorem d_X7_soonest_34 : Dc m_X7_soonest 34 (.bipush 6) 2 36 := ⟨by decide +kernel, rfl⟩
theorem d_X7_soonest_36 : Dc m_X7_soonest 36 (.if_icmp .lt 6) 3 39 := ⟨by decide +kernel, rfl⟩
theorem d_X7_soonest_39 : Dc m_X7_soonest 39 (.ldc 71) 2 41 := ⟨by decide +kernel, rfl⟩
theorem d_X7_soonest_41 : Dc m_X7_soonest 41 (.ireturn) 1 42 := ⟨by decide +kernel, rfl⟩
theorem d_X7_soonest_42 : Dc m_X7_soonest 42 (.aload_n 0) 1 43 := ⟨by decide +kernel, rfl⟩
theorem d_X7_soonest_43 : Dc m_X7_soonest 43 (.getfield 49) 3 46 := ⟨by decide +kernel, rfl⟩
theorem d_X7_soonest_46 : Dc m_X7_soonest 46 (.aload_n 0) 1 47 := ⟨by decide +kernel, rfl⟩
theorem d_X7_soonest_47 : Dc m_X7_soonest 47 (.getfield 26) 3 50 := ⟨by decide +kernel, rfl⟩
theorem d_X7_soonest_50 : Dc m_X7_soonest 50 (.iload_n 1) 1 51 := ⟨by decide +kernel, rfl⟩
theorem d_X7_soonest_51 : Dc m_X7_soonest 51 (.invokevirtual 206) 3 54 := ⟨by decide +kernel, rfl⟩
theorem d_X7_soonest_54 : Dc m_X7_soonest 54 (.aload_n 0) 1 55 := ⟨by decide +kernel, rfl⟩
theorem d_X7_soonest_55 : Dc m_X7_soonest 55 (.getfield 49) 3 58 := ⟨by decide +kernel, rfl⟩
theorem d_X7_soonest_58 : Dc m_X7_soonest 58 (.getfield 209) 3 61 := ⟨by decide +kernel, rfl⟩
theorem d_X7_soonest_61 : Dc m_X7_soonest 61 (.ifCond .ne 6) 3 64 := ⟨by decide +kernel, rfl⟩
theorem d_X7_soonest_64 : Dc m_X7_soonest 64 (.ldc 185) 2 66 := ⟨by decide +kernel, rfl⟩
theorem d_X7_soonest_66 : Dc m_X7_soonest 66 (.ireturn) 1 67 := ⟨by decide +kernel, rfl⟩
theorem d_X7_soonest_67 : Dc m_X7_soonest 67 (.iload_n 2) 1 68 := ⟨by decide +kernel, rfl⟩
theorem d_X7_soonest_68 : Dc m_X7_soonest 68 (.iconst (-1)) 1 69 := ⟨by decide +kernel, rfl⟩
theorem d_X7_soonest_69 : Dc m_X7_soonest 69 (.if_icmp .ne 13) 3 72 := ⟨by decide +kernel, rfl⟩
theorem d_X7_soonest_72 : Dc m_X7_soonest 72 (.aload_n 0) 1 73 := ⟨by decide +kernel, rfl⟩
theorem d_X7_soonest_73 : Dc m_X7_soonest 73 (.getfield 49) 3 76 := ⟨by decide +kernel, rfl⟩
theorem d_X7_soonest_76 : Dc m_X7_soonest 76 (.getfield 196) 3 79 := ⟨by decide +kernel, rfl⟩
theorem d_X7_soonest_79 : Dc m_X7_soonest 79 (.goto 11) 3 82 := ⟨by decide +kernel, rfl⟩
theorem d_X7_soonest_82 : Dc m_X7_soonest 82 (.aload_n 0) 1 83 := ⟨by decide +kernel, rfl⟩
theorem d_X7_soonest_83 : Dc m_X7_soonest 83 (.getfield 49) 3 86 := ⟨by decide +kernel, rfl⟩
theorem d_X7_soonest_86 : Dc m_X7_soonest 86 (.iload_n 2) 1 87 := ⟨by decide +kernel, rfl⟩
theorem d_X7_soonest_87 : Dc m_X7_soonest 87 (.invokevirtual 199) 3 90 := ⟨by decide +kernel, rfl⟩
theorem d_X7_soonest_90 : Dc m_X7_soonest 90 (.ireturn) 1 91 := ⟨by decide +kernel, rfl⟩
theorem d_X7_copies_0 : Dc m_X7_copies 0 (.aload_n 0) 1 1 := ⟨by decide +kernel, rfl⟩
theorem d_X7_copies_1 : Dc m_X7_copies 1 (.getfield 26) 3 4 := ⟨by decide +kernel, rfl⟩
theorem d_X7_copies_4 : Dc m_X7_copies 4 (.getfield 130) 3 7 := ⟨by decide +kernel, rfl⟩
theorem d_X7_copies_7 : Dc m_X7_copies 7 (.ifCond .ne 6) 3 10 := ⟨by decide +kernel, rfl⟩
theorem d_X7_copies_10 : Dc m_X7_copies 10 (.ldc 156) 2 12 := ⟨by decide +kernel, rfl⟩
theorem d_X7_copies_12 : Dc m_X7_copies 12 (.ireturn) 1 13 := ⟨by decide +kernel, rfl⟩
theorem d_X7_copies_13 : Dc m_X7_copies 13 (.iload_n 1) 1 14 := ⟨by decide +kernel, rfl⟩
theorem d_X7_copies_14 : Dc m_X7_copies 14 (.iconst 1) 1 15 := ⟨by decide +kernel, rfl⟩
theorem d_X7_copies_15 : Dc m_X7_copies 15 (.if_icmp .lt 19) 3 18 := ⟨by decide +kernel, rfl⟩
theorem d_X7_copies_18 : Dc m_X7_copies 18 (.iload_n 1) 1 19 := ⟨by decide +kernel, rfl⟩
theorem d_X7_copies_19 : Dc m_X7_copies 19 (.iconst 3) 1 20 := ⟨by decide +kernel, rfl⟩
theorem d_X7_copies_20 : Dc m_X7_copies 20 (.if_icmp .gt 14) 3 23 := ⟨by decide +kernel, rfl⟩
theorem d_X7_copies_23 : Dc m_X7_copies 23 (.iload_n 2) 1 24 := ⟨by decide +kernel, rfl⟩
theorem d_X7_copies_24 : Dc m_X7_copies 24 (.iconst (-1)) 1 25 := ⟨by decide +kernel, rfl⟩
theorem d_X7_copies_25 : Dc m_X7_copies 25 (.if_icmp .lt 9) 3 28 := ⟨by decide +kernel, rfl⟩
theorem d_X7_copies_28 : Dc m_X7_copies 28 (.iload_n 2) 1 29 := ⟨by decide +kernel, rfl⟩
theorem d_X7_copies_29 : Dc m_X7_copies 29 (.bipush 6) 2 31 := ⟨by decide +kernel, rfl⟩
theorem d_X7_copies_31 : Dc m_X7_copies 31 (.if_icmp .lt 6) 3 34 := ⟨by decide +kernel, rfl⟩
theorem d_X7_copies_34 : Dc m_X7_copies 34 (.ldc 71) 2 36 := ⟨by decide +kernel, rfl⟩
theorem d_X7_copies_36 : Dc m_X7_copies 36 (.ireturn) 1 37 := ⟨by decide +kernel, rfl⟩
theorem d_X7_copies_37 : Dc m_X7_copies 37 (.iload_n 2) 1 38 := ⟨by decide +kernel, rfl⟩
theorem d_X7_copies_38 : Dc m_X7_copies 38 (.aload_n 0) 1 39 := ⟨by decide +kernel, rfl⟩
theorem d_X7_copies_39 : Dc m_X7_copies 39 (.getfield 26) 3 42 := ⟨by decide +kernel, rfl⟩
theorem d_X7_copies_42 : Dc m_X7_copies 42 (.getfield 144) 3 45 := ⟨by decide +kernel, rfl⟩
theorem d_X7_copies_45 : Dc m_X7_copies 45 (.if_icmp .lt 6) 3 48 := ⟨by decide +kernel, rfl⟩
theorem d_X7_copies_48 : Dc m_X7_copies 48 (.ldc 185) 2 50 := ⟨by decide +kernel, rfl⟩
theorem d_X7_copies_50 : Dc m_X7_copies 50 (.ireturn) 1 51 := ⟨by decide +kernel, rfl⟩
theorem d_X7_copies_51 : Dc m_X7_copies 51 (.aload_n 0) 1 52 := ⟨by decide +kernel, rfl⟩
theorem d_X7_copies_52 : Dc m_X7_copies 52 (.getfield 49) 3 55 := ⟨by decide +kernel, rfl⟩
theorem d_X7_copies_55 : Dc m_X7_copies 55 (.aload_n 0) 1 56 := ⟨by decide +kernel, rfl⟩
theorem d_X7_copies_56 : Dc m_X7_copies 56 (.getfield 26) 3 59 := ⟨by decide +kernel, rfl⟩
theorem d_X7_copies_59 : Dc m_X7_copies 59 (.invokevirtual 211) 3 62 := ⟨by decide +kernel, rfl⟩
theorem d_X7_copies_62 : Dc m_X7_copies 62 (.aload_n 0) 1 63 := ⟨by decide +kernel, rfl⟩
theorem d_X7_copies_63 : Dc m_X7_copies 63 (.getfield 56) 3 66 := ⟨by decide +kernel, rfl⟩
theorem d_X7_copies_66 : Dc m_X7_copies 66 (.iload_n 1) 1 67 := ⟨by decide +kernel, rfl⟩
theorem d_X7_copies_67 : Dc m_X7_copies 67 (.aload_n 0) 1 68 := ⟨by decide +kernel, rfl⟩
theorem d_X7_copies_68 : Dc m_X7_copies 68 (.getfield 26) 3 71 := ⟨by decide +kernel, rfl⟩
theorem d_X7_copies_71 : Dc m_X7_copies 71 (.aload_n 0) 1 72 := ⟨by decide +kernel, rfl⟩
theorem d_X7_copies_72 : Dc m_X7_copies 72 (.getfield 49) 3 75 := ⟨by decide +kernel, rfl⟩
theorem d_X7_copies_75 : Dc m_X7_copies 75 (.getfield 214) 3 78 := ⟨by decide +kernel, rfl⟩
theorem d_X7_copies_78 : Dc m_X7_copies 78 (.invokevirtual 217) 3 81 := ⟨by decide +kernel, rfl⟩
theorem d_X7_copies_81 : Dc m_X7_copies 81 (.iload_n 2) 1 82 := ⟨by decide +kernel, rfl⟩
theorem d_X7_copies_82 : Dc m_X7_copies 82 (.iconst (-1)) 1 83 := ⟨by decide +kernel, rfl⟩
theorem d_X7_copies_83 : Dc m_X7_copies 83 (.if_icmp .ne 27) 3 86 := ⟨by decide +kernel, rfl⟩
theorem d_X7_copies_86 : Dc m_X7_copies 86 (.aload_n 0) 1 87 := ⟨by decide +kernel, rfl⟩
theorem d_X7_copies_87 : Dc m_X7_copies 87 (.getfield 56) 3 90 := ⟨by decide +kernel, rfl⟩
theorem d_X7_copies_90 : Dc m_X7_copies 90 (.getfield 221) 3 93 := ⟨by decide +kernel, rfl⟩
theorem d_X7_copies_93 : Dc m_X7_copies 93 (.iload_n 1) 1 94 := ⟨by decide +kernel, rfl⟩
theorem d_X7_copies_94 : Dc m_X7_copies 94 (.aload_n 0) 1 95 := ⟨by decide +kernel, rfl⟩
theorem d_X7_copies_95 : Dc m_X7_copies 95 (.getfield 26) 3 98 := ⟨by decide +kernel, rfl⟩
theorem d_X7_copies_98 : Dc m_X7_copies 98 (.getfield 224) 3 101 := ⟨by decide +kernel, rfl⟩
theorem d_X7_copies_101 : Dc m_X7_copies 101 (.imul) 1 102 := ⟨by decide +kernel, rfl⟩
theorem d_X7_copies_102 : Dc m_X7_copies 102 (.isub) 1 103 := ⟨by decide +kernel, rfl⟩
theorem d_X7_copies_103 : Dc m_X7_copies 103 (.sipush 1000) 3 106 := ⟨by decide +kernel, rfl⟩
theorem d_X7_copies_106 : Dc m_X7_copies 106 (.iadd) 1 107 := ⟨by decide +kernel, rfl⟩
theorem d_X7_copies_107 : Dc m_X7_copies 107 (.goto 12) 3 110 := ⟨by decide +kernel, rfl⟩
theorem d_X7_copies_110 : Dc m_X7_copies 110 (.aload_n 0) 1 111 := ⟨by decide +kernel, rfl⟩
theorem d_X7_copies_111 : Dc m_X7_copies 111 (.getfield 56) 3 114 := ⟨by decide +kernel, rfl⟩
theorem d_X7_copies_114 : Dc m_X7_copies 114 (.getfield 227) 3 117 := ⟨by decide +kernel, rfl⟩
theorem d_X7_copies_117 : Dc m_X7_copies 117 (.iload_n 2) 1 118 := ⟨by decide +kernel, rfl⟩
theorem d_X7_copies_118 : Dc m_X7_copies 118 (.iaload) 1 119 := ⟨by decide +kernel, rfl⟩
theorem d_X7_copies_119 : Dc m_X7_copies 119 (.ireturn) 1 120 := ⟨by decide +kernel, rfl⟩
theorem d_X7_fits_0 : Dc m_X7_fits 0 (.aload_n 0) 1 1 := ⟨by decide +kernel, rfl⟩
theorem d_X7_fits_1 : Dc m_X7_fits 1 (.getfield 26) 3 4 := ⟨by decide +kernel, rfl⟩
theorem d_X7_fits_4 : Dc m_X7_fits 4 (.iload_n 1) 1 5 := ⟨by decide +kernel, rfl⟩
theorem d_X7_fits_5 : Dc m_X7_fits 5 (.invokevirtual 150) 3 8 := ⟨by decide +kernel, rfl⟩
theorem d_X7_fits_8 : Dc m_X7_fits 8 (.ifCond .eq 25) 3 11 := ⟨by decide +kernel, rfl⟩
theorem d_X7_fits_11 : Dc m_X7_fits 11 (.iload_n 2) 1 12 := ⟨by decide +kernel, rfl⟩
theorem d_X7_fits_12 : Dc m_X7_fits 12 (.iload 4) 2 14 := ⟨by decide +kernel, rfl⟩
theorem d_X7_fits_14 : Dc m_X7_fits 14 (.iload 5) 2 16 := ⟨by decide +kernel, rfl⟩
theorem d_X7_fits_16 : Dc m_X7_fits 16 (.invokestatic 230) 3 19 := ⟨by decide +kernel, rfl⟩
theorem d_X7_fits_19 : Dc m_X7_fits 19 (.ifCond .eq 14) 3 22 := ⟨by decide +kernel, rfl⟩
theorem d_X7_fits_22 : Dc m_X7_fits 22 (.iload 6) 2 24 := ⟨by decide +kernel, rfl⟩
theorem d_X7_fits_24 : Dc m_X7_fits 24 (.ifCond .lt 9) 3 27 := ⟨by decide +kernel, rfl⟩
theorem d_X7_fits_27 : Dc m_X7_fits 27 (.iload 6) 2 29 := ⟨by decide +kernel, rfl⟩
theorem d_X7_fits_29 : Dc m_X7_fits 29 (.iconst 2) 1 30 := ⟨by decide +kernel, rfl⟩
theorem d_X7_fits_30 : Dc m_X7_fits 30 (.if_icmp .le 6) 3 33 := ⟨by decide +kernel, rfl⟩
theorem d_X7_fits_33 : Dc m_X7_fits 33 (.ldc 71) 2 35 := ⟨by decide +kernel, rfl⟩
theorem d_X7_fits_35 : Dc m_X7_fits 35 (.ireturn) 1 36 := ⟨by decide +kernel, rfl⟩
theorem d_X7_fits_36 : Dc m_X7_fits 36 (.aload_n 0) 1 37 := ⟨by decide +kernel, rfl⟩
theorem d_X7_fits_37 : Dc m_X7_fits 37 (.getfield 10) 3 40 := ⟨by decide +kernel, rfl⟩
theorem d_X7_fits_40 : Dc m_X7_fits 40 (.iload_n 2) 1 41 := ⟨by decide +kernel, rfl⟩
theorem d_X7_fits_41 : Dc m_X7_fits 41 (.iload_n 3) 1 42 := ⟨by decide +kernel, rfl⟩
theorem d_X7_fits_42 : Dc m_X7_fits 42 (.iload 4) 2 44 := ⟨by decide +kernel, rfl⟩
theorem d_X7_fits_44 : Dc m_X7_fits 44 (.invokevirtual 83) 3 47 := ⟨by decide +kernel, rfl⟩
theorem d_X7_fits_47 : Dc m_X7_fits 47 (.istore 7) 2 49 := ⟨by decide +kernel, rfl⟩
theorem d_X7_fits_49 : Dc m_X7_fits 49 (.iload 7) 2 51 := ⟨by decide +kernel, rfl⟩
theorem d_X7_fits_51 : Dc m_X7_fits 51 (.ifCond .eq 10) 3 54 := ⟨by decide +kernel, rfl⟩
theorem d_X7_fits_54 : Dc m_X7_fits 54 (.aload_n 0) 1 55 := ⟨by decide +kernel, rfl⟩
theorem d_X7_fits_55 : Dc m_X7_fits 55 (.iload 7) 2 57 := ⟨by decide +kernel, rfl⟩
theorem d_X7_fits_57 : Dc m_X7_fits 57 (.invokevirtual 72) 3 60 := ⟨by decide +kernel, rfl⟩
theorem d_X7_fits_60 : Dc m_X7_fits 60 (.ireturn) 1 61 := ⟨by decide +kernel, rfl⟩
theorem d_X7_fits_61 : Dc m_X7_fits 61 (.iload 6) 2 63 := ⟨by decide +kernel, rfl⟩
theorem d_X7_fits_63 : Dc m_X7_fits 63 (.ifCond .ne 7) 3 66 := ⟨by decide +kernel, rfl⟩
theorem d_X7_fits_66 : Dc m_X7_fits 66 (.iconst 1) 1 67 := ⟨by decide +kernel, rfl⟩
theorem d_X7_fits_67 : Dc m_X7_fits 67 (.goto 4) 3 70 := ⟨by decide +kernel, rfl⟩
theorem d_X7_fits_70 : Dc m_X7_fits 70 (.iconst 0) 1 71 := ⟨by decide +kernel, rfl⟩
theorem d_X7_fits_71 : Dc m_X7_fits 71 (.istore 8) 2 73 := ⟨by decide +kernel, rfl⟩
theorem d_X7_fits_73 : Dc m_X7_fits 73 (.iload 6) 2 75 := ⟨by decide +kernel, rfl⟩
theorem d_X7_fits_75 : Dc m_X7_fits 75 (.ifCond .ne 7) 3 78 := ⟨by decide +kernel, rfl⟩
theorem d_X7_fits_78 : Dc m_X7_fits 78 (.iconst 5) 1 79 := ⟨by decide +kernel, rfl⟩
theorem d_X7_fits_79 : Dc m_X7_fits 79 (.goto 16) 3 82 := ⟨by decide +kernel, rfl⟩
theorem d_X7_fits_82 : Dc m_X7_fits 82 (.iload 6) 2 84 := ⟨by decide +kernel, rfl⟩
theorem d_X7_fits_84 : Dc m_X7_fits 84 (.iconst 1) 1 85 := ⟨by decide +kernel, rfl⟩
theorem d_X7_fits_85 : Dc m_X7_fits 85 (.if_icmp .ne 8) 3 88 := ⟨by decide +kernel, rfl⟩
theorem d_X7_fits_88 : Dc m_X7_fits 88 (.bipush 9) 2 90 := ⟨by decide +kernel, rfl⟩
theorem d_X7_fits_90 : Dc m_X7_fits 90 (.goto 5) 3 93 := ⟨by decide +kernel, rfl⟩
theorem d_X7_fits_93 : Dc m_X7_fits 93 (.bipush 9) 2 95 := ⟨by decide +kernel, rfl⟩
theorem d_X7_fits_95 : Dc m_X7_fits 95 (.istore 9) 2 97 := ⟨by decide +kernel, rfl⟩
theorem d_X7_fits_97 : Dc m_X7_fits 97 (.iconst 0) 1 98 := ⟨by decide +kernel, rfl⟩
theorem d_X7_fits_98 : Dc m_X7_fits 98 (.istore 10) 2 100 := ⟨by decide +kernel, rfl⟩
theorem d_X7_fits_100 : Dc m_X7_fits 100 (.iload 8) 2 102 := ⟨by decide +kernel, rfl⟩
theorem d_X7_fits_102 : Dc m_X7_fits 102 (.istore 11) 2 104 := ⟨by decide +kernel, rfl⟩
theorem d_X7_fits_104 : Dc m_X7_fits 104 (.iload 11) 2 106 := ⟨by decide +kernel, rfl⟩
theorem d_X7_fits_106 : Dc m_X7_fits 106 (.iload 9) 2 108 := ⟨by decide +kernel, rfl⟩
theorem d_X7_fits_108 : Dc m_X7_fits 108 (.if_icmp .gt 65) 3 111 := ⟨by decide +kernel, rfl⟩
theorem d_X7_fits_111 : Dc m_X7_fits 111 (.aload_n 0) 1 112 := ⟨by decide +kernel, rfl⟩
theorem d_X7_fits_112 : Dc m_X7_fits 112 (.getfield 30) 3 115 := ⟨by decide +kernel, rfl⟩
theorem d_X7_fits_115 : Dc m_X7_fits 115 (.aload_n 0) 1 116 := ⟨by decide +kernel, rfl⟩
theorem d_X7_fits_116 : Dc m_X7_fits 116 (.getfield 26) 3 119 := ⟨by decide +kernel, rfl⟩
theorem d_X7_fits_119 : Dc m_X7_fits 119 (.invokevirtual 137) 3 122 := ⟨by decide +kernel, rfl⟩
theorem d_X7_fits_122 : Dc m_X7_fits 122 (.aload_n 0) 1 123 := ⟨by decide +kernel, rfl⟩
theorem d_X7_fits_123 : Dc m_X7_fits 123 (.getfield 30) 3 126 := ⟨by decide +kernel, rfl⟩
theorem d_X7_fits_126 : Dc m_X7_fits 126 (.iload_n 1) 1 127 := ⟨by decide +kernel, rfl⟩
theorem d_X7_fits_127 : Dc m_X7_fits 127 (.iload 6) 2 129 := ⟨by decide +kernel, rfl⟩
theorem d_X7_fits_129 : Dc m_X7_fits 129 (.iload 11) 2 131 := ⟨by decide +kernel, rfl⟩
theorem d_X7_fits_131 : Dc m_X7_fits 131 (.invokevirtual 233) 3 134 := ⟨by decide +kernel, rfl⟩
theorem d_X7_fits_134 : Dc m_X7_fits 134 (.aload_n 0) 1 135 := ⟨by decide +kernel, rfl⟩
theorem d_X7_fits_135 : Dc m_X7_fits 135 (.getfield 30) 3 138 := ⟨by decide +kernel, rfl⟩
theorem d_X7_fits_138 : Dc m_X7_fits 138 (.aload_n 0) 1 139 := ⟨by decide +kernel, rfl⟩
theorem d_X7_fits_139 : Dc m_X7_fits 139 (.getfield 10) 3 142 := ⟨by decide +kernel, rfl⟩
theorem d_X7_fits_142 : Dc m_X7_fits 142 (.getfield 101) 3 145 := ⟨by decide +kernel, rfl⟩
theorem d_X7_fits_145 : Dc m_X7_fits 145 (.iload_n 2) 1 146 := ⟨by decide +kernel, rfl⟩
theorem d_X7_fits_146 : Dc m_X7_fits 146 (.aaload) 1 147 := ⟨by decide +kernel, rfl⟩
theorem d_X7_fits_147 : Dc m_X7_fits 147 (.iload_n 3) 1 148 := ⟨by decide +kernel, rfl⟩
theorem d_X7_fits_148 : Dc m_X7_fits 148 (.iload 4) 2 150 := ⟨by decide +kernel, rfl⟩
theorem d_X7_fits_150 : Dc m_X7_fits 150 (.invokevirtual 236) 3 153 := ⟨by decide +kernel, rfl⟩
theorem d_X7_fits_153 : Dc m_X7_fits 153 (.iload 5) 2 155 := ⟨by decide +kernel, rfl⟩
theorem d_X7_fits_155 : Dc m_X7_fits 155 (.if_icmp .ne 12) 3 158 := ⟨by decide +kernel, rfl⟩
theorem d_X7_fits_158 : Dc m_X7_fits 158 (.iload 10) 2 160 := ⟨by decide +kernel, rfl⟩
theorem d_X7_fits_160 : Dc m_X7_fits 160 (.iconst 1) 1 161 := ⟨by decide +kernel, rfl⟩
theorem d_X7_fits_161 : Dc m_X7_fits 161 (.iload 11) 2 163 := ⟨by decide +kernel, rfl⟩
theorem d_X7_fits_163 : Dc m_X7_fits 163 (.ishl) 1 164 := ⟨by decide +kernel, rfl⟩
theorem d_X7_fits_164 : Dc m_X7_fits 164 (.ior) 1 165 := ⟨by decide +kernel, rfl⟩
theorem d_X7_fits_165 : Dc m_X7_fits 165 (.istore 10) 2 167 := ⟨by decide +kernel, rfl⟩
theorem d_X7_fits_167 : Dc m_X7_fits 167 (.iinc 11 1) 3 170 := ⟨by decide +kernel, rfl⟩
theorem d_X7_fits_170 : Dc m_X7_fits 170 (.goto (-66)) 3 173 := ⟨by decide +kernel, rfl⟩
theorem d_X7_fits_173 : Dc m_X7_fits 173 (.aload_n 0) 1 174 := ⟨by decide +kernel, rfl⟩
theorem d_X7_fits_174 : Dc m_X7_fits 174 (.iload 10) 2 176 := ⟨by decide +kernel, rfl⟩
theorem d_X7_fits_176 : Dc m_X7_fits 176 (.invokevirtual 80) 3 179 := ⟨by decide +kernel, rfl⟩
theorem d_X7_fits_179 : Dc m_X7_fits 179 (.ireturn) 1 180 := ⟨by decide +kernel, rfl⟩
theorem d_X7_lost_0 : Dc m_X7_lost 0 (.aload_n 0) 1 1 := ⟨by decide +kernel, rfl⟩
theorem d_X7_lost_1 : Dc m_X7_lost 1 (.getfield 26) 3 4 := ⟨by decide +kernel, rfl⟩
theorem d_X7_lost_4 : Dc m_X7_lost 4 (.getfield 130) 3 7 := ⟨by decide +kernel, rfl⟩
theorem d_X7_lost_7 : Dc m_X7_lost 7 (.ifCond .ne 6) 3 10 := ⟨by decide +kernel, rfl⟩
theorem d_X7_lost_10 : Dc m_X7_lost 10 (.ldc 156) 2 12 := ⟨by decide +kernel, rfl⟩
theorem d_X7_lost_12 : Dc m_X7_lost 12 (.ireturn) 1 13 := ⟨by decide +kernel, rfl⟩
theorem d_X7_lost_13 : Dc m_X7_lost 13 (.iload_n 1) 1 14 := ⟨by decide +kernel, rfl⟩
theorem d_X7_lost_14 : Dc m_X7_lost 14 (.iload_n 3) 1 15 := ⟨by decide +kernel, rfl⟩
theorem d_X7_lost_15 : Dc m_X7_lost 15 (.iload 5) 2 17 := ⟨by decide +kernel, rfl⟩
theorem d_X7_lost_17 : Dc m_X7_lost 17 (.invokestatic 230) 3 20 := ⟨by decide +kernel, rfl⟩
theorem d_X7_lost_20 : Dc m_X7_lost 20 (.ifCond .eq 26) 3 23 := ⟨by decide +kernel, rfl⟩
theorem d_X7_lost_23 : Dc m_X7_lost 23 (.iload 4) 2 25 := ⟨by decide +kernel, rfl⟩
theorem d_X7_lost_25 : Dc m_X7_lost 25 (.ifCond .lt 21) 3 28 := ⟨by decide +kernel, rfl⟩
theorem d_X7_lost_28 : Dc m_X7_lost 28 (.iload 4) 2 30 := ⟨by decide +kernel, rfl⟩
theorem d_X7_lost_30 : Dc m_X7_lost 30 (.bipush 10) 2 32 := ⟨by decide +kernel, rfl⟩
theorem d_X7_lost_32 : Dc m_X7_lost 32 (.if_icmp .gt 14) 3 35 := ⟨by decide +kernel, rfl⟩
theorem d_X7_lost_35 : Dc m_X7_lost 35 (.iload 6) 2 37 := ⟨by decide +kernel, rfl⟩
theorem d_X7_lost_37 : Dc m_X7_lost 37 (.ifCond .lt 9) 3 40 := ⟨by decide +kernel, rfl⟩
theorem d_X7_lost_40 : Dc m_X7_lost 40 (.iload 6) 2 42 := ⟨by decide +kernel, rfl⟩
theorem d_X7_lost_42 : Dc m_X7_lost 42 (.iconst 1) 1 43 := ⟨by decide +kernel, rfl⟩
theorem d_X7_lost_43 : Dc m_X7_lost 43 (.if_icmp .le 6) 3 46 := ⟨by decide +kernel, rfl⟩
theorem d_X7_lost_46 : Dc m_X7_lost 46 (.ldc 71) 2 48 := ⟨by decide +kernel, rfl⟩
theorem d_X7_lost_48 : Dc m_X7_lost 48 (.ireturn) 1 49 := ⟨by decide +kernel, rfl⟩
theorem d_X7_lost_49 : Dc m_X7_lost 49 (.aload_n 0) 1 50 := ⟨by decide +kernel, rfl⟩
theorem d_X7_lost_50 : Dc m_X7_lost 50 (.getfield 10) 3 53 := ⟨by decide +kernel, rfl⟩
theorem d_X7_lost_53 : Dc m_X7_lost 53 (.iload_n 1) 1 54 := ⟨by decide +kernel, rfl⟩
theorem d_X7_lost_54 : Dc m_X7_lost 54 (.iload_n 2) 1 55 := ⟨by decide +kernel, rfl⟩
theorem d_X7_lost_55 : Dc m_X7_lost 55 (.iload_n 3) 1 56 := ⟨by decide +kernel, rfl⟩
theorem d_X7_lost_56 : Dc m_X7_lost 56 (.invokevirtual 83) 3 59 := ⟨by decide +kernel, rfl⟩
theorem d_X7_lost_59 : Dc m_X7_lost 59 (.istore 7) 2 61 := ⟨by decide +kernel, rfl⟩
theorem d_X7_lost_61 : Dc m_X7_lost 61 (.iload 7) 2 63 := ⟨by decide +kernel, rfl⟩
theorem d_X7_lost_63 : Dc m_X7_lost 63 (.ifCond .eq 10) 3 66 := ⟨by decide +kernel, rfl⟩
theorem d_X7_lost_66 : Dc m_X7_lost 66 (.aload_n 0) 1 67 := ⟨by decide +kernel, rfl⟩
theorem d_X7_lost_67 : Dc m_X7_lost 67 (.iload 7) 2 69 := ⟨by decide +kernel, rfl⟩
theorem d_X7_lost_69 : Dc m_X7_lost 69 (.invokevirtual 72) 3 72 := ⟨by decide +kernel, rfl⟩
theorem d_X7_lost_72 : Dc m_X7_lost 72 (.ireturn) 1 73 := ⟨by decide +kernel, rfl⟩
theorem d_X7_lost_73 : Dc m_X7_lost 73 (.aload_n 0) 1 74 := ⟨by decide +kernel, rfl⟩
theorem d_X7_lost_74 : Dc m_X7_lost 74 (.iload 5) 2 76 := ⟨by decide +kernel, rfl⟩
theorem d_X7_lost_76 : Dc m_X7_lost 76 (.aload_n 0) 1 77 := ⟨by decide +kernel, rfl⟩
theorem d_X7_lost_77 : Dc m_X7_lost 77 (.getfield 10) 3 80 := ⟨by decide +kernel, rfl⟩
theorem d_X7_lost_80 : Dc m_X7_lost 80 (.getfield 101) 3 83 := ⟨by decide +kernel, rfl⟩
theorem d_X7_lost_83 : Dc m_X7_lost 83 (.iload_n 1) 1 84 := ⟨by decide +kernel, rfl⟩
theorem d_X7_lost_84 : Dc m_X7_lost 84 (.aaload) 1 85 := ⟨by decide +kernel, rfl⟩
theorem d_X7_lost_85 : Dc m_X7_lost 85 (.iload_n 2) 1 86 := ⟨by decide +kernel, rfl⟩
theorem d_X7_lost_86 : Dc m_X7_lost 86 (.iload_n 3) 1 87 := ⟨by decide +kernel, rfl⟩
theorem d_X7_lost_87 : Dc m_X7_lost 87 (.invokevirtual 240) 3 90 := ⟨by decide +kernel, rfl⟩
theorem d_X7_lost_90 : Dc m_X7_lost 90 (.istore 8) 2 92 := ⟨by decide +kernel, rfl⟩
theorem d_X7_lost_92 : Dc m_X7_lost 92 (.iload 8) 2 94 := ⟨by decide +kernel, rfl⟩
theorem d_X7_lost_94 : Dc m_X7_lost 94 (.ifCond .ge 7) 3 97 := ⟨by decide +kernel, rfl⟩
theorem d_X7_lost_97 : Dc m_X7_lost 97 (.iconst 0) 1 98 := ⟨by decide +kernel, rfl⟩
theorem d_X7_lost_98 : Dc m_X7_lost 98 (.goto 13) 3 101 := ⟨by decide +kernel, rfl⟩
theorem d_X7_lost_101 : Dc m_X7_lost 101 (.bipush 10) 2 103 := ⟨by decide +kernel, rfl⟩
theorem d_X7_lost_103 : Dc m_X7_lost 103 (.iload 4) 2 105 := ⟨by decide +kernel, rfl⟩
theorem d_X7_lost_105 : Dc m_X7_lost 105 (.isub) 1 106 := ⟨by decide +kernel, rfl⟩
theorem d_X7_lost_106 : Dc m_X7_lost 106 (.iload 8) 2 108 := ⟨by decide +kernel, rfl⟩
theorem d_X7_lost_108 : Dc m_X7_lost 108 (.invokestatic 244) 3 111 := ⟨by decide +kernel, rfl⟩
theorem d_X7_lost_111 : Dc m_X7_lost 111 (.istore 9) 2 113 := ⟨by decide +kernel, rfl⟩
theorem d_X7_lost_113 : Dc m_X7_lost 113 (.iload 8) 2 115 := ⟨by decide +kernel, rfl⟩
theorem d_X7_lost_115 : Dc m_X7_lost 115 (.ifCond .ge 7) 3 118 := ⟨by decide +kernel, rfl⟩
theorem d_X7_lost_118 : Dc m_X7_lost 118 (.iconst 1) 1 119 := ⟨by decide +kernel, rfl⟩
theorem d_X7_lost_119 : Dc m_X7_lost 119 (.goto 10) 3 122 := ⟨by decide +kernel, rfl⟩
theorem d_X7_lost_122 : Dc m_X7_lost 122 (.bipush 10) 2 124 := ⟨by decide +kernel, rfl⟩
theorem d_X7_lost_124 : Dc m_X7_lost 124 (.iload 8) 2 126 := ⟨by decide +kernel, rfl⟩
theorem d_X7_lost_126 : Dc m_X7_lost 126 (.invokestatic 244) 3 129 := ⟨by decide +kernel, rfl⟩
theorem d_X7_lost_129 : Dc m_X7_lost 129 (.istore 10) 2 131 := ⟨by decide +kernel, rfl⟩
theorem d_X7_lost_131 : Dc m_X7_lost 131 (.iconst 1) 1 132 := ⟨by decide +kernel, rfl⟩
theorem d_X7_lost_132 : Dc m_X7_lost 132 (.iload 9) 2 134 := ⟨by decide +kernel, rfl⟩
theorem d_X7_lost_134 : Dc m_X7_lost 134 (.iload 10) 2 136 := ⟨by decide +kernel, rfl⟩
theorem d_X7_lost_136 : Dc m_X7_lost 136 (.invokestatic 248) 3 139 := ⟨by decide +kernel, rfl⟩
theorem d_X7_lost_139 : Dc m_X7_lost 139 (.invokestatic 251) 3 142 := ⟨by decide +kernel, rfl⟩
theorem d_X7_lost_142 : Dc m_X7_lost 142 (.istore 11) 2 144 := ⟨by decide +kernel, rfl⟩
theorem d_X7_lost_144 : Dc m_X7_lost 144 (.aload_n 0) 1 145 := ⟨by decide +kernel, rfl⟩
theorem d_X7_lost_145 : Dc m_X7_lost 145 (.iload 6) 2 147 := ⟨by decide +kernel, rfl⟩
theorem d_X7_lost_147 : Dc m_X7_lost 147 (.ifCond .ne 8) 3 150 := ⟨by decide +kernel, rfl⟩
theorem d_X7_lost_150 : Dc m_X7_lost 150 (.iload 9) 2 152 := ⟨by decide +kernel, rfl⟩
theorem d_X7_lost_152 : Dc m_X7_lost 152 (.goto 5) 3 155 := ⟨by decide +kernel, rfl⟩
theorem d_X7_lost_155 : Dc m_X7_lost 155 (.iload 10) 2 157 := ⟨by decide +kernel, rfl⟩
theorem d_X7_lost_157 : Dc m_X7_lost 157 (.iload 11) 2 159 := ⟨by decide +kernel, rfl⟩
theorem d_X7_lost_159 : Dc m_X7_lost 159 (.idiv) 1 160 := ⟨by decide +kernel, rfl⟩
theorem d_X7_lost_160 : Dc m_X7_lost 160 (.invokevirtual 80) 3 163 := ⟨by decide +kernel, rfl⟩
theorem d_X7_lost_163 : Dc m_X7_lost 163 (.ireturn) 1 164 := ⟨by decide +kernel, rfl⟩
theorem d_X7_drawn_0 : Dc m_X7_drawn 0 (.aload_n 0) 1 1 := ⟨by decide +kernel, rfl⟩
theorem d_X7_drawn_1 : Dc m_X7_drawn 1 (.getfield 26) 3 4 := ⟨by decide +kernel, rfl⟩
theorem d_X7_drawn_4 : Dc m_X7_drawn 4 (.getfield 130) 3 7 := ⟨by decide +kernel, rfl⟩
theorem d_X7_drawn_7 : Dc m_X7_drawn 7 (.ifCond .ne 6) 3 10 := ⟨by decide +kernel, rfl⟩
theorem d_X7_drawn_10 : Dc m_X7_drawn 10 (.ldc 156) 2 12 := ⟨by decide +kernel, rfl⟩
theorem d_X7_drawn_12 : Dc m_X7_drawn 12 (.ireturn) 1 13 := ⟨by decide +kernel, rfl⟩
theorem d_X7_drawn_13 : Dc m_X7_drawn 13 (.iload_n 1) 1 14 := ⟨by decide +kernel, rfl⟩
theorem d_X7_drawn_14 : Dc m_X7_drawn 14 (.ifCond .lt 30) 3 17 := ⟨by decide +kernel, rfl⟩
theorem d_X7_drawn_17 : Dc m_X7_drawn 17 (.iload_n 1) 1 18 := ⟨by decide +kernel, rfl⟩
theorem d_X7_drawn_18 : Dc m_X7_drawn 18 (.bipush 60) 2 20 := ⟨by decide +kernel, rfl⟩
theorem d_X7_drawn_20 : Dc m_X7_drawn 20 (.if_icmp .gt 24) 3 23 := ⟨by decide +kernel, rfl⟩
theorem d_X7_drawn_23 : Dc m_X7_drawn 23 (.iload_n 2) 1 24 := ⟨by decide +kernel, rfl⟩
theorem d_X7_drawn_24 : Dc m_X7_drawn 24 (.iconst 1) 1 25 := ⟨by decide +kernel, rfl⟩
theorem d_X7_drawn_25 : Dc m_X7_drawn 25 (.if_icmp .lt 19) 3 28 := ⟨by decide +kernel, rfl⟩
theorem d_X7_drawn_28 : Dc m_X7_drawn 28 (.iload_n 2) 1 29 := ⟨by decide +kernel, rfl⟩
theorem d_X7_drawn_29 : Dc m_X7_drawn 29 (.ldc_w 256) 3 32 := ⟨by decide +kernel, rfl⟩
theorem d_X7_drawn_32 : Dc m_X7_drawn 32 (.if_icmp .gt 12) 3 35 := ⟨by decide +kernel, rfl⟩
theorem d_X7_drawn_35 : Dc m_X7_drawn 35 (.iload_n 3) 1 36 := ⟨by decide +kernel, rfl⟩
theorem d_X7_drawn_36 : Dc m_X7_drawn 36 (.ifCond .lt 8) 3 39 := ⟨by decide +kernel, rfl⟩
theorem d_X7_drawn_39 : Dc m_X7_drawn 39 (.iload_n 3) 1 40 := ⟨by decide +kernel, rfl⟩
theorem d_X7_drawn_40 : Dc m_X7_drawn 40 (.iconst 1) 1 41 := ⟨by decide +kernel, rfl⟩
theorem d_X7_drawn_41 : Dc m_X7_drawn 41 (.if_icmp .le 6) 3 44 := ⟨by decide +kernel, rfl⟩
theorem d_X7_drawn_44 : Dc m_X7_drawn 44 (.ldc 71) 2 46 := ⟨by decide +kernel, rfl⟩
theorem d_X7_drawn_46 : Dc m_X7_drawn 46 (.ireturn) 1 47 := ⟨by decide +kernel, rfl⟩
theorem d_X7_drawn_47 : Dc m_X7_drawn 47 (.aload_n 0) 1 48 := ⟨by decide +kernel, rfl⟩
theorem d_X7_drawn_48 : Dc m_X7_drawn 48 (.getfield 30) 3 51 := ⟨by decide +kernel, rfl⟩
theorem d_X7_drawn_51 : Dc m_X7_drawn 51 (.aload_n 0) 1 52 := ⟨by decide +kernel, rfl⟩
theorem d_X7_drawn_52 : Dc m_X7_drawn 52 (.getfield 26) 3 55 := ⟨by decide +kernel, rfl⟩
theorem d_X7_drawn_55 : Dc m_X7_drawn 55 (.invokevirtual 137) 3 58 := ⟨by decide +kernel, rfl⟩
theorem d_X7_drawn_58 : Dc m_X7_drawn 58 (.iload_n 2) 1 59 := ⟨by decide +kernel, rfl⟩
theorem d_X7_drawn_59 : Dc m_X7_drawn 59 (.i2l) 1 60 := ⟨by decide +kernel, rfl⟩
theorem d_X7_drawn_60 : Dc m_X7_drawn 60 (.lstore 4) 2 62 := ⟨by decide +kernel, rfl⟩
theorem d_X7_drawn_62 : Dc m_X7_drawn 62 (.iconst 0) 1 63 := ⟨by decide +kernel, rfl⟩
theorem d_X7_drawn_63 : Dc m_X7_drawn 63 (.istore 6) 2 65 := ⟨by decide +kernel, rfl⟩
theorem d_X7_drawn_65 : Dc m_X7_drawn 65 (.iload 6) 2 67 := ⟨by decide +kernel, rfl⟩
theorem d_X7_drawn_67 : Dc m_X7_drawn 67 (.iload_n 1) 1 68 := ⟨by decide +kernel, rfl⟩
theorem d_X7_drawn_68 : Dc m_X7_drawn 68 (.if_icmp .ge 87) 3 71 := ⟨by decide +kernel, rfl⟩
theorem d_X7_drawn_71 : Dc m_X7_drawn 71 (.lload 4) 2 73 := ⟨by decide +kernel, rfl⟩
theorem d_X7_drawn_73 : Dc m_X7_drawn 73 (.ldc2_w 257) 3 76 := ⟨by decide +kernel, rfl⟩
theorem d_X7_drawn_76 : Dc m_X7_drawn 76 (.lmul) 1 77 := ⟨by decide +kernel, rfl⟩
theorem d_X7_drawn_77 : Dc m_X7_drawn 77 (.ldc2_w 259) 3 80 := ⟨by decide +kernel, rfl⟩
theorem d_X7_drawn_80 : Dc m_X7_drawn 80 (.lrem) 1 81 := ⟨by decide +kernel, rfl⟩
theorem d_X7_drawn_81 : Dc m_X7_drawn 81 (.lstore 4) 2 83 := ⟨by decide +kernel, rfl⟩
theorem d_X7_drawn_83 : Dc m_X7_drawn 83 (.aload_n 0) 1 84 := ⟨by decide +kernel, rfl⟩
theorem d_X7_drawn_84 : Dc m_X7_drawn 84 (.getfield 30) 3 87 := ⟨by decide +kernel, rfl⟩
theorem d_X7_drawn_87 : Dc m_X7_drawn 87 (.getfield 144) 3 90 := ⟨by decide +kernel, rfl⟩
theorem d_X7_drawn_90 : Dc m_X7_drawn 90 (.ifCond .le 18) 3 93 := ⟨by decide +kernel, rfl⟩
theorem d_X7_drawn_93 : Dc m_X7_drawn 93 (.lload 4) 2 95 := ⟨by decide +kernel, rfl⟩
theorem d_X7_drawn_95 : Dc m_X7_drawn 95 (.aload_n 0) 1 96 := ⟨by decide +kernel, rfl⟩
theorem d_X7_drawn_96 : Dc m_X7_drawn 96 (.getfield 30) 3 99 := ⟨by decide +kernel, rfl⟩
theorem d_X7_drawn_99 : Dc m_X7_drawn 99 (.getfield 144) 3 102 := ⟨by decide +kernel, rfl⟩
theorem d_X7_drawn_102 : Dc m_X7_drawn 102 (.i2l) 1 103 := ⟨by decide +kernel, rfl⟩
theorem d_X7_drawn_103 : Dc m_X7_drawn 103 (.lrem) 1 104 := ⟨by decide +kernel, rfl⟩
theorem d_X7_drawn_104 : Dc m_X7_drawn 104 (.l2i) 1 105 := ⟨by decide +kernel, rfl⟩
theorem d_X7_drawn_105 : Dc m_X7_drawn 105 (.goto 4) 3 108 := ⟨by decide +kernel, rfl⟩
theorem d_X7_drawn_108 : Dc m_X7_drawn 108 (.iconst (-1)) 1 109 := ⟨by decide +kernel, rfl⟩
theorem d_X7_drawn_109 : Dc m_X7_drawn 109 (.istore 7) 2 111 := ⟨by decide +kernel, rfl⟩
theorem d_X7_drawn_111 : Dc m_X7_drawn 111 (.aload_n 0) 1 112 := ⟨by decide +kernel, rfl⟩
theorem d_X7_drawn_112 : Dc m_X7_drawn 112 (.getfield 30) 3 115 := ⟨by decide +kernel, rfl⟩
theorem d_X7_drawn_115 : Dc m_X7_drawn 115 (.iload 7) 2 117 := ⟨by decide +kernel, rfl⟩
theorem d_X7_drawn_117 : Dc m_X7_drawn 117 (.invokevirtual 153) 3 120 := ⟨by decide +kernel, rfl⟩
theorem d_X7_drawn_120 : Dc m_X7_drawn 120 (.ifCond .eq 16) 3 123 := ⟨by decide +kernel, rfl⟩
theorem d_X7_drawn_123 : Dc m_X7_drawn 123 (.aload_n 0) 1 124 := ⟨by decide +kernel, rfl⟩
theorem d_X7_drawn_124 : Dc m_X7_drawn 124 (.getfield 30) 3 127 := ⟨by decide +kernel, rfl⟩
theorem d_X7_drawn_127 : Dc m_X7_drawn 127 (.iload 7) 2 129 := ⟨by decide +kernel, rfl⟩
theorem d_X7_drawn_129 : Dc m_X7_drawn 129 (.invokevirtual 161) 3 132 := ⟨by decide +kernel, rfl⟩
theorem d_X7_drawn_132 : Dc m_X7_drawn 132 (.pop) 1 133 := ⟨by decide +kernel, rfl⟩
theorem d_X7_drawn_133 : Dc m_X7_drawn 133 (.goto 16) 3 136 := ⟨by decide +kernel, rfl⟩
theorem d_X7_drawn_136 : Dc m_X7_drawn 136 (.aload_n 0) 1 137 := ⟨by decide +kernel, rfl⟩
theorem d_X7_drawn_137 : Dc m_X7_drawn 137 (.getfield 30) 3 140 := ⟨by decide +kernel, rfl⟩
theorem d_X7_drawn_140 : Dc m_X7_drawn 140 (.dup) 1 141 := ⟨by decide +kernel, rfl⟩
theorem d_X7_drawn_141 : Dc m_X7_drawn 141 (.getfield 164) 3 144 := ⟨by decide +kernel, rfl⟩
theorem d_X7_drawn_144 : Dc m_X7_drawn 144 (.iconst 1) 1 145 := ⟨by decide +kernel, rfl⟩
theorem d_X7_drawn_145 : Dc m_X7_drawn 145 (.iadd) 1 146 := ⟨by decide +kernel, rfl⟩
theorem d_X7_drawn_146 : Dc m_X7_drawn 146 (.putfield 164) 3 149 := ⟨by decide +kernel, rfl⟩
theorem d_X7_drawn_149 : Dc m_X7_drawn 149 (.iinc 6 1) 3 152 := ⟨by decide +kernel, rfl⟩
theorem d_X7_drawn_152 : Dc m_X7_drawn 152 (.goto (-87)) 3 155 := ⟨by decide +kernel, rfl⟩
theorem d_X7_drawn_155 : Dc m_X7_drawn 155 (.iload_n 3) 1 156 := ⟨by decide +kernel, rfl⟩
theorem d_X7_drawn_156 : Dc m_X7_drawn 156 (.ifCond .ne 13) 3 159 := ⟨by decide +kernel, rfl⟩
theorem d_X7_drawn_159 : Dc m_X7_drawn 159 (.aload_n 0) 1 160 := ⟨by decide +kernel, rfl⟩
theorem d_X7_drawn_160 : Dc m_X7_drawn 160 (.getfield 30) 3 163 := ⟨by decide +kernel, rfl⟩
theorem d_X7_drawn_163 : Dc m_X7_drawn 163 (.getfield 261) 3 166 := ⟨by decide +kernel, rfl⟩
theorem d_X7_drawn_166 : Dc m_X7_drawn 166 (.goto 10) 3 169 := ⟨by decide +kernel, rfl⟩
theorem d_X7_drawn_169 : Dc m_X7_drawn 169 (.aload_n 0) 1 170 := ⟨by decide +kernel, rfl⟩
theorem d_X7_drawn_170 : Dc m_X7_drawn 170 (.getfield 30) 3 173 := ⟨by decide +kernel, rfl⟩
theorem d_X7_drawn_173 : Dc m_X7_drawn 173 (.getfield 264) 3 176 := ⟨by decide +kernel, rfl⟩
theorem d_X7_drawn_176 : Dc m_X7_drawn 176 (.ireturn) 1 177 := ⟨by decide +kernel, rfl⟩
theorem d_X7_image_0 : Dc m_X7_image 0 (.iload_n 1) 1 1 := ⟨by decide +kernel, rfl⟩
theorem d_X7_image_1 : Dc m_X7_image 1 (.ifCond .lt 8) 3 4 := ⟨by decide +kernel, rfl⟩
theorem d_X7_image_4 : Dc m_X7_image 4 (.iload_n 1) 1 5 := ⟨by decide +kernel, rfl⟩
theorem d_X7_image_5 : Dc m_X7_image 5 (.iconst 1) 1 6 := ⟨by decide +kernel, rfl⟩
theorem d_X7_image_6 : Dc m_X7_image 6 (.if_icmp .le 6) 3 9 := ⟨by decide +kernel, rfl⟩
theorem d_X7_image_9 : Dc m_X7_image 9 (.ldc 71) 2 11 := ⟨by decide +kernel, rfl⟩
theorem d_X7_image_11 : Dc m_X7_image 11 (.ireturn) 1 12 := ⟨by decide +kernel, rfl⟩
theorem d_X7_image_12 : Dc m_X7_image 12 (.aload_n 0) 1 13 := ⟨by decide +kernel, rfl⟩
theorem d_X7_image_13 : Dc m_X7_image 13 (.getfield 26) 3 16 := ⟨by decide +kernel, rfl⟩
theorem d_X7_image_16 : Dc m_X7_image 16 (.getfield 130) 3 19 := ⟨by decide +kernel, rfl⟩
theorem d_X7_image_19 : Dc m_X7_image 19 (.ifCond .ne 6) 3 22 := ⟨by decide +kernel, rfl⟩
theorem d_X7_image_22 : Dc m_X7_image 22 (.ldc 156) 2 24 := ⟨by decide +kernel, rfl⟩
theorem d_X7_image_24 : Dc m_X7_image 24 (.ireturn) 1 25 := ⟨by decide +kernel, rfl⟩
theorem d_X7_image_25 : Dc m_X7_image 25 (.aload_n 0) 1 26 := ⟨by decide +kernel, rfl⟩
theorem d_X7_image_26 : Dc m_X7_image 26 (.iload_n 1) 1 27 := ⟨by decide +kernel, rfl⟩
theorem d_X7_image_27 : Dc m_X7_image 27 (.invokevirtual 267) 3 30 := ⟨by decide +kernel, rfl⟩
theorem d_X7_image_30 : Dc m_X7_image 30 (.aload_n 0) 1 31 := ⟨by decide +kernel, rfl⟩
theorem d_X7_image_31 : Dc m_X7_image 31 (.getfield 26) 3 34 := ⟨by decide +kernel, rfl⟩
theorem d_X7_image_34 : Dc m_X7_image 34 (.invokevirtual 137) 3 37 := ⟨by decide +kernel, rfl⟩
theorem d_X7_image_37 : Dc m_X7_image 37 (.iconst 1) 1 38 := ⟨by decide +kernel, rfl⟩
theorem d_X7_image_38 : Dc m_X7_image 38 (.ireturn) 1 39 := ⟨by decide +kernel, rfl⟩
theorem d_X7_restore_0 : Dc m_X7_restore 0 (.iload_n 1) 1 1 := ⟨by decide +kernel, rfl⟩
theorem d_X7_restore_1 : Dc m_X7_restore 1 (.ifCond .lt 8) 3 4 := ⟨by decide +kernel, rfl⟩
theorem d_X7_restore_4 : Dc m_X7_restore 4 (.iload_n 1) 1 5 := ⟨by decide +kernel, rfl⟩
theorem d_X7_restore_5 : Dc m_X7_restore 5 (.iconst 1) 1 6 := ⟨by decide +kernel, rfl⟩
theorem d_X7_restore_6 : Dc m_X7_restore 6 (.if_icmp .le 6) 3 9 := ⟨by decide +kernel, rfl⟩
theorem d_X7_restore_9 : Dc m_X7_restore 9 (.ldc 71) 2 11 := ⟨by decide +kernel, rfl⟩
theorem d_X7_restore_11 : Dc m_X7_restore 11 (.ireturn) 1 12 := ⟨by decide +kernel, rfl⟩
theorem d_X7_restore_12 : Dc m_X7_restore 12 (.aload_n 0) 1 13 := ⟨by decide +kernel, rfl⟩
theorem d_X7_restore_13 : Dc m_X7_restore 13 (.iload_n 1) 1 14 := ⟨by decide +kernel, rfl⟩
theorem d_X7_restore_14 : Dc m_X7_restore 14 (.invokevirtual 267) 3 17 := ⟨by decide +kernel, rfl⟩
theorem d_X7_restore_17 : Dc m_X7_restore 17 (.getfield 130) 3 20 := ⟨by decide +kernel, rfl⟩
theorem d_X7_restore_20 : Dc m_X7_restore 20 (.ifCond .ne 6) 3 23 := ⟨by decide +kernel, rfl⟩
theorem d_X7_restore_23 : Dc m_X7_restore 23 (.ldc 156) 2 25 := ⟨by decide +kernel, rfl⟩
theorem d_X7_restore_25 : Dc m_X7_restore 25 (.ireturn) 1 26 := ⟨by decide +kernel, rfl⟩
theorem d_X7_restore_26 : Dc m_X7_restore 26 (.aload_n 0) 1 27 := ⟨by decide +kernel, rfl⟩
theorem d_X7_restore_27 : Dc m_X7_restore 27 (.getfield 26) 3 30 := ⟨by decide +kernel, rfl⟩
theorem d_X7_restore_30 : Dc m_X7_restore 30 (.aload_n 0) 1 31 := ⟨by decide +kernel, rfl⟩
theorem d_X7_restore_31 : Dc m_X7_restore 31 (.iload_n 1) 1 32 := ⟨by decide +kernel, rfl⟩
theorem d_X7_restore_32 : Dc m_X7_restore 32 (.invokevirtual 267) 3 35 := ⟨by decide +kernel, rfl⟩
theorem d_X7_restore_35 : Dc m_X7_restore 35 (.invokevirtual 137) 3 38 := ⟨by decide +kernel, rfl⟩
theorem d_X7_restore_38 : Dc m_X7_restore 38 (.aload_n 0) 1 39 := ⟨by decide +kernel, rfl⟩
theorem d_X7_restore_39 : Dc m_X7_restore 39 (.getfield 42) 3 42 := ⟨by decide +kernel, rfl⟩
theorem d_X7_restore_42 : Dc m_X7_restore 42 (.invokevirtual 141) 3 45 := ⟨by decide +kernel, rfl⟩
theorem d_X7_restore_45 : Dc m_X7_restore 45 (.iconst 1) 1 46 := ⟨by decide +kernel, rfl⟩
theorem d_X7_restore_46 : Dc m_X7_restore 46 (.ireturn) 1 47 := ⟨by decide +kernel, rfl⟩
theorem d_X7_kind_0 : Dc m_X7_kind 0 (.aload_n 0) 1 1 := ⟨by decide +kernel, rfl⟩
theorem d_X7_kind_1 : Dc m_X7_kind 1 (.getfield 26) 3 4 := ⟨by decide +kernel, rfl⟩
theorem d_X7_kind_4 : Dc m_X7_kind 4 (.iload_n 1) 1 5 := ⟨by decide +kernel, rfl⟩
theorem d_X7_kind_5 : Dc m_X7_kind 5 (.invokevirtual 150) 3 8 := ⟨by decide +kernel, rfl⟩
theorem d_X7_kind_8 : Dc m_X7_kind 8 (.ifCond .eq 15) 3 11 := ⟨by decide +kernel, rfl⟩
theorem d_X7_kind_11 : Dc m_X7_kind 11 (.aload_n 0) 1 12 := ⟨by decide +kernel, rfl⟩
theorem d_X7_kind_12 : Dc m_X7_kind 12 (.getfield 26) 3 15 := ⟨by decide +kernel, rfl⟩
theorem d_X7_kind_15 : Dc m_X7_kind 15 (.getfield 271) 3 18 := ⟨by decide +kernel, rfl⟩
theorem d_X7_kind_18 : Dc m_X7_kind 18 (.iload_n 1) 1 19 := ⟨by decide +kernel, rfl⟩
theorem d_X7_kind_19 : Dc m_X7_kind 19 (.iaload) 1 20 := ⟨by decide +kernel, rfl⟩
theorem d_X7_kind_20 : Dc m_X7_kind 20 (.goto 5) 3 23 := ⟨by decide +kernel, rfl⟩
theorem d_X7_kind_23 : Dc m_X7_kind 23 (.ldc 71) 2 25 := ⟨by decide +kernel, rfl⟩
theorem d_X7_kind_25 : Dc m_X7_kind 25 (.ireturn) 1 26 := ⟨by decide +kernel, rfl⟩
theorem d_X7_as_0 : Dc m_X7_as 0 (.aload_n 0) 1 1 := ⟨by decide +kernel, rfl⟩
theorem d_X7_as_1 : Dc m_X7_as 1 (.getfield 26) 3 4 := ⟨by decide +kernel, rfl⟩
theorem d_X7_as_4 : Dc m_X7_as 4 (.iload_n 1) 1 5 := ⟨by decide +kernel, rfl⟩
theorem d_X7_as_5 : Dc m_X7_as 5 (.invokevirtual 150) 3 8 := ⟨by decide +kernel, rfl⟩
theorem d_X7_as_8 : Dc m_X7_as 8 (.ifCond .eq 13) 3 11 := ⟨by decide +kernel, rfl⟩
theorem d_X7_as_11 : Dc m_X7_as 11 (.iload_n 2) 1 12 := ⟨by decide +kernel, rfl⟩
theorem d_X7_as_12 : Dc m_X7_as 12 (.ifCond .lt 9) 3 15 := ⟨by decide +kernel, rfl⟩
theorem d_X7_as_15 : Dc m_X7_as 15 (.iload_n 2) 1 16 := ⟨by decide +kernel, rfl⟩
theorem d_X7_as_16 : Dc m_X7_as 16 (.bipush 6) 2 18 := ⟨by decide +kernel, rfl⟩
theorem d_X7_as_18 : Dc m_X7_as 18 (.if_icmp .lt 6) 3 21 := ⟨by decide +kernel, rfl⟩
theorem d_X7_as_21 : Dc m_X7_as 21 (.ldc 71) 2 23 := ⟨by decide +kernel, rfl⟩
theorem d_X7_as_23 : Dc m_X7_as 23 (.ireturn) 1 24 := ⟨by decide +kernel, rfl⟩
theorem d_X7_as_24 : Dc m_X7_as 24 (.aload_n 0) 1 25 := ⟨by decide +kernel, rfl⟩
theorem d_X7_as_25 : Dc m_X7_as 25 (.getfield 26) 3 28 := ⟨by decide +kernel, rfl⟩
theorem d_X7_as_28 : Dc m_X7_as 28 (.getfield 271) 3 31 := ⟨by decide +kernel, rfl⟩
theorem d_X7_as_31 : Dc m_X7_as 31 (.iload_n 1) 1 32 := ⟨by decide +kernel, rfl⟩
theorem d_X7_as_32 : Dc m_X7_as 32 (.iaload) 1 33 := ⟨by decide +kernel, rfl⟩
theorem d_X7_as_33 : Dc m_X7_as 33 (.iload_n 2) 1 34 := ⟨by decide +kernel, rfl⟩
theorem d_X7_as_34 : Dc m_X7_as 34 (.invokestatic 274) 3 37 := ⟨by decide +kernel, rfl⟩
theorem d_X7_as_37 : Dc m_X7_as 37 (.ifCond .eq 11) 3 40 := ⟨by decide +kernel, rfl⟩
theorem d_X7_as_40 : Dc m_X7_as 40 (.aload_n 0) 1 41 := ⟨by decide +kernel, rfl⟩
theorem d_X7_as_41 : Dc m_X7_as 41 (.iload_n 1) 1 42 := ⟨by decide +kernel, rfl⟩
theorem d_X7_as_42 : Dc m_X7_as 42 (.invokevirtual 80) 3 45 := ⟨by decide +kernel, rfl⟩
theorem d_X7_as_45 : Dc m_X7_as 45 (.goto 8) 3 48 := ⟨by decide +kernel, rfl⟩
theorem d_X7_as_48 : Dc m_X7_as 48 (.aload_n 0) 1 49 := ⟨by decide +kernel, rfl⟩
theorem d_X7_as_49 : Dc m_X7_as 49 (.iconst 3) 1 50 := ⟨by decide +kernel, rfl⟩
theorem d_X7_as_50 : Dc m_X7_as 50 (.invokevirtual 72) 3 53 := ⟨by decide +kernel, rfl⟩
theorem d_X7_as_53 : Dc m_X7_as 53 (.ireturn) 1 54 := ⟨by decide +kernel, rfl⟩
theorem d_X7_ask_0 : Dc m_X7_ask 0 (.aload_n 0) 1 1 := ⟨by decide +kernel, rfl⟩
theorem d_X7_ask_1 : Dc m_X7_ask 1 (.getfield 26) 3 4 := ⟨by decide +kernel, rfl⟩
theorem d_X7_ask_4 : Dc m_X7_ask 4 (.iload_n 1) 1 5 := ⟨by decide +kernel, rfl⟩
theorem d_X7_ask_5 : Dc m_X7_ask 5 (.invokevirtual 150) 3 8 := ⟨by decide +kernel, rfl⟩
theorem d_X7_ask_8 : Dc m_X7_ask 8 (.ifCond .eq 12) 3 11 := ⟨by decide +kernel, rfl⟩
theorem d_X7_ask_11 : Dc m_X7_ask 11 (.iload_n 2) 1 12 := ⟨by decide +kernel, rfl⟩
theorem d_X7_ask_12 : Dc m_X7_ask 12 (.ifCond .lt 8) 3 15 := ⟨by decide +kernel, rfl⟩
theorem d_X7_ask_15 : Dc m_X7_ask 15 (.iload_n 2) 1 16 := ⟨by decide +kernel, rfl⟩
theorem d_X7_ask_16 : Dc m_X7_ask 16 (.iconst 1) 1 17 := ⟨by decide +kernel, rfl⟩
theorem d_X7_ask_17 : Dc m_X7_ask 17 (.if_icmp .le 6) 3 20 := ⟨by decide +kernel, rfl⟩
theorem d_X7_ask_20 : Dc m_X7_ask 20 (.ldc 71) 2 22 := ⟨by decide +kernel, rfl⟩
theorem d_X7_ask_22 : Dc m_X7_ask 22 (.ireturn) 1 23 := ⟨by decide +kernel, rfl⟩
theorem d_X7_ask_23 : Dc m_X7_ask 23 (.aload_n 0) 1 24 := ⟨by decide +kernel, rfl⟩
theorem d_X7_ask_24 : Dc m_X7_ask 24 (.getfield 63) 3 27 := ⟨by decide +kernel, rfl⟩
theorem d_X7_ask_27 : Dc m_X7_ask 27 (.aload_n 0) 1 28 := ⟨by decide +kernel, rfl⟩
theorem d_X7_ask_28 : Dc m_X7_ask 28 (.getfield 26) 3 31 := ⟨by decide +kernel, rfl⟩
theorem d_X7_ask_31 : Dc m_X7_ask 31 (.iload_n 1) 1 32 := ⟨by decide +kernel, rfl⟩
theorem d_X7_ask_32 : Dc m_X7_ask 32 (.invokevirtual 278) 3 35 := ⟨by decide +kernel, rfl⟩
theorem d_X7_ask_35 : Dc m_X7_ask 35 (.iload_n 2) 1 36 := ⟨by decide +kernel, rfl⟩
theorem d_X7_ask_36 : Dc m_X7_ask 36 (.ifCond .ne 13) 3 39 := ⟨by decide +kernel, rfl⟩
theorem d_X7_ask_39 : Dc m_X7_ask 39 (.aload_n 0) 1 40 := ⟨by decide +kernel, rfl⟩
theorem d_X7_ask_40 : Dc m_X7_ask 40 (.getfield 63) 3 43 := ⟨by decide +kernel, rfl⟩
theorem d_X7_ask_43 : Dc m_X7_ask 43 (.invokevirtual 280) 3 46 := ⟨by decide +kernel, rfl⟩
theorem d_X7_ask_46 : Dc m_X7_ask 46 (.goto 10) 3 49 := ⟨by decide +kernel, rfl⟩
theorem d_X7_ask_49 : Dc m_X7_ask 49 (.aload_n 0) 1 50 := ⟨by decide +kernel, rfl⟩
theorem d_X7_ask_50 : Dc m_X7_ask 50 (.getfield 63) 3 53 := ⟨by decide +kernel, rfl⟩
theorem d_X7_ask_53 : Dc m_X7_ask 53 (.invokevirtual 283) 3 56 := ⟨by decide +kernel, rfl⟩
theorem d_X7_ask_56 : Dc m_X7_ask 56 (.ireturn) 1 57 := ⟨by decide +kernel, rfl⟩
theorem d_X7_trace_0 : Dc m_X7_trace 0 (.iload_n 1) 1 1 := ⟨by decide +kernel, rfl⟩
theorem d_X7_trace_1 : Dc m_X7_trace 1 (.ifCond .lt 26) 3 4 := ⟨by decide +kernel, rfl⟩
theorem d_X7_trace_4 : Dc m_X7_trace 4 (.iload_n 1) 1 5 := ⟨by decide +kernel, rfl⟩
theorem d_X7_trace_5 : Dc m_X7_trace 5 (.aload_n 0) 1 6 := ⟨by decide +kernel, rfl⟩
theorem d_X7_trace_6 : Dc m_X7_trace 6 (.getfield 63) 3 9 := ⟨by decide +kernel, rfl⟩
theorem d_X7_trace_9 : Dc m_X7_trace 9 (.getfield 286) 3 12 := ⟨by decide +kernel, rfl⟩
theorem d_X7_trace_12 : Dc m_X7_trace 12 (.if_icmp .ge 15) 3 15 := ⟨by decide +kernel, rfl⟩
theorem d_X7_trace_15 : Dc m_X7_trace 15 (.aload_n 0) 1 16 := ⟨by decide +kernel, rfl⟩
theorem d_X7_trace_16 : Dc m_X7_trace 16 (.getfield 63) 3 19 := ⟨by decide +kernel, rfl⟩
theorem d_X7_trace_19 : Dc m_X7_trace 19 (.getfield 289) 3 22 := ⟨by decide +kernel, rfl⟩
theorem d_X7_trace_22 : Dc m_X7_trace 22 (.iload_n 1) 1 23 := ⟨by decide +kernel, rfl⟩
theorem d_X7_trace_23 : Dc m_X7_trace 23 (.iaload) 1 24 := ⟨by decide +kernel, rfl⟩
theorem d_X7_trace_24 : Dc m_X7_trace 24 (.goto 5) 3 27 := ⟨by decide +kernel, rfl⟩
theorem d_X7_trace_27 : Dc m_X7_trace 27 (.ldc 185) 2 29 := ⟨by decide +kernel, rfl⟩
theorem d_X7_trace_29 : Dc m_X7_trace 29 (.ireturn) 1 30 := ⟨by decide +kernel, rfl⟩
theorem d_X7_count_0 : Dc m_X7_count 0 (.iload_n 1) 1 1 := ⟨by decide +kernel, rfl⟩
theorem d_X7_count_1 : Dc m_X7_count 1 (.tableswitch 111 0 7 #[47, 55, 63, 71, 79, 87, 95, 103]) 47 48 := ⟨by decide +kernel, rfl⟩
theorem d_X7_count_48 : Dc m_X7_count 48 (.aload_n 0) 1 49 := ⟨by decide +kernel, rfl⟩
theorem d_X7_count_49 : Dc m_X7_count 49 (.getfield 10) 3 52 := ⟨by decide +kernel, rfl⟩
theorem d_X7_count_52 : Dc m_X7_count 52 (.invokevirtual 292) 3 55 := ⟨by decide +kernel, rfl⟩
theorem d_X7_count_55 : Dc m_X7_count 55 (.ireturn) 1 56 := ⟨by decide +kernel, rfl⟩
theorem d_X7_count_56 : Dc m_X7_count 56 (.aload_n 0) 1 57 := ⟨by decide +kernel, rfl⟩
theorem d_X7_count_57 : Dc m_X7_count 57 (.getfield 26) 3 60 := ⟨by decide +kernel, rfl⟩
theorem d_X7_count_60 : Dc m_X7_count 60 (.getfield 144) 3 63 := ⟨by decide +kernel, rfl⟩
theorem d_X7_count_63 : Dc m_X7_count 63 (.ireturn) 1 64 := ⟨by decide +kernel, rfl⟩
theorem d_X7_count_64 : Dc m_X7_count 64 (.aload_n 0) 1 65 := ⟨by decide +kernel, rfl⟩
theorem d_X7_count_65 : Dc m_X7_count 65 (.getfield 26) 3 68 := ⟨by decide +kernel, rfl⟩
theorem d_X7_count_68 : Dc m_X7_count 68 (.getfield 164) 3 71 := ⟨by decide +kernel, rfl⟩
theorem d_X7_count_71 : Dc m_X7_count 71 (.ireturn) 1 72 := ⟨by decide +kernel, rfl⟩
theorem d_X7_count_72 : Dc m_X7_count 72 (.aload_n 0) 1 73 := ⟨by decide +kernel, rfl⟩
theorem d_X7_count_73 : Dc m_X7_count 73 (.getfield 26) 3 76 := ⟨by decide +kernel, rfl⟩
theorem d_X7_count_76 : Dc m_X7_count 76 (.getfield 295) 3 79 := ⟨by decide +kernel, rfl⟩
theorem d_X7_count_79 : Dc m_X7_count 79 (.ireturn) 1 80 := ⟨by decide +kernel, rfl⟩
theorem d_X7_count_80 : Dc m_X7_count 80 (.aload_n 0) 1 81 := ⟨by decide +kernel, rfl⟩
theorem d_X7_count_81 : Dc m_X7_count 81 (.getfield 26) 3 84 := ⟨by decide +kernel, rfl⟩
theorem d_X7_count_84 : Dc m_X7_count 84 (.getfield 264) 3 87 := ⟨by decide +kernel, rfl⟩
theorem d_X7_count_87 : Dc m_X7_count 87 (.ireturn) 1 88 := ⟨by decide +kernel, rfl⟩
theorem d_X7_count_88 : Dc m_X7_count 88 (.aload_n 0) 1 89 := ⟨by decide +kernel, rfl⟩
theorem d_X7_count_89 : Dc m_X7_count 89 (.getfield 26) 3 92 := ⟨by decide +kernel, rfl⟩
theorem d_X7_count_92 : Dc m_X7_count 92 (.getfield 261) 3 95 := ⟨by decide +kernel, rfl⟩
theorem d_X7_count_95 : Dc m_X7_count 95 (.ireturn) 1 96 := ⟨by decide +kernel, rfl⟩
theorem d_X7_count_96 : Dc m_X7_count 96 (.aload_n 0) 1 97 := ⟨by decide +kernel, rfl⟩
theorem d_X7_count_97 : Dc m_X7_count 97 (.getfield 42) 3 100 := ⟨by decide +kernel, rfl⟩
theorem d_X7_count_100 : Dc m_X7_count 100 (.getfield 173) 3 103 := ⟨by decide +kernel, rfl⟩
theorem d_X7_count_103 : Dc m_X7_count 103 (.ireturn) 1 104 := ⟨by decide +kernel, rfl⟩
theorem d_X7_count_104 : Dc m_X7_count 104 (.aload_n 0) 1 105 := ⟨by decide +kernel, rfl⟩
theorem d_X7_count_105 : Dc m_X7_count 105 (.getfield 19) 3 108 := ⟨by decide +kernel, rfl⟩
theorem d_X7_count_108 : Dc m_X7_count 108 (.getfield 117) 3 111 := ⟨by decide +kernel, rfl⟩
theorem d_X7_count_111 : Dc m_X7_count 111 (.ireturn) 1 112 := ⟨by decide +kernel, rfl⟩
theorem d_X7_count_112 : Dc m_X7_count 112 (.ldc 71) 2 114 := ⟨by decide +kernel, rfl⟩
theorem d_X7_count_114 : Dc m_X7_count 114 (.ireturn) 1 115 := ⟨by decide +kernel, rfl⟩
theorem d_X7_status_0 : Dc m_X7_status 0 (.aload_n 0) 1 1 := ⟨by decide +kernel, rfl⟩
theorem d_X7_status_1 : Dc m_X7_status 1 (.getfield 298) 3 4 := ⟨by decide +kernel, rfl⟩
theorem d_X7_status_4 : Dc m_X7_status 4 (.ireturn) 1 5 := ⟨by decide +kernel, rfl⟩
theorem d_X7_found_0 : Dc m_X7_found 0 (.aload_n 0) 1 1 := ⟨by decide +kernel, rfl⟩
theorem d_X7_found_1 : Dc m_X7_found 1 (.iload_n 1) 1 2 := ⟨by decide +kernel, rfl⟩
theorem d_X7_found_2 : Dc m_X7_found 2 (.putfield 298) 3 5 := ⟨by decide +kernel, rfl⟩
theorem d_X7_found_5 : Dc m_X7_found 5 (.ldc_w 301) 3 8 := ⟨by decide +kernel, rfl⟩
theorem d_X7_found_8 : Dc m_X7_found 8 (.iload_n 1) 1 9 := ⟨by decide +kernel, rfl⟩
theorem d_X7_found_9 : Dc m_X7_found 9 (.isub) 1 10 := ⟨by decide +kernel, rfl⟩
theorem d_X7_found_10 : Dc m_X7_found 10 (.ireturn) 1 11 := ⟨by decide +kernel, rfl⟩
theorem d_X7_foundNothing_0 : Dc m_X7_foundNothing 0 (.aload_n 0) 1 1 := ⟨by decide +kernel, rfl⟩
theorem d_X7_foundNothing_1 : Dc m_X7_foundNothing 1 (.iconst 0) 1 2 := ⟨by decide +kernel, rfl⟩
theorem d_X7_foundNothing_2 : Dc m_X7_foundNothing 2 (.putfield 298) 3 5 := ⟨by decide +kernel, rfl⟩
theorem d_X7_foundNothing_5 : Dc m_X7_foundNothing 5 (.iload_n 1) 1 6 := ⟨by decide +kernel, rfl⟩
theorem d_X7_foundNothing_6 : Dc m_X7_foundNothing 6 (.ireturn) 1 7 := ⟨by decide +kernel, rfl⟩
theorem d_X7_isTold_0 : Dc m_X7_isTold 0 (.iload_n 0) 1 1 := ⟨by decide +kernel, rfl⟩
theorem d_X7_isTold_1 : Dc m_X7_isTold 1 (.invokestatic 67) 3 4 := ⟨by decide +kernel, rfl⟩
theorem d_X7_isTold_4 : Dc m_X7_isTold 4 (.ifCond .eq 29) 3 7 := ⟨by decide +kernel, rfl⟩
theorem d_X7_isTold_7 : Dc m_X7_isTold 7 (.iload_n 1) 1 8 := ⟨by decide +kernel, rfl⟩
theorem d_X7_isTold_8 : Dc m_X7_isTold 8 (.iconst 1) 1 9 := ⟨by decide +kernel, rfl⟩
theorem d_X7_isTold_9 : Dc m_X7_isTold 9 (.if_icmp .lt 24) 3 12 := ⟨by decide +kernel, rfl⟩
theorem d_X7_isTold_12 : Dc m_X7_isTold 12 (.iload_n 1) 1 13 := ⟨by decide +kernel, rfl⟩
theorem d_X7_isTold_13 : Dc m_X7_isTold 13 (.bipush 6) 2 15 := ⟨by decide +kernel, rfl⟩
theorem d_X7_isTold_15 : Dc m_X7_isTold 15 (.if_icmp .gt 18) 3 18 := ⟨by decide +kernel, rfl⟩
theorem d_X7_isTold_18 : Dc m_X7_isTold 18 (.iload_n 2) 1 19 := ⟨by decide +kernel, rfl⟩
theorem d_X7_isTold_19 : Dc m_X7_isTold 19 (.ifCond .lt 14) 3 22 := ⟨by decide +kernel, rfl⟩
theorem d_X7_isTold_22 : Dc m_X7_isTold 22 (.iload_n 2) 1 23 := ⟨by decide +kernel, rfl⟩
theorem d_X7_isTold_23 : Dc m_X7_isTold 23 (.sipush 999) 3 26 := ⟨by decide +kernel, rfl⟩
theorem d_X7_isTold_26 : Dc m_X7_isTold 26 (.if_icmp .gt 7) 3 29 := ⟨by decide +kernel, rfl⟩
theorem d_X7_isTold_29 : Dc m_X7_isTold 29 (.iconst 1) 1 30 := ⟨by decide +kernel, rfl⟩
theorem d_X7_isTold_30 : Dc m_X7_isTold 30 (.goto 4) 3 33 := ⟨by decide +kernel, rfl⟩
theorem d_X7_isTold_33 : Dc m_X7_isTold 33 (.iconst 0) 1 34 := ⟨by decide +kernel, rfl⟩
theorem d_X7_isTold_34 : Dc m_X7_isTold 34 (.ireturn) 1 35 := ⟨by decide +kernel, rfl⟩
theorem d_X7_imageNumber_0 : Dc m_X7_imageNumber 0 (.iload_n 1) 1 1 := ⟨by decide +kernel, rfl⟩
theorem d_X7_imageNumber_1 : Dc m_X7_imageNumber 1 (.ifCond .ne 10) 3 4 := ⟨by decide +kernel, rfl⟩
theorem d_X7_imageNumber_4 : Dc m_X7_imageNumber 4 (.aload_n 0) 1 5 := ⟨by decide +kernel, rfl⟩
theorem d_X7_imageNumber_5 : Dc m_X7_imageNumber 5 (.getfield 33) 3 8 := ⟨by decide +kernel, rfl⟩
theorem d_X7_imageNumber_8 : Dc m_X7_imageNumber 8 (.goto 7) 3 11 := ⟨by decide +kernel, rfl⟩
theorem d_X7_imageNumber_11 : Dc m_X7_imageNumber 11 (.aload_n 0) 1 12 := ⟨by decide +kernel, rfl⟩
theorem d_X7_imageNumber_12 : Dc m_X7_imageNumber 12 (.getfield 36) 3 15 := ⟨by decide +kernel, rfl⟩
theorem d_X7_imageNumber_15 : Dc m_X7_imageNumber 15 (.areturn) 1 16 := ⟨by decide +kernel, rfl⟩
theorem d_X7_timesUntil_0 : Dc m_X7_timesUntil 0 (.aload_n 0) 1 1 := ⟨by decide +kernel, rfl⟩
theorem d_X7_timesUntil_1 : Dc m_X7_timesUntil 1 (.getfield 30) 3 4 := ⟨by decide +kernel, rfl⟩
theorem d_X7_timesUntil_4 : Dc m_X7_timesUntil 4 (.aload_n 0) 1 5 := ⟨by decide +kernel, rfl⟩
theorem d_X7_timesUntil_5 : Dc m_X7_timesUntil 5 (.getfield 26) 3 8 := ⟨by decide +kernel, rfl⟩
theorem d_X7_timesUntil_8 : Dc m_X7_timesUntil 8 (.invokevirtual 137) 3 11 := ⟨by decide +kernel, rfl⟩
theorem d_X7_timesUntil_11 : Dc m_X7_timesUntil 11 (.iload_n 1) 1 12 := ⟨by decide +kernel, rfl⟩
theorem d_X7_timesUntil_12 : Dc m_X7_timesUntil 12 (.ifCond .gt 7) 3 15 := ⟨by decide +kernel, rfl⟩
theorem d_X7_timesUntil_15 : Dc m_X7_timesUntil 15 (.iconst 0) 1 16 := ⟨by decide +kernel, rfl⟩
theorem d_X7_timesUntil_16 : Dc m_X7_timesUntil 16 (.goto 4) 3 19 := ⟨by decide +kernel, rfl⟩
theorem d_X7_timesUntil_19 : Dc m_X7_timesUntil 19 (.iconst (-1)) 1 20 := ⟨by decide +kernel, rfl⟩
theorem d_X7_timesUntil_20 : Dc m_X7_timesUntil 20 (.istore 5) 2 22 := ⟨by decide +kernel, rfl⟩
theorem d_X7_timesUntil_22 : Dc m_X7_timesUntil 22 (.iconst 0) 1 23 := ⟨by decide +kernel, rfl⟩
theorem d_X7_timesUntil_23 : Dc m_X7_timesUntil 23 (.istore 6) 2 25 := ⟨by decide +kernel, rfl⟩
theorem d_X7_timesUntil_25 : Dc m_X7_timesUntil 25 (.iconst 0) 1 26 := ⟨by decide +kernel, rfl⟩
theorem d_X7_timesUntil_26 : Dc m_X7_timesUntil 26 (.istore 7) 2 28 := ⟨by decide +kernel, rfl⟩
theorem d_X7_timesUntil_28 : Dc m_X7_timesUntil 28 (.iload 7) 2 30 := ⟨by decide +kernel, rfl⟩
theorem d_X7_timesUntil_30 : Dc m_X7_timesUntil 30 (.iload 4) 2 32 := ⟨by decide +kernel, rfl⟩
theorem d_X7_timesUntil_32 : Dc m_X7_timesUntil 32 (.if_icmp .ge 62) 3 35 := ⟨by decide +kernel, rfl⟩
theorem d_X7_timesUntil_35 : Dc m_X7_timesUntil 35 (.aload_n 2) 1 36 := ⟨by decide +kernel, rfl⟩
theorem d_X7_timesUntil_36 : Dc m_X7_timesUntil 36 (.iload_n 3) 1 37 := ⟨by decide +kernel, rfl⟩
theorem d_X7_timesUntil_37 : Dc m_X7_timesUntil 37 (.iload 7) 2 39 := ⟨by decide +kernel, rfl⟩
theorem d_X7_timesUntil_39 : Dc m_X7_timesUntil 39 (.iadd) 1 40 := ⟨by decide +kernel, rfl⟩
theorem d_X7_timesUntil_40 : Dc m_X7_timesUntil 40 (.iaload) 1 41 := ⟨by decide +kernel, rfl⟩
theorem d_X7_timesUntil_41 : Dc m_X7_timesUntil 41 (.istore 8) 2 43 := ⟨by decide +kernel, rfl⟩
theorem d_X7_timesUntil_43 : Dc m_X7_timesUntil 43 (.aload_n 0) 1 44 := ⟨by decide +kernel, rfl⟩
theorem d_X7_timesUntil_44 : Dc m_X7_timesUntil 44 (.getfield 30) 3 47 := ⟨by decide +kernel, rfl⟩
theorem d_X7_timesUntil_47 : Dc m_X7_timesUntil 47 (.iload 8) 2 49 := ⟨by decide +kernel, rfl⟩
theorem d_X7_timesUntil_49 : Dc m_X7_timesUntil 49 (.invokevirtual 153) 3 52 := ⟨by decide +kernel, rfl⟩
theorem d_X7_timesUntil_52 : Dc m_X7_timesUntil 52 (.ifCond .ne 5) 3 55 := ⟨by decide +kernel, rfl⟩
theorem d_X7_timesUntil_55 : Dc m_X7_timesUntil 55 (.iconst (-1)) 1 56 := ⟨by decide +kernel, rfl⟩
theorem d_X7_timesUntil_56 : Dc m_X7_timesUntil 56 (.ireturn) 1 57 := ⟨by decide +kernel, rfl⟩
theorem d_X7_timesUntil_57 : Dc m_X7_timesUntil 57 (.iload 6) 2 59 := ⟨by decide +kernel, rfl⟩
theorem d_X7_timesUntil_59 : Dc m_X7_timesUntil 59 (.aload_n 0) 1 60 := ⟨by decide +kernel, rfl⟩
theorem d_X7_timesUntil_60 : Dc m_X7_timesUntil 60 (.getfield 30) 3 63 := ⟨by decide +kernel, rfl⟩
theorem d_X7_timesUntil_63 : Dc m_X7_timesUntil 63 (.iload 8) 2 65 := ⟨by decide +kernel, rfl⟩
theorem d_X7_timesUntil_65 : Dc m_X7_timesUntil 65 (.invokevirtual 161) 3 68 := ⟨by decide +kernel, rfl⟩
theorem d_X7_timesUntil_68 : Dc m_X7_timesUntil 68 (.iadd) 1 69 := ⟨by decide +kernel, rfl⟩
theorem d_X7_timesUntil_69 : Dc m_X7_timesUntil 69 (.istore 6) 2 71 := ⟨by decide +kernel, rfl⟩
theorem d_X7_timesUntil_71 : Dc m_X7_timesUntil 71 (.iload 5) 2 73 := ⟨by decide +kernel, rfl⟩
theorem d_X7_timesUntil_73 : Dc m_X7_timesUntil 73 (.ifCond .ge 15) 3 76 := ⟨by decide +kernel, rfl⟩
theorem d_X7_timesUntil_76 : Dc m_X7_timesUntil 76 (.iload 6) 2 78 := ⟨by decide +kernel, rfl⟩
theorem d_X7_timesUntil_78 : Dc m_X7_timesUntil 78 (.iload_n 1) 1 79 := ⟨by decide +kernel, rfl⟩
theorem d_X7_timesUntil_79 : Dc m_X7_timesUntil 79 (.if_icmp .lt 9) 3 82 := ⟨by decide +kernel, rfl⟩
theorem d_X7_timesUntil_82 : Dc m_X7_timesUntil 82 (.iload 7) 2 84 := ⟨by decide +kernel, rfl⟩
theorem d_X7_timesUntil_84 : Dc m_X7_timesUntil 84 (.iconst 1) 1 85 := ⟨by decide +kernel, rfl⟩
theorem d_X7_timesUntil_85 : Dc m_X7_timesUntil 85 (.iadd) 1 86 := ⟨by decide +kernel, rfl⟩
theorem d_X7_timesUntil_86 : Dc m_X7_timesUntil 86 (.istore 5) 2 88 := ⟨by decide +kernel, rfl⟩
theorem d_X7_timesUntil_88 : Dc m_X7_timesUntil 88 (.iinc 7 1) 3 91 := ⟨by decide +kernel, rfl⟩
theorem d_X7_timesUntil_91 : Dc m_X7_timesUntil 91 (.goto (-63)) 3 94 := ⟨by decide +kernel, rfl⟩
theorem d_X7_timesUntil_94 : Dc m_X7_timesUntil 94 (.iload 5) 2 96 := ⟨by decide +kernel, rfl⟩
theorem d_X7_timesUntil_96 : Dc m_X7_timesUntil 96 (.ireturn) 1 97 := ⟨by decide +kernel, rfl⟩
theorem d_X7_power_0 : Dc m_X7_power 0 (.iconst 1) 1 1 := ⟨by decide +kernel, rfl⟩
theorem d_X7_power_1 : Dc m_X7_power 1 (.istore_n 2) 1 2 := ⟨by decide +kernel, rfl⟩
theorem d_X7_power_2 : Dc m_X7_power 2 (.iconst 0) 1 3 := ⟨by decide +kernel, rfl⟩
theorem d_X7_power_3 : Dc m_X7_power 3 (.istore_n 3) 1 4 := ⟨by decide +kernel, rfl⟩
theorem d_X7_power_4 : Dc m_X7_power 4 (.iload_n 3) 1 5 := ⟨by decide +kernel, rfl⟩
theorem d_X7_power_5 : Dc m_X7_power 5 (.iload_n 1) 1 6 := ⟨by decide +kernel, rfl⟩
theorem d_X7_power_6 : Dc m_X7_power 6 (.if_icmp .ge 13) 3 9 := ⟨by decide +kernel, rfl⟩
theorem d_X7_power_9 : Dc m_X7_power 9 (.iload_n 2) 1 10 := ⟨by decide +kernel, rfl⟩
theorem d_X7_power_10 : Dc m_X7_power 10 (.iload_n 0) 1 11 := ⟨by decide +kernel, rfl⟩
theorem d_X7_power_11 : Dc m_X7_power 11 (.imul) 1 12 := ⟨by decide +kernel, rfl⟩
theorem d_X7_power_12 : Dc m_X7_power 12 (.istore_n 2) 1 13 := ⟨by decide +kernel, rfl⟩
theorem d_X7_power_13 : Dc m_X7_power 13 (.iinc 3 1) 3 16 := ⟨by decide +kernel, rfl⟩
theorem d_X7_power_16 : Dc m_X7_power 16 (.goto (-12)) 3 19 := ⟨by decide +kernel, rfl⟩
theorem d_X7_power_19 : Dc m_X7_power 19 (.iload_n 2) 1 20 := ⟨by decide +kernel, rfl⟩
theorem d_X7_power_20 : Dc m_X7_power 20 (.ireturn) 1 21 := ⟨by decide +kernel, rfl⟩
theorem d_X7_commonDivisor_0 : Dc m_X7_commonDivisor 0 (.iload_n 0) 1 1 := ⟨by decide +kernel, rfl⟩
theorem d_X7_commonDivisor_1 : Dc m_X7_commonDivisor 1 (.istore_n 2) 1 2 := ⟨by decide +kernel, rfl⟩
theorem d_X7_commonDivisor_2 : Dc m_X7_commonDivisor 2 (.iload_n 1) 1 3 := ⟨by decide +kernel, rfl⟩
theorem d_X7_commonDivisor_3 : Dc m_X7_commonDivisor 3 (.istore_n 3) 1 4 := ⟨by decide +kernel, rfl⟩
theorem d_X7_commonDivisor_4 : Dc m_X7_commonDivisor 4 (.iconst 0) 1 5 := ⟨by decide +kernel, rfl⟩
theorem d_X7_commonDivisor_5 : Dc m_X7_commonDivisor 5 (.istore 4) 2 7 := ⟨by decide +kernel, rfl⟩
theorem d_X7_commonDivisor_7 : Dc m_X7_commonDivisor 7 (.iload 4) 2 9 := ⟨by decide +kernel, rfl⟩
theorem d_X7_commonDivisor_9 : Dc m_X7_commonDivisor 9 (.bipush 64) 2 11 := ⟨by decide +kernel, rfl⟩
theorem d_X7_commonDivisor_11 : Dc m_X7_commonDivisor 11 (.if_icmp .ge 23) 3 14 := ⟨by decide +kernel, rfl⟩
theorem d_X7_commonDivisor_14 : Dc m_X7_commonDivisor 14 (.iload_n 3) 1 15 := ⟨by decide +kernel, rfl⟩
theorem d_X7_commonDivisor_15 : Dc m_X7_commonDivisor 15 (.ifCond .eq 19) 3 18 := ⟨by decide +kernel, rfl⟩
theorem d_X7_commonDivisor_18 : Dc m_X7_commonDivisor 18 (.iload_n 2) 1 19 := ⟨by decide +kernel, rfl⟩
theorem d_X7_commonDivisor_19 : Dc m_X7_commonDivisor 19 (.iload_n 3) 1 20 := ⟨by decide +kernel, rfl⟩
theorem d_X7_commonDivisor_20 : Dc m_X7_commonDivisor 20 (.irem) 1 21 := ⟨by decide +kernel, rfl⟩
theorem d_X7_commonDivisor_21 : Dc m_X7_commonDivisor 21 (.istore 5) 2 23 := ⟨by decide +kernel, rfl⟩
theorem d_X7_commonDivisor_23 : Dc m_X7_commonDivisor 23 (.iload_n 3) 1 24 := ⟨by decide +kernel, rfl⟩
theorem d_X7_commonDivisor_24 : Dc m_X7_commonDivisor 24 (.istore_n 2) 1 25 := ⟨by decide +kernel, rfl⟩
theorem d_X7_commonDivisor_25 : Dc m_X7_commonDivisor 25 (.iload 5) 2 27 := ⟨by decide +kernel, rfl⟩
theorem d_X7_commonDivisor_27 : Dc m_X7_commonDivisor 27 (.istore_n 3) 1 28 := ⟨by decide +kernel, rfl⟩
theorem d_X7_commonDivisor_28 : Dc m_X7_commonDivisor 28 (.iinc 4 1) 3 31 := ⟨by decide +kernel, rfl⟩
theorem d_X7_commonDivisor_31 : Dc m_X7_commonDivisor 31 (.goto (-24)) 3 34 := ⟨by decide +kernel, rfl⟩
theorem d_X7_commonDivisor_34 : Dc m_X7_commonDivisor 34 (.iload_n 2) 1 35 := ⟨by decide +kernel, rfl⟩
theorem d_X7_commonDivisor_35 : Dc m_X7_commonDivisor 35 (.ireturn) 1 36 := ⟨by decide +kernel, rfl⟩
theorem d_X7_isOfKind_0 : Dc m_X7_isOfKind 0 (.iload_n 0) 1 1 := ⟨by decide +kernel, rfl⟩
theorem d_X7_isOfKind_1 : Dc m_X7_isOfKind 1 (.istore_n 2) 1 2 := ⟨by decide +kernel, rfl⟩
theorem d_X7_isOfKind_2 : Dc m_X7_isOfKind 2 (.iconst 0) 1 3 := ⟨by decide +kernel, rfl⟩
theorem d_X7_isOfKind_3 : Dc m_X7_isOfKind 3 (.istore_n 3) 1 4 := ⟨by decide +kernel, rfl⟩
theorem d_X7_isOfKind_4 : Dc m_X7_isOfKind 4 (.iload_n 3) 1 5 := ⟨by decide +kernel, rfl⟩
theorem d_X7_isOfKind_5 : Dc m_X7_isOfKind 5 (.bipush 6) 2 7 := ⟨by decide +kernel, rfl⟩
theorem d_X7_isOfKind_7 : Dc m_X7_isOfKind 7 (.if_icmp .ge 32) 3 10 := ⟨by decide +kernel, rfl⟩
theorem d_X7_isOfKind_10 : Dc m_X7_isOfKind 10 (.iload_n 2) 1 11 := ⟨by decide +kernel, rfl⟩
theorem d_X7_isOfKind_11 : Dc m_X7_isOfKind 11 (.ifCond .lt 28) 3 14 := ⟨by decide +kernel, rfl⟩
theorem d_X7_isOfKind_14 : Dc m_X7_isOfKind 14 (.iload_n 2) 1 15 := ⟨by decide +kernel, rfl⟩
theorem d_X7_isOfKind_15 : Dc m_X7_isOfKind 15 (.bipush 6) 2 17 := ⟨by decide +kernel, rfl⟩
theorem d_X7_isOfKind_17 : Dc m_X7_isOfKind 17 (.if_icmp .ge 22) 3 20 := ⟨by decide +kernel, rfl⟩
theorem d_X7_isOfKind_20 : Dc m_X7_isOfKind 20 (.iload_n 2) 1 21 := ⟨by decide +kernel, rfl⟩
theorem d_X7_isOfKind_21 : Dc m_X7_isOfKind 21 (.iload_n 1) 1 22 := ⟨by decide +kernel, rfl⟩
theorem d_X7_isOfKind_22 : Dc m_X7_isOfKind 22 (.if_icmp .ne 5) 3 25 := ⟨by decide +kernel, rfl⟩
theorem d_X7_isOfKind_25 : Dc m_X7_isOfKind 25 (.iconst 1) 1 26 := ⟨by decide +kernel, rfl⟩
theorem d_X7_isOfKind_26 : Dc m_X7_isOfKind 26 (.ireturn) 1 27 := ⟨by decide +kernel, rfl⟩
theorem d_X7_isOfKind_27 : Dc m_X7_isOfKind 27 (.getstatic 302) 3 30 := ⟨by decide +kernel, rfl⟩
theorem d_X7_isOfKind_30 : Dc m_X7_isOfKind 30 (.iload_n 2) 1 31 := ⟨by decide +kernel, rfl⟩
theorem d_X7_isOfKind_31 : Dc m_X7_isOfKind 31 (.iaload) 1 32 := ⟨by decide +kernel, rfl⟩
theorem d_X7_isOfKind_32 : Dc m_X7_isOfKind 32 (.istore_n 2) 1 33 := ⟨by decide +kernel, rfl⟩
theorem d_X7_isOfKind_33 : Dc m_X7_isOfKind 33 (.iinc 3 1) 3 36 := ⟨by decide +kernel, rfl⟩
theorem d_X7_isOfKind_36 : Dc m_X7_isOfKind 36 (.goto (-32)) 3 39 := ⟨by decide +kernel, rfl⟩
theorem d_X7_isOfKind_39 : Dc m_X7_isOfKind 39 (.iconst 0) 1 40 := ⟨by decide +kernel, rfl⟩
theorem d_X7_isOfKind_40 : Dc m_X7_isOfKind 40 (.ireturn) 1 41 := ⟨by decide +kernel, rfl⟩
theorem d_J9_abs_0f7a4_0 : Dc m_J9_abs_0f7a4 0 (.iload_n 0) 1 1 := ⟨by decide +kernel, rfl⟩
theorem d_J9_abs_0f7a4_1 : Dc m_J9_abs_0f7a4 1 (.ifCond .ge 8) 3 4 := ⟨by decide +kernel, rfl⟩
theorem d_J9_abs_0f7a4_4 : Dc m_J9_abs_0f7a4 4 (.iload_n 0) 1 5 := ⟨by decide +kernel, rfl⟩
theorem d_J9_abs_0f7a4_5 : Dc m_J9_abs_0f7a4 5 (.ineg) 1 6 := ⟨by decide +kernel, rfl⟩
theorem d_J9_abs_0f7a4_6 : Dc m_J9_abs_0f7a4 6 (.goto 4) 3 9 := ⟨by decide +kernel, rfl⟩
theorem d_J9_abs_0f7a4_9 : Dc m_J9_abs_0f7a4 9 (.iload_n 0) 1 10 := ⟨by decide +kernel, rfl⟩
theorem d_J9_abs_0f7a4_10 : Dc m_J9_abs_0f7a4 10 (.ireturn) 1 11 := ⟨by decide +kernel, rfl⟩
theorem d_J9_max_7cf53_0 : Dc m_J9_max_7cf53 0 (.iload_n 0) 1 1 := ⟨by decide +kernel, rfl⟩
theorem d_J9_max_7cf53_1 : Dc m_J9_max_7cf53 1 (.iload_n 1) 1 2 := ⟨by decide +kernel, rfl⟩
theorem d_J9_max_7cf53_2 : Dc m_J9_max_7cf53 2 (.if_icmp .lt 7) 3 5 := ⟨by decide +kernel, rfl⟩
theorem d_J9_max_7cf53_5 : Dc m_J9_max_7cf53 5 (.iload_n 0) 1 6 := ⟨by decide +kernel, rfl⟩
theorem d_J9_max_7cf53_6 : Dc m_J9_max_7cf53 6 (.goto 4) 3 9 := ⟨by decide +kernel, rfl⟩
theorem d_J9_max_7cf53_9 : Dc m_J9_max_7cf53 9 (.iload_n 1) 1 10 := ⟨by decide +kernel, rfl⟩
theorem d_J9_max_7cf53_10 : Dc m_J9_max_7cf53 10 (.ireturn) 1 11 := ⟨by decide +kernel, rfl⟩
theorem d_J7_fill_53178_0 : Dc m_J7_fill_53178 0 (.iconst 0) 1 1 := ⟨by decide +kernel, rfl⟩
theorem d_J7_fill_53178_1 : Dc m_J7_fill_53178 1 (.istore_n 2) 1 2 := ⟨by decide +kernel, rfl⟩
theorem d_J7_fill_53178_2 : Dc m_J7_fill_53178 2 (.aload_n 0) 1 3 := ⟨by decide +kernel, rfl⟩
theorem d_J7_fill_53178_3 : Dc m_J7_fill_53178 3 (.arraylength) 1 4 := ⟨by decide +kernel, rfl⟩
theorem d_J7_fill_53178_4 : Dc m_J7_fill_53178 4 (.istore_n 3) 1 5 := ⟨by decide +kernel, rfl⟩
theorem d_J7_fill_53178_5 : Dc m_J7_fill_53178 5 (.iload_n 2) 1 6 := ⟨by decide +kernel, rfl⟩
theorem d_J7_fill_53178_6 : Dc m_J7_fill_53178 6 (.iload_n 3) 1 7 := ⟨by decide +kernel, rfl⟩
theorem d_J7_fill_53178_7 : Dc m_J7_fill_53178 7 (.if_icmp .ge 13) 3 10 := ⟨by decide +kernel, rfl⟩
theorem d_J7_fill_53178_10 : Dc m_J7_fill_53178 10 (.aload_n 0) 1 11 := ⟨by decide +kernel, rfl⟩
theorem d_J7_fill_53178_11 : Dc m_J7_fill_53178 11 (.iload_n 2) 1 12 := ⟨by decide +kernel, rfl⟩
theorem d_J7_fill_53178_12 : Dc m_J7_fill_53178 12 (.iload_n 1) 1 13 := ⟨by decide +kernel, rfl⟩
theorem d_J7_fill_53178_13 : Dc m_J7_fill_53178 13 (.iastore) 1 14 := ⟨by decide +kernel, rfl⟩
theorem d_J7_fill_53178_14 : Dc m_J7_fill_53178 14 (.iinc 2 1) 3 17 := ⟨by decide +kernel, rfl⟩
theorem d_J7_fill_53178_17 : Dc m_J7_fill_53178 17 (.goto (-12)) 3 20 := ⟨by decide +kernel, rfl⟩
theorem d_J7_fill_53178_20 : Dc m_J7_fill_53178 20 (.return_) 1 21 := ⟨by decide +kernel, rfl⟩
end
section
theorem d_X8_in_0 : Dc m_X8_in 0 (.iload_n 0) 1 1 := ⟨by decide +kernel, rfl⟩
theorem d_X8_in_1 : Dc m_X8_in 1 (.iload_n 1) 1 2 := ⟨by decide +kernel, rfl⟩
theorem d_X8_in_2 : Dc m_X8_in 2 (.if_icmp .lt 12) 3 5 := ⟨by decide +kernel, rfl⟩
theorem d_X8_in_5 : Dc m_X8_in 5 (.iload_n 0) 1 6 := ⟨by decide +kernel, rfl⟩
theorem d_X8_in_6 : Dc m_X8_in 6 (.iload_n 2) 1 7 := ⟨by decide +kernel, rfl⟩
theorem d_X8_in_7 : Dc m_X8_in 7 (.if_icmp .gt 7) 3 10 := ⟨by decide +kernel, rfl⟩
theorem d_X8_in_10 : Dc m_X8_in 10 (.iconst 1) 1 11 := ⟨by decide +kernel, rfl⟩
theorem d_X8_in_11 : Dc m_X8_in 11 (.goto 4) 3 14 := ⟨by decide +kernel, rfl⟩
theorem d_X8_in_14 : Dc m_X8_in 14 (.iconst 0) 1 15 := ⟨by decide +kernel, rfl⟩
theorem d_X8_in_15 : Dc m_X8_in 15 (.ireturn) 1 16 := ⟨by decide +kernel, rfl⟩
theorem d_X8_isIn_0 : Dc m_X8_isIn 0 (.iload_n 0) 1 1 := ⟨by decide +kernel, rfl⟩
theorem d_X8_isIn_1 : Dc m_X8_isIn 1 (.iload_n 1) 1 2 := ⟨by decide +kernel, rfl⟩
theorem d_X8_isIn_2 : Dc m_X8_isIn 2 (.ishr) 1 3 := ⟨by decide +kernel, rfl⟩
theorem d_X8_isIn_3 : Dc m_X8_isIn 3 (.iconst 1) 1 4 := ⟨by decide +kernel, rfl⟩
theorem d_X8_isIn_4 : Dc m_X8_isIn 4 (.iand) 1 5 := ⟨by decide +kernel, rfl⟩
theorem d_X8_isIn_5 : Dc m_X8_isIn 5 (.iconst 1) 1 6 := ⟨by decide +kernel, rfl⟩
theorem d_X8_isIn_6 : Dc m_X8_isIn 6 (.if_icmp .ne 7) 3 9 := ⟨by decide +kernel, rfl⟩
theorem d_X8_isIn_9 : Dc m_X8_isIn 9 (.iconst 1) 1 10 := ⟨by decide +kernel, rfl⟩
theorem d_X8_isIn_10 : Dc m_X8_isIn 10 (.goto 4) 3 13 := ⟨by decide +kernel, rfl⟩
theorem d_X8_isIn_13 : Dc m_X8_isIn 13 (.iconst 0) 1 14 := ⟨by decide +kernel, rfl⟩
theorem d_X8_isIn_14 : Dc m_X8_isIn 14 (.ireturn) 1 15 := ⟨by decide +kernel, rfl⟩
theorem d_X8_lay_0 : Dc m_X8_lay 0 (.iconst 0) 1 1 := ⟨by decide +kernel, rfl⟩
theorem d_X8_lay_1 : Dc m_X8_lay 1 (.istore 4) 2 3 := ⟨by decide +kernel, rfl⟩
theorem d_X8_lay_3 : Dc m_X8_lay 3 (.iload 4) 2 5 := ⟨by decide +kernel, rfl⟩
theorem d_X8_lay_5 : Dc m_X8_lay 5 (.bipush 33) 2 7 := ⟨by decide +kernel, rfl⟩
theorem d_X8_lay_7 : Dc m_X8_lay 7 (.if_icmp .ge 21) 3 10 := ⟨by decide +kernel, rfl⟩
theorem d_X8_lay_10 : Dc m_X8_lay 10 (.aload_n 2) 1 11 := ⟨by decide +kernel, rfl⟩
theorem d_X8_lay_11 : Dc m_X8_lay 11 (.iload_n 3) 1 12 := ⟨by decide +kernel, rfl⟩
theorem d_X8_lay_12 : Dc m_X8_lay 12 (.iload 4) 2 14 := ⟨by decide +kernel, rfl⟩
theorem d_X8_lay_14 : Dc m_X8_lay 14 (.iadd) 1 15 := ⟨by decide +kernel, rfl⟩
theorem d_X8_lay_15 : Dc m_X8_lay 15 (.aload_n 0) 1 16 := ⟨by decide +kernel, rfl⟩
theorem d_X8_lay_16 : Dc m_X8_lay 16 (.iload_n 1) 1 17 := ⟨by decide +kernel, rfl⟩
theorem d_X8_lay_17 : Dc m_X8_lay 17 (.iload 4) 2 19 := ⟨by decide +kernel, rfl⟩
theorem d_X8_lay_19 : Dc m_X8_lay 19 (.iadd) 1 20 := ⟨by decide +kernel, rfl⟩
theorem d_X8_lay_20 : Dc m_X8_lay 20 (.iaload) 1 21 := ⟨by decide +kernel, rfl⟩
theorem d_X8_lay_21 : Dc m_X8_lay 21 (.iastore) 1 22 := ⟨by decide +kernel, rfl⟩
theorem d_X8_lay_22 : Dc m_X8_lay 22 (.iinc 4 1) 3 25 := ⟨by decide +kernel, rfl⟩
theorem d_X8_lay_25 : Dc m_X8_lay 25 (.goto (-22)) 3 28 := ⟨by decide +kernel, rfl⟩
theorem d_X8_lay_28 : Dc m_X8_lay 28 (.return_) 1 29 := ⟨by decide +kernel, rfl⟩
theorem d_X8_isTown_0 : Dc m_X8_isTown 0 (.aload_n 0) 1 1 := ⟨by decide +kernel, rfl⟩
theorem d_X8_isTown_1 : Dc m_X8_isTown 1 (.getfield 22) 3 4 := ⟨by decide +kernel, rfl⟩
theorem d_X8_isTown_4 : Dc m_X8_isTown 4 (.bipush 8) 2 6 := ⟨by decide +kernel, rfl⟩
theorem d_X8_isTown_6 : Dc m_X8_isTown 6 (.iaload) 1 7 := ⟨by decide +kernel, rfl⟩
theorem d_X8_isTown_7 : Dc m_X8_isTown 7 (.iconst 1) 1 8 := ⟨by decide +kernel, rfl⟩
theorem d_X8_isTown_8 : Dc m_X8_isTown 8 (.if_icmp .ne 7) 3 11 := ⟨by decide +kernel, rfl⟩
theorem d_X8_isTown_11 : Dc m_X8_isTown 11 (.iconst 1) 1 12 := ⟨by decide +kernel, rfl⟩
theorem d_X8_isTown_12 : Dc m_X8_isTown 12 (.goto 4) 3 15 := ⟨by decide +kernel, rfl⟩
theorem d_X8_isTown_15 : Dc m_X8_isTown 15 (.iconst 0) 1 16 := ⟨by decide +kernel, rfl⟩
theorem d_X8_isTown_16 : Dc m_X8_isTown 16 (.ireturn) 1 17 := ⟨by decide +kernel, rfl⟩
theorem d_X8_isOne_0 : Dc m_X8_isOne 0 (.iload_n 1) 1 1 := ⟨by decide +kernel, rfl⟩
theorem d_X8_isOne_1 : Dc m_X8_isOne 1 (.iconst 0) 1 2 := ⟨by decide +kernel, rfl⟩
theorem d_X8_isOne_2 : Dc m_X8_isOne 2 (.aload_n 0) 1 3 := ⟨by decide +kernel, rfl⟩
theorem d_X8_isOne_3 : Dc m_X8_isOne 3 (.getfield 22) 3 6 := ⟨by decide +kernel, rfl⟩
theorem d_X8_isOne_6 : Dc m_X8_isOne 6 (.iconst 4) 1 7 := ⟨by decide +kernel, rfl⟩
theorem d_X8_isOne_7 : Dc m_X8_isOne 7 (.iaload) 1 8 := ⟨by decide +kernel, rfl⟩
theorem d_X8_isOne_8 : Dc m_X8_isOne 8 (.iconst 1) 1 9 := ⟨by decide +kernel, rfl⟩
theorem d_X8_isOne_9 : Dc m_X8_isOne 9 (.isub) 1 10 := ⟨by decide +kernel, rfl⟩
theorem d_X8_isOne_10 : Dc m_X8_isOne 10 (.invokestatic 59) 3 13 := ⟨by decide +kernel, rfl⟩
theorem d_X8_isOne_13 : Dc m_X8_isOne 13 (.ireturn) 1 14 := ⟨by decide +kernel, rfl⟩
theorem d_X8_finds_0 : Dc m_X8_finds 0 (.aload_n 0) 1 1 := ⟨by decide +kernel, rfl⟩
theorem d_X8_finds_1 : Dc m_X8_finds 1 (.iload_n 1) 1 2 := ⟨by decide +kernel, rfl⟩
theorem d_X8_finds_2 : Dc m_X8_finds 2 (.putfield 63) 3 5 := ⟨by decide +kernel, rfl⟩
theorem d_X8_finds_5 : Dc m_X8_finds 5 (.ldc 67) 2 7 := ⟨by decide +kernel, rfl⟩
theorem d_X8_finds_7 : Dc m_X8_finds 7 (.iload_n 1) 1 8 := ⟨by decide +kernel, rfl⟩
theorem d_X8_finds_8 : Dc m_X8_finds 8 (.isub) 1 9 := ⟨by decide +kernel, rfl⟩
theorem d_X8_finds_9 : Dc m_X8_finds 9 (.ireturn) 1 10 := ⟨by decide +kernel, rfl⟩
theorem d_X8_done_0 : Dc m_X8_done 0 (.aload_n 0) 1 1 := ⟨by decide +kernel, rfl⟩
theorem d_X8_done_1 : Dc m_X8_done 1 (.iconst 0) 1 2 := ⟨by decide +kernel, rfl⟩
theorem d_X8_done_2 : Dc m_X8_done 2 (.putfield 63) 3 5 := ⟨by decide +kernel, rfl⟩
theorem d_X8_done_5 : Dc m_X8_done 5 (.iload_n 1) 1 6 := ⟨by decide +kernel, rfl⟩
theorem d_X8_done_6 : Dc m_X8_done 6 (.ireturn) 1 7 := ⟨by decide +kernel, rfl⟩
theorem d_X8_isRow_0 : Dc m_X8_isRow 0 (.iload_n 0) 1 1 := ⟨by decide +kernel, rfl⟩
theorem d_X8_isRow_1 : Dc m_X8_isRow 1 (.iconst 0) 1 2 := ⟨by decide +kernel, rfl⟩
theorem d_X8_isRow_2 : Dc m_X8_isRow 2 (.bipush 7) 2 4 := ⟨by decide +kernel, rfl⟩
theorem d_X8_isRow_4 : Dc m_X8_isRow 4 (.invokestatic 59) 3 7 := ⟨by decide +kernel, rfl⟩
theorem d_X8_isRow_7 : Dc m_X8_isRow 7 (.ireturn) 1 8 := ⟨by decide +kernel, rfl⟩
theorem d_X8_row_0 : Dc m_X8_row 0 (.iload_n 1) 1 1 := ⟨by decide +kernel, rfl⟩
theorem d_X8_row_1 : Dc m_X8_row 1 (.invokestatic 68) 3 4 := ⟨by decide +kernel, rfl⟩
theorem d_X8_row_4 : Dc m_X8_row 4 (.ifCond .eq 18) 3 7 := ⟨by decide +kernel, rfl⟩
theorem d_X8_row_7 : Dc m_X8_row 7 (.iload_n 2) 1 8 := ⟨by decide +kernel, rfl⟩
theorem d_X8_row_8 : Dc m_X8_row 8 (.iconst 0) 1 9 := ⟨by decide +kernel, rfl⟩
theorem d_X8_row_9 : Dc m_X8_row 9 (.iconst 2) 1 10 := ⟨by decide +kernel, rfl⟩
theorem d_X8_row_10 : Dc m_X8_row 10 (.invokestatic 59) 3 13 := ⟨by decide +kernel, rfl⟩
theorem d_X8_row_13 : Dc m_X8_row 13 (.ifCond .eq 9) 3 16 := ⟨by decide +kernel, rfl⟩
theorem d_X8_row_16 : Dc m_X8_row 16 (.iload_n 3) 1 17 := ⟨by decide +kernel, rfl⟩
theorem d_X8_row_17 : Dc m_X8_row 17 (.bipush 40) 2 19 := ⟨by decide +kernel, rfl⟩
theorem d_X8_row_19 : Dc m_X8_row 19 (.if_icmp .le 6) 3 22 := ⟨by decide +kernel, rfl⟩
theorem d_X8_row_22 : Dc m_X8_row 22 (.ldc 72) 2 24 := ⟨by decide +kernel, rfl⟩
theorem d_X8_row_24 : Dc m_X8_row 24 (.ireturn) 1 25 := ⟨by decide +kernel, rfl⟩
theorem d_X8_row_25 : Dc m_X8_row 25 (.iload_n 3) 1 26 := ⟨by decide +kernel, rfl⟩
theorem d_X8_row_26 : Dc m_X8_row 26 (.ifCond .ge 9) 3 29 := ⟨by decide +kernel, rfl⟩
theorem d_X8_row_29 : Dc m_X8_row 29 (.aload_n 0) 1 30 := ⟨by decide +kernel, rfl⟩
theorem d_X8_row_30 : Dc m_X8_row 30 (.iconst 4) 1 31 := ⟨by decide +kernel, rfl⟩
theorem d_X8_row_31 : Dc m_X8_row 31 (.invokevirtual 73) 3 34 := ⟨by decide +kernel, rfl⟩
theorem d_X8_row_34 : Dc m_X8_row 34 (.ireturn) 1 35 := ⟨by decide +kernel, rfl⟩
theorem d_X8_row_35 : Dc m_X8_row 35 (.aload_n 0) 1 36 := ⟨by decide +kernel, rfl⟩
theorem d_X8_row_36 : Dc m_X8_row 36 (.getfield 7) 3 39 := ⟨by decide +kernel, rfl⟩
theorem d_X8_row_39 : Dc m_X8_row 39 (.iload_n 1) 1 40 := ⟨by decide +kernel, rfl⟩
theorem d_X8_row_40 : Dc m_X8_row 40 (.iload_n 2) 1 41 := ⟨by decide +kernel, rfl⟩
theorem d_X8_row_41 : Dc m_X8_row 41 (.iastore) 1 42 := ⟨by decide +kernel, rfl⟩
theorem d_X8_row_42 : Dc m_X8_row 42 (.aload_n 0) 1 43 := ⟨by decide +kernel, rfl⟩
theorem d_X8_row_43 : Dc m_X8_row 43 (.getfield 13) 3 46 := ⟨by decide +kernel, rfl⟩
theorem d_X8_row_46 : Dc m_X8_row 46 (.iload_n 1) 1 47 := ⟨by decide +kernel, rfl⟩
theorem d_X8_row_47 : Dc m_X8_row 47 (.iload_n 3) 1 48 := ⟨by decide +kernel, rfl⟩
theorem d_X8_row_48 : Dc m_X8_row 48 (.iastore) 1 49 := ⟨by decide +kernel, rfl⟩
theorem d_X8_row_49 : Dc m_X8_row 49 (.iconst 0) 1 50 := ⟨by decide +kernel, rfl⟩
theorem d_X8_row_50 : Dc m_X8_row 50 (.istore 4) 2 52 := ⟨by decide +kernel, rfl⟩
theorem d_X8_row_52 : Dc m_X8_row 52 (.iload 4) 2 54 := ⟨by decide +kernel, rfl⟩
theorem d_X8_row_54 : Dc m_X8_row 54 (.bipush 40) 2 56 := ⟨by decide +kernel, rfl⟩
theorem d_X8_row_56 : Dc m_X8_row 56 (.if_icmp .ge 22) 3 59 := ⟨by decide +kernel, rfl⟩
theorem d_X8_row_59 : Dc m_X8_row 59 (.aload_n 0) 1 60 := ⟨by decide +kernel, rfl⟩
theorem d_X8_row_60 : Dc m_X8_row 60 (.getfield 16) 3 63 := ⟨by decide +kernel, rfl⟩
theorem d_X8_row_63 : Dc m_X8_row 63 (.bipush 40) 2 65 := ⟨by decide +kernel, rfl⟩
theorem d_X8_row_65 : Dc m_X8_row 65 (.iload_n 1) 1 66 := ⟨by decide +kernel, rfl⟩
theorem d_X8_row_66 : Dc m_X8_row 66 (.imul) 1 67 := ⟨by decide +kernel, rfl⟩
theorem d_X8_row_67 : Dc m_X8_row 67 (.iload 4) 2 69 := ⟨by decide +kernel, rfl⟩
theorem d_X8_row_69 : Dc m_X8_row 69 (.iadd) 1 70 := ⟨by decide +kernel, rfl⟩
theorem d_X8_row_70 : Dc m_X8_row 70 (.iconst 0) 1 71 := ⟨by decide +kernel, rfl⟩
theorem d_X8_row_71 : Dc m_X8_row 71 (.iastore) 1 72 := ⟨by decide +kernel, rfl⟩
theorem d_X8_row_72 : Dc m_X8_row 72 (.iinc 4 1) 3 75 := ⟨by decide +kernel, rfl⟩
theorem d_X8_row_75 : Dc m_X8_row 75 (.goto (-23)) 3 78 := ⟨by decide +kernel, rfl⟩
theorem d_X8_row_78 : Dc m_X8_row 78 (.aload_n 0) 1 79 := ⟨by decide +kernel, rfl⟩
theorem d_X8_row_79 : Dc m_X8_row 79 (.iload_n 3) 1 80 := ⟨by decide +kernel, rfl⟩
theorem d_X8_row_80 : Dc m_X8_row 80 (.invokevirtual 77) 3 83 := ⟨by decide +kernel, rfl⟩
theorem d_X8_row_83 : Dc m_X8_row 83 (.ireturn) 1 84 := ⟨by decide +kernel, rfl⟩
theorem d_X8_set_0 : Dc m_X8_set 0 (.iload_n 1) 1 1 := ⟨by decide +kernel, rfl⟩
theorem d_X8_set_1 : Dc m_X8_set 1 (.invokestatic 68) 3 4 := ⟨by decide +kernel, rfl⟩
theorem d_X8_set_4 : Dc m_X8_set 4 (.ifCond .ne 6) 3 7 := ⟨by decide +kernel, rfl⟩
theorem d_X8_set_7 : Dc m_X8_set 7 (.ldc 72) 2 9 := ⟨by decide +kernel, rfl⟩
theorem d_X8_set_9 : Dc m_X8_set 9 (.ireturn) 1 10 := ⟨by decide +kernel, rfl⟩
theorem d_X8_set_10 : Dc m_X8_set 10 (.aload_n 0) 1 11 := ⟨by decide +kernel, rfl⟩
theorem d_X8_set_11 : Dc m_X8_set 11 (.getfield 7) 3 14 := ⟨by decide +kernel, rfl⟩
theorem d_X8_set_14 : Dc m_X8_set 14 (.iload_n 1) 1 15 := ⟨by decide +kernel, rfl⟩
theorem d_X8_set_15 : Dc m_X8_set 15 (.iaload) 1 16 := ⟨by decide +kernel, rfl⟩
theorem d_X8_set_16 : Dc m_X8_set 16 (.ifCond .ge 9) 3 19 := ⟨by decide +kernel, rfl⟩
theorem d_X8_set_19 : Dc m_X8_set 19 (.aload_n 0) 1 20 := ⟨by decide +kernel, rfl⟩
theorem d_X8_set_20 : Dc m_X8_set 20 (.iconst 1) 1 21 := ⟨by decide +kernel, rfl⟩
theorem d_X8_set_21 : Dc m_X8_set 21 (.invokevirtual 73) 3 24 := ⟨by decide +kernel, rfl⟩
theorem d_X8_set_24 : Dc m_X8_set 24 (.ireturn) 1 25 := ⟨by decide +kernel, rfl⟩
theorem d_X8_set_25 : Dc m_X8_set 25 (.iload_n 2) 1 26 := ⟨by decide +kernel, rfl⟩
theorem d_X8_set_26 : Dc m_X8_set 26 (.iconst 0) 1 27 := ⟨by decide +kernel, rfl⟩
theorem d_X8_set_27 : Dc m_X8_set 27 (.aload_n 0) 1 28 := ⟨by decide +kernel, rfl⟩
theorem d_X8_set_28 : Dc m_X8_set 28 (.getfield 13) 3 31 := ⟨by decide +kernel, rfl⟩
theorem d_X8_set_31 : Dc m_X8_set 31 (.iload_n 1) 1 32 := ⟨by decide +kernel, rfl⟩
theorem d_X8_set_32 : Dc m_X8_set 32 (.iaload) 1 33 := ⟨by decide +kernel, rfl⟩
theorem d_X8_set_33 : Dc m_X8_set 33 (.iconst 1) 1 34 := ⟨by decide +kernel, rfl⟩
theorem d_X8_set_34 : Dc m_X8_set 34 (.isub) 1 35 := ⟨by decide +kernel, rfl⟩
theorem d_X8_set_35 : Dc m_X8_set 35 (.invokestatic 59) 3 38 := ⟨by decide +kernel, rfl⟩
theorem d_X8_set_38 : Dc m_X8_set 38 (.ifCond .ne 9) 3 41 := ⟨by decide +kernel, rfl⟩
theorem d_X8_set_41 : Dc m_X8_set 41 (.aload_n 0) 1 42 := ⟨by decide +kernel, rfl⟩
theorem d_X8_set_42 : Dc m_X8_set 42 (.iconst 2) 1 43 := ⟨by decide +kernel, rfl⟩
theorem d_X8_set_43 : Dc m_X8_set 43 (.invokevirtual 73) 3 46 := ⟨by decide +kernel, rfl⟩
theorem d_X8_set_46 : Dc m_X8_set 46 (.ireturn) 1 47 := ⟨by decide +kernel, rfl⟩
theorem d_X8_set_47 : Dc m_X8_set 47 (.aload_n 0) 1 48 := ⟨by decide +kernel, rfl⟩
theorem d_X8_set_48 : Dc m_X8_set 48 (.getfield 16) 3 51 := ⟨by decide +kernel, rfl⟩
theorem d_X8_set_51 : Dc m_X8_set 51 (.bipush 40) 2 53 := ⟨by decide +kernel, rfl⟩
theorem d_X8_set_53 : Dc m_X8_set 53 (.iload_n 1) 1 54 := ⟨by decide +kernel, rfl⟩
theorem d_X8_set_54 : Dc m_X8_set 54 (.imul) 1 55 := ⟨by decide +kernel, rfl⟩
theorem d_X8_set_55 : Dc m_X8_set 55 (.iload_n 2) 1 56 := ⟨by decide +kernel, rfl⟩
theorem d_X8_set_56 : Dc m_X8_set 56 (.iadd) 1 57 := ⟨by decide +kernel, rfl⟩
theorem d_X8_set_57 : Dc m_X8_set 57 (.aload_n 0) 1 58 := ⟨by decide +kernel, rfl⟩
theorem d_X8_set_58 : Dc m_X8_set 58 (.getfield 7) 3 61 := ⟨by decide +kernel, rfl⟩
theorem d_X8_set_61 : Dc m_X8_set 61 (.iload_n 1) 1 62 := ⟨by decide +kernel, rfl⟩
theorem d_X8_set_62 : Dc m_X8_set 62 (.iaload) 1 63 := ⟨by decide +kernel, rfl⟩
theorem d_X8_set_63 : Dc m_X8_set 63 (.ifCond .ne 8) 3 66 := ⟨by decide +kernel, rfl⟩
theorem d_X8_set_66 : Dc m_X8_set 66 (.iload_n 3) 1 67 := ⟨by decide +kernel, rfl⟩
theorem d_X8_set_67 : Dc m_X8_set 67 (.i2b) 1 68 := ⟨by decide +kernel, rfl⟩
theorem d_X8_set_68 : Dc m_X8_set 68 (.goto 19) 3 71 := ⟨by decide +kernel, rfl⟩
theorem d_X8_set_71 : Dc m_X8_set 71 (.aload_n 0) 1 72 := ⟨by decide +kernel, rfl⟩
theorem d_X8_set_72 : Dc m_X8_set 72 (.getfield 7) 3 75 := ⟨by decide +kernel, rfl⟩
theorem d_X8_set_75 : Dc m_X8_set 75 (.iload_n 1) 1 76 := ⟨by decide +kernel, rfl⟩
theorem d_X8_set_76 : Dc m_X8_set 76 (.iaload) 1 77 := ⟨by decide +kernel, rfl⟩
theorem d_X8_set_77 : Dc m_X8_set 77 (.iconst 1) 1 78 := ⟨by decide +kernel, rfl⟩
theorem d_X8_set_78 : Dc m_X8_set 78 (.if_icmp .ne 8) 3 81 := ⟨by decide +kernel, rfl⟩
theorem d_X8_set_81 : Dc m_X8_set 81 (.iload_n 3) 1 82 := ⟨by decide +kernel, rfl⟩
theorem d_X8_set_82 : Dc m_X8_set 82 (.i2s) 1 83 := ⟨by decide +kernel, rfl⟩
theorem d_X8_set_83 : Dc m_X8_set 83 (.goto 4) 3 86 := ⟨by decide +kernel, rfl⟩
theorem d_X8_set_86 : Dc m_X8_set 86 (.iload_n 3) 1 87 := ⟨by decide +kernel, rfl⟩
theorem d_X8_set_87 : Dc m_X8_set 87 (.iastore) 1 88 := ⟨by decide +kernel, rfl⟩
theorem d_X8_set_88 : Dc m_X8_set 88 (.aload_n 0) 1 89 := ⟨by decide +kernel, rfl⟩
theorem d_X8_set_89 : Dc m_X8_set 89 (.aload_n 0) 1 90 := ⟨by decide +kernel, rfl⟩
theorem d_X8_set_90 : Dc m_X8_set 90 (.getfield 16) 3 93 := ⟨by decide +kernel, rfl⟩
theorem d_X8_set_93 : Dc m_X8_set 93 (.bipush 40) 2 95 := ⟨by decide +kernel, rfl⟩
theorem d_X8_set_95 : Dc m_X8_set 95 (.iload_n 1) 1 96 := ⟨by decide +kernel, rfl⟩
theorem d_X8_set_96 : Dc m_X8_set 96 (.imul) 1 97 := ⟨by decide +kernel, rfl⟩
theorem d_X8_set_97 : Dc m_X8_set 97 (.iload_n 2) 1 98 := ⟨by decide +kernel, rfl⟩
theorem d_X8_set_98 : Dc m_X8_set 98 (.iadd) 1 99 := ⟨by decide +kernel, rfl⟩
theorem d_X8_set_99 : Dc m_X8_set 99 (.iaload) 1 100 := ⟨by decide +kernel, rfl⟩
theorem d_X8_set_100 : Dc m_X8_set 100 (.invokevirtual 77) 3 103 := ⟨by decide +kernel, rfl⟩
theorem d_X8_set_103 : Dc m_X8_set 103 (.ireturn) 1 104 := ⟨by decide +kernel, rfl⟩
theorem d_X8_isPart_0 : Dc m_X8_isPart 0 (.iload_n 0) 1 1 := ⟨by decide +kernel, rfl⟩
theorem d_X8_isPart_1 : Dc m_X8_isPart 1 (.ifCond .lt 23) 3 4 := ⟨by decide +kernel, rfl⟩
theorem d_X8_isPart_4 : Dc m_X8_isPart 4 (.iload_n 1) 1 5 := ⟨by decide +kernel, rfl⟩
theorem d_X8_isPart_5 : Dc m_X8_isPart 5 (.ifCond .lt 19) 3 8 := ⟨by decide +kernel, rfl⟩
theorem d_X8_isPart_8 : Dc m_X8_isPart 8 (.iload_n 1) 1 9 := ⟨by decide +kernel, rfl⟩
theorem d_X8_isPart_9 : Dc m_X8_isPart 9 (.iload_n 2) 1 10 := ⟨by decide +kernel, rfl⟩
theorem d_X8_isPart_10 : Dc m_X8_isPart 10 (.if_icmp .gt 14) 3 13 := ⟨by decide +kernel, rfl⟩
theorem d_X8_isPart_13 : Dc m_X8_isPart 13 (.iload_n 0) 1 14 := ⟨by decide +kernel, rfl⟩
theorem d_X8_isPart_14 : Dc m_X8_isPart 14 (.iload_n 2) 1 15 := ⟨by decide +kernel, rfl⟩
theorem d_X8_isPart_15 : Dc m_X8_isPart 15 (.iload_n 1) 1 16 := ⟨by decide +kernel, rfl⟩
theorem d_X8_isPart_16 : Dc m_X8_isPart 16 (.isub) 1 17 := ⟨by decide +kernel, rfl⟩
theorem d_X8_isPart_17 : Dc m_X8_isPart 17 (.if_icmp .gt 7) 3 20 := ⟨by decide +kernel, rfl⟩
theorem d_X8_isPart_20 : Dc m_X8_isPart 20 (.iconst 1) 1 21 := ⟨by decide +kernel, rfl⟩
theorem d_X8_isPart_21 : Dc m_X8_isPart 21 (.goto 4) 3 24 := ⟨by decide +kernel, rfl⟩
theorem d_X8_isPart_24 : Dc m_X8_isPart 24 (.iconst 0) 1 25 := ⟨by decide +kernel, rfl⟩
theorem d_X8_isPart_25 : Dc m_X8_isPart 25 (.ireturn) 1 26 := ⟨by decide +kernel, rfl⟩
theorem d_X8_copy_0 : Dc m_X8_copy 0 (.iload_n 1) 1 1 := ⟨by decide +kernel, rfl⟩
theorem d_X8_copy_1 : Dc m_X8_copy 1 (.invokestatic 68) 3 4 := ⟨by decide +kernel, rfl⟩
theorem d_X8_copy_4 : Dc m_X8_copy 4 (.ifCond .eq 10) 3 7 := ⟨by decide +kernel, rfl⟩
theorem d_X8_copy_7 : Dc m_X8_copy 7 (.iload_n 3) 1 8 := ⟨by decide +kernel, rfl⟩
theorem d_X8_copy_8 : Dc m_X8_copy 8 (.invokestatic 68) 3 11 := ⟨by decide +kernel, rfl⟩
theorem d_X8_copy_11 : Dc m_X8_copy 11 (.ifCond .ne 6) 3 14 := ⟨by decide +kernel, rfl⟩
theorem d_X8_copy_14 : Dc m_X8_copy 14 (.ldc 72) 2 16 := ⟨by decide +kernel, rfl⟩
theorem d_X8_copy_16 : Dc m_X8_copy 16 (.ireturn) 1 17 := ⟨by decide +kernel, rfl⟩
theorem d_X8_copy_17 : Dc m_X8_copy 17 (.aload_n 0) 1 18 := ⟨by decide +kernel, rfl⟩
theorem d_X8_copy_18 : Dc m_X8_copy 18 (.getfield 7) 3 21 := ⟨by decide +kernel, rfl⟩
theorem d_X8_copy_21 : Dc m_X8_copy 21 (.iload_n 1) 1 22 := ⟨by decide +kernel, rfl⟩
theorem d_X8_copy_22 : Dc m_X8_copy 22 (.iaload) 1 23 := ⟨by decide +kernel, rfl⟩
theorem d_X8_copy_23 : Dc m_X8_copy 23 (.ifCond .lt 12) 3 26 := ⟨by decide +kernel, rfl⟩
theorem d_X8_copy_26 : Dc m_X8_copy 26 (.aload_n 0) 1 27 := ⟨by decide +kernel, rfl⟩
theorem d_X8_copy_27 : Dc m_X8_copy 27 (.getfield 7) 3 30 := ⟨by decide +kernel, rfl⟩
theorem d_X8_copy_30 : Dc m_X8_copy 30 (.iload_n 3) 1 31 := ⟨by decide +kernel, rfl⟩
theorem d_X8_copy_31 : Dc m_X8_copy 31 (.iaload) 1 32 := ⟨by decide +kernel, rfl⟩
theorem d_X8_copy_32 : Dc m_X8_copy 32 (.ifCond .ge 9) 3 35 := ⟨by decide +kernel, rfl⟩
theorem d_X8_copy_35 : Dc m_X8_copy 35 (.aload_n 0) 1 36 := ⟨by decide +kernel, rfl⟩
theorem d_X8_copy_36 : Dc m_X8_copy 36 (.iconst 1) 1 37 := ⟨by decide +kernel, rfl⟩
theorem d_X8_copy_37 : Dc m_X8_copy 37 (.invokevirtual 73) 3 40 := ⟨by decide +kernel, rfl⟩
theorem d_X8_copy_40 : Dc m_X8_copy 40 (.ireturn) 1 41 := ⟨by decide +kernel, rfl⟩
theorem d_X8_copy_41 : Dc m_X8_copy 41 (.aload_n 0) 1 42 := ⟨by decide +kernel, rfl⟩
theorem d_X8_copy_42 : Dc m_X8_copy 42 (.getfield 7) 3 45 := ⟨by decide +kernel, rfl⟩
theorem d_X8_copy_45 : Dc m_X8_copy 45 (.iload_n 1) 1 46 := ⟨by decide +kernel, rfl⟩
theorem d_X8_copy_46 : Dc m_X8_copy 46 (.iaload) 1 47 := ⟨by decide +kernel, rfl⟩
theorem d_X8_copy_47 : Dc m_X8_copy 47 (.aload_n 0) 1 48 := ⟨by decide +kernel, rfl⟩
theorem d_X8_copy_48 : Dc m_X8_copy 48 (.getfield 7) 3 51 := ⟨by decide +kernel, rfl⟩
theorem d_X8_copy_51 : Dc m_X8_copy 51 (.iload_n 3) 1 52 := ⟨by decide +kernel, rfl⟩
theorem d_X8_copy_52 : Dc m_X8_copy 52 (.iaload) 1 53 := ⟨by decide +kernel, rfl⟩
theorem d_X8_copy_53 : Dc m_X8_copy 53 (.if_icmp .eq 9) 3 56 := ⟨by decide +kernel, rfl⟩
theorem d_X8_copy_56 : Dc m_X8_copy 56 (.aload_n 0) 1 57 := ⟨by decide +kernel, rfl⟩
theorem d_X8_copy_57 : Dc m_X8_copy 57 (.iconst 5) 1 58 := ⟨by decide +kernel, rfl⟩
theorem d_X8_copy_58 : Dc m_X8_copy 58 (.invokevirtual 73) 3 61 := ⟨by decide +kernel, rfl⟩
theorem d_X8_copy_61 : Dc m_X8_copy 61 (.ireturn) 1 62 := ⟨by decide +kernel, rfl⟩
theorem d_X8_copy_62 : Dc m_X8_copy 62 (.iload_n 2) 1 63 := ⟨by decide +kernel, rfl⟩
theorem d_X8_copy_63 : Dc m_X8_copy 63 (.iload 5) 2 65 := ⟨by decide +kernel, rfl⟩
theorem d_X8_copy_65 : Dc m_X8_copy 65 (.aload_n 0) 1 66 := ⟨by decide +kernel, rfl⟩
theorem d_X8_copy_66 : Dc m_X8_copy 66 (.getfield 13) 3 69 := ⟨by decide +kernel, rfl⟩
theorem d_X8_copy_69 : Dc m_X8_copy 69 (.iload_n 1) 1 70 := ⟨by decide +kernel, rfl⟩
theorem d_X8_copy_70 : Dc m_X8_copy 70 (.iaload) 1 71 := ⟨by decide +kernel, rfl⟩
theorem d_X8_copy_71 : Dc m_X8_copy 71 (.invokestatic 80) 3 74 := ⟨by decide +kernel, rfl⟩
theorem d_X8_copy_74 : Dc m_X8_copy 74 (.ifCond .eq 19) 3 77 := ⟨by decide +kernel, rfl⟩
theorem d_X8_copy_77 : Dc m_X8_copy 77 (.iload 4) 2 79 := ⟨by decide +kernel, rfl⟩
theorem d_X8_copy_79 : Dc m_X8_copy 79 (.iload 5) 2 81 := ⟨by decide +kernel, rfl⟩
theorem d_X8_copy_81 : Dc m_X8_copy 81 (.aload_n 0) 1 82 := ⟨by decide +kernel, rfl⟩
theorem d_X8_copy_82 : Dc m_X8_copy 82 (.getfield 13) 3 85 := ⟨by decide +kernel, rfl⟩
theorem d_X8_copy_85 : Dc m_X8_copy 85 (.iload_n 3) 1 86 := ⟨by decide +kernel, rfl⟩
theorem d_X8_copy_86 : Dc m_X8_copy 86 (.iaload) 1 87 := ⟨by decide +kernel, rfl⟩
theorem d_X8_copy_87 : Dc m_X8_copy 87 (.invokestatic 80) 3 90 := ⟨by decide +kernel, rfl⟩
theorem d_X8_copy_90 : Dc m_X8_copy 90 (.ifCond .ne 9) 3 93 := ⟨by decide +kernel, rfl⟩
theorem d_X8_copy_93 : Dc m_X8_copy 93 (.aload_n 0) 1 94 := ⟨by decide +kernel, rfl⟩
theorem d_X8_copy_94 : Dc m_X8_copy 94 (.iconst 2) 1 95 := ⟨by decide +kernel, rfl⟩
theorem d_X8_copy_95 : Dc m_X8_copy 95 (.invokevirtual 73) 3 98 := ⟨by decide +kernel, rfl⟩
theorem d_X8_copy_98 : Dc m_X8_copy 98 (.ireturn) 1 99 := ⟨by decide +kernel, rfl⟩
theorem d_X8_copy_99 : Dc m_X8_copy 99 (.iload_n 1) 1 100 := ⟨by decide +kernel, rfl⟩
theorem d_X8_copy_100 : Dc m_X8_copy 100 (.iload_n 3) 1 101 := ⟨by decide +kernel, rfl⟩
theorem d_X8_copy_101 : Dc m_X8_copy 101 (.if_icmp .ne 13) 3 104 := ⟨by decide +kernel, rfl⟩
theorem d_X8_copy_104 : Dc m_X8_copy 104 (.iload 4) 2 106 := ⟨by decide +kernel, rfl⟩
theorem d_X8_copy_106 : Dc m_X8_copy 106 (.iload_n 2) 1 107 := ⟨by decide +kernel, rfl⟩
theorem d_X8_copy_107 : Dc m_X8_copy 107 (.if_icmp .le 7) 3 110 := ⟨by decide +kernel, rfl⟩
theorem d_X8_copy_110 : Dc m_X8_copy 110 (.iconst 1) 1 111 := ⟨by decide +kernel, rfl⟩
theorem d_X8_copy_111 : Dc m_X8_copy 111 (.goto 4) 3 114 := ⟨by decide +kernel, rfl⟩
theorem d_X8_copy_114 : Dc m_X8_copy 114 (.iconst 0) 1 115 := ⟨by decide +kernel, rfl⟩
theorem d_X8_copy_115 : Dc m_X8_copy 115 (.istore 6) 2 117 := ⟨by decide +kernel, rfl⟩
theorem d_X8_copy_117 : Dc m_X8_copy 117 (.iconst 0) 1 118 := ⟨by decide +kernel, rfl⟩
theorem d_X8_copy_118 : Dc m_X8_copy 118 (.istore 7) 2 120 := ⟨by decide +kernel, rfl⟩
theorem d_X8_copy_120 : Dc m_X8_copy 120 (.iload 7) 2 122 := ⟨by decide +kernel, rfl⟩
theorem d_X8_copy_122 : Dc m_X8_copy 122 (.iload 5) 2 124 := ⟨by decide +kernel, rfl⟩
theorem d_X8_copy_124 : Dc m_X8_copy 124 (.if_icmp .ge 57) 3 127 := ⟨by decide +kernel, rfl⟩
theorem d_X8_copy_127 : Dc m_X8_copy 127 (.iload 6) 2 129 := ⟨by decide +kernel, rfl⟩
theorem d_X8_copy_129 : Dc m_X8_copy 129 (.ifCond .eq 13) 3 132 := ⟨by decide +kernel, rfl⟩
theorem d_X8_copy_132 : Dc m_X8_copy 132 (.iload 5) 2 134 := ⟨by decide +kernel, rfl⟩
theorem d_X8_copy_134 : Dc m_X8_copy 134 (.iconst 1) 1 135 := ⟨by decide +kernel, rfl⟩
theorem d_X8_copy_135 : Dc m_X8_copy 135 (.isub) 1 136 := ⟨by decide +kernel, rfl⟩
theorem d_X8_copy_136 : Dc m_X8_copy 136 (.iload 7) 2 138 := ⟨by decide +kernel, rfl⟩
theorem d_X8_copy_138 : Dc m_X8_copy 138 (.isub) 1 139 := ⟨by decide +kernel, rfl⟩
theorem d_X8_copy_139 : Dc m_X8_copy 139 (.goto 5) 3 142 := ⟨by decide +kernel, rfl⟩
theorem d_X8_copy_142 : Dc m_X8_copy 142 (.iload 7) 2 144 := ⟨by decide +kernel, rfl⟩
theorem d_X8_copy_144 : Dc m_X8_copy 144 (.istore 8) 2 146 := ⟨by decide +kernel, rfl⟩
theorem d_X8_copy_146 : Dc m_X8_copy 146 (.aload_n 0) 1 147 := ⟨by decide +kernel, rfl⟩
theorem d_X8_copy_147 : Dc m_X8_copy 147 (.getfield 16) 3 150 := ⟨by decide +kernel, rfl⟩
theorem d_X8_copy_150 : Dc m_X8_copy 150 (.bipush 40) 2 152 := ⟨by decide +kernel, rfl⟩
theorem d_X8_copy_152 : Dc m_X8_copy 152 (.iload_n 3) 1 153 := ⟨by decide +kernel, rfl⟩
theorem d_X8_copy_153 : Dc m_X8_copy 153 (.imul) 1 154 := ⟨by decide +kernel, rfl⟩
theorem d_X8_copy_154 : Dc m_X8_copy 154 (.iload 4) 2 156 := ⟨by decide +kernel, rfl⟩
theorem d_X8_copy_156 : Dc m_X8_copy 156 (.iadd) 1 157 := ⟨by decide +kernel, rfl⟩
theorem d_X8_copy_157 : Dc m_X8_copy 157 (.iload 8) 2 159 := ⟨by decide +kernel, rfl⟩
theorem d_X8_copy_159 : Dc m_X8_copy 159 (.iadd) 1 160 := ⟨by decide +kernel, rfl⟩
theorem d_X8_copy_160 : Dc m_X8_copy 160 (.aload_n 0) 1 161 := ⟨by decide +kernel, rfl⟩
theorem d_X8_copy_161 : Dc m_X8_copy 161 (.getfield 16) 3 164 := ⟨by decide +kernel, rfl⟩
theorem d_X8_copy_164 : Dc m_X8_copy 164 (.bipush 40) 2 166 := ⟨by decide +kernel, rfl⟩
theorem d_X8_copy_166 : Dc m_X8_copy 166 (.iload_n 1) 1 167 := ⟨by decide +kernel, rfl⟩
theorem d_X8_copy_167 : Dc m_X8_copy 167 (.imul) 1 168 := ⟨by decide +kernel, rfl⟩
theorem d_X8_copy_168 : Dc m_X8_copy 168 (.iload_n 2) 1 169 := ⟨by decide +kernel, rfl⟩
theorem d_X8_copy_169 : Dc m_X8_copy 169 (.iadd) 1 170 := ⟨by decide +kernel, rfl⟩
theorem d_X8_copy_170 : Dc m_X8_copy 170 (.iload 8) 2 172 := ⟨by decide +kernel, rfl⟩
theorem d_X8_copy_172 : Dc m_X8_copy 172 (.iadd) 1 173 := ⟨by decide +kernel, rfl⟩
theorem d_X8_copy_173 : Dc m_X8_copy 173 (.iaload) 1 174 := ⟨by decide +kernel, rfl⟩
theorem d_X8_copy_174 : Dc m_X8_copy 174 (.iastore) 1 175 := ⟨by decide +kernel, rfl⟩
theorem d_X8_copy_175 : Dc m_X8_copy 175 (.iinc 7 1) 3 178 := ⟨by decide +kernel, rfl⟩
theorem d_X8_copy_178 : Dc m_X8_copy 178 (.goto (-58)) 3 181 := ⟨by decide +kernel, rfl⟩
theorem d_X8_copy_181 : Dc m_X8_copy 181 (.aload_n 0) 1 182 := ⟨by decide +kernel, rfl⟩
theorem d_X8_copy_182 : Dc m_X8_copy 182 (.iload 5) 2 184 := ⟨by decide +kernel, rfl⟩
theorem d_X8_copy_184 : Dc m_X8_copy 184 (.invokevirtual 77) 3 187 := ⟨by decide +kernel, rfl⟩
theorem d_X8_copy_187 : Dc m_X8_copy 187 (.ireturn) 1 188 := ⟨by decide +kernel, rfl⟩
theorem d_X8_drop_0 : Dc m_X8_drop 0 (.iload_n 1) 1 1 := ⟨by decide +kernel, rfl⟩
theorem d_X8_drop_1 : Dc m_X8_drop 1 (.invokestatic 68) 3 4 := ⟨by decide +kernel, rfl⟩
theorem d_X8_drop_4 : Dc m_X8_drop 4 (.ifCond .ne 6) 3 7 := ⟨by decide +kernel, rfl⟩
theorem d_X8_drop_7 : Dc m_X8_drop 7 (.ldc 72) 2 9 := ⟨by decide +kernel, rfl⟩
theorem d_X8_drop_9 : Dc m_X8_drop 9 (.ireturn) 1 10 := ⟨by decide +kernel, rfl⟩
theorem d_X8_drop_10 : Dc m_X8_drop 10 (.aload_n 0) 1 11 := ⟨by decide +kernel, rfl⟩
theorem d_X8_drop_11 : Dc m_X8_drop 11 (.getfield 7) 3 14 := ⟨by decide +kernel, rfl⟩
theorem d_X8_drop_14 : Dc m_X8_drop 14 (.iload_n 1) 1 15 := ⟨by decide +kernel, rfl⟩
theorem d_X8_drop_15 : Dc m_X8_drop 15 (.iaload) 1 16 := ⟨by decide +kernel, rfl⟩
theorem d_X8_drop_16 : Dc m_X8_drop 16 (.ifCond .ge 9) 3 19 := ⟨by decide +kernel, rfl⟩
theorem d_X8_drop_19 : Dc m_X8_drop 19 (.aload_n 0) 1 20 := ⟨by decide +kernel, rfl⟩
theorem d_X8_drop_20 : Dc m_X8_drop 20 (.iconst 1) 1 21 := ⟨by decide +kernel, rfl⟩
theorem d_X8_drop_21 : Dc m_X8_drop 21 (.invokevirtual 73) 3 24 := ⟨by decide +kernel, rfl⟩
theorem d_X8_drop_24 : Dc m_X8_drop 24 (.ireturn) 1 25 := ⟨by decide +kernel, rfl⟩
theorem d_X8_drop_25 : Dc m_X8_drop 25 (.aload_n 0) 1 26 := ⟨by decide +kernel, rfl⟩
theorem d_X8_drop_26 : Dc m_X8_drop 26 (.getfield 7) 3 29 := ⟨by decide +kernel, rfl⟩
theorem d_X8_drop_29 : Dc m_X8_drop 29 (.iload_n 1) 1 30 := ⟨by decide +kernel, rfl⟩
theorem d_X8_drop_30 : Dc m_X8_drop 30 (.iconst (-1)) 1 31 := ⟨by decide +kernel, rfl⟩
theorem d_X8_drop_31 : Dc m_X8_drop 31 (.iastore) 1 32 := ⟨by decide +kernel, rfl⟩
theorem d_X8_drop_32 : Dc m_X8_drop 32 (.aload_n 0) 1 33 := ⟨by decide +kernel, rfl⟩
theorem d_X8_drop_33 : Dc m_X8_drop 33 (.aload_n 0) 1 34 := ⟨by decide +kernel, rfl⟩
theorem d_X8_drop_34 : Dc m_X8_drop 34 (.getfield 13) 3 37 := ⟨by decide +kernel, rfl⟩
theorem d_X8_drop_37 : Dc m_X8_drop 37 (.iload_n 1) 1 38 := ⟨by decide +kernel, rfl⟩
theorem d_X8_drop_38 : Dc m_X8_drop 38 (.iaload) 1 39 := ⟨by decide +kernel, rfl⟩
theorem d_X8_drop_39 : Dc m_X8_drop 39 (.invokevirtual 77) 3 42 := ⟨by decide +kernel, rfl⟩
theorem d_X8_drop_42 : Dc m_X8_drop 42 (.ireturn) 1 43 := ⟨by decide +kernel, rfl⟩
theorem d_X8_feed_0 : Dc m_X8_feed 0 (.iload_n 1) 1 1 := ⟨by decide +kernel, rfl⟩
theorem d_X8_feed_1 : Dc m_X8_feed 1 (.iconst 0) 1 2 := ⟨by decide +kernel, rfl⟩
theorem d_X8_feed_2 : Dc m_X8_feed 2 (.sipush 255) 3 5 := ⟨by decide +kernel, rfl⟩
theorem d_X8_feed_5 : Dc m_X8_feed 5 (.invokestatic 59) 3 8 := ⟨by decide +kernel, rfl⟩
theorem d_X8_feed_8 : Dc m_X8_feed 8 (.ifCond .ne 6) 3 11 := ⟨by decide +kernel, rfl⟩
theorem d_X8_feed_11 : Dc m_X8_feed 11 (.ldc 72) 2 13 := ⟨by decide +kernel, rfl⟩
theorem d_X8_feed_13 : Dc m_X8_feed 13 (.ireturn) 1 14 := ⟨by decide +kernel, rfl⟩
theorem d_X8_feed_14 : Dc m_X8_feed 14 (.aload_n 0) 1 15 := ⟨by decide +kernel, rfl⟩
theorem d_X8_feed_15 : Dc m_X8_feed 15 (.getfield 83) 3 18 := ⟨by decide +kernel, rfl⟩
theorem d_X8_feed_18 : Dc m_X8_feed 18 (.bipush 100) 2 20 := ⟨by decide +kernel, rfl⟩
theorem d_X8_feed_20 : Dc m_X8_feed 20 (.if_icmp .ne 6) 3 23 := ⟨by decide +kernel, rfl⟩
theorem d_X8_feed_23 : Dc m_X8_feed 23 (.ldc 86) 2 25 := ⟨by decide +kernel, rfl⟩
theorem d_X8_feed_25 : Dc m_X8_feed 25 (.ireturn) 1 26 := ⟨by decide +kernel, rfl⟩
theorem d_X8_feed_26 : Dc m_X8_feed 26 (.aload_n 0) 1 27 := ⟨by decide +kernel, rfl⟩
theorem d_X8_feed_27 : Dc m_X8_feed 27 (.getfield 19) 3 30 := ⟨by decide +kernel, rfl⟩
theorem d_X8_feed_30 : Dc m_X8_feed 30 (.aload_n 0) 1 31 := ⟨by decide +kernel, rfl⟩
theorem d_X8_feed_31 : Dc m_X8_feed 31 (.getfield 83) 3 34 := ⟨by decide +kernel, rfl⟩
theorem d_X8_feed_34 : Dc m_X8_feed 34 (.iload_n 1) 1 35 := ⟨by decide +kernel, rfl⟩
theorem d_X8_feed_35 : Dc m_X8_feed 35 (.iastore) 1 36 := ⟨by decide +kernel, rfl⟩
theorem d_X8_feed_36 : Dc m_X8_feed 36 (.aload_n 0) 1 37 := ⟨by decide +kernel, rfl⟩
theorem d_X8_feed_37 : Dc m_X8_feed 37 (.dup) 1 38 := ⟨by decide +kernel, rfl⟩
theorem d_X8_feed_38 : Dc m_X8_feed 38 (.getfield 83) 3 41 := ⟨by decide +kernel, rfl⟩
theorem d_X8_feed_41 : Dc m_X8_feed 41 (.iconst 1) 1 42 := ⟨by decide +kernel, rfl⟩
theorem d_X8_feed_42 : Dc m_X8_feed 42 (.iadd) 1 43 := ⟨by decide +kernel, rfl⟩
theorem d_X8_feed_43 : Dc m_X8_feed 43 (.putfield 83) 3 46 := ⟨by decide +kernel, rfl⟩
theorem d_X8_feed_46 : Dc m_X8_feed 46 (.aload_n 0) 1 47 := ⟨by decide +kernel, rfl⟩
theorem d_X8_feed_47 : Dc m_X8_feed 47 (.getfield 83) 3 50 := ⟨by decide +kernel, rfl⟩
theorem d_X8_feed_50 : Dc m_X8_feed 50 (.ireturn) 1 51 := ⟨by decide +kernel, rfl⟩
theorem d_X8_nextToken_0 : Dc m_X8_nextToken 0 (.aload_n 0) 1 1 := ⟨by decide +kernel, rfl⟩
theorem d_X8_nextToken_1 : Dc m_X8_nextToken 1 (.aload_n 0) 1 2 := ⟨by decide +kernel, rfl⟩
theorem d_X8_nextToken_2 : Dc m_X8_nextToken 2 (.getfield 87) 3 5 := ⟨by decide +kernel, rfl⟩
theorem d_X8_nextToken_5 : Dc m_X8_nextToken 5 (.putfield 90) 3 8 := ⟨by decide +kernel, rfl⟩
theorem d_X8_nextToken_8 : Dc m_X8_nextToken 8 (.aload_n 0) 1 9 := ⟨by decide +kernel, rfl⟩
theorem d_X8_nextToken_9 : Dc m_X8_nextToken 9 (.iconst 0) 1 10 := ⟨by decide +kernel, rfl⟩
theorem d_X8_nextToken_10 : Dc m_X8_nextToken 10 (.putfield 93) 3 13 := ⟨by decide +kernel, rfl⟩
theorem d_X8_nextToken_13 : Dc m_X8_nextToken 13 (.aload_n 0) 1 14 := ⟨by decide +kernel, rfl⟩
theorem d_X8_nextToken_14 : Dc m_X8_nextToken 14 (.getfield 87) 3 17 := ⟨by decide +kernel, rfl⟩
theorem d_X8_nextToken_17 : Dc m_X8_nextToken 17 (.aload_n 0) 1 18 := ⟨by decide +kernel, rfl⟩
theorem d_X8_nextToken_18 : Dc m_X8_nextToken 18 (.getfield 83) 3 21 := ⟨by decide +kernel, rfl⟩
theorem d_X8_nextToken_21 : Dc m_X8_nextToken 21 (.if_icmp .ne 10) 3 24 := ⟨by decide +kernel, rfl⟩
theorem d_X8_nextToken_24 : Dc m_X8_nextToken 24 (.aload_n 0) 1 25 := ⟨by decide +kernel, rfl⟩
theorem d_X8_nextToken_25 : Dc m_X8_nextToken 25 (.bipush (-2)) 2 27 := ⟨by decide +kernel, rfl⟩
theorem d_X8_nextToken_27 : Dc m_X8_nextToken 27 (.putfield 96) 3 30 := ⟨by decide +kernel, rfl⟩
theorem d_X8_nextToken_30 : Dc m_X8_nextToken 30 (.return_) 1 31 := ⟨by decide +kernel, rfl⟩
theorem d_X8_nextToken_31 : Dc m_X8_nextToken 31 (.aload_n 0) 1 32 := ⟨by decide +kernel, rfl⟩
theorem d_X8_nextToken_32 : Dc m_X8_nextToken 32 (.getfield 19) 3 35 := ⟨by decide +kernel, rfl⟩
theorem d_X8_nextToken_35 : Dc m_X8_nextToken 35 (.aload_n 0) 1 36 := ⟨by decide +kernel, rfl⟩
theorem d_X8_nextToken_36 : Dc m_X8_nextToken 36 (.getfield 87) 3 39 := ⟨by decide +kernel, rfl⟩
theorem d_X8_nextToken_39 : Dc m_X8_nextToken 39 (.iaload) 1 40 := ⟨by decide +kernel, rfl⟩
theorem d_X8_nextToken_40 : Dc m_X8_nextToken 40 (.istore_n 1) 1 41 := ⟨by decide +kernel, rfl⟩
theorem d_X8_nextToken_41 : Dc m_X8_nextToken 41 (.iload_n 1) 1 42 := ⟨by decide +kernel, rfl⟩
theorem d_X8_nextToken_42 : Dc m_X8_nextToken 42 (.bipush 48) 2 44 := ⟨by decide +kernel, rfl⟩
theorem d_X8_nextToken_44 : Dc m_X8_nextToken 44 (.bipush 57) 2 46 := ⟨by decide +kernel, rfl⟩
theorem d_X8_nextToken_46 : Dc m_X8_nextToken 46 (.invokestatic 59) 3 49 := ⟨by decide +kernel, rfl⟩
theorem d_X8_nextToken_49 : Dc m_X8_nextToken 49 (.ifCond .eq 114) 3 52 := ⟨by decide +kernel, rfl⟩
theorem d_X8_nextToken_52 : Dc m_X8_nextToken 52 (.aload_n 0) 1 53 := ⟨by decide +kernel, rfl⟩
theorem d_X8_nextToken_53 : Dc m_X8_nextToken 53 (.getfield 87) 3 56 := ⟨by decide +kernel, rfl⟩
theorem d_X8_nextToken_56 : Dc m_X8_nextToken 56 (.aload_n 0) 1 57 := ⟨by decide +kernel, rfl⟩
theorem d_X8_nextToken_57 : Dc m_X8_nextToken 57 (.getfield 83) 3 60 := ⟨by decide +kernel, rfl⟩
theorem d_X8_nextToken_60 : Dc m_X8_nextToken 60 (.if_icmp .ge 79) 3 63 := ⟨by decide +kernel, rfl⟩
theorem d_X8_nextToken_63 : Dc m_X8_nextToken 63 (.aload_n 0) 1 64 := ⟨by decide +kernel, rfl⟩
theorem d_X8_nextToken_64 : Dc m_X8_nextToken 64 (.getfield 19) 3 67 := ⟨by decide +kernel, rfl⟩
theorem d_X8_nextToken_67 : Dc m_X8_nextToken 67 (.aload_n 0) 1 68 := ⟨by decide +kernel, rfl⟩
theorem d_X8_nextToken_68 : Dc m_X8_nextToken 68 (.getfield 87) 3 71 := ⟨by decide +kernel, rfl⟩
theorem d_X8_nextToken_71 : Dc m_X8_nextToken 71 (.iaload) 1 72 := ⟨by decide +kernel, rfl⟩
theorem d_X8_nextToken_72 : Dc m_X8_nextToken 72 (.bipush 48) 2 74 := ⟨by decide +kernel, rfl⟩
theorem d_X8_nextToken_74 : Dc m_X8_nextToken 74 (.bipush 57) 2 76 := ⟨by decide +kernel, rfl⟩
theorem d_X8_nextToken_76 : Dc m_X8_nextToken 76 (.invokestatic 59) 3 79 := ⟨by decide +kernel, rfl⟩
theorem d_X8_nextToken_79 : Dc m_X8_nextToken 79 (.ifCond .eq 60) 3 82 := ⟨by decide +kernel, rfl⟩
theorem d_X8_nextToken_82 : Dc m_X8_nextToken 82 (.aload_n 0) 1 83 := ⟨by decide +kernel, rfl⟩
theorem d_X8_nextToken_83 : Dc m_X8_nextToken 83 (.aload_n 0) 1 84 := ⟨by decide +kernel, rfl⟩
theorem d_X8_nextToken_84 : Dc m_X8_nextToken 84 (.getfield 87) 3 87 := ⟨by decide +kernel, rfl⟩
theorem d_X8_nextToken_87 : Dc m_X8_nextToken 87 (.aload_n 0) 1 88 := ⟨by decide +kernel, rfl⟩
theorem d_X8_nextToken_88 : Dc m_X8_nextToken 88 (.getfield 90) 3 91 := ⟨by decide +kernel, rfl⟩
theorem d_X8_nextToken_91 : Dc m_X8_nextToken 91 (.isub) 1 92 := ⟨by decide +kernel, rfl⟩
theorem d_X8_nextToken_92 : Dc m_X8_nextToken 92 (.iconst 2) 1 93 := ⟨by decide +kernel, rfl⟩
theorem d_X8_nextToken_93 : Dc m_X8_nextToken 93 (.if_icmp .ge 26) 3 96 := ⟨by decide +kernel, rfl⟩
theorem d_X8_nextToken_96 : Dc m_X8_nextToken 96 (.bipush 10) 2 98 := ⟨by decide +kernel, rfl⟩
theorem d_X8_nextToken_98 : Dc m_X8_nextToken 98 (.aload_n 0) 1 99 := ⟨by decide +kernel, rfl⟩
theorem d_X8_nextToken_99 : Dc m_X8_nextToken 99 (.getfield 93) 3 102 := ⟨by decide +kernel, rfl⟩
theorem d_X8_nextToken_102 : Dc m_X8_nextToken 102 (.imul) 1 103 := ⟨by decide +kernel, rfl⟩
theorem d_X8_nextToken_103 : Dc m_X8_nextToken 103 (.aload_n 0) 1 104 := ⟨by decide +kernel, rfl⟩
theorem d_X8_nextToken_104 : Dc m_X8_nextToken 104 (.getfield 19) 3 107 := ⟨by decide +kernel, rfl⟩
theorem d_X8_nextToken_107 : Dc m_X8_nextToken 107 (.aload_n 0) 1 108 := ⟨by decide +kernel, rfl⟩
theorem d_X8_nextToken_108 : Dc m_X8_nextToken 108 (.getfield 87) 3 111 := ⟨by decide +kernel, rfl⟩
theorem d_X8_nextToken_111 : Dc m_X8_nextToken 111 (.iaload) 1 112 := ⟨by decide +kernel, rfl⟩
theorem d_X8_nextToken_112 : Dc m_X8_nextToken 112 (.iadd) 1 113 := ⟨by decide +kernel, rfl⟩
theorem d_X8_nextToken_113 : Dc m_X8_nextToken 113 (.bipush 48) 2 115 := ⟨by decide +kernel, rfl⟩
theorem d_X8_nextToken_115 : Dc m_X8_nextToken 115 (.isub) 1 116 := ⟨by decide +kernel, rfl⟩
theorem d_X8_nextToken_116 : Dc m_X8_nextToken 116 (.goto 7) 3 119 := ⟨by decide +kernel, rfl⟩
theorem d_X8_nextToken_119 : Dc m_X8_nextToken 119 (.aload_n 0) 1 120 := ⟨by decide +kernel, rfl⟩
theorem d_X8_nextToken_120 : Dc m_X8_nextToken 120 (.getfield 93) 3 123 := ⟨by decide +kernel, rfl⟩
theorem d_X8_nextToken_123 : Dc m_X8_nextToken 123 (.putfield 93) 3 126 := ⟨by decide +kernel, rfl⟩
theorem d_X8_nextToken_126 : Dc m_X8_nextToken 126 (.aload_n 0) 1 127 := ⟨by decide +kernel, rfl⟩
theorem d_X8_nextToken_127 : Dc m_X8_nextToken 127 (.dup) 1 128 := ⟨by decide +kernel, rfl⟩
theorem d_X8_nextToken_128 : Dc m_X8_nextToken 128 (.getfield 87) 3 131 := ⟨by decide +kernel, rfl⟩
theorem d_X8_nextToken_131 : Dc m_X8_nextToken 131 (.iconst 1) 1 132 := ⟨by decide +kernel, rfl⟩
theorem d_X8_nextToken_132 : Dc m_X8_nextToken 132 (.iadd) 1 133 := ⟨by decide +kernel, rfl⟩
theorem d_X8_nextToken_133 : Dc m_X8_nextToken 133 (.putfield 87) 3 136 := ⟨by decide +kernel, rfl⟩
theorem d_X8_nextToken_136 : Dc m_X8_nextToken 136 (.goto (-84)) 3 139 := ⟨by decide +kernel, rfl⟩
theorem d_X8_nextToken_139 : Dc m_X8_nextToken 139 (.aload_n 0) 1 140 := ⟨by decide +kernel, rfl⟩
theorem d_X8_nextToken_140 : Dc m_X8_nextToken 140 (.aload_n 0) 1 141 := ⟨by decide +kernel, rfl⟩
theorem d_X8_nextToken_141 : Dc m_X8_nextToken 141 (.getfield 87) 3 144 := ⟨by decide +kernel, rfl⟩
theorem d_X8_nextToken_144 : Dc m_X8_nextToken 144 (.aload_n 0) 1 145 := ⟨by decide +kernel, rfl⟩
theorem d_X8_nextToken_145 : Dc m_X8_nextToken 145 (.getfield 90) 3 148 := ⟨by decide +kernel, rfl⟩
theorem d_X8_nextToken_148 : Dc m_X8_nextToken 148 (.isub) 1 149 := ⟨by decide +kernel, rfl⟩
theorem d_X8_nextToken_149 : Dc m_X8_nextToken 149 (.iconst 2) 1 150 := ⟨by decide +kernel, rfl⟩
theorem d_X8_nextToken_150 : Dc m_X8_nextToken 150 (.if_icmp .le 8) 3 153 := ⟨by decide +kernel, rfl⟩
theorem d_X8_nextToken_153 : Dc m_X8_nextToken 153 (.bipush (-3)) 2 155 := ⟨by decide +kernel, rfl⟩
theorem d_X8_nextToken_155 : Dc m_X8_nextToken 155 (.goto 4) 3 158 := ⟨by decide +kernel, rfl⟩
theorem d_X8_nextToken_158 : Dc m_X8_nextToken 158 (.iconst (-1)) 1 159 := ⟨by decide +kernel, rfl⟩
theorem d_X8_nextToken_159 : Dc m_X8_nextToken 159 (.putfield 96) 3 162 := ⟨by decide +kernel, rfl⟩
theorem d_X8_nextToken_162 : Dc m_X8_nextToken 162 (.return_) 1 163 := ⟨by decide +kernel, rfl⟩
theorem d_X8_nextToken_163 : Dc m_X8_nextToken 163 (.aload_n 0) 1 164 := ⟨by decide +kernel, rfl⟩
theorem d_X8_nextToken_164 : Dc m_X8_nextToken 164 (.iload_n 1) 1 165 := ⟨by decide +kernel, rfl⟩
theorem d_X8_nextToken_165 : Dc m_X8_nextToken 165 (.bipush 97) 2 167 := ⟨by decide +kernel, rfl⟩
theorem d_X8_nextToken_167 : Dc m_X8_nextToken 167 (.bipush 122) 2 169 := ⟨by decide +kernel, rfl⟩
theorem d_X8_nextToken_169 : Dc m_X8_nextToken 169 (.invokestatic 59) 3 172 := ⟨by decide +kernel, rfl⟩
theorem d_X8_nextToken_172 : Dc m_X8_nextToken 172 (.ifCond .ne 15) 3 175 := ⟨by decide +kernel, rfl⟩
theorem d_X8_nextToken_175 : Dc m_X8_nextToken 175 (.iload_n 1) 1 176 := ⟨by decide +kernel, rfl⟩
theorem d_X8_nextToken_176 : Dc m_X8_nextToken 176 (.bipush 44) 2 178 := ⟨by decide +kernel, rfl⟩
theorem d_X8_nextToken_178 : Dc m_X8_nextToken 178 (.if_icmp .eq 9) 3 181 := ⟨by decide +kernel, rfl⟩
theorem d_X8_nextToken_181 : Dc m_X8_nextToken 181 (.iload_n 1) 1 182 := ⟨by decide +kernel, rfl⟩
theorem d_X8_nextToken_182 : Dc m_X8_nextToken 182 (.bipush 59) 2 184 := ⟨by decide +kernel, rfl⟩
theorem d_X8_nextToken_184 : Dc m_X8_nextToken 184 (.if_icmp .ne 7) 3 187 := ⟨by decide +kernel, rfl⟩
theorem d_X8_nextToken_187 : Dc m_X8_nextToken 187 (.iload_n 1) 1 188 := ⟨by decide +kernel, rfl⟩
theorem d_X8_nextToken_188 : Dc m_X8_nextToken 188 (.goto 5) 3 191 := ⟨by decide +kernel, rfl⟩
theorem d_X8_nextToken_191 : Dc m_X8_nextToken 191 (.bipush (-3)) 2 193 := ⟨by decide +kernel, rfl⟩
theorem d_X8_nextToken_193 : Dc m_X8_nextToken 193 (.putfield 96) 3 196 := ⟨by decide +kernel, rfl⟩
theorem d_X8_nextToken_196 : Dc m_X8_nextToken 196 (.aload_n 0) 1 197 := ⟨by decide +kernel, rfl⟩
theorem d_X8_nextToken_197 : Dc m_X8_nextToken 197 (.dup) 1 198 := ⟨by decide +kernel, rfl⟩
theorem d_X8_nextToken_198 : Dc m_X8_nextToken 198 (.getfield 87) 3 201 := ⟨by decide +kernel, rfl⟩
theorem d_X8_nextToken_201 : Dc m_X8_nextToken 201 (.iconst 1) 1 202 := ⟨by decide +kernel, rfl⟩
theorem d_X8_nextToken_202 : Dc m_X8_nextToken 202 (.iadd) 1 203 := ⟨by decide +kernel, rfl⟩
theorem d_X8_nextToken_203 : Dc m_X8_nextToken 203 (.putfield 87) 3 206 := ⟨by decide +kernel, rfl⟩
theorem d_X8_nextToken_206 : Dc m_X8_nextToken 206 (.return_) 1 207 := ⟨by decide +kernel, rfl⟩
theorem d_X8_fails_0 : Dc m_X8_fails 0 (.aload_n 0) 1 1 := ⟨by decide +kernel, rfl⟩
theorem d_X8_fails_1 : Dc m_X8_fails 1 (.iload_n 1) 1 2 := ⟨by decide +kernel, rfl⟩
theorem d_X8_fails_2 : Dc m_X8_fails 2 (.putfield 99) 3 5 := ⟨by decide +kernel, rfl⟩
theorem d_X8_fails_5 : Dc m_X8_fails 5 (.iconst 0) 1 6 := ⟨by decide +kernel, rfl⟩
theorem d_X8_fails_6 : Dc m_X8_fails 6 (.ireturn) 1 7 := ⟨by decide +kernel, rfl⟩
theorem d_X8_isSign_0 : Dc m_X8_isSign 0 (.aload_n 0) 1 1 := ⟨by decide +kernel, rfl⟩
theorem d_X8_isSign_1 : Dc m_X8_isSign 1 (.invokevirtual 102) 3 4 := ⟨by decide +kernel, rfl⟩
theorem d_X8_isSign_4 : Dc m_X8_isSign 4 (.aload_n 0) 1 5 := ⟨by decide +kernel, rfl⟩
theorem d_X8_isSign_5 : Dc m_X8_isSign 5 (.getfield 96) 3 8 := ⟨by decide +kernel, rfl⟩
theorem d_X8_isSign_8 : Dc m_X8_isSign 8 (.iload_n 1) 1 9 := ⟨by decide +kernel, rfl⟩
theorem d_X8_isSign_9 : Dc m_X8_isSign 9 (.if_icmp .eq 11) 3 12 := ⟨by decide +kernel, rfl⟩
theorem d_X8_isSign_12 : Dc m_X8_isSign 12 (.aload_n 0) 1 13 := ⟨by decide +kernel, rfl⟩
theorem d_X8_isSign_13 : Dc m_X8_isSign 13 (.iconst 1) 1 14 := ⟨by decide +kernel, rfl⟩
theorem d_X8_isSign_14 : Dc m_X8_isSign 14 (.invokevirtual 105) 3 17 := ⟨by decide +kernel, rfl⟩
theorem d_X8_isSign_17 : Dc m_X8_isSign 17 (.ifCond .eq 7) 3 20 := ⟨by decide +kernel, rfl⟩
theorem d_X8_isSign_20 : Dc m_X8_isSign 20 (.iconst 1) 1 21 := ⟨by decide +kernel, rfl⟩
theorem d_X8_isSign_21 : Dc m_X8_isSign 21 (.goto 4) 3 24 := ⟨by decide +kernel, rfl⟩
theorem d_X8_isSign_24 : Dc m_X8_isSign 24 (.iconst 0) 1 25 := ⟨by decide +kernel, rfl⟩
theorem d_X8_isSign_25 : Dc m_X8_isSign 25 (.ireturn) 1 26 := ⟨by decide +kernel, rfl⟩
theorem d_X8_isNumber_0 : Dc m_X8_isNumber 0 (.aload_n 0) 1 1 := ⟨by decide +kernel, rfl⟩
theorem d_X8_isNumber_1 : Dc m_X8_isNumber 1 (.invokevirtual 102) 3 4 := ⟨by decide +kernel, rfl⟩
theorem d_X8_isNumber_4 : Dc m_X8_isNumber 4 (.aload_n 0) 1 5 := ⟨by decide +kernel, rfl⟩
theorem d_X8_isNumber_5 : Dc m_X8_isNumber 5 (.getfield 96) 3 8 := ⟨by decide +kernel, rfl⟩
theorem d_X8_isNumber_8 : Dc m_X8_isNumber 8 (.iconst (-1)) 1 9 := ⟨by decide +kernel, rfl⟩
theorem d_X8_isNumber_9 : Dc m_X8_isNumber 9 (.if_icmp .eq 9) 3 12 := ⟨by decide +kernel, rfl⟩
theorem d_X8_isNumber_12 : Dc m_X8_isNumber 12 (.aload_n 0) 1 13 := ⟨by decide +kernel, rfl⟩
theorem d_X8_isNumber_13 : Dc m_X8_isNumber 13 (.iconst 1) 1 14 := ⟨by decide +kernel, rfl⟩
theorem d_X8_isNumber_14 : Dc m_X8_isNumber 14 (.invokevirtual 105) 3 17 := ⟨by decide +kernel, rfl⟩
theorem d_X8_isNumber_17 : Dc m_X8_isNumber 17 (.ireturn) 1 18 := ⟨by decide +kernel, rfl⟩
theorem d_X8_isNumber_18 : Dc m_X8_isNumber 18 (.aload_n 0) 1 19 := ⟨by decide +kernel, rfl⟩
theorem d_X8_isNumber_19 : Dc m_X8_isNumber 19 (.getfield 93) 3 22 := ⟨by decide +kernel, rfl⟩
theorem d_X8_isNumber_22 : Dc m_X8_isNumber 22 (.iload_n 1) 1 23 := ⟨by decide +kernel, rfl⟩
theorem d_X8_isNumber_23 : Dc m_X8_isNumber 23 (.iload_n 2) 1 24 := ⟨by decide +kernel, rfl⟩
theorem d_X8_isNumber_24 : Dc m_X8_isNumber 24 (.invokestatic 59) 3 27 := ⟨by decide +kernel, rfl⟩
theorem d_X8_isNumber_27 : Dc m_X8_isNumber 27 (.ifCond .ne 11) 3 30 := ⟨by decide +kernel, rfl⟩
theorem d_X8_isNumber_30 : Dc m_X8_isNumber 30 (.aload_n 0) 1 31 := ⟨by decide +kernel, rfl⟩
theorem d_X8_isNumber_31 : Dc m_X8_isNumber 31 (.iconst 2) 1 32 := ⟨by decide +kernel, rfl⟩
theorem d_X8_isNumber_32 : Dc m_X8_isNumber 32 (.invokevirtual 105) 3 35 := ⟨by decide +kernel, rfl⟩
theorem d_X8_isNumber_35 : Dc m_X8_isNumber 35 (.ifCond .eq 7) 3 38 := ⟨by decide +kernel, rfl⟩
theorem d_X8_isNumber_38 : Dc m_X8_isNumber 38 (.iconst 1) 1 39 := ⟨by decide +kernel, rfl⟩
theorem d_X8_isNumber_39 : Dc m_X8_isNumber 39 (.goto 4) 3 42 := ⟨by decide +kernel, rfl⟩
theorem d_X8_isNumber_42 : Dc m_X8_isNumber 42 (.iconst 0) 1 43 := ⟨by decide +kernel, rfl⟩
theorem d_X8_isNumber_43 : Dc m_X8_isNumber 43 (.ireturn) 1 44 := ⟨by decide +kernel, rfl⟩
theorem d_X8_sortBy_0 : Dc m_X8_sortBy 0 (.iload_n 0) 1 1 := ⟨by decide +kernel, rfl⟩
theorem d_X8_sortBy_1 : Dc m_X8_sortBy 1 (.bipush 102) 2 3 := ⟨by decide +kernel, rfl⟩
theorem d_X8_sortBy_3 : Dc m_X8_sortBy 3 (.if_icmp .ne 7) 3 6 := ⟨by decide +kernel, rfl⟩
theorem d_X8_sortBy_6 : Dc m_X8_sortBy 6 (.iconst 1) 1 7 := ⟨by decide +kernel, rfl⟩
theorem d_X8_sortBy_7 : Dc m_X8_sortBy 7 (.goto 44) 3 10 := ⟨by decide +kernel, rfl⟩
theorem d_X8_sortBy_10 : Dc m_X8_sortBy 10 (.iload_n 0) 1 11 := ⟨by decide +kernel, rfl⟩
theorem d_X8_sortBy_11 : Dc m_X8_sortBy 11 (.bipush 115) 2 13 := ⟨by decide +kernel, rfl⟩
theorem d_X8_sortBy_13 : Dc m_X8_sortBy 13 (.if_icmp .ne 7) 3 16 := ⟨by decide +kernel, rfl⟩
theorem d_X8_sortBy_16 : Dc m_X8_sortBy 16 (.iconst 2) 1 17 := ⟨by decide +kernel, rfl⟩
theorem d_X8_sortBy_17 : Dc m_X8_sortBy 17 (.goto 34) 3 20 := ⟨by decide +kernel, rfl⟩
theorem d_X8_sortBy_20 : Dc m_X8_sortBy 20 (.iload_n 0) 1 21 := ⟨by decide +kernel, rfl⟩
theorem d_X8_sortBy_21 : Dc m_X8_sortBy 21 (.bipush 97) 2 23 := ⟨by decide +kernel, rfl⟩
theorem d_X8_sortBy_23 : Dc m_X8_sortBy 23 (.if_icmp .ne 7) 3 26 := ⟨by decide +kernel, rfl⟩
theorem d_X8_sortBy_26 : Dc m_X8_sortBy 26 (.iconst 3) 1 27 := ⟨by decide +kernel, rfl⟩
theorem d_X8_sortBy_27 : Dc m_X8_sortBy 27 (.goto 24) 3 30 := ⟨by decide +kernel, rfl⟩
theorem d_X8_sortBy_30 : Dc m_X8_sortBy 30 (.iload_n 0) 1 31 := ⟨by decide +kernel, rfl⟩
theorem d_X8_sortBy_31 : Dc m_X8_sortBy 31 (.bipush 111) 2 33 := ⟨by decide +kernel, rfl⟩
theorem d_X8_sortBy_33 : Dc m_X8_sortBy 33 (.if_icmp .ne 7) 3 36 := ⟨by decide +kernel, rfl⟩
theorem d_X8_sortBy_36 : Dc m_X8_sortBy 36 (.iconst 4) 1 37 := ⟨by decide +kernel, rfl⟩
theorem d_X8_sortBy_37 : Dc m_X8_sortBy 37 (.goto 14) 3 40 := ⟨by decide +kernel, rfl⟩
theorem d_X8_sortBy_40 : Dc m_X8_sortBy 40 (.iload_n 0) 1 41 := ⟨by decide +kernel, rfl⟩
theorem d_X8_sortBy_41 : Dc m_X8_sortBy 41 (.bipush 104) 2 43 := ⟨by decide +kernel, rfl⟩
theorem d_X8_sortBy_43 : Dc m_X8_sortBy 43 (.if_icmp .ne 7) 3 46 := ⟨by decide +kernel, rfl⟩
theorem d_X8_sortBy_46 : Dc m_X8_sortBy 46 (.iconst 5) 1 47 := ⟨by decide +kernel, rfl⟩
theorem d_X8_sortBy_47 : Dc m_X8_sortBy 47 (.goto 4) 3 50 := ⟨by decide +kernel, rfl⟩
theorem d_X8_sortBy_50 : Dc m_X8_sortBy 50 (.iconst 0) 1 51 := ⟨by decide +kernel, rfl⟩
theorem d_X8_sortBy_51 : Dc m_X8_sortBy 51 (.ireturn) 1 52 := ⟨by decide +kernel, rfl⟩
theorem d_X8_isThree_0 : Dc m_X8_isThree 0 (.iconst 0) 1 1 := ⟨by decide +kernel, rfl⟩
theorem d_X8_isThree_1 : Dc m_X8_isThree 1 (.istore 7) 2 3 := ⟨by decide +kernel, rfl⟩
theorem d_X8_isThree_3 : Dc m_X8_isThree 3 (.iload 7) 2 5 := ⟨by decide +kernel, rfl⟩
theorem d_X8_isThree_5 : Dc m_X8_isThree 5 (.iconst 3) 1 6 := ⟨by decide +kernel, rfl⟩
theorem d_X8_isThree_6 : Dc m_X8_isThree 6 (.if_icmp .ge 93) 3 9 := ⟨by decide +kernel, rfl⟩
theorem d_X8_isThree_9 : Dc m_X8_isThree 9 (.aload_n 0) 1 10 := ⟨by decide +kernel, rfl⟩
theorem d_X8_isThree_10 : Dc m_X8_isThree 10 (.iconst 0) 1 11 := ⟨by decide +kernel, rfl⟩
theorem d_X8_isThree_11 : Dc m_X8_isThree 11 (.iload 7) 2 13 := ⟨by decide +kernel, rfl⟩
theorem d_X8_isThree_13 : Dc m_X8_isThree 13 (.ifCond .ne 7) 3 16 := ⟨by decide +kernel, rfl⟩
theorem d_X8_isThree_16 : Dc m_X8_isThree 16 (.iload_n 2) 1 17 := ⟨by decide +kernel, rfl⟩
theorem d_X8_isThree_17 : Dc m_X8_isThree 17 (.goto 16) 3 20 := ⟨by decide +kernel, rfl⟩
theorem d_X8_isThree_20 : Dc m_X8_isThree 20 (.iload 7) 2 22 := ⟨by decide +kernel, rfl⟩
theorem d_X8_isThree_22 : Dc m_X8_isThree 22 (.iconst 1) 1 23 := ⟨by decide +kernel, rfl⟩
theorem d_X8_isThree_23 : Dc m_X8_isThree 23 (.if_icmp .ne 8) 3 26 := ⟨by decide +kernel, rfl⟩
theorem d_X8_isThree_26 : Dc m_X8_isThree 26 (.iload 4) 2 28 := ⟨by decide +kernel, rfl⟩
theorem d_X8_isThree_28 : Dc m_X8_isThree 28 (.goto 5) 3 31 := ⟨by decide +kernel, rfl⟩
theorem d_X8_isThree_31 : Dc m_X8_isThree 31 (.iload 6) 2 33 := ⟨by decide +kernel, rfl⟩
theorem d_X8_isThree_33 : Dc m_X8_isThree 33 (.invokevirtual 108) 3 36 := ⟨by decide +kernel, rfl⟩
theorem d_X8_isThree_36 : Dc m_X8_isThree 36 (.ifCond .ne 5) 3 39 := ⟨by decide +kernel, rfl⟩
theorem d_X8_isThree_39 : Dc m_X8_isThree 39 (.iconst 0) 1 40 := ⟨by decide +kernel, rfl⟩
theorem d_X8_isThree_40 : Dc m_X8_isThree 40 (.ireturn) 1 41 := ⟨by decide +kernel, rfl⟩
theorem d_X8_isThree_41 : Dc m_X8_isThree 41 (.aload_n 0) 1 42 := ⟨by decide +kernel, rfl⟩
theorem d_X8_isThree_42 : Dc m_X8_isThree 42 (.getfield 25) 3 45 := ⟨by decide +kernel, rfl⟩
theorem d_X8_isThree_45 : Dc m_X8_isThree 45 (.iload 7) 2 47 := ⟨by decide +kernel, rfl⟩
theorem d_X8_isThree_47 : Dc m_X8_isThree 47 (.ifCond .ne 7) 3 50 := ⟨by decide +kernel, rfl⟩
theorem d_X8_isThree_50 : Dc m_X8_isThree 50 (.iload_n 1) 1 51 := ⟨by decide +kernel, rfl⟩
theorem d_X8_isThree_51 : Dc m_X8_isThree 51 (.goto 15) 3 54 := ⟨by decide +kernel, rfl⟩
theorem d_X8_isThree_54 : Dc m_X8_isThree 54 (.iload 7) 2 56 := ⟨by decide +kernel, rfl⟩
theorem d_X8_isThree_56 : Dc m_X8_isThree 56 (.iconst 1) 1 57 := ⟨by decide +kernel, rfl⟩
theorem d_X8_isThree_57 : Dc m_X8_isThree 57 (.if_icmp .ne 7) 3 60 := ⟨by decide +kernel, rfl⟩
theorem d_X8_isThree_60 : Dc m_X8_isThree 60 (.iload_n 3) 1 61 := ⟨by decide +kernel, rfl⟩
theorem d_X8_isThree_61 : Dc m_X8_isThree 61 (.goto 5) 3 64 := ⟨by decide +kernel, rfl⟩
theorem d_X8_isThree_64 : Dc m_X8_isThree 64 (.iload 5) 2 66 := ⟨by decide +kernel, rfl⟩
theorem d_X8_isThree_66 : Dc m_X8_isThree 66 (.aload_n 0) 1 67 := ⟨by decide +kernel, rfl⟩
theorem d_X8_isThree_67 : Dc m_X8_isThree 67 (.getfield 93) 3 70 := ⟨by decide +kernel, rfl⟩
theorem d_X8_isThree_70 : Dc m_X8_isThree 70 (.iastore) 1 71 := ⟨by decide +kernel, rfl⟩
theorem d_X8_isThree_71 : Dc m_X8_isThree 71 (.aload_n 0) 1 72 := ⟨by decide +kernel, rfl⟩
theorem d_X8_isThree_72 : Dc m_X8_isThree 72 (.iload 7) 2 74 := ⟨by decide +kernel, rfl⟩
theorem d_X8_isThree_74 : Dc m_X8_isThree 74 (.iconst 2) 1 75 := ⟨by decide +kernel, rfl⟩
theorem d_X8_isThree_75 : Dc m_X8_isThree 75 (.if_icmp .ne 8) 3 78 := ⟨by decide +kernel, rfl⟩
theorem d_X8_isThree_78 : Dc m_X8_isThree 78 (.bipush 59) 2 80 := ⟨by decide +kernel, rfl⟩
theorem d_X8_isThree_80 : Dc m_X8_isThree 80 (.goto 5) 3 83 := ⟨by decide +kernel, rfl⟩
theorem d_X8_isThree_83 : Dc m_X8_isThree 83 (.bipush 44) 2 85 := ⟨by decide +kernel, rfl⟩
theorem d_X8_isThree_85 : Dc m_X8_isThree 85 (.invokevirtual 112) 3 88 := ⟨by decide +kernel, rfl⟩
theorem d_X8_isThree_88 : Dc m_X8_isThree 88 (.ifCond .ne 5) 3 91 := ⟨by decide +kernel, rfl⟩
theorem d_X8_isThree_91 : Dc m_X8_isThree 91 (.iconst 0) 1 92 := ⟨by decide +kernel, rfl⟩
theorem d_X8_isThree_92 : Dc m_X8_isThree 92 (.ireturn) 1 93 := ⟨by decide +kernel, rfl⟩
theorem d_X8_isThree_93 : Dc m_X8_isThree 93 (.iinc 7 1) 3 96 := ⟨by decide +kernel, rfl⟩
theorem d_X8_isThree_96 : Dc m_X8_isThree 96 (.goto (-93)) 3 99 := ⟨by decide +kernel, rfl⟩
theorem d_X8_isThree_99 : Dc m_X8_isThree 99 (.iconst 1) 1 100 := ⟨by decide +kernel, rfl⟩
theorem d_X8_isThree_100 : Dc m_X8_isThree 100 (.ireturn) 1 101 := ⟨by decide +kernel, rfl⟩
theorem d_X8_isReader_0 : Dc m_X8_isReader 0 (.aload_n 0) 1 1 := ⟨by decide +kernel, rfl⟩
theorem d_X8_isReader_1 : Dc m_X8_isReader 1 (.getfield 96) 3 4 := ⟨by decide +kernel, rfl⟩
theorem d_X8_isReader_4 : Dc m_X8_isReader 4 (.ifCond .le 13) 3 7 := ⟨by decide +kernel, rfl⟩
theorem d_X8_isReader_7 : Dc m_X8_isReader 7 (.aload_n 0) 1 8 := ⟨by decide +kernel, rfl⟩
theorem d_X8_isReader_8 : Dc m_X8_isReader 8 (.getfield 96) 3 11 := ⟨by decide +kernel, rfl⟩
theorem d_X8_isReader_11 : Dc m_X8_isReader 11 (.invokestatic 115) 3 14 := ⟨by decide +kernel, rfl⟩
theorem d_X8_isReader_14 : Dc m_X8_isReader 14 (.goto 4) 3 17 := ⟨by decide +kernel, rfl⟩
theorem d_X8_isReader_17 : Dc m_X8_isReader 17 (.iconst 0) 1 18 := ⟨by decide +kernel, rfl⟩
theorem d_X8_isReader_18 : Dc m_X8_isReader 18 (.istore_n 1) 1 19 := ⟨by decide +kernel, rfl⟩
theorem d_X8_isReader_19 : Dc m_X8_isReader 19 (.iload_n 1) 1 20 := ⟨by decide +kernel, rfl⟩
theorem d_X8_isReader_20 : Dc m_X8_isReader 20 (.ifCond .ne 9) 3 23 := ⟨by decide +kernel, rfl⟩
theorem d_X8_isReader_23 : Dc m_X8_isReader 23 (.aload_n 0) 1 24 := ⟨by decide +kernel, rfl⟩
theorem d_X8_isReader_24 : Dc m_X8_isReader 24 (.iconst 1) 1 25 := ⟨by decide +kernel, rfl⟩
theorem d_X8_isReader_25 : Dc m_X8_isReader 25 (.invokevirtual 105) 3 28 := ⟨by decide +kernel, rfl⟩
theorem d_X8_isReader_28 : Dc m_X8_isReader 28 (.ireturn) 1 29 := ⟨by decide +kernel, rfl⟩
theorem d_X8_isReader_29 : Dc m_X8_isReader 29 (.aload_n 0) 1 30 := ⟨by decide +kernel, rfl⟩
theorem d_X8_isReader_30 : Dc m_X8_isReader 30 (.getfield 25) 3 33 := ⟨by decide +kernel, rfl⟩
theorem d_X8_isReader_33 : Dc m_X8_isReader 33 (.iconst 4) 1 34 := ⟨by decide +kernel, rfl⟩
theorem d_X8_isReader_34 : Dc m_X8_isReader 34 (.iaload) 1 35 := ⟨by decide +kernel, rfl⟩
theorem d_X8_isReader_35 : Dc m_X8_isReader 35 (.istore_n 2) 1 36 := ⟨by decide +kernel, rfl⟩
theorem d_X8_isReader_36 : Dc m_X8_isReader 36 (.iload_n 2) 1 37 := ⟨by decide +kernel, rfl⟩
theorem d_X8_isReader_37 : Dc m_X8_isReader 37 (.bipush 6) 2 39 := ⟨by decide +kernel, rfl⟩
theorem d_X8_isReader_39 : Dc m_X8_isReader 39 (.if_icmp .ne 9) 3 42 := ⟨by decide +kernel, rfl⟩
theorem d_X8_isReader_42 : Dc m_X8_isReader 42 (.aload_n 0) 1 43 := ⟨by decide +kernel, rfl⟩
theorem d_X8_isReader_43 : Dc m_X8_isReader 43 (.iconst 3) 1 44 := ⟨by decide +kernel, rfl⟩
theorem d_X8_isReader_44 : Dc m_X8_isReader 44 (.invokevirtual 105) 3 47 := ⟨by decide +kernel, rfl⟩
theorem d_X8_isReader_47 : Dc m_X8_isReader 47 (.ireturn) 1 48 := ⟨by decide +kernel, rfl⟩
theorem d_X8_isReader_48 : Dc m_X8_isReader 48 (.aload_n 0) 1 49 := ⟨by decide +kernel, rfl⟩
theorem d_X8_isReader_49 : Dc m_X8_isReader 49 (.getfield 25) 3 52 := ⟨by decide +kernel, rfl⟩
theorem d_X8_isReader_52 : Dc m_X8_isReader 52 (.bipush 9) 2 54 := ⟨by decide +kernel, rfl⟩
theorem d_X8_isReader_54 : Dc m_X8_isReader 54 (.iload_n 2) 1 55 := ⟨by decide +kernel, rfl⟩
theorem d_X8_isReader_55 : Dc m_X8_isReader 55 (.iadd) 1 56 := ⟨by decide +kernel, rfl⟩
theorem d_X8_isReader_56 : Dc m_X8_isReader 56 (.iload_n 1) 1 57 := ⟨by decide +kernel, rfl⟩
theorem d_X8_isReader_57 : Dc m_X8_isReader 57 (.iastore) 1 58 := ⟨by decide +kernel, rfl⟩
theorem d_X8_isReader_58 : Dc m_X8_isReader 58 (.aload_n 0) 1 59 := ⟨by decide +kernel, rfl⟩
theorem d_X8_isReader_59 : Dc m_X8_isReader 59 (.bipush 15) 2 61 := ⟨by decide +kernel, rfl⟩
theorem d_X8_isReader_61 : Dc m_X8_isReader 61 (.iload_n 2) 1 62 := ⟨by decide +kernel, rfl⟩
theorem d_X8_isReader_62 : Dc m_X8_isReader 62 (.iadd) 1 63 := ⟨by decide +kernel, rfl⟩
theorem d_X8_isReader_63 : Dc m_X8_isReader 63 (.bipush 9) 2 65 := ⟨by decide +kernel, rfl⟩
theorem d_X8_isReader_65 : Dc m_X8_isReader 65 (.bipush 21) 2 67 := ⟨by decide +kernel, rfl⟩
theorem d_X8_isReader_67 : Dc m_X8_isReader 67 (.iload_n 2) 1 68 := ⟨by decide +kernel, rfl⟩
theorem d_X8_isReader_68 : Dc m_X8_isReader 68 (.iadd) 1 69 := ⟨by decide +kernel, rfl⟩
theorem d_X8_isReader_69 : Dc m_X8_isReader 69 (.bipush 30) 2 71 := ⟨by decide +kernel, rfl⟩
theorem d_X8_isReader_71 : Dc m_X8_isReader 71 (.bipush 27) 2 73 := ⟨by decide +kernel, rfl⟩
theorem d_X8_isReader_73 : Dc m_X8_isReader 73 (.iload_n 2) 1 74 := ⟨by decide +kernel, rfl⟩
theorem d_X8_isReader_74 : Dc m_X8_isReader 74 (.iadd) 1 75 := ⟨by decide +kernel, rfl⟩
theorem d_X8_isReader_75 : Dc m_X8_isReader 75 (.bipush 9) 2 77 := ⟨by decide +kernel, rfl⟩
theorem d_X8_isReader_77 : Dc m_X8_isReader 77 (.invokevirtual 118) 3 80 := ⟨by decide +kernel, rfl⟩
theorem d_X8_isReader_80 : Dc m_X8_isReader 80 (.ifCond .ne 5) 3 83 := ⟨by decide +kernel, rfl⟩
theorem d_X8_isReader_83 : Dc m_X8_isReader 83 (.iconst 0) 1 84 := ⟨by decide +kernel, rfl⟩
theorem d_X8_isReader_84 : Dc m_X8_isReader 84 (.ireturn) 1 85 := ⟨by decide +kernel, rfl⟩
theorem d_X8_isReader_85 : Dc m_X8_isReader 85 (.aload_n 0) 1 86 := ⟨by decide +kernel, rfl⟩
theorem d_X8_isReader_86 : Dc m_X8_isReader 86 (.getfield 25) 3 89 := ⟨by decide +kernel, rfl⟩
theorem d_X8_isReader_89 : Dc m_X8_isReader 89 (.iconst 4) 1 90 := ⟨by decide +kernel, rfl⟩
theorem d_X8_isReader_90 : Dc m_X8_isReader 90 (.dup2) 1 91 := ⟨by decide +kernel, rfl⟩
theorem d_X8_isReader_91 : Dc m_X8_isReader 91 (.iaload) 1 92 := ⟨by decide +kernel, rfl⟩
theorem d_X8_isReader_92 : Dc m_X8_isReader 92 (.iconst 1) 1 93 := ⟨by decide +kernel, rfl⟩
theorem d_X8_isReader_93 : Dc m_X8_isReader 93 (.iadd) 1 94 := ⟨by decide +kernel, rfl⟩
theorem d_X8_isReader_94 : Dc m_X8_isReader 94 (.iastore) 1 95 := ⟨by decide +kernel, rfl⟩
theorem d_X8_isReader_95 : Dc m_X8_isReader 95 (.iconst 1) 1 96 := ⟨by decide +kernel, rfl⟩
theorem d_X8_isReader_96 : Dc m_X8_isReader 96 (.ireturn) 1 97 := ⟨by decide +kernel, rfl⟩
theorem d_X8_isRead_0 : Dc m_X8_isRead 0 (.iconst 0) 1 1 := ⟨by decide +kernel, rfl⟩
theorem d_X8_isRead_1 : Dc m_X8_isRead 1 (.istore_n 1) 1 2 := ⟨by decide +kernel, rfl⟩
theorem d_X8_isRead_2 : Dc m_X8_isRead 2 (.iload_n 1) 1 3 := ⟨by decide +kernel, rfl⟩
theorem d_X8_isRead_3 : Dc m_X8_isRead 3 (.bipush 33) 2 5 := ⟨by decide +kernel, rfl⟩
theorem d_X8_isRead_5 : Dc m_X8_isRead 5 (.if_icmp .ge 16) 3 8 := ⟨by decide +kernel, rfl⟩
theorem d_X8_isRead_8 : Dc m_X8_isRead 8 (.aload_n 0) 1 9 := ⟨by decide +kernel, rfl⟩
theorem d_X8_isRead_9 : Dc m_X8_isRead 9 (.getfield 25) 3 12 := ⟨by decide +kernel, rfl⟩
theorem d_X8_isRead_12 : Dc m_X8_isRead 12 (.iload_n 1) 1 13 := ⟨by decide +kernel, rfl⟩
theorem d_X8_isRead_13 : Dc m_X8_isRead 13 (.iconst 0) 1 14 := ⟨by decide +kernel, rfl⟩
theorem d_X8_isRead_14 : Dc m_X8_isRead 14 (.iastore) 1 15 := ⟨by decide +kernel, rfl⟩
theorem d_X8_isRead_15 : Dc m_X8_isRead 15 (.iinc 1 1) 3 18 := ⟨by decide +kernel, rfl⟩
theorem d_X8_isRead_18 : Dc m_X8_isRead 18 (.goto (-16)) 3 21 := ⟨by decide +kernel, rfl⟩
theorem d_X8_isRead_21 : Dc m_X8_isRead 21 (.aload_n 0) 1 22 := ⟨by decide +kernel, rfl⟩
theorem d_X8_isRead_22 : Dc m_X8_isRead 22 (.iconst 0) 1 23 := ⟨by decide +kernel, rfl⟩
theorem d_X8_isRead_23 : Dc m_X8_isRead 23 (.putfield 87) 3 26 := ⟨by decide +kernel, rfl⟩
theorem d_X8_isRead_26 : Dc m_X8_isRead 26 (.aload_n 0) 1 27 := ⟨by decide +kernel, rfl⟩
theorem d_X8_isRead_27 : Dc m_X8_isRead 27 (.bipush 112) 2 29 := ⟨by decide +kernel, rfl⟩
theorem d_X8_isRead_29 : Dc m_X8_isRead 29 (.invokevirtual 112) 3 32 := ⟨by decide +kernel, rfl⟩
theorem d_X8_isRead_32 : Dc m_X8_isRead 32 (.ifCond .eq 21) 3 35 := ⟨by decide +kernel, rfl⟩
theorem d_X8_isRead_35 : Dc m_X8_isRead 35 (.aload_n 0) 1 36 := ⟨by decide +kernel, rfl⟩
theorem d_X8_isRead_36 : Dc m_X8_isRead 36 (.iconst 5) 1 37 := ⟨by decide +kernel, rfl⟩
theorem d_X8_isRead_37 : Dc m_X8_isRead 37 (.bipush 9) 2 39 := ⟨by decide +kernel, rfl⟩
theorem d_X8_isRead_39 : Dc m_X8_isRead 39 (.bipush 6) 2 41 := ⟨by decide +kernel, rfl⟩
theorem d_X8_isRead_41 : Dc m_X8_isRead 41 (.bipush 20) 2 43 := ⟨by decide +kernel, rfl⟩
theorem d_X8_isRead_43 : Dc m_X8_isRead 43 (.bipush 7) 2 45 := ⟨by decide +kernel, rfl⟩
theorem d_X8_isRead_45 : Dc m_X8_isRead 45 (.bipush 60) 2 47 := ⟨by decide +kernel, rfl⟩
theorem d_X8_isRead_47 : Dc m_X8_isRead 47 (.invokevirtual 118) 3 50 := ⟨by decide +kernel, rfl⟩
theorem d_X8_isRead_50 : Dc m_X8_isRead 50 (.ifCond .ne 5) 3 53 := ⟨by decide +kernel, rfl⟩
theorem d_X8_isRead_53 : Dc m_X8_isRead 53 (.iconst 0) 1 54 := ⟨by decide +kernel, rfl⟩
theorem d_X8_isRead_54 : Dc m_X8_isRead 54 (.ireturn) 1 55 := ⟨by decide +kernel, rfl⟩
theorem d_X8_isRead_55 : Dc m_X8_isRead 55 (.aload_n 0) 1 56 := ⟨by decide +kernel, rfl⟩
theorem d_X8_isRead_56 : Dc m_X8_isRead 56 (.getfield 25) 3 59 := ⟨by decide +kernel, rfl⟩
theorem d_X8_isRead_59 : Dc m_X8_isRead 59 (.iconst 0) 1 60 := ⟨by decide +kernel, rfl⟩
theorem d_X8_isRead_60 : Dc m_X8_isRead 60 (.aload_n 0) 1 61 := ⟨by decide +kernel, rfl⟩
theorem d_X8_isRead_61 : Dc m_X8_isRead 61 (.getfield 25) 3 64 := ⟨by decide +kernel, rfl⟩
theorem d_X8_isRead_64 : Dc m_X8_isRead 64 (.iconst 5) 1 65 := ⟨by decide +kernel, rfl⟩
theorem d_X8_isRead_65 : Dc m_X8_isRead 65 (.iaload) 1 66 := ⟨by decide +kernel, rfl⟩
theorem d_X8_isRead_66 : Dc m_X8_isRead 66 (.iastore) 1 67 := ⟨by decide +kernel, rfl⟩
theorem d_X8_isRead_67 : Dc m_X8_isRead 67 (.aload_n 0) 1 68 := ⟨by decide +kernel, rfl⟩
theorem d_X8_isRead_68 : Dc m_X8_isRead 68 (.getfield 25) 3 71 := ⟨by decide +kernel, rfl⟩
theorem d_X8_isRead_71 : Dc m_X8_isRead 71 (.bipush 8) 2 73 := ⟨by decide +kernel, rfl⟩
theorem d_X8_isRead_73 : Dc m_X8_isRead 73 (.iconst 1) 1 74 := ⟨by decide +kernel, rfl⟩
theorem d_X8_isRead_74 : Dc m_X8_isRead 74 (.iastore) 1 75 := ⟨by decide +kernel, rfl⟩
theorem d_X8_isRead_75 : Dc m_X8_isRead 75 (.aload_n 0) 1 76 := ⟨by decide +kernel, rfl⟩
theorem d_X8_isRead_76 : Dc m_X8_isRead 76 (.invokevirtual 102) 3 79 := ⟨by decide +kernel, rfl⟩
theorem d_X8_isRead_79 : Dc m_X8_isRead 79 (.aload_n 0) 1 80 := ⟨by decide +kernel, rfl⟩
theorem d_X8_isRead_80 : Dc m_X8_isRead 80 (.getfield 96) 3 83 := ⟨by decide +kernel, rfl⟩
theorem d_X8_isRead_83 : Dc m_X8_isRead 83 (.bipush (-2)) 2 85 := ⟨by decide +kernel, rfl⟩
theorem d_X8_isRead_85 : Dc m_X8_isRead 85 (.if_icmp .eq 19) 3 88 := ⟨by decide +kernel, rfl⟩
theorem d_X8_isRead_88 : Dc m_X8_isRead 88 (.aload_n 0) 1 89 := ⟨by decide +kernel, rfl⟩
theorem d_X8_isRead_89 : Dc m_X8_isRead 89 (.invokevirtual 122) 3 92 := ⟨by decide +kernel, rfl⟩
theorem d_X8_isRead_92 : Dc m_X8_isRead 92 (.ifCond .ne 5) 3 95 := ⟨by decide +kernel, rfl⟩
theorem d_X8_isRead_95 : Dc m_X8_isRead 95 (.iconst 0) 1 96 := ⟨by decide +kernel, rfl⟩
theorem d_X8_isRead_96 : Dc m_X8_isRead 96 (.ireturn) 1 97 := ⟨by decide +kernel, rfl⟩
theorem d_X8_isRead_97 : Dc m_X8_isRead 97 (.aload_n 0) 1 98 := ⟨by decide +kernel, rfl⟩
theorem d_X8_isRead_98 : Dc m_X8_isRead 98 (.invokevirtual 102) 3 101 := ⟨by decide +kernel, rfl⟩
theorem d_X8_isRead_101 : Dc m_X8_isRead 101 (.goto (-22)) 3 104 := ⟨by decide +kernel, rfl⟩
theorem d_X8_isRead_104 : Dc m_X8_isRead 104 (.iconst 1) 1 105 := ⟨by decide +kernel, rfl⟩
theorem d_X8_isRead_105 : Dc m_X8_isRead 105 (.ireturn) 1 106 := ⟨by decide +kernel, rfl⟩
theorem d_X8_town_0 : Dc m_X8_town 0 (.aload_n 0) 1 1 := ⟨by decide +kernel, rfl⟩
theorem d_X8_town_1 : Dc m_X8_town 1 (.invokevirtual 126) 3 4 := ⟨by decide +kernel, rfl⟩
theorem d_X8_town_4 : Dc m_X8_town 4 (.istore_n 1) 1 5 := ⟨by decide +kernel, rfl⟩
theorem d_X8_town_5 : Dc m_X8_town 5 (.aload_n 0) 1 6 := ⟨by decide +kernel, rfl⟩
theorem d_X8_town_6 : Dc m_X8_town 6 (.iconst 0) 1 7 := ⟨by decide +kernel, rfl⟩
theorem d_X8_town_7 : Dc m_X8_town 7 (.putfield 83) 3 10 := ⟨by decide +kernel, rfl⟩
theorem d_X8_town_10 : Dc m_X8_town 10 (.iload_n 1) 1 11 := ⟨by decide +kernel, rfl⟩
theorem d_X8_town_11 : Dc m_X8_town 11 (.ifCond .ne 19) 3 14 := ⟨by decide +kernel, rfl⟩
theorem d_X8_town_14 : Dc m_X8_town 14 (.aload_n 0) 1 15 := ⟨by decide +kernel, rfl⟩
theorem d_X8_town_15 : Dc m_X8_town 15 (.aload_n 0) 1 16 := ⟨by decide +kernel, rfl⟩
theorem d_X8_town_16 : Dc m_X8_town 16 (.getfield 99) 3 19 := ⟨by decide +kernel, rfl⟩
theorem d_X8_town_19 : Dc m_X8_town 19 (.putfield 129) 3 22 := ⟨by decide +kernel, rfl⟩
theorem d_X8_town_22 : Dc m_X8_town 22 (.ldc 132) 2 24 := ⟨by decide +kernel, rfl⟩
theorem d_X8_town_24 : Dc m_X8_town 24 (.aload_n 0) 1 25 := ⟨by decide +kernel, rfl⟩
theorem d_X8_town_25 : Dc m_X8_town 25 (.getfield 90) 3 28 := ⟨by decide +kernel, rfl⟩
theorem d_X8_town_28 : Dc m_X8_town 28 (.isub) 1 29 := ⟨by decide +kernel, rfl⟩
theorem d_X8_town_29 : Dc m_X8_town 29 (.ireturn) 1 30 := ⟨by decide +kernel, rfl⟩
theorem d_X8_town_30 : Dc m_X8_town 30 (.aload_n 0) 1 31 := ⟨by decide +kernel, rfl⟩
theorem d_X8_town_31 : Dc m_X8_town 31 (.getfield 25) 3 34 := ⟨by decide +kernel, rfl⟩
theorem d_X8_town_34 : Dc m_X8_town 34 (.iconst 0) 1 35 := ⟨by decide +kernel, rfl⟩
theorem d_X8_town_35 : Dc m_X8_town 35 (.aload_n 0) 1 36 := ⟨by decide +kernel, rfl⟩
theorem d_X8_town_36 : Dc m_X8_town 36 (.getfield 22) 3 39 := ⟨by decide +kernel, rfl⟩
theorem d_X8_town_39 : Dc m_X8_town 39 (.iconst 0) 1 40 := ⟨by decide +kernel, rfl⟩
theorem d_X8_town_40 : Dc m_X8_town 40 (.invokestatic 133) 3 43 := ⟨by decide +kernel, rfl⟩
theorem d_X8_town_43 : Dc m_X8_town 43 (.aload_n 0) 1 44 := ⟨by decide +kernel, rfl⟩
theorem d_X8_town_44 : Dc m_X8_town 44 (.iconst 0) 1 45 := ⟨by decide +kernel, rfl⟩
theorem d_X8_town_45 : Dc m_X8_town 45 (.putfield 137) 3 48 := ⟨by decide +kernel, rfl⟩
theorem d_X8_town_48 : Dc m_X8_town 48 (.aload_n 0) 1 49 := ⟨by decide +kernel, rfl⟩
theorem d_X8_town_49 : Dc m_X8_town 49 (.getfield 22) 3 52 := ⟨by decide +kernel, rfl⟩
theorem d_X8_town_52 : Dc m_X8_town 52 (.iconst 4) 1 53 := ⟨by decide +kernel, rfl⟩
theorem d_X8_town_53 : Dc m_X8_town 53 (.iaload) 1 54 := ⟨by decide +kernel, rfl⟩
theorem d_X8_town_54 : Dc m_X8_town 54 (.ireturn) 1 55 := ⟨by decide +kernel, rfl⟩
theorem d_X8_fault_0 : Dc m_X8_fault 0 (.aload_n 0) 1 1 := ⟨by decide +kernel, rfl⟩
theorem d_X8_fault_1 : Dc m_X8_fault 1 (.getfield 129) 3 4 := ⟨by decide +kernel, rfl⟩
theorem d_X8_fault_4 : Dc m_X8_fault 4 (.ireturn) 1 5 := ⟨by decide +kernel, rfl⟩
theorem d_X8_note_0 : Dc m_X8_note 0 (.aload_n 0) 1 1 := ⟨by decide +kernel, rfl⟩
theorem d_X8_note_1 : Dc m_X8_note 1 (.getfield 137) 3 4 := ⟨by decide +kernel, rfl⟩
theorem d_X8_note_4 : Dc m_X8_note 4 (.bipush 24) 2 6 := ⟨by decide +kernel, rfl⟩
theorem d_X8_note_6 : Dc m_X8_note 6 (.if_icmp .ne 43) 3 9 := ⟨by decide +kernel, rfl⟩
theorem d_X8_note_9 : Dc m_X8_note 9 (.iconst 0) 1 10 := ⟨by decide +kernel, rfl⟩
theorem d_X8_note_10 : Dc m_X8_note 10 (.istore_n 1) 1 11 := ⟨by decide +kernel, rfl⟩
theorem d_X8_note_11 : Dc m_X8_note 11 (.iload_n 1) 1 12 := ⟨by decide +kernel, rfl⟩
theorem d_X8_note_12 : Dc m_X8_note 12 (.sipush 759) 3 15 := ⟨by decide +kernel, rfl⟩
theorem d_X8_note_15 : Dc m_X8_note 15 (.if_icmp .ge 24) 3 18 := ⟨by decide +kernel, rfl⟩
theorem d_X8_note_18 : Dc m_X8_note 18 (.aload_n 0) 1 19 := ⟨by decide +kernel, rfl⟩
theorem d_X8_note_19 : Dc m_X8_note 19 (.getfield 38) 3 22 := ⟨by decide +kernel, rfl⟩
theorem d_X8_note_22 : Dc m_X8_note 22 (.iload_n 1) 1 23 := ⟨by decide +kernel, rfl⟩
theorem d_X8_note_23 : Dc m_X8_note 23 (.aload_n 0) 1 24 := ⟨by decide +kernel, rfl⟩
theorem d_X8_note_24 : Dc m_X8_note 24 (.getfield 38) 3 27 := ⟨by decide +kernel, rfl⟩
theorem d_X8_note_27 : Dc m_X8_note 27 (.iload_n 1) 1 28 := ⟨by decide +kernel, rfl⟩
theorem d_X8_note_28 : Dc m_X8_note 28 (.bipush 33) 2 30 := ⟨by decide +kernel, rfl⟩
theorem d_X8_note_30 : Dc m_X8_note 30 (.iadd) 1 31 := ⟨by decide +kernel, rfl⟩
theorem d_X8_note_31 : Dc m_X8_note 31 (.iaload) 1 32 := ⟨by decide +kernel, rfl⟩
theorem d_X8_note_32 : Dc m_X8_note 32 (.iastore) 1 33 := ⟨by decide +kernel, rfl⟩
theorem d_X8_note_33 : Dc m_X8_note 33 (.iinc 1 1) 3 36 := ⟨by decide +kernel, rfl⟩
theorem d_X8_note_36 : Dc m_X8_note 36 (.goto (-25)) 3 39 := ⟨by decide +kernel, rfl⟩
theorem d_X8_note_39 : Dc m_X8_note 39 (.aload_n 0) 1 40 := ⟨by decide +kernel, rfl⟩
theorem d_X8_note_40 : Dc m_X8_note 40 (.dup) 1 41 := ⟨by decide +kernel, rfl⟩
theorem d_X8_note_41 : Dc m_X8_note 41 (.getfield 137) 3 44 := ⟨by decide +kernel, rfl⟩
theorem d_X8_note_44 : Dc m_X8_note 44 (.iconst 1) 1 45 := ⟨by decide +kernel, rfl⟩
theorem d_X8_note_45 : Dc m_X8_note 45 (.isub) 1 46 := ⟨by decide +kernel, rfl⟩
theorem d_X8_note_46 : Dc m_X8_note 46 (.putfield 137) 3 49 := ⟨by decide +kernel, rfl⟩
theorem d_X8_note_49 : Dc m_X8_note 49 (.aload_n 0) 1 50 := ⟨by decide +kernel, rfl⟩
theorem d_X8_note_50 : Dc m_X8_note 50 (.getfield 22) 3 53 := ⟨by decide +kernel, rfl⟩
theorem d_X8_note_53 : Dc m_X8_note 53 (.iconst 0) 1 54 := ⟨by decide +kernel, rfl⟩
theorem d_X8_note_54 : Dc m_X8_note 54 (.aload_n 0) 1 55 := ⟨by decide +kernel, rfl⟩
theorem d_X8_note_55 : Dc m_X8_note 55 (.getfield 38) 3 58 := ⟨by decide +kernel, rfl⟩
theorem d_X8_note_58 : Dc m_X8_note 58 (.bipush 33) 2 60 := ⟨by decide +kernel, rfl⟩
theorem d_X8_note_60 : Dc m_X8_note 60 (.aload_n 0) 1 61 := ⟨by decide +kernel, rfl⟩
theorem d_X8_note_61 : Dc m_X8_note 61 (.getfield 137) 3 64 := ⟨by decide +kernel, rfl⟩
theorem d_X8_note_64 : Dc m_X8_note 64 (.imul) 1 65 := ⟨by decide +kernel, rfl⟩
theorem d_X8_note_65 : Dc m_X8_note 65 (.invokestatic 133) 3 68 := ⟨by decide +kernel, rfl⟩
theorem d_X8_note_68 : Dc m_X8_note 68 (.aload_n 0) 1 69 := ⟨by decide +kernel, rfl⟩
theorem d_X8_note_69 : Dc m_X8_note 69 (.dup) 1 70 := ⟨by decide +kernel, rfl⟩
theorem d_X8_note_70 : Dc m_X8_note 70 (.getfield 137) 3 73 := ⟨by decide +kernel, rfl⟩
theorem d_X8_note_73 : Dc m_X8_note 73 (.iconst 1) 1 74 := ⟨by decide +kernel, rfl⟩
theorem d_X8_note_74 : Dc m_X8_note 74 (.iadd) 1 75 := ⟨by decide +kernel, rfl⟩
theorem d_X8_note_75 : Dc m_X8_note 75 (.putfield 137) 3 78 := ⟨by decide +kernel, rfl⟩
theorem d_X8_note_78 : Dc m_X8_note 78 (.return_) 1 79 := ⟨by decide +kernel, rfl⟩
theorem d_X8_comesTo_0 : Dc m_X8_comesTo 0 (.aload_n 0) 1 1 := ⟨by decide +kernel, rfl⟩
theorem d_X8_comesTo_1 : Dc m_X8_comesTo 1 (.iconst 0) 1 2 := ⟨by decide +kernel, rfl⟩
theorem d_X8_comesTo_2 : Dc m_X8_comesTo 2 (.iaload) 1 3 := ⟨by decide +kernel, rfl⟩
theorem d_X8_comesTo_3 : Dc m_X8_comesTo 3 (.aload_n 0) 1 4 := ⟨by decide +kernel, rfl⟩
theorem d_X8_comesTo_4 : Dc m_X8_comesTo 4 (.bipush 15) 2 6 := ⟨by decide +kernel, rfl⟩
theorem d_X8_comesTo_6 : Dc m_X8_comesTo 6 (.iload_n 1) 1 7 := ⟨by decide +kernel, rfl⟩
theorem d_X8_comesTo_7 : Dc m_X8_comesTo 7 (.iadd) 1 8 := ⟨by decide +kernel, rfl⟩
theorem d_X8_comesTo_8 : Dc m_X8_comesTo 8 (.iaload) 1 9 := ⟨by decide +kernel, rfl⟩
theorem d_X8_comesTo_9 : Dc m_X8_comesTo 9 (.isub) 1 10 := ⟨by decide +kernel, rfl⟩
theorem d_X8_comesTo_10 : Dc m_X8_comesTo 10 (.istore_n 2) 1 11 := ⟨by decide +kernel, rfl⟩
theorem d_X8_comesTo_11 : Dc m_X8_comesTo 11 (.aload_n 0) 1 12 := ⟨by decide +kernel, rfl⟩
theorem d_X8_comesTo_12 : Dc m_X8_comesTo 12 (.iconst 1) 1 13 := ⟨by decide +kernel, rfl⟩
theorem d_X8_comesTo_13 : Dc m_X8_comesTo 13 (.iaload) 1 14 := ⟨by decide +kernel, rfl⟩
theorem d_X8_comesTo_14 : Dc m_X8_comesTo 14 (.iload_n 2) 1 15 := ⟨by decide +kernel, rfl⟩
theorem d_X8_comesTo_15 : Dc m_X8_comesTo 15 (.ifCond .ge 8) 3 18 := ⟨by decide +kernel, rfl⟩
theorem d_X8_comesTo_18 : Dc m_X8_comesTo 18 (.iload_n 2) 1 19 := ⟨by decide +kernel, rfl⟩
theorem d_X8_comesTo_19 : Dc m_X8_comesTo 19 (.ineg) 1 20 := ⟨by decide +kernel, rfl⟩
theorem d_X8_comesTo_20 : Dc m_X8_comesTo 20 (.goto 4) 3 23 := ⟨by decide +kernel, rfl⟩
theorem d_X8_comesTo_23 : Dc m_X8_comesTo 23 (.iload_n 2) 1 24 := ⟨by decide +kernel, rfl⟩
theorem d_X8_comesTo_24 : Dc m_X8_comesTo 24 (.iadd) 1 25 := ⟨by decide +kernel, rfl⟩
theorem d_X8_comesTo_25 : Dc m_X8_comesTo 25 (.ireturn) 1 26 := ⟨by decide +kernel, rfl⟩
theorem d_X8_canBe_0 : Dc m_X8_canBe 0 (.iload_n 1) 1 1 := ⟨by decide +kernel, rfl⟩
theorem d_X8_canBe_1 : Dc m_X8_canBe 1 (.iconst 0) 1 2 := ⟨by decide +kernel, rfl⟩
theorem d_X8_canBe_2 : Dc m_X8_canBe 2 (.aload_n 0) 1 3 := ⟨by decide +kernel, rfl⟩
theorem d_X8_canBe_3 : Dc m_X8_canBe 3 (.iconst 4) 1 4 := ⟨by decide +kernel, rfl⟩
theorem d_X8_canBe_4 : Dc m_X8_canBe 4 (.iaload) 1 5 := ⟨by decide +kernel, rfl⟩
theorem d_X8_canBe_5 : Dc m_X8_canBe 5 (.iconst 1) 1 6 := ⟨by decide +kernel, rfl⟩
theorem d_X8_canBe_6 : Dc m_X8_canBe 6 (.isub) 1 7 := ⟨by decide +kernel, rfl⟩
theorem d_X8_canBe_7 : Dc m_X8_canBe 7 (.invokestatic 59) 3 10 := ⟨by decide +kernel, rfl⟩
theorem d_X8_canBe_10 : Dc m_X8_canBe 10 (.ifCond .eq 29) 3 13 := ⟨by decide +kernel, rfl⟩
theorem d_X8_canBe_13 : Dc m_X8_canBe 13 (.aload_n 0) 1 14 := ⟨by decide +kernel, rfl⟩
theorem d_X8_canBe_14 : Dc m_X8_canBe 14 (.iconst 2) 1 15 := ⟨by decide +kernel, rfl⟩
theorem d_X8_canBe_15 : Dc m_X8_canBe 15 (.iaload) 1 16 := ⟨by decide +kernel, rfl⟩
theorem d_X8_canBe_16 : Dc m_X8_canBe 16 (.iload_n 1) 1 17 := ⟨by decide +kernel, rfl⟩
theorem d_X8_canBe_17 : Dc m_X8_canBe 17 (.invokestatic 140) 3 20 := ⟨by decide +kernel, rfl⟩
theorem d_X8_canBe_20 : Dc m_X8_canBe 20 (.ifCond .ne 19) 3 23 := ⟨by decide +kernel, rfl⟩
theorem d_X8_canBe_23 : Dc m_X8_canBe 23 (.aload_n 0) 1 24 := ⟨by decide +kernel, rfl⟩
theorem d_X8_canBe_24 : Dc m_X8_canBe 24 (.iload_n 1) 1 25 := ⟨by decide +kernel, rfl⟩
theorem d_X8_canBe_25 : Dc m_X8_canBe 25 (.invokestatic 143) 3 28 := ⟨by decide +kernel, rfl⟩
theorem d_X8_canBe_28 : Dc m_X8_canBe 28 (.aload_n 0) 1 29 := ⟨by decide +kernel, rfl⟩
theorem d_X8_canBe_29 : Dc m_X8_canBe 29 (.bipush 7) 2 31 := ⟨by decide +kernel, rfl⟩
theorem d_X8_canBe_31 : Dc m_X8_canBe 31 (.iaload) 1 32 := ⟨by decide +kernel, rfl⟩
theorem d_X8_canBe_32 : Dc m_X8_canBe 32 (.if_icmp .gt 7) 3 35 := ⟨by decide +kernel, rfl⟩
theorem d_X8_canBe_35 : Dc m_X8_canBe 35 (.iconst 1) 1 36 := ⟨by decide +kernel, rfl⟩
theorem d_X8_canBe_36 : Dc m_X8_canBe 36 (.goto 4) 3 39 := ⟨by decide +kernel, rfl⟩
theorem d_X8_canBe_39 : Dc m_X8_canBe 39 (.iconst 0) 1 40 := ⟨by decide +kernel, rfl⟩
theorem d_X8_canBe_40 : Dc m_X8_canBe 40 (.ireturn) 1 41 := ⟨by decide +kernel, rfl⟩
theorem d_X8_bringsBy_0 : Dc m_X8_bringsBy 0 (.aload_n 0) 1 1 := ⟨by decide +kernel, rfl⟩
theorem d_X8_bringsBy_1 : Dc m_X8_bringsBy 1 (.bipush 21) 2 3 := ⟨by decide +kernel, rfl⟩
theorem d_X8_bringsBy_3 : Dc m_X8_bringsBy 3 (.iload_n 1) 1 4 := ⟨by decide +kernel, rfl⟩
theorem d_X8_bringsBy_4 : Dc m_X8_bringsBy 4 (.iadd) 1 5 := ⟨by decide +kernel, rfl⟩
theorem d_X8_bringsBy_5 : Dc m_X8_bringsBy 5 (.iaload) 1 6 := ⟨by decide +kernel, rfl⟩
theorem d_X8_bringsBy_6 : Dc m_X8_bringsBy 6 (.istore_n 2) 1 7 := ⟨by decide +kernel, rfl⟩
theorem d_X8_bringsBy_7 : Dc m_X8_bringsBy 7 (.iload_n 2) 1 8 := ⟨by decide +kernel, rfl⟩
theorem d_X8_bringsBy_8 : Dc m_X8_bringsBy 8 (.aload_n 0) 1 9 := ⟨by decide +kernel, rfl⟩
theorem d_X8_bringsBy_9 : Dc m_X8_bringsBy 9 (.iload_n 1) 1 10 := ⟨by decide +kernel, rfl⟩
theorem d_X8_bringsBy_10 : Dc m_X8_bringsBy 10 (.invokestatic 143) 3 13 := ⟨by decide +kernel, rfl⟩
theorem d_X8_bringsBy_13 : Dc m_X8_bringsBy 13 (.aload_n 0) 1 14 := ⟨by decide +kernel, rfl⟩
theorem d_X8_bringsBy_14 : Dc m_X8_bringsBy 14 (.bipush 27) 2 16 := ⟨by decide +kernel, rfl⟩
theorem d_X8_bringsBy_16 : Dc m_X8_bringsBy 16 (.iload_n 1) 1 17 := ⟨by decide +kernel, rfl⟩
theorem d_X8_bringsBy_17 : Dc m_X8_bringsBy 17 (.iadd) 1 18 := ⟨by decide +kernel, rfl⟩
theorem d_X8_bringsBy_18 : Dc m_X8_bringsBy 18 (.iaload) 1 19 := ⟨by decide +kernel, rfl⟩
theorem d_X8_bringsBy_19 : Dc m_X8_bringsBy 19 (.imul) 1 20 := ⟨by decide +kernel, rfl⟩
theorem d_X8_bringsBy_20 : Dc m_X8_bringsBy 20 (.isub) 1 21 := ⟨by decide +kernel, rfl⟩
theorem d_X8_bringsBy_21 : Dc m_X8_bringsBy 21 (.istore_n 3) 1 22 := ⟨by decide +kernel, rfl⟩
theorem d_X8_bringsBy_22 : Dc m_X8_bringsBy 22 (.iload_n 3) 1 23 := ⟨by decide +kernel, rfl⟩
theorem d_X8_bringsBy_23 : Dc m_X8_bringsBy 23 (.ifCond .ge 7) 3 26 := ⟨by decide +kernel, rfl⟩
theorem d_X8_bringsBy_26 : Dc m_X8_bringsBy 26 (.iconst 0) 1 27 := ⟨by decide +kernel, rfl⟩
theorem d_X8_bringsBy_27 : Dc m_X8_bringsBy 27 (.goto 4) 3 30 := ⟨by decide +kernel, rfl⟩
theorem d_X8_bringsBy_30 : Dc m_X8_bringsBy 30 (.iload_n 3) 1 31 := ⟨by decide +kernel, rfl⟩
theorem d_X8_bringsBy_31 : Dc m_X8_bringsBy 31 (.istore_n 3) 1 32 := ⟨by decide +kernel, rfl⟩
theorem d_X8_bringsBy_32 : Dc m_X8_bringsBy 32 (.iconst 0) 1 33 := ⟨by decide +kernel, rfl⟩
theorem d_X8_bringsBy_33 : Dc m_X8_bringsBy 33 (.istore 4) 2 35 := ⟨by decide +kernel, rfl⟩
theorem d_X8_bringsBy_35 : Dc m_X8_bringsBy 35 (.iconst 0) 1 36 := ⟨by decide +kernel, rfl⟩
theorem d_X8_bringsBy_36 : Dc m_X8_bringsBy 36 (.istore 5) 2 38 := ⟨by decide +kernel, rfl⟩
theorem d_X8_bringsBy_38 : Dc m_X8_bringsBy 38 (.iload 5) 2 40 := ⟨by decide +kernel, rfl⟩
theorem d_X8_bringsBy_40 : Dc m_X8_bringsBy 40 (.aload_n 0) 1 41 := ⟨by decide +kernel, rfl⟩
theorem d_X8_bringsBy_41 : Dc m_X8_bringsBy 41 (.iconst 4) 1 42 := ⟨by decide +kernel, rfl⟩
theorem d_X8_bringsBy_42 : Dc m_X8_bringsBy 42 (.iaload) 1 43 := ⟨by decide +kernel, rfl⟩
theorem d_X8_bringsBy_43 : Dc m_X8_bringsBy 43 (.if_icmp .ge 41) 3 46 := ⟨by decide +kernel, rfl⟩
theorem d_X8_bringsBy_46 : Dc m_X8_bringsBy 46 (.iload 4) 2 48 := ⟨by decide +kernel, rfl⟩
theorem d_X8_bringsBy_48 : Dc m_X8_bringsBy 48 (.iload 5) 2 50 := ⟨by decide +kernel, rfl⟩
theorem d_X8_bringsBy_50 : Dc m_X8_bringsBy 50 (.iload_n 1) 1 51 := ⟨by decide +kernel, rfl⟩
theorem d_X8_bringsBy_51 : Dc m_X8_bringsBy 51 (.if_icmp .eq 23) 3 54 := ⟨by decide +kernel, rfl⟩
theorem d_X8_bringsBy_54 : Dc m_X8_bringsBy 54 (.aload_n 0) 1 55 := ⟨by decide +kernel, rfl⟩
theorem d_X8_bringsBy_55 : Dc m_X8_bringsBy 55 (.bipush 15) 2 57 := ⟨by decide +kernel, rfl⟩
theorem d_X8_bringsBy_57 : Dc m_X8_bringsBy 57 (.iload 5) 2 59 := ⟨by decide +kernel, rfl⟩
theorem d_X8_bringsBy_59 : Dc m_X8_bringsBy 59 (.iadd) 1 60 := ⟨by decide +kernel, rfl⟩
theorem d_X8_bringsBy_60 : Dc m_X8_bringsBy 60 (.iaload) 1 61 := ⟨by decide +kernel, rfl⟩
theorem d_X8_bringsBy_61 : Dc m_X8_bringsBy 61 (.aload_n 0) 1 62 := ⟨by decide +kernel, rfl⟩
theorem d_X8_bringsBy_62 : Dc m_X8_bringsBy 62 (.bipush 15) 2 64 := ⟨by decide +kernel, rfl⟩
theorem d_X8_bringsBy_64 : Dc m_X8_bringsBy 64 (.iload_n 1) 1 65 := ⟨by decide +kernel, rfl⟩
theorem d_X8_bringsBy_65 : Dc m_X8_bringsBy 65 (.iadd) 1 66 := ⟨by decide +kernel, rfl⟩
theorem d_X8_bringsBy_66 : Dc m_X8_bringsBy 66 (.iaload) 1 67 := ⟨by decide +kernel, rfl⟩
theorem d_X8_bringsBy_67 : Dc m_X8_bringsBy 67 (.if_icmp .ne 7) 3 70 := ⟨by decide +kernel, rfl⟩
theorem d_X8_bringsBy_70 : Dc m_X8_bringsBy 70 (.iconst 1) 1 71 := ⟨by decide +kernel, rfl⟩
theorem d_X8_bringsBy_71 : Dc m_X8_bringsBy 71 (.goto 4) 3 74 := ⟨by decide +kernel, rfl⟩
theorem d_X8_bringsBy_74 : Dc m_X8_bringsBy 74 (.iconst 0) 1 75 := ⟨by decide +kernel, rfl⟩
theorem d_X8_bringsBy_75 : Dc m_X8_bringsBy 75 (.iadd) 1 76 := ⟨by decide +kernel, rfl⟩
theorem d_X8_bringsBy_76 : Dc m_X8_bringsBy 76 (.istore 4) 2 78 := ⟨by decide +kernel, rfl⟩
theorem d_X8_bringsBy_78 : Dc m_X8_bringsBy 78 (.iinc 5 1) 3 81 := ⟨by decide +kernel, rfl⟩
theorem d_X8_bringsBy_81 : Dc m_X8_bringsBy 81 (.goto (-43)) 3 84 := ⟨by decide +kernel, rfl⟩
theorem d_X8_bringsBy_84 : Dc m_X8_bringsBy 84 (.aload_n 0) 1 85 := ⟨by decide +kernel, rfl⟩
theorem d_X8_bringsBy_85 : Dc m_X8_bringsBy 85 (.bipush 9) 2 87 := ⟨by decide +kernel, rfl⟩
theorem d_X8_bringsBy_87 : Dc m_X8_bringsBy 87 (.iload_n 1) 1 88 := ⟨by decide +kernel, rfl⟩
theorem d_X8_bringsBy_88 : Dc m_X8_bringsBy 88 (.iadd) 1 89 := ⟨by decide +kernel, rfl⟩
theorem d_X8_bringsBy_89 : Dc m_X8_bringsBy 89 (.iaload) 1 90 := ⟨by decide +kernel, rfl⟩
theorem d_X8_bringsBy_90 : Dc m_X8_bringsBy 90 (.tableswitch 45 1 3 #[26, 28, 40]) 26 116 := ⟨by decide +kernel, rfl⟩
theorem d_X8_bringsBy_116 : Dc m_X8_bringsBy 116 (.iload_n 3) 1 117 := ⟨by decide +kernel, rfl⟩
theorem d_X8_bringsBy_117 : Dc m_X8_bringsBy 117 (.ireturn) 1 118 := ⟨by decide +kernel, rfl⟩
theorem d_X8_bringsBy_118 : Dc m_X8_bringsBy 118 (.aload_n 0) 1 119 := ⟨by decide +kernel, rfl⟩
theorem d_X8_bringsBy_119 : Dc m_X8_bringsBy 119 (.iconst 2) 1 120 := ⟨by decide +kernel, rfl⟩
theorem d_X8_bringsBy_120 : Dc m_X8_bringsBy 120 (.iaload) 1 121 := ⟨by decide +kernel, rfl⟩
theorem d_X8_bringsBy_121 : Dc m_X8_bringsBy 121 (.ifCond .ne 7) 3 124 := ⟨by decide +kernel, rfl⟩
theorem d_X8_bringsBy_124 : Dc m_X8_bringsBy 124 (.iload_n 3) 1 125 := ⟨by decide +kernel, rfl⟩
theorem d_X8_bringsBy_125 : Dc m_X8_bringsBy 125 (.goto 4) 3 128 := ⟨by decide +kernel, rfl⟩
theorem d_X8_bringsBy_128 : Dc m_X8_bringsBy 128 (.iconst 0) 1 129 := ⟨by decide +kernel, rfl⟩
theorem d_X8_bringsBy_129 : Dc m_X8_bringsBy 129 (.ireturn) 1 130 := ⟨by decide +kernel, rfl⟩
theorem d_X8_bringsBy_130 : Dc m_X8_bringsBy 130 (.iload_n 3) 1 131 := ⟨by decide +kernel, rfl⟩
theorem d_X8_bringsBy_131 : Dc m_X8_bringsBy 131 (.iload 4) 2 133 := ⟨by decide +kernel, rfl⟩
theorem d_X8_bringsBy_133 : Dc m_X8_bringsBy 133 (.iadd) 1 134 := ⟨by decide +kernel, rfl⟩
theorem d_X8_bringsBy_134 : Dc m_X8_bringsBy 134 (.ireturn) 1 135 := ⟨by decide +kernel, rfl⟩
theorem d_X8_bringsBy_135 : Dc m_X8_bringsBy 135 (.iload_n 2) 1 136 := ⟨by decide +kernel, rfl⟩
theorem d_X8_bringsBy_136 : Dc m_X8_bringsBy 136 (.ireturn) 1 137 := ⟨by decide +kernel, rfl⟩
theorem d_X8_gives_0 : Dc m_X8_gives 0 (.aload_n 0) 1 1 := ⟨by decide +kernel, rfl⟩
theorem d_X8_gives_1 : Dc m_X8_gives 1 (.iload_n 1) 1 2 := ⟨by decide +kernel, rfl⟩
theorem d_X8_gives_2 : Dc m_X8_gives 2 (.invokestatic 147) 3 5 := ⟨by decide +kernel, rfl⟩
theorem d_X8_gives_5 : Dc m_X8_gives 5 (.istore_n 2) 1 6 := ⟨by decide +kernel, rfl⟩
theorem d_X8_gives_6 : Dc m_X8_gives 6 (.aload_n 0) 1 7 := ⟨by decide +kernel, rfl⟩
theorem d_X8_gives_7 : Dc m_X8_gives 7 (.iconst 1) 1 8 := ⟨by decide +kernel, rfl⟩
theorem d_X8_gives_8 : Dc m_X8_gives 8 (.aload_n 0) 1 9 := ⟨by decide +kernel, rfl⟩
theorem d_X8_gives_9 : Dc m_X8_gives 9 (.iload_n 1) 1 10 := ⟨by decide +kernel, rfl⟩
theorem d_X8_gives_10 : Dc m_X8_gives 10 (.invokestatic 143) 3 13 := ⟨by decide +kernel, rfl⟩
theorem d_X8_gives_13 : Dc m_X8_gives 13 (.aload_n 0) 1 14 := ⟨by decide +kernel, rfl⟩
theorem d_X8_gives_14 : Dc m_X8_gives 14 (.bipush 9) 2 16 := ⟨by decide +kernel, rfl⟩
theorem d_X8_gives_16 : Dc m_X8_gives 16 (.iload_n 1) 1 17 := ⟨by decide +kernel, rfl⟩
theorem d_X8_gives_17 : Dc m_X8_gives 17 (.iadd) 1 18 := ⟨by decide +kernel, rfl⟩
theorem d_X8_gives_18 : Dc m_X8_gives 18 (.iaload) 1 19 := ⟨by decide +kernel, rfl⟩
theorem d_X8_gives_19 : Dc m_X8_gives 19 (.iconst 5) 1 20 := ⟨by decide +kernel, rfl⟩
theorem d_X8_gives_20 : Dc m_X8_gives 20 (.if_icmp .ne 7) 3 23 := ⟨by decide +kernel, rfl⟩
theorem d_X8_gives_23 : Dc m_X8_gives 23 (.iconst 2) 1 24 := ⟨by decide +kernel, rfl⟩
theorem d_X8_gives_24 : Dc m_X8_gives 24 (.goto 4) 3 27 := ⟨by decide +kernel, rfl⟩
theorem d_X8_gives_27 : Dc m_X8_gives 27 (.iconst 1) 1 28 := ⟨by decide +kernel, rfl⟩
theorem d_X8_gives_28 : Dc m_X8_gives 28 (.iadd) 1 29 := ⟨by decide +kernel, rfl⟩
theorem d_X8_gives_29 : Dc m_X8_gives 29 (.iastore) 1 30 := ⟨by decide +kernel, rfl⟩
theorem d_X8_gives_30 : Dc m_X8_gives 30 (.aload_n 0) 1 31 := ⟨by decide +kernel, rfl⟩
theorem d_X8_gives_31 : Dc m_X8_gives 31 (.iconst 3) 1 32 := ⟨by decide +kernel, rfl⟩
theorem d_X8_gives_32 : Dc m_X8_gives 32 (.dup2) 1 33 := ⟨by decide +kernel, rfl⟩
theorem d_X8_gives_33 : Dc m_X8_gives 33 (.iaload) 1 34 := ⟨by decide +kernel, rfl⟩
theorem d_X8_gives_34 : Dc m_X8_gives 34 (.iload_n 2) 1 35 := ⟨by decide +kernel, rfl⟩
theorem d_X8_gives_35 : Dc m_X8_gives 35 (.iadd) 1 36 := ⟨by decide +kernel, rfl⟩
theorem d_X8_gives_36 : Dc m_X8_gives 36 (.iastore) 1 37 := ⟨by decide +kernel, rfl⟩
theorem d_X8_gives_37 : Dc m_X8_gives 37 (.aload_n 0) 1 38 := ⟨by decide +kernel, rfl⟩
theorem d_X8_gives_38 : Dc m_X8_gives 38 (.iconst 2) 1 39 := ⟨by decide +kernel, rfl⟩
theorem d_X8_gives_39 : Dc m_X8_gives 39 (.aload_n 0) 1 40 := ⟨by decide +kernel, rfl⟩
theorem d_X8_gives_40 : Dc m_X8_gives 40 (.iconst 2) 1 41 := ⟨by decide +kernel, rfl⟩
theorem d_X8_gives_41 : Dc m_X8_gives 41 (.iaload) 1 42 := ⟨by decide +kernel, rfl⟩
theorem d_X8_gives_42 : Dc m_X8_gives 42 (.iconst 1) 1 43 := ⟨by decide +kernel, rfl⟩
theorem d_X8_gives_43 : Dc m_X8_gives 43 (.iload_n 1) 1 44 := ⟨by decide +kernel, rfl⟩
theorem d_X8_gives_44 : Dc m_X8_gives 44 (.ishl) 1 45 := ⟨by decide +kernel, rfl⟩
theorem d_X8_gives_45 : Dc m_X8_gives 45 (.ior) 1 46 := ⟨by decide +kernel, rfl⟩
theorem d_X8_gives_46 : Dc m_X8_gives 46 (.iastore) 1 47 := ⟨by decide +kernel, rfl⟩
theorem d_X8_gives_47 : Dc m_X8_gives 47 (.aload_n 0) 1 48 := ⟨by decide +kernel, rfl⟩
theorem d_X8_gives_48 : Dc m_X8_gives 48 (.iconst 0) 1 49 := ⟨by decide +kernel, rfl⟩
theorem d_X8_gives_49 : Dc m_X8_gives 49 (.aload_n 0) 1 50 := ⟨by decide +kernel, rfl⟩
theorem d_X8_gives_50 : Dc m_X8_gives 50 (.bipush 15) 2 52 := ⟨by decide +kernel, rfl⟩
theorem d_X8_gives_52 : Dc m_X8_gives 52 (.iload_n 1) 1 53 := ⟨by decide +kernel, rfl⟩
theorem d_X8_gives_53 : Dc m_X8_gives 53 (.iadd) 1 54 := ⟨by decide +kernel, rfl⟩
theorem d_X8_gives_54 : Dc m_X8_gives 54 (.iaload) 1 55 := ⟨by decide +kernel, rfl⟩
theorem d_X8_gives_55 : Dc m_X8_gives 55 (.iastore) 1 56 := ⟨by decide +kernel, rfl⟩
theorem d_X8_gives_56 : Dc m_X8_gives 56 (.iload_n 2) 1 57 := ⟨by decide +kernel, rfl⟩
theorem d_X8_gives_57 : Dc m_X8_gives 57 (.ireturn) 1 58 := ⟨by decide +kernel, rfl⟩
theorem d_X8_give_0 : Dc m_X8_give 0 (.aload_n 0) 1 1 := ⟨by decide +kernel, rfl⟩
theorem d_X8_give_1 : Dc m_X8_give 1 (.iload_n 1) 1 2 := ⟨by decide +kernel, rfl⟩
theorem d_X8_give_2 : Dc m_X8_give 2 (.invokevirtual 150) 3 5 := ⟨by decide +kernel, rfl⟩
theorem d_X8_give_5 : Dc m_X8_give 5 (.ifCond .ne 6) 3 8 := ⟨by decide +kernel, rfl⟩
theorem d_X8_give_8 : Dc m_X8_give 8 (.ldc 72) 2 10 := ⟨by decide +kernel, rfl⟩
theorem d_X8_give_10 : Dc m_X8_give 10 (.ireturn) 1 11 := ⟨by decide +kernel, rfl⟩
theorem d_X8_give_11 : Dc m_X8_give 11 (.aload_n 0) 1 12 := ⟨by decide +kernel, rfl⟩
theorem d_X8_give_12 : Dc m_X8_give 12 (.getfield 22) 3 15 := ⟨by decide +kernel, rfl⟩
theorem d_X8_give_15 : Dc m_X8_give 15 (.iload_n 1) 1 16 := ⟨by decide +kernel, rfl⟩
theorem d_X8_give_16 : Dc m_X8_give 16 (.invokestatic 153) 3 19 := ⟨by decide +kernel, rfl⟩
theorem d_X8_give_19 : Dc m_X8_give 19 (.ifCond .ne 6) 3 22 := ⟨by decide +kernel, rfl⟩
theorem d_X8_give_22 : Dc m_X8_give 22 (.ldc 157) 2 24 := ⟨by decide +kernel, rfl⟩
theorem d_X8_give_24 : Dc m_X8_give 24 (.ireturn) 1 25 := ⟨by decide +kernel, rfl⟩
theorem d_X8_give_25 : Dc m_X8_give 25 (.aload_n 0) 1 26 := ⟨by decide +kernel, rfl⟩
theorem d_X8_give_26 : Dc m_X8_give 26 (.invokevirtual 158) 3 29 := ⟨by decide +kernel, rfl⟩
theorem d_X8_give_29 : Dc m_X8_give 29 (.aload_n 0) 1 30 := ⟨by decide +kernel, rfl⟩
theorem d_X8_give_30 : Dc m_X8_give 30 (.getfield 22) 3 33 := ⟨by decide +kernel, rfl⟩
theorem d_X8_give_33 : Dc m_X8_give 33 (.iload_n 1) 1 34 := ⟨by decide +kernel, rfl⟩
theorem d_X8_give_34 : Dc m_X8_give 34 (.invokestatic 161) 3 37 := ⟨by decide +kernel, rfl⟩
theorem d_X8_give_37 : Dc m_X8_give 37 (.ireturn) 1 38 := ⟨by decide +kernel, rfl⟩
theorem d_X8_pause_0 : Dc m_X8_pause 0 (.aload_n 0) 1 1 := ⟨by decide +kernel, rfl⟩
theorem d_X8_pause_1 : Dc m_X8_pause 1 (.invokevirtual 164) 3 4 := ⟨by decide +kernel, rfl⟩
theorem d_X8_pause_4 : Dc m_X8_pause 4 (.ifCond .ne 6) 3 7 := ⟨by decide +kernel, rfl⟩
theorem d_X8_pause_7 : Dc m_X8_pause 7 (.ldc 157) 2 9 := ⟨by decide +kernel, rfl⟩
theorem d_X8_pause_9 : Dc m_X8_pause 9 (.ireturn) 1 10 := ⟨by decide +kernel, rfl⟩
theorem d_X8_pause_10 : Dc m_X8_pause 10 (.iload_n 1) 1 11 := ⟨by decide +kernel, rfl⟩
theorem d_X8_pause_11 : Dc m_X8_pause 11 (.iconst 1) 1 12 := ⟨by decide +kernel, rfl⟩
theorem d_X8_pause_12 : Dc m_X8_pause 12 (.bipush 24) 2 14 := ⟨by decide +kernel, rfl⟩
theorem d_X8_pause_14 : Dc m_X8_pause 14 (.invokestatic 59) 3 17 := ⟨by decide +kernel, rfl⟩
theorem d_X8_pause_17 : Dc m_X8_pause 17 (.ifCond .ne 6) 3 20 := ⟨by decide +kernel, rfl⟩
theorem d_X8_pause_20 : Dc m_X8_pause 20 (.ldc 72) 2 22 := ⟨by decide +kernel, rfl⟩
theorem d_X8_pause_22 : Dc m_X8_pause 22 (.ireturn) 1 23 := ⟨by decide +kernel, rfl⟩
theorem d_X8_pause_23 : Dc m_X8_pause 23 (.aload_n 0) 1 24 := ⟨by decide +kernel, rfl⟩
theorem d_X8_pause_24 : Dc m_X8_pause 24 (.getfield 22) 3 27 := ⟨by decide +kernel, rfl⟩
theorem d_X8_pause_27 : Dc m_X8_pause 27 (.iconst 1) 1 28 := ⟨by decide +kernel, rfl⟩
theorem d_X8_pause_28 : Dc m_X8_pause 28 (.iaload) 1 29 := ⟨by decide +kernel, rfl⟩
theorem d_X8_pause_29 : Dc m_X8_pause 29 (.iload_n 1) 1 30 := ⟨by decide +kernel, rfl⟩
theorem d_X8_pause_30 : Dc m_X8_pause 30 (.iadd) 1 31 := ⟨by decide +kernel, rfl⟩
theorem d_X8_pause_31 : Dc m_X8_pause 31 (.sipush 999) 3 34 := ⟨by decide +kernel, rfl⟩
theorem d_X8_pause_34 : Dc m_X8_pause 34 (.if_icmp .le 6) 3 37 := ⟨by decide +kernel, rfl⟩
theorem d_X8_pause_37 : Dc m_X8_pause 37 (.ldc 86) 2 39 := ⟨by decide +kernel, rfl⟩
theorem d_X8_pause_39 : Dc m_X8_pause 39 (.ireturn) 1 40 := ⟨by decide +kernel, rfl⟩
theorem d_X8_pause_40 : Dc m_X8_pause 40 (.aload_n 0) 1 41 := ⟨by decide +kernel, rfl⟩
theorem d_X8_pause_41 : Dc m_X8_pause 41 (.invokevirtual 158) 3 44 := ⟨by decide +kernel, rfl⟩
theorem d_X8_pause_44 : Dc m_X8_pause 44 (.aload_n 0) 1 45 := ⟨by decide +kernel, rfl⟩
theorem d_X8_pause_45 : Dc m_X8_pause 45 (.getfield 22) 3 48 := ⟨by decide +kernel, rfl⟩
theorem d_X8_pause_48 : Dc m_X8_pause 48 (.iconst 1) 1 49 := ⟨by decide +kernel, rfl⟩
theorem d_X8_pause_49 : Dc m_X8_pause 49 (.dup2) 1 50 := ⟨by decide +kernel, rfl⟩
theorem d_X8_pause_50 : Dc m_X8_pause 50 (.iaload) 1 51 := ⟨by decide +kernel, rfl⟩
theorem d_X8_pause_51 : Dc m_X8_pause 51 (.iload_n 1) 1 52 := ⟨by decide +kernel, rfl⟩
theorem d_X8_pause_52 : Dc m_X8_pause 52 (.iadd) 1 53 := ⟨by decide +kernel, rfl⟩
theorem d_X8_pause_53 : Dc m_X8_pause 53 (.iastore) 1 54 := ⟨by decide +kernel, rfl⟩
theorem d_X8_pause_54 : Dc m_X8_pause 54 (.aload_n 0) 1 55 := ⟨by decide +kernel, rfl⟩
theorem d_X8_pause_55 : Dc m_X8_pause 55 (.getfield 22) 3 58 := ⟨by decide +kernel, rfl⟩
theorem d_X8_pause_58 : Dc m_X8_pause 58 (.iconst 1) 1 59 := ⟨by decide +kernel, rfl⟩
theorem d_X8_pause_59 : Dc m_X8_pause 59 (.iaload) 1 60 := ⟨by decide +kernel, rfl⟩
theorem d_X8_pause_60 : Dc m_X8_pause 60 (.ireturn) 1 61 := ⟨by decide +kernel, rfl⟩
theorem d_X8_value_0 : Dc m_X8_value 0 (.aload_n 0) 1 1 := ⟨by decide +kernel, rfl⟩
theorem d_X8_value_1 : Dc m_X8_value 1 (.iload_n 1) 1 2 := ⟨by decide +kernel, rfl⟩
theorem d_X8_value_2 : Dc m_X8_value 2 (.invokevirtual 150) 3 5 := ⟨by decide +kernel, rfl⟩
theorem d_X8_value_5 : Dc m_X8_value 5 (.ifCond .eq 13) 3 8 := ⟨by decide +kernel, rfl⟩
theorem d_X8_value_8 : Dc m_X8_value 8 (.iload_n 2) 1 9 := ⟨by decide +kernel, rfl⟩
theorem d_X8_value_9 : Dc m_X8_value 9 (.iconst 0) 1 10 := ⟨by decide +kernel, rfl⟩
theorem d_X8_value_10 : Dc m_X8_value 10 (.bipush 30) 2 12 := ⟨by decide +kernel, rfl⟩
theorem d_X8_value_12 : Dc m_X8_value 12 (.invokestatic 59) 3 15 := ⟨by decide +kernel, rfl⟩
theorem d_X8_value_15 : Dc m_X8_value 15 (.ifCond .ne 6) 3 18 := ⟨by decide +kernel, rfl⟩
theorem d_X8_value_18 : Dc m_X8_value 18 (.ldc 72) 2 20 := ⟨by decide +kernel, rfl⟩
theorem d_X8_value_20 : Dc m_X8_value 20 (.ireturn) 1 21 := ⟨by decide +kernel, rfl⟩
theorem d_X8_value_21 : Dc m_X8_value 21 (.aload_n 0) 1 22 := ⟨by decide +kernel, rfl⟩
theorem d_X8_value_22 : Dc m_X8_value 22 (.invokevirtual 158) 3 25 := ⟨by decide +kernel, rfl⟩
theorem d_X8_value_25 : Dc m_X8_value 25 (.aload_n 0) 1 26 := ⟨by decide +kernel, rfl⟩
theorem d_X8_value_26 : Dc m_X8_value 26 (.getfield 22) 3 29 := ⟨by decide +kernel, rfl⟩
theorem d_X8_value_29 : Dc m_X8_value 29 (.bipush 21) 2 31 := ⟨by decide +kernel, rfl⟩
theorem d_X8_value_31 : Dc m_X8_value 31 (.iload_n 1) 1 32 := ⟨by decide +kernel, rfl⟩
theorem d_X8_value_32 : Dc m_X8_value 32 (.iadd) 1 33 := ⟨by decide +kernel, rfl⟩
theorem d_X8_value_33 : Dc m_X8_value 33 (.iaload) 1 34 := ⟨by decide +kernel, rfl⟩
theorem d_X8_value_34 : Dc m_X8_value 34 (.istore_n 3) 1 35 := ⟨by decide +kernel, rfl⟩
theorem d_X8_value_35 : Dc m_X8_value 35 (.aload_n 0) 1 36 := ⟨by decide +kernel, rfl⟩
theorem d_X8_value_36 : Dc m_X8_value 36 (.getfield 22) 3 39 := ⟨by decide +kernel, rfl⟩
theorem d_X8_value_39 : Dc m_X8_value 39 (.bipush 21) 2 41 := ⟨by decide +kernel, rfl⟩
theorem d_X8_value_41 : Dc m_X8_value 41 (.iload_n 1) 1 42 := ⟨by decide +kernel, rfl⟩
theorem d_X8_value_42 : Dc m_X8_value 42 (.iadd) 1 43 := ⟨by decide +kernel, rfl⟩
theorem d_X8_value_43 : Dc m_X8_value 43 (.iload_n 2) 1 44 := ⟨by decide +kernel, rfl⟩
theorem d_X8_value_44 : Dc m_X8_value 44 (.iastore) 1 45 := ⟨by decide +kernel, rfl⟩
theorem d_X8_value_45 : Dc m_X8_value 45 (.iload_n 3) 1 46 := ⟨by decide +kernel, rfl⟩
theorem d_X8_value_46 : Dc m_X8_value 46 (.ireturn) 1 47 := ⟨by decide +kernel, rfl⟩
theorem d_X8_move_0 : Dc m_X8_move 0 (.aload_n 0) 1 1 := ⟨by decide +kernel, rfl⟩
theorem d_X8_move_1 : Dc m_X8_move 1 (.iload_n 1) 1 2 := ⟨by decide +kernel, rfl⟩
theorem d_X8_move_2 : Dc m_X8_move 2 (.invokevirtual 150) 3 5 := ⟨by decide +kernel, rfl⟩
theorem d_X8_move_5 : Dc m_X8_move 5 (.ifCond .eq 13) 3 8 := ⟨by decide +kernel, rfl⟩
theorem d_X8_move_8 : Dc m_X8_move 8 (.iload_n 2) 1 9 := ⟨by decide +kernel, rfl⟩
theorem d_X8_move_9 : Dc m_X8_move 9 (.iconst 0) 1 10 := ⟨by decide +kernel, rfl⟩
theorem d_X8_move_10 : Dc m_X8_move 10 (.bipush 9) 2 12 := ⟨by decide +kernel, rfl⟩
theorem d_X8_move_12 : Dc m_X8_move 12 (.invokestatic 59) 3 15 := ⟨by decide +kernel, rfl⟩
theorem d_X8_move_15 : Dc m_X8_move 15 (.ifCond .ne 6) 3 18 := ⟨by decide +kernel, rfl⟩
theorem d_X8_move_18 : Dc m_X8_move 18 (.ldc 72) 2 20 := ⟨by decide +kernel, rfl⟩
theorem d_X8_move_20 : Dc m_X8_move 20 (.ireturn) 1 21 := ⟨by decide +kernel, rfl⟩
theorem d_X8_move_21 : Dc m_X8_move 21 (.aload_n 0) 1 22 := ⟨by decide +kernel, rfl⟩
theorem d_X8_move_22 : Dc m_X8_move 22 (.invokevirtual 158) 3 25 := ⟨by decide +kernel, rfl⟩
theorem d_X8_move_25 : Dc m_X8_move 25 (.aload_n 0) 1 26 := ⟨by decide +kernel, rfl⟩
theorem d_X8_move_26 : Dc m_X8_move 26 (.getfield 22) 3 29 := ⟨by decide +kernel, rfl⟩
theorem d_X8_move_29 : Dc m_X8_move 29 (.bipush 15) 2 31 := ⟨by decide +kernel, rfl⟩
theorem d_X8_move_31 : Dc m_X8_move 31 (.iload_n 1) 1 32 := ⟨by decide +kernel, rfl⟩
theorem d_X8_move_32 : Dc m_X8_move 32 (.iadd) 1 33 := ⟨by decide +kernel, rfl⟩
theorem d_X8_move_33 : Dc m_X8_move 33 (.iaload) 1 34 := ⟨by decide +kernel, rfl⟩
theorem d_X8_move_34 : Dc m_X8_move 34 (.istore_n 3) 1 35 := ⟨by decide +kernel, rfl⟩
theorem d_X8_move_35 : Dc m_X8_move 35 (.aload_n 0) 1 36 := ⟨by decide +kernel, rfl⟩
theorem d_X8_move_36 : Dc m_X8_move 36 (.getfield 22) 3 39 := ⟨by decide +kernel, rfl⟩
theorem d_X8_move_39 : Dc m_X8_move 39 (.bipush 15) 2 41 := ⟨by decide +kernel, rfl⟩
theorem d_X8_move_41 : Dc m_X8_move 41 (.iload_n 1) 1 42 := ⟨by decide +kernel, rfl⟩
theorem d_X8_move_42 : Dc m_X8_move 42 (.iadd) 1 43 := ⟨by decide +kernel, rfl⟩
theorem d_X8_move_43 : Dc m_X8_move 43 (.iload_n 2) 1 44 := ⟨by decide +kernel, rfl⟩
theorem d_X8_move_44 : Dc m_X8_move 44 (.iastore) 1 45 := ⟨by decide +kernel, rfl⟩
theorem d_X8_move_45 : Dc m_X8_move 45 (.iload_n 3) 1 46 := ⟨by decide +kernel, rfl⟩
theorem d_X8_move_46 : Dc m_X8_move 46 (.ireturn) 1 47 := ⟨by decide +kernel, rfl⟩
theorem d_X8_undo_0 : Dc m_X8_undo 0 (.aload_n 0) 1 1 := ⟨by decide +kernel, rfl⟩
theorem d_X8_undo_1 : Dc m_X8_undo 1 (.getfield 137) 3 4 := ⟨by decide +kernel, rfl⟩
theorem d_X8_undo_4 : Dc m_X8_undo 4 (.ifCond .ne 6) 3 7 := ⟨by decide +kernel, rfl⟩
theorem d_X8_undo_7 : Dc m_X8_undo 7 (.ldc 157) 2 9 := ⟨by decide +kernel, rfl⟩
theorem d_X8_undo_9 : Dc m_X8_undo 9 (.ireturn) 1 10 := ⟨by decide +kernel, rfl⟩
theorem d_X8_undo_10 : Dc m_X8_undo 10 (.aload_n 0) 1 11 := ⟨by decide +kernel, rfl⟩
theorem d_X8_undo_11 : Dc m_X8_undo 11 (.dup) 1 12 := ⟨by decide +kernel, rfl⟩
theorem d_X8_undo_12 : Dc m_X8_undo 12 (.getfield 137) 3 15 := ⟨by decide +kernel, rfl⟩
theorem d_X8_undo_15 : Dc m_X8_undo 15 (.iconst 1) 1 16 := ⟨by decide +kernel, rfl⟩
theorem d_X8_undo_16 : Dc m_X8_undo 16 (.isub) 1 17 := ⟨by decide +kernel, rfl⟩
theorem d_X8_undo_17 : Dc m_X8_undo 17 (.putfield 137) 3 20 := ⟨by decide +kernel, rfl⟩
theorem d_X8_undo_20 : Dc m_X8_undo 20 (.aload_n 0) 1 21 := ⟨by decide +kernel, rfl⟩
theorem d_X8_undo_21 : Dc m_X8_undo 21 (.getfield 38) 3 24 := ⟨by decide +kernel, rfl⟩
theorem d_X8_undo_24 : Dc m_X8_undo 24 (.bipush 33) 2 26 := ⟨by decide +kernel, rfl⟩
theorem d_X8_undo_26 : Dc m_X8_undo 26 (.aload_n 0) 1 27 := ⟨by decide +kernel, rfl⟩
theorem d_X8_undo_27 : Dc m_X8_undo 27 (.getfield 137) 3 30 := ⟨by decide +kernel, rfl⟩
theorem d_X8_undo_30 : Dc m_X8_undo 30 (.imul) 1 31 := ⟨by decide +kernel, rfl⟩
theorem d_X8_undo_31 : Dc m_X8_undo 31 (.aload_n 0) 1 32 := ⟨by decide +kernel, rfl⟩
theorem d_X8_undo_32 : Dc m_X8_undo 32 (.getfield 22) 3 35 := ⟨by decide +kernel, rfl⟩
theorem d_X8_undo_35 : Dc m_X8_undo 35 (.iconst 0) 1 36 := ⟨by decide +kernel, rfl⟩
theorem d_X8_undo_36 : Dc m_X8_undo 36 (.invokestatic 133) 3 39 := ⟨by decide +kernel, rfl⟩
theorem d_X8_undo_39 : Dc m_X8_undo 39 (.aload_n 0) 1 40 := ⟨by decide +kernel, rfl⟩
theorem d_X8_undo_40 : Dc m_X8_undo 40 (.getfield 137) 3 43 := ⟨by decide +kernel, rfl⟩
theorem d_X8_undo_43 : Dc m_X8_undo 43 (.ireturn) 1 44 := ⟨by decide +kernel, rfl⟩
theorem d_X8_reader_0 : Dc m_X8_reader 0 (.aload_n 0) 1 1 := ⟨by decide +kernel, rfl⟩
theorem d_X8_reader_1 : Dc m_X8_reader 1 (.iload_n 1) 1 2 := ⟨by decide +kernel, rfl⟩
theorem d_X8_reader_2 : Dc m_X8_reader 2 (.invokevirtual 150) 3 5 := ⟨by decide +kernel, rfl⟩
theorem d_X8_reader_5 : Dc m_X8_reader 5 (.ifCond .ne 6) 3 8 := ⟨by decide +kernel, rfl⟩
theorem d_X8_reader_8 : Dc m_X8_reader 8 (.ldc 72) 2 10 := ⟨by decide +kernel, rfl⟩
theorem d_X8_reader_10 : Dc m_X8_reader 10 (.ireturn) 1 11 := ⟨by decide +kernel, rfl⟩
theorem d_X8_reader_11 : Dc m_X8_reader 11 (.iload_n 2) 1 12 := ⟨by decide +kernel, rfl⟩
theorem d_X8_reader_12 : Dc m_X8_reader 12 (.tableswitch 94 0 4 #[36, 46, 56, 66, 77]) 36 48 := ⟨by decide +kernel, rfl⟩
theorem d_X8_reader_48 : Dc m_X8_reader 48 (.aload_n 0) 1 49 := ⟨by decide +kernel, rfl⟩
theorem d_X8_reader_49 : Dc m_X8_reader 49 (.getfield 22) 3 52 := ⟨by decide +kernel, rfl⟩
theorem d_X8_reader_52 : Dc m_X8_reader 52 (.bipush 15) 2 54 := ⟨by decide +kernel, rfl⟩
theorem d_X8_reader_54 : Dc m_X8_reader 54 (.iload_n 1) 1 55 := ⟨by decide +kernel, rfl⟩
theorem d_X8_reader_55 : Dc m_X8_reader 55 (.iadd) 1 56 := ⟨by decide +kernel, rfl⟩
theorem d_X8_reader_56 : Dc m_X8_reader 56 (.iaload) 1 57 := ⟨by decide +kernel, rfl⟩
theorem d_X8_reader_57 : Dc m_X8_reader 57 (.ireturn) 1 58 := ⟨by decide +kernel, rfl⟩
theorem d_X8_reader_58 : Dc m_X8_reader 58 (.aload_n 0) 1 59 := ⟨by decide +kernel, rfl⟩
theorem d_X8_reader_59 : Dc m_X8_reader 59 (.getfield 22) 3 62 := ⟨by decide +kernel, rfl⟩
theorem d_X8_reader_62 : Dc m_X8_reader 62 (.bipush 21) 2 64 := ⟨by decide +kernel, rfl⟩
theorem d_X8_reader_64 : Dc m_X8_reader 64 (.iload_n 1) 1 65 := ⟨by decide +kernel, rfl⟩
theorem d_X8_reader_65 : Dc m_X8_reader 65 (.iadd) 1 66 := ⟨by decide +kernel, rfl⟩
theorem d_X8_reader_66 : Dc m_X8_reader 66 (.iaload) 1 67 := ⟨by decide +kernel, rfl⟩
theorem d_X8_reader_67 : Dc m_X8_reader 67 (.ireturn) 1 68 := ⟨by decide +kernel, rfl⟩
theorem d_X8_reader_68 : Dc m_X8_reader 68 (.aload_n 0) 1 69 := ⟨by decide +kernel, rfl⟩
theorem d_X8_reader_69 : Dc m_X8_reader 69 (.getfield 22) 3 72 := ⟨by decide +kernel, rfl⟩
theorem d_X8_reader_72 : Dc m_X8_reader 72 (.bipush 27) 2 74 := ⟨by decide +kernel, rfl⟩
theorem d_X8_reader_74 : Dc m_X8_reader 74 (.iload_n 1) 1 75 := ⟨by decide +kernel, rfl⟩
theorem d_X8_reader_75 : Dc m_X8_reader 75 (.iadd) 1 76 := ⟨by decide +kernel, rfl⟩
theorem d_X8_reader_76 : Dc m_X8_reader 76 (.iaload) 1 77 := ⟨by decide +kernel, rfl⟩
theorem d_X8_reader_77 : Dc m_X8_reader 77 (.ireturn) 1 78 := ⟨by decide +kernel, rfl⟩
theorem d_X8_reader_78 : Dc m_X8_reader 78 (.aload_n 0) 1 79 := ⟨by decide +kernel, rfl⟩
theorem d_X8_reader_79 : Dc m_X8_reader 79 (.getfield 22) 3 82 := ⟨by decide +kernel, rfl⟩
theorem d_X8_reader_82 : Dc m_X8_reader 82 (.iconst 2) 1 83 := ⟨by decide +kernel, rfl⟩
theorem d_X8_reader_83 : Dc m_X8_reader 83 (.iaload) 1 84 := ⟨by decide +kernel, rfl⟩
theorem d_X8_reader_84 : Dc m_X8_reader 84 (.iload_n 1) 1 85 := ⟨by decide +kernel, rfl⟩
theorem d_X8_reader_85 : Dc m_X8_reader 85 (.ishr) 1 86 := ⟨by decide +kernel, rfl⟩
theorem d_X8_reader_86 : Dc m_X8_reader 86 (.iconst 1) 1 87 := ⟨by decide +kernel, rfl⟩
theorem d_X8_reader_87 : Dc m_X8_reader 87 (.iand) 1 88 := ⟨by decide +kernel, rfl⟩
theorem d_X8_reader_88 : Dc m_X8_reader 88 (.ireturn) 1 89 := ⟨by decide +kernel, rfl⟩
theorem d_X8_reader_89 : Dc m_X8_reader 89 (.aload_n 0) 1 90 := ⟨by decide +kernel, rfl⟩
theorem d_X8_reader_90 : Dc m_X8_reader 90 (.getfield 22) 3 93 := ⟨by decide +kernel, rfl⟩
theorem d_X8_reader_93 : Dc m_X8_reader 93 (.iload_n 1) 1 94 := ⟨by decide +kernel, rfl⟩
theorem d_X8_reader_94 : Dc m_X8_reader 94 (.invokestatic 153) 3 97 := ⟨by decide +kernel, rfl⟩
theorem d_X8_reader_97 : Dc m_X8_reader 97 (.ifCond .eq 7) 3 100 := ⟨by decide +kernel, rfl⟩
theorem d_X8_reader_100 : Dc m_X8_reader 100 (.iconst 1) 1 101 := ⟨by decide +kernel, rfl⟩
theorem d_X8_reader_101 : Dc m_X8_reader 101 (.goto 4) 3 104 := ⟨by decide +kernel, rfl⟩
theorem d_X8_reader_104 : Dc m_X8_reader 104 (.iconst 0) 1 105 := ⟨by decide +kernel, rfl⟩
theorem d_X8_reader_105 : Dc m_X8_reader 105 (.ireturn) 1 106 := ⟨by decide +kernel, rfl⟩
theorem d_X8_reader_106 : Dc m_X8_reader 106 (.ldc 72) 2 108 := ⟨by decide +kernel, rfl⟩
theorem d_X8_reader_108 : Dc m_X8_reader 108 (.ireturn) 1 109 := ⟨by decide +kernel, rfl⟩
theorem d_X8_would_0 : Dc m_X8_would 0 (.aload_n 0) 1 1 := ⟨by decide +kernel, rfl⟩
theorem d_X8_would_1 : Dc m_X8_would 1 (.iload_n 1) 1 2 := ⟨by decide +kernel, rfl⟩
theorem d_X8_would_2 : Dc m_X8_would 2 (.invokevirtual 150) 3 5 := ⟨by decide +kernel, rfl⟩
theorem d_X8_would_5 : Dc m_X8_would 5 (.ifCond .eq 12) 3 8 := ⟨by decide +kernel, rfl⟩
theorem d_X8_would_8 : Dc m_X8_would 8 (.iload_n 2) 1 9 := ⟨by decide +kernel, rfl⟩
theorem d_X8_would_9 : Dc m_X8_would 9 (.iconst 0) 1 10 := ⟨by decide +kernel, rfl⟩
theorem d_X8_would_10 : Dc m_X8_would 10 (.iconst 1) 1 11 := ⟨by decide +kernel, rfl⟩
theorem d_X8_would_11 : Dc m_X8_would 11 (.invokestatic 59) 3 14 := ⟨by decide +kernel, rfl⟩
theorem d_X8_would_14 : Dc m_X8_would 14 (.ifCond .ne 6) 3 17 := ⟨by decide +kernel, rfl⟩
theorem d_X8_would_17 : Dc m_X8_would 17 (.ldc 72) 2 19 := ⟨by decide +kernel, rfl⟩
theorem d_X8_would_19 : Dc m_X8_would 19 (.ireturn) 1 20 := ⟨by decide +kernel, rfl⟩
theorem d_X8_would_20 : Dc m_X8_would 20 (.aload_n 0) 1 21 := ⟨by decide +kernel, rfl⟩
theorem d_X8_would_21 : Dc m_X8_would 21 (.getfield 22) 3 24 := ⟨by decide +kernel, rfl⟩
theorem d_X8_would_24 : Dc m_X8_would 24 (.iload_n 1) 1 25 := ⟨by decide +kernel, rfl⟩
theorem d_X8_would_25 : Dc m_X8_would 25 (.invokestatic 153) 3 28 := ⟨by decide +kernel, rfl⟩
theorem d_X8_would_28 : Dc m_X8_would 28 (.ifCond .ne 6) 3 31 := ⟨by decide +kernel, rfl⟩
theorem d_X8_would_31 : Dc m_X8_would 31 (.ldc 167) 2 33 := ⟨by decide +kernel, rfl⟩
theorem d_X8_would_33 : Dc m_X8_would 33 (.ireturn) 1 34 := ⟨by decide +kernel, rfl⟩
theorem d_X8_would_34 : Dc m_X8_would 34 (.iload_n 2) 1 35 := ⟨by decide +kernel, rfl⟩
theorem d_X8_would_35 : Dc m_X8_would 35 (.ifCond .ne 14) 3 38 := ⟨by decide +kernel, rfl⟩
theorem d_X8_would_38 : Dc m_X8_would 38 (.aload_n 0) 1 39 := ⟨by decide +kernel, rfl⟩
theorem d_X8_would_39 : Dc m_X8_would 39 (.getfield 22) 3 42 := ⟨by decide +kernel, rfl⟩
theorem d_X8_would_42 : Dc m_X8_would 42 (.iload_n 1) 1 43 := ⟨by decide +kernel, rfl⟩
theorem d_X8_would_43 : Dc m_X8_would 43 (.invokestatic 143) 3 46 := ⟨by decide +kernel, rfl⟩
theorem d_X8_would_46 : Dc m_X8_would 46 (.goto 11) 3 49 := ⟨by decide +kernel, rfl⟩
theorem d_X8_would_49 : Dc m_X8_would 49 (.aload_n 0) 1 50 := ⟨by decide +kernel, rfl⟩
theorem d_X8_would_50 : Dc m_X8_would 50 (.getfield 22) 3 53 := ⟨by decide +kernel, rfl⟩
theorem d_X8_would_53 : Dc m_X8_would 53 (.iload_n 1) 1 54 := ⟨by decide +kernel, rfl⟩
theorem d_X8_would_54 : Dc m_X8_would 54 (.invokestatic 147) 3 57 := ⟨by decide +kernel, rfl⟩
theorem d_X8_would_57 : Dc m_X8_would 57 (.ireturn) 1 58 := ⟨by decide +kernel, rfl⟩
theorem d_X8_begin_0 : Dc m_X8_begin 0 (.aload_n 0) 1 1 := ⟨by decide +kernel, rfl⟩
theorem d_X8_begin_1 : Dc m_X8_begin 1 (.getfield 22) 3 4 := ⟨by decide +kernel, rfl⟩
theorem d_X8_begin_4 : Dc m_X8_begin 4 (.iconst 0) 1 5 := ⟨by decide +kernel, rfl⟩
theorem d_X8_begin_5 : Dc m_X8_begin 5 (.aload_n 0) 1 6 := ⟨by decide +kernel, rfl⟩
theorem d_X8_begin_6 : Dc m_X8_begin 6 (.getfield 28) 3 9 := ⟨by decide +kernel, rfl⟩
theorem d_X8_begin_9 : Dc m_X8_begin 9 (.iconst 0) 1 10 := ⟨by decide +kernel, rfl⟩
theorem d_X8_begin_10 : Dc m_X8_begin 10 (.invokestatic 133) 3 13 := ⟨by decide +kernel, rfl⟩
theorem d_X8_begin_13 : Dc m_X8_begin 13 (.return_) 1 14 := ⟨by decide +kernel, rfl⟩
theorem d_X8_goesOn_0 : Dc m_X8_goesOn 0 (.iconst 0) 1 1 := ⟨by decide +kernel, rfl⟩
theorem d_X8_goesOn_1 : Dc m_X8_goesOn 1 (.istore_n 3) 1 2 := ⟨by decide +kernel, rfl⟩
theorem d_X8_goesOn_2 : Dc m_X8_goesOn 2 (.iload_n 3) 1 3 := ⟨by decide +kernel, rfl⟩
theorem d_X8_goesOn_3 : Dc m_X8_goesOn 3 (.iload_n 2) 1 4 := ⟨by decide +kernel, rfl⟩
theorem d_X8_goesOn_4 : Dc m_X8_goesOn 4 (.if_icmp .ge 35) 3 7 := ⟨by decide +kernel, rfl⟩
theorem d_X8_goesOn_7 : Dc m_X8_goesOn 7 (.aload_n 0) 1 8 := ⟨by decide +kernel, rfl⟩
theorem d_X8_goesOn_8 : Dc m_X8_goesOn 8 (.getfield 28) 3 11 := ⟨by decide +kernel, rfl⟩
theorem d_X8_goesOn_11 : Dc m_X8_goesOn 11 (.aload_n 1) 1 12 := ⟨by decide +kernel, rfl⟩
theorem d_X8_goesOn_12 : Dc m_X8_goesOn 12 (.iload_n 3) 1 13 := ⟨by decide +kernel, rfl⟩
theorem d_X8_goesOn_13 : Dc m_X8_goesOn 13 (.iaload) 1 14 := ⟨by decide +kernel, rfl⟩
theorem d_X8_goesOn_14 : Dc m_X8_goesOn 14 (.invokestatic 153) 3 17 := ⟨by decide +kernel, rfl⟩
theorem d_X8_goesOn_17 : Dc m_X8_goesOn 17 (.ifCond .ne 5) 3 20 := ⟨by decide +kernel, rfl⟩
theorem d_X8_goesOn_20 : Dc m_X8_goesOn 20 (.iconst 0) 1 21 := ⟨by decide +kernel, rfl⟩
theorem d_X8_goesOn_21 : Dc m_X8_goesOn 21 (.ireturn) 1 22 := ⟨by decide +kernel, rfl⟩
theorem d_X8_goesOn_22 : Dc m_X8_goesOn 22 (.aload_n 0) 1 23 := ⟨by decide +kernel, rfl⟩
theorem d_X8_goesOn_23 : Dc m_X8_goesOn 23 (.getfield 28) 3 26 := ⟨by decide +kernel, rfl⟩
theorem d_X8_goesOn_26 : Dc m_X8_goesOn 26 (.aload_n 1) 1 27 := ⟨by decide +kernel, rfl⟩
theorem d_X8_goesOn_27 : Dc m_X8_goesOn 27 (.iload_n 3) 1 28 := ⟨by decide +kernel, rfl⟩
theorem d_X8_goesOn_28 : Dc m_X8_goesOn 28 (.iaload) 1 29 := ⟨by decide +kernel, rfl⟩
theorem d_X8_goesOn_29 : Dc m_X8_goesOn 29 (.invokestatic 161) 3 32 := ⟨by decide +kernel, rfl⟩
theorem d_X8_goesOn_32 : Dc m_X8_goesOn 32 (.pop) 1 33 := ⟨by decide +kernel, rfl⟩
theorem d_X8_goesOn_33 : Dc m_X8_goesOn 33 (.iinc 3 1) 3 36 := ⟨by decide +kernel, rfl⟩
theorem d_X8_goesOn_36 : Dc m_X8_goesOn 36 (.goto (-34)) 3 39 := ⟨by decide +kernel, rfl⟩
theorem d_X8_goesOn_39 : Dc m_X8_goesOn 39 (.iconst 1) 1 40 := ⟨by decide +kernel, rfl⟩
theorem d_X8_goesOn_40 : Dc m_X8_goesOn 40 (.ireturn) 1 41 := ⟨by decide +kernel, rfl⟩
theorem d_X8_layRow_0 : Dc m_X8_layRow 0 (.iload_n 1) 1 1 := ⟨by decide +kernel, rfl⟩
theorem d_X8_layRow_1 : Dc m_X8_layRow 1 (.istore_n 3) 1 2 := ⟨by decide +kernel, rfl⟩
theorem d_X8_layRow_2 : Dc m_X8_layRow 2 (.iconst 0) 1 3 := ⟨by decide +kernel, rfl⟩
theorem d_X8_layRow_3 : Dc m_X8_layRow 3 (.istore 4) 2 5 := ⟨by decide +kernel, rfl⟩
theorem d_X8_layRow_5 : Dc m_X8_layRow 5 (.iload_n 2) 1 6 := ⟨by decide +kernel, rfl⟩
theorem d_X8_layRow_6 : Dc m_X8_layRow 6 (.iconst 1) 1 7 := ⟨by decide +kernel, rfl⟩
theorem d_X8_layRow_7 : Dc m_X8_layRow 7 (.isub) 1 8 := ⟨by decide +kernel, rfl⟩
theorem d_X8_layRow_8 : Dc m_X8_layRow 8 (.istore 5) 2 10 := ⟨by decide +kernel, rfl⟩
theorem d_X8_layRow_10 : Dc m_X8_layRow 10 (.iload 5) 2 12 := ⟨by decide +kernel, rfl⟩
theorem d_X8_layRow_12 : Dc m_X8_layRow 12 (.ifCond .lt 47) 3 15 := ⟨by decide +kernel, rfl⟩
theorem d_X8_layRow_15 : Dc m_X8_layRow 15 (.aload_n 0) 1 16 := ⟨by decide +kernel, rfl⟩
theorem d_X8_layRow_16 : Dc m_X8_layRow 16 (.getfield 47) 3 19 := ⟨by decide +kernel, rfl⟩
theorem d_X8_layRow_19 : Dc m_X8_layRow 19 (.iload 5) 2 21 := ⟨by decide +kernel, rfl⟩
theorem d_X8_layRow_21 : Dc m_X8_layRow 21 (.iload_n 3) 1 22 := ⟨by decide +kernel, rfl⟩
theorem d_X8_layRow_22 : Dc m_X8_layRow 22 (.aload_n 0) 1 23 := ⟨by decide +kernel, rfl⟩
theorem d_X8_layRow_23 : Dc m_X8_layRow 23 (.getfield 22) 3 26 := ⟨by decide +kernel, rfl⟩
theorem d_X8_layRow_26 : Dc m_X8_layRow 26 (.iconst 4) 1 27 := ⟨by decide +kernel, rfl⟩
theorem d_X8_layRow_27 : Dc m_X8_layRow 27 (.iaload) 1 28 := ⟨by decide +kernel, rfl⟩
theorem d_X8_layRow_28 : Dc m_X8_layRow 28 (.irem) 1 29 := ⟨by decide +kernel, rfl⟩
theorem d_X8_layRow_29 : Dc m_X8_layRow 29 (.iastore) 1 30 := ⟨by decide +kernel, rfl⟩
theorem d_X8_layRow_30 : Dc m_X8_layRow 30 (.iload_n 3) 1 31 := ⟨by decide +kernel, rfl⟩
theorem d_X8_layRow_31 : Dc m_X8_layRow 31 (.aload_n 0) 1 32 := ⟨by decide +kernel, rfl⟩
theorem d_X8_layRow_32 : Dc m_X8_layRow 32 (.getfield 22) 3 35 := ⟨by decide +kernel, rfl⟩
theorem d_X8_layRow_35 : Dc m_X8_layRow 35 (.iconst 4) 1 36 := ⟨by decide +kernel, rfl⟩
theorem d_X8_layRow_36 : Dc m_X8_layRow 36 (.iaload) 1 37 := ⟨by decide +kernel, rfl⟩
theorem d_X8_layRow_37 : Dc m_X8_layRow 37 (.idiv) 1 38 := ⟨by decide +kernel, rfl⟩
theorem d_X8_layRow_38 : Dc m_X8_layRow 38 (.istore_n 3) 1 39 := ⟨by decide +kernel, rfl⟩
theorem d_X8_layRow_39 : Dc m_X8_layRow 39 (.iload 4) 2 41 := ⟨by decide +kernel, rfl⟩
theorem d_X8_layRow_41 : Dc m_X8_layRow 41 (.iconst 1) 1 42 := ⟨by decide +kernel, rfl⟩
theorem d_X8_layRow_42 : Dc m_X8_layRow 42 (.aload_n 0) 1 43 := ⟨by decide +kernel, rfl⟩
theorem d_X8_layRow_43 : Dc m_X8_layRow 43 (.getfield 47) 3 46 := ⟨by decide +kernel, rfl⟩
theorem d_X8_layRow_46 : Dc m_X8_layRow 46 (.iload 5) 2 48 := ⟨by decide +kernel, rfl⟩
theorem d_X8_layRow_48 : Dc m_X8_layRow 48 (.iaload) 1 49 := ⟨by decide +kernel, rfl⟩
theorem d_X8_layRow_49 : Dc m_X8_layRow 49 (.ishl) 1 50 := ⟨by decide +kernel, rfl⟩
theorem d_X8_layRow_50 : Dc m_X8_layRow 50 (.ior) 1 51 := ⟨by decide +kernel, rfl⟩
theorem d_X8_layRow_51 : Dc m_X8_layRow 51 (.istore 4) 2 53 := ⟨by decide +kernel, rfl⟩
theorem d_X8_layRow_53 : Dc m_X8_layRow 53 (.iinc 5 (-1)) 3 56 := ⟨by decide +kernel, rfl⟩
theorem d_X8_layRow_56 : Dc m_X8_layRow 56 (.goto (-46)) 3 59 := ⟨by decide +kernel, rfl⟩
theorem d_X8_layRow_59 : Dc m_X8_layRow 59 (.iload 4) 2 61 := ⟨by decide +kernel, rfl⟩
theorem d_X8_layRow_61 : Dc m_X8_layRow 61 (.ireturn) 1 62 := ⟨by decide +kernel, rfl⟩
theorem d_X8_bits_0 : Dc m_X8_bits 0 (.iconst 0) 1 1 := ⟨by decide +kernel, rfl⟩
theorem d_X8_bits_1 : Dc m_X8_bits 1 (.istore_n 1) 1 2 := ⟨by decide +kernel, rfl⟩
theorem d_X8_bits_2 : Dc m_X8_bits 2 (.iconst 0) 1 3 := ⟨by decide +kernel, rfl⟩
theorem d_X8_bits_3 : Dc m_X8_bits 3 (.istore_n 2) 1 4 := ⟨by decide +kernel, rfl⟩
theorem d_X8_bits_4 : Dc m_X8_bits 4 (.iload_n 2) 1 5 := ⟨by decide +kernel, rfl⟩
theorem d_X8_bits_5 : Dc m_X8_bits 5 (.bipush 6) 2 7 := ⟨by decide +kernel, rfl⟩
theorem d_X8_bits_7 : Dc m_X8_bits 7 (.if_icmp .ge 17) 3 10 := ⟨by decide +kernel, rfl⟩
theorem d_X8_bits_10 : Dc m_X8_bits 10 (.iload_n 1) 1 11 := ⟨by decide +kernel, rfl⟩
theorem d_X8_bits_11 : Dc m_X8_bits 11 (.iload_n 0) 1 12 := ⟨by decide +kernel, rfl⟩
theorem d_X8_bits_12 : Dc m_X8_bits 12 (.iload_n 2) 1 13 := ⟨by decide +kernel, rfl⟩
theorem d_X8_bits_13 : Dc m_X8_bits 13 (.ishr) 1 14 := ⟨by decide +kernel, rfl⟩
theorem d_X8_bits_14 : Dc m_X8_bits 14 (.iconst 1) 1 15 := ⟨by decide +kernel, rfl⟩
theorem d_X8_bits_15 : Dc m_X8_bits 15 (.iand) 1 16 := ⟨by decide +kernel, rfl⟩
theorem d_X8_bits_16 : Dc m_X8_bits 16 (.iadd) 1 17 := ⟨by decide +kernel, rfl⟩
theorem d_X8_bits_17 : Dc m_X8_bits 17 (.istore_n 1) 1 18 := ⟨by decide +kernel, rfl⟩
theorem d_X8_bits_18 : Dc m_X8_bits 18 (.iinc 2 1) 3 21 := ⟨by decide +kernel, rfl⟩
theorem d_X8_bits_21 : Dc m_X8_bits 21 (.goto (-17)) 3 24 := ⟨by decide +kernel, rfl⟩
theorem d_X8_bits_24 : Dc m_X8_bits 24 (.iload_n 1) 1 25 := ⟨by decide +kernel, rfl⟩
theorem d_X8_bits_25 : Dc m_X8_bits 25 (.ireturn) 1 26 := ⟨by decide +kernel, rfl⟩
theorem d_X8_rowsOf_0 : Dc m_X8_rowsOf 0 (.iconst 1) 1 1 := ⟨by decide +kernel, rfl⟩
theorem d_X8_rowsOf_1 : Dc m_X8_rowsOf 1 (.istore_n 2) 1 2 := ⟨by decide +kernel, rfl⟩
theorem d_X8_rowsOf_2 : Dc m_X8_rowsOf 2 (.iconst 0) 1 3 := ⟨by decide +kernel, rfl⟩
theorem d_X8_rowsOf_3 : Dc m_X8_rowsOf 3 (.istore_n 3) 1 4 := ⟨by decide +kernel, rfl⟩
theorem d_X8_rowsOf_4 : Dc m_X8_rowsOf 4 (.iload_n 3) 1 5 := ⟨by decide +kernel, rfl⟩
theorem d_X8_rowsOf_5 : Dc m_X8_rowsOf 5 (.iload_n 1) 1 6 := ⟨by decide +kernel, rfl⟩
theorem d_X8_rowsOf_6 : Dc m_X8_rowsOf 6 (.if_icmp .ge 18) 3 9 := ⟨by decide +kernel, rfl⟩
theorem d_X8_rowsOf_9 : Dc m_X8_rowsOf 9 (.iload_n 2) 1 10 := ⟨by decide +kernel, rfl⟩
theorem d_X8_rowsOf_10 : Dc m_X8_rowsOf 10 (.aload_n 0) 1 11 := ⟨by decide +kernel, rfl⟩
theorem d_X8_rowsOf_11 : Dc m_X8_rowsOf 11 (.getfield 22) 3 14 := ⟨by decide +kernel, rfl⟩
theorem d_X8_rowsOf_14 : Dc m_X8_rowsOf 14 (.iconst 4) 1 15 := ⟨by decide +kernel, rfl⟩
theorem d_X8_rowsOf_15 : Dc m_X8_rowsOf 15 (.iaload) 1 16 := ⟨by decide +kernel, rfl⟩
theorem d_X8_rowsOf_16 : Dc m_X8_rowsOf 16 (.imul) 1 17 := ⟨by decide +kernel, rfl⟩
theorem d_X8_rowsOf_17 : Dc m_X8_rowsOf 17 (.istore_n 2) 1 18 := ⟨by decide +kernel, rfl⟩
theorem d_X8_rowsOf_18 : Dc m_X8_rowsOf 18 (.iinc 3 1) 3 21 := ⟨by decide +kernel, rfl⟩
theorem d_X8_rowsOf_21 : Dc m_X8_rowsOf 21 (.goto (-17)) 3 24 := ⟨by decide +kernel, rfl⟩
theorem d_X8_rowsOf_24 : Dc m_X8_rowsOf 24 (.iload_n 2) 1 25 := ⟨by decide +kernel, rfl⟩
theorem d_X8_rowsOf_25 : Dc m_X8_rowsOf 25 (.ireturn) 1 26 := ⟨by decide +kernel, rfl⟩
theorem d_X8_keepRow_0 : Dc m_X8_keepRow 0 (.aload_n 0) 1 1 := ⟨by decide +kernel, rfl⟩
theorem d_X8_keepRow_1 : Dc m_X8_keepRow 1 (.iload_n 1) 1 2 := ⟨by decide +kernel, rfl⟩
theorem d_X8_keepRow_2 : Dc m_X8_keepRow 2 (.putfield 168) 3 5 := ⟨by decide +kernel, rfl⟩
theorem d_X8_keepRow_5 : Dc m_X8_keepRow 5 (.aload_n 0) 1 6 := ⟨by decide +kernel, rfl⟩
theorem d_X8_keepRow_6 : Dc m_X8_keepRow 6 (.iload_n 2) 1 7 := ⟨by decide +kernel, rfl⟩
theorem d_X8_keepRow_7 : Dc m_X8_keepRow 7 (.putfield 171) 3 10 := ⟨by decide +kernel, rfl⟩
theorem d_X8_keepRow_10 : Dc m_X8_keepRow 10 (.iconst 0) 1 11 := ⟨by decide +kernel, rfl⟩
theorem d_X8_keepRow_11 : Dc m_X8_keepRow 11 (.istore_n 3) 1 12 := ⟨by decide +kernel, rfl⟩
theorem d_X8_keepRow_12 : Dc m_X8_keepRow 12 (.iload_n 3) 1 13 := ⟨by decide +kernel, rfl⟩
theorem d_X8_keepRow_13 : Dc m_X8_keepRow 13 (.iload_n 2) 1 14 := ⟨by decide +kernel, rfl⟩
theorem d_X8_keepRow_14 : Dc m_X8_keepRow 14 (.if_icmp .ge 21) 3 17 := ⟨by decide +kernel, rfl⟩
theorem d_X8_keepRow_17 : Dc m_X8_keepRow 17 (.aload_n 0) 1 18 := ⟨by decide +kernel, rfl⟩
theorem d_X8_keepRow_18 : Dc m_X8_keepRow 18 (.getfield 50) 3 21 := ⟨by decide +kernel, rfl⟩
theorem d_X8_keepRow_21 : Dc m_X8_keepRow 21 (.iload_n 3) 1 22 := ⟨by decide +kernel, rfl⟩
theorem d_X8_keepRow_22 : Dc m_X8_keepRow 22 (.aload_n 0) 1 23 := ⟨by decide +kernel, rfl⟩
theorem d_X8_keepRow_23 : Dc m_X8_keepRow 23 (.getfield 47) 3 26 := ⟨by decide +kernel, rfl⟩
theorem d_X8_keepRow_26 : Dc m_X8_keepRow 26 (.iload_n 3) 1 27 := ⟨by decide +kernel, rfl⟩
theorem d_X8_keepRow_27 : Dc m_X8_keepRow 27 (.iaload) 1 28 := ⟨by decide +kernel, rfl⟩
theorem d_X8_keepRow_28 : Dc m_X8_keepRow 28 (.iastore) 1 29 := ⟨by decide +kernel, rfl⟩
theorem d_X8_keepRow_29 : Dc m_X8_keepRow 29 (.iinc 3 1) 3 32 := ⟨by decide +kernel, rfl⟩
theorem d_X8_keepRow_32 : Dc m_X8_keepRow 32 (.goto (-20)) 3 35 := ⟨by decide +kernel, rfl⟩
theorem d_X8_keepRow_35 : Dc m_X8_keepRow 35 (.return_) 1 36 := ⟨by decide +kernel, rfl⟩
theorem d_X8_best_0 : Dc m_X8_best 0 (.aload_n 0) 1 1 := ⟨by decide +kernel, rfl⟩
theorem d_X8_best_1 : Dc m_X8_best 1 (.invokevirtual 164) 3 4 := ⟨by decide +kernel, rfl⟩
theorem d_X8_best_4 : Dc m_X8_best 4 (.ifCond .ne 6) 3 7 := ⟨by decide +kernel, rfl⟩
theorem d_X8_best_7 : Dc m_X8_best 7 (.ldc 157) 2 9 := ⟨by decide +kernel, rfl⟩
theorem d_X8_best_9 : Dc m_X8_best 9 (.ireturn) 1 10 := ⟨by decide +kernel, rfl⟩
theorem d_X8_best_10 : Dc m_X8_best 10 (.iload_n 1) 1 11 := ⟨by decide +kernel, rfl⟩
theorem d_X8_best_11 : Dc m_X8_best 11 (.bipush (-2)) 2 13 := ⟨by decide +kernel, rfl⟩
theorem d_X8_best_13 : Dc m_X8_best 13 (.iconst 5) 1 14 := ⟨by decide +kernel, rfl⟩
theorem d_X8_best_14 : Dc m_X8_best 14 (.invokestatic 59) 3 17 := ⟨by decide +kernel, rfl⟩
theorem d_X8_best_17 : Dc m_X8_best 17 (.ifCond .ne 6) 3 20 := ⟨by decide +kernel, rfl⟩
theorem d_X8_best_20 : Dc m_X8_best 20 (.ldc 72) 2 22 := ⟨by decide +kernel, rfl⟩
theorem d_X8_best_22 : Dc m_X8_best 22 (.ireturn) 1 23 := ⟨by decide +kernel, rfl⟩
theorem d_X8_best_23 : Dc m_X8_best 23 (.aload_n 0) 1 24 := ⟨by decide +kernel, rfl⟩
theorem d_X8_best_24 : Dc m_X8_best 24 (.iconst 0) 1 25 := ⟨by decide +kernel, rfl⟩
theorem d_X8_best_25 : Dc m_X8_best 25 (.iconst 0) 1 26 := ⟨by decide +kernel, rfl⟩
theorem d_X8_best_26 : Dc m_X8_best 26 (.invokevirtual 174) 3 29 := ⟨by decide +kernel, rfl⟩
theorem d_X8_best_29 : Dc m_X8_best 29 (.iconst 1) 1 30 := ⟨by decide +kernel, rfl⟩
theorem d_X8_best_30 : Dc m_X8_best 30 (.istore_n 2) 1 31 := ⟨by decide +kernel, rfl⟩
theorem d_X8_best_31 : Dc m_X8_best 31 (.iload_n 2) 1 32 := ⟨by decide +kernel, rfl⟩
theorem d_X8_best_32 : Dc m_X8_best 32 (.aload_n 0) 1 33 := ⟨by decide +kernel, rfl⟩
theorem d_X8_best_33 : Dc m_X8_best 33 (.getfield 22) 3 36 := ⟨by decide +kernel, rfl⟩
theorem d_X8_best_36 : Dc m_X8_best 36 (.iconst 4) 1 37 := ⟨by decide +kernel, rfl⟩
theorem d_X8_best_37 : Dc m_X8_best 37 (.iaload) 1 38 := ⟨by decide +kernel, rfl⟩
theorem d_X8_best_38 : Dc m_X8_best 38 (.if_icmp .gt 93) 3 41 := ⟨by decide +kernel, rfl⟩
theorem d_X8_best_41 : Dc m_X8_best 41 (.iconst 0) 1 42 := ⟨by decide +kernel, rfl⟩
theorem d_X8_best_42 : Dc m_X8_best 42 (.istore_n 3) 1 43 := ⟨by decide +kernel, rfl⟩
theorem d_X8_best_43 : Dc m_X8_best 43 (.iload_n 3) 1 44 := ⟨by decide +kernel, rfl⟩
theorem d_X8_best_44 : Dc m_X8_best 44 (.aload_n 0) 1 45 := ⟨by decide +kernel, rfl⟩
theorem d_X8_best_45 : Dc m_X8_best 45 (.iload_n 2) 1 46 := ⟨by decide +kernel, rfl⟩
theorem d_X8_best_46 : Dc m_X8_best 46 (.invokevirtual 178) 3 49 := ⟨by decide +kernel, rfl⟩
theorem d_X8_best_49 : Dc m_X8_best 49 (.if_icmp .ge 76) 3 52 := ⟨by decide +kernel, rfl⟩
theorem d_X8_best_52 : Dc m_X8_best 52 (.aload_n 0) 1 53 := ⟨by decide +kernel, rfl⟩
theorem d_X8_best_53 : Dc m_X8_best 53 (.iload_n 3) 1 54 := ⟨by decide +kernel, rfl⟩
theorem d_X8_best_54 : Dc m_X8_best 54 (.iload_n 2) 1 55 := ⟨by decide +kernel, rfl⟩
theorem d_X8_best_55 : Dc m_X8_best 55 (.invokevirtual 181) 3 58 := ⟨by decide +kernel, rfl⟩
theorem d_X8_best_58 : Dc m_X8_best 58 (.invokestatic 185) 3 61 := ⟨by decide +kernel, rfl⟩
theorem d_X8_best_61 : Dc m_X8_best 61 (.iload_n 2) 1 62 := ⟨by decide +kernel, rfl⟩
theorem d_X8_best_62 : Dc m_X8_best 62 (.if_icmp .ne 57) 3 65 := ⟨by decide +kernel, rfl⟩
theorem d_X8_best_65 : Dc m_X8_best 65 (.aload_n 0) 1 66 := ⟨by decide +kernel, rfl⟩
theorem d_X8_best_66 : Dc m_X8_best 66 (.invokevirtual 188) 3 69 := ⟨by decide +kernel, rfl⟩
theorem d_X8_best_69 : Dc m_X8_best 69 (.aload_n 0) 1 70 := ⟨by decide +kernel, rfl⟩
theorem d_X8_best_70 : Dc m_X8_best 70 (.aload_n 0) 1 71 := ⟨by decide +kernel, rfl⟩
theorem d_X8_best_71 : Dc m_X8_best 71 (.getfield 47) 3 74 := ⟨by decide +kernel, rfl⟩
theorem d_X8_best_74 : Dc m_X8_best 74 (.iload_n 2) 1 75 := ⟨by decide +kernel, rfl⟩
theorem d_X8_best_75 : Dc m_X8_best 75 (.invokevirtual 191) 3 78 := ⟨by decide +kernel, rfl⟩
theorem d_X8_best_78 : Dc m_X8_best 78 (.ifCond .eq 41) 3 81 := ⟨by decide +kernel, rfl⟩
theorem d_X8_best_81 : Dc m_X8_best 81 (.aload_n 0) 1 82 := ⟨by decide +kernel, rfl⟩
theorem d_X8_best_82 : Dc m_X8_best 82 (.getfield 28) 3 85 := ⟨by decide +kernel, rfl⟩
theorem d_X8_best_85 : Dc m_X8_best 85 (.iconst 3) 1 86 := ⟨by decide +kernel, rfl⟩
theorem d_X8_best_86 : Dc m_X8_best 86 (.iaload) 1 87 := ⟨by decide +kernel, rfl⟩
theorem d_X8_best_87 : Dc m_X8_best 87 (.aload_n 0) 1 88 := ⟨by decide +kernel, rfl⟩
theorem d_X8_best_88 : Dc m_X8_best 88 (.getfield 22) 3 91 := ⟨by decide +kernel, rfl⟩
theorem d_X8_best_91 : Dc m_X8_best 91 (.iconst 3) 1 92 := ⟨by decide +kernel, rfl⟩
theorem d_X8_best_92 : Dc m_X8_best 92 (.iaload) 1 93 := ⟨by decide +kernel, rfl⟩
theorem d_X8_best_93 : Dc m_X8_best 93 (.isub) 1 94 := ⟨by decide +kernel, rfl⟩
theorem d_X8_best_94 : Dc m_X8_best 94 (.aload_n 0) 1 95 := ⟨by decide +kernel, rfl⟩
theorem d_X8_best_95 : Dc m_X8_best 95 (.getfield 168) 3 98 := ⟨by decide +kernel, rfl⟩
theorem d_X8_best_98 : Dc m_X8_best 98 (.if_icmp .le 21) 3 101 := ⟨by decide +kernel, rfl⟩
theorem d_X8_best_101 : Dc m_X8_best 101 (.aload_n 0) 1 102 := ⟨by decide +kernel, rfl⟩
theorem d_X8_best_102 : Dc m_X8_best 102 (.aload_n 0) 1 103 := ⟨by decide +kernel, rfl⟩
theorem d_X8_best_103 : Dc m_X8_best 103 (.getfield 28) 3 106 := ⟨by decide +kernel, rfl⟩
theorem d_X8_best_106 : Dc m_X8_best 106 (.iconst 3) 1 107 := ⟨by decide +kernel, rfl⟩
theorem d_X8_best_107 : Dc m_X8_best 107 (.iaload) 1 108 := ⟨by decide +kernel, rfl⟩
theorem d_X8_best_108 : Dc m_X8_best 108 (.aload_n 0) 1 109 := ⟨by decide +kernel, rfl⟩
theorem d_X8_best_109 : Dc m_X8_best 109 (.getfield 22) 3 112 := ⟨by decide +kernel, rfl⟩
theorem d_X8_best_112 : Dc m_X8_best 112 (.iconst 3) 1 113 := ⟨by decide +kernel, rfl⟩
theorem d_X8_best_113 : Dc m_X8_best 113 (.iaload) 1 114 := ⟨by decide +kernel, rfl⟩
theorem d_X8_best_114 : Dc m_X8_best 114 (.isub) 1 115 := ⟨by decide +kernel, rfl⟩
theorem d_X8_best_115 : Dc m_X8_best 115 (.iload_n 2) 1 116 := ⟨by decide +kernel, rfl⟩
theorem d_X8_best_116 : Dc m_X8_best 116 (.invokevirtual 174) 3 119 := ⟨by decide +kernel, rfl⟩
theorem d_X8_best_119 : Dc m_X8_best 119 (.iinc 3 1) 3 122 := ⟨by decide +kernel, rfl⟩
theorem d_X8_best_122 : Dc m_X8_best 122 (.goto (-79)) 3 125 := ⟨by decide +kernel, rfl⟩
theorem d_X8_best_125 : Dc m_X8_best 125 (.iinc 2 1) 3 128 := ⟨by decide +kernel, rfl⟩
theorem d_X8_best_128 : Dc m_X8_best 128 (.goto (-97)) 3 131 := ⟨by decide +kernel, rfl⟩
theorem d_X8_best_131 : Dc m_X8_best 131 (.iload_n 1) 1 132 := ⟨by decide +kernel, rfl⟩
theorem d_X8_best_132 : Dc m_X8_best 132 (.iconst (-1)) 1 133 := ⟨by decide +kernel, rfl⟩
theorem d_X8_best_133 : Dc m_X8_best 133 (.if_icmp .ne 10) 3 136 := ⟨by decide +kernel, rfl⟩
theorem d_X8_best_136 : Dc m_X8_best 136 (.aload_n 0) 1 137 := ⟨by decide +kernel, rfl⟩
theorem d_X8_best_137 : Dc m_X8_best 137 (.getfield 168) 3 140 := ⟨by decide +kernel, rfl⟩
theorem d_X8_best_140 : Dc m_X8_best 140 (.goto 35) 3 143 := ⟨by decide +kernel, rfl⟩
theorem d_X8_best_143 : Dc m_X8_best 143 (.iload_n 1) 1 144 := ⟨by decide +kernel, rfl⟩
theorem d_X8_best_144 : Dc m_X8_best 144 (.bipush (-2)) 2 146 := ⟨by decide +kernel, rfl⟩
theorem d_X8_best_146 : Dc m_X8_best 146 (.if_icmp .ne 10) 3 149 := ⟨by decide +kernel, rfl⟩
theorem d_X8_best_149 : Dc m_X8_best 149 (.aload_n 0) 1 150 := ⟨by decide +kernel, rfl⟩
theorem d_X8_best_150 : Dc m_X8_best 150 (.getfield 171) 3 153 := ⟨by decide +kernel, rfl⟩
theorem d_X8_best_153 : Dc m_X8_best 153 (.goto 22) 3 156 := ⟨by decide +kernel, rfl⟩
theorem d_X8_best_156 : Dc m_X8_best 156 (.iload_n 1) 1 157 := ⟨by decide +kernel, rfl⟩
theorem d_X8_best_157 : Dc m_X8_best 157 (.aload_n 0) 1 158 := ⟨by decide +kernel, rfl⟩
theorem d_X8_best_158 : Dc m_X8_best 158 (.getfield 171) 3 161 := ⟨by decide +kernel, rfl⟩
theorem d_X8_best_161 : Dc m_X8_best 161 (.if_icmp .ge 12) 3 164 := ⟨by decide +kernel, rfl⟩
theorem d_X8_best_164 : Dc m_X8_best 164 (.aload_n 0) 1 165 := ⟨by decide +kernel, rfl⟩
theorem d_X8_best_165 : Dc m_X8_best 165 (.getfield 50) 3 168 := ⟨by decide +kernel, rfl⟩
theorem d_X8_best_168 : Dc m_X8_best 168 (.iload_n 1) 1 169 := ⟨by decide +kernel, rfl⟩
theorem d_X8_best_169 : Dc m_X8_best 169 (.iaload) 1 170 := ⟨by decide +kernel, rfl⟩
theorem d_X8_best_170 : Dc m_X8_best 170 (.goto 5) 3 173 := ⟨by decide +kernel, rfl⟩
theorem d_X8_best_173 : Dc m_X8_best 173 (.ldc 167) 2 175 := ⟨by decide +kernel, rfl⟩
theorem d_X8_best_175 : Dc m_X8_best 175 (.ireturn) 1 176 := ⟨by decide +kernel, rfl⟩
theorem d_X8_soonest_0 : Dc m_X8_soonest 0 (.aload_n 0) 1 1 := ⟨by decide +kernel, rfl⟩
theorem d_X8_soonest_1 : Dc m_X8_soonest 1 (.invokevirtual 164) 3 4 := ⟨by decide +kernel, rfl⟩
theorem d_X8_soonest_4 : Dc m_X8_soonest 4 (.ifCond .ne 6) 3 7 := ⟨by decide +kernel, rfl⟩
theorem d_X8_soonest_7 : Dc m_X8_soonest 7 (.ldc 157) 2 9 := ⟨by decide +kernel, rfl⟩
theorem d_X8_soonest_9 : Dc m_X8_soonest 9 (.ireturn) 1 10 := ⟨by decide +kernel, rfl⟩
theorem d_X8_soonest_10 : Dc m_X8_soonest 10 (.iload_n 1) 1 11 := ⟨by decide +kernel, rfl⟩
theorem d_X8_soonest_11 : Dc m_X8_soonest 11 (.iconst 0) 1 12 := ⟨by decide +kernel, rfl⟩
theorem d_X8_soonest_12 : Dc m_X8_soonest 12 (.iconst 1) 1 13 := ⟨by decide +kernel, rfl⟩
theorem d_X8_soonest_13 : Dc m_X8_soonest 13 (.aload_n 0) 1 14 := ⟨by decide +kernel, rfl⟩
theorem d_X8_soonest_14 : Dc m_X8_soonest 14 (.getfield 22) 3 17 := ⟨by decide +kernel, rfl⟩
theorem d_X8_soonest_17 : Dc m_X8_soonest 17 (.iconst 4) 1 18 := ⟨by decide +kernel, rfl⟩
theorem d_X8_soonest_18 : Dc m_X8_soonest 18 (.iaload) 1 19 := ⟨by decide +kernel, rfl⟩
theorem d_X8_soonest_19 : Dc m_X8_soonest 19 (.ishl) 1 20 := ⟨by decide +kernel, rfl⟩
theorem d_X8_soonest_20 : Dc m_X8_soonest 20 (.iconst 1) 1 21 := ⟨by decide +kernel, rfl⟩
theorem d_X8_soonest_21 : Dc m_X8_soonest 21 (.isub) 1 22 := ⟨by decide +kernel, rfl⟩
theorem d_X8_soonest_22 : Dc m_X8_soonest 22 (.invokestatic 59) 3 25 := ⟨by decide +kernel, rfl⟩
theorem d_X8_soonest_25 : Dc m_X8_soonest 25 (.ifCond .eq 12) 3 28 := ⟨by decide +kernel, rfl⟩
theorem d_X8_soonest_28 : Dc m_X8_soonest 28 (.iload_n 2) 1 29 := ⟨by decide +kernel, rfl⟩
theorem d_X8_soonest_29 : Dc m_X8_soonest 29 (.iconst (-1)) 1 30 := ⟨by decide +kernel, rfl⟩
theorem d_X8_soonest_30 : Dc m_X8_soonest 30 (.iconst 5) 1 31 := ⟨by decide +kernel, rfl⟩
theorem d_X8_soonest_31 : Dc m_X8_soonest 31 (.invokestatic 59) 3 34 := ⟨by decide +kernel, rfl⟩
theorem d_X8_soonest_34 : Dc m_X8_soonest 34 (.ifCond .ne 6) 3 37 := ⟨by decide +kernel, rfl⟩
theorem d_X8_soonest_37 : Dc m_X8_soonest 37 (.ldc 72) 2 39 := ⟨by decide +kernel, rfl⟩
theorem d_X8_soonest_39 : Dc m_X8_soonest 39 (.ireturn) 1 40 := ⟨by decide +kernel, rfl⟩
theorem d_X8_soonest_40 : Dc m_X8_soonest 40 (.iload_n 1) 1 41 := ⟨by decide +kernel, rfl⟩
theorem d_X8_soonest_41 : Dc m_X8_soonest 41 (.aload_n 0) 1 42 := ⟨by decide +kernel, rfl⟩
theorem d_X8_soonest_42 : Dc m_X8_soonest 42 (.getfield 22) 3 45 := ⟨by decide +kernel, rfl⟩
theorem d_X8_soonest_45 : Dc m_X8_soonest 45 (.iconst 2) 1 46 := ⟨by decide +kernel, rfl⟩
theorem d_X8_soonest_46 : Dc m_X8_soonest 46 (.iaload) 1 47 := ⟨by decide +kernel, rfl⟩
theorem d_X8_soonest_47 : Dc m_X8_soonest 47 (.iconst (-1)) 1 48 := ⟨by decide +kernel, rfl⟩
theorem d_X8_soonest_48 : Dc m_X8_soonest 48 (.ixor) 1 49 := ⟨by decide +kernel, rfl⟩
theorem d_X8_soonest_49 : Dc m_X8_soonest 49 (.iand) 1 50 := ⟨by decide +kernel, rfl⟩
theorem d_X8_soonest_50 : Dc m_X8_soonest 50 (.istore_n 3) 1 51 := ⟨by decide +kernel, rfl⟩
theorem d_X8_soonest_51 : Dc m_X8_soonest 51 (.iload_n 3) 1 52 := ⟨by decide +kernel, rfl⟩
theorem d_X8_soonest_52 : Dc m_X8_soonest 52 (.invokestatic 185) 3 55 := ⟨by decide +kernel, rfl⟩
theorem d_X8_soonest_55 : Dc m_X8_soonest 55 (.istore 4) 2 57 := ⟨by decide +kernel, rfl⟩
theorem d_X8_soonest_57 : Dc m_X8_soonest 57 (.sipush 9999) 3 60 := ⟨by decide +kernel, rfl⟩
theorem d_X8_soonest_60 : Dc m_X8_soonest 60 (.istore 5) 2 62 := ⟨by decide +kernel, rfl⟩
theorem d_X8_soonest_62 : Dc m_X8_soonest 62 (.iconst 0) 1 63 := ⟨by decide +kernel, rfl⟩
theorem d_X8_soonest_63 : Dc m_X8_soonest 63 (.istore 6) 2 65 := ⟨by decide +kernel, rfl⟩
theorem d_X8_soonest_65 : Dc m_X8_soonest 65 (.iload 6) 2 67 := ⟨by decide +kernel, rfl⟩
theorem d_X8_soonest_67 : Dc m_X8_soonest 67 (.aload_n 0) 1 68 := ⟨by decide +kernel, rfl⟩
theorem d_X8_soonest_68 : Dc m_X8_soonest 68 (.iload 4) 2 70 := ⟨by decide +kernel, rfl⟩
theorem d_X8_soonest_70 : Dc m_X8_soonest 70 (.invokevirtual 178) 3 73 := ⟨by decide +kernel, rfl⟩
theorem d_X8_soonest_73 : Dc m_X8_soonest 73 (.if_icmp .ge 64) 3 76 := ⟨by decide +kernel, rfl⟩
theorem d_X8_soonest_76 : Dc m_X8_soonest 76 (.aload_n 0) 1 77 := ⟨by decide +kernel, rfl⟩
theorem d_X8_soonest_77 : Dc m_X8_soonest 77 (.iload 6) 2 79 := ⟨by decide +kernel, rfl⟩
theorem d_X8_soonest_79 : Dc m_X8_soonest 79 (.iload 4) 2 81 := ⟨by decide +kernel, rfl⟩
theorem d_X8_soonest_81 : Dc m_X8_soonest 81 (.invokevirtual 181) 3 84 := ⟨by decide +kernel, rfl⟩
theorem d_X8_soonest_84 : Dc m_X8_soonest 84 (.iload_n 3) 1 85 := ⟨by decide +kernel, rfl⟩
theorem d_X8_soonest_85 : Dc m_X8_soonest 85 (.if_icmp .ne 46) 3 88 := ⟨by decide +kernel, rfl⟩
theorem d_X8_soonest_88 : Dc m_X8_soonest 88 (.aload_n 0) 1 89 := ⟨by decide +kernel, rfl⟩
theorem d_X8_soonest_89 : Dc m_X8_soonest 89 (.invokevirtual 188) 3 92 := ⟨by decide +kernel, rfl⟩
theorem d_X8_soonest_92 : Dc m_X8_soonest 92 (.aload_n 0) 1 93 := ⟨by decide +kernel, rfl⟩
theorem d_X8_soonest_93 : Dc m_X8_soonest 93 (.aload_n 0) 1 94 := ⟨by decide +kernel, rfl⟩
theorem d_X8_soonest_94 : Dc m_X8_soonest 94 (.getfield 47) 3 97 := ⟨by decide +kernel, rfl⟩
theorem d_X8_soonest_97 : Dc m_X8_soonest 97 (.iload 4) 2 99 := ⟨by decide +kernel, rfl⟩
theorem d_X8_soonest_99 : Dc m_X8_soonest 99 (.invokevirtual 191) 3 102 := ⟨by decide +kernel, rfl⟩
theorem d_X8_soonest_102 : Dc m_X8_soonest 102 (.ifCond .eq 29) 3 105 := ⟨by decide +kernel, rfl⟩
theorem d_X8_soonest_105 : Dc m_X8_soonest 105 (.aload_n 0) 1 106 := ⟨by decide +kernel, rfl⟩
theorem d_X8_soonest_106 : Dc m_X8_soonest 106 (.getfield 28) 3 109 := ⟨by decide +kernel, rfl⟩
theorem d_X8_soonest_109 : Dc m_X8_soonest 109 (.iconst 1) 1 110 := ⟨by decide +kernel, rfl⟩
theorem d_X8_soonest_110 : Dc m_X8_soonest 110 (.iaload) 1 111 := ⟨by decide +kernel, rfl⟩
theorem d_X8_soonest_111 : Dc m_X8_soonest 111 (.iload 5) 2 113 := ⟨by decide +kernel, rfl⟩
theorem d_X8_soonest_113 : Dc m_X8_soonest 113 (.if_icmp .ge 18) 3 116 := ⟨by decide +kernel, rfl⟩
theorem d_X8_soonest_116 : Dc m_X8_soonest 116 (.aload_n 0) 1 117 := ⟨by decide +kernel, rfl⟩
theorem d_X8_soonest_117 : Dc m_X8_soonest 117 (.getfield 28) 3 120 := ⟨by decide +kernel, rfl⟩
theorem d_X8_soonest_120 : Dc m_X8_soonest 120 (.iconst 1) 1 121 := ⟨by decide +kernel, rfl⟩
theorem d_X8_soonest_121 : Dc m_X8_soonest 121 (.iaload) 1 122 := ⟨by decide +kernel, rfl⟩
theorem d_X8_soonest_122 : Dc m_X8_soonest 122 (.istore 5) 2 124 := ⟨by decide +kernel, rfl⟩
theorem d_X8_soonest_124 : Dc m_X8_soonest 124 (.aload_n 0) 1 125 := ⟨by decide +kernel, rfl⟩
theorem d_X8_soonest_125 : Dc m_X8_soonest 125 (.iconst 0) 1 126 := ⟨by decide +kernel, rfl⟩
theorem d_X8_soonest_126 : Dc m_X8_soonest 126 (.iload 4) 2 128 := ⟨by decide +kernel, rfl⟩
theorem d_X8_soonest_128 : Dc m_X8_soonest 128 (.invokevirtual 174) 3 131 := ⟨by decide +kernel, rfl⟩
theorem d_X8_soonest_131 : Dc m_X8_soonest 131 (.iinc 6 1) 3 134 := ⟨by decide +kernel, rfl⟩
theorem d_X8_soonest_134 : Dc m_X8_soonest 134 (.goto (-69)) 3 137 := ⟨by decide +kernel, rfl⟩
theorem d_X8_soonest_137 : Dc m_X8_soonest 137 (.iload 5) 2 139 := ⟨by decide +kernel, rfl⟩
theorem d_X8_soonest_139 : Dc m_X8_soonest 139 (.sipush 9999) 3 142 := ⟨by decide +kernel, rfl⟩
theorem d_X8_soonest_142 : Dc m_X8_soonest 142 (.if_icmp .ne 6) 3 145 := ⟨by decide +kernel, rfl⟩
theorem d_X8_soonest_145 : Dc m_X8_soonest 145 (.ldc 167) 2 147 := ⟨by decide +kernel, rfl⟩
theorem d_X8_soonest_147 : Dc m_X8_soonest 147 (.ireturn) 1 148 := ⟨by decide +kernel, rfl⟩
theorem d_X8_soonest_148 : Dc m_X8_soonest 148 (.iload_n 2) 1 149 := ⟨by decide +kernel, rfl⟩
theorem d_X8_soonest_149 : Dc m_X8_soonest 149 (.iconst (-1)) 1 150 := ⟨by decide +kernel, rfl⟩
theorem d_X8_soonest_150 : Dc m_X8_soonest 150 (.if_icmp .ne 8) 3 153 := ⟨by decide +kernel, rfl⟩
theorem d_X8_soonest_153 : Dc m_X8_soonest 153 (.iload 5) 2 155 := ⟨by decide +kernel, rfl⟩
theorem d_X8_soonest_155 : Dc m_X8_soonest 155 (.goto 20) 3 158 := ⟨by decide +kernel, rfl⟩
theorem d_X8_soonest_158 : Dc m_X8_soonest 158 (.iload_n 2) 1 159 := ⟨by decide +kernel, rfl⟩
theorem d_X8_soonest_159 : Dc m_X8_soonest 159 (.iload 4) 2 161 := ⟨by decide +kernel, rfl⟩
theorem d_X8_soonest_161 : Dc m_X8_soonest 161 (.if_icmp .ge 12) 3 164 := ⟨by decide +kernel, rfl⟩
theorem d_X8_soonest_164 : Dc m_X8_soonest 164 (.aload_n 0) 1 165 := ⟨by decide +kernel, rfl⟩
theorem d_X8_soonest_165 : Dc m_X8_soonest 165 (.getfield 50) 3 168 := ⟨by decide +kernel, rfl⟩
theorem d_X8_soonest_168 : Dc m_X8_soonest 168 (.iload_n 2) 1 169 := ⟨by decide +kernel, rfl⟩
theorem d_X8_soonest_169 : Dc m_X8_soonest 169 (.iaload) 1 170 := ⟨by decide +kernel, rfl⟩
theorem d_X8_soonest_170 : Dc m_X8_soonest 170 (.goto 5) 3 173 := ⟨by decide +kernel, rfl⟩
theorem d_X8_soonest_173 : Dc m_X8_soonest 173 (.ldc 167) 2 175 := ⟨by decide +kernel, rfl⟩
theorem d_X8_soonest_175 : Dc m_X8_soonest 175 (.ireturn) 1 176 := ⟨by decide +kernel, rfl⟩
theorem d_X8_laySets_0 : Dc m_X8_laySets 0 (.iconst 0) 1 1 := ⟨by decide +kernel, rfl⟩
theorem d_X8_laySets_1 : Dc m_X8_laySets 1 (.istore_n 1) 1 2 := ⟨by decide +kernel, rfl⟩
theorem d_X8_laySets_2 : Dc m_X8_laySets 2 (.iload_n 1) 1 3 := ⟨by decide +kernel, rfl⟩
theorem d_X8_laySets_3 : Dc m_X8_laySets 3 (.iconst 1) 1 4 := ⟨by decide +kernel, rfl⟩
theorem d_X8_laySets_4 : Dc m_X8_laySets 4 (.aload_n 0) 1 5 := ⟨by decide +kernel, rfl⟩
theorem d_X8_laySets_5 : Dc m_X8_laySets 5 (.getfield 22) 3 8 := ⟨by decide +kernel, rfl⟩
theorem d_X8_laySets_8 : Dc m_X8_laySets 8 (.iconst 4) 1 9 := ⟨by decide +kernel, rfl⟩
theorem d_X8_laySets_9 : Dc m_X8_laySets 9 (.iaload) 1 10 := ⟨by decide +kernel, rfl⟩
theorem d_X8_laySets_10 : Dc m_X8_laySets 10 (.ishl) 1 11 := ⟨by decide +kernel, rfl⟩
theorem d_X8_laySets_11 : Dc m_X8_laySets 11 (.if_icmp .ge 145) 3 14 := ⟨by decide +kernel, rfl⟩
theorem d_X8_laySets_14 : Dc m_X8_laySets 14 (.iload_n 1) 1 15 := ⟨by decide +kernel, rfl⟩
theorem d_X8_laySets_15 : Dc m_X8_laySets 15 (.invokestatic 185) 3 18 := ⟨by decide +kernel, rfl⟩
theorem d_X8_laySets_18 : Dc m_X8_laySets 18 (.istore_n 2) 1 19 := ⟨by decide +kernel, rfl⟩
theorem d_X8_laySets_19 : Dc m_X8_laySets 19 (.aload_n 0) 1 20 := ⟨by decide +kernel, rfl⟩
theorem d_X8_laySets_20 : Dc m_X8_laySets 20 (.getfield 53) 3 23 := ⟨by decide +kernel, rfl⟩
theorem d_X8_laySets_23 : Dc m_X8_laySets 23 (.iload_n 1) 1 24 := ⟨by decide +kernel, rfl⟩
theorem d_X8_laySets_24 : Dc m_X8_laySets 24 (.iload_n 1) 1 25 := ⟨by decide +kernel, rfl⟩
theorem d_X8_laySets_25 : Dc m_X8_laySets 25 (.ifCond .ne 7) 3 28 := ⟨by decide +kernel, rfl⟩
theorem d_X8_laySets_28 : Dc m_X8_laySets 28 (.iconst 0) 1 29 := ⟨by decide +kernel, rfl⟩
theorem d_X8_laySets_29 : Dc m_X8_laySets 29 (.goto 4) 3 32 := ⟨by decide +kernel, rfl⟩
theorem d_X8_laySets_32 : Dc m_X8_laySets 32 (.iconst (-1)) 1 33 := ⟨by decide +kernel, rfl⟩
theorem d_X8_laySets_33 : Dc m_X8_laySets 33 (.iastore) 1 34 := ⟨by decide +kernel, rfl⟩
theorem d_X8_laySets_34 : Dc m_X8_laySets 34 (.iconst 0) 1 35 := ⟨by decide +kernel, rfl⟩
theorem d_X8_laySets_35 : Dc m_X8_laySets 35 (.istore_n 3) 1 36 := ⟨by decide +kernel, rfl⟩
theorem d_X8_laySets_36 : Dc m_X8_laySets 36 (.iload_n 3) 1 37 := ⟨by decide +kernel, rfl⟩
theorem d_X8_laySets_37 : Dc m_X8_laySets 37 (.aload_n 0) 1 38 := ⟨by decide +kernel, rfl⟩
theorem d_X8_laySets_38 : Dc m_X8_laySets 38 (.iload_n 2) 1 39 := ⟨by decide +kernel, rfl⟩
theorem d_X8_laySets_39 : Dc m_X8_laySets 39 (.invokevirtual 178) 3 42 := ⟨by decide +kernel, rfl⟩
theorem d_X8_laySets_42 : Dc m_X8_laySets 42 (.if_icmp .ge 108) 3 45 := ⟨by decide +kernel, rfl⟩
theorem d_X8_laySets_45 : Dc m_X8_laySets 45 (.iload_n 2) 1 46 := ⟨by decide +kernel, rfl⟩
theorem d_X8_laySets_46 : Dc m_X8_laySets 46 (.ifCond .le 104) 3 49 := ⟨by decide +kernel, rfl⟩
theorem d_X8_laySets_49 : Dc m_X8_laySets 49 (.aload_n 0) 1 50 := ⟨by decide +kernel, rfl⟩
theorem d_X8_laySets_50 : Dc m_X8_laySets 50 (.iload_n 3) 1 51 := ⟨by decide +kernel, rfl⟩
theorem d_X8_laySets_51 : Dc m_X8_laySets 51 (.iload_n 2) 1 52 := ⟨by decide +kernel, rfl⟩
theorem d_X8_laySets_52 : Dc m_X8_laySets 52 (.invokevirtual 181) 3 55 := ⟨by decide +kernel, rfl⟩
theorem d_X8_laySets_55 : Dc m_X8_laySets 55 (.iload_n 1) 1 56 := ⟨by decide +kernel, rfl⟩
theorem d_X8_laySets_56 : Dc m_X8_laySets 56 (.if_icmp .ne 88) 3 59 := ⟨by decide +kernel, rfl⟩
theorem d_X8_laySets_59 : Dc m_X8_laySets 59 (.aload_n 0) 1 60 := ⟨by decide +kernel, rfl⟩
theorem d_X8_laySets_60 : Dc m_X8_laySets 60 (.invokevirtual 188) 3 63 := ⟨by decide +kernel, rfl⟩
theorem d_X8_laySets_63 : Dc m_X8_laySets 63 (.aload_n 0) 1 64 := ⟨by decide +kernel, rfl⟩
theorem d_X8_laySets_64 : Dc m_X8_laySets 64 (.getfield 28) 3 67 := ⟨by decide +kernel, rfl⟩
theorem d_X8_laySets_67 : Dc m_X8_laySets 67 (.iconst 0) 1 68 := ⟨by decide +kernel, rfl⟩
theorem d_X8_laySets_68 : Dc m_X8_laySets 68 (.aload_n 0) 1 69 := ⟨by decide +kernel, rfl⟩
theorem d_X8_laySets_69 : Dc m_X8_laySets 69 (.getfield 28) 3 72 := ⟨by decide +kernel, rfl⟩
theorem d_X8_laySets_72 : Dc m_X8_laySets 72 (.iconst 5) 1 73 := ⟨by decide +kernel, rfl⟩
theorem d_X8_laySets_73 : Dc m_X8_laySets 73 (.iaload) 1 74 := ⟨by decide +kernel, rfl⟩
theorem d_X8_laySets_74 : Dc m_X8_laySets 74 (.iastore) 1 75 := ⟨by decide +kernel, rfl⟩
theorem d_X8_laySets_75 : Dc m_X8_laySets 75 (.aload_n 0) 1 76 := ⟨by decide +kernel, rfl⟩
theorem d_X8_laySets_76 : Dc m_X8_laySets 76 (.getfield 28) 3 79 := ⟨by decide +kernel, rfl⟩
theorem d_X8_laySets_79 : Dc m_X8_laySets 79 (.iconst 1) 1 80 := ⟨by decide +kernel, rfl⟩
theorem d_X8_laySets_80 : Dc m_X8_laySets 80 (.iconst 0) 1 81 := ⟨by decide +kernel, rfl⟩
theorem d_X8_laySets_81 : Dc m_X8_laySets 81 (.iastore) 1 82 := ⟨by decide +kernel, rfl⟩
theorem d_X8_laySets_82 : Dc m_X8_laySets 82 (.aload_n 0) 1 83 := ⟨by decide +kernel, rfl⟩
theorem d_X8_laySets_83 : Dc m_X8_laySets 83 (.getfield 28) 3 86 := ⟨by decide +kernel, rfl⟩
theorem d_X8_laySets_86 : Dc m_X8_laySets 86 (.iconst 2) 1 87 := ⟨by decide +kernel, rfl⟩
theorem d_X8_laySets_87 : Dc m_X8_laySets 87 (.iconst 0) 1 88 := ⟨by decide +kernel, rfl⟩
theorem d_X8_laySets_88 : Dc m_X8_laySets 88 (.iastore) 1 89 := ⟨by decide +kernel, rfl⟩
theorem d_X8_laySets_89 : Dc m_X8_laySets 89 (.aload_n 0) 1 90 := ⟨by decide +kernel, rfl⟩
theorem d_X8_laySets_90 : Dc m_X8_laySets 90 (.getfield 28) 3 93 := ⟨by decide +kernel, rfl⟩
theorem d_X8_laySets_93 : Dc m_X8_laySets 93 (.iconst 3) 1 94 := ⟨by decide +kernel, rfl⟩
theorem d_X8_laySets_94 : Dc m_X8_laySets 94 (.iconst 0) 1 95 := ⟨by decide +kernel, rfl⟩
theorem d_X8_laySets_95 : Dc m_X8_laySets 95 (.iastore) 1 96 := ⟨by decide +kernel, rfl⟩
theorem d_X8_laySets_96 : Dc m_X8_laySets 96 (.aload_n 0) 1 97 := ⟨by decide +kernel, rfl⟩
theorem d_X8_laySets_97 : Dc m_X8_laySets 97 (.getfield 53) 3 100 := ⟨by decide +kernel, rfl⟩
theorem d_X8_laySets_100 : Dc m_X8_laySets 100 (.iload_n 1) 1 101 := ⟨by decide +kernel, rfl⟩
theorem d_X8_laySets_101 : Dc m_X8_laySets 101 (.aload_n 0) 1 102 := ⟨by decide +kernel, rfl⟩
theorem d_X8_laySets_102 : Dc m_X8_laySets 102 (.aload_n 0) 1 103 := ⟨by decide +kernel, rfl⟩
theorem d_X8_laySets_103 : Dc m_X8_laySets 103 (.getfield 47) 3 106 := ⟨by decide +kernel, rfl⟩
theorem d_X8_laySets_106 : Dc m_X8_laySets 106 (.iload_n 2) 1 107 := ⟨by decide +kernel, rfl⟩
theorem d_X8_laySets_107 : Dc m_X8_laySets 107 (.invokevirtual 191) 3 110 := ⟨by decide +kernel, rfl⟩
theorem d_X8_laySets_110 : Dc m_X8_laySets 110 (.ifCond .eq 27) 3 113 := ⟨by decide +kernel, rfl⟩
theorem d_X8_laySets_113 : Dc m_X8_laySets 113 (.aload_n 0) 1 114 := ⟨by decide +kernel, rfl⟩
theorem d_X8_laySets_114 : Dc m_X8_laySets 114 (.getfield 28) 3 117 := ⟨by decide +kernel, rfl⟩
theorem d_X8_laySets_117 : Dc m_X8_laySets 117 (.iconst 3) 1 118 := ⟨by decide +kernel, rfl⟩
theorem d_X8_laySets_118 : Dc m_X8_laySets 118 (.iaload) 1 119 := ⟨by decide +kernel, rfl⟩
theorem d_X8_laySets_119 : Dc m_X8_laySets 119 (.aload_n 0) 1 120 := ⟨by decide +kernel, rfl⟩
theorem d_X8_laySets_120 : Dc m_X8_laySets 120 (.getfield 53) 3 123 := ⟨by decide +kernel, rfl⟩
theorem d_X8_laySets_123 : Dc m_X8_laySets 123 (.iload_n 1) 1 124 := ⟨by decide +kernel, rfl⟩
theorem d_X8_laySets_124 : Dc m_X8_laySets 124 (.iaload) 1 125 := ⟨by decide +kernel, rfl⟩
theorem d_X8_laySets_125 : Dc m_X8_laySets 125 (.if_icmp .le 12) 3 128 := ⟨by decide +kernel, rfl⟩
theorem d_X8_laySets_128 : Dc m_X8_laySets 128 (.aload_n 0) 1 129 := ⟨by decide +kernel, rfl⟩
theorem d_X8_laySets_129 : Dc m_X8_laySets 129 (.getfield 28) 3 132 := ⟨by decide +kernel, rfl⟩
theorem d_X8_laySets_132 : Dc m_X8_laySets 132 (.iconst 3) 1 133 := ⟨by decide +kernel, rfl⟩
theorem d_X8_laySets_133 : Dc m_X8_laySets 133 (.iaload) 1 134 := ⟨by decide +kernel, rfl⟩
theorem d_X8_laySets_134 : Dc m_X8_laySets 134 (.goto 9) 3 137 := ⟨by decide +kernel, rfl⟩
theorem d_X8_laySets_137 : Dc m_X8_laySets 137 (.aload_n 0) 1 138 := ⟨by decide +kernel, rfl⟩
theorem d_X8_laySets_138 : Dc m_X8_laySets 138 (.getfield 53) 3 141 := ⟨by decide +kernel, rfl⟩
theorem d_X8_laySets_141 : Dc m_X8_laySets 141 (.iload_n 1) 1 142 := ⟨by decide +kernel, rfl⟩
theorem d_X8_laySets_142 : Dc m_X8_laySets 142 (.iaload) 1 143 := ⟨by decide +kernel, rfl⟩
theorem d_X8_laySets_143 : Dc m_X8_laySets 143 (.iastore) 1 144 := ⟨by decide +kernel, rfl⟩
theorem d_X8_laySets_144 : Dc m_X8_laySets 144 (.iinc 3 1) 3 147 := ⟨by decide +kernel, rfl⟩
theorem d_X8_laySets_147 : Dc m_X8_laySets 147 (.goto (-111)) 3 150 := ⟨by decide +kernel, rfl⟩
theorem d_X8_laySets_150 : Dc m_X8_laySets 150 (.iinc 1 1) 3 153 := ⟨by decide +kernel, rfl⟩
theorem d_X8_laySets_153 : Dc m_X8_laySets 153 (.goto (-151)) 3 156 := ⟨by decide +kernel, rfl⟩
theorem d_X8_laySets_156 : Dc m_X8_laySets 156 (.return_) 1 157 := ⟨by decide +kernel, rfl⟩
theorem d_X8_copies_0 : Dc m_X8_copies 0 (.aload_n 0) 1 1 := ⟨by decide +kernel, rfl⟩
theorem d_X8_copies_1 : Dc m_X8_copies 1 (.invokevirtual 164) 3 4 := ⟨by decide +kernel, rfl⟩
theorem d_X8_copies_4 : Dc m_X8_copies 4 (.ifCond .ne 6) 3 7 := ⟨by decide +kernel, rfl⟩
theorem d_X8_copies_7 : Dc m_X8_copies 7 (.ldc 157) 2 9 := ⟨by decide +kernel, rfl⟩
theorem d_X8_copies_9 : Dc m_X8_copies 9 (.ireturn) 1 10 := ⟨by decide +kernel, rfl⟩
theorem d_X8_copies_10 : Dc m_X8_copies 10 (.iload_n 1) 1 11 := ⟨by decide +kernel, rfl⟩
theorem d_X8_copies_11 : Dc m_X8_copies 11 (.iconst 1) 1 12 := ⟨by decide +kernel, rfl⟩
theorem d_X8_copies_12 : Dc m_X8_copies 12 (.iconst 3) 1 13 := ⟨by decide +kernel, rfl⟩
theorem d_X8_copies_13 : Dc m_X8_copies 13 (.invokestatic 59) 3 16 := ⟨by decide +kernel, rfl⟩
theorem d_X8_copies_16 : Dc m_X8_copies 16 (.ifCond .eq 12) 3 19 := ⟨by decide +kernel, rfl⟩
theorem d_X8_copies_19 : Dc m_X8_copies 19 (.iload_n 2) 1 20 := ⟨by decide +kernel, rfl⟩
theorem d_X8_copies_20 : Dc m_X8_copies 20 (.iconst (-1)) 1 21 := ⟨by decide +kernel, rfl⟩
theorem d_X8_copies_21 : Dc m_X8_copies 21 (.iconst 5) 1 22 := ⟨by decide +kernel, rfl⟩
theorem d_X8_copies_22 : Dc m_X8_copies 22 (.invokestatic 59) 3 25 := ⟨by decide +kernel, rfl⟩
theorem d_X8_copies_25 : Dc m_X8_copies 25 (.ifCond .ne 6) 3 28 := ⟨by decide +kernel, rfl⟩
theorem d_X8_copies_28 : Dc m_X8_copies 28 (.ldc 72) 2 30 := ⟨by decide +kernel, rfl⟩
theorem d_X8_copies_30 : Dc m_X8_copies 30 (.ireturn) 1 31 := ⟨by decide +kernel, rfl⟩
theorem d_X8_copies_31 : Dc m_X8_copies 31 (.aload_n 0) 1 32 := ⟨by decide +kernel, rfl⟩
theorem d_X8_copies_32 : Dc m_X8_copies 32 (.invokevirtual 194) 3 35 := ⟨by decide +kernel, rfl⟩
theorem d_X8_copies_35 : Dc m_X8_copies 35 (.aload_n 0) 1 36 := ⟨by decide +kernel, rfl⟩
theorem d_X8_copies_36 : Dc m_X8_copies 36 (.getfield 22) 3 39 := ⟨by decide +kernel, rfl⟩
theorem d_X8_copies_39 : Dc m_X8_copies 39 (.iconst 4) 1 40 := ⟨by decide +kernel, rfl⟩
theorem d_X8_copies_40 : Dc m_X8_copies 40 (.iaload) 1 41 := ⟨by decide +kernel, rfl⟩
theorem d_X8_copies_41 : Dc m_X8_copies 41 (.istore_n 3) 1 42 := ⟨by decide +kernel, rfl⟩
theorem d_X8_copies_42 : Dc m_X8_copies 42 (.iconst 1) 1 43 := ⟨by decide +kernel, rfl⟩
theorem d_X8_copies_43 : Dc m_X8_copies 43 (.istore 4) 2 45 := ⟨by decide +kernel, rfl⟩
theorem d_X8_copies_45 : Dc m_X8_copies 45 (.iconst 0) 1 46 := ⟨by decide +kernel, rfl⟩
theorem d_X8_copies_46 : Dc m_X8_copies 46 (.istore 5) 2 48 := ⟨by decide +kernel, rfl⟩
theorem d_X8_copies_48 : Dc m_X8_copies 48 (.iload 5) 2 50 := ⟨by decide +kernel, rfl⟩
theorem d_X8_copies_50 : Dc m_X8_copies 50 (.iload_n 3) 1 51 := ⟨by decide +kernel, rfl⟩
theorem d_X8_copies_51 : Dc m_X8_copies 51 (.if_icmp .ge 17) 3 54 := ⟨by decide +kernel, rfl⟩
theorem d_X8_copies_54 : Dc m_X8_copies 54 (.iload 4) 2 56 := ⟨by decide +kernel, rfl⟩
theorem d_X8_copies_56 : Dc m_X8_copies 56 (.iload_n 1) 1 57 := ⟨by decide +kernel, rfl⟩
theorem d_X8_copies_57 : Dc m_X8_copies 57 (.iconst 1) 1 58 := ⟨by decide +kernel, rfl⟩
theorem d_X8_copies_58 : Dc m_X8_copies 58 (.iadd) 1 59 := ⟨by decide +kernel, rfl⟩
theorem d_X8_copies_59 : Dc m_X8_copies 59 (.imul) 1 60 := ⟨by decide +kernel, rfl⟩
theorem d_X8_copies_60 : Dc m_X8_copies 60 (.istore 4) 2 62 := ⟨by decide +kernel, rfl⟩
theorem d_X8_copies_62 : Dc m_X8_copies 62 (.iinc 5 1) 3 65 := ⟨by decide +kernel, rfl⟩
theorem d_X8_copies_65 : Dc m_X8_copies 65 (.goto (-17)) 3 68 := ⟨by decide +kernel, rfl⟩
theorem d_X8_copies_68 : Dc m_X8_copies 68 (.iconst (-1)) 1 69 := ⟨by decide +kernel, rfl⟩
theorem d_X8_copies_69 : Dc m_X8_copies 69 (.istore 5) 2 71 := ⟨by decide +kernel, rfl⟩
theorem d_X8_copies_71 : Dc m_X8_copies 71 (.iconst (-1)) 1 72 := ⟨by decide +kernel, rfl⟩
theorem d_X8_copies_72 : Dc m_X8_copies 72 (.istore 6) 2 74 := ⟨by decide +kernel, rfl⟩
theorem d_X8_copies_74 : Dc m_X8_copies 74 (.iconst 0) 1 75 := ⟨by decide +kernel, rfl⟩
theorem d_X8_copies_75 : Dc m_X8_copies 75 (.istore 7) 2 77 := ⟨by decide +kernel, rfl⟩
theorem d_X8_copies_77 : Dc m_X8_copies 77 (.iload 7) 2 79 := ⟨by decide +kernel, rfl⟩
theorem d_X8_copies_79 : Dc m_X8_copies 79 (.iload 4) 2 81 := ⟨by decide +kernel, rfl⟩
theorem d_X8_copies_81 : Dc m_X8_copies 81 (.if_icmp .ge 50) 3 84 := ⟨by decide +kernel, rfl⟩
theorem d_X8_copies_84 : Dc m_X8_copies 84 (.aload_n 0) 1 85 := ⟨by decide +kernel, rfl⟩
theorem d_X8_copies_85 : Dc m_X8_copies 85 (.iload 7) 2 87 := ⟨by decide +kernel, rfl⟩
theorem d_X8_copies_87 : Dc m_X8_copies 87 (.iload_n 1) 1 88 := ⟨by decide +kernel, rfl⟩
theorem d_X8_copies_88 : Dc m_X8_copies 88 (.invokevirtual 197) 3 91 := ⟨by decide +kernel, rfl⟩
theorem d_X8_copies_91 : Dc m_X8_copies 91 (.istore 8) 2 93 := ⟨by decide +kernel, rfl⟩
theorem d_X8_copies_93 : Dc m_X8_copies 93 (.iload 8) 2 95 := ⟨by decide +kernel, rfl⟩
theorem d_X8_copies_95 : Dc m_X8_copies 95 (.iload 6) 2 97 := ⟨by decide +kernel, rfl⟩
theorem d_X8_copies_97 : Dc m_X8_copies 97 (.if_icmp .le 8) 3 100 := ⟨by decide +kernel, rfl⟩
theorem d_X8_copies_100 : Dc m_X8_copies 100 (.iload 7) 2 102 := ⟨by decide +kernel, rfl⟩
theorem d_X8_copies_102 : Dc m_X8_copies 102 (.goto 5) 3 105 := ⟨by decide +kernel, rfl⟩
theorem d_X8_copies_105 : Dc m_X8_copies 105 (.iload 5) 2 107 := ⟨by decide +kernel, rfl⟩
theorem d_X8_copies_107 : Dc m_X8_copies 107 (.istore 5) 2 109 := ⟨by decide +kernel, rfl⟩
theorem d_X8_copies_109 : Dc m_X8_copies 109 (.iload 8) 2 111 := ⟨by decide +kernel, rfl⟩
theorem d_X8_copies_111 : Dc m_X8_copies 111 (.iload 6) 2 113 := ⟨by decide +kernel, rfl⟩
theorem d_X8_copies_113 : Dc m_X8_copies 113 (.if_icmp .le 8) 3 116 := ⟨by decide +kernel, rfl⟩
theorem d_X8_copies_116 : Dc m_X8_copies 116 (.iload 8) 2 118 := ⟨by decide +kernel, rfl⟩
theorem d_X8_copies_118 : Dc m_X8_copies 118 (.goto 5) 3 121 := ⟨by decide +kernel, rfl⟩
theorem d_X8_copies_121 : Dc m_X8_copies 121 (.iload 6) 2 123 := ⟨by decide +kernel, rfl⟩
theorem d_X8_copies_123 : Dc m_X8_copies 123 (.istore 6) 2 125 := ⟨by decide +kernel, rfl⟩
theorem d_X8_copies_125 : Dc m_X8_copies 125 (.iinc 7 1) 3 128 := ⟨by decide +kernel, rfl⟩
theorem d_X8_copies_128 : Dc m_X8_copies 128 (.goto (-51)) 3 131 := ⟨by decide +kernel, rfl⟩
theorem d_X8_copies_131 : Dc m_X8_copies 131 (.iload_n 2) 1 132 := ⟨by decide +kernel, rfl⟩
theorem d_X8_copies_132 : Dc m_X8_copies 132 (.iconst (-1)) 1 133 := ⟨by decide +kernel, rfl⟩
theorem d_X8_copies_133 : Dc m_X8_copies 133 (.if_icmp .ne 20) 3 136 := ⟨by decide +kernel, rfl⟩
theorem d_X8_copies_136 : Dc m_X8_copies 136 (.sipush 1000) 3 139 := ⟨by decide +kernel, rfl⟩
theorem d_X8_copies_139 : Dc m_X8_copies 139 (.iload 6) 2 141 := ⟨by decide +kernel, rfl⟩
theorem d_X8_copies_141 : Dc m_X8_copies 141 (.iadd) 1 142 := ⟨by decide +kernel, rfl⟩
theorem d_X8_copies_142 : Dc m_X8_copies 142 (.iload_n 1) 1 143 := ⟨by decide +kernel, rfl⟩
theorem d_X8_copies_143 : Dc m_X8_copies 143 (.aload_n 0) 1 144 := ⟨by decide +kernel, rfl⟩
theorem d_X8_copies_144 : Dc m_X8_copies 144 (.getfield 22) 3 147 := ⟨by decide +kernel, rfl⟩
theorem d_X8_copies_147 : Dc m_X8_copies 147 (.bipush 6) 2 149 := ⟨by decide +kernel, rfl⟩
theorem d_X8_copies_149 : Dc m_X8_copies 149 (.iaload) 1 150 := ⟨by decide +kernel, rfl⟩
theorem d_X8_copies_150 : Dc m_X8_copies 150 (.imul) 1 151 := ⟨by decide +kernel, rfl⟩
theorem d_X8_copies_151 : Dc m_X8_copies 151 (.isub) 1 152 := ⟨by decide +kernel, rfl⟩
theorem d_X8_copies_152 : Dc m_X8_copies 152 (.ireturn) 1 153 := ⟨by decide +kernel, rfl⟩
theorem d_X8_copies_153 : Dc m_X8_copies 153 (.aload_n 0) 1 154 := ⟨by decide +kernel, rfl⟩
theorem d_X8_copies_154 : Dc m_X8_copies 154 (.iload 5) 2 156 := ⟨by decide +kernel, rfl⟩
theorem d_X8_copies_156 : Dc m_X8_copies 156 (.iload_n 1) 1 157 := ⟨by decide +kernel, rfl⟩
theorem d_X8_copies_157 : Dc m_X8_copies 157 (.invokevirtual 197) 3 160 := ⟨by decide +kernel, rfl⟩
theorem d_X8_copies_160 : Dc m_X8_copies 160 (.pop) 1 161 := ⟨by decide +kernel, rfl⟩
theorem d_X8_copies_161 : Dc m_X8_copies 161 (.iload_n 2) 1 162 := ⟨by decide +kernel, rfl⟩
theorem d_X8_copies_162 : Dc m_X8_copies 162 (.iload_n 3) 1 163 := ⟨by decide +kernel, rfl⟩
theorem d_X8_copies_163 : Dc m_X8_copies 163 (.if_icmp .ge 12) 3 166 := ⟨by decide +kernel, rfl⟩
theorem d_X8_copies_166 : Dc m_X8_copies 166 (.aload_n 0) 1 167 := ⟨by decide +kernel, rfl⟩
theorem d_X8_copies_167 : Dc m_X8_copies 167 (.getfield 56) 3 170 := ⟨by decide +kernel, rfl⟩
theorem d_X8_copies_170 : Dc m_X8_copies 170 (.iload_n 2) 1 171 := ⟨by decide +kernel, rfl⟩
theorem d_X8_copies_171 : Dc m_X8_copies 171 (.iaload) 1 172 := ⟨by decide +kernel, rfl⟩
theorem d_X8_copies_172 : Dc m_X8_copies 172 (.goto 5) 3 175 := ⟨by decide +kernel, rfl⟩
theorem d_X8_copies_175 : Dc m_X8_copies 175 (.ldc 167) 2 177 := ⟨by decide +kernel, rfl⟩
theorem d_X8_copies_177 : Dc m_X8_copies 177 (.ireturn) 1 178 := ⟨by decide +kernel, rfl⟩
theorem d_X8_earnedBy_0 : Dc m_X8_earnedBy 0 (.iload_n 1) 1 1 := ⟨by decide +kernel, rfl⟩
theorem d_X8_earnedBy_1 : Dc m_X8_earnedBy 1 (.istore_n 3) 1 2 := ⟨by decide +kernel, rfl⟩
theorem d_X8_earnedBy_2 : Dc m_X8_earnedBy 2 (.aload_n 0) 1 3 := ⟨by decide +kernel, rfl⟩
theorem d_X8_earnedBy_3 : Dc m_X8_earnedBy 3 (.getfield 22) 3 6 := ⟨by decide +kernel, rfl⟩
theorem d_X8_earnedBy_6 : Dc m_X8_earnedBy 6 (.iconst 4) 1 7 := ⟨by decide +kernel, rfl⟩
theorem d_X8_earnedBy_7 : Dc m_X8_earnedBy 7 (.iaload) 1 8 := ⟨by decide +kernel, rfl⟩
theorem d_X8_earnedBy_8 : Dc m_X8_earnedBy 8 (.iconst 1) 1 9 := ⟨by decide +kernel, rfl⟩
theorem d_X8_earnedBy_9 : Dc m_X8_earnedBy 9 (.isub) 1 10 := ⟨by decide +kernel, rfl⟩
theorem d_X8_earnedBy_10 : Dc m_X8_earnedBy 10 (.istore 4) 2 12 := ⟨by decide +kernel, rfl⟩
theorem d_X8_earnedBy_12 : Dc m_X8_earnedBy 12 (.iload 4) 2 14 := ⟨by decide +kernel, rfl⟩
theorem d_X8_earnedBy_14 : Dc m_X8_earnedBy 14 (.ifCond .lt 56) 3 17 := ⟨by decide +kernel, rfl⟩
theorem d_X8_earnedBy_17 : Dc m_X8_earnedBy 17 (.aload_n 0) 1 18 := ⟨by decide +kernel, rfl⟩
theorem d_X8_earnedBy_18 : Dc m_X8_earnedBy 18 (.getfield 56) 3 21 := ⟨by decide +kernel, rfl⟩
theorem d_X8_earnedBy_21 : Dc m_X8_earnedBy 21 (.iload 4) 2 23 := ⟨by decide +kernel, rfl⟩
theorem d_X8_earnedBy_23 : Dc m_X8_earnedBy 23 (.iload_n 3) 1 24 := ⟨by decide +kernel, rfl⟩
theorem d_X8_earnedBy_24 : Dc m_X8_earnedBy 24 (.iload_n 2) 1 25 := ⟨by decide +kernel, rfl⟩
theorem d_X8_earnedBy_25 : Dc m_X8_earnedBy 25 (.iconst 1) 1 26 := ⟨by decide +kernel, rfl⟩
theorem d_X8_earnedBy_26 : Dc m_X8_earnedBy 26 (.iadd) 1 27 := ⟨by decide +kernel, rfl⟩
theorem d_X8_earnedBy_27 : Dc m_X8_earnedBy 27 (.irem) 1 28 := ⟨by decide +kernel, rfl⟩
theorem d_X8_earnedBy_28 : Dc m_X8_earnedBy 28 (.iastore) 1 29 := ⟨by decide +kernel, rfl⟩
theorem d_X8_earnedBy_29 : Dc m_X8_earnedBy 29 (.aload_n 0) 1 30 := ⟨by decide +kernel, rfl⟩
theorem d_X8_earnedBy_30 : Dc m_X8_earnedBy 30 (.getfield 56) 3 33 := ⟨by decide +kernel, rfl⟩
theorem d_X8_earnedBy_33 : Dc m_X8_earnedBy 33 (.iload 4) 2 35 := ⟨by decide +kernel, rfl⟩
theorem d_X8_earnedBy_35 : Dc m_X8_earnedBy 35 (.aload_n 0) 1 36 := ⟨by decide +kernel, rfl⟩
theorem d_X8_earnedBy_36 : Dc m_X8_earnedBy 36 (.getfield 56) 3 39 := ⟨by decide +kernel, rfl⟩
theorem d_X8_earnedBy_39 : Dc m_X8_earnedBy 39 (.iload 4) 2 41 := ⟨by decide +kernel, rfl⟩
theorem d_X8_earnedBy_41 : Dc m_X8_earnedBy 41 (.iaload) 1 42 := ⟨by decide +kernel, rfl⟩
theorem d_X8_earnedBy_42 : Dc m_X8_earnedBy 42 (.iload_n 2) 1 43 := ⟨by decide +kernel, rfl⟩
theorem d_X8_earnedBy_43 : Dc m_X8_earnedBy 43 (.if_icmp .ne 7) 3 46 := ⟨by decide +kernel, rfl⟩
theorem d_X8_earnedBy_46 : Dc m_X8_earnedBy 46 (.iconst 3) 1 47 := ⟨by decide +kernel, rfl⟩
theorem d_X8_earnedBy_47 : Dc m_X8_earnedBy 47 (.goto 10) 3 50 := ⟨by decide +kernel, rfl⟩
theorem d_X8_earnedBy_50 : Dc m_X8_earnedBy 50 (.aload_n 0) 1 51 := ⟨by decide +kernel, rfl⟩
theorem d_X8_earnedBy_51 : Dc m_X8_earnedBy 51 (.getfield 56) 3 54 := ⟨by decide +kernel, rfl⟩
theorem d_X8_earnedBy_54 : Dc m_X8_earnedBy 54 (.iload 4) 2 56 := ⟨by decide +kernel, rfl⟩
theorem d_X8_earnedBy_56 : Dc m_X8_earnedBy 56 (.iaload) 1 57 := ⟨by decide +kernel, rfl⟩
theorem d_X8_earnedBy_57 : Dc m_X8_earnedBy 57 (.iastore) 1 58 := ⟨by decide +kernel, rfl⟩
theorem d_X8_earnedBy_58 : Dc m_X8_earnedBy 58 (.iload_n 3) 1 59 := ⟨by decide +kernel, rfl⟩
theorem d_X8_earnedBy_59 : Dc m_X8_earnedBy 59 (.iload_n 2) 1 60 := ⟨by decide +kernel, rfl⟩
theorem d_X8_earnedBy_60 : Dc m_X8_earnedBy 60 (.iconst 1) 1 61 := ⟨by decide +kernel, rfl⟩
theorem d_X8_earnedBy_61 : Dc m_X8_earnedBy 61 (.iadd) 1 62 := ⟨by decide +kernel, rfl⟩
theorem d_X8_earnedBy_62 : Dc m_X8_earnedBy 62 (.idiv) 1 63 := ⟨by decide +kernel, rfl⟩
theorem d_X8_earnedBy_63 : Dc m_X8_earnedBy 63 (.istore_n 3) 1 64 := ⟨by decide +kernel, rfl⟩
theorem d_X8_earnedBy_64 : Dc m_X8_earnedBy 64 (.iinc 4 (-1)) 3 67 := ⟨by decide +kernel, rfl⟩
theorem d_X8_earnedBy_67 : Dc m_X8_earnedBy 67 (.goto (-55)) 3 70 := ⟨by decide +kernel, rfl⟩
theorem d_X8_earnedBy_70 : Dc m_X8_earnedBy 70 (.iconst 0) 1 71 := ⟨by decide +kernel, rfl⟩
theorem d_X8_earnedBy_71 : Dc m_X8_earnedBy 71 (.istore 4) 2 73 := ⟨by decide +kernel, rfl⟩
theorem d_X8_earnedBy_73 : Dc m_X8_earnedBy 73 (.iconst 0) 1 74 := ⟨by decide +kernel, rfl⟩
theorem d_X8_earnedBy_74 : Dc m_X8_earnedBy 74 (.istore 5) 2 76 := ⟨by decide +kernel, rfl⟩
theorem d_X8_earnedBy_76 : Dc m_X8_earnedBy 76 (.iload 5) 2 78 := ⟨by decide +kernel, rfl⟩
theorem d_X8_earnedBy_78 : Dc m_X8_earnedBy 78 (.iload_n 2) 1 79 := ⟨by decide +kernel, rfl⟩
theorem d_X8_earnedBy_79 : Dc m_X8_earnedBy 79 (.if_icmp .ge 88) 3 82 := ⟨by decide +kernel, rfl⟩
theorem d_X8_earnedBy_82 : Dc m_X8_earnedBy 82 (.iconst 0) 1 83 := ⟨by decide +kernel, rfl⟩
theorem d_X8_earnedBy_83 : Dc m_X8_earnedBy 83 (.istore 6) 2 85 := ⟨by decide +kernel, rfl⟩
theorem d_X8_earnedBy_85 : Dc m_X8_earnedBy 85 (.iconst 0) 1 86 := ⟨by decide +kernel, rfl⟩
theorem d_X8_earnedBy_86 : Dc m_X8_earnedBy 86 (.istore 7) 2 88 := ⟨by decide +kernel, rfl⟩
theorem d_X8_earnedBy_88 : Dc m_X8_earnedBy 88 (.iload 7) 2 90 := ⟨by decide +kernel, rfl⟩
theorem d_X8_earnedBy_90 : Dc m_X8_earnedBy 90 (.aload_n 0) 1 91 := ⟨by decide +kernel, rfl⟩
theorem d_X8_earnedBy_91 : Dc m_X8_earnedBy 91 (.getfield 22) 3 94 := ⟨by decide +kernel, rfl⟩
theorem d_X8_earnedBy_94 : Dc m_X8_earnedBy 94 (.iconst 4) 1 95 := ⟨by decide +kernel, rfl⟩
theorem d_X8_earnedBy_95 : Dc m_X8_earnedBy 95 (.iaload) 1 96 := ⟨by decide +kernel, rfl⟩
theorem d_X8_earnedBy_96 : Dc m_X8_earnedBy 96 (.if_icmp .ge 34) 3 99 := ⟨by decide +kernel, rfl⟩
theorem d_X8_earnedBy_99 : Dc m_X8_earnedBy 99 (.iload 6) 2 101 := ⟨by decide +kernel, rfl⟩
theorem d_X8_earnedBy_101 : Dc m_X8_earnedBy 101 (.aload_n 0) 1 102 := ⟨by decide +kernel, rfl⟩
theorem d_X8_earnedBy_102 : Dc m_X8_earnedBy 102 (.getfield 56) 3 105 := ⟨by decide +kernel, rfl⟩
theorem d_X8_earnedBy_105 : Dc m_X8_earnedBy 105 (.iload 7) 2 107 := ⟨by decide +kernel, rfl⟩
theorem d_X8_earnedBy_107 : Dc m_X8_earnedBy 107 (.iaload) 1 108 := ⟨by decide +kernel, rfl⟩
theorem d_X8_earnedBy_108 : Dc m_X8_earnedBy 108 (.iload 5) 2 110 := ⟨by decide +kernel, rfl⟩
theorem d_X8_earnedBy_110 : Dc m_X8_earnedBy 110 (.if_icmp .ne 10) 3 113 := ⟨by decide +kernel, rfl⟩
theorem d_X8_earnedBy_113 : Dc m_X8_earnedBy 113 (.iconst 1) 1 114 := ⟨by decide +kernel, rfl⟩
theorem d_X8_earnedBy_114 : Dc m_X8_earnedBy 114 (.iload 7) 2 116 := ⟨by decide +kernel, rfl⟩
theorem d_X8_earnedBy_116 : Dc m_X8_earnedBy 116 (.ishl) 1 117 := ⟨by decide +kernel, rfl⟩
theorem d_X8_earnedBy_117 : Dc m_X8_earnedBy 117 (.goto 4) 3 120 := ⟨by decide +kernel, rfl⟩
theorem d_X8_earnedBy_120 : Dc m_X8_earnedBy 120 (.iconst 0) 1 121 := ⟨by decide +kernel, rfl⟩
theorem d_X8_earnedBy_121 : Dc m_X8_earnedBy 121 (.ior) 1 122 := ⟨by decide +kernel, rfl⟩
theorem d_X8_earnedBy_122 : Dc m_X8_earnedBy 122 (.istore 6) 2 124 := ⟨by decide +kernel, rfl⟩
theorem d_X8_earnedBy_124 : Dc m_X8_earnedBy 124 (.iinc 7 1) 3 127 := ⟨by decide +kernel, rfl⟩
theorem d_X8_earnedBy_127 : Dc m_X8_earnedBy 127 (.goto (-39)) 3 130 := ⟨by decide +kernel, rfl⟩
theorem d_X8_earnedBy_130 : Dc m_X8_earnedBy 130 (.iload 4) 2 132 := ⟨by decide +kernel, rfl⟩
theorem d_X8_earnedBy_132 : Dc m_X8_earnedBy 132 (.ifCond .lt 13) 3 135 := ⟨by decide +kernel, rfl⟩
theorem d_X8_earnedBy_135 : Dc m_X8_earnedBy 135 (.aload_n 0) 1 136 := ⟨by decide +kernel, rfl⟩
theorem d_X8_earnedBy_136 : Dc m_X8_earnedBy 136 (.getfield 53) 3 139 := ⟨by decide +kernel, rfl⟩
theorem d_X8_earnedBy_139 : Dc m_X8_earnedBy 139 (.iload 6) 2 141 := ⟨by decide +kernel, rfl⟩
theorem d_X8_earnedBy_141 : Dc m_X8_earnedBy 141 (.iaload) 1 142 := ⟨by decide +kernel, rfl⟩
theorem d_X8_earnedBy_142 : Dc m_X8_earnedBy 142 (.ifCond .ge 7) 3 145 := ⟨by decide +kernel, rfl⟩
theorem d_X8_earnedBy_145 : Dc m_X8_earnedBy 145 (.iconst (-1)) 1 146 := ⟨by decide +kernel, rfl⟩
theorem d_X8_earnedBy_146 : Dc m_X8_earnedBy 146 (.goto 13) 3 149 := ⟨by decide +kernel, rfl⟩
theorem d_X8_earnedBy_149 : Dc m_X8_earnedBy 149 (.iload 4) 2 151 := ⟨by decide +kernel, rfl⟩
theorem d_X8_earnedBy_151 : Dc m_X8_earnedBy 151 (.aload_n 0) 1 152 := ⟨by decide +kernel, rfl⟩
theorem d_X8_earnedBy_152 : Dc m_X8_earnedBy 152 (.getfield 53) 3 155 := ⟨by decide +kernel, rfl⟩
theorem d_X8_earnedBy_155 : Dc m_X8_earnedBy 155 (.iload 6) 2 157 := ⟨by decide +kernel, rfl⟩
theorem d_X8_earnedBy_157 : Dc m_X8_earnedBy 157 (.iaload) 1 158 := ⟨by decide +kernel, rfl⟩
theorem d_X8_earnedBy_158 : Dc m_X8_earnedBy 158 (.iadd) 1 159 := ⟨by decide +kernel, rfl⟩
theorem d_X8_earnedBy_159 : Dc m_X8_earnedBy 159 (.istore 4) 2 161 := ⟨by decide +kernel, rfl⟩
theorem d_X8_earnedBy_161 : Dc m_X8_earnedBy 161 (.iinc 5 1) 3 164 := ⟨by decide +kernel, rfl⟩
theorem d_X8_earnedBy_164 : Dc m_X8_earnedBy 164 (.goto (-88)) 3 167 := ⟨by decide +kernel, rfl⟩
theorem d_X8_earnedBy_167 : Dc m_X8_earnedBy 167 (.iload 4) 2 169 := ⟨by decide +kernel, rfl⟩
theorem d_X8_earnedBy_169 : Dc m_X8_earnedBy 169 (.ireturn) 1 170 := ⟨by decide +kernel, rfl⟩
theorem d_X8_takeOut_0 : Dc m_X8_takeOut 0 (.aload_n 0) 1 1 := ⟨by decide +kernel, rfl⟩
theorem d_X8_takeOut_1 : Dc m_X8_takeOut 1 (.getfield 7) 3 4 := ⟨by decide +kernel, rfl⟩
theorem d_X8_takeOut_4 : Dc m_X8_takeOut 4 (.iload_n 1) 1 5 := ⟨by decide +kernel, rfl⟩
theorem d_X8_takeOut_5 : Dc m_X8_takeOut 5 (.iaload) 1 6 := ⟨by decide +kernel, rfl⟩
theorem d_X8_takeOut_6 : Dc m_X8_takeOut 6 (.ifCond .ge 9) 3 9 := ⟨by decide +kernel, rfl⟩
theorem d_X8_takeOut_9 : Dc m_X8_takeOut 9 (.aload_n 0) 1 10 := ⟨by decide +kernel, rfl⟩
theorem d_X8_takeOut_10 : Dc m_X8_takeOut 10 (.iconst 1) 1 11 := ⟨by decide +kernel, rfl⟩
theorem d_X8_takeOut_11 : Dc m_X8_takeOut 11 (.invokevirtual 73) 3 14 := ⟨by decide +kernel, rfl⟩
theorem d_X8_takeOut_14 : Dc m_X8_takeOut 14 (.ireturn) 1 15 := ⟨by decide +kernel, rfl⟩
theorem d_X8_takeOut_15 : Dc m_X8_takeOut 15 (.iload_n 2) 1 16 := ⟨by decide +kernel, rfl⟩
theorem d_X8_takeOut_16 : Dc m_X8_takeOut 16 (.iload_n 3) 1 17 := ⟨by decide +kernel, rfl⟩
theorem d_X8_takeOut_17 : Dc m_X8_takeOut 17 (.aload_n 0) 1 18 := ⟨by decide +kernel, rfl⟩
theorem d_X8_takeOut_18 : Dc m_X8_takeOut 18 (.getfield 13) 3 21 := ⟨by decide +kernel, rfl⟩
theorem d_X8_takeOut_21 : Dc m_X8_takeOut 21 (.iload_n 1) 1 22 := ⟨by decide +kernel, rfl⟩
theorem d_X8_takeOut_22 : Dc m_X8_takeOut 22 (.iaload) 1 23 := ⟨by decide +kernel, rfl⟩
theorem d_X8_takeOut_23 : Dc m_X8_takeOut 23 (.invokestatic 80) 3 26 := ⟨by decide +kernel, rfl⟩
theorem d_X8_takeOut_26 : Dc m_X8_takeOut 26 (.ifCond .ne 9) 3 29 := ⟨by decide +kernel, rfl⟩
theorem d_X8_takeOut_29 : Dc m_X8_takeOut 29 (.aload_n 0) 1 30 := ⟨by decide +kernel, rfl⟩
theorem d_X8_takeOut_30 : Dc m_X8_takeOut 30 (.iconst 2) 1 31 := ⟨by decide +kernel, rfl⟩
theorem d_X8_takeOut_31 : Dc m_X8_takeOut 31 (.invokevirtual 73) 3 34 := ⟨by decide +kernel, rfl⟩
theorem d_X8_takeOut_34 : Dc m_X8_takeOut 34 (.ireturn) 1 35 := ⟨by decide +kernel, rfl⟩
theorem d_X8_takeOut_35 : Dc m_X8_takeOut 35 (.iconst 0) 1 36 := ⟨by decide +kernel, rfl⟩
theorem d_X8_takeOut_36 : Dc m_X8_takeOut 36 (.istore 4) 2 38 := ⟨by decide +kernel, rfl⟩
theorem d_X8_takeOut_38 : Dc m_X8_takeOut 38 (.iload 4) 2 40 := ⟨by decide +kernel, rfl⟩
theorem d_X8_takeOut_40 : Dc m_X8_takeOut 40 (.iload_n 3) 1 41 := ⟨by decide +kernel, rfl⟩
theorem d_X8_takeOut_41 : Dc m_X8_takeOut 41 (.if_icmp .ge 30) 3 44 := ⟨by decide +kernel, rfl⟩
theorem d_X8_takeOut_44 : Dc m_X8_takeOut 44 (.aload_n 0) 1 45 := ⟨by decide +kernel, rfl⟩
theorem d_X8_takeOut_45 : Dc m_X8_takeOut 45 (.getfield 44) 3 48 := ⟨by decide +kernel, rfl⟩
theorem d_X8_takeOut_48 : Dc m_X8_takeOut 48 (.iload 4) 2 50 := ⟨by decide +kernel, rfl⟩
theorem d_X8_takeOut_50 : Dc m_X8_takeOut 50 (.aload_n 0) 1 51 := ⟨by decide +kernel, rfl⟩
theorem d_X8_takeOut_51 : Dc m_X8_takeOut 51 (.getfield 16) 3 54 := ⟨by decide +kernel, rfl⟩
theorem d_X8_takeOut_54 : Dc m_X8_takeOut 54 (.bipush 40) 2 56 := ⟨by decide +kernel, rfl⟩
theorem d_X8_takeOut_56 : Dc m_X8_takeOut 56 (.iload_n 1) 1 57 := ⟨by decide +kernel, rfl⟩
theorem d_X8_takeOut_57 : Dc m_X8_takeOut 57 (.imul) 1 58 := ⟨by decide +kernel, rfl⟩
theorem d_X8_takeOut_58 : Dc m_X8_takeOut 58 (.iload_n 2) 1 59 := ⟨by decide +kernel, rfl⟩
theorem d_X8_takeOut_59 : Dc m_X8_takeOut 59 (.iadd) 1 60 := ⟨by decide +kernel, rfl⟩
theorem d_X8_takeOut_60 : Dc m_X8_takeOut 60 (.iload 4) 2 62 := ⟨by decide +kernel, rfl⟩
theorem d_X8_takeOut_62 : Dc m_X8_takeOut 62 (.iadd) 1 63 := ⟨by decide +kernel, rfl⟩
theorem d_X8_takeOut_63 : Dc m_X8_takeOut 63 (.iaload) 1 64 := ⟨by decide +kernel, rfl⟩
theorem d_X8_takeOut_64 : Dc m_X8_takeOut 64 (.iastore) 1 65 := ⟨by decide +kernel, rfl⟩
theorem d_X8_takeOut_65 : Dc m_X8_takeOut 65 (.iinc 4 1) 3 68 := ⟨by decide +kernel, rfl⟩
theorem d_X8_takeOut_68 : Dc m_X8_takeOut 68 (.goto (-30)) 3 71 := ⟨by decide +kernel, rfl⟩
theorem d_X8_takeOut_71 : Dc m_X8_takeOut 71 (.iconst 0) 1 72 := ⟨by decide +kernel, rfl⟩
theorem d_X8_takeOut_72 : Dc m_X8_takeOut 72 (.ireturn) 1 73 := ⟨by decide +kernel, rfl⟩
theorem d_X8_isSo_0 : Dc m_X8_isSo 0 (.aload_n 0) 1 1 := ⟨by decide +kernel, rfl⟩
theorem d_X8_isSo_1 : Dc m_X8_isSo 1 (.getfield 28) 3 4 := ⟨by decide +kernel, rfl⟩
theorem d_X8_isSo_4 : Dc m_X8_isSo 4 (.iconst 3) 1 5 := ⟨by decide +kernel, rfl⟩
theorem d_X8_isSo_5 : Dc m_X8_isSo 5 (.iaload) 1 6 := ⟨by decide +kernel, rfl⟩
theorem d_X8_isSo_6 : Dc m_X8_isSo 6 (.istore_n 3) 1 7 := ⟨by decide +kernel, rfl⟩
theorem d_X8_isSo_7 : Dc m_X8_isSo 7 (.aload_n 0) 1 8 := ⟨by decide +kernel, rfl⟩
theorem d_X8_isSo_8 : Dc m_X8_isSo 8 (.aload_n 0) 1 9 := ⟨by decide +kernel, rfl⟩
theorem d_X8_isSo_9 : Dc m_X8_isSo 9 (.getfield 44) 3 12 := ⟨by decide +kernel, rfl⟩
theorem d_X8_isSo_12 : Dc m_X8_isSo 12 (.iload_n 1) 1 13 := ⟨by decide +kernel, rfl⟩
theorem d_X8_isSo_13 : Dc m_X8_isSo 13 (.invokevirtual 191) 3 16 := ⟨by decide +kernel, rfl⟩
theorem d_X8_isSo_16 : Dc m_X8_isSo 16 (.ifCond .eq 19) 3 19 := ⟨by decide +kernel, rfl⟩
theorem d_X8_isSo_19 : Dc m_X8_isSo 19 (.aload_n 0) 1 20 := ⟨by decide +kernel, rfl⟩
theorem d_X8_isSo_20 : Dc m_X8_isSo 20 (.getfield 28) 3 23 := ⟨by decide +kernel, rfl⟩
theorem d_X8_isSo_23 : Dc m_X8_isSo 23 (.iconst 3) 1 24 := ⟨by decide +kernel, rfl⟩
theorem d_X8_isSo_24 : Dc m_X8_isSo 24 (.iaload) 1 25 := ⟨by decide +kernel, rfl⟩
theorem d_X8_isSo_25 : Dc m_X8_isSo 25 (.iload_n 3) 1 26 := ⟨by decide +kernel, rfl⟩
theorem d_X8_isSo_26 : Dc m_X8_isSo 26 (.isub) 1 27 := ⟨by decide +kernel, rfl⟩
theorem d_X8_isSo_27 : Dc m_X8_isSo 27 (.iload_n 2) 1 28 := ⟨by decide +kernel, rfl⟩
theorem d_X8_isSo_28 : Dc m_X8_isSo 28 (.if_icmp .ne 7) 3 31 := ⟨by decide +kernel, rfl⟩
theorem d_X8_isSo_31 : Dc m_X8_isSo 31 (.iconst 1) 1 32 := ⟨by decide +kernel, rfl⟩
theorem d_X8_isSo_32 : Dc m_X8_isSo 32 (.goto 4) 3 35 := ⟨by decide +kernel, rfl⟩
theorem d_X8_isSo_35 : Dc m_X8_isSo 35 (.iconst 0) 1 36 := ⟨by decide +kernel, rfl⟩
theorem d_X8_isSo_36 : Dc m_X8_isSo 36 (.ireturn) 1 37 := ⟨by decide +kernel, rfl⟩
theorem d_X8_fits_0 : Dc m_X8_fits 0 (.aload_n 0) 1 1 := ⟨by decide +kernel, rfl⟩
theorem d_X8_fits_1 : Dc m_X8_fits 1 (.iload_n 1) 1 2 := ⟨by decide +kernel, rfl⟩
theorem d_X8_fits_2 : Dc m_X8_fits 2 (.invokevirtual 150) 3 5 := ⟨by decide +kernel, rfl⟩
theorem d_X8_fits_5 : Dc m_X8_fits 5 (.ifCond .eq 43) 3 8 := ⟨by decide +kernel, rfl⟩
theorem d_X8_fits_8 : Dc m_X8_fits 8 (.iload_n 2) 1 9 := ⟨by decide +kernel, rfl⟩
theorem d_X8_fits_9 : Dc m_X8_fits 9 (.invokestatic 68) 3 12 := ⟨by decide +kernel, rfl⟩
theorem d_X8_fits_12 : Dc m_X8_fits 12 (.ifCond .eq 36) 3 15 := ⟨by decide +kernel, rfl⟩
theorem d_X8_fits_15 : Dc m_X8_fits 15 (.iload 4) 2 17 := ⟨by decide +kernel, rfl⟩
theorem d_X8_fits_17 : Dc m_X8_fits 17 (.iconst 1) 1 18 := ⟨by decide +kernel, rfl⟩
theorem d_X8_fits_18 : Dc m_X8_fits 18 (.bipush 6) 2 20 := ⟨by decide +kernel, rfl⟩
theorem d_X8_fits_20 : Dc m_X8_fits 20 (.invokestatic 59) 3 23 := ⟨by decide +kernel, rfl⟩
theorem d_X8_fits_23 : Dc m_X8_fits 23 (.ifCond .eq 25) 3 26 := ⟨by decide +kernel, rfl⟩
theorem d_X8_fits_26 : Dc m_X8_fits 26 (.iload 5) 2 28 := ⟨by decide +kernel, rfl⟩
theorem d_X8_fits_28 : Dc m_X8_fits 28 (.iconst 0) 1 29 := ⟨by decide +kernel, rfl⟩
theorem d_X8_fits_29 : Dc m_X8_fits 29 (.sipush 999) 3 32 := ⟨by decide +kernel, rfl⟩
theorem d_X8_fits_32 : Dc m_X8_fits 32 (.invokestatic 59) 3 35 := ⟨by decide +kernel, rfl⟩
theorem d_X8_fits_35 : Dc m_X8_fits 35 (.ifCond .eq 13) 3 38 := ⟨by decide +kernel, rfl⟩
theorem d_X8_fits_38 : Dc m_X8_fits 38 (.iload 6) 2 40 := ⟨by decide +kernel, rfl⟩
theorem d_X8_fits_40 : Dc m_X8_fits 40 (.iconst 0) 1 41 := ⟨by decide +kernel, rfl⟩
theorem d_X8_fits_41 : Dc m_X8_fits 41 (.iconst 2) 1 42 := ⟨by decide +kernel, rfl⟩
theorem d_X8_fits_42 : Dc m_X8_fits 42 (.invokestatic 59) 3 45 := ⟨by decide +kernel, rfl⟩
theorem d_X8_fits_45 : Dc m_X8_fits 45 (.ifCond .ne 6) 3 48 := ⟨by decide +kernel, rfl⟩
theorem d_X8_fits_48 : Dc m_X8_fits 48 (.ldc 72) 2 50 := ⟨by decide +kernel, rfl⟩
theorem d_X8_fits_50 : Dc m_X8_fits 50 (.ireturn) 1 51 := ⟨by decide +kernel, rfl⟩
theorem d_X8_fits_51 : Dc m_X8_fits 51 (.aload_n 0) 1 52 := ⟨by decide +kernel, rfl⟩
theorem d_X8_fits_52 : Dc m_X8_fits 52 (.iload_n 2) 1 53 := ⟨by decide +kernel, rfl⟩
theorem d_X8_fits_53 : Dc m_X8_fits 53 (.iload_n 3) 1 54 := ⟨by decide +kernel, rfl⟩
theorem d_X8_fits_54 : Dc m_X8_fits 54 (.iload 4) 2 56 := ⟨by decide +kernel, rfl⟩
theorem d_X8_fits_56 : Dc m_X8_fits 56 (.invokevirtual 200) 3 59 := ⟨by decide +kernel, rfl⟩
theorem d_X8_fits_59 : Dc m_X8_fits 59 (.istore 7) 2 61 := ⟨by decide +kernel, rfl⟩
theorem d_X8_fits_61 : Dc m_X8_fits 61 (.iload 7) 2 63 := ⟨by decide +kernel, rfl⟩
theorem d_X8_fits_63 : Dc m_X8_fits 63 (.ifCond .ge 6) 3 66 := ⟨by decide +kernel, rfl⟩
theorem d_X8_fits_66 : Dc m_X8_fits 66 (.iload 7) 2 68 := ⟨by decide +kernel, rfl⟩
theorem d_X8_fits_68 : Dc m_X8_fits 68 (.ireturn) 1 69 := ⟨by decide +kernel, rfl⟩
theorem d_X8_fits_69 : Dc m_X8_fits 69 (.iconst 0) 1 70 := ⟨by decide +kernel, rfl⟩
theorem d_X8_fits_70 : Dc m_X8_fits 70 (.istore 8) 2 72 := ⟨by decide +kernel, rfl⟩
theorem d_X8_fits_72 : Dc m_X8_fits 72 (.iload 6) 2 74 := ⟨by decide +kernel, rfl⟩
theorem d_X8_fits_74 : Dc m_X8_fits 74 (.ifCond .ne 7) 3 77 := ⟨by decide +kernel, rfl⟩
theorem d_X8_fits_77 : Dc m_X8_fits 77 (.iconst 1) 1 78 := ⟨by decide +kernel, rfl⟩
theorem d_X8_fits_78 : Dc m_X8_fits 78 (.goto 4) 3 81 := ⟨by decide +kernel, rfl⟩
theorem d_X8_fits_81 : Dc m_X8_fits 81 (.iconst 0) 1 82 := ⟨by decide +kernel, rfl⟩
theorem d_X8_fits_82 : Dc m_X8_fits 82 (.istore 9) 2 84 := ⟨by decide +kernel, rfl⟩
theorem d_X8_fits_84 : Dc m_X8_fits 84 (.iload 9) 2 86 := ⟨by decide +kernel, rfl⟩
theorem d_X8_fits_86 : Dc m_X8_fits 86 (.iload 6) 2 88 := ⟨by decide +kernel, rfl⟩
theorem d_X8_fits_88 : Dc m_X8_fits 88 (.ifCond .ne 8) 3 91 := ⟨by decide +kernel, rfl⟩
theorem d_X8_fits_91 : Dc m_X8_fits 91 (.bipush 6) 2 93 := ⟨by decide +kernel, rfl⟩
theorem d_X8_fits_93 : Dc m_X8_fits 93 (.goto 5) 3 96 := ⟨by decide +kernel, rfl⟩
theorem d_X8_fits_96 : Dc m_X8_fits 96 (.bipush 10) 2 98 := ⟨by decide +kernel, rfl⟩
theorem d_X8_fits_98 : Dc m_X8_fits 98 (.if_icmp .ge 69) 3 101 := ⟨by decide +kernel, rfl⟩
theorem d_X8_fits_101 : Dc m_X8_fits 101 (.aload_n 0) 1 102 := ⟨by decide +kernel, rfl⟩
theorem d_X8_fits_102 : Dc m_X8_fits 102 (.invokevirtual 188) 3 105 := ⟨by decide +kernel, rfl⟩
theorem d_X8_fits_105 : Dc m_X8_fits 105 (.aload_n 0) 1 106 := ⟨by decide +kernel, rfl⟩
theorem d_X8_fits_106 : Dc m_X8_fits 106 (.getfield 28) 3 109 := ⟨by decide +kernel, rfl⟩
theorem d_X8_fits_109 : Dc m_X8_fits 109 (.iload 6) 2 111 := ⟨by decide +kernel, rfl⟩
theorem d_X8_fits_111 : Dc m_X8_fits 111 (.ifCond .ne 8) 3 114 := ⟨by decide +kernel, rfl⟩
theorem d_X8_fits_114 : Dc m_X8_fits 114 (.bipush 9) 2 116 := ⟨by decide +kernel, rfl⟩
theorem d_X8_fits_116 : Dc m_X8_fits 116 (.goto 16) 3 119 := ⟨by decide +kernel, rfl⟩
theorem d_X8_fits_119 : Dc m_X8_fits 119 (.iload 6) 2 121 := ⟨by decide +kernel, rfl⟩
theorem d_X8_fits_121 : Dc m_X8_fits 121 (.iconst 1) 1 122 := ⟨by decide +kernel, rfl⟩
theorem d_X8_fits_122 : Dc m_X8_fits 122 (.if_icmp .ne 8) 3 125 := ⟨by decide +kernel, rfl⟩
theorem d_X8_fits_125 : Dc m_X8_fits 125 (.bipush 27) 2 127 := ⟨by decide +kernel, rfl⟩
theorem d_X8_fits_127 : Dc m_X8_fits 127 (.goto 5) 3 130 := ⟨by decide +kernel, rfl⟩
theorem d_X8_fits_130 : Dc m_X8_fits 130 (.bipush 15) 2 132 := ⟨by decide +kernel, rfl⟩
theorem d_X8_fits_132 : Dc m_X8_fits 132 (.iload_n 1) 1 133 := ⟨by decide +kernel, rfl⟩
theorem d_X8_fits_133 : Dc m_X8_fits 133 (.iadd) 1 134 := ⟨by decide +kernel, rfl⟩
theorem d_X8_fits_134 : Dc m_X8_fits 134 (.iload 9) 2 136 := ⟨by decide +kernel, rfl⟩
theorem d_X8_fits_136 : Dc m_X8_fits 136 (.iastore) 1 137 := ⟨by decide +kernel, rfl⟩
theorem d_X8_fits_137 : Dc m_X8_fits 137 (.iload 8) 2 139 := ⟨by decide +kernel, rfl⟩
theorem d_X8_fits_139 : Dc m_X8_fits 139 (.aload_n 0) 1 140 := ⟨by decide +kernel, rfl⟩
theorem d_X8_fits_140 : Dc m_X8_fits 140 (.iload 4) 2 142 := ⟨by decide +kernel, rfl⟩
theorem d_X8_fits_142 : Dc m_X8_fits 142 (.iload 5) 2 144 := ⟨by decide +kernel, rfl⟩
theorem d_X8_fits_144 : Dc m_X8_fits 144 (.invokevirtual 204) 3 147 := ⟨by decide +kernel, rfl⟩
theorem d_X8_fits_147 : Dc m_X8_fits 147 (.ifCond .eq 10) 3 150 := ⟨by decide +kernel, rfl⟩
theorem d_X8_fits_150 : Dc m_X8_fits 150 (.iconst 1) 1 151 := ⟨by decide +kernel, rfl⟩
theorem d_X8_fits_151 : Dc m_X8_fits 151 (.iload 9) 2 153 := ⟨by decide +kernel, rfl⟩
theorem d_X8_fits_153 : Dc m_X8_fits 153 (.ishl) 1 154 := ⟨by decide +kernel, rfl⟩
theorem d_X8_fits_154 : Dc m_X8_fits 154 (.goto 4) 3 157 := ⟨by decide +kernel, rfl⟩
theorem d_X8_fits_157 : Dc m_X8_fits 157 (.iconst 0) 1 158 := ⟨by decide +kernel, rfl⟩
theorem d_X8_fits_158 : Dc m_X8_fits 158 (.ior) 1 159 := ⟨by decide +kernel, rfl⟩
theorem d_X8_fits_159 : Dc m_X8_fits 159 (.istore 8) 2 161 := ⟨by decide +kernel, rfl⟩
theorem d_X8_fits_161 : Dc m_X8_fits 161 (.iinc 9 1) 3 164 := ⟨by decide +kernel, rfl⟩
theorem d_X8_fits_164 : Dc m_X8_fits 164 (.goto (-80)) 3 167 := ⟨by decide +kernel, rfl⟩
theorem d_X8_fits_167 : Dc m_X8_fits 167 (.aload_n 0) 1 168 := ⟨by decide +kernel, rfl⟩
theorem d_X8_fits_168 : Dc m_X8_fits 168 (.iload 8) 2 170 := ⟨by decide +kernel, rfl⟩
theorem d_X8_fits_170 : Dc m_X8_fits 170 (.invokevirtual 77) 3 173 := ⟨by decide +kernel, rfl⟩
theorem d_X8_fits_173 : Dc m_X8_fits 173 (.ireturn) 1 174 := ⟨by decide +kernel, rfl⟩
theorem d_X8_lost_0 : Dc m_X8_lost 0 (.aload_n 0) 1 1 := ⟨by decide +kernel, rfl⟩
theorem d_X8_lost_1 : Dc m_X8_lost 1 (.invokevirtual 164) 3 4 := ⟨by decide +kernel, rfl⟩
theorem d_X8_lost_4 : Dc m_X8_lost 4 (.ifCond .ne 6) 3 7 := ⟨by decide +kernel, rfl⟩
theorem d_X8_lost_7 : Dc m_X8_lost 7 (.ldc 157) 2 9 := ⟨by decide +kernel, rfl⟩
theorem d_X8_lost_9 : Dc m_X8_lost 9 (.ireturn) 1 10 := ⟨by decide +kernel, rfl⟩
theorem d_X8_lost_10 : Dc m_X8_lost 10 (.iload_n 1) 1 11 := ⟨by decide +kernel, rfl⟩
theorem d_X8_lost_11 : Dc m_X8_lost 11 (.invokestatic 68) 3 14 := ⟨by decide +kernel, rfl⟩
theorem d_X8_lost_14 : Dc m_X8_lost 14 (.ifCond .eq 46) 3 17 := ⟨by decide +kernel, rfl⟩
theorem d_X8_lost_17 : Dc m_X8_lost 17 (.iload_n 3) 1 18 := ⟨by decide +kernel, rfl⟩
theorem d_X8_lost_18 : Dc m_X8_lost 18 (.iconst 1) 1 19 := ⟨by decide +kernel, rfl⟩
theorem d_X8_lost_19 : Dc m_X8_lost 19 (.bipush 6) 2 21 := ⟨by decide +kernel, rfl⟩
theorem d_X8_lost_21 : Dc m_X8_lost 21 (.invokestatic 59) 3 24 := ⟨by decide +kernel, rfl⟩
theorem d_X8_lost_24 : Dc m_X8_lost 24 (.ifCond .eq 36) 3 27 := ⟨by decide +kernel, rfl⟩
theorem d_X8_lost_27 : Dc m_X8_lost 27 (.iload 4) 2 29 := ⟨by decide +kernel, rfl⟩
theorem d_X8_lost_29 : Dc m_X8_lost 29 (.iconst 0) 1 30 := ⟨by decide +kernel, rfl⟩
theorem d_X8_lost_30 : Dc m_X8_lost 30 (.bipush 10) 2 32 := ⟨by decide +kernel, rfl⟩
theorem d_X8_lost_32 : Dc m_X8_lost 32 (.invokestatic 59) 3 35 := ⟨by decide +kernel, rfl⟩
theorem d_X8_lost_35 : Dc m_X8_lost 35 (.ifCond .eq 25) 3 38 := ⟨by decide +kernel, rfl⟩
theorem d_X8_lost_38 : Dc m_X8_lost 38 (.iload 5) 2 40 := ⟨by decide +kernel, rfl⟩
theorem d_X8_lost_40 : Dc m_X8_lost 40 (.iconst 0) 1 41 := ⟨by decide +kernel, rfl⟩
theorem d_X8_lost_41 : Dc m_X8_lost 41 (.sipush 999) 3 44 := ⟨by decide +kernel, rfl⟩
theorem d_X8_lost_44 : Dc m_X8_lost 44 (.invokestatic 59) 3 47 := ⟨by decide +kernel, rfl⟩
theorem d_X8_lost_47 : Dc m_X8_lost 47 (.ifCond .eq 13) 3 50 := ⟨by decide +kernel, rfl⟩
theorem d_X8_lost_50 : Dc m_X8_lost 50 (.iload 6) 2 52 := ⟨by decide +kernel, rfl⟩
theorem d_X8_lost_52 : Dc m_X8_lost 52 (.iconst 0) 1 53 := ⟨by decide +kernel, rfl⟩
theorem d_X8_lost_53 : Dc m_X8_lost 53 (.iconst 1) 1 54 := ⟨by decide +kernel, rfl⟩
theorem d_X8_lost_54 : Dc m_X8_lost 54 (.invokestatic 59) 3 57 := ⟨by decide +kernel, rfl⟩
theorem d_X8_lost_57 : Dc m_X8_lost 57 (.ifCond .ne 6) 3 60 := ⟨by decide +kernel, rfl⟩
theorem d_X8_lost_60 : Dc m_X8_lost 60 (.ldc 72) 2 62 := ⟨by decide +kernel, rfl⟩
theorem d_X8_lost_62 : Dc m_X8_lost 62 (.ireturn) 1 63 := ⟨by decide +kernel, rfl⟩
theorem d_X8_lost_63 : Dc m_X8_lost 63 (.aload_n 0) 1 64 := ⟨by decide +kernel, rfl⟩
theorem d_X8_lost_64 : Dc m_X8_lost 64 (.iload_n 1) 1 65 := ⟨by decide +kernel, rfl⟩
theorem d_X8_lost_65 : Dc m_X8_lost 65 (.iload_n 2) 1 66 := ⟨by decide +kernel, rfl⟩
theorem d_X8_lost_66 : Dc m_X8_lost 66 (.iload_n 3) 1 67 := ⟨by decide +kernel, rfl⟩
theorem d_X8_lost_67 : Dc m_X8_lost 67 (.invokevirtual 200) 3 70 := ⟨by decide +kernel, rfl⟩
theorem d_X8_lost_70 : Dc m_X8_lost 70 (.istore 7) 2 72 := ⟨by decide +kernel, rfl⟩
theorem d_X8_lost_72 : Dc m_X8_lost 72 (.iload 7) 2 74 := ⟨by decide +kernel, rfl⟩
theorem d_X8_lost_74 : Dc m_X8_lost 74 (.ifCond .ge 6) 3 77 := ⟨by decide +kernel, rfl⟩
theorem d_X8_lost_77 : Dc m_X8_lost 77 (.iload 7) 2 79 := ⟨by decide +kernel, rfl⟩
theorem d_X8_lost_79 : Dc m_X8_lost 79 (.ireturn) 1 80 := ⟨by decide +kernel, rfl⟩
theorem d_X8_lost_80 : Dc m_X8_lost 80 (.iconst (-1)) 1 81 := ⟨by decide +kernel, rfl⟩
theorem d_X8_lost_81 : Dc m_X8_lost 81 (.istore 8) 2 83 := ⟨by decide +kernel, rfl⟩
theorem d_X8_lost_83 : Dc m_X8_lost 83 (.iload_n 3) 1 84 := ⟨by decide +kernel, rfl⟩
theorem d_X8_lost_84 : Dc m_X8_lost 84 (.istore 9) 2 86 := ⟨by decide +kernel, rfl⟩
theorem d_X8_lost_86 : Dc m_X8_lost 86 (.iload 9) 2 88 := ⟨by decide +kernel, rfl⟩
theorem d_X8_lost_88 : Dc m_X8_lost 88 (.ifCond .lt 57) 3 91 := ⟨by decide +kernel, rfl⟩
theorem d_X8_lost_91 : Dc m_X8_lost 91 (.aload_n 0) 1 92 := ⟨by decide +kernel, rfl⟩
theorem d_X8_lost_92 : Dc m_X8_lost 92 (.invokevirtual 188) 3 95 := ⟨by decide +kernel, rfl⟩
theorem d_X8_lost_95 : Dc m_X8_lost 95 (.aload_n 0) 1 96 := ⟨by decide +kernel, rfl⟩
theorem d_X8_lost_96 : Dc m_X8_lost 96 (.aload_n 0) 1 97 := ⟨by decide +kernel, rfl⟩
theorem d_X8_lost_97 : Dc m_X8_lost 97 (.getfield 44) 3 100 := ⟨by decide +kernel, rfl⟩
theorem d_X8_lost_100 : Dc m_X8_lost 100 (.iload 9) 2 102 := ⟨by decide +kernel, rfl⟩
theorem d_X8_lost_102 : Dc m_X8_lost 102 (.invokevirtual 191) 3 105 := ⟨by decide +kernel, rfl⟩
theorem d_X8_lost_105 : Dc m_X8_lost 105 (.istore 10) 2 107 := ⟨by decide +kernel, rfl⟩
theorem d_X8_lost_107 : Dc m_X8_lost 107 (.iload 10) 2 109 := ⟨by decide +kernel, rfl⟩
theorem d_X8_lost_109 : Dc m_X8_lost 109 (.ifCond .eq 26) 3 112 := ⟨by decide +kernel, rfl⟩
theorem d_X8_lost_112 : Dc m_X8_lost 112 (.aload_n 0) 1 113 := ⟨by decide +kernel, rfl⟩
theorem d_X8_lost_113 : Dc m_X8_lost 113 (.getfield 28) 3 116 := ⟨by decide +kernel, rfl⟩
theorem d_X8_lost_116 : Dc m_X8_lost 116 (.iconst 3) 1 117 := ⟨by decide +kernel, rfl⟩
theorem d_X8_lost_117 : Dc m_X8_lost 117 (.iaload) 1 118 := ⟨by decide +kernel, rfl⟩
theorem d_X8_lost_118 : Dc m_X8_lost 118 (.aload_n 0) 1 119 := ⟨by decide +kernel, rfl⟩
theorem d_X8_lost_119 : Dc m_X8_lost 119 (.getfield 22) 3 122 := ⟨by decide +kernel, rfl⟩
theorem d_X8_lost_122 : Dc m_X8_lost 122 (.iconst 3) 1 123 := ⟨by decide +kernel, rfl⟩
theorem d_X8_lost_123 : Dc m_X8_lost 123 (.iaload) 1 124 := ⟨by decide +kernel, rfl⟩
theorem d_X8_lost_124 : Dc m_X8_lost 124 (.isub) 1 125 := ⟨by decide +kernel, rfl⟩
theorem d_X8_lost_125 : Dc m_X8_lost 125 (.iload 5) 2 127 := ⟨by decide +kernel, rfl⟩
theorem d_X8_lost_127 : Dc m_X8_lost 127 (.if_icmp .lt 8) 3 130 := ⟨by decide +kernel, rfl⟩
theorem d_X8_lost_130 : Dc m_X8_lost 130 (.iload 9) 2 132 := ⟨by decide +kernel, rfl⟩
theorem d_X8_lost_132 : Dc m_X8_lost 132 (.goto 5) 3 135 := ⟨by decide +kernel, rfl⟩
theorem d_X8_lost_135 : Dc m_X8_lost 135 (.iload 8) 2 137 := ⟨by decide +kernel, rfl⟩
theorem d_X8_lost_137 : Dc m_X8_lost 137 (.istore 8) 2 139 := ⟨by decide +kernel, rfl⟩
theorem d_X8_lost_139 : Dc m_X8_lost 139 (.iinc 9 (-1)) 3 142 := ⟨by decide +kernel, rfl⟩
theorem d_X8_lost_142 : Dc m_X8_lost 142 (.goto (-56)) 3 145 := ⟨by decide +kernel, rfl⟩
theorem d_X8_lost_145 : Dc m_X8_lost 145 (.aload_n 0) 1 146 := ⟨by decide +kernel, rfl⟩
theorem d_X8_lost_146 : Dc m_X8_lost 146 (.invokevirtual 188) 3 149 := ⟨by decide +kernel, rfl⟩
theorem d_X8_lost_149 : Dc m_X8_lost 149 (.aload_n 0) 1 150 := ⟨by decide +kernel, rfl⟩
theorem d_X8_lost_150 : Dc m_X8_lost 150 (.aload_n 0) 1 151 := ⟨by decide +kernel, rfl⟩
theorem d_X8_lost_151 : Dc m_X8_lost 151 (.getfield 44) 3 154 := ⟨by decide +kernel, rfl⟩
theorem d_X8_lost_154 : Dc m_X8_lost 154 (.iload_n 3) 1 155 := ⟨by decide +kernel, rfl⟩
theorem d_X8_lost_155 : Dc m_X8_lost 155 (.invokevirtual 191) 3 158 := ⟨by decide +kernel, rfl⟩
theorem d_X8_lost_158 : Dc m_X8_lost 158 (.ifCond .eq 8) 3 161 := ⟨by decide +kernel, rfl⟩
theorem d_X8_lost_161 : Dc m_X8_lost 161 (.iload 8) 2 163 := ⟨by decide +kernel, rfl⟩
theorem d_X8_lost_163 : Dc m_X8_lost 163 (.goto 4) 3 166 := ⟨by decide +kernel, rfl⟩
theorem d_X8_lost_166 : Dc m_X8_lost 166 (.iconst (-1)) 1 167 := ⟨by decide +kernel, rfl⟩
theorem d_X8_lost_167 : Dc m_X8_lost 167 (.istore 8) 2 169 := ⟨by decide +kernel, rfl⟩
theorem d_X8_lost_169 : Dc m_X8_lost 169 (.iload 8) 2 171 := ⟨by decide +kernel, rfl⟩
theorem d_X8_lost_171 : Dc m_X8_lost 171 (.ifCond .ge 7) 3 174 := ⟨by decide +kernel, rfl⟩
theorem d_X8_lost_174 : Dc m_X8_lost 174 (.iconst 0) 1 175 := ⟨by decide +kernel, rfl⟩
theorem d_X8_lost_175 : Dc m_X8_lost 175 (.goto 4) 3 178 := ⟨by decide +kernel, rfl⟩
theorem d_X8_lost_178 : Dc m_X8_lost 178 (.iconst 1) 1 179 := ⟨by decide +kernel, rfl⟩
theorem d_X8_lost_179 : Dc m_X8_lost 179 (.istore 9) 2 181 := ⟨by decide +kernel, rfl⟩
theorem d_X8_lost_181 : Dc m_X8_lost 181 (.iconst 1) 1 182 := ⟨by decide +kernel, rfl⟩
theorem d_X8_lost_182 : Dc m_X8_lost 182 (.istore 10) 2 184 := ⟨by decide +kernel, rfl⟩
theorem d_X8_lost_184 : Dc m_X8_lost 184 (.iconst 0) 1 185 := ⟨by decide +kernel, rfl⟩
theorem d_X8_lost_185 : Dc m_X8_lost 185 (.istore 11) 2 187 := ⟨by decide +kernel, rfl⟩
theorem d_X8_lost_187 : Dc m_X8_lost 187 (.iload 11) 2 189 := ⟨by decide +kernel, rfl⟩
theorem d_X8_lost_189 : Dc m_X8_lost 189 (.iload 8) 2 191 := ⟨by decide +kernel, rfl⟩
theorem d_X8_lost_191 : Dc m_X8_lost 191 (.if_icmp .ge 26) 3 194 := ⟨by decide +kernel, rfl⟩
theorem d_X8_lost_194 : Dc m_X8_lost 194 (.iload 9) 2 196 := ⟨by decide +kernel, rfl⟩
theorem d_X8_lost_196 : Dc m_X8_lost 196 (.bipush 10) 2 198 := ⟨by decide +kernel, rfl⟩
theorem d_X8_lost_198 : Dc m_X8_lost 198 (.iload 4) 2 200 := ⟨by decide +kernel, rfl⟩
theorem d_X8_lost_200 : Dc m_X8_lost 200 (.isub) 1 201 := ⟨by decide +kernel, rfl⟩
theorem d_X8_lost_201 : Dc m_X8_lost 201 (.imul) 1 202 := ⟨by decide +kernel, rfl⟩
theorem d_X8_lost_202 : Dc m_X8_lost 202 (.istore 9) 2 204 := ⟨by decide +kernel, rfl⟩
theorem d_X8_lost_204 : Dc m_X8_lost 204 (.iload 10) 2 206 := ⟨by decide +kernel, rfl⟩
theorem d_X8_lost_206 : Dc m_X8_lost 206 (.bipush 10) 2 208 := ⟨by decide +kernel, rfl⟩
theorem d_X8_lost_208 : Dc m_X8_lost 208 (.imul) 1 209 := ⟨by decide +kernel, rfl⟩
theorem d_X8_lost_209 : Dc m_X8_lost 209 (.istore 10) 2 211 := ⟨by decide +kernel, rfl⟩
theorem d_X8_lost_211 : Dc m_X8_lost 211 (.iinc 11 1) 3 214 := ⟨by decide +kernel, rfl⟩
theorem d_X8_lost_214 : Dc m_X8_lost 214 (.goto (-27)) 3 217 := ⟨by decide +kernel, rfl⟩
theorem d_X8_lost_217 : Dc m_X8_lost 217 (.iload 9) 2 219 := ⟨by decide +kernel, rfl⟩
theorem d_X8_lost_219 : Dc m_X8_lost 219 (.istore 11) 2 221 := ⟨by decide +kernel, rfl⟩
theorem d_X8_lost_221 : Dc m_X8_lost 221 (.iload 10) 2 223 := ⟨by decide +kernel, rfl⟩
theorem d_X8_lost_223 : Dc m_X8_lost 223 (.istore 12) 2 225 := ⟨by decide +kernel, rfl⟩
theorem d_X8_lost_225 : Dc m_X8_lost 225 (.iload 12) 2 227 := ⟨by decide +kernel, rfl⟩
theorem d_X8_lost_227 : Dc m_X8_lost 227 (.ifCond .le 21) 3 230 := ⟨by decide +kernel, rfl⟩
theorem d_X8_lost_230 : Dc m_X8_lost 230 (.iload 11) 2 232 := ⟨by decide +kernel, rfl⟩
theorem d_X8_lost_232 : Dc m_X8_lost 232 (.iload 12) 2 234 := ⟨by decide +kernel, rfl⟩
theorem d_X8_lost_234 : Dc m_X8_lost 234 (.irem) 1 235 := ⟨by decide +kernel, rfl⟩
theorem d_X8_lost_235 : Dc m_X8_lost 235 (.istore 13) 2 237 := ⟨by decide +kernel, rfl⟩
theorem d_X8_lost_237 : Dc m_X8_lost 237 (.iload 12) 2 239 := ⟨by decide +kernel, rfl⟩
theorem d_X8_lost_239 : Dc m_X8_lost 239 (.istore 11) 2 241 := ⟨by decide +kernel, rfl⟩
theorem d_X8_lost_241 : Dc m_X8_lost 241 (.iload 13) 2 243 := ⟨by decide +kernel, rfl⟩
theorem d_X8_lost_243 : Dc m_X8_lost 243 (.istore 12) 2 245 := ⟨by decide +kernel, rfl⟩
theorem d_X8_lost_245 : Dc m_X8_lost 245 (.goto (-20)) 3 248 := ⟨by decide +kernel, rfl⟩
theorem d_X8_lost_248 : Dc m_X8_lost 248 (.aload_n 0) 1 249 := ⟨by decide +kernel, rfl⟩
theorem d_X8_lost_249 : Dc m_X8_lost 249 (.iload 6) 2 251 := ⟨by decide +kernel, rfl⟩
theorem d_X8_lost_251 : Dc m_X8_lost 251 (.ifCond .ne 8) 3 254 := ⟨by decide +kernel, rfl⟩
theorem d_X8_lost_254 : Dc m_X8_lost 254 (.iload 9) 2 256 := ⟨by decide +kernel, rfl⟩
theorem d_X8_lost_256 : Dc m_X8_lost 256 (.goto 5) 3 259 := ⟨by decide +kernel, rfl⟩
theorem d_X8_lost_259 : Dc m_X8_lost 259 (.iload 10) 2 261 := ⟨by decide +kernel, rfl⟩
theorem d_X8_lost_261 : Dc m_X8_lost 261 (.iload 11) 2 263 := ⟨by decide +kernel, rfl⟩
theorem d_X8_lost_263 : Dc m_X8_lost 263 (.idiv) 1 264 := ⟨by decide +kernel, rfl⟩
theorem d_X8_lost_264 : Dc m_X8_lost 264 (.invokevirtual 77) 3 267 := ⟨by decide +kernel, rfl⟩
theorem d_X8_lost_267 : Dc m_X8_lost 267 (.ireturn) 1 268 := ⟨by decide +kernel, rfl⟩
theorem d_X8_drawn_0 : Dc m_X8_drawn 0 (.aload_n 0) 1 1 := ⟨by decide +kernel, rfl⟩
theorem d_X8_drawn_1 : Dc m_X8_drawn 1 (.invokevirtual 164) 3 4 := ⟨by decide +kernel, rfl⟩
theorem d_X8_drawn_4 : Dc m_X8_drawn 4 (.ifCond .ne 6) 3 7 := ⟨by decide +kernel, rfl⟩
theorem d_X8_drawn_7 : Dc m_X8_drawn 7 (.ldc 157) 2 9 := ⟨by decide +kernel, rfl⟩
theorem d_X8_drawn_9 : Dc m_X8_drawn 9 (.ireturn) 1 10 := ⟨by decide +kernel, rfl⟩
theorem d_X8_drawn_10 : Dc m_X8_drawn 10 (.iload_n 1) 1 11 := ⟨by decide +kernel, rfl⟩
theorem d_X8_drawn_11 : Dc m_X8_drawn 11 (.iconst 0) 1 12 := ⟨by decide +kernel, rfl⟩
theorem d_X8_drawn_12 : Dc m_X8_drawn 12 (.bipush 60) 2 14 := ⟨by decide +kernel, rfl⟩
theorem d_X8_drawn_14 : Dc m_X8_drawn 14 (.invokestatic 59) 3 17 := ⟨by decide +kernel, rfl⟩
theorem d_X8_drawn_17 : Dc m_X8_drawn 17 (.ifCond .eq 22) 3 20 := ⟨by decide +kernel, rfl⟩
theorem d_X8_drawn_20 : Dc m_X8_drawn 20 (.iload_n 2) 1 21 := ⟨by decide +kernel, rfl⟩
theorem d_X8_drawn_21 : Dc m_X8_drawn 21 (.iconst 1) 1 22 := ⟨by decide +kernel, rfl⟩
theorem d_X8_drawn_22 : Dc m_X8_drawn 22 (.ldc 207) 2 24 := ⟨by decide +kernel, rfl⟩
theorem d_X8_drawn_24 : Dc m_X8_drawn 24 (.invokestatic 59) 3 27 := ⟨by decide +kernel, rfl⟩
theorem d_X8_drawn_27 : Dc m_X8_drawn 27 (.ifCond .eq 12) 3 30 := ⟨by decide +kernel, rfl⟩
theorem d_X8_drawn_30 : Dc m_X8_drawn 30 (.iload_n 3) 1 31 := ⟨by decide +kernel, rfl⟩
theorem d_X8_drawn_31 : Dc m_X8_drawn 31 (.iconst 0) 1 32 := ⟨by decide +kernel, rfl⟩
theorem d_X8_drawn_32 : Dc m_X8_drawn 32 (.iconst 1) 1 33 := ⟨by decide +kernel, rfl⟩
theorem d_X8_drawn_33 : Dc m_X8_drawn 33 (.invokestatic 59) 3 36 := ⟨by decide +kernel, rfl⟩
theorem d_X8_drawn_36 : Dc m_X8_drawn 36 (.ifCond .ne 6) 3 39 := ⟨by decide +kernel, rfl⟩
theorem d_X8_drawn_39 : Dc m_X8_drawn 39 (.ldc 72) 2 41 := ⟨by decide +kernel, rfl⟩
theorem d_X8_drawn_41 : Dc m_X8_drawn 41 (.ireturn) 1 42 := ⟨by decide +kernel, rfl⟩
theorem d_X8_drawn_42 : Dc m_X8_drawn 42 (.aload_n 0) 1 43 := ⟨by decide +kernel, rfl⟩
theorem d_X8_drawn_43 : Dc m_X8_drawn 43 (.invokevirtual 188) 3 46 := ⟨by decide +kernel, rfl⟩
theorem d_X8_drawn_46 : Dc m_X8_drawn 46 (.iload_n 2) 1 47 := ⟨by decide +kernel, rfl⟩
theorem d_X8_drawn_47 : Dc m_X8_drawn 47 (.i2l) 1 48 := ⟨by decide +kernel, rfl⟩
theorem d_X8_drawn_48 : Dc m_X8_drawn 48 (.lstore 4) 2 50 := ⟨by decide +kernel, rfl⟩
theorem d_X8_drawn_50 : Dc m_X8_drawn 50 (.iconst 0) 1 51 := ⟨by decide +kernel, rfl⟩
theorem d_X8_drawn_51 : Dc m_X8_drawn 51 (.istore 6) 2 53 := ⟨by decide +kernel, rfl⟩
theorem d_X8_drawn_53 : Dc m_X8_drawn 53 (.iload 6) 2 55 := ⟨by decide +kernel, rfl⟩
theorem d_X8_drawn_55 : Dc m_X8_drawn 55 (.iload_n 1) 1 56 := ⟨by decide +kernel, rfl⟩
theorem d_X8_drawn_56 : Dc m_X8_drawn 56 (.if_icmp .ge 82) 3 59 := ⟨by decide +kernel, rfl⟩
theorem d_X8_drawn_59 : Dc m_X8_drawn 59 (.lload 4) 2 61 := ⟨by decide +kernel, rfl⟩
theorem d_X8_drawn_61 : Dc m_X8_drawn 61 (.ldc2_w 208) 3 64 := ⟨by decide +kernel, rfl⟩
theorem d_X8_drawn_64 : Dc m_X8_drawn 64 (.lmul) 1 65 := ⟨by decide +kernel, rfl⟩
theorem d_X8_drawn_65 : Dc m_X8_drawn 65 (.ldc2_w 210) 3 68 := ⟨by decide +kernel, rfl⟩
theorem d_X8_drawn_68 : Dc m_X8_drawn 68 (.lrem) 1 69 := ⟨by decide +kernel, rfl⟩
theorem d_X8_drawn_69 : Dc m_X8_drawn 69 (.lstore 4) 2 71 := ⟨by decide +kernel, rfl⟩
theorem d_X8_drawn_71 : Dc m_X8_drawn 71 (.aload_n 0) 1 72 := ⟨by decide +kernel, rfl⟩
theorem d_X8_drawn_72 : Dc m_X8_drawn 72 (.getfield 22) 3 75 := ⟨by decide +kernel, rfl⟩
theorem d_X8_drawn_75 : Dc m_X8_drawn 75 (.iconst 4) 1 76 := ⟨by decide +kernel, rfl⟩
theorem d_X8_drawn_76 : Dc m_X8_drawn 76 (.iaload) 1 77 := ⟨by decide +kernel, rfl⟩
theorem d_X8_drawn_77 : Dc m_X8_drawn 77 (.ifCond .ne 7) 3 80 := ⟨by decide +kernel, rfl⟩
theorem d_X8_drawn_80 : Dc m_X8_drawn 80 (.iconst (-1)) 1 81 := ⟨by decide +kernel, rfl⟩
theorem d_X8_drawn_81 : Dc m_X8_drawn 81 (.goto 14) 3 84 := ⟨by decide +kernel, rfl⟩
theorem d_X8_drawn_84 : Dc m_X8_drawn 84 (.lload 4) 2 86 := ⟨by decide +kernel, rfl⟩
theorem d_X8_drawn_86 : Dc m_X8_drawn 86 (.aload_n 0) 1 87 := ⟨by decide +kernel, rfl⟩
theorem d_X8_drawn_87 : Dc m_X8_drawn 87 (.getfield 22) 3 90 := ⟨by decide +kernel, rfl⟩
theorem d_X8_drawn_90 : Dc m_X8_drawn 90 (.iconst 4) 1 91 := ⟨by decide +kernel, rfl⟩
theorem d_X8_drawn_91 : Dc m_X8_drawn 91 (.iaload) 1 92 := ⟨by decide +kernel, rfl⟩
theorem d_X8_drawn_92 : Dc m_X8_drawn 92 (.i2l) 1 93 := ⟨by decide +kernel, rfl⟩
theorem d_X8_drawn_93 : Dc m_X8_drawn 93 (.lrem) 1 94 := ⟨by decide +kernel, rfl⟩
theorem d_X8_drawn_94 : Dc m_X8_drawn 94 (.l2i) 1 95 := ⟨by decide +kernel, rfl⟩
theorem d_X8_drawn_95 : Dc m_X8_drawn 95 (.istore 7) 2 97 := ⟨by decide +kernel, rfl⟩
theorem d_X8_drawn_97 : Dc m_X8_drawn 97 (.aload_n 0) 1 98 := ⟨by decide +kernel, rfl⟩
theorem d_X8_drawn_98 : Dc m_X8_drawn 98 (.getfield 28) 3 101 := ⟨by decide +kernel, rfl⟩
theorem d_X8_drawn_101 : Dc m_X8_drawn 101 (.iload 7) 2 103 := ⟨by decide +kernel, rfl⟩
theorem d_X8_drawn_103 : Dc m_X8_drawn 103 (.invokestatic 153) 3 106 := ⟨by decide +kernel, rfl⟩
theorem d_X8_drawn_106 : Dc m_X8_drawn 106 (.ifCond .eq 16) 3 109 := ⟨by decide +kernel, rfl⟩
theorem d_X8_drawn_109 : Dc m_X8_drawn 109 (.aload_n 0) 1 110 := ⟨by decide +kernel, rfl⟩
theorem d_X8_drawn_110 : Dc m_X8_drawn 110 (.getfield 28) 3 113 := ⟨by decide +kernel, rfl⟩
theorem d_X8_drawn_113 : Dc m_X8_drawn 113 (.iload 7) 2 115 := ⟨by decide +kernel, rfl⟩
theorem d_X8_drawn_115 : Dc m_X8_drawn 115 (.invokestatic 161) 3 118 := ⟨by decide +kernel, rfl⟩
theorem d_X8_drawn_118 : Dc m_X8_drawn 118 (.pop) 1 119 := ⟨by decide +kernel, rfl⟩
theorem d_X8_drawn_119 : Dc m_X8_drawn 119 (.goto 13) 3 122 := ⟨by decide +kernel, rfl⟩
theorem d_X8_drawn_122 : Dc m_X8_drawn 122 (.aload_n 0) 1 123 := ⟨by decide +kernel, rfl⟩
theorem d_X8_drawn_123 : Dc m_X8_drawn 123 (.getfield 28) 3 126 := ⟨by decide +kernel, rfl⟩
theorem d_X8_drawn_126 : Dc m_X8_drawn 126 (.iconst 1) 1 127 := ⟨by decide +kernel, rfl⟩
theorem d_X8_drawn_127 : Dc m_X8_drawn 127 (.dup2) 1 128 := ⟨by decide +kernel, rfl⟩
theorem d_X8_drawn_128 : Dc m_X8_drawn 128 (.iaload) 1 129 := ⟨by decide +kernel, rfl⟩
theorem d_X8_drawn_129 : Dc m_X8_drawn 129 (.iconst 1) 1 130 := ⟨by decide +kernel, rfl⟩
theorem d_X8_drawn_130 : Dc m_X8_drawn 130 (.iadd) 1 131 := ⟨by decide +kernel, rfl⟩
theorem d_X8_drawn_131 : Dc m_X8_drawn 131 (.iastore) 1 132 := ⟨by decide +kernel, rfl⟩
theorem d_X8_drawn_132 : Dc m_X8_drawn 132 (.iinc 6 1) 3 135 := ⟨by decide +kernel, rfl⟩
theorem d_X8_drawn_135 : Dc m_X8_drawn 135 (.goto (-82)) 3 138 := ⟨by decide +kernel, rfl⟩
theorem d_X8_drawn_138 : Dc m_X8_drawn 138 (.iload_n 3) 1 139 := ⟨by decide +kernel, rfl⟩
theorem d_X8_drawn_139 : Dc m_X8_drawn 139 (.ifCond .ne 12) 3 142 := ⟨by decide +kernel, rfl⟩
theorem d_X8_drawn_142 : Dc m_X8_drawn 142 (.aload_n 0) 1 143 := ⟨by decide +kernel, rfl⟩
theorem d_X8_drawn_143 : Dc m_X8_drawn 143 (.getfield 28) 3 146 := ⟨by decide +kernel, rfl⟩
theorem d_X8_drawn_146 : Dc m_X8_drawn 146 (.iconst 3) 1 147 := ⟨by decide +kernel, rfl⟩
theorem d_X8_drawn_147 : Dc m_X8_drawn 147 (.iaload) 1 148 := ⟨by decide +kernel, rfl⟩
theorem d_X8_drawn_148 : Dc m_X8_drawn 148 (.goto 9) 3 151 := ⟨by decide +kernel, rfl⟩
theorem d_X8_drawn_151 : Dc m_X8_drawn 151 (.aload_n 0) 1 152 := ⟨by decide +kernel, rfl⟩
theorem d_X8_drawn_152 : Dc m_X8_drawn 152 (.getfield 28) 3 155 := ⟨by decide +kernel, rfl⟩
theorem d_X8_drawn_155 : Dc m_X8_drawn 155 (.iconst 2) 1 156 := ⟨by decide +kernel, rfl⟩
theorem d_X8_drawn_156 : Dc m_X8_drawn 156 (.iaload) 1 157 := ⟨by decide +kernel, rfl⟩
theorem d_X8_drawn_157 : Dc m_X8_drawn 157 (.ireturn) 1 158 := ⟨by decide +kernel, rfl⟩
theorem d_X8_image_0 : Dc m_X8_image 0 (.iload_n 1) 1 1 := ⟨by decide +kernel, rfl⟩
theorem d_X8_image_1 : Dc m_X8_image 1 (.iconst 0) 1 2 := ⟨by decide +kernel, rfl⟩
theorem d_X8_image_2 : Dc m_X8_image 2 (.iconst 1) 1 3 := ⟨by decide +kernel, rfl⟩
theorem d_X8_image_3 : Dc m_X8_image 3 (.invokestatic 59) 3 6 := ⟨by decide +kernel, rfl⟩
theorem d_X8_image_6 : Dc m_X8_image 6 (.ifCond .ne 6) 3 9 := ⟨by decide +kernel, rfl⟩
theorem d_X8_image_9 : Dc m_X8_image 9 (.ldc 72) 2 11 := ⟨by decide +kernel, rfl⟩
theorem d_X8_image_11 : Dc m_X8_image 11 (.ireturn) 1 12 := ⟨by decide +kernel, rfl⟩
theorem d_X8_image_12 : Dc m_X8_image 12 (.aload_n 0) 1 13 := ⟨by decide +kernel, rfl⟩
theorem d_X8_image_13 : Dc m_X8_image 13 (.invokevirtual 164) 3 16 := ⟨by decide +kernel, rfl⟩
theorem d_X8_image_16 : Dc m_X8_image 16 (.ifCond .ne 6) 3 19 := ⟨by decide +kernel, rfl⟩
theorem d_X8_image_19 : Dc m_X8_image 19 (.ldc 157) 2 21 := ⟨by decide +kernel, rfl⟩
theorem d_X8_image_21 : Dc m_X8_image 21 (.ireturn) 1 22 := ⟨by decide +kernel, rfl⟩
theorem d_X8_image_22 : Dc m_X8_image 22 (.aload_n 0) 1 23 := ⟨by decide +kernel, rfl⟩
theorem d_X8_image_23 : Dc m_X8_image 23 (.getfield 22) 3 26 := ⟨by decide +kernel, rfl⟩
theorem d_X8_image_26 : Dc m_X8_image 26 (.iconst 0) 1 27 := ⟨by decide +kernel, rfl⟩
theorem d_X8_image_27 : Dc m_X8_image 27 (.aload_n 0) 1 28 := ⟨by decide +kernel, rfl⟩
theorem d_X8_image_28 : Dc m_X8_image 28 (.getfield 31) 3 31 := ⟨by decide +kernel, rfl⟩
theorem d_X8_image_31 : Dc m_X8_image 31 (.bipush 33) 2 33 := ⟨by decide +kernel, rfl⟩
theorem d_X8_image_33 : Dc m_X8_image 33 (.iload_n 1) 1 34 := ⟨by decide +kernel, rfl⟩
theorem d_X8_image_34 : Dc m_X8_image 34 (.imul) 1 35 := ⟨by decide +kernel, rfl⟩
theorem d_X8_image_35 : Dc m_X8_image 35 (.invokestatic 133) 3 38 := ⟨by decide +kernel, rfl⟩
theorem d_X8_image_38 : Dc m_X8_image 38 (.aload_n 0) 1 39 := ⟨by decide +kernel, rfl⟩
theorem d_X8_image_39 : Dc m_X8_image 39 (.getfield 34) 3 42 := ⟨by decide +kernel, rfl⟩
theorem d_X8_image_42 : Dc m_X8_image 42 (.iload_n 1) 1 43 := ⟨by decide +kernel, rfl⟩
theorem d_X8_image_43 : Dc m_X8_image 43 (.iconst 1) 1 44 := ⟨by decide +kernel, rfl⟩
theorem d_X8_image_44 : Dc m_X8_image 44 (.bastore) 1 45 := ⟨by decide +kernel, rfl⟩
theorem d_X8_image_45 : Dc m_X8_image 45 (.iconst 1) 1 46 := ⟨by decide +kernel, rfl⟩
theorem d_X8_image_46 : Dc m_X8_image 46 (.ireturn) 1 47 := ⟨by decide +kernel, rfl⟩
theorem d_X8_restore_0 : Dc m_X8_restore 0 (.iload_n 1) 1 1 := ⟨by decide +kernel, rfl⟩
theorem d_X8_restore_1 : Dc m_X8_restore 1 (.iconst 0) 1 2 := ⟨by decide +kernel, rfl⟩
theorem d_X8_restore_2 : Dc m_X8_restore 2 (.iconst 1) 1 3 := ⟨by decide +kernel, rfl⟩
theorem d_X8_restore_3 : Dc m_X8_restore 3 (.invokestatic 59) 3 6 := ⟨by decide +kernel, rfl⟩
theorem d_X8_restore_6 : Dc m_X8_restore 6 (.ifCond .ne 6) 3 9 := ⟨by decide +kernel, rfl⟩
theorem d_X8_restore_9 : Dc m_X8_restore 9 (.ldc 72) 2 11 := ⟨by decide +kernel, rfl⟩
theorem d_X8_restore_11 : Dc m_X8_restore 11 (.ireturn) 1 12 := ⟨by decide +kernel, rfl⟩
theorem d_X8_restore_12 : Dc m_X8_restore 12 (.aload_n 0) 1 13 := ⟨by decide +kernel, rfl⟩
theorem d_X8_restore_13 : Dc m_X8_restore 13 (.getfield 34) 3 16 := ⟨by decide +kernel, rfl⟩
theorem d_X8_restore_16 : Dc m_X8_restore 16 (.iload_n 1) 1 17 := ⟨by decide +kernel, rfl⟩
theorem d_X8_restore_17 : Dc m_X8_restore 17 (.baload) 1 18 := ⟨by decide +kernel, rfl⟩
theorem d_X8_restore_18 : Dc m_X8_restore 18 (.ifCond .ne 6) 3 21 := ⟨by decide +kernel, rfl⟩
theorem d_X8_restore_21 : Dc m_X8_restore 21 (.ldc 157) 2 23 := ⟨by decide +kernel, rfl⟩
theorem d_X8_restore_23 : Dc m_X8_restore 23 (.ireturn) 1 24 := ⟨by decide +kernel, rfl⟩
theorem d_X8_restore_24 : Dc m_X8_restore 24 (.aload_n 0) 1 25 := ⟨by decide +kernel, rfl⟩
theorem d_X8_restore_25 : Dc m_X8_restore 25 (.getfield 31) 3 28 := ⟨by decide +kernel, rfl⟩
theorem d_X8_restore_28 : Dc m_X8_restore 28 (.bipush 33) 2 30 := ⟨by decide +kernel, rfl⟩
theorem d_X8_restore_30 : Dc m_X8_restore 30 (.iload_n 1) 1 31 := ⟨by decide +kernel, rfl⟩
theorem d_X8_restore_31 : Dc m_X8_restore 31 (.imul) 1 32 := ⟨by decide +kernel, rfl⟩
theorem d_X8_restore_32 : Dc m_X8_restore 32 (.aload_n 0) 1 33 := ⟨by decide +kernel, rfl⟩
theorem d_X8_restore_33 : Dc m_X8_restore 33 (.getfield 22) 3 36 := ⟨by decide +kernel, rfl⟩
theorem d_X8_restore_36 : Dc m_X8_restore 36 (.iconst 0) 1 37 := ⟨by decide +kernel, rfl⟩
theorem d_X8_restore_37 : Dc m_X8_restore 37 (.invokestatic 133) 3 40 := ⟨by decide +kernel, rfl⟩
theorem d_X8_restore_40 : Dc m_X8_restore 40 (.aload_n 0) 1 41 := ⟨by decide +kernel, rfl⟩
theorem d_X8_restore_41 : Dc m_X8_restore 41 (.iconst 0) 1 42 := ⟨by decide +kernel, rfl⟩
theorem d_X8_restore_42 : Dc m_X8_restore 42 (.putfield 137) 3 45 := ⟨by decide +kernel, rfl⟩
theorem d_X8_restore_45 : Dc m_X8_restore 45 (.iconst 1) 1 46 := ⟨by decide +kernel, rfl⟩
theorem d_X8_restore_46 : Dc m_X8_restore 46 (.ireturn) 1 47 := ⟨by decide +kernel, rfl⟩
theorem d_X8_kind_0 : Dc m_X8_kind 0 (.aload_n 0) 1 1 := ⟨by decide +kernel, rfl⟩
theorem d_X8_kind_1 : Dc m_X8_kind 1 (.iload_n 1) 1 2 := ⟨by decide +kernel, rfl⟩
theorem d_X8_kind_2 : Dc m_X8_kind 2 (.invokevirtual 150) 3 5 := ⟨by decide +kernel, rfl⟩
theorem d_X8_kind_5 : Dc m_X8_kind 5 (.ifCond .eq 15) 3 8 := ⟨by decide +kernel, rfl⟩
theorem d_X8_kind_8 : Dc m_X8_kind 8 (.aload_n 0) 1 9 := ⟨by decide +kernel, rfl⟩
theorem d_X8_kind_9 : Dc m_X8_kind 9 (.getfield 22) 3 12 := ⟨by decide +kernel, rfl⟩
theorem d_X8_kind_12 : Dc m_X8_kind 12 (.bipush 9) 2 14 := ⟨by decide +kernel, rfl⟩
theorem d_X8_kind_14 : Dc m_X8_kind 14 (.iload_n 1) 1 15 := ⟨by decide +kernel, rfl⟩
theorem d_X8_kind_15 : Dc m_X8_kind 15 (.iadd) 1 16 := ⟨by decide +kernel, rfl⟩
theorem d_X8_kind_16 : Dc m_X8_kind 16 (.iaload) 1 17 := ⟨by decide +kernel, rfl⟩
theorem d_X8_kind_17 : Dc m_X8_kind 17 (.goto 5) 3 20 := ⟨by decide +kernel, rfl⟩
theorem d_X8_kind_20 : Dc m_X8_kind 20 (.ldc 72) 2 22 := ⟨by decide +kernel, rfl⟩
theorem d_X8_kind_22 : Dc m_X8_kind 22 (.ireturn) 1 23 := ⟨by decide +kernel, rfl⟩
theorem d_X8_parentOf_0 : Dc m_X8_parentOf 0 (.iload_n 0) 1 1 := ⟨by decide +kernel, rfl⟩
theorem d_X8_parentOf_1 : Dc m_X8_parentOf 1 (.iconst 1) 1 2 := ⟨by decide +kernel, rfl⟩
theorem d_X8_parentOf_2 : Dc m_X8_parentOf 2 (.if_icmp .eq 8) 3 5 := ⟨by decide +kernel, rfl⟩
theorem d_X8_parentOf_5 : Dc m_X8_parentOf 5 (.iload_n 0) 1 6 := ⟨by decide +kernel, rfl⟩
theorem d_X8_parentOf_6 : Dc m_X8_parentOf 6 (.iconst 4) 1 7 := ⟨by decide +kernel, rfl⟩
theorem d_X8_parentOf_7 : Dc m_X8_parentOf 7 (.if_icmp .ne 7) 3 10 := ⟨by decide +kernel, rfl⟩
theorem d_X8_parentOf_10 : Dc m_X8_parentOf 10 (.iconst 0) 1 11 := ⟨by decide +kernel, rfl⟩
theorem d_X8_parentOf_11 : Dc m_X8_parentOf 11 (.goto 13) 3 14 := ⟨by decide +kernel, rfl⟩
theorem d_X8_parentOf_14 : Dc m_X8_parentOf 14 (.iload_n 0) 1 15 := ⟨by decide +kernel, rfl⟩
theorem d_X8_parentOf_15 : Dc m_X8_parentOf 15 (.iconst 5) 1 16 := ⟨by decide +kernel, rfl⟩
theorem d_X8_parentOf_16 : Dc m_X8_parentOf 16 (.if_icmp .ne 7) 3 19 := ⟨by decide +kernel, rfl⟩
theorem d_X8_parentOf_19 : Dc m_X8_parentOf 19 (.iconst 4) 1 20 := ⟨by decide +kernel, rfl⟩
theorem d_X8_parentOf_20 : Dc m_X8_parentOf 20 (.goto 4) 3 23 := ⟨by decide +kernel, rfl⟩
theorem d_X8_parentOf_23 : Dc m_X8_parentOf 23 (.iconst 1) 1 24 := ⟨by decide +kernel, rfl⟩
theorem d_X8_parentOf_24 : Dc m_X8_parentOf 24 (.ireturn) 1 25 := ⟨by decide +kernel, rfl⟩
theorem d_X8_as_0 : Dc m_X8_as 0 (.aload_n 0) 1 1 := ⟨by decide +kernel, rfl⟩
theorem d_X8_as_1 : Dc m_X8_as 1 (.iload_n 1) 1 2 := ⟨by decide +kernel, rfl⟩
theorem d_X8_as_2 : Dc m_X8_as 2 (.invokevirtual 150) 3 5 := ⟨by decide +kernel, rfl⟩
theorem d_X8_as_5 : Dc m_X8_as 5 (.ifCond .eq 12) 3 8 := ⟨by decide +kernel, rfl⟩
theorem d_X8_as_8 : Dc m_X8_as 8 (.iload_n 2) 1 9 := ⟨by decide +kernel, rfl⟩
theorem d_X8_as_9 : Dc m_X8_as 9 (.iconst 0) 1 10 := ⟨by decide +kernel, rfl⟩
theorem d_X8_as_10 : Dc m_X8_as 10 (.iconst 5) 1 11 := ⟨by decide +kernel, rfl⟩
theorem d_X8_as_11 : Dc m_X8_as 11 (.invokestatic 59) 3 14 := ⟨by decide +kernel, rfl⟩
theorem d_X8_as_14 : Dc m_X8_as 14 (.ifCond .ne 6) 3 17 := ⟨by decide +kernel, rfl⟩
theorem d_X8_as_17 : Dc m_X8_as 17 (.ldc 72) 2 19 := ⟨by decide +kernel, rfl⟩
theorem d_X8_as_19 : Dc m_X8_as 19 (.ireturn) 1 20 := ⟨by decide +kernel, rfl⟩
theorem d_X8_as_20 : Dc m_X8_as 20 (.aload_n 0) 1 21 := ⟨by decide +kernel, rfl⟩
theorem d_X8_as_21 : Dc m_X8_as 21 (.getfield 22) 3 24 := ⟨by decide +kernel, rfl⟩
theorem d_X8_as_24 : Dc m_X8_as 24 (.bipush 9) 2 26 := ⟨by decide +kernel, rfl⟩
theorem d_X8_as_26 : Dc m_X8_as 26 (.iload_n 1) 1 27 := ⟨by decide +kernel, rfl⟩
theorem d_X8_as_27 : Dc m_X8_as 27 (.iadd) 1 28 := ⟨by decide +kernel, rfl⟩
theorem d_X8_as_28 : Dc m_X8_as 28 (.iaload) 1 29 := ⟨by decide +kernel, rfl⟩
theorem d_X8_as_29 : Dc m_X8_as 29 (.istore_n 3) 1 30 := ⟨by decide +kernel, rfl⟩
theorem d_X8_as_30 : Dc m_X8_as 30 (.iload_n 2) 1 31 := ⟨by decide +kernel, rfl⟩
theorem d_X8_as_31 : Dc m_X8_as 31 (.ifCond .eq 16) 3 34 := ⟨by decide +kernel, rfl⟩
theorem d_X8_as_34 : Dc m_X8_as 34 (.iload_n 3) 1 35 := ⟨by decide +kernel, rfl⟩
theorem d_X8_as_35 : Dc m_X8_as 35 (.iload_n 2) 1 36 := ⟨by decide +kernel, rfl⟩
theorem d_X8_as_36 : Dc m_X8_as 36 (.if_icmp .eq 11) 3 39 := ⟨by decide +kernel, rfl⟩
theorem d_X8_as_39 : Dc m_X8_as 39 (.iload_n 3) 1 40 := ⟨by decide +kernel, rfl⟩
theorem d_X8_as_40 : Dc m_X8_as 40 (.invokestatic 212) 3 43 := ⟨by decide +kernel, rfl⟩
theorem d_X8_as_43 : Dc m_X8_as 43 (.iload_n 2) 1 44 := ⟨by decide +kernel, rfl⟩
theorem d_X8_as_44 : Dc m_X8_as 44 (.if_icmp .ne 7) 3 47 := ⟨by decide +kernel, rfl⟩
theorem d_X8_as_47 : Dc m_X8_as 47 (.iconst 1) 1 48 := ⟨by decide +kernel, rfl⟩
theorem d_X8_as_48 : Dc m_X8_as 48 (.goto 4) 3 51 := ⟨by decide +kernel, rfl⟩
theorem d_X8_as_51 : Dc m_X8_as 51 (.iconst 0) 1 52 := ⟨by decide +kernel, rfl⟩
theorem d_X8_as_52 : Dc m_X8_as 52 (.istore 4) 2 54 := ⟨by decide +kernel, rfl⟩
theorem d_X8_as_54 : Dc m_X8_as 54 (.iload 4) 2 56 := ⟨by decide +kernel, rfl⟩
theorem d_X8_as_56 : Dc m_X8_as 56 (.ifCond .eq 11) 3 59 := ⟨by decide +kernel, rfl⟩
theorem d_X8_as_59 : Dc m_X8_as 59 (.aload_n 0) 1 60 := ⟨by decide +kernel, rfl⟩
theorem d_X8_as_60 : Dc m_X8_as 60 (.iload_n 1) 1 61 := ⟨by decide +kernel, rfl⟩
theorem d_X8_as_61 : Dc m_X8_as 61 (.invokevirtual 77) 3 64 := ⟨by decide +kernel, rfl⟩
theorem d_X8_as_64 : Dc m_X8_as 64 (.goto 8) 3 67 := ⟨by decide +kernel, rfl⟩
theorem d_X8_as_67 : Dc m_X8_as 67 (.aload_n 0) 1 68 := ⟨by decide +kernel, rfl⟩
theorem d_X8_as_68 : Dc m_X8_as 68 (.iconst 3) 1 69 := ⟨by decide +kernel, rfl⟩
theorem d_X8_as_69 : Dc m_X8_as 69 (.invokevirtual 73) 3 72 := ⟨by decide +kernel, rfl⟩
theorem d_X8_as_72 : Dc m_X8_as 72 (.ireturn) 1 73 := ⟨by decide +kernel, rfl⟩
theorem d_X8_begins_0 : Dc m_X8_begins 0 (.aload_n 0) 1 1 := ⟨by decide +kernel, rfl⟩
theorem d_X8_begins_1 : Dc m_X8_begins 1 (.getfield 215) 3 4 := ⟨by decide +kernel, rfl⟩
theorem d_X8_begins_4 : Dc m_X8_begins 4 (.bipush 16) 2 6 := ⟨by decide +kernel, rfl⟩
theorem d_X8_begins_6 : Dc m_X8_begins 6 (.if_icmp .ge 23) 3 9 := ⟨by decide +kernel, rfl⟩
theorem d_X8_begins_9 : Dc m_X8_begins 9 (.aload_n 0) 1 10 := ⟨by decide +kernel, rfl⟩
theorem d_X8_begins_10 : Dc m_X8_begins 10 (.getfield 41) 3 13 := ⟨by decide +kernel, rfl⟩
theorem d_X8_begins_13 : Dc m_X8_begins 13 (.aload_n 0) 1 14 := ⟨by decide +kernel, rfl⟩
theorem d_X8_begins_14 : Dc m_X8_begins 14 (.getfield 215) 3 17 := ⟨by decide +kernel, rfl⟩
theorem d_X8_begins_17 : Dc m_X8_begins 17 (.iload_n 1) 1 18 := ⟨by decide +kernel, rfl⟩
theorem d_X8_begins_18 : Dc m_X8_begins 18 (.iastore) 1 19 := ⟨by decide +kernel, rfl⟩
theorem d_X8_begins_19 : Dc m_X8_begins 19 (.aload_n 0) 1 20 := ⟨by decide +kernel, rfl⟩
theorem d_X8_begins_20 : Dc m_X8_begins 20 (.dup) 1 21 := ⟨by decide +kernel, rfl⟩
theorem d_X8_begins_21 : Dc m_X8_begins 21 (.getfield 215) 3 24 := ⟨by decide +kernel, rfl⟩
theorem d_X8_begins_24 : Dc m_X8_begins 24 (.iconst 1) 1 25 := ⟨by decide +kernel, rfl⟩
theorem d_X8_begins_25 : Dc m_X8_begins 25 (.iadd) 1 26 := ⟨by decide +kernel, rfl⟩
theorem d_X8_begins_26 : Dc m_X8_begins 26 (.putfield 215) 3 29 := ⟨by decide +kernel, rfl⟩
theorem d_X8_begins_29 : Dc m_X8_begins 29 (.return_) 1 30 := ⟨by decide +kernel, rfl⟩
theorem d_X8_markFresh_0 : Dc m_X8_markFresh 0 (.aload_n 0) 1 1 := ⟨by decide +kernel, rfl⟩
theorem d_X8_markFresh_1 : Dc m_X8_markFresh 1 (.bipush 21) 2 3 := ⟨by decide +kernel, rfl⟩
theorem d_X8_markFresh_3 : Dc m_X8_markFresh 3 (.invokevirtual 218) 3 6 := ⟨by decide +kernel, rfl⟩
theorem d_X8_markFresh_6 : Dc m_X8_markFresh 6 (.aload_n 0) 1 7 := ⟨by decide +kernel, rfl⟩
theorem d_X8_markFresh_7 : Dc m_X8_markFresh 7 (.bipush 20) 2 9 := ⟨by decide +kernel, rfl⟩
theorem d_X8_markFresh_9 : Dc m_X8_markFresh 9 (.invokevirtual 218) 3 12 := ⟨by decide +kernel, rfl⟩
theorem d_X8_markFresh_12 : Dc m_X8_markFresh 12 (.iload_n 1) 1 13 := ⟨by decide +kernel, rfl⟩
theorem d_X8_markFresh_13 : Dc m_X8_markFresh 13 (.aload_n 0) 1 14 := ⟨by decide +kernel, rfl⟩
theorem d_X8_markFresh_14 : Dc m_X8_markFresh 14 (.getfield 22) 3 17 := ⟨by decide +kernel, rfl⟩
theorem d_X8_markFresh_17 : Dc m_X8_markFresh 17 (.bipush 15) 2 19 := ⟨by decide +kernel, rfl⟩
theorem d_X8_markFresh_19 : Dc m_X8_markFresh 19 (.iload_n 1) 1 20 := ⟨by decide +kernel, rfl⟩
theorem d_X8_markFresh_20 : Dc m_X8_markFresh 20 (.iadd) 1 21 := ⟨by decide +kernel, rfl⟩
theorem d_X8_markFresh_21 : Dc m_X8_markFresh 21 (.iaload) 1 22 := ⟨by decide +kernel, rfl⟩
theorem d_X8_markFresh_22 : Dc m_X8_markFresh 22 (.iadd) 1 23 := ⟨by decide +kernel, rfl⟩
theorem d_X8_markFresh_23 : Dc m_X8_markFresh 23 (.ireturn) 1 24 := ⟨by decide +kernel, rfl⟩
theorem d_X8_markNew_0 : Dc m_X8_markNew 0 (.aload_n 0) 1 1 := ⟨by decide +kernel, rfl⟩
theorem d_X8_markNew_1 : Dc m_X8_markNew 1 (.getfield 22) 3 4 := ⟨by decide +kernel, rfl⟩
theorem d_X8_markNew_4 : Dc m_X8_markNew 4 (.bipush 9) 2 6 := ⟨by decide +kernel, rfl⟩
theorem d_X8_markNew_6 : Dc m_X8_markNew 6 (.iload_n 1) 1 7 := ⟨by decide +kernel, rfl⟩
theorem d_X8_markNew_7 : Dc m_X8_markNew 7 (.iadd) 1 8 := ⟨by decide +kernel, rfl⟩
theorem d_X8_markNew_8 : Dc m_X8_markNew 8 (.iaload) 1 9 := ⟨by decide +kernel, rfl⟩
theorem d_X8_markNew_9 : Dc m_X8_markNew 9 (.istore_n 2) 1 10 := ⟨by decide +kernel, rfl⟩
theorem d_X8_markNew_10 : Dc m_X8_markNew 10 (.iload_n 2) 1 11 := ⟨by decide +kernel, rfl⟩
theorem d_X8_markNew_11 : Dc m_X8_markNew 11 (.iconst 2) 1 12 := ⟨by decide +kernel, rfl⟩
theorem d_X8_markNew_12 : Dc m_X8_markNew 12 (.if_icmp .ne 17) 3 15 := ⟨by decide +kernel, rfl⟩
theorem d_X8_markNew_15 : Dc m_X8_markNew 15 (.aload_n 0) 1 16 := ⟨by decide +kernel, rfl⟩
theorem d_X8_markNew_16 : Dc m_X8_markNew 16 (.bipush 24) 2 18 := ⟨by decide +kernel, rfl⟩
theorem d_X8_markNew_18 : Dc m_X8_markNew 18 (.invokevirtual 218) 3 21 := ⟨by decide +kernel, rfl⟩
theorem d_X8_markNew_21 : Dc m_X8_markNew 21 (.iconst 2) 1 22 := ⟨by decide +kernel, rfl⟩
theorem d_X8_markNew_22 : Dc m_X8_markNew 22 (.aload_n 0) 1 23 := ⟨by decide +kernel, rfl⟩
theorem d_X8_markNew_23 : Dc m_X8_markNew 23 (.iload_n 1) 1 24 := ⟨by decide +kernel, rfl⟩
theorem d_X8_markNew_24 : Dc m_X8_markNew 24 (.invokevirtual 222) 3 27 := ⟨by decide +kernel, rfl⟩
theorem d_X8_markNew_27 : Dc m_X8_markNew 27 (.imul) 1 28 := ⟨by decide +kernel, rfl⟩
theorem d_X8_markNew_28 : Dc m_X8_markNew 28 (.ireturn) 1 29 := ⟨by decide +kernel, rfl⟩
theorem d_X8_markNew_29 : Dc m_X8_markNew 29 (.iload_n 2) 1 30 := ⟨by decide +kernel, rfl⟩
theorem d_X8_markNew_30 : Dc m_X8_markNew 30 (.iconst 3) 1 31 := ⟨by decide +kernel, rfl⟩
theorem d_X8_markNew_31 : Dc m_X8_markNew 31 (.if_icmp .ne 19) 3 34 := ⟨by decide +kernel, rfl⟩
theorem d_X8_markNew_34 : Dc m_X8_markNew 34 (.aload_n 0) 1 35 := ⟨by decide +kernel, rfl⟩
theorem d_X8_markNew_35 : Dc m_X8_markNew 35 (.bipush 22) 2 37 := ⟨by decide +kernel, rfl⟩
theorem d_X8_markNew_37 : Dc m_X8_markNew 37 (.invokevirtual 218) 3 40 := ⟨by decide +kernel, rfl⟩
theorem d_X8_markNew_40 : Dc m_X8_markNew 40 (.aload_n 0) 1 41 := ⟨by decide +kernel, rfl⟩
theorem d_X8_markNew_41 : Dc m_X8_markNew 41 (.iload_n 1) 1 42 := ⟨by decide +kernel, rfl⟩
theorem d_X8_markNew_42 : Dc m_X8_markNew 42 (.invokevirtual 222) 3 45 := ⟨by decide +kernel, rfl⟩
theorem d_X8_markNew_45 : Dc m_X8_markNew 45 (.sipush 1000) 3 48 := ⟨by decide +kernel, rfl⟩
theorem d_X8_markNew_48 : Dc m_X8_markNew 48 (.isub) 1 49 := ⟨by decide +kernel, rfl⟩
theorem d_X8_markNew_49 : Dc m_X8_markNew 49 (.ireturn) 1 50 := ⟨by decide +kernel, rfl⟩
theorem d_X8_markNew_50 : Dc m_X8_markNew 50 (.aload_n 0) 1 51 := ⟨by decide +kernel, rfl⟩
theorem d_X8_markNew_51 : Dc m_X8_markNew 51 (.iload_n 1) 1 52 := ⟨by decide +kernel, rfl⟩
theorem d_X8_markNew_52 : Dc m_X8_markNew 52 (.invokevirtual 222) 3 55 := ⟨by decide +kernel, rfl⟩
theorem d_X8_markNew_55 : Dc m_X8_markNew 55 (.ireturn) 1 56 := ⟨by decide +kernel, rfl⟩
theorem d_X8_sizeOld_0 : Dc m_X8_sizeOld 0 (.aload_n 0) 1 1 := ⟨by decide +kernel, rfl⟩
theorem d_X8_sizeOld_1 : Dc m_X8_sizeOld 1 (.bipush 13) 2 3 := ⟨by decide +kernel, rfl⟩
theorem d_X8_sizeOld_3 : Dc m_X8_sizeOld 3 (.invokevirtual 218) 3 6 := ⟨by decide +kernel, rfl⟩
theorem d_X8_sizeOld_6 : Dc m_X8_sizeOld 6 (.aload_n 0) 1 7 := ⟨by decide +kernel, rfl⟩
theorem d_X8_sizeOld_7 : Dc m_X8_sizeOld 7 (.bipush 10) 2 9 := ⟨by decide +kernel, rfl⟩
theorem d_X8_sizeOld_9 : Dc m_X8_sizeOld 9 (.invokevirtual 218) 3 12 := ⟨by decide +kernel, rfl⟩
theorem d_X8_sizeOld_12 : Dc m_X8_sizeOld 12 (.aload_n 0) 1 13 := ⟨by decide +kernel, rfl⟩
theorem d_X8_sizeOld_13 : Dc m_X8_sizeOld 13 (.getfield 22) 3 16 := ⟨by decide +kernel, rfl⟩
theorem d_X8_sizeOld_16 : Dc m_X8_sizeOld 16 (.bipush 21) 2 18 := ⟨by decide +kernel, rfl⟩
theorem d_X8_sizeOld_18 : Dc m_X8_sizeOld 18 (.iload_n 1) 1 19 := ⟨by decide +kernel, rfl⟩
theorem d_X8_sizeOld_19 : Dc m_X8_sizeOld 19 (.iadd) 1 20 := ⟨by decide +kernel, rfl⟩
theorem d_X8_sizeOld_20 : Dc m_X8_sizeOld 20 (.iaload) 1 21 := ⟨by decide +kernel, rfl⟩
theorem d_X8_sizeOld_21 : Dc m_X8_sizeOld 21 (.bipush 100) 2 23 := ⟨by decide +kernel, rfl⟩
theorem d_X8_sizeOld_23 : Dc m_X8_sizeOld 23 (.isub) 1 24 := ⟨by decide +kernel, rfl⟩
theorem d_X8_sizeOld_24 : Dc m_X8_sizeOld 24 (.ireturn) 1 25 := ⟨by decide +kernel, rfl⟩
theorem d_X8_sizeOf_0 : Dc m_X8_sizeOf 0 (.aload_n 0) 1 1 := ⟨by decide +kernel, rfl⟩
theorem d_X8_sizeOf_1 : Dc m_X8_sizeOf 1 (.getfield 22) 3 4 := ⟨by decide +kernel, rfl⟩
theorem d_X8_sizeOf_4 : Dc m_X8_sizeOf 4 (.bipush 9) 2 6 := ⟨by decide +kernel, rfl⟩
theorem d_X8_sizeOf_6 : Dc m_X8_sizeOf 6 (.iload_n 1) 1 7 := ⟨by decide +kernel, rfl⟩
theorem d_X8_sizeOf_7 : Dc m_X8_sizeOf 7 (.iadd) 1 8 := ⟨by decide +kernel, rfl⟩
theorem d_X8_sizeOf_8 : Dc m_X8_sizeOf 8 (.iaload) 1 9 := ⟨by decide +kernel, rfl⟩
theorem d_X8_sizeOf_9 : Dc m_X8_sizeOf 9 (.istore_n 2) 1 10 := ⟨by decide +kernel, rfl⟩
theorem d_X8_sizeOf_10 : Dc m_X8_sizeOf 10 (.iload_n 2) 1 11 := ⟨by decide +kernel, rfl⟩
theorem d_X8_sizeOf_11 : Dc m_X8_sizeOf 11 (.iconst 5) 1 12 := ⟨by decide +kernel, rfl⟩
theorem d_X8_sizeOf_12 : Dc m_X8_sizeOf 12 (.if_icmp .ne 17) 3 15 := ⟨by decide +kernel, rfl⟩
theorem d_X8_sizeOf_15 : Dc m_X8_sizeOf 15 (.aload_n 0) 1 16 := ⟨by decide +kernel, rfl⟩
theorem d_X8_sizeOf_16 : Dc m_X8_sizeOf 16 (.bipush 14) 2 18 := ⟨by decide +kernel, rfl⟩
theorem d_X8_sizeOf_18 : Dc m_X8_sizeOf 18 (.invokevirtual 218) 3 21 := ⟨by decide +kernel, rfl⟩
theorem d_X8_sizeOf_21 : Dc m_X8_sizeOf 21 (.iconst 2) 1 22 := ⟨by decide +kernel, rfl⟩
theorem d_X8_sizeOf_22 : Dc m_X8_sizeOf 22 (.aload_n 0) 1 23 := ⟨by decide +kernel, rfl⟩
theorem d_X8_sizeOf_23 : Dc m_X8_sizeOf 23 (.iload_n 1) 1 24 := ⟨by decide +kernel, rfl⟩
theorem d_X8_sizeOf_24 : Dc m_X8_sizeOf 24 (.invokevirtual 225) 3 27 := ⟨by decide +kernel, rfl⟩
theorem d_X8_sizeOf_27 : Dc m_X8_sizeOf 27 (.imul) 1 28 := ⟨by decide +kernel, rfl⟩
theorem d_X8_sizeOf_28 : Dc m_X8_sizeOf 28 (.ireturn) 1 29 := ⟨by decide +kernel, rfl⟩
theorem d_X8_sizeOf_29 : Dc m_X8_sizeOf 29 (.iload_n 2) 1 30 := ⟨by decide +kernel, rfl⟩
theorem d_X8_sizeOf_30 : Dc m_X8_sizeOf 30 (.iconst 4) 1 31 := ⟨by decide +kernel, rfl⟩
theorem d_X8_sizeOf_31 : Dc m_X8_sizeOf 31 (.if_icmp .ne 9) 3 34 := ⟨by decide +kernel, rfl⟩
theorem d_X8_sizeOf_34 : Dc m_X8_sizeOf 34 (.aload_n 0) 1 35 := ⟨by decide +kernel, rfl⟩
theorem d_X8_sizeOf_35 : Dc m_X8_sizeOf 35 (.iload_n 1) 1 36 := ⟨by decide +kernel, rfl⟩
theorem d_X8_sizeOf_36 : Dc m_X8_sizeOf 36 (.invokevirtual 225) 3 39 := ⟨by decide +kernel, rfl⟩
theorem d_X8_sizeOf_39 : Dc m_X8_sizeOf 39 (.ireturn) 1 40 := ⟨by decide +kernel, rfl⟩
theorem d_X8_sizeOf_40 : Dc m_X8_sizeOf 40 (.iload_n 2) 1 41 := ⟨by decide +kernel, rfl⟩
theorem d_X8_sizeOf_41 : Dc m_X8_sizeOf 41 (.iconst 2) 1 42 := ⟨by decide +kernel, rfl⟩
theorem d_X8_sizeOf_42 : Dc m_X8_sizeOf 42 (.if_icmp .ne 9) 3 45 := ⟨by decide +kernel, rfl⟩
theorem d_X8_sizeOf_45 : Dc m_X8_sizeOf 45 (.aload_n 0) 1 46 := ⟨by decide +kernel, rfl⟩
theorem d_X8_sizeOf_46 : Dc m_X8_sizeOf 46 (.bipush 12) 2 48 := ⟨by decide +kernel, rfl⟩
theorem d_X8_sizeOf_48 : Dc m_X8_sizeOf 48 (.invokevirtual 218) 3 51 := ⟨by decide +kernel, rfl⟩
theorem d_X8_sizeOf_51 : Dc m_X8_sizeOf 51 (.aload_n 0) 1 52 := ⟨by decide +kernel, rfl⟩
theorem d_X8_sizeOf_52 : Dc m_X8_sizeOf 52 (.bipush 11) 2 54 := ⟨by decide +kernel, rfl⟩
theorem d_X8_sizeOf_54 : Dc m_X8_sizeOf 54 (.invokevirtual 218) 3 57 := ⟨by decide +kernel, rfl⟩
theorem d_X8_sizeOf_57 : Dc m_X8_sizeOf 57 (.aload_n 0) 1 58 := ⟨by decide +kernel, rfl⟩
theorem d_X8_sizeOf_58 : Dc m_X8_sizeOf 58 (.bipush 10) 2 60 := ⟨by decide +kernel, rfl⟩
theorem d_X8_sizeOf_60 : Dc m_X8_sizeOf 60 (.invokevirtual 218) 3 63 := ⟨by decide +kernel, rfl⟩
theorem d_X8_sizeOf_63 : Dc m_X8_sizeOf 63 (.aload_n 0) 1 64 := ⟨by decide +kernel, rfl⟩
theorem d_X8_sizeOf_64 : Dc m_X8_sizeOf 64 (.getfield 22) 3 67 := ⟨by decide +kernel, rfl⟩
theorem d_X8_sizeOf_67 : Dc m_X8_sizeOf 67 (.bipush 21) 2 69 := ⟨by decide +kernel, rfl⟩
theorem d_X8_sizeOf_69 : Dc m_X8_sizeOf 69 (.iload_n 1) 1 70 := ⟨by decide +kernel, rfl⟩
theorem d_X8_sizeOf_70 : Dc m_X8_sizeOf 70 (.iadd) 1 71 := ⟨by decide +kernel, rfl⟩
theorem d_X8_sizeOf_71 : Dc m_X8_sizeOf 71 (.iaload) 1 72 := ⟨by decide +kernel, rfl⟩
theorem d_X8_sizeOf_72 : Dc m_X8_sizeOf 72 (.aload_n 0) 1 73 := ⟨by decide +kernel, rfl⟩
theorem d_X8_sizeOf_73 : Dc m_X8_sizeOf 73 (.iload_n 1) 1 74 := ⟨by decide +kernel, rfl⟩
theorem d_X8_sizeOf_74 : Dc m_X8_sizeOf 74 (.invokevirtual 228) 3 77 := ⟨by decide +kernel, rfl⟩
theorem d_X8_sizeOf_77 : Dc m_X8_sizeOf 77 (.iadd) 1 78 := ⟨by decide +kernel, rfl⟩
theorem d_X8_sizeOf_78 : Dc m_X8_sizeOf 78 (.istore_n 3) 1 79 := ⟨by decide +kernel, rfl⟩
theorem d_X8_sizeOf_79 : Dc m_X8_sizeOf 79 (.iload_n 2) 1 80 := ⟨by decide +kernel, rfl⟩
theorem d_X8_sizeOf_80 : Dc m_X8_sizeOf 80 (.iconst 2) 1 81 := ⟨by decide +kernel, rfl⟩
theorem d_X8_sizeOf_81 : Dc m_X8_sizeOf 81 (.if_icmp .ne 8) 3 84 := ⟨by decide +kernel, rfl⟩
theorem d_X8_sizeOf_84 : Dc m_X8_sizeOf 84 (.iload_n 3) 1 85 := ⟨by decide +kernel, rfl⟩
theorem d_X8_sizeOf_85 : Dc m_X8_sizeOf 85 (.ineg) 1 86 := ⟨by decide +kernel, rfl⟩
theorem d_X8_sizeOf_86 : Dc m_X8_sizeOf 86 (.goto 4) 3 89 := ⟨by decide +kernel, rfl⟩
theorem d_X8_sizeOf_89 : Dc m_X8_sizeOf 89 (.iload_n 3) 1 90 := ⟨by decide +kernel, rfl⟩
theorem d_X8_sizeOf_90 : Dc m_X8_sizeOf 90 (.ireturn) 1 91 := ⟨by decide +kernel, rfl⟩
theorem d_X8_markOf_0 : Dc m_X8_markOf 0 (.aload_n 0) 1 1 := ⟨by decide +kernel, rfl⟩
theorem d_X8_markOf_1 : Dc m_X8_markOf 1 (.getfield 22) 3 4 := ⟨by decide +kernel, rfl⟩
theorem d_X8_markOf_4 : Dc m_X8_markOf 4 (.bipush 9) 2 6 := ⟨by decide +kernel, rfl⟩
theorem d_X8_markOf_6 : Dc m_X8_markOf 6 (.iload_n 1) 1 7 := ⟨by decide +kernel, rfl⟩
theorem d_X8_markOf_7 : Dc m_X8_markOf 7 (.iadd) 1 8 := ⟨by decide +kernel, rfl⟩
theorem d_X8_markOf_8 : Dc m_X8_markOf 8 (.iaload) 1 9 := ⟨by decide +kernel, rfl⟩
theorem d_X8_markOf_9 : Dc m_X8_markOf 9 (.iconst 4) 1 10 := ⟨by decide +kernel, rfl⟩
theorem d_X8_markOf_10 : Dc m_X8_markOf 10 (.if_icmp .ge 9) 3 13 := ⟨by decide +kernel, rfl⟩
theorem d_X8_markOf_13 : Dc m_X8_markOf 13 (.aload_n 0) 1 14 := ⟨by decide +kernel, rfl⟩
theorem d_X8_markOf_14 : Dc m_X8_markOf 14 (.iload_n 1) 1 15 := ⟨by decide +kernel, rfl⟩
theorem d_X8_markOf_15 : Dc m_X8_markOf 15 (.invokevirtual 228) 3 18 := ⟨by decide +kernel, rfl⟩
theorem d_X8_markOf_18 : Dc m_X8_markOf 18 (.ireturn) 1 19 := ⟨by decide +kernel, rfl⟩
theorem d_X8_markOf_19 : Dc m_X8_markOf 19 (.aload_n 0) 1 20 := ⟨by decide +kernel, rfl⟩
theorem d_X8_markOf_20 : Dc m_X8_markOf 20 (.bipush 23) 2 22 := ⟨by decide +kernel, rfl⟩
theorem d_X8_markOf_22 : Dc m_X8_markOf 22 (.invokevirtual 218) 3 25 := ⟨by decide +kernel, rfl⟩
theorem d_X8_markOf_25 : Dc m_X8_markOf 25 (.aload_n 0) 1 26 := ⟨by decide +kernel, rfl⟩
theorem d_X8_markOf_26 : Dc m_X8_markOf 26 (.bipush 20) 2 28 := ⟨by decide +kernel, rfl⟩
theorem d_X8_markOf_28 : Dc m_X8_markOf 28 (.invokevirtual 218) 3 31 := ⟨by decide +kernel, rfl⟩
theorem d_X8_markOf_31 : Dc m_X8_markOf 31 (.iload_n 1) 1 32 := ⟨by decide +kernel, rfl⟩
theorem d_X8_markOf_32 : Dc m_X8_markOf 32 (.aload_n 0) 1 33 := ⟨by decide +kernel, rfl⟩
theorem d_X8_markOf_33 : Dc m_X8_markOf 33 (.iload_n 1) 1 34 := ⟨by decide +kernel, rfl⟩
theorem d_X8_markOf_34 : Dc m_X8_markOf 34 (.invokevirtual 231) 3 37 := ⟨by decide +kernel, rfl⟩
theorem d_X8_markOf_37 : Dc m_X8_markOf 37 (.isub) 1 38 := ⟨by decide +kernel, rfl⟩
theorem d_X8_markOf_38 : Dc m_X8_markOf 38 (.ireturn) 1 39 := ⟨by decide +kernel, rfl⟩
theorem d_X8_ask_0 : Dc m_X8_ask 0 (.aload_n 0) 1 1 := ⟨by decide +kernel, rfl⟩
theorem d_X8_ask_1 : Dc m_X8_ask 1 (.iload_n 1) 1 2 := ⟨by decide +kernel, rfl⟩
theorem d_X8_ask_2 : Dc m_X8_ask 2 (.invokevirtual 150) 3 5 := ⟨by decide +kernel, rfl⟩
theorem d_X8_ask_5 : Dc m_X8_ask 5 (.ifCond .eq 12) 3 8 := ⟨by decide +kernel, rfl⟩
theorem d_X8_ask_8 : Dc m_X8_ask 8 (.iload_n 2) 1 9 := ⟨by decide +kernel, rfl⟩
theorem d_X8_ask_9 : Dc m_X8_ask 9 (.iconst 0) 1 10 := ⟨by decide +kernel, rfl⟩
theorem d_X8_ask_10 : Dc m_X8_ask 10 (.iconst 1) 1 11 := ⟨by decide +kernel, rfl⟩
theorem d_X8_ask_11 : Dc m_X8_ask 11 (.invokestatic 59) 3 14 := ⟨by decide +kernel, rfl⟩
theorem d_X8_ask_14 : Dc m_X8_ask 14 (.ifCond .ne 6) 3 17 := ⟨by decide +kernel, rfl⟩
theorem d_X8_ask_17 : Dc m_X8_ask 17 (.ldc 72) 2 19 := ⟨by decide +kernel, rfl⟩
theorem d_X8_ask_19 : Dc m_X8_ask 19 (.ireturn) 1 20 := ⟨by decide +kernel, rfl⟩
theorem d_X8_ask_20 : Dc m_X8_ask 20 (.aload_n 0) 1 21 := ⟨by decide +kernel, rfl⟩
theorem d_X8_ask_21 : Dc m_X8_ask 21 (.iconst 0) 1 22 := ⟨by decide +kernel, rfl⟩
theorem d_X8_ask_22 : Dc m_X8_ask 22 (.putfield 215) 3 25 := ⟨by decide +kernel, rfl⟩
theorem d_X8_ask_25 : Dc m_X8_ask 25 (.iload_n 2) 1 26 := ⟨by decide +kernel, rfl⟩
theorem d_X8_ask_26 : Dc m_X8_ask 26 (.ifCond .ne 11) 3 29 := ⟨by decide +kernel, rfl⟩
theorem d_X8_ask_29 : Dc m_X8_ask 29 (.aload_n 0) 1 30 := ⟨by decide +kernel, rfl⟩
theorem d_X8_ask_30 : Dc m_X8_ask 30 (.iload_n 1) 1 31 := ⟨by decide +kernel, rfl⟩
theorem d_X8_ask_31 : Dc m_X8_ask 31 (.invokevirtual 231) 3 34 := ⟨by decide +kernel, rfl⟩
theorem d_X8_ask_34 : Dc m_X8_ask 34 (.goto 8) 3 37 := ⟨by decide +kernel, rfl⟩
theorem d_X8_ask_37 : Dc m_X8_ask 37 (.aload_n 0) 1 38 := ⟨by decide +kernel, rfl⟩
theorem d_X8_ask_38 : Dc m_X8_ask 38 (.iload_n 1) 1 39 := ⟨by decide +kernel, rfl⟩
theorem d_X8_ask_39 : Dc m_X8_ask 39 (.invokevirtual 234) 3 42 := ⟨by decide +kernel, rfl⟩
theorem d_X8_ask_42 : Dc m_X8_ask 42 (.ireturn) 1 43 := ⟨by decide +kernel, rfl⟩
theorem d_X8_trace_0 : Dc m_X8_trace 0 (.iload_n 1) 1 1 := ⟨by decide +kernel, rfl⟩
theorem d_X8_trace_1 : Dc m_X8_trace 1 (.iconst 0) 1 2 := ⟨by decide +kernel, rfl⟩
theorem d_X8_trace_2 : Dc m_X8_trace 2 (.aload_n 0) 1 3 := ⟨by decide +kernel, rfl⟩
theorem d_X8_trace_3 : Dc m_X8_trace 3 (.getfield 215) 3 6 := ⟨by decide +kernel, rfl⟩
theorem d_X8_trace_6 : Dc m_X8_trace 6 (.iconst 1) 1 7 := ⟨by decide +kernel, rfl⟩
theorem d_X8_trace_7 : Dc m_X8_trace 7 (.isub) 1 8 := ⟨by decide +kernel, rfl⟩
theorem d_X8_trace_8 : Dc m_X8_trace 8 (.invokestatic 59) 3 11 := ⟨by decide +kernel, rfl⟩
theorem d_X8_trace_11 : Dc m_X8_trace 11 (.ifCond .eq 12) 3 14 := ⟨by decide +kernel, rfl⟩
theorem d_X8_trace_14 : Dc m_X8_trace 14 (.aload_n 0) 1 15 := ⟨by decide +kernel, rfl⟩
theorem d_X8_trace_15 : Dc m_X8_trace 15 (.getfield 41) 3 18 := ⟨by decide +kernel, rfl⟩
theorem d_X8_trace_18 : Dc m_X8_trace 18 (.iload_n 1) 1 19 := ⟨by decide +kernel, rfl⟩
theorem d_X8_trace_19 : Dc m_X8_trace 19 (.iaload) 1 20 := ⟨by decide +kernel, rfl⟩
theorem d_X8_trace_20 : Dc m_X8_trace 20 (.goto 5) 3 23 := ⟨by decide +kernel, rfl⟩
theorem d_X8_trace_23 : Dc m_X8_trace 23 (.ldc 167) 2 25 := ⟨by decide +kernel, rfl⟩
theorem d_X8_trace_25 : Dc m_X8_trace 25 (.ireturn) 1 26 := ⟨by decide +kernel, rfl⟩
theorem d_X8_count_0 : Dc m_X8_count 0 (.iconst 0) 1 1 := ⟨by decide +kernel, rfl⟩
theorem d_X8_count_1 : Dc m_X8_count 1 (.istore_n 2) 1 2 := ⟨by decide +kernel, rfl⟩
theorem d_X8_count_2 : Dc m_X8_count 2 (.iconst 0) 1 3 := ⟨by decide +kernel, rfl⟩
theorem d_X8_count_3 : Dc m_X8_count 3 (.istore_n 3) 1 4 := ⟨by decide +kernel, rfl⟩
theorem d_X8_count_4 : Dc m_X8_count 4 (.iload_n 3) 1 5 := ⟨by decide +kernel, rfl⟩
theorem d_X8_count_5 : Dc m_X8_count 5 (.bipush 8) 2 7 := ⟨by decide +kernel, rfl⟩
theorem d_X8_count_7 : Dc m_X8_count 7 (.if_icmp .ge 26) 3 10 := ⟨by decide +kernel, rfl⟩
theorem d_X8_count_10 : Dc m_X8_count 10 (.iload_n 2) 1 11 := ⟨by decide +kernel, rfl⟩
theorem d_X8_count_11 : Dc m_X8_count 11 (.aload_n 0) 1 12 := ⟨by decide +kernel, rfl⟩
theorem d_X8_count_12 : Dc m_X8_count 12 (.getfield 7) 3 15 := ⟨by decide +kernel, rfl⟩
theorem d_X8_count_15 : Dc m_X8_count 15 (.iload_n 3) 1 16 := ⟨by decide +kernel, rfl⟩
theorem d_X8_count_16 : Dc m_X8_count 16 (.iaload) 1 17 := ⟨by decide +kernel, rfl⟩
theorem d_X8_count_17 : Dc m_X8_count 17 (.ifCond .ge 7) 3 20 := ⟨by decide +kernel, rfl⟩
theorem d_X8_count_20 : Dc m_X8_count 20 (.iconst 0) 1 21 := ⟨by decide +kernel, rfl⟩
theorem d_X8_count_21 : Dc m_X8_count 21 (.goto 4) 3 24 := ⟨by decide +kernel, rfl⟩
theorem d_X8_count_24 : Dc m_X8_count 24 (.iconst 1) 1 25 := ⟨by decide +kernel, rfl⟩
theorem d_X8_count_25 : Dc m_X8_count 25 (.iadd) 1 26 := ⟨by decide +kernel, rfl⟩
theorem d_X8_count_26 : Dc m_X8_count 26 (.istore_n 2) 1 27 := ⟨by decide +kernel, rfl⟩
theorem d_X8_count_27 : Dc m_X8_count 27 (.iinc 3 1) 3 30 := ⟨by decide +kernel, rfl⟩
theorem d_X8_count_30 : Dc m_X8_count 30 (.goto (-26)) 3 33 := ⟨by decide +kernel, rfl⟩
theorem d_X8_count_33 : Dc m_X8_count 33 (.iload_n 1) 1 34 := ⟨by decide +kernel, rfl⟩
theorem d_X8_count_34 : Dc m_X8_count 34 (.tableswitch 93 0 7 #[46, 48, 55, 62, 69, 76, 83, 88]) 46 80 := ⟨by decide +kernel, rfl⟩
theorem d_X8_count_80 : Dc m_X8_count 80 (.iload_n 2) 1 81 := ⟨by decide +kernel, rfl⟩
theorem d_X8_count_81 : Dc m_X8_count 81 (.ireturn) 1 82 := ⟨by decide +kernel, rfl⟩
theorem d_X8_count_82 : Dc m_X8_count 82 (.aload_n 0) 1 83 := ⟨by decide +kernel, rfl⟩
theorem d_X8_count_83 : Dc m_X8_count 83 (.getfield 22) 3 86 := ⟨by decide +kernel, rfl⟩
theorem d_X8_count_86 : Dc m_X8_count 86 (.iconst 4) 1 87 := ⟨by decide +kernel, rfl⟩
theorem d_X8_count_87 : Dc m_X8_count 87 (.iaload) 1 88 := ⟨by decide +kernel, rfl⟩
theorem d_X8_count_88 : Dc m_X8_count 88 (.ireturn) 1 89 := ⟨by decide +kernel, rfl⟩
theorem d_X8_count_89 : Dc m_X8_count 89 (.aload_n 0) 1 90 := ⟨by decide +kernel, rfl⟩
theorem d_X8_count_90 : Dc m_X8_count 90 (.getfield 22) 3 93 := ⟨by decide +kernel, rfl⟩
theorem d_X8_count_93 : Dc m_X8_count 93 (.iconst 1) 1 94 := ⟨by decide +kernel, rfl⟩
theorem d_X8_count_94 : Dc m_X8_count 94 (.iaload) 1 95 := ⟨by decide +kernel, rfl⟩
theorem d_X8_count_95 : Dc m_X8_count 95 (.ireturn) 1 96 := ⟨by decide +kernel, rfl⟩
theorem d_X8_count_96 : Dc m_X8_count 96 (.aload_n 0) 1 97 := ⟨by decide +kernel, rfl⟩
theorem d_X8_count_97 : Dc m_X8_count 97 (.getfield 22) 3 100 := ⟨by decide +kernel, rfl⟩
theorem d_X8_count_100 : Dc m_X8_count 100 (.iconst 0) 1 101 := ⟨by decide +kernel, rfl⟩
theorem d_X8_count_101 : Dc m_X8_count 101 (.iaload) 1 102 := ⟨by decide +kernel, rfl⟩
theorem d_X8_count_102 : Dc m_X8_count 102 (.ireturn) 1 103 := ⟨by decide +kernel, rfl⟩
theorem d_X8_count_103 : Dc m_X8_count 103 (.aload_n 0) 1 104 := ⟨by decide +kernel, rfl⟩
theorem d_X8_count_104 : Dc m_X8_count 104 (.getfield 22) 3 107 := ⟨by decide +kernel, rfl⟩
theorem d_X8_count_107 : Dc m_X8_count 107 (.iconst 2) 1 108 := ⟨by decide +kernel, rfl⟩
theorem d_X8_count_108 : Dc m_X8_count 108 (.iaload) 1 109 := ⟨by decide +kernel, rfl⟩
theorem d_X8_count_109 : Dc m_X8_count 109 (.ireturn) 1 110 := ⟨by decide +kernel, rfl⟩
theorem d_X8_count_110 : Dc m_X8_count 110 (.aload_n 0) 1 111 := ⟨by decide +kernel, rfl⟩
theorem d_X8_count_111 : Dc m_X8_count 111 (.getfield 22) 3 114 := ⟨by decide +kernel, rfl⟩
theorem d_X8_count_114 : Dc m_X8_count 114 (.iconst 3) 1 115 := ⟨by decide +kernel, rfl⟩
theorem d_X8_count_115 : Dc m_X8_count 115 (.iaload) 1 116 := ⟨by decide +kernel, rfl⟩
theorem d_X8_count_116 : Dc m_X8_count 116 (.ireturn) 1 117 := ⟨by decide +kernel, rfl⟩
theorem d_X8_count_117 : Dc m_X8_count 117 (.aload_n 0) 1 118 := ⟨by decide +kernel, rfl⟩
theorem d_X8_count_118 : Dc m_X8_count 118 (.getfield 137) 3 121 := ⟨by decide +kernel, rfl⟩
theorem d_X8_count_121 : Dc m_X8_count 121 (.ireturn) 1 122 := ⟨by decide +kernel, rfl⟩
theorem d_X8_count_122 : Dc m_X8_count 122 (.aload_n 0) 1 123 := ⟨by decide +kernel, rfl⟩
theorem d_X8_count_123 : Dc m_X8_count 123 (.getfield 83) 3 126 := ⟨by decide +kernel, rfl⟩
theorem d_X8_count_126 : Dc m_X8_count 126 (.ireturn) 1 127 := ⟨by decide +kernel, rfl⟩
theorem d_X8_count_127 : Dc m_X8_count 127 (.ldc 72) 2 129 := ⟨by decide +kernel, rfl⟩
theorem d_X8_count_129 : Dc m_X8_count 129 (.ireturn) 1 130 := ⟨by decide +kernel, rfl⟩
theorem d_X8_status_0 : Dc m_X8_status 0 (.aload_n 0) 1 1 := ⟨by decide +kernel, rfl⟩
theorem d_X8_status_1 : Dc m_X8_status 1 (.getfield 63) 3 4 := ⟨by decide +kernel, rfl⟩
theorem d_X8_status_4 : Dc m_X8_status 4 (.ireturn) 1 5 := ⟨by decide +kernel, rfl⟩
end
section
theorem d_L_law_0 : Dc m_L_law 0 (.new 7) 3 3 := ⟨by decide +kernel, rfl⟩
theorem d_L_law_3 : Dc m_L_law 3 (.dup) 1 4 := ⟨by decide +kernel, rfl⟩
theorem d_L_law_4 : Dc m_L_law 4 (.invokespecial 9) 3 7 := ⟨by decide +kernel, rfl⟩
theorem d_L_law_7 : Dc m_L_law 7 (.astore_n 1) 1 8 := ⟨by decide +kernel, rfl⟩
theorem d_L_law_8 : Dc m_L_law 8 (.new 10) 3 11 := ⟨by decide +kernel, rfl⟩
theorem d_L_law_11 : Dc m_L_law 11 (.dup) 1 12 := ⟨by decide +kernel, rfl⟩
theorem d_L_law_12 : Dc m_L_law 12 (.invokespecial 12) 3 15 := ⟨by decide +kernel, rfl⟩
theorem d_L_law_15 : Dc m_L_law 15 (.astore_n 2) 1 16 := ⟨by decide +kernel, rfl⟩
theorem d_L_law_16 : Dc m_L_law 16 (.iconst 0) 1 17 := ⟨by decide +kernel, rfl⟩
theorem d_L_law_17 : Dc m_L_law 17 (.istore_n 3) 1 18 := ⟨by decide +kernel, rfl⟩
theorem d_L_law_18 : Dc m_L_law 18 (.iload_n 3) 1 19 := ⟨by decide +kernel, rfl⟩
theorem d_L_law_19 : Dc m_L_law 19 (.aload_n 0) 1 20 := ⟨by decide +kernel, rfl⟩
theorem d_L_law_20 : Dc m_L_law 20 (.arraylength) 1 21 := ⟨by decide +kernel, rfl⟩
theorem d_L_law_21 : Dc m_L_law 21 (.bipush 7) 2 23 := ⟨by decide +kernel, rfl⟩
theorem d_L_law_23 : Dc m_L_law 23 (.isub) 1 24 := ⟨by decide +kernel, rfl⟩
theorem d_L_law_24 : Dc m_L_law 24 (.if_icmp .gt 1030) 3 27 := ⟨by decide +kernel, rfl⟩
theorem d_L_law_27 : Dc m_L_law 27 (.aload_n 0) 1 28 := ⟨by decide +kernel, rfl⟩
theorem d_L_law_28 : Dc m_L_law 28 (.iload_n 3) 1 29 := ⟨by decide +kernel, rfl⟩
theorem d_L_law_29 : Dc m_L_law 29 (.iaload) 1 30 := ⟨by decide +kernel, rfl⟩
theorem d_L_law_30 : Dc m_L_law 30 (.bipush 31) 2 32 := ⟨by decide +kernel, rfl⟩
theorem d_L_law_32 : Dc m_L_law 32 (.iand) 1 33 := ⟨by decide +kernel, rfl⟩
theorem d_L_law_33 : Dc m_L_law 33 (.tableswitch 1015 0 27 #[127, 170, 213, 276, 299, 322, 335, 348, 371, 394, 427, 460, 473, 506, 539, 562, 595, 628, 703, 778, 821, 844, 867, 890, 923, 956, 979, 1002]) 127 160 := ⟨by decide +kernel, rfl⟩
theorem d_L_law_160 : Dc m_L_law 160 (.aload_n 1) 1 161 := ⟨by decide +kernel, rfl⟩
theorem d_L_law_161 : Dc m_L_law 161 (.aload_n 0) 1 162 := ⟨by decide +kernel, rfl⟩
theorem d_L_law_162 : Dc m_L_law 162 (.iload_n 3) 1 163 := ⟨by decide +kernel, rfl⟩
theorem d_L_law_163 : Dc m_L_law 163 (.iconst 1) 1 164 := ⟨by decide +kernel, rfl⟩
theorem d_L_law_164 : Dc m_L_law 164 (.iadd) 1 165 := ⟨by decide +kernel, rfl⟩
theorem d_L_law_165 : Dc m_L_law 165 (.iaload) 1 166 := ⟨by decide +kernel, rfl⟩
theorem d_L_law_166 : Dc m_L_law 166 (.aload_n 0) 1 167 := ⟨by decide +kernel, rfl⟩
theorem d_L_law_167 : Dc m_L_law 167 (.iload_n 3) 1 168 := ⟨by decide +kernel, rfl⟩
theorem d_L_law_168 : Dc m_L_law 168 (.iconst 2) 1 169 := ⟨by decide +kernel, rfl⟩
theorem d_L_law_169 : Dc m_L_law 169 (.iadd) 1 170 := ⟨by decide +kernel, rfl⟩
theorem d_L_law_170 : Dc m_L_law 170 (.iaload) 1 171 := ⟨by decide +kernel, rfl⟩
theorem d_L_law_171 : Dc m_L_law 171 (.aload_n 0) 1 172 := ⟨by decide +kernel, rfl⟩
theorem d_L_law_172 : Dc m_L_law 172 (.iload_n 3) 1 173 := ⟨by decide +kernel, rfl⟩
theorem d_L_law_173 : Dc m_L_law 173 (.iconst 3) 1 174 := ⟨by decide +kernel, rfl⟩
theorem d_L_law_174 : Dc m_L_law 174 (.iadd) 1 175 := ⟨by decide +kernel, rfl⟩
theorem d_L_law_175 : Dc m_L_law 175 (.iaload) 1 176 := ⟨by decide +kernel, rfl⟩
theorem d_L_law_176 : Dc m_L_law 176 (.invokevirtual 13) 3 179 := ⟨by decide +kernel, rfl⟩
theorem d_L_law_179 : Dc m_L_law 179 (.aload_n 2) 1 180 := ⟨by decide +kernel, rfl⟩
theorem d_L_law_180 : Dc m_L_law 180 (.aload_n 0) 1 181 := ⟨by decide +kernel, rfl⟩
theorem d_L_law_181 : Dc m_L_law 181 (.iload_n 3) 1 182 := ⟨by decide +kernel, rfl⟩
theorem d_L_law_182 : Dc m_L_law 182 (.iconst 1) 1 183 := ⟨by decide +kernel, rfl⟩
theorem d_L_law_183 : Dc m_L_law 183 (.iadd) 1 184 := ⟨by decide +kernel, rfl⟩
theorem d_L_law_184 : Dc m_L_law 184 (.iaload) 1 185 := ⟨by decide +kernel, rfl⟩
theorem d_L_law_185 : Dc m_L_law 185 (.aload_n 0) 1 186 := ⟨by decide +kernel, rfl⟩
theorem d_L_law_186 : Dc m_L_law 186 (.iload_n 3) 1 187 := ⟨by decide +kernel, rfl⟩
theorem d_L_law_187 : Dc m_L_law 187 (.iconst 2) 1 188 := ⟨by decide +kernel, rfl⟩
theorem d_L_law_188 : Dc m_L_law 188 (.iadd) 1 189 := ⟨by decide +kernel, rfl⟩
theorem d_L_law_189 : Dc m_L_law 189 (.iaload) 1 190 := ⟨by decide +kernel, rfl⟩
theorem d_L_law_190 : Dc m_L_law 190 (.aload_n 0) 1 191 := ⟨by decide +kernel, rfl⟩
theorem d_L_law_191 : Dc m_L_law 191 (.iload_n 3) 1 192 := ⟨by decide +kernel, rfl⟩
theorem d_L_law_192 : Dc m_L_law 192 (.iconst 3) 1 193 := ⟨by decide +kernel, rfl⟩
theorem d_L_law_193 : Dc m_L_law 193 (.iadd) 1 194 := ⟨by decide +kernel, rfl⟩
theorem d_L_law_194 : Dc m_L_law 194 (.iaload) 1 195 := ⟨by decide +kernel, rfl⟩
theorem d_L_law_195 : Dc m_L_law 195 (.invokevirtual 17) 3 198 := ⟨by decide +kernel, rfl⟩
theorem d_L_law_198 : Dc m_L_law 198 (.if_icmp .eq 850) 3 201 := ⟨by decide +kernel, rfl⟩
theorem d_L_law_201 : Dc m_L_law 201 (.iconst 0) 1 202 := ⟨by decide +kernel, rfl⟩
theorem d_L_law_202 : Dc m_L_law 202 (.ireturn) 1 203 := ⟨by decide +kernel, rfl⟩
theorem d_L_law_203 : Dc m_L_law 203 (.aload_n 1) 1 204 := ⟨by decide +kernel, rfl⟩
theorem d_L_law_204 : Dc m_L_law 204 (.aload_n 0) 1 205 := ⟨by decide +kernel, rfl⟩
theorem d_L_law_205 : Dc m_L_law 205 (.iload_n 3) 1 206 := ⟨by decide +kernel, rfl⟩
theorem d_L_law_206 : Dc m_L_law 206 (.iconst 1) 1 207 := ⟨by decide +kernel, rfl⟩
theorem d_L_law_207 : Dc m_L_law 207 (.iadd) 1 208 := ⟨by decide +kernel, rfl⟩
theorem d_L_law_208 : Dc m_L_law 208 (.iaload) 1 209 := ⟨by decide +kernel, rfl⟩
theorem d_L_law_209 : Dc m_L_law 209 (.aload_n 0) 1 210 := ⟨by decide +kernel, rfl⟩
theorem d_L_law_210 : Dc m_L_law 210 (.iload_n 3) 1 211 := ⟨by decide +kernel, rfl⟩
theorem d_L_law_211 : Dc m_L_law 211 (.iconst 2) 1 212 := ⟨by decide +kernel, rfl⟩
theorem d_L_law_212 : Dc m_L_law 212 (.iadd) 1 213 := ⟨by decide +kernel, rfl⟩
theorem d_L_law_213 : Dc m_L_law 213 (.iaload) 1 214 := ⟨by decide +kernel, rfl⟩
theorem d_L_law_214 : Dc m_L_law 214 (.aload_n 0) 1 215 := ⟨by decide +kernel, rfl⟩
theorem d_L_law_215 : Dc m_L_law 215 (.iload_n 3) 1 216 := ⟨by decide +kernel, rfl⟩
theorem d_L_law_216 : Dc m_L_law 216 (.iconst 3) 1 217 := ⟨by decide +kernel, rfl⟩
theorem d_L_law_217 : Dc m_L_law 217 (.iadd) 1 218 := ⟨by decide +kernel, rfl⟩
theorem d_L_law_218 : Dc m_L_law 218 (.iaload) 1 219 := ⟨by decide +kernel, rfl⟩
theorem d_L_law_219 : Dc m_L_law 219 (.invokevirtual 18) 3 222 := ⟨by decide +kernel, rfl⟩
theorem d_L_law_222 : Dc m_L_law 222 (.aload_n 2) 1 223 := ⟨by decide +kernel, rfl⟩
theorem d_L_law_223 : Dc m_L_law 223 (.aload_n 0) 1 224 := ⟨by decide +kernel, rfl⟩
theorem d_L_law_224 : Dc m_L_law 224 (.iload_n 3) 1 225 := ⟨by decide +kernel, rfl⟩
theorem d_L_law_225 : Dc m_L_law 225 (.iconst 1) 1 226 := ⟨by decide +kernel, rfl⟩
theorem d_L_law_226 : Dc m_L_law 226 (.iadd) 1 227 := ⟨by decide +kernel, rfl⟩
theorem d_L_law_227 : Dc m_L_law 227 (.iaload) 1 228 := ⟨by decide +kernel, rfl⟩
theorem d_L_law_228 : Dc m_L_law 228 (.aload_n 0) 1 229 := ⟨by decide +kernel, rfl⟩
theorem d_L_law_229 : Dc m_L_law 229 (.iload_n 3) 1 230 := ⟨by decide +kernel, rfl⟩
theorem d_L_law_230 : Dc m_L_law 230 (.iconst 2) 1 231 := ⟨by decide +kernel, rfl⟩
theorem d_L_law_231 : Dc m_L_law 231 (.iadd) 1 232 := ⟨by decide +kernel, rfl⟩
theorem d_L_law_232 : Dc m_L_law 232 (.iaload) 1 233 := ⟨by decide +kernel, rfl⟩
theorem d_L_law_233 : Dc m_L_law 233 (.aload_n 0) 1 234 := ⟨by decide +kernel, rfl⟩
theorem d_L_law_234 : Dc m_L_law 234 (.iload_n 3) 1 235 := ⟨by decide +kernel, rfl⟩
theorem d_L_law_235 : Dc m_L_law 235 (.iconst 3) 1 236 := ⟨by decide +kernel, rfl⟩
theorem d_L_law_236 : Dc m_L_law 236 (.iadd) 1 237 := ⟨by decide +kernel, rfl⟩
theorem d_L_law_237 : Dc m_L_law 237 (.iaload) 1 238 := ⟨by decide +kernel, rfl⟩
theorem d_L_law_238 : Dc m_L_law 238 (.invokevirtual 21) 3 241 := ⟨by decide +kernel, rfl⟩
theorem d_L_law_241 : Dc m_L_law 241 (.if_icmp .eq 807) 3 244 := ⟨by decide +kernel, rfl⟩
theorem d_L_law_244 : Dc m_L_law 244 (.iconst 0) 1 245 := ⟨by decide +kernel, rfl⟩
theorem d_L_law_245 : Dc m_L_law 245 (.ireturn) 1 246 := ⟨by decide +kernel, rfl⟩
theorem d_L_law_246 : Dc m_L_law 246 (.aload_n 1) 1 247 := ⟨by decide +kernel, rfl⟩
theorem d_L_law_247 : Dc m_L_law 247 (.aload_n 0) 1 248 := ⟨by decide +kernel, rfl⟩
theorem d_L_law_248 : Dc m_L_law 248 (.iload_n 3) 1 249 := ⟨by decide +kernel, rfl⟩
theorem d_L_law_249 : Dc m_L_law 249 (.iconst 1) 1 250 := ⟨by decide +kernel, rfl⟩
theorem d_L_law_250 : Dc m_L_law 250 (.iadd) 1 251 := ⟨by decide +kernel, rfl⟩
theorem d_L_law_251 : Dc m_L_law 251 (.iaload) 1 252 := ⟨by decide +kernel, rfl⟩
theorem d_L_law_252 : Dc m_L_law 252 (.aload_n 0) 1 253 := ⟨by decide +kernel, rfl⟩
theorem d_L_law_253 : Dc m_L_law 253 (.iload_n 3) 1 254 := ⟨by decide +kernel, rfl⟩
theorem d_L_law_254 : Dc m_L_law 254 (.iconst 2) 1 255 := ⟨by decide +kernel, rfl⟩
theorem d_L_law_255 : Dc m_L_law 255 (.iadd) 1 256 := ⟨by decide +kernel, rfl⟩
theorem d_L_law_256 : Dc m_L_law 256 (.iaload) 1 257 := ⟨by decide +kernel, rfl⟩
theorem d_L_law_257 : Dc m_L_law 257 (.aload_n 0) 1 258 := ⟨by decide +kernel, rfl⟩
theorem d_L_law_258 : Dc m_L_law 258 (.iload_n 3) 1 259 := ⟨by decide +kernel, rfl⟩
theorem d_L_law_259 : Dc m_L_law 259 (.iconst 3) 1 260 := ⟨by decide +kernel, rfl⟩
theorem d_L_law_260 : Dc m_L_law 260 (.iadd) 1 261 := ⟨by decide +kernel, rfl⟩
theorem d_L_law_261 : Dc m_L_law 261 (.iaload) 1 262 := ⟨by decide +kernel, rfl⟩
theorem d_L_law_262 : Dc m_L_law 262 (.aload_n 0) 1 263 := ⟨by decide +kernel, rfl⟩
theorem d_L_law_263 : Dc m_L_law 263 (.iload_n 3) 1 264 := ⟨by decide +kernel, rfl⟩
theorem d_L_law_264 : Dc m_L_law 264 (.iconst 4) 1 265 := ⟨by decide +kernel, rfl⟩
theorem d_L_law_265 : Dc m_L_law 265 (.iadd) 1 266 := ⟨by decide +kernel, rfl⟩
theorem d_L_law_266 : Dc m_L_law 266 (.iaload) 1 267 := ⟨by decide +kernel, rfl⟩
theorem d_L_law_267 : Dc m_L_law 267 (.aload_n 0) 1 268 := ⟨by decide +kernel, rfl⟩
theorem d_L_law_268 : Dc m_L_law 268 (.iload_n 3) 1 269 := ⟨by decide +kernel, rfl⟩
theorem d_L_law_269 : Dc m_L_law 269 (.iconst 5) 1 270 := ⟨by decide +kernel, rfl⟩
theorem d_L_law_270 : Dc m_L_law 270 (.iadd) 1 271 := ⟨by decide +kernel, rfl⟩
theorem d_L_law_271 : Dc m_L_law 271 (.iaload) 1 272 := ⟨by decide +kernel, rfl⟩
theorem d_L_law_272 : Dc m_L_law 272 (.invokevirtual 22) 3 275 := ⟨by decide +kernel, rfl⟩
theorem d_L_law_275 : Dc m_L_law 275 (.aload_n 2) 1 276 := ⟨by decide +kernel, rfl⟩
theorem d_L_law_276 : Dc m_L_law 276 (.aload_n 0) 1 277 := ⟨by decide +kernel, rfl⟩
theorem d_L_law_277 : Dc m_L_law 277 (.iload_n 3) 1 278 := ⟨by decide +kernel, rfl⟩
theorem d_L_law_278 : Dc m_L_law 278 (.iconst 1) 1 279 := ⟨by decide +kernel, rfl⟩
theorem d_L_law_279 : Dc m_L_law 279 (.iadd) 1 280 := ⟨by decide +kernel, rfl⟩
theorem d_L_law_280 : Dc m_L_law 280 (.iaload) 1 281 := ⟨by decide +kernel, rfl⟩
theorem d_L_law_281 : Dc m_L_law 281 (.aload_n 0) 1 282 := ⟨by decide +kernel, rfl⟩
theorem d_L_law_282 : Dc m_L_law 282 (.iload_n 3) 1 283 := ⟨by decide +kernel, rfl⟩
theorem d_L_law_283 : Dc m_L_law 283 (.iconst 2) 1 284 := ⟨by decide +kernel, rfl⟩
theorem d_L_law_284 : Dc m_L_law 284 (.iadd) 1 285 := ⟨by decide +kernel, rfl⟩
theorem d_L_law_285 : Dc m_L_law 285 (.iaload) 1 286 := ⟨by decide +kernel, rfl⟩
theorem d_L_law_286 : Dc m_L_law 286 (.aload_n 0) 1 287 := ⟨by decide +kernel, rfl⟩
theorem d_L_law_287 : Dc m_L_law 287 (.iload_n 3) 1 288 := ⟨by decide +kernel, rfl⟩
theorem d_L_law_288 : Dc m_L_law 288 (.iconst 3) 1 289 := ⟨by decide +kernel, rfl⟩
theorem d_L_law_289 : Dc m_L_law 289 (.iadd) 1 290 := ⟨by decide +kernel, rfl⟩
theorem d_L_law_290 : Dc m_L_law 290 (.iaload) 1 291 := ⟨by decide +kernel, rfl⟩
theorem d_L_law_291 : Dc m_L_law 291 (.aload_n 0) 1 292 := ⟨by decide +kernel, rfl⟩
theorem d_L_law_292 : Dc m_L_law 292 (.iload_n 3) 1 293 := ⟨by decide +kernel, rfl⟩
theorem d_L_law_293 : Dc m_L_law 293 (.iconst 4) 1 294 := ⟨by decide +kernel, rfl⟩
theorem d_L_law_294 : Dc m_L_law 294 (.iadd) 1 295 := ⟨by decide +kernel, rfl⟩
theorem d_L_law_295 : Dc m_L_law 295 (.iaload) 1 296 := ⟨by decide +kernel, rfl⟩
theorem d_L_law_296 : Dc m_L_law 296 (.aload_n 0) 1 297 := ⟨by decide +kernel, rfl⟩
theorem d_L_law_297 : Dc m_L_law 297 (.iload_n 3) 1 298 := ⟨by decide +kernel, rfl⟩
theorem d_L_law_298 : Dc m_L_law 298 (.iconst 5) 1 299 := ⟨by decide +kernel, rfl⟩
theorem d_L_law_299 : Dc m_L_law 299 (.iadd) 1 300 := ⟨by decide +kernel, rfl⟩
theorem d_L_law_300 : Dc m_L_law 300 (.iaload) 1 301 := ⟨by decide +kernel, rfl⟩
theorem d_L_law_301 : Dc m_L_law 301 (.invokevirtual 26) 3 304 := ⟨by decide +kernel, rfl⟩
theorem d_L_law_304 : Dc m_L_law 304 (.if_icmp .eq 744) 3 307 := ⟨by decide +kernel, rfl⟩
theorem d_L_law_307 : Dc m_L_law 307 (.iconst 0) 1 308 := ⟨by decide +kernel, rfl⟩
theorem d_L_law_308 : Dc m_L_law 308 (.ireturn) 1 309 := ⟨by decide +kernel, rfl⟩
theorem d_L_law_309 : Dc m_L_law 309 (.aload_n 1) 1 310 := ⟨by decide +kernel, rfl⟩
theorem d_L_law_310 : Dc m_L_law 310 (.aload_n 0) 1 311 := ⟨by decide +kernel, rfl⟩
theorem d_L_law_311 : Dc m_L_law 311 (.iload_n 3) 1 312 := ⟨by decide +kernel, rfl⟩
theorem d_L_law_312 : Dc m_L_law 312 (.iconst 1) 1 313 := ⟨by decide +kernel, rfl⟩
theorem d_L_law_313 : Dc m_L_law 313 (.iadd) 1 314 := ⟨by decide +kernel, rfl⟩
theorem d_L_law_314 : Dc m_L_law 314 (.iaload) 1 315 := ⟨by decide +kernel, rfl⟩
theorem d_L_law_315 : Dc m_L_law 315 (.invokevirtual 27) 3 318 := ⟨by decide +kernel, rfl⟩
theorem d_L_law_318 : Dc m_L_law 318 (.aload_n 2) 1 319 := ⟨by decide +kernel, rfl⟩
theorem d_L_law_319 : Dc m_L_law 319 (.aload_n 0) 1 320 := ⟨by decide +kernel, rfl⟩
theorem d_L_law_320 : Dc m_L_law 320 (.iload_n 3) 1 321 := ⟨by decide +kernel, rfl⟩
theorem d_L_law_321 : Dc m_L_law 321 (.iconst 1) 1 322 := ⟨by decide +kernel, rfl⟩
theorem d_L_law_322 : Dc m_L_law 322 (.iadd) 1 323 := ⟨by decide +kernel, rfl⟩
theorem d_L_law_323 : Dc m_L_law 323 (.iaload) 1 324 := ⟨by decide +kernel, rfl⟩
theorem d_L_law_324 : Dc m_L_law 324 (.invokevirtual 31) 3 327 := ⟨by decide +kernel, rfl⟩
theorem d_L_law_327 : Dc m_L_law 327 (.if_icmp .eq 721) 3 330 := ⟨by decide +kernel, rfl⟩
theorem d_L_law_330 : Dc m_L_law 330 (.iconst 0) 1 331 := ⟨by decide +kernel, rfl⟩
theorem d_L_law_331 : Dc m_L_law 331 (.ireturn) 1 332 := ⟨by decide +kernel, rfl⟩
theorem d_L_law_332 : Dc m_L_law 332 (.aload_n 1) 1 333 := ⟨by decide +kernel, rfl⟩
theorem d_L_law_333 : Dc m_L_law 333 (.aload_n 0) 1 334 := ⟨by decide +kernel, rfl⟩
theorem d_L_law_334 : Dc m_L_law 334 (.iload_n 3) 1 335 := ⟨by decide +kernel, rfl⟩
theorem d_L_law_335 : Dc m_L_law 335 (.iconst 1) 1 336 := ⟨by decide +kernel, rfl⟩
theorem d_L_law_336 : Dc m_L_law 336 (.iadd) 1 337 := ⟨by decide +kernel, rfl⟩
theorem d_L_law_337 : Dc m_L_law 337 (.iaload) 1 338 := ⟨by decide +kernel, rfl⟩
theorem d_L_law_338 : Dc m_L_law 338 (.invokevirtual 32) 3 341 := ⟨by decide +kernel, rfl⟩
theorem d_L_law_341 : Dc m_L_law 341 (.aload_n 2) 1 342 := ⟨by decide +kernel, rfl⟩
theorem d_L_law_342 : Dc m_L_law 342 (.aload_n 0) 1 343 := ⟨by decide +kernel, rfl⟩
theorem d_L_law_343 : Dc m_L_law 343 (.iload_n 3) 1 344 := ⟨by decide +kernel, rfl⟩
theorem d_L_law_344 : Dc m_L_law 344 (.iconst 1) 1 345 := ⟨by decide +kernel, rfl⟩
theorem d_L_law_345 : Dc m_L_law 345 (.iadd) 1 346 := ⟨by decide +kernel, rfl⟩
theorem d_L_law_346 : Dc m_L_law 346 (.iaload) 1 347 := ⟨by decide +kernel, rfl⟩
theorem d_L_law_347 : Dc m_L_law 347 (.invokevirtual 35) 3 350 := ⟨by decide +kernel, rfl⟩
theorem d_L_law_350 : Dc m_L_law 350 (.if_icmp .eq 698) 3 353 := ⟨by decide +kernel, rfl⟩
theorem d_L_law_353 : Dc m_L_law 353 (.iconst 0) 1 354 := ⟨by decide +kernel, rfl⟩
theorem d_L_law_354 : Dc m_L_law 354 (.ireturn) 1 355 := ⟨by decide +kernel, rfl⟩
theorem d_L_law_355 : Dc m_L_law 355 (.aload_n 1) 1 356 := ⟨by decide +kernel, rfl⟩
theorem d_L_law_356 : Dc m_L_law 356 (.invokevirtual 36) 3 359 := ⟨by decide +kernel, rfl⟩
theorem d_L_law_359 : Dc m_L_law 359 (.aload_n 2) 1 360 := ⟨by decide +kernel, rfl⟩
theorem d_L_law_360 : Dc m_L_law 360 (.invokevirtual 40) 3 363 := ⟨by decide +kernel, rfl⟩
theorem d_L_law_363 : Dc m_L_law 363 (.if_icmp .eq 685) 3 366 := ⟨by decide +kernel, rfl⟩
theorem d_L_law_366 : Dc m_L_law 366 (.iconst 0) 1 367 := ⟨by decide +kernel, rfl⟩
theorem d_L_law_367 : Dc m_L_law 367 (.ireturn) 1 368 := ⟨by decide +kernel, rfl⟩
theorem d_L_law_368 : Dc m_L_law 368 (.aload_n 1) 1 369 := ⟨by decide +kernel, rfl⟩
theorem d_L_law_369 : Dc m_L_law 369 (.invokevirtual 41) 3 372 := ⟨by decide +kernel, rfl⟩
theorem d_L_law_372 : Dc m_L_law 372 (.aload_n 2) 1 373 := ⟨by decide +kernel, rfl⟩
theorem d_L_law_373 : Dc m_L_law 373 (.invokevirtual 44) 3 376 := ⟨by decide +kernel, rfl⟩
theorem d_L_law_376 : Dc m_L_law 376 (.if_icmp .eq 672) 3 379 := ⟨by decide +kernel, rfl⟩
theorem d_L_law_379 : Dc m_L_law 379 (.iconst 0) 1 380 := ⟨by decide +kernel, rfl⟩
theorem d_L_law_380 : Dc m_L_law 380 (.ireturn) 1 381 := ⟨by decide +kernel, rfl⟩
theorem d_L_law_381 : Dc m_L_law 381 (.aload_n 1) 1 382 := ⟨by decide +kernel, rfl⟩
theorem d_L_law_382 : Dc m_L_law 382 (.aload_n 0) 1 383 := ⟨by decide +kernel, rfl⟩
theorem d_L_law_383 : Dc m_L_law 383 (.iload_n 3) 1 384 := ⟨by decide +kernel, rfl⟩
theorem d_L_law_384 : Dc m_L_law 384 (.iconst 1) 1 385 := ⟨by decide +kernel, rfl⟩
theorem d_L_law_385 : Dc m_L_law 385 (.iadd) 1 386 := ⟨by decide +kernel, rfl⟩
theorem d_L_law_386 : Dc m_L_law 386 (.iaload) 1 387 := ⟨by decide +kernel, rfl⟩
theorem d_L_law_387 : Dc m_L_law 387 (.invokevirtual 45) 3 390 := ⟨by decide +kernel, rfl⟩
theorem d_L_law_390 : Dc m_L_law 390 (.aload_n 2) 1 391 := ⟨by decide +kernel, rfl⟩
theorem d_L_law_391 : Dc m_L_law 391 (.aload_n 0) 1 392 := ⟨by decide +kernel, rfl⟩
theorem d_L_law_392 : Dc m_L_law 392 (.iload_n 3) 1 393 := ⟨by decide +kernel, rfl⟩
theorem d_L_law_393 : Dc m_L_law 393 (.iconst 1) 1 394 := ⟨by decide +kernel, rfl⟩
theorem d_L_law_394 : Dc m_L_law 394 (.iadd) 1 395 := ⟨by decide +kernel, rfl⟩
theorem d_L_law_395 : Dc m_L_law 395 (.iaload) 1 396 := ⟨by decide +kernel, rfl⟩
theorem d_L_law_396 : Dc m_L_law 396 (.invokevirtual 48) 3 399 := ⟨by decide +kernel, rfl⟩
theorem d_L_law_399 : Dc m_L_law 399 (.if_icmp .eq 649) 3 402 := ⟨by decide +kernel, rfl⟩
theorem d_L_law_402 : Dc m_L_law 402 (.iconst 0) 1 403 := ⟨by decide +kernel, rfl⟩
theorem d_L_law_403 : Dc m_L_law 403 (.ireturn) 1 404 := ⟨by decide +kernel, rfl⟩
theorem d_L_law_404 : Dc m_L_law 404 (.aload_n 1) 1 405 := ⟨by decide +kernel, rfl⟩
theorem d_L_law_405 : Dc m_L_law 405 (.aload_n 0) 1 406 := ⟨by decide +kernel, rfl⟩
theorem d_L_law_406 : Dc m_L_law 406 (.iload_n 3) 1 407 := ⟨by decide +kernel, rfl⟩
theorem d_L_law_407 : Dc m_L_law 407 (.iconst 1) 1 408 := ⟨by decide +kernel, rfl⟩
theorem d_L_law_408 : Dc m_L_law 408 (.iadd) 1 409 := ⟨by decide +kernel, rfl⟩
theorem d_L_law_409 : Dc m_L_law 409 (.iaload) 1 410 := ⟨by decide +kernel, rfl⟩
theorem d_L_law_410 : Dc m_L_law 410 (.invokevirtual 49) 3 413 := ⟨by decide +kernel, rfl⟩
theorem d_L_law_413 : Dc m_L_law 413 (.aload_n 2) 1 414 := ⟨by decide +kernel, rfl⟩
theorem d_L_law_414 : Dc m_L_law 414 (.aload_n 0) 1 415 := ⟨by decide +kernel, rfl⟩
theorem d_L_law_415 : Dc m_L_law 415 (.iload_n 3) 1 416 := ⟨by decide +kernel, rfl⟩
theorem d_L_law_416 : Dc m_L_law 416 (.iconst 1) 1 417 := ⟨by decide +kernel, rfl⟩
theorem d_L_law_417 : Dc m_L_law 417 (.iadd) 1 418 := ⟨by decide +kernel, rfl⟩
theorem d_L_law_418 : Dc m_L_law 418 (.iaload) 1 419 := ⟨by decide +kernel, rfl⟩
theorem d_L_law_419 : Dc m_L_law 419 (.invokevirtual 52) 3 422 := ⟨by decide +kernel, rfl⟩
theorem d_L_law_422 : Dc m_L_law 422 (.if_icmp .eq 626) 3 425 := ⟨by decide +kernel, rfl⟩
theorem d_L_law_425 : Dc m_L_law 425 (.iconst 0) 1 426 := ⟨by decide +kernel, rfl⟩
theorem d_L_law_426 : Dc m_L_law 426 (.ireturn) 1 427 := ⟨by decide +kernel, rfl⟩
theorem d_L_law_427 : Dc m_L_law 427 (.aload_n 1) 1 428 := ⟨by decide +kernel, rfl⟩
theorem d_L_law_428 : Dc m_L_law 428 (.aload_n 0) 1 429 := ⟨by decide +kernel, rfl⟩
theorem d_L_law_429 : Dc m_L_law 429 (.iload_n 3) 1 430 := ⟨by decide +kernel, rfl⟩
theorem d_L_law_430 : Dc m_L_law 430 (.iconst 1) 1 431 := ⟨by decide +kernel, rfl⟩
theorem d_L_law_431 : Dc m_L_law 431 (.iadd) 1 432 := ⟨by decide +kernel, rfl⟩
theorem d_L_law_432 : Dc m_L_law 432 (.iaload) 1 433 := ⟨by decide +kernel, rfl⟩
theorem d_L_law_433 : Dc m_L_law 433 (.aload_n 0) 1 434 := ⟨by decide +kernel, rfl⟩
theorem d_L_law_434 : Dc m_L_law 434 (.iload_n 3) 1 435 := ⟨by decide +kernel, rfl⟩
theorem d_L_law_435 : Dc m_L_law 435 (.iconst 2) 1 436 := ⟨by decide +kernel, rfl⟩
theorem d_L_law_436 : Dc m_L_law 436 (.iadd) 1 437 := ⟨by decide +kernel, rfl⟩
theorem d_L_law_437 : Dc m_L_law 437 (.iaload) 1 438 := ⟨by decide +kernel, rfl⟩
theorem d_L_law_438 : Dc m_L_law 438 (.invokevirtual 53) 3 441 := ⟨by decide +kernel, rfl⟩
theorem d_L_law_441 : Dc m_L_law 441 (.aload_n 2) 1 442 := ⟨by decide +kernel, rfl⟩
theorem d_L_law_442 : Dc m_L_law 442 (.aload_n 0) 1 443 := ⟨by decide +kernel, rfl⟩
theorem d_L_law_443 : Dc m_L_law 443 (.iload_n 3) 1 444 := ⟨by decide +kernel, rfl⟩
theorem d_L_law_444 : Dc m_L_law 444 (.iconst 1) 1 445 := ⟨by decide +kernel, rfl⟩
theorem d_L_law_445 : Dc m_L_law 445 (.iadd) 1 446 := ⟨by decide +kernel, rfl⟩
theorem d_L_law_446 : Dc m_L_law 446 (.iaload) 1 447 := ⟨by decide +kernel, rfl⟩
theorem d_L_law_447 : Dc m_L_law 447 (.aload_n 0) 1 448 := ⟨by decide +kernel, rfl⟩
theorem d_L_law_448 : Dc m_L_law 448 (.iload_n 3) 1 449 := ⟨by decide +kernel, rfl⟩
theorem d_L_law_449 : Dc m_L_law 449 (.iconst 2) 1 450 := ⟨by decide +kernel, rfl⟩
theorem d_L_law_450 : Dc m_L_law 450 (.iadd) 1 451 := ⟨by decide +kernel, rfl⟩
theorem d_L_law_451 : Dc m_L_law 451 (.iaload) 1 452 := ⟨by decide +kernel, rfl⟩
theorem d_L_law_452 : Dc m_L_law 452 (.invokevirtual 57) 3 455 := ⟨by decide +kernel, rfl⟩
theorem d_L_law_455 : Dc m_L_law 455 (.if_icmp .eq 593) 3 458 := ⟨by decide +kernel, rfl⟩
theorem d_L_law_458 : Dc m_L_law 458 (.iconst 0) 1 459 := ⟨by decide +kernel, rfl⟩
theorem d_L_law_459 : Dc m_L_law 459 (.ireturn) 1 460 := ⟨by decide +kernel, rfl⟩
theorem d_L_law_460 : Dc m_L_law 460 (.aload_n 1) 1 461 := ⟨by decide +kernel, rfl⟩
theorem d_L_law_461 : Dc m_L_law 461 (.aload_n 0) 1 462 := ⟨by decide +kernel, rfl⟩
theorem d_L_law_462 : Dc m_L_law 462 (.iload_n 3) 1 463 := ⟨by decide +kernel, rfl⟩
theorem d_L_law_463 : Dc m_L_law 463 (.iconst 1) 1 464 := ⟨by decide +kernel, rfl⟩
theorem d_L_law_464 : Dc m_L_law 464 (.iadd) 1 465 := ⟨by decide +kernel, rfl⟩
theorem d_L_law_465 : Dc m_L_law 465 (.iaload) 1 466 := ⟨by decide +kernel, rfl⟩
theorem d_L_law_466 : Dc m_L_law 466 (.aload_n 0) 1 467 := ⟨by decide +kernel, rfl⟩
theorem d_L_law_467 : Dc m_L_law 467 (.iload_n 3) 1 468 := ⟨by decide +kernel, rfl⟩
theorem d_L_law_468 : Dc m_L_law 468 (.iconst 2) 1 469 := ⟨by decide +kernel, rfl⟩
theorem d_L_law_469 : Dc m_L_law 469 (.iadd) 1 470 := ⟨by decide +kernel, rfl⟩
theorem d_L_law_470 : Dc m_L_law 470 (.iaload) 1 471 := ⟨by decide +kernel, rfl⟩
theorem d_L_law_471 : Dc m_L_law 471 (.invokevirtual 58) 3 474 := ⟨by decide +kernel, rfl⟩
theorem d_L_law_474 : Dc m_L_law 474 (.aload_n 2) 1 475 := ⟨by decide +kernel, rfl⟩
theorem d_L_law_475 : Dc m_L_law 475 (.aload_n 0) 1 476 := ⟨by decide +kernel, rfl⟩
theorem d_L_law_476 : Dc m_L_law 476 (.iload_n 3) 1 477 := ⟨by decide +kernel, rfl⟩
theorem d_L_law_477 : Dc m_L_law 477 (.iconst 1) 1 478 := ⟨by decide +kernel, rfl⟩
theorem d_L_law_478 : Dc m_L_law 478 (.iadd) 1 479 := ⟨by decide +kernel, rfl⟩
theorem d_L_law_479 : Dc m_L_law 479 (.iaload) 1 480 := ⟨by decide +kernel, rfl⟩
theorem d_L_law_480 : Dc m_L_law 480 (.aload_n 0) 1 481 := ⟨by decide +kernel, rfl⟩
theorem d_L_law_481 : Dc m_L_law 481 (.iload_n 3) 1 482 := ⟨by decide +kernel, rfl⟩
theorem d_L_law_482 : Dc m_L_law 482 (.iconst 2) 1 483 := ⟨by decide +kernel, rfl⟩
theorem d_L_law_483 : Dc m_L_law 483 (.iadd) 1 484 := ⟨by decide +kernel, rfl⟩
theorem d_L_law_484 : Dc m_L_law 484 (.iaload) 1 485 := ⟨by decide +kernel, rfl⟩
theorem d_L_law_485 : Dc m_L_law 485 (.invokevirtual 61) 3 488 := ⟨by decide +kernel, rfl⟩
theorem d_L_law_488 : Dc m_L_law 488 (.if_icmp .eq 560) 3 491 := ⟨by decide +kernel, rfl⟩
theorem d_L_law_491 : Dc m_L_law 491 (.iconst 0) 1 492 := ⟨by decide +kernel, rfl⟩
theorem d_L_law_492 : Dc m_L_law 492 (.ireturn) 1 493 := ⟨by decide +kernel, rfl⟩
theorem d_L_law_493 : Dc m_L_law 493 (.aload_n 1) 1 494 := ⟨by decide +kernel, rfl⟩
theorem d_L_law_494 : Dc m_L_law 494 (.invokevirtual 62) 3 497 := ⟨by decide +kernel, rfl⟩
theorem d_L_law_497 : Dc m_L_law 497 (.aload_n 2) 1 498 := ⟨by decide +kernel, rfl⟩
theorem d_L_law_498 : Dc m_L_law 498 (.invokevirtual 65) 3 501 := ⟨by decide +kernel, rfl⟩
theorem d_L_law_501 : Dc m_L_law 501 (.if_icmp .eq 547) 3 504 := ⟨by decide +kernel, rfl⟩
theorem d_L_law_504 : Dc m_L_law 504 (.iconst 0) 1 505 := ⟨by decide +kernel, rfl⟩
theorem d_L_law_505 : Dc m_L_law 505 (.ireturn) 1 506 := ⟨by decide +kernel, rfl⟩
theorem d_L_law_506 : Dc m_L_law 506 (.aload_n 1) 1 507 := ⟨by decide +kernel, rfl⟩
theorem d_L_law_507 : Dc m_L_law 507 (.aload_n 0) 1 508 := ⟨by decide +kernel, rfl⟩
theorem d_L_law_508 : Dc m_L_law 508 (.iload_n 3) 1 509 := ⟨by decide +kernel, rfl⟩
theorem d_L_law_509 : Dc m_L_law 509 (.iconst 1) 1 510 := ⟨by decide +kernel, rfl⟩
theorem d_L_law_510 : Dc m_L_law 510 (.iadd) 1 511 := ⟨by decide +kernel, rfl⟩
theorem d_L_law_511 : Dc m_L_law 511 (.iaload) 1 512 := ⟨by decide +kernel, rfl⟩
theorem d_L_law_512 : Dc m_L_law 512 (.aload_n 0) 1 513 := ⟨by decide +kernel, rfl⟩
theorem d_L_law_513 : Dc m_L_law 513 (.iload_n 3) 1 514 := ⟨by decide +kernel, rfl⟩
theorem d_L_law_514 : Dc m_L_law 514 (.iconst 2) 1 515 := ⟨by decide +kernel, rfl⟩
theorem d_L_law_515 : Dc m_L_law 515 (.iadd) 1 516 := ⟨by decide +kernel, rfl⟩
theorem d_L_law_516 : Dc m_L_law 516 (.iaload) 1 517 := ⟨by decide +kernel, rfl⟩
theorem d_L_law_517 : Dc m_L_law 517 (.invokevirtual 66) 3 520 := ⟨by decide +kernel, rfl⟩
theorem d_L_law_520 : Dc m_L_law 520 (.aload_n 2) 1 521 := ⟨by decide +kernel, rfl⟩
theorem d_L_law_521 : Dc m_L_law 521 (.aload_n 0) 1 522 := ⟨by decide +kernel, rfl⟩
theorem d_L_law_522 : Dc m_L_law 522 (.iload_n 3) 1 523 := ⟨by decide +kernel, rfl⟩
theorem d_L_law_523 : Dc m_L_law 523 (.iconst 1) 1 524 := ⟨by decide +kernel, rfl⟩
theorem d_L_law_524 : Dc m_L_law 524 (.iadd) 1 525 := ⟨by decide +kernel, rfl⟩
theorem d_L_law_525 : Dc m_L_law 525 (.iaload) 1 526 := ⟨by decide +kernel, rfl⟩
theorem d_L_law_526 : Dc m_L_law 526 (.aload_n 0) 1 527 := ⟨by decide +kernel, rfl⟩
theorem d_L_law_527 : Dc m_L_law 527 (.iload_n 3) 1 528 := ⟨by decide +kernel, rfl⟩
theorem d_L_law_528 : Dc m_L_law 528 (.iconst 2) 1 529 := ⟨by decide +kernel, rfl⟩
theorem d_L_law_529 : Dc m_L_law 529 (.iadd) 1 530 := ⟨by decide +kernel, rfl⟩
theorem d_L_law_530 : Dc m_L_law 530 (.iaload) 1 531 := ⟨by decide +kernel, rfl⟩
theorem d_L_law_531 : Dc m_L_law 531 (.invokevirtual 69) 3 534 := ⟨by decide +kernel, rfl⟩
theorem d_L_law_534 : Dc m_L_law 534 (.if_icmp .eq 514) 3 537 := ⟨by decide +kernel, rfl⟩
theorem d_L_law_537 : Dc m_L_law 537 (.iconst 0) 1 538 := ⟨by decide +kernel, rfl⟩
theorem d_L_law_538 : Dc m_L_law 538 (.ireturn) 1 539 := ⟨by decide +kernel, rfl⟩
theorem d_L_law_539 : Dc m_L_law 539 (.aload_n 1) 1 540 := ⟨by decide +kernel, rfl⟩
theorem d_L_law_540 : Dc m_L_law 540 (.aload_n 0) 1 541 := ⟨by decide +kernel, rfl⟩
theorem d_L_law_541 : Dc m_L_law 541 (.iload_n 3) 1 542 := ⟨by decide +kernel, rfl⟩
theorem d_L_law_542 : Dc m_L_law 542 (.iconst 1) 1 543 := ⟨by decide +kernel, rfl⟩
theorem d_L_law_543 : Dc m_L_law 543 (.iadd) 1 544 := ⟨by decide +kernel, rfl⟩
theorem d_L_law_544 : Dc m_L_law 544 (.iaload) 1 545 := ⟨by decide +kernel, rfl⟩
theorem d_L_law_545 : Dc m_L_law 545 (.aload_n 0) 1 546 := ⟨by decide +kernel, rfl⟩
theorem d_L_law_546 : Dc m_L_law 546 (.iload_n 3) 1 547 := ⟨by decide +kernel, rfl⟩
theorem d_L_law_547 : Dc m_L_law 547 (.iconst 2) 1 548 := ⟨by decide +kernel, rfl⟩
theorem d_L_law_548 : Dc m_L_law 548 (.iadd) 1 549 := ⟨by decide +kernel, rfl⟩
theorem d_L_law_549 : Dc m_L_law 549 (.iaload) 1 550 := ⟨by decide +kernel, rfl⟩
theorem d_L_law_550 : Dc m_L_law 550 (.invokevirtual 70) 3 553 := ⟨by decide +kernel, rfl⟩
theorem d_L_law_553 : Dc m_L_law 553 (.aload_n 2) 1 554 := ⟨by decide +kernel, rfl⟩
theorem d_L_law_554 : Dc m_L_law 554 (.aload_n 0) 1 555 := ⟨by decide +kernel, rfl⟩
theorem d_L_law_555 : Dc m_L_law 555 (.iload_n 3) 1 556 := ⟨by decide +kernel, rfl⟩
theorem d_L_law_556 : Dc m_L_law 556 (.iconst 1) 1 557 := ⟨by decide +kernel, rfl⟩
theorem d_L_law_557 : Dc m_L_law 557 (.iadd) 1 558 := ⟨by decide +kernel, rfl⟩
theorem d_L_law_558 : Dc m_L_law 558 (.iaload) 1 559 := ⟨by decide +kernel, rfl⟩
theorem d_L_law_559 : Dc m_L_law 559 (.aload_n 0) 1 560 := ⟨by decide +kernel, rfl⟩
theorem d_L_law_560 : Dc m_L_law 560 (.iload_n 3) 1 561 := ⟨by decide +kernel, rfl⟩
theorem d_L_law_561 : Dc m_L_law 561 (.iconst 2) 1 562 := ⟨by decide +kernel, rfl⟩
theorem d_L_law_562 : Dc m_L_law 562 (.iadd) 1 563 := ⟨by decide +kernel, rfl⟩
theorem d_L_law_563 : Dc m_L_law 563 (.iaload) 1 564 := ⟨by decide +kernel, rfl⟩
theorem d_L_law_564 : Dc m_L_law 564 (.invokevirtual 73) 3 567 := ⟨by decide +kernel, rfl⟩
theorem d_L_law_567 : Dc m_L_law 567 (.if_icmp .eq 481) 3 570 := ⟨by decide +kernel, rfl⟩
theorem d_L_law_570 : Dc m_L_law 570 (.iconst 0) 1 571 := ⟨by decide +kernel, rfl⟩
theorem d_L_law_571 : Dc m_L_law 571 (.ireturn) 1 572 := ⟨by decide +kernel, rfl⟩
theorem d_L_law_572 : Dc m_L_law 572 (.aload_n 1) 1 573 := ⟨by decide +kernel, rfl⟩
theorem d_L_law_573 : Dc m_L_law 573 (.aload_n 0) 1 574 := ⟨by decide +kernel, rfl⟩
theorem d_L_law_574 : Dc m_L_law 574 (.iload_n 3) 1 575 := ⟨by decide +kernel, rfl⟩
theorem d_L_law_575 : Dc m_L_law 575 (.iconst 1) 1 576 := ⟨by decide +kernel, rfl⟩
theorem d_L_law_576 : Dc m_L_law 576 (.iadd) 1 577 := ⟨by decide +kernel, rfl⟩
theorem d_L_law_577 : Dc m_L_law 577 (.iaload) 1 578 := ⟨by decide +kernel, rfl⟩
theorem d_L_law_578 : Dc m_L_law 578 (.invokevirtual 74) 3 581 := ⟨by decide +kernel, rfl⟩
theorem d_L_law_581 : Dc m_L_law 581 (.aload_n 2) 1 582 := ⟨by decide +kernel, rfl⟩
theorem d_L_law_582 : Dc m_L_law 582 (.aload_n 0) 1 583 := ⟨by decide +kernel, rfl⟩
theorem d_L_law_583 : Dc m_L_law 583 (.iload_n 3) 1 584 := ⟨by decide +kernel, rfl⟩
theorem d_L_law_584 : Dc m_L_law 584 (.iconst 1) 1 585 := ⟨by decide +kernel, rfl⟩
theorem d_L_law_585 : Dc m_L_law 585 (.iadd) 1 586 := ⟨by decide +kernel, rfl⟩
theorem d_L_law_586 : Dc m_L_law 586 (.iaload) 1 587 := ⟨by decide +kernel, rfl⟩
theorem d_L_law_587 : Dc m_L_law 587 (.invokevirtual 77) 3 590 := ⟨by decide +kernel, rfl⟩
theorem d_L_law_590 : Dc m_L_law 590 (.if_icmp .eq 458) 3 593 := ⟨by decide +kernel, rfl⟩
theorem d_L_law_593 : Dc m_L_law 593 (.iconst 0) 1 594 := ⟨by decide +kernel, rfl⟩
theorem d_L_law_594 : Dc m_L_law 594 (.ireturn) 1 595 := ⟨by decide +kernel, rfl⟩
theorem d_L_law_595 : Dc m_L_law 595 (.aload_n 1) 1 596 := ⟨by decide +kernel, rfl⟩
theorem d_L_law_596 : Dc m_L_law 596 (.aload_n 0) 1 597 := ⟨by decide +kernel, rfl⟩
theorem d_L_law_597 : Dc m_L_law 597 (.iload_n 3) 1 598 := ⟨by decide +kernel, rfl⟩
theorem d_L_law_598 : Dc m_L_law 598 (.iconst 1) 1 599 := ⟨by decide +kernel, rfl⟩
theorem d_L_law_599 : Dc m_L_law 599 (.iadd) 1 600 := ⟨by decide +kernel, rfl⟩
theorem d_L_law_600 : Dc m_L_law 600 (.iaload) 1 601 := ⟨by decide +kernel, rfl⟩
theorem d_L_law_601 : Dc m_L_law 601 (.aload_n 0) 1 602 := ⟨by decide +kernel, rfl⟩
theorem d_L_law_602 : Dc m_L_law 602 (.iload_n 3) 1 603 := ⟨by decide +kernel, rfl⟩
theorem d_L_law_603 : Dc m_L_law 603 (.iconst 2) 1 604 := ⟨by decide +kernel, rfl⟩
theorem d_L_law_604 : Dc m_L_law 604 (.iadd) 1 605 := ⟨by decide +kernel, rfl⟩
theorem d_L_law_605 : Dc m_L_law 605 (.iaload) 1 606 := ⟨by decide +kernel, rfl⟩
theorem d_L_law_606 : Dc m_L_law 606 (.invokevirtual 78) 3 609 := ⟨by decide +kernel, rfl⟩
theorem d_L_law_609 : Dc m_L_law 609 (.aload_n 2) 1 610 := ⟨by decide +kernel, rfl⟩
theorem d_L_law_610 : Dc m_L_law 610 (.aload_n 0) 1 611 := ⟨by decide +kernel, rfl⟩
theorem d_L_law_611 : Dc m_L_law 611 (.iload_n 3) 1 612 := ⟨by decide +kernel, rfl⟩
theorem d_L_law_612 : Dc m_L_law 612 (.iconst 1) 1 613 := ⟨by decide +kernel, rfl⟩
theorem d_L_law_613 : Dc m_L_law 613 (.iadd) 1 614 := ⟨by decide +kernel, rfl⟩
theorem d_L_law_614 : Dc m_L_law 614 (.iaload) 1 615 := ⟨by decide +kernel, rfl⟩
theorem d_L_law_615 : Dc m_L_law 615 (.aload_n 0) 1 616 := ⟨by decide +kernel, rfl⟩
theorem d_L_law_616 : Dc m_L_law 616 (.iload_n 3) 1 617 := ⟨by decide +kernel, rfl⟩
theorem d_L_law_617 : Dc m_L_law 617 (.iconst 2) 1 618 := ⟨by decide +kernel, rfl⟩
theorem d_L_law_618 : Dc m_L_law 618 (.iadd) 1 619 := ⟨by decide +kernel, rfl⟩
theorem d_L_law_619 : Dc m_L_law 619 (.iaload) 1 620 := ⟨by decide +kernel, rfl⟩
theorem d_L_law_620 : Dc m_L_law 620 (.invokevirtual 81) 3 623 := ⟨by decide +kernel, rfl⟩
theorem d_L_law_623 : Dc m_L_law 623 (.if_icmp .eq 425) 3 626 := ⟨by decide +kernel, rfl⟩
theorem d_L_law_626 : Dc m_L_law 626 (.iconst 0) 1 627 := ⟨by decide +kernel, rfl⟩
theorem d_L_law_627 : Dc m_L_law 627 (.ireturn) 1 628 := ⟨by decide +kernel, rfl⟩
theorem d_L_law_628 : Dc m_L_law 628 (.aload_n 1) 1 629 := ⟨by decide +kernel, rfl⟩
theorem d_L_law_629 : Dc m_L_law 629 (.aload_n 0) 1 630 := ⟨by decide +kernel, rfl⟩
theorem d_L_law_630 : Dc m_L_law 630 (.iload_n 3) 1 631 := ⟨by decide +kernel, rfl⟩
theorem d_L_law_631 : Dc m_L_law 631 (.iconst 1) 1 632 := ⟨by decide +kernel, rfl⟩
theorem d_L_law_632 : Dc m_L_law 632 (.iadd) 1 633 := ⟨by decide +kernel, rfl⟩
theorem d_L_law_633 : Dc m_L_law 633 (.iaload) 1 634 := ⟨by decide +kernel, rfl⟩
theorem d_L_law_634 : Dc m_L_law 634 (.aload_n 0) 1 635 := ⟨by decide +kernel, rfl⟩
theorem d_L_law_635 : Dc m_L_law 635 (.iload_n 3) 1 636 := ⟨by decide +kernel, rfl⟩
theorem d_L_law_636 : Dc m_L_law 636 (.iconst 2) 1 637 := ⟨by decide +kernel, rfl⟩
theorem d_L_law_637 : Dc m_L_law 637 (.iadd) 1 638 := ⟨by decide +kernel, rfl⟩
theorem d_L_law_638 : Dc m_L_law 638 (.iaload) 1 639 := ⟨by decide +kernel, rfl⟩
theorem d_L_law_639 : Dc m_L_law 639 (.invokevirtual 82) 3 642 := ⟨by decide +kernel, rfl⟩
theorem d_L_law_642 : Dc m_L_law 642 (.aload_n 2) 1 643 := ⟨by decide +kernel, rfl⟩
theorem d_L_law_643 : Dc m_L_law 643 (.aload_n 0) 1 644 := ⟨by decide +kernel, rfl⟩
theorem d_L_law_644 : Dc m_L_law 644 (.iload_n 3) 1 645 := ⟨by decide +kernel, rfl⟩
theorem d_L_law_645 : Dc m_L_law 645 (.iconst 1) 1 646 := ⟨by decide +kernel, rfl⟩
theorem d_L_law_646 : Dc m_L_law 646 (.iadd) 1 647 := ⟨by decide +kernel, rfl⟩
theorem d_L_law_647 : Dc m_L_law 647 (.iaload) 1 648 := ⟨by decide +kernel, rfl⟩
theorem d_L_law_648 : Dc m_L_law 648 (.aload_n 0) 1 649 := ⟨by decide +kernel, rfl⟩
theorem d_L_law_649 : Dc m_L_law 649 (.iload_n 3) 1 650 := ⟨by decide +kernel, rfl⟩
theorem d_L_law_650 : Dc m_L_law 650 (.iconst 2) 1 651 := ⟨by decide +kernel, rfl⟩
theorem d_L_law_651 : Dc m_L_law 651 (.iadd) 1 652 := ⟨by decide +kernel, rfl⟩
theorem d_L_law_652 : Dc m_L_law 652 (.iaload) 1 653 := ⟨by decide +kernel, rfl⟩
theorem d_L_law_653 : Dc m_L_law 653 (.invokevirtual 85) 3 656 := ⟨by decide +kernel, rfl⟩
theorem d_L_law_656 : Dc m_L_law 656 (.if_icmp .eq 392) 3 659 := ⟨by decide +kernel, rfl⟩
theorem d_L_law_659 : Dc m_L_law 659 (.iconst 0) 1 660 := ⟨by decide +kernel, rfl⟩
theorem d_L_law_660 : Dc m_L_law 660 (.ireturn) 1 661 := ⟨by decide +kernel, rfl⟩
theorem d_L_law_661 : Dc m_L_law 661 (.aload_n 1) 1 662 := ⟨by decide +kernel, rfl⟩
theorem d_L_law_662 : Dc m_L_law 662 (.aload_n 0) 1 663 := ⟨by decide +kernel, rfl⟩
theorem d_L_law_663 : Dc m_L_law 663 (.iload_n 3) 1 664 := ⟨by decide +kernel, rfl⟩
theorem d_L_law_664 : Dc m_L_law 664 (.iconst 1) 1 665 := ⟨by decide +kernel, rfl⟩
theorem d_L_law_665 : Dc m_L_law 665 (.iadd) 1 666 := ⟨by decide +kernel, rfl⟩
theorem d_L_law_666 : Dc m_L_law 666 (.iaload) 1 667 := ⟨by decide +kernel, rfl⟩
theorem d_L_law_667 : Dc m_L_law 667 (.aload_n 0) 1 668 := ⟨by decide +kernel, rfl⟩
theorem d_L_law_668 : Dc m_L_law 668 (.iload_n 3) 1 669 := ⟨by decide +kernel, rfl⟩
theorem d_L_law_669 : Dc m_L_law 669 (.iconst 2) 1 670 := ⟨by decide +kernel, rfl⟩
theorem d_L_law_670 : Dc m_L_law 670 (.iadd) 1 671 := ⟨by decide +kernel, rfl⟩
theorem d_L_law_671 : Dc m_L_law 671 (.iaload) 1 672 := ⟨by decide +kernel, rfl⟩
theorem d_L_law_672 : Dc m_L_law 672 (.aload_n 0) 1 673 := ⟨by decide +kernel, rfl⟩
theorem d_L_law_673 : Dc m_L_law 673 (.iload_n 3) 1 674 := ⟨by decide +kernel, rfl⟩
theorem d_L_law_674 : Dc m_L_law 674 (.iconst 3) 1 675 := ⟨by decide +kernel, rfl⟩
theorem d_L_law_675 : Dc m_L_law 675 (.iadd) 1 676 := ⟨by decide +kernel, rfl⟩
theorem d_L_law_676 : Dc m_L_law 676 (.iaload) 1 677 := ⟨by decide +kernel, rfl⟩
theorem d_L_law_677 : Dc m_L_law 677 (.aload_n 0) 1 678 := ⟨by decide +kernel, rfl⟩
theorem d_L_law_678 : Dc m_L_law 678 (.iload_n 3) 1 679 := ⟨by decide +kernel, rfl⟩
theorem d_L_law_679 : Dc m_L_law 679 (.iconst 4) 1 680 := ⟨by decide +kernel, rfl⟩
theorem d_L_law_680 : Dc m_L_law 680 (.iadd) 1 681 := ⟨by decide +kernel, rfl⟩
theorem d_L_law_681 : Dc m_L_law 681 (.iaload) 1 682 := ⟨by decide +kernel, rfl⟩
theorem d_L_law_682 : Dc m_L_law 682 (.aload_n 0) 1 683 := ⟨by decide +kernel, rfl⟩
theorem d_L_law_683 : Dc m_L_law 683 (.iload_n 3) 1 684 := ⟨by decide +kernel, rfl⟩
theorem d_L_law_684 : Dc m_L_law 684 (.iconst 5) 1 685 := ⟨by decide +kernel, rfl⟩
theorem d_L_law_685 : Dc m_L_law 685 (.iadd) 1 686 := ⟨by decide +kernel, rfl⟩
theorem d_L_law_686 : Dc m_L_law 686 (.iaload) 1 687 := ⟨by decide +kernel, rfl⟩
theorem d_L_law_687 : Dc m_L_law 687 (.aload_n 0) 1 688 := ⟨by decide +kernel, rfl⟩
theorem d_L_law_688 : Dc m_L_law 688 (.iload_n 3) 1 689 := ⟨by decide +kernel, rfl⟩
theorem d_L_law_689 : Dc m_L_law 689 (.bipush 6) 2 691 := ⟨by decide +kernel, rfl⟩
theorem d_L_law_691 : Dc m_L_law 691 (.iadd) 1 692 := ⟨by decide +kernel, rfl⟩
theorem d_L_law_692 : Dc m_L_law 692 (.iaload) 1 693 := ⟨by decide +kernel, rfl⟩
theorem d_L_law_693 : Dc m_L_law 693 (.invokevirtual 86) 3 696 := ⟨by decide +kernel, rfl⟩
theorem d_L_law_696 : Dc m_L_law 696 (.aload_n 2) 1 697 := ⟨by decide +kernel, rfl⟩
theorem d_L_law_697 : Dc m_L_law 697 (.aload_n 0) 1 698 := ⟨by decide +kernel, rfl⟩
theorem d_L_law_698 : Dc m_L_law 698 (.iload_n 3) 1 699 := ⟨by decide +kernel, rfl⟩
theorem d_L_law_699 : Dc m_L_law 699 (.iconst 1) 1 700 := ⟨by decide +kernel, rfl⟩
theorem d_L_law_700 : Dc m_L_law 700 (.iadd) 1 701 := ⟨by decide +kernel, rfl⟩
theorem d_L_law_701 : Dc m_L_law 701 (.iaload) 1 702 := ⟨by decide +kernel, rfl⟩
theorem d_L_law_702 : Dc m_L_law 702 (.aload_n 0) 1 703 := ⟨by decide +kernel, rfl⟩
theorem d_L_law_703 : Dc m_L_law 703 (.iload_n 3) 1 704 := ⟨by decide +kernel, rfl⟩
theorem d_L_law_704 : Dc m_L_law 704 (.iconst 2) 1 705 := ⟨by decide +kernel, rfl⟩
theorem d_L_law_705 : Dc m_L_law 705 (.iadd) 1 706 := ⟨by decide +kernel, rfl⟩
theorem d_L_law_706 : Dc m_L_law 706 (.iaload) 1 707 := ⟨by decide +kernel, rfl⟩
theorem d_L_law_707 : Dc m_L_law 707 (.aload_n 0) 1 708 := ⟨by decide +kernel, rfl⟩
theorem d_L_law_708 : Dc m_L_law 708 (.iload_n 3) 1 709 := ⟨by decide +kernel, rfl⟩
theorem d_L_law_709 : Dc m_L_law 709 (.iconst 3) 1 710 := ⟨by decide +kernel, rfl⟩
theorem d_L_law_710 : Dc m_L_law 710 (.iadd) 1 711 := ⟨by decide +kernel, rfl⟩
theorem d_L_law_711 : Dc m_L_law 711 (.iaload) 1 712 := ⟨by decide +kernel, rfl⟩
theorem d_L_law_712 : Dc m_L_law 712 (.aload_n 0) 1 713 := ⟨by decide +kernel, rfl⟩
theorem d_L_law_713 : Dc m_L_law 713 (.iload_n 3) 1 714 := ⟨by decide +kernel, rfl⟩
theorem d_L_law_714 : Dc m_L_law 714 (.iconst 4) 1 715 := ⟨by decide +kernel, rfl⟩
theorem d_L_law_715 : Dc m_L_law 715 (.iadd) 1 716 := ⟨by decide +kernel, rfl⟩
theorem d_L_law_716 : Dc m_L_law 716 (.iaload) 1 717 := ⟨by decide +kernel, rfl⟩
theorem d_L_law_717 : Dc m_L_law 717 (.aload_n 0) 1 718 := ⟨by decide +kernel, rfl⟩
theorem d_L_law_718 : Dc m_L_law 718 (.iload_n 3) 1 719 := ⟨by decide +kernel, rfl⟩
theorem d_L_law_719 : Dc m_L_law 719 (.iconst 5) 1 720 := ⟨by decide +kernel, rfl⟩
theorem d_L_law_720 : Dc m_L_law 720 (.iadd) 1 721 := ⟨by decide +kernel, rfl⟩
theorem d_L_law_721 : Dc m_L_law 721 (.iaload) 1 722 := ⟨by decide +kernel, rfl⟩
theorem d_L_law_722 : Dc m_L_law 722 (.aload_n 0) 1 723 := ⟨by decide +kernel, rfl⟩
theorem d_L_law_723 : Dc m_L_law 723 (.iload_n 3) 1 724 := ⟨by decide +kernel, rfl⟩
theorem d_L_law_724 : Dc m_L_law 724 (.bipush 6) 2 726 := ⟨by decide +kernel, rfl⟩
theorem d_L_law_726 : Dc m_L_law 726 (.iadd) 1 727 := ⟨by decide +kernel, rfl⟩
theorem d_L_law_727 : Dc m_L_law 727 (.iaload) 1 728 := ⟨by decide +kernel, rfl⟩
theorem d_L_law_728 : Dc m_L_law 728 (.invokevirtual 90) 3 731 := ⟨by decide +kernel, rfl⟩
theorem d_L_law_731 : Dc m_L_law 731 (.if_icmp .eq 317) 3 734 := ⟨by decide +kernel, rfl⟩
theorem d_L_law_734 : Dc m_L_law 734 (.iconst 0) 1 735 := ⟨by decide +kernel, rfl⟩
theorem d_L_law_735 : Dc m_L_law 735 (.ireturn) 1 736 := ⟨by decide +kernel, rfl⟩
theorem d_L_law_736 : Dc m_L_law 736 (.aload_n 1) 1 737 := ⟨by decide +kernel, rfl⟩
theorem d_L_law_737 : Dc m_L_law 737 (.aload_n 0) 1 738 := ⟨by decide +kernel, rfl⟩
theorem d_L_law_738 : Dc m_L_law 738 (.iload_n 3) 1 739 := ⟨by decide +kernel, rfl⟩
theorem d_L_law_739 : Dc m_L_law 739 (.iconst 1) 1 740 := ⟨by decide +kernel, rfl⟩
theorem d_L_law_740 : Dc m_L_law 740 (.iadd) 1 741 := ⟨by decide +kernel, rfl⟩
theorem d_L_law_741 : Dc m_L_law 741 (.iaload) 1 742 := ⟨by decide +kernel, rfl⟩
theorem d_L_law_742 : Dc m_L_law 742 (.aload_n 0) 1 743 := ⟨by decide +kernel, rfl⟩
theorem d_L_law_743 : Dc m_L_law 743 (.iload_n 3) 1 744 := ⟨by decide +kernel, rfl⟩
theorem d_L_law_744 : Dc m_L_law 744 (.iconst 2) 1 745 := ⟨by decide +kernel, rfl⟩
theorem d_L_law_745 : Dc m_L_law 745 (.iadd) 1 746 := ⟨by decide +kernel, rfl⟩
theorem d_L_law_746 : Dc m_L_law 746 (.iaload) 1 747 := ⟨by decide +kernel, rfl⟩
theorem d_L_law_747 : Dc m_L_law 747 (.aload_n 0) 1 748 := ⟨by decide +kernel, rfl⟩
theorem d_L_law_748 : Dc m_L_law 748 (.iload_n 3) 1 749 := ⟨by decide +kernel, rfl⟩
theorem d_L_law_749 : Dc m_L_law 749 (.iconst 3) 1 750 := ⟨by decide +kernel, rfl⟩
theorem d_L_law_750 : Dc m_L_law 750 (.iadd) 1 751 := ⟨by decide +kernel, rfl⟩
theorem d_L_law_751 : Dc m_L_law 751 (.iaload) 1 752 := ⟨by decide +kernel, rfl⟩
theorem d_L_law_752 : Dc m_L_law 752 (.aload_n 0) 1 753 := ⟨by decide +kernel, rfl⟩
theorem d_L_law_753 : Dc m_L_law 753 (.iload_n 3) 1 754 := ⟨by decide +kernel, rfl⟩
theorem d_L_law_754 : Dc m_L_law 754 (.iconst 4) 1 755 := ⟨by decide +kernel, rfl⟩
theorem d_L_law_755 : Dc m_L_law 755 (.iadd) 1 756 := ⟨by decide +kernel, rfl⟩
theorem d_L_law_756 : Dc m_L_law 756 (.iaload) 1 757 := ⟨by decide +kernel, rfl⟩
theorem d_L_law_757 : Dc m_L_law 757 (.aload_n 0) 1 758 := ⟨by decide +kernel, rfl⟩
theorem d_L_law_758 : Dc m_L_law 758 (.iload_n 3) 1 759 := ⟨by decide +kernel, rfl⟩
theorem d_L_law_759 : Dc m_L_law 759 (.iconst 5) 1 760 := ⟨by decide +kernel, rfl⟩
theorem d_L_law_760 : Dc m_L_law 760 (.iadd) 1 761 := ⟨by decide +kernel, rfl⟩
theorem d_L_law_761 : Dc m_L_law 761 (.iaload) 1 762 := ⟨by decide +kernel, rfl⟩
theorem d_L_law_762 : Dc m_L_law 762 (.aload_n 0) 1 763 := ⟨by decide +kernel, rfl⟩
theorem d_L_law_763 : Dc m_L_law 763 (.iload_n 3) 1 764 := ⟨by decide +kernel, rfl⟩
theorem d_L_law_764 : Dc m_L_law 764 (.bipush 6) 2 766 := ⟨by decide +kernel, rfl⟩
theorem d_L_law_766 : Dc m_L_law 766 (.iadd) 1 767 := ⟨by decide +kernel, rfl⟩
theorem d_L_law_767 : Dc m_L_law 767 (.iaload) 1 768 := ⟨by decide +kernel, rfl⟩
theorem d_L_law_768 : Dc m_L_law 768 (.invokevirtual 91) 3 771 := ⟨by decide +kernel, rfl⟩
theorem d_L_law_771 : Dc m_L_law 771 (.aload_n 2) 1 772 := ⟨by decide +kernel, rfl⟩
theorem d_L_law_772 : Dc m_L_law 772 (.aload_n 0) 1 773 := ⟨by decide +kernel, rfl⟩
theorem d_L_law_773 : Dc m_L_law 773 (.iload_n 3) 1 774 := ⟨by decide +kernel, rfl⟩
theorem d_L_law_774 : Dc m_L_law 774 (.iconst 1) 1 775 := ⟨by decide +kernel, rfl⟩
theorem d_L_law_775 : Dc m_L_law 775 (.iadd) 1 776 := ⟨by decide +kernel, rfl⟩
theorem d_L_law_776 : Dc m_L_law 776 (.iaload) 1 777 := ⟨by decide +kernel, rfl⟩
theorem d_L_law_777 : Dc m_L_law 777 (.aload_n 0) 1 778 := ⟨by decide +kernel, rfl⟩
theorem d_L_law_778 : Dc m_L_law 778 (.iload_n 3) 1 779 := ⟨by decide +kernel, rfl⟩
theorem d_L_law_779 : Dc m_L_law 779 (.iconst 2) 1 780 := ⟨by decide +kernel, rfl⟩
theorem d_L_law_780 : Dc m_L_law 780 (.iadd) 1 781 := ⟨by decide +kernel, rfl⟩
theorem d_L_law_781 : Dc m_L_law 781 (.iaload) 1 782 := ⟨by decide +kernel, rfl⟩
theorem d_L_law_782 : Dc m_L_law 782 (.aload_n 0) 1 783 := ⟨by decide +kernel, rfl⟩
theorem d_L_law_783 : Dc m_L_law 783 (.iload_n 3) 1 784 := ⟨by decide +kernel, rfl⟩
theorem d_L_law_784 : Dc m_L_law 784 (.iconst 3) 1 785 := ⟨by decide +kernel, rfl⟩
theorem d_L_law_785 : Dc m_L_law 785 (.iadd) 1 786 := ⟨by decide +kernel, rfl⟩
theorem d_L_law_786 : Dc m_L_law 786 (.iaload) 1 787 := ⟨by decide +kernel, rfl⟩
theorem d_L_law_787 : Dc m_L_law 787 (.aload_n 0) 1 788 := ⟨by decide +kernel, rfl⟩
theorem d_L_law_788 : Dc m_L_law 788 (.iload_n 3) 1 789 := ⟨by decide +kernel, rfl⟩
theorem d_L_law_789 : Dc m_L_law 789 (.iconst 4) 1 790 := ⟨by decide +kernel, rfl⟩
theorem d_L_law_790 : Dc m_L_law 790 (.iadd) 1 791 := ⟨by decide +kernel, rfl⟩
theorem d_L_law_791 : Dc m_L_law 791 (.iaload) 1 792 := ⟨by decide +kernel, rfl⟩
theorem d_L_law_792 : Dc m_L_law 792 (.aload_n 0) 1 793 := ⟨by decide +kernel, rfl⟩
theorem d_L_law_793 : Dc m_L_law 793 (.iload_n 3) 1 794 := ⟨by decide +kernel, rfl⟩
theorem d_L_law_794 : Dc m_L_law 794 (.iconst 5) 1 795 := ⟨by decide +kernel, rfl⟩
theorem d_L_law_795 : Dc m_L_law 795 (.iadd) 1 796 := ⟨by decide +kernel, rfl⟩
theorem d_L_law_796 : Dc m_L_law 796 (.iaload) 1 797 := ⟨by decide +kernel, rfl⟩
theorem d_L_law_797 : Dc m_L_law 797 (.aload_n 0) 1 798 := ⟨by decide +kernel, rfl⟩
theorem d_L_law_798 : Dc m_L_law 798 (.iload_n 3) 1 799 := ⟨by decide +kernel, rfl⟩
theorem d_L_law_799 : Dc m_L_law 799 (.bipush 6) 2 801 := ⟨by decide +kernel, rfl⟩
theorem d_L_law_801 : Dc m_L_law 801 (.iadd) 1 802 := ⟨by decide +kernel, rfl⟩
theorem d_L_law_802 : Dc m_L_law 802 (.iaload) 1 803 := ⟨by decide +kernel, rfl⟩
theorem d_L_law_803 : Dc m_L_law 803 (.invokevirtual 94) 3 806 := ⟨by decide +kernel, rfl⟩
theorem d_L_law_806 : Dc m_L_law 806 (.if_icmp .eq 242) 3 809 := ⟨by decide +kernel, rfl⟩
theorem d_L_law_809 : Dc m_L_law 809 (.iconst 0) 1 810 := ⟨by decide +kernel, rfl⟩
theorem d_L_law_810 : Dc m_L_law 810 (.ireturn) 1 811 := ⟨by decide +kernel, rfl⟩
theorem d_L_law_811 : Dc m_L_law 811 (.aload_n 1) 1 812 := ⟨by decide +kernel, rfl⟩
theorem d_L_law_812 : Dc m_L_law 812 (.aload_n 0) 1 813 := ⟨by decide +kernel, rfl⟩
theorem d_L_law_813 : Dc m_L_law 813 (.iload_n 3) 1 814 := ⟨by decide +kernel, rfl⟩
theorem d_L_law_814 : Dc m_L_law 814 (.iconst 1) 1 815 := ⟨by decide +kernel, rfl⟩
theorem d_L_law_815 : Dc m_L_law 815 (.iadd) 1 816 := ⟨by decide +kernel, rfl⟩
theorem d_L_law_816 : Dc m_L_law 816 (.iaload) 1 817 := ⟨by decide +kernel, rfl⟩
theorem d_L_law_817 : Dc m_L_law 817 (.aload_n 0) 1 818 := ⟨by decide +kernel, rfl⟩
theorem d_L_law_818 : Dc m_L_law 818 (.iload_n 3) 1 819 := ⟨by decide +kernel, rfl⟩
theorem d_L_law_819 : Dc m_L_law 819 (.iconst 2) 1 820 := ⟨by decide +kernel, rfl⟩
theorem d_L_law_820 : Dc m_L_law 820 (.iadd) 1 821 := ⟨by decide +kernel, rfl⟩
theorem d_L_law_821 : Dc m_L_law 821 (.iaload) 1 822 := ⟨by decide +kernel, rfl⟩
theorem d_L_law_822 : Dc m_L_law 822 (.aload_n 0) 1 823 := ⟨by decide +kernel, rfl⟩
theorem d_L_law_823 : Dc m_L_law 823 (.iload_n 3) 1 824 := ⟨by decide +kernel, rfl⟩
theorem d_L_law_824 : Dc m_L_law 824 (.iconst 3) 1 825 := ⟨by decide +kernel, rfl⟩
theorem d_L_law_825 : Dc m_L_law 825 (.iadd) 1 826 := ⟨by decide +kernel, rfl⟩
theorem d_L_law_826 : Dc m_L_law 826 (.iaload) 1 827 := ⟨by decide +kernel, rfl⟩
theorem d_L_law_827 : Dc m_L_law 827 (.invokevirtual 95) 3 830 := ⟨by decide +kernel, rfl⟩
theorem d_L_law_830 : Dc m_L_law 830 (.aload_n 2) 1 831 := ⟨by decide +kernel, rfl⟩
theorem d_L_law_831 : Dc m_L_law 831 (.aload_n 0) 1 832 := ⟨by decide +kernel, rfl⟩
theorem d_L_law_832 : Dc m_L_law 832 (.iload_n 3) 1 833 := ⟨by decide +kernel, rfl⟩
theorem d_L_law_833 : Dc m_L_law 833 (.iconst 1) 1 834 := ⟨by decide +kernel, rfl⟩
theorem d_L_law_834 : Dc m_L_law 834 (.iadd) 1 835 := ⟨by decide +kernel, rfl⟩
theorem d_L_law_835 : Dc m_L_law 835 (.iaload) 1 836 := ⟨by decide +kernel, rfl⟩
theorem d_L_law_836 : Dc m_L_law 836 (.aload_n 0) 1 837 := ⟨by decide +kernel, rfl⟩
theorem d_L_law_837 : Dc m_L_law 837 (.iload_n 3) 1 838 := ⟨by decide +kernel, rfl⟩
theorem d_L_law_838 : Dc m_L_law 838 (.iconst 2) 1 839 := ⟨by decide +kernel, rfl⟩
theorem d_L_law_839 : Dc m_L_law 839 (.iadd) 1 840 := ⟨by decide +kernel, rfl⟩
theorem d_L_law_840 : Dc m_L_law 840 (.iaload) 1 841 := ⟨by decide +kernel, rfl⟩
theorem d_L_law_841 : Dc m_L_law 841 (.aload_n 0) 1 842 := ⟨by decide +kernel, rfl⟩
theorem d_L_law_842 : Dc m_L_law 842 (.iload_n 3) 1 843 := ⟨by decide +kernel, rfl⟩
theorem d_L_law_843 : Dc m_L_law 843 (.iconst 3) 1 844 := ⟨by decide +kernel, rfl⟩
theorem d_L_law_844 : Dc m_L_law 844 (.iadd) 1 845 := ⟨by decide +kernel, rfl⟩
theorem d_L_law_845 : Dc m_L_law 845 (.iaload) 1 846 := ⟨by decide +kernel, rfl⟩
theorem d_L_law_846 : Dc m_L_law 846 (.invokevirtual 98) 3 849 := ⟨by decide +kernel, rfl⟩
theorem d_L_law_849 : Dc m_L_law 849 (.if_icmp .eq 199) 3 852 := ⟨by decide +kernel, rfl⟩
theorem d_L_law_852 : Dc m_L_law 852 (.iconst 0) 1 853 := ⟨by decide +kernel, rfl⟩
theorem d_L_law_853 : Dc m_L_law 853 (.ireturn) 1 854 := ⟨by decide +kernel, rfl⟩
theorem d_L_law_854 : Dc m_L_law 854 (.aload_n 1) 1 855 := ⟨by decide +kernel, rfl⟩
theorem d_L_law_855 : Dc m_L_law 855 (.aload_n 0) 1 856 := ⟨by decide +kernel, rfl⟩
theorem d_L_law_856 : Dc m_L_law 856 (.iload_n 3) 1 857 := ⟨by decide +kernel, rfl⟩
theorem d_L_law_857 : Dc m_L_law 857 (.iconst 1) 1 858 := ⟨by decide +kernel, rfl⟩
theorem d_L_law_858 : Dc m_L_law 858 (.iadd) 1 859 := ⟨by decide +kernel, rfl⟩
theorem d_L_law_859 : Dc m_L_law 859 (.iaload) 1 860 := ⟨by decide +kernel, rfl⟩
theorem d_L_law_860 : Dc m_L_law 860 (.invokevirtual 99) 3 863 := ⟨by decide +kernel, rfl⟩
theorem d_L_law_863 : Dc m_L_law 863 (.aload_n 2) 1 864 := ⟨by decide +kernel, rfl⟩
theorem d_L_law_864 : Dc m_L_law 864 (.aload_n 0) 1 865 := ⟨by decide +kernel, rfl⟩
theorem d_L_law_865 : Dc m_L_law 865 (.iload_n 3) 1 866 := ⟨by decide +kernel, rfl⟩
theorem d_L_law_866 : Dc m_L_law 866 (.iconst 1) 1 867 := ⟨by decide +kernel, rfl⟩
theorem d_L_law_867 : Dc m_L_law 867 (.iadd) 1 868 := ⟨by decide +kernel, rfl⟩
theorem d_L_law_868 : Dc m_L_law 868 (.iaload) 1 869 := ⟨by decide +kernel, rfl⟩
theorem d_L_law_869 : Dc m_L_law 869 (.invokevirtual 102) 3 872 := ⟨by decide +kernel, rfl⟩
theorem d_L_law_872 : Dc m_L_law 872 (.if_icmp .eq 176) 3 875 := ⟨by decide +kernel, rfl⟩
theorem d_L_law_875 : Dc m_L_law 875 (.iconst 0) 1 876 := ⟨by decide +kernel, rfl⟩
theorem d_L_law_876 : Dc m_L_law 876 (.ireturn) 1 877 := ⟨by decide +kernel, rfl⟩
theorem d_L_law_877 : Dc m_L_law 877 (.aload_n 1) 1 878 := ⟨by decide +kernel, rfl⟩
theorem d_L_law_878 : Dc m_L_law 878 (.aload_n 0) 1 879 := ⟨by decide +kernel, rfl⟩
theorem d_L_law_879 : Dc m_L_law 879 (.iload_n 3) 1 880 := ⟨by decide +kernel, rfl⟩
theorem d_L_law_880 : Dc m_L_law 880 (.iconst 1) 1 881 := ⟨by decide +kernel, rfl⟩
theorem d_L_law_881 : Dc m_L_law 881 (.iadd) 1 882 := ⟨by decide +kernel, rfl⟩
theorem d_L_law_882 : Dc m_L_law 882 (.iaload) 1 883 := ⟨by decide +kernel, rfl⟩
theorem d_L_law_883 : Dc m_L_law 883 (.invokevirtual 103) 3 886 := ⟨by decide +kernel, rfl⟩
theorem d_L_law_886 : Dc m_L_law 886 (.aload_n 2) 1 887 := ⟨by decide +kernel, rfl⟩
theorem d_L_law_887 : Dc m_L_law 887 (.aload_n 0) 1 888 := ⟨by decide +kernel, rfl⟩
theorem d_L_law_888 : Dc m_L_law 888 (.iload_n 3) 1 889 := ⟨by decide +kernel, rfl⟩
theorem d_L_law_889 : Dc m_L_law 889 (.iconst 1) 1 890 := ⟨by decide +kernel, rfl⟩
theorem d_L_law_890 : Dc m_L_law 890 (.iadd) 1 891 := ⟨by decide +kernel, rfl⟩
theorem d_L_law_891 : Dc m_L_law 891 (.iaload) 1 892 := ⟨by decide +kernel, rfl⟩
theorem d_L_law_892 : Dc m_L_law 892 (.invokevirtual 106) 3 895 := ⟨by decide +kernel, rfl⟩
theorem d_L_law_895 : Dc m_L_law 895 (.if_icmp .eq 153) 3 898 := ⟨by decide +kernel, rfl⟩
theorem d_L_law_898 : Dc m_L_law 898 (.iconst 0) 1 899 := ⟨by decide +kernel, rfl⟩
theorem d_L_law_899 : Dc m_L_law 899 (.ireturn) 1 900 := ⟨by decide +kernel, rfl⟩
theorem d_L_law_900 : Dc m_L_law 900 (.aload_n 1) 1 901 := ⟨by decide +kernel, rfl⟩
theorem d_L_law_901 : Dc m_L_law 901 (.aload_n 0) 1 902 := ⟨by decide +kernel, rfl⟩
theorem d_L_law_902 : Dc m_L_law 902 (.iload_n 3) 1 903 := ⟨by decide +kernel, rfl⟩
theorem d_L_law_903 : Dc m_L_law 903 (.iconst 1) 1 904 := ⟨by decide +kernel, rfl⟩
theorem d_L_law_904 : Dc m_L_law 904 (.iadd) 1 905 := ⟨by decide +kernel, rfl⟩
theorem d_L_law_905 : Dc m_L_law 905 (.iaload) 1 906 := ⟨by decide +kernel, rfl⟩
theorem d_L_law_906 : Dc m_L_law 906 (.invokevirtual 107) 3 909 := ⟨by decide +kernel, rfl⟩
theorem d_L_law_909 : Dc m_L_law 909 (.aload_n 2) 1 910 := ⟨by decide +kernel, rfl⟩
theorem d_L_law_910 : Dc m_L_law 910 (.aload_n 0) 1 911 := ⟨by decide +kernel, rfl⟩
theorem d_L_law_911 : Dc m_L_law 911 (.iload_n 3) 1 912 := ⟨by decide +kernel, rfl⟩
theorem d_L_law_912 : Dc m_L_law 912 (.iconst 1) 1 913 := ⟨by decide +kernel, rfl⟩
theorem d_L_law_913 : Dc m_L_law 913 (.iadd) 1 914 := ⟨by decide +kernel, rfl⟩
theorem d_L_law_914 : Dc m_L_law 914 (.iaload) 1 915 := ⟨by decide +kernel, rfl⟩
theorem d_L_law_915 : Dc m_L_law 915 (.invokevirtual 110) 3 918 := ⟨by decide +kernel, rfl⟩
theorem d_L_law_918 : Dc m_L_law 918 (.if_icmp .eq 130) 3 921 := ⟨by decide +kernel, rfl⟩
theorem d_L_law_921 : Dc m_L_law 921 (.iconst 0) 1 922 := ⟨by decide +kernel, rfl⟩
theorem d_L_law_922 : Dc m_L_law 922 (.ireturn) 1 923 := ⟨by decide +kernel, rfl⟩
theorem d_L_law_923 : Dc m_L_law 923 (.aload_n 1) 1 924 := ⟨by decide +kernel, rfl⟩
theorem d_L_law_924 : Dc m_L_law 924 (.aload_n 0) 1 925 := ⟨by decide +kernel, rfl⟩
theorem d_L_law_925 : Dc m_L_law 925 (.iload_n 3) 1 926 := ⟨by decide +kernel, rfl⟩
theorem d_L_law_926 : Dc m_L_law 926 (.iconst 1) 1 927 := ⟨by decide +kernel, rfl⟩
theorem d_L_law_927 : Dc m_L_law 927 (.iadd) 1 928 := ⟨by decide +kernel, rfl⟩
theorem d_L_law_928 : Dc m_L_law 928 (.iaload) 1 929 := ⟨by decide +kernel, rfl⟩
theorem d_L_law_929 : Dc m_L_law 929 (.aload_n 0) 1 930 := ⟨by decide +kernel, rfl⟩
theorem d_L_law_930 : Dc m_L_law 930 (.iload_n 3) 1 931 := ⟨by decide +kernel, rfl⟩
theorem d_L_law_931 : Dc m_L_law 931 (.iconst 2) 1 932 := ⟨by decide +kernel, rfl⟩
theorem d_L_law_932 : Dc m_L_law 932 (.iadd) 1 933 := ⟨by decide +kernel, rfl⟩
theorem d_L_law_933 : Dc m_L_law 933 (.iaload) 1 934 := ⟨by decide +kernel, rfl⟩
theorem d_L_law_934 : Dc m_L_law 934 (.invokevirtual 111) 3 937 := ⟨by decide +kernel, rfl⟩
theorem d_L_law_937 : Dc m_L_law 937 (.aload_n 2) 1 938 := ⟨by decide +kernel, rfl⟩
theorem d_L_law_938 : Dc m_L_law 938 (.aload_n 0) 1 939 := ⟨by decide +kernel, rfl⟩
theorem d_L_law_939 : Dc m_L_law 939 (.iload_n 3) 1 940 := ⟨by decide +kernel, rfl⟩
theorem d_L_law_940 : Dc m_L_law 940 (.iconst 1) 1 941 := ⟨by decide +kernel, rfl⟩
theorem d_L_law_941 : Dc m_L_law 941 (.iadd) 1 942 := ⟨by decide +kernel, rfl⟩
theorem d_L_law_942 : Dc m_L_law 942 (.iaload) 1 943 := ⟨by decide +kernel, rfl⟩
theorem d_L_law_943 : Dc m_L_law 943 (.aload_n 0) 1 944 := ⟨by decide +kernel, rfl⟩
theorem d_L_law_944 : Dc m_L_law 944 (.iload_n 3) 1 945 := ⟨by decide +kernel, rfl⟩
theorem d_L_law_945 : Dc m_L_law 945 (.iconst 2) 1 946 := ⟨by decide +kernel, rfl⟩
theorem d_L_law_946 : Dc m_L_law 946 (.iadd) 1 947 := ⟨by decide +kernel, rfl⟩
theorem d_L_law_947 : Dc m_L_law 947 (.iaload) 1 948 := ⟨by decide +kernel, rfl⟩
theorem d_L_law_948 : Dc m_L_law 948 (.invokevirtual 114) 3 951 := ⟨by decide +kernel, rfl⟩
theorem d_L_law_951 : Dc m_L_law 951 (.if_icmp .eq 97) 3 954 := ⟨by decide +kernel, rfl⟩
theorem d_L_law_954 : Dc m_L_law 954 (.iconst 0) 1 955 := ⟨by decide +kernel, rfl⟩
theorem d_L_law_955 : Dc m_L_law 955 (.ireturn) 1 956 := ⟨by decide +kernel, rfl⟩
theorem d_L_law_956 : Dc m_L_law 956 (.aload_n 1) 1 957 := ⟨by decide +kernel, rfl⟩
theorem d_L_law_957 : Dc m_L_law 957 (.aload_n 0) 1 958 := ⟨by decide +kernel, rfl⟩
theorem d_L_law_958 : Dc m_L_law 958 (.iload_n 3) 1 959 := ⟨by decide +kernel, rfl⟩
theorem d_L_law_959 : Dc m_L_law 959 (.iconst 1) 1 960 := ⟨by decide +kernel, rfl⟩
theorem d_L_law_960 : Dc m_L_law 960 (.iadd) 1 961 := ⟨by decide +kernel, rfl⟩
theorem d_L_law_961 : Dc m_L_law 961 (.iaload) 1 962 := ⟨by decide +kernel, rfl⟩
theorem d_L_law_962 : Dc m_L_law 962 (.aload_n 0) 1 963 := ⟨by decide +kernel, rfl⟩
theorem d_L_law_963 : Dc m_L_law 963 (.iload_n 3) 1 964 := ⟨by decide +kernel, rfl⟩
theorem d_L_law_964 : Dc m_L_law 964 (.iconst 2) 1 965 := ⟨by decide +kernel, rfl⟩
theorem d_L_law_965 : Dc m_L_law 965 (.iadd) 1 966 := ⟨by decide +kernel, rfl⟩
theorem d_L_law_966 : Dc m_L_law 966 (.iaload) 1 967 := ⟨by decide +kernel, rfl⟩
theorem d_L_law_967 : Dc m_L_law 967 (.invokevirtual 115) 3 970 := ⟨by decide +kernel, rfl⟩
theorem d_L_law_970 : Dc m_L_law 970 (.aload_n 2) 1 971 := ⟨by decide +kernel, rfl⟩
theorem d_L_law_971 : Dc m_L_law 971 (.aload_n 0) 1 972 := ⟨by decide +kernel, rfl⟩
theorem d_L_law_972 : Dc m_L_law 972 (.iload_n 3) 1 973 := ⟨by decide +kernel, rfl⟩
theorem d_L_law_973 : Dc m_L_law 973 (.iconst 1) 1 974 := ⟨by decide +kernel, rfl⟩
theorem d_L_law_974 : Dc m_L_law 974 (.iadd) 1 975 := ⟨by decide +kernel, rfl⟩
theorem d_L_law_975 : Dc m_L_law 975 (.iaload) 1 976 := ⟨by decide +kernel, rfl⟩
theorem d_L_law_976 : Dc m_L_law 976 (.aload_n 0) 1 977 := ⟨by decide +kernel, rfl⟩
theorem d_L_law_977 : Dc m_L_law 977 (.iload_n 3) 1 978 := ⟨by decide +kernel, rfl⟩
theorem d_L_law_978 : Dc m_L_law 978 (.iconst 2) 1 979 := ⟨by decide +kernel, rfl⟩
theorem d_L_law_979 : Dc m_L_law 979 (.iadd) 1 980 := ⟨by decide +kernel, rfl⟩
theorem d_L_law_980 : Dc m_L_law 980 (.iaload) 1 981 := ⟨by decide +kernel, rfl⟩
theorem d_L_law_981 : Dc m_L_law 981 (.invokevirtual 118) 3 984 := ⟨by decide +kernel, rfl⟩
theorem d_L_law_984 : Dc m_L_law 984 (.if_icmp .eq 64) 3 987 := ⟨by decide +kernel, rfl⟩
theorem d_L_law_987 : Dc m_L_law 987 (.iconst 0) 1 988 := ⟨by decide +kernel, rfl⟩
theorem d_L_law_988 : Dc m_L_law 988 (.ireturn) 1 989 := ⟨by decide +kernel, rfl⟩
theorem d_L_law_989 : Dc m_L_law 989 (.aload_n 1) 1 990 := ⟨by decide +kernel, rfl⟩
theorem d_L_law_990 : Dc m_L_law 990 (.aload_n 0) 1 991 := ⟨by decide +kernel, rfl⟩
theorem d_L_law_991 : Dc m_L_law 991 (.iload_n 3) 1 992 := ⟨by decide +kernel, rfl⟩
theorem d_L_law_992 : Dc m_L_law 992 (.iconst 1) 1 993 := ⟨by decide +kernel, rfl⟩
theorem d_L_law_993 : Dc m_L_law 993 (.iadd) 1 994 := ⟨by decide +kernel, rfl⟩
theorem d_L_law_994 : Dc m_L_law 994 (.iaload) 1 995 := ⟨by decide +kernel, rfl⟩
theorem d_L_law_995 : Dc m_L_law 995 (.invokevirtual 119) 3 998 := ⟨by decide +kernel, rfl⟩
theorem d_L_law_998 : Dc m_L_law 998 (.aload_n 2) 1 999 := ⟨by decide +kernel, rfl⟩
theorem d_L_law_999 : Dc m_L_law 999 (.aload_n 0) 1 1000 := ⟨by decide +kernel, rfl⟩
theorem d_L_law_1000 : Dc m_L_law 1000 (.iload_n 3) 1 1001 := ⟨by decide +kernel, rfl⟩
theorem d_L_law_1001 : Dc m_L_law 1001 (.iconst 1) 1 1002 := ⟨by decide +kernel, rfl⟩
theorem d_L_law_1002 : Dc m_L_law 1002 (.iadd) 1 1003 := ⟨by decide +kernel, rfl⟩
theorem d_L_law_1003 : Dc m_L_law 1003 (.iaload) 1 1004 := ⟨by decide +kernel, rfl⟩
theorem d_L_law_1004 : Dc m_L_law 1004 (.invokevirtual 122) 3 1007 := ⟨by decide +kernel, rfl⟩
theorem d_L_law_1007 : Dc m_L_law 1007 (.if_icmp .eq 41) 3 1010 := ⟨by decide +kernel, rfl⟩
theorem d_L_law_1010 : Dc m_L_law 1010 (.iconst 0) 1 1011 := ⟨by decide +kernel, rfl⟩
theorem d_L_law_1011 : Dc m_L_law 1011 (.ireturn) 1 1012 := ⟨by decide +kernel, rfl⟩
theorem d_L_law_1012 : Dc m_L_law 1012 (.aload_n 1) 1 1013 := ⟨by decide +kernel, rfl⟩
theorem d_L_law_1013 : Dc m_L_law 1013 (.aload_n 0) 1 1014 := ⟨by decide +kernel, rfl⟩
theorem d_L_law_1014 : Dc m_L_law 1014 (.iload_n 3) 1 1015 := ⟨by decide +kernel, rfl⟩
theorem d_L_law_1015 : Dc m_L_law 1015 (.iconst 1) 1 1016 := ⟨by decide +kernel, rfl⟩
theorem d_L_law_1016 : Dc m_L_law 1016 (.iadd) 1 1017 := ⟨by decide +kernel, rfl⟩
theorem d_L_law_1017 : Dc m_L_law 1017 (.iaload) 1 1018 := ⟨by decide +kernel, rfl⟩
theorem d_L_law_1018 : Dc m_L_law 1018 (.invokevirtual 123) 3 1021 := ⟨by decide +kernel, rfl⟩
theorem d_L_law_1021 : Dc m_L_law 1021 (.aload_n 2) 1 1022 := ⟨by decide +kernel, rfl⟩
theorem d_L_law_1022 : Dc m_L_law 1022 (.aload_n 0) 1 1023 := ⟨by decide +kernel, rfl⟩
theorem d_L_law_1023 : Dc m_L_law 1023 (.iload_n 3) 1 1024 := ⟨by decide +kernel, rfl⟩
theorem d_L_law_1024 : Dc m_L_law 1024 (.iconst 1) 1 1025 := ⟨by decide +kernel, rfl⟩
theorem d_L_law_1025 : Dc m_L_law 1025 (.iadd) 1 1026 := ⟨by decide +kernel, rfl⟩
theorem d_L_law_1026 : Dc m_L_law 1026 (.iaload) 1 1027 := ⟨by decide +kernel, rfl⟩
theorem d_L_law_1027 : Dc m_L_law 1027 (.invokevirtual 126) 3 1030 := ⟨by decide +kernel, rfl⟩
theorem d_L_law_1030 : Dc m_L_law 1030 (.if_icmp .eq 18) 3 1033 := ⟨by decide +kernel, rfl⟩
theorem d_L_law_1033 : Dc m_L_law 1033 (.iconst 0) 1 1034 := ⟨by decide +kernel, rfl⟩
theorem d_L_law_1034 : Dc m_L_law 1034 (.ireturn) 1 1035 := ⟨by decide +kernel, rfl⟩
theorem d_L_law_1035 : Dc m_L_law 1035 (.aload_n 1) 1 1036 := ⟨by decide +kernel, rfl⟩
theorem d_L_law_1036 : Dc m_L_law 1036 (.invokevirtual 127) 3 1039 := ⟨by decide +kernel, rfl⟩
theorem d_L_law_1039 : Dc m_L_law 1039 (.aload_n 2) 1 1040 := ⟨by decide +kernel, rfl⟩
theorem d_L_law_1040 : Dc m_L_law 1040 (.invokevirtual 130) 3 1043 := ⟨by decide +kernel, rfl⟩
theorem d_L_law_1043 : Dc m_L_law 1043 (.if_icmp .eq 5) 3 1046 := ⟨by decide +kernel, rfl⟩
theorem d_L_law_1046 : Dc m_L_law 1046 (.iconst 0) 1 1047 := ⟨by decide +kernel, rfl⟩
theorem d_L_law_1047 : Dc m_L_law 1047 (.ireturn) 1 1048 := ⟨by decide +kernel, rfl⟩
theorem d_L_law_1048 : Dc m_L_law 1048 (.iinc 3 7) 3 1051 := ⟨by decide +kernel, rfl⟩
theorem d_L_law_1051 : Dc m_L_law 1051 (.goto (-1033)) 3 1054 := ⟨by decide +kernel, rfl⟩
theorem d_L_law_1054 : Dc m_L_law 1054 (.iconst 1) 1 1055 := ⟨by decide +kernel, rfl⟩
theorem d_L_law_1055 : Dc m_L_law 1055 (.ireturn) 1 1056 := ⟨by decide +kernel, rfl⟩
end
section
theorem zz_end : True := trivial
end
