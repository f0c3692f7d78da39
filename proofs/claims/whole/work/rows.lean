section
-- ===== PART A: goes FIRST, ahead of the names: the tables' words, and 'selects' of the private methods out of them =====
/-- a private method of a class that the tables say can be made, by its rows of tables_1 -/
def lw_okq (q : MethodName × Nat) : Prop := (q.1.cls ≠ "java/lang/invoke/MethodHandle" ∧ q.1.cls ≠ "java/lang/invoke/VarHandle") ∧ Cond.instantiable q.1.cls q.2 ∈ tables_1 ∧ Cond.privateMethod q.1 ∈ tables_1 ∧ Cond.instanceMethod q.1 ∈ tables_1
theorem lw_p0 : lw_okq (⟨"java/lang/Throwable", "fillInStackTrace", "(I)Ljava/lang/Throwable;"⟩, 6) := ⟨⟨by decide +kernel, by decide +kernel⟩, List.mem_of_getElem? (i := 176) (by decide +kernel), List.mem_of_getElem? (i := 174) (by decide +kernel), List.mem_of_getElem? (i := 175) (by decide +kernel)⟩
theorem lw_p1 : lw_okq (⟨"FilterReader", "append", "(I)V"⟩, 3) := ⟨⟨by decide +kernel, by decide +kernel⟩, List.mem_of_getElem? (i := 26) (by decide +kernel), List.mem_of_getElem? (i := 201) (by decide +kernel), List.mem_of_getElem? (i := 202) (by decide +kernel)⟩
theorem lw_p2 : lw_okq (⟨"FilterReader$Grammar", "forgetProgram", "()V"⟩, 5) := ⟨⟨by decide +kernel, by decide +kernel⟩, List.mem_of_getElem? (i := 34) (by decide +kernel), List.mem_of_getElem? (i := 240) (by decide +kernel), List.mem_of_getElem? (i := 241) (by decide +kernel)⟩
theorem lw_p3 : lw_okq (⟨"FilterReader$Signs", "skipBlanks", "(I)I"⟩, 5) := ⟨⟨by decide +kernel, by decide +kernel⟩, List.mem_of_getElem? (i := 40) (by decide +kernel), List.mem_of_getElem? (i := 263) (by decide +kernel), List.mem_of_getElem? (i := 264) (by decide +kernel)⟩
theorem lw_p4 : lw_okq (⟨"FilterReader$Signs", "byteAt", "(I)I"⟩, 5) := ⟨⟨by decide +kernel, by decide +kernel⟩, List.mem_of_getElem? (i := 40) (by decide +kernel), List.mem_of_getElem? (i := 267) (by decide +kernel), List.mem_of_getElem? (i := 268) (by decide +kernel)⟩
theorem lw_p5 : lw_okq (⟨"FilterReader$Signs", "number", "()V"⟩, 5) := ⟨⟨by decide +kernel, by decide +kernel⟩, List.mem_of_getElem? (i := 40) (by decide +kernel), List.mem_of_getElem? (i := 277) (by decide +kernel), List.mem_of_getElem? (i := 278) (by decide +kernel)⟩
theorem lw_p6 : lw_okq (⟨"FilterReader$Signs", "nameEnd", "(I)I"⟩, 5) := ⟨⟨by decide +kernel, by decide +kernel⟩, List.mem_of_getElem? (i := 40) (by decide +kernel), List.mem_of_getElem? (i := 294) (by decide +kernel), List.mem_of_getElem? (i := 295) (by decide +kernel)⟩
theorem lw_p7 : lw_okq (⟨"FilterReader$Grammar", "program", "(I)V"⟩, 5) := ⟨⟨by decide +kernel, by decide +kernel⟩, List.mem_of_getElem? (i := 34) (by decide +kernel), List.mem_of_getElem? (i := 369) (by decide +kernel), List.mem_of_getElem? (i := 370) (by decide +kernel)⟩
theorem lw_p8 : lw_okq (⟨"FilterReader$Grammar", "heads", "(I)I"⟩, 5) := ⟨⟨by decide +kernel, by decide +kernel⟩, List.mem_of_getElem? (i := 34) (by decide +kernel), List.mem_of_getElem? (i := 377) (by decide +kernel), List.mem_of_getElem? (i := 378) (by decide +kernel)⟩
theorem lw_p9 : lw_okq (⟨"FilterReader$Grammar", "define", "(I)V"⟩, 5) := ⟨⟨by decide +kernel, by decide +kernel⟩, List.mem_of_getElem? (i := 34) (by decide +kernel), List.mem_of_getElem? (i := 387) (by decide +kernel), List.mem_of_getElem? (i := 388) (by decide +kernel)⟩
theorem lw_p10 : lw_okq (⟨"FilterReader$Grammar", "takeAs", "(I)V"⟩, 5) := ⟨⟨by decide +kernel, by decide +kernel⟩, List.mem_of_getElem? (i := 34) (by decide +kernel), List.mem_of_getElem? (i := 391) (by decide +kernel), List.mem_of_getElem? (i := 392) (by decide +kernel)⟩
theorem lw_p11 : lw_okq (⟨"FilterReader$Grammar", "count", "(I)V"⟩, 5) := ⟨⟨by decide +kernel, by decide +kernel⟩, List.mem_of_getElem? (i := 34) (by decide +kernel), List.mem_of_getElem? (i := 395) (by decide +kernel), List.mem_of_getElem? (i := 396) (by decide +kernel)⟩
theorem lw_p12 : lw_okq (⟨"FilterReader$Grammar", "need", "(LFilterReader$Sign;)V"⟩, 5) := ⟨⟨by decide +kernel, by decide +kernel⟩, List.mem_of_getElem? (i := 34) (by decide +kernel), List.mem_of_getElem? (i := 401) (by decide +kernel), List.mem_of_getElem? (i := 402) (by decide +kernel)⟩
theorem lw_p13 : lw_okq (⟨"FilterReader$Grammar", "broken", "(I)V"⟩, 5) := ⟨⟨by decide +kernel, by decide +kernel⟩, List.mem_of_getElem? (i := 34) (by decide +kernel), List.mem_of_getElem? (i := 409) (by decide +kernel), List.mem_of_getElem? (i := 410) (by decide +kernel)⟩
theorem lw_p14 : lw_okq (⟨"FilterReader$Grammar", "learn", "(I)V"⟩, 5) := ⟨⟨by decide +kernel, by decide +kernel⟩, List.mem_of_getElem? (i := 34) (by decide +kernel), List.mem_of_getElem? (i := 428) (by decide +kernel), List.mem_of_getElem? (i := 429) (by decide +kernel)⟩
theorem lw_p15 : lw_okq (⟨"FilterReader$Grammar", "takes", "(LFilterReader$Sign;)Z"⟩, 5) := ⟨⟨by decide +kernel, by decide +kernel⟩, List.mem_of_getElem? (i := 34) (by decide +kernel), List.mem_of_getElem? (i := 446) (by decide +kernel), List.mem_of_getElem? (i := 447) (by decide +kernel)⟩
def lw_privs_1 : List (MethodName × Nat) := [(⟨"java/lang/Throwable", "fillInStackTrace", "(I)Ljava/lang/Throwable;"⟩, 6), (⟨"FilterReader", "append", "(I)V"⟩, 3), (⟨"FilterReader$Grammar", "forgetProgram", "()V"⟩, 5), (⟨"FilterReader$Signs", "skipBlanks", "(I)I"⟩, 5), (⟨"FilterReader$Signs", "byteAt", "(I)I"⟩, 5), (⟨"FilterReader$Signs", "number", "()V"⟩, 5), (⟨"FilterReader$Signs", "nameEnd", "(I)I"⟩, 5), (⟨"FilterReader$Grammar", "program", "(I)V"⟩, 5), (⟨"FilterReader$Grammar", "heads", "(I)I"⟩, 5), (⟨"FilterReader$Grammar", "define", "(I)V"⟩, 5), (⟨"FilterReader$Grammar", "takeAs", "(I)V"⟩, 5), (⟨"FilterReader$Grammar", "count", "(I)V"⟩, 5), (⟨"FilterReader$Grammar", "need", "(LFilterReader$Sign;)V"⟩, 5), (⟨"FilterReader$Grammar", "broken", "(I)V"⟩, 5), (⟨"FilterReader$Grammar", "learn", "(I)V"⟩, 5), (⟨"FilterReader$Grammar", "takes", "(LFilterReader$Sign;)Z"⟩, 5)]
theorem lw_r1 : ∀ q ∈ lw_privs_1, lw_okq q := List.forall_mem_cons.mpr ⟨lw_p0, List.forall_mem_cons.mpr ⟨lw_p1, List.forall_mem_cons.mpr ⟨lw_p2, List.forall_mem_cons.mpr ⟨lw_p3, List.forall_mem_cons.mpr ⟨lw_p4, List.forall_mem_cons.mpr ⟨lw_p5, List.forall_mem_cons.mpr ⟨lw_p6, List.forall_mem_cons.mpr ⟨lw_p7, List.forall_mem_cons.mpr ⟨lw_p8, List.forall_mem_cons.mpr ⟨lw_p9, List.forall_mem_cons.mpr ⟨lw_p10, List.forall_mem_cons.mpr ⟨lw_p11, List.forall_mem_cons.mpr ⟨lw_p12, List.forall_mem_cons.mpr ⟨lw_p13, List.forall_mem_cons.mpr ⟨lw_p14, List.forall_mem_cons.mpr ⟨lw_p15, fun _ h => absurd h List.not_mem_nil⟩⟩⟩⟩⟩⟩⟩⟩⟩⟩⟩⟩⟩⟩⟩⟩
theorem lw_p16 : lw_okq (⟨"FilterReader$Grammar", "learnParameter", "(I)V"⟩, 5) := ⟨⟨by decide +kernel, by decide +kernel⟩, List.mem_of_getElem? (i := 34) (by decide +kernel), List.mem_of_getElem? (i := 450) (by decide +kernel), List.mem_of_getElem? (i := 451) (by decide +kernel)⟩
theorem lw_p17 : lw_okq (⟨"FilterReader$Grammar", "take", "(LFilterReader$Sign;)V"⟩, 5) := ⟨⟨by decide +kernel, by decide +kernel⟩, List.mem_of_getElem? (i := 34) (by decide +kernel), List.mem_of_getElem? (i := 463) (by decide +kernel), List.mem_of_getElem? (i := 464) (by decide +kernel)⟩
theorem lw_p18 : lw_okq (⟨"FilterReader$Grammar", "label", "()V"⟩, 5) := ⟨⟨by decide +kernel, by decide +kernel⟩, List.mem_of_getElem? (i := 34) (by decide +kernel), List.mem_of_getElem? (i := 478) (by decide +kernel), List.mem_of_getElem? (i := 479) (by decide +kernel)⟩
theorem lw_p19 : lw_okq (⟨"FilterReader$Grammar", "operand", "(I)V"⟩, 5) := ⟨⟨by decide +kernel, by decide +kernel⟩, List.mem_of_getElem? (i := 34) (by decide +kernel), List.mem_of_getElem? (i := 484) (by decide +kernel), List.mem_of_getElem? (i := 485) (by decide +kernel)⟩
theorem lw_p20 : lw_okq (⟨"FilterReader$Grammar", "term", "(I)V"⟩, 5) := ⟨⟨by decide +kernel, by decide +kernel⟩, List.mem_of_getElem? (i := 34) (by decide +kernel), List.mem_of_getElem? (i := 500) (by decide +kernel), List.mem_of_getElem? (i := 501) (by decide +kernel)⟩
theorem lw_p21 : lw_okq (⟨"FilterReader$Grammar", "string", "(I)V"⟩, 5) := ⟨⟨by decide +kernel, by decide +kernel⟩, List.mem_of_getElem? (i := 34) (by decide +kernel), List.mem_of_getElem? (i := 506) (by decide +kernel), List.mem_of_getElem? (i := 507) (by decide +kernel)⟩
theorem lw_p22 : lw_okq (⟨"FilterReader$Signs", "characterSize", "(I)I"⟩, 5) := ⟨⟨by decide +kernel, by decide +kernel⟩, List.mem_of_getElem? (i := 40) (by decide +kernel), List.mem_of_getElem? (i := 518) (by decide +kernel), List.mem_of_getElem? (i := 519) (by decide +kernel)⟩
theorem lw_p23 : lw_okq (⟨"FilterReader$Signs", "isNarrowCode", "(I)Z"⟩, 5) := ⟨⟨by decide +kernel, by decide +kernel⟩, List.mem_of_getElem? (i := 40) (by decide +kernel), List.mem_of_getElem? (i := 522) (by decide +kernel), List.mem_of_getElem? (i := 523) (by decide +kernel)⟩
theorem lw_p24 : lw_okq (⟨"FilterReader$Grammar", "field", "()V"⟩, 5) := ⟨⟨by decide +kernel, by decide +kernel⟩, List.mem_of_getElem? (i := 34) (by decide +kernel), List.mem_of_getElem? (i := 535) (by decide +kernel), List.mem_of_getElem? (i := 536) (by decide +kernel)⟩
theorem lw_p25 : lw_okq (⟨"FilterReader$Grammar", "group", "(I)V"⟩, 5) := ⟨⟨by decide +kernel, by decide +kernel⟩, List.mem_of_getElem? (i := 34) (by decide +kernel), List.mem_of_getElem? (i := 539) (by decide +kernel), List.mem_of_getElem? (i := 540) (by decide +kernel)⟩
theorem lw_p26 : lw_okq (⟨"FilterReader$Grammar", "array", "(I)V"⟩, 5) := ⟨⟨by decide +kernel, by decide +kernel⟩, List.mem_of_getElem? (i := 34) (by decide +kernel), List.mem_of_getElem? (i := 543) (by decide +kernel), List.mem_of_getElem? (i := 544) (by decide +kernel)⟩
theorem lw_p27 : lw_okq (⟨"FilterReader$Grammar", "object", "(I)V"⟩, 5) := ⟨⟨by decide +kernel, by decide +kernel⟩, List.mem_of_getElem? (i := 34) (by decide +kernel), List.mem_of_getElem? (i := 549) (by decide +kernel), List.mem_of_getElem? (i := 550) (by decide +kernel)⟩
theorem lw_p28 : lw_okq (⟨"FilterReader$Grammar", "opened", "(I)I"⟩, 5) := ⟨⟨by decide +kernel, by decide +kernel⟩, List.mem_of_getElem? (i := 34) (by decide +kernel), List.mem_of_getElem? (i := 553) (by decide +kernel), List.mem_of_getElem? (i := 554) (by decide +kernel)⟩
theorem lw_p29 : lw_okq (⟨"FilterReader$Grammar", "entry", "(I)V"⟩, 5) := ⟨⟨by decide +kernel, by decide +kernel⟩, List.mem_of_getElem? (i := 34) (by decide +kernel), List.mem_of_getElem? (i := 559) (by decide +kernel), List.mem_of_getElem? (i := 560) (by decide +kernel)⟩
theorem lw_p30 : lw_okq (⟨"FilterReader$Grammar", "needKnown", "(I)V"⟩, 5) := ⟨⟨by decide +kernel, by decide +kernel⟩, List.mem_of_getElem? (i := 34) (by decide +kernel), List.mem_of_getElem? (i := 563) (by decide +kernel), List.mem_of_getElem? (i := 564) (by decide +kernel)⟩
theorem lw_p31 : lw_okq (⟨"FilterReader$Names", "isNamed", "(III)Z"⟩, 6) := ⟨⟨by decide +kernel, by decide +kernel⟩, List.mem_of_getElem? (i := 66) (by decide +kernel), List.mem_of_getElem? (i := 571) (by decide +kernel), List.mem_of_getElem? (i := 572) (by decide +kernel)⟩
def lw_privs_2 : List (MethodName × Nat) := [(⟨"FilterReader$Grammar", "learnParameter", "(I)V"⟩, 5), (⟨"FilterReader$Grammar", "take", "(LFilterReader$Sign;)V"⟩, 5), (⟨"FilterReader$Grammar", "label", "()V"⟩, 5), (⟨"FilterReader$Grammar", "operand", "(I)V"⟩, 5), (⟨"FilterReader$Grammar", "term", "(I)V"⟩, 5), (⟨"FilterReader$Grammar", "string", "(I)V"⟩, 5), (⟨"FilterReader$Signs", "characterSize", "(I)I"⟩, 5), (⟨"FilterReader$Signs", "isNarrowCode", "(I)Z"⟩, 5), (⟨"FilterReader$Grammar", "field", "()V"⟩, 5), (⟨"FilterReader$Grammar", "group", "(I)V"⟩, 5), (⟨"FilterReader$Grammar", "array", "(I)V"⟩, 5), (⟨"FilterReader$Grammar", "object", "(I)V"⟩, 5), (⟨"FilterReader$Grammar", "opened", "(I)I"⟩, 5), (⟨"FilterReader$Grammar", "entry", "(I)V"⟩, 5), (⟨"FilterReader$Grammar", "needKnown", "(I)V"⟩, 5), (⟨"FilterReader$Names", "isNamed", "(III)Z"⟩, 6)]
theorem lw_r2 : ∀ q ∈ lw_privs_2, lw_okq q := List.forall_mem_cons.mpr ⟨lw_p16, List.forall_mem_cons.mpr ⟨lw_p17, List.forall_mem_cons.mpr ⟨lw_p18, List.forall_mem_cons.mpr ⟨lw_p19, List.forall_mem_cons.mpr ⟨lw_p20, List.forall_mem_cons.mpr ⟨lw_p21, List.forall_mem_cons.mpr ⟨lw_p22, List.forall_mem_cons.mpr ⟨lw_p23, List.forall_mem_cons.mpr ⟨lw_p24, List.forall_mem_cons.mpr ⟨lw_p25, List.forall_mem_cons.mpr ⟨lw_p26, List.forall_mem_cons.mpr ⟨lw_p27, List.forall_mem_cons.mpr ⟨lw_p28, List.forall_mem_cons.mpr ⟨lw_p29, List.forall_mem_cons.mpr ⟨lw_p30, List.forall_mem_cons.mpr ⟨lw_p31, fun _ h => absurd h List.not_mem_nil⟩⟩⟩⟩⟩⟩⟩⟩⟩⟩⟩⟩⟩⟩⟩⟩
theorem lw_p32 : lw_okq (⟨"FilterReader$Grammar", "entryName", "()V"⟩, 5) := ⟨⟨by decide +kernel, by decide +kernel⟩, List.mem_of_getElem? (i := 34) (by decide +kernel), List.mem_of_getElem? (i := 578) (by decide +kernel), List.mem_of_getElem? (i := 579) (by decide +kernel)⟩
theorem lw_p33 : lw_okq (⟨"FilterReader$Grammar", "value", "(I)V"⟩, 5) := ⟨⟨by decide +kernel, by decide +kernel⟩, List.mem_of_getElem? (i := 34) (by decide +kernel), List.mem_of_getElem? (i := 587) (by decide +kernel), List.mem_of_getElem? (i := 588) (by decide +kernel)⟩
theorem lw_p34 : lw_okq (⟨"FilterReader$Grammar", "call", "(I)V"⟩, 5) := ⟨⟨by decide +kernel, by decide +kernel⟩, List.mem_of_getElem? (i := 34) (by decide +kernel), List.mem_of_getElem? (i := 593) (by decide +kernel), List.mem_of_getElem? (i := 594) (by decide +kernel)⟩
theorem lw_p35 : lw_okq (⟨"FilterReader$Names", "isKnownAnywhere", "(III)Z"⟩, 6) := ⟨⟨by decide +kernel, by decide +kernel⟩, List.mem_of_getElem? (i := 66) (by decide +kernel), List.mem_of_getElem? (i := 601) (by decide +kernel), List.mem_of_getElem? (i := 602) (by decide +kernel)⟩
theorem lw_p36 : lw_okq (⟨"FilterReader$Names", "isListed", "(Ljava/lang/String;II)Z"⟩, 6) := ⟨⟨by decide +kernel, by decide +kernel⟩, List.mem_of_getElem? (i := 66) (by decide +kernel), List.mem_of_getElem? (i := 606) (by decide +kernel), List.mem_of_getElem? (i := 607) (by decide +kernel)⟩
theorem lw_p37 : lw_okq (⟨"FilterReader$Grammar", "leave", "()V"⟩, 5) := ⟨⟨by decide +kernel, by decide +kernel⟩, List.mem_of_getElem? (i := 34) (by decide +kernel), List.mem_of_getElem? (i := 615) (by decide +kernel), List.mem_of_getElem? (i := 616) (by decide +kernel)⟩
theorem lw_p38 : lw_okq (⟨"FilterReader$Grammar", "brackets", "(I)V"⟩, 5) := ⟨⟨by decide +kernel, by decide +kernel⟩, List.mem_of_getElem? (i := 34) (by decide +kernel), List.mem_of_getElem? (i := 623) (by decide +kernel), List.mem_of_getElem? (i := 624) (by decide +kernel)⟩
theorem lw_p39 : lw_okq (⟨"FilterReader$Grammar", "fold", "(IZ)V"⟩, 5) := ⟨⟨by decide +kernel, by decide +kernel⟩, List.mem_of_getElem? (i := 34) (by decide +kernel), List.mem_of_getElem? (i := 630) (by decide +kernel), List.mem_of_getElem? (i := 631) (by decide +kernel)⟩
theorem lw_p40 : lw_okq (⟨"FilterReader$Grammar", "pattern", "(II)I"⟩, 5) := ⟨⟨by decide +kernel, by decide +kernel⟩, List.mem_of_getElem? (i := 34) (by decide +kernel), List.mem_of_getElem? (i := 636) (by decide +kernel), List.mem_of_getElem? (i := 637) (by decide +kernel)⟩
theorem lw_p41 : lw_okq (⟨"FilterReader$Grammar", "patternName", "(I)I"⟩, 5) := ⟨⟨by decide +kernel, by decide +kernel⟩, List.mem_of_getElem? (i := 34) (by decide +kernel), List.mem_of_getElem? (i := 640) (by decide +kernel), List.mem_of_getElem? (i := 641) (by decide +kernel)⟩
theorem lw_p42 : lw_okq (⟨"FilterReader$Grammar", "patternEntry", "(II)I"⟩, 5) := ⟨⟨by decide +kernel, by decide +kernel⟩, List.mem_of_getElem? (i := 34) (by decide +kernel), List.mem_of_getElem? (i := 646) (by decide +kernel), List.mem_of_getElem? (i := 647) (by decide +kernel)⟩
theorem lw_p43 : lw_okq (⟨"FilterReader$Grammar", "stringWithoutPrograms", "()V"⟩, 5) := ⟨⟨by decide +kernel, by decide +kernel⟩, List.mem_of_getElem? (i := 34) (by decide +kernel), List.mem_of_getElem? (i := 650) (by decide +kernel), List.mem_of_getElem? (i := 651) (by decide +kernel)⟩
theorem lw_p44 : lw_okq (⟨"FilterReader$Grammar", "condition", "(I)V"⟩, 5) := ⟨⟨by decide +kernel, by decide +kernel⟩, List.mem_of_getElem? (i := 34) (by decide +kernel), List.mem_of_getElem? (i := 661) (by decide +kernel), List.mem_of_getElem? (i := 662) (by decide +kernel)⟩
theorem lw_p45 : lw_okq (⟨"FilterReader$Grammar", "branch", "(I)V"⟩, 5) := ⟨⟨by decide +kernel, by decide +kernel⟩, List.mem_of_getElem? (i := 34) (by decide +kernel), List.mem_of_getElem? (i := 665) (by decide +kernel), List.mem_of_getElem? (i := 666) (by decide +kernel)⟩
theorem lw_p46 : lw_okq (⟨"FilterReader$Grammar", "bind", "(I)V"⟩, 5) := ⟨⟨by decide +kernel, by decide +kernel⟩, List.mem_of_getElem? (i := 34) (by decide +kernel), List.mem_of_getElem? (i := 679) (by decide +kernel), List.mem_of_getElem? (i := 680) (by decide +kernel)⟩
theorem lw_p47 : lw_okq (⟨"FilterReaderModel", "fail", "(I)I"⟩, 22) := ⟨⟨by decide +kernel, by decide +kernel⟩, List.mem_of_getElem? (i := 698) (by decide +kernel), List.mem_of_getElem? (i := 815) (by decide +kernel), List.mem_of_getElem? (i := 816) (by decide +kernel)⟩
def lw_privs_3 : List (MethodName × Nat) := [(⟨"FilterReader$Grammar", "entryName", "()V"⟩, 5), (⟨"FilterReader$Grammar", "value", "(I)V"⟩, 5), (⟨"FilterReader$Grammar", "call", "(I)V"⟩, 5), (⟨"FilterReader$Names", "isKnownAnywhere", "(III)Z"⟩, 6), (⟨"FilterReader$Names", "isListed", "(Ljava/lang/String;II)Z"⟩, 6), (⟨"FilterReader$Grammar", "leave", "()V"⟩, 5), (⟨"FilterReader$Grammar", "brackets", "(I)V"⟩, 5), (⟨"FilterReader$Grammar", "fold", "(IZ)V"⟩, 5), (⟨"FilterReader$Grammar", "pattern", "(II)I"⟩, 5), (⟨"FilterReader$Grammar", "patternName", "(I)I"⟩, 5), (⟨"FilterReader$Grammar", "patternEntry", "(II)I"⟩, 5), (⟨"FilterReader$Grammar", "stringWithoutPrograms", "()V"⟩, 5), (⟨"FilterReader$Grammar", "condition", "(I)V"⟩, 5), (⟨"FilterReader$Grammar", "branch", "(I)V"⟩, 5), (⟨"FilterReader$Grammar", "bind", "(I)V"⟩, 5), (⟨"FilterReaderModel", "fail", "(I)I"⟩, 22)]
theorem lw_r3 : ∀ q ∈ lw_privs_3, lw_okq q := List.forall_mem_cons.mpr ⟨lw_p32, List.forall_mem_cons.mpr ⟨lw_p33, List.forall_mem_cons.mpr ⟨lw_p34, List.forall_mem_cons.mpr ⟨lw_p35, List.forall_mem_cons.mpr ⟨lw_p36, List.forall_mem_cons.mpr ⟨lw_p37, List.forall_mem_cons.mpr ⟨lw_p38, List.forall_mem_cons.mpr ⟨lw_p39, List.forall_mem_cons.mpr ⟨lw_p40, List.forall_mem_cons.mpr ⟨lw_p41, List.forall_mem_cons.mpr ⟨lw_p42, List.forall_mem_cons.mpr ⟨lw_p43, List.forall_mem_cons.mpr ⟨lw_p44, List.forall_mem_cons.mpr ⟨lw_p45, List.forall_mem_cons.mpr ⟨lw_p46, List.forall_mem_cons.mpr ⟨lw_p47, fun _ h => absurd h List.not_mem_nil⟩⟩⟩⟩⟩⟩⟩⟩⟩⟩⟩⟩⟩⟩⟩⟩
theorem lw_p48 : lw_okq (⟨"FilterReaderModel", "four", "(I)V"⟩, 22) := ⟨⟨by decide +kernel, by decide +kernel⟩, List.mem_of_getElem? (i := 698) (by decide +kernel), List.mem_of_getElem? (i := 819) (by decide +kernel), List.mem_of_getElem? (i := 820) (by decide +kernel)⟩
theorem lw_p49 : lw_okq (⟨"FilterReaderModel", "scan", "()V"⟩, 22) := ⟨⟨by decide +kernel, by decide +kernel⟩, List.mem_of_getElem? (i := 698) (by decide +kernel), List.mem_of_getElem? (i := 843) (by decide +kernel), List.mem_of_getElem? (i := 844) (by decide +kernel)⟩
theorem lw_p50 : lw_okq (⟨"FilterReaderModel", "look", "(I)I"⟩, 22) := ⟨⟨by decide +kernel, by decide +kernel⟩, List.mem_of_getElem? (i := 698) (by decide +kernel), List.mem_of_getElem? (i := 847) (by decide +kernel), List.mem_of_getElem? (i := 848) (by decide +kernel)⟩
theorem lw_p51 : lw_okq (⟨"FilterReaderModel", "nameFrom", "(I)I"⟩, 22) := ⟨⟨by decide +kernel, by decide +kernel⟩, List.mem_of_getElem? (i := 698) (by decide +kernel), List.mem_of_getElem? (i := 854) (by decide +kernel), List.mem_of_getElem? (i := 855) (by decide +kernel)⟩
theorem lw_p52 : lw_okq (⟨"FilterReaderModel", "take", "(II)V"⟩, 22) := ⟨⟨by decide +kernel, by decide +kernel⟩, List.mem_of_getElem? (i := 698) (by decide +kernel), List.mem_of_getElem? (i := 861) (by decide +kernel), List.mem_of_getElem? (i := 862) (by decide +kernel)⟩
theorem lw_p53 : lw_okq (⟨"FilterReaderModel", "digits", "()V"⟩, 22) := ⟨⟨by decide +kernel, by decide +kernel⟩, List.mem_of_getElem? (i := 698) (by decide +kernel), List.mem_of_getElem? (i := 865) (by decide +kernel), List.mem_of_getElem? (i := 866) (by decide +kernel)⟩
theorem lw_p54 : lw_okq (⟨"FilterReaderModel", "sign", "(III)V"⟩, 22) := ⟨⟨by decide +kernel, by decide +kernel⟩, List.mem_of_getElem? (i := 698) (by decide +kernel), List.mem_of_getElem? (i := 872) (by decide +kernel), List.mem_of_getElem? (i := 873) (by decide +kernel)⟩
theorem lw_p55 : lw_okq (⟨"FilterReaderModel", "program", "()V"⟩, 22) := ⟨⟨by decide +kernel, by decide +kernel⟩, List.mem_of_getElem? (i := 698) (by decide +kernel), List.mem_of_getElem? (i := 876) (by decide +kernel), List.mem_of_getElem? (i := 877) (by decide +kernel)⟩
theorem lw_p56 : lw_okq (⟨"FilterReaderModel", "enter", "()V"⟩, 22) := ⟨⟨by decide +kernel, by decide +kernel⟩, List.mem_of_getElem? (i := 698) (by decide +kernel), List.mem_of_getElem? (i := 880) (by decide +kernel), List.mem_of_getElem? (i := 881) (by decide +kernel)⟩
theorem lw_p57 : lw_okq (⟨"FilterReaderModel", "bad", "(I)Ljava/lang/IllegalStateException;"⟩, 22) := ⟨⟨by decide +kernel, by decide +kernel⟩, List.mem_of_getElem? (i := 698) (by decide +kernel), List.mem_of_getElem? (i := 884) (by decide +kernel), List.mem_of_getElem? (i := 885) (by decide +kernel)⟩
theorem lw_p58 : lw_okq (⟨"FilterReaderModel", "skip", "(Ljava/lang/String;)Z"⟩, 22) := ⟨⟨by decide +kernel, by decide +kernel⟩, List.mem_of_getElem? (i := 698) (by decide +kernel), List.mem_of_getElem? (i := 888) (by decide +kernel), List.mem_of_getElem? (i := 889) (by decide +kernel)⟩
theorem lw_p59 : lw_okq (⟨"FilterReaderModel", "is", "(Ljava/lang/String;)Z"⟩, 22) := ⟨⟨by decide +kernel, by decide +kernel⟩, List.mem_of_getElem? (i := 698) (by decide +kernel), List.mem_of_getElem? (i := 892) (by decide +kernel), List.mem_of_getElem? (i := 893) (by decide +kernel)⟩
theorem lw_p60 : lw_okq (⟨"FilterReaderModel", "spells", "(IILjava/lang/String;)Z"⟩, 22) := ⟨⟨by decide +kernel, by decide +kernel⟩, List.mem_of_getElem? (i := 698) (by decide +kernel), List.mem_of_getElem? (i := 896) (by decide +kernel), List.mem_of_getElem? (i := 897) (by decide +kernel)⟩
theorem lw_p61 : lw_okq (⟨"FilterReaderModel", "definition", "()V"⟩, 22) := ⟨⟨by decide +kernel, by decide +kernel⟩, List.mem_of_getElem? (i := 698) (by decide +kernel), List.mem_of_getElem? (i := 902) (by decide +kernel), List.mem_of_getElem? (i := 903) (by decide +kernel)⟩
theorem lw_p62 : lw_okq (⟨"FilterReaderModel", "isWord", "()Z"⟩, 22) := ⟨⟨by decide +kernel, by decide +kernel⟩, List.mem_of_getElem? (i := 698) (by decide +kernel), List.mem_of_getElem? (i := 906) (by decide +kernel), List.mem_of_getElem? (i := 907) (by decide +kernel)⟩
theorem lw_p63 : lw_okq (⟨"FilterReaderModel", "know", "(IIIIZ)V"⟩, 22) := ⟨⟨by decide +kernel, by decide +kernel⟩, List.mem_of_getElem? (i := 698) (by decide +kernel), List.mem_of_getElem? (i := 910) (by decide +kernel), List.mem_of_getElem? (i := 911) (by decide +kernel)⟩
def lw_privs_4 : List (MethodName × Nat) := [(⟨"FilterReaderModel", "four", "(I)V"⟩, 22), (⟨"FilterReaderModel", "scan", "()V"⟩, 22), (⟨"FilterReaderModel", "look", "(I)I"⟩, 22), (⟨"FilterReaderModel", "nameFrom", "(I)I"⟩, 22), (⟨"FilterReaderModel", "take", "(II)V"⟩, 22), (⟨"FilterReaderModel", "digits", "()V"⟩, 22), (⟨"FilterReaderModel", "sign", "(III)V"⟩, 22), (⟨"FilterReaderModel", "program", "()V"⟩, 22), (⟨"FilterReaderModel", "enter", "()V"⟩, 22), (⟨"FilterReaderModel", "bad", "(I)Ljava/lang/IllegalStateException;"⟩, 22), (⟨"FilterReaderModel", "skip", "(Ljava/lang/String;)Z"⟩, 22), (⟨"FilterReaderModel", "is", "(Ljava/lang/String;)Z"⟩, 22), (⟨"FilterReaderModel", "spells", "(IILjava/lang/String;)Z"⟩, 22), (⟨"FilterReaderModel", "definition", "()V"⟩, 22), (⟨"FilterReaderModel", "isWord", "()Z"⟩, 22), (⟨"FilterReaderModel", "know", "(IIIIZ)V"⟩, 22)]
theorem lw_r4 : ∀ q ∈ lw_privs_4, lw_okq q := List.forall_mem_cons.mpr ⟨lw_p48, List.forall_mem_cons.mpr ⟨lw_p49, List.forall_mem_cons.mpr ⟨lw_p50, List.forall_mem_cons.mpr ⟨lw_p51, List.forall_mem_cons.mpr ⟨lw_p52, List.forall_mem_cons.mpr ⟨lw_p53, List.forall_mem_cons.mpr ⟨lw_p54, List.forall_mem_cons.mpr ⟨lw_p55, List.forall_mem_cons.mpr ⟨lw_p56, List.forall_mem_cons.mpr ⟨lw_p57, List.forall_mem_cons.mpr ⟨lw_p58, List.forall_mem_cons.mpr ⟨lw_p59, List.forall_mem_cons.mpr ⟨lw_p60, List.forall_mem_cons.mpr ⟨lw_p61, List.forall_mem_cons.mpr ⟨lw_p62, List.forall_mem_cons.mpr ⟨lw_p63, fun _ h => absurd h List.not_mem_nil⟩⟩⟩⟩⟩⟩⟩⟩⟩⟩⟩⟩⟩⟩⟩⟩
theorem lw_p64 : lw_okq (⟨"FilterReaderModel", "skip", "(I)Z"⟩, 22) := ⟨⟨by decide +kernel, by decide +kernel⟩, List.mem_of_getElem? (i := 698) (by decide +kernel), List.mem_of_getElem? (i := 914) (by decide +kernel), List.mem_of_getElem? (i := 915) (by decide +kernel)⟩
theorem lw_p65 : lw_okq (⟨"FilterReaderModel", "need", "(I)V"⟩, 22) := ⟨⟨by decide +kernel, by decide +kernel⟩, List.mem_of_getElem? (i := 698) (by decide +kernel), List.mem_of_getElem? (i := 918) (by decide +kernel), List.mem_of_getElem? (i := 919) (by decide +kernel)⟩
theorem lw_p66 : lw_okq (⟨"FilterReaderModel", "choices", "()V"⟩, 22) := ⟨⟨by decide +kernel, by decide +kernel⟩, List.mem_of_getElem? (i := 698) (by decide +kernel), List.mem_of_getElem? (i := 922) (by decide +kernel), List.mem_of_getElem? (i := 923) (by decide +kernel)⟩
theorem lw_p67 : lw_okq (⟨"FilterReaderModel", "ors", "()V"⟩, 22) := ⟨⟨by decide +kernel, by decide +kernel⟩, List.mem_of_getElem? (i := 698) (by decide +kernel), List.mem_of_getElem? (i := 926) (by decide +kernel), List.mem_of_getElem? (i := 927) (by decide +kernel)⟩
theorem lw_p68 : lw_okq (⟨"FilterReaderModel", "ands", "()V"⟩, 22) := ⟨⟨by decide +kernel, by decide +kernel⟩, List.mem_of_getElem? (i := 698) (by decide +kernel), List.mem_of_getElem? (i := 930) (by decide +kernel), List.mem_of_getElem? (i := 931) (by decide +kernel)⟩
theorem lw_p69 : lw_okq (⟨"FilterReaderModel", "compared", "()V"⟩, 22) := ⟨⟨by decide +kernel, by decide +kernel⟩, List.mem_of_getElem? (i := 698) (by decide +kernel), List.mem_of_getElem? (i := 934) (by decide +kernel), List.mem_of_getElem? (i := 935) (by decide +kernel)⟩
theorem lw_p70 : lw_okq (⟨"FilterReaderModel", "sum", "()V"⟩, 22) := ⟨⟨by decide +kernel, by decide +kernel⟩, List.mem_of_getElem? (i := 698) (by decide +kernel), List.mem_of_getElem? (i := 938) (by decide +kernel), List.mem_of_getElem? (i := 939) (by decide +kernel)⟩
theorem lw_p71 : lw_okq (⟨"FilterReaderModel", "product", "()V"⟩, 22) := ⟨⟨by decide +kernel, by decide +kernel⟩, List.mem_of_getElem? (i := 698) (by decide +kernel), List.mem_of_getElem? (i := 942) (by decide +kernel), List.mem_of_getElem? (i := 943) (by decide +kernel)⟩
theorem lw_p72 : lw_okq (⟨"FilterReaderModel", "part", "()V"⟩, 22) := ⟨⟨by decide +kernel, by decide +kernel⟩, List.mem_of_getElem? (i := 698) (by decide +kernel), List.mem_of_getElem? (i := 946) (by decide +kernel), List.mem_of_getElem? (i := 947) (by decide +kernel)⟩
theorem lw_p73 : lw_okq (⟨"FilterReaderModel", "term", "()V"⟩, 22) := ⟨⟨by decide +kernel, by decide +kernel⟩, List.mem_of_getElem? (i := 698) (by decide +kernel), List.mem_of_getElem? (i := 950) (by decide +kernel), List.mem_of_getElem? (i := 951) (by decide +kernel)⟩
theorem lw_p74 : lw_okq (⟨"FilterReaderModel", "string", "(Z)V"⟩, 22) := ⟨⟨by decide +kernel, by decide +kernel⟩, List.mem_of_getElem? (i := 698) (by decide +kernel), List.mem_of_getElem? (i := 954) (by decide +kernel), List.mem_of_getElem? (i := 955) (by decide +kernel)⟩
theorem lw_p75 : lw_okq (⟨"FilterReaderModel", "field", "()V"⟩, 22) := ⟨⟨by decide +kernel, by decide +kernel⟩, List.mem_of_getElem? (i := 698) (by decide +kernel), List.mem_of_getElem? (i := 1017) (by decide +kernel), List.mem_of_getElem? (i := 1018) (by decide +kernel)⟩
theorem lw_p76 : lw_okq (⟨"FilterReaderModel", "object", "()V"⟩, 22) := ⟨⟨by decide +kernel, by decide +kernel⟩, List.mem_of_getElem? (i := 698) (by decide +kernel), List.mem_of_getElem? (i := 1021) (by decide +kernel), List.mem_of_getElem? (i := 1022) (by decide +kernel)⟩
theorem lw_p77 : lw_okq (⟨"FilterReaderModel", "entry", "()V"⟩, 22) := ⟨⟨by decide +kernel, by decide +kernel⟩, List.mem_of_getElem? (i := 698) (by decide +kernel), List.mem_of_getElem? (i := 1025) (by decide +kernel), List.mem_of_getElem? (i := 1026) (by decide +kernel)⟩
theorem lw_p78 : lw_okq (⟨"FilterReaderModel", "variable", "()V"⟩, 22) := ⟨⟨by decide +kernel, by decide +kernel⟩, List.mem_of_getElem? (i := 698) (by decide +kernel), List.mem_of_getElem? (i := 1029) (by decide +kernel), List.mem_of_getElem? (i := 1030) (by decide +kernel)⟩
theorem lw_p79 : lw_okq (⟨"FilterReaderModel", "has", "(III)Z"⟩, 22) := ⟨⟨by decide +kernel, by decide +kernel⟩, List.mem_of_getElem? (i := 698) (by decide +kernel), List.mem_of_getElem? (i := 1033) (by decide +kernel), List.mem_of_getElem? (i := 1034) (by decide +kernel)⟩
def lw_privs_5 : List (MethodName × Nat) := [(⟨"FilterReaderModel", "skip", "(I)Z"⟩, 22), (⟨"FilterReaderModel", "need", "(I)V"⟩, 22), (⟨"FilterReaderModel", "choices", "()V"⟩, 22), (⟨"FilterReaderModel", "ors", "()V"⟩, 22), (⟨"FilterReaderModel", "ands", "()V"⟩, 22), (⟨"FilterReaderModel", "compared", "()V"⟩, 22), (⟨"FilterReaderModel", "sum", "()V"⟩, 22), (⟨"FilterReaderModel", "product", "()V"⟩, 22), (⟨"FilterReaderModel", "part", "()V"⟩, 22), (⟨"FilterReaderModel", "term", "()V"⟩, 22), (⟨"FilterReaderModel", "string", "(Z)V"⟩, 22), (⟨"FilterReaderModel", "field", "()V"⟩, 22), (⟨"FilterReaderModel", "object", "()V"⟩, 22), (⟨"FilterReaderModel", "entry", "()V"⟩, 22), (⟨"FilterReaderModel", "variable", "()V"⟩, 22), (⟨"FilterReaderModel", "has", "(III)Z"⟩, 22)]
theorem lw_r5 : ∀ q ∈ lw_privs_5, lw_okq q := List.forall_mem_cons.mpr ⟨lw_p64, List.forall_mem_cons.mpr ⟨lw_p65, List.forall_mem_cons.mpr ⟨lw_p66, List.forall_mem_cons.mpr ⟨lw_p67, List.forall_mem_cons.mpr ⟨lw_p68, List.forall_mem_cons.mpr ⟨lw_p69, List.forall_mem_cons.mpr ⟨lw_p70, List.forall_mem_cons.mpr ⟨lw_p71, List.forall_mem_cons.mpr ⟨lw_p72, List.forall_mem_cons.mpr ⟨lw_p73, List.forall_mem_cons.mpr ⟨lw_p74, List.forall_mem_cons.mpr ⟨lw_p75, List.forall_mem_cons.mpr ⟨lw_p76, List.forall_mem_cons.mpr ⟨lw_p77, List.forall_mem_cons.mpr ⟨lw_p78, List.forall_mem_cons.mpr ⟨lw_p79, fun _ h => absurd h List.not_mem_nil⟩⟩⟩⟩⟩⟩⟩⟩⟩⟩⟩⟩⟩⟩⟩⟩
theorem lw_p80 : lw_okq (⟨"FilterReaderModel", "sameName", "(III)Z"⟩, 22) := ⟨⟨by decide +kernel, by decide +kernel⟩, List.mem_of_getElem? (i := 698) (by decide +kernel), List.mem_of_getElem? (i := 1037) (by decide +kernel), List.mem_of_getElem? (i := 1038) (by decide +kernel)⟩
theorem lw_p81 : lw_okq (⟨"FilterReaderModel", "named", "()V"⟩, 22) := ⟨⟨by decide +kernel, by decide +kernel⟩, List.mem_of_getElem? (i := 698) (by decide +kernel), List.mem_of_getElem? (i := 1041) (by decide +kernel), List.mem_of_getElem? (i := 1042) (by decide +kernel)⟩
theorem lw_p82 : lw_okq (⟨"FilterReaderModel", "kindOf", "(III)I"⟩, 22) := ⟨⟨by decide +kernel, by decide +kernel⟩, List.mem_of_getElem? (i := 698) (by decide +kernel), List.mem_of_getElem? (i := 1045) (by decide +kernel), List.mem_of_getElem? (i := 1046) (by decide +kernel)⟩
theorem lw_p83 : lw_okq (⟨"FilterReaderModel", "behindTerm", "()Z"⟩, 22) := ⟨⟨by decide +kernel, by decide +kernel⟩, List.mem_of_getElem? (i := 698) (by decide +kernel), List.mem_of_getElem? (i := 1050) (by decide +kernel), List.mem_of_getElem? (i := 1051) (by decide +kernel)⟩
theorem lw_p84 : lw_okq (⟨"FilterReaderModel", "folded", "()V"⟩, 22) := ⟨⟨by decide +kernel, by decide +kernel⟩, List.mem_of_getElem? (i := 698) (by decide +kernel), List.mem_of_getElem? (i := 1054) (by decide +kernel), List.mem_of_getElem? (i := 1055) (by decide +kernel)⟩
theorem lw_p85 : lw_okq (⟨"FilterReaderModel", "need", "(Ljava/lang/String;)V"⟩, 22) := ⟨⟨by decide +kernel, by decide +kernel⟩, List.mem_of_getElem? (i := 698) (by decide +kernel), List.mem_of_getElem? (i := 1058) (by decide +kernel), List.mem_of_getElem? (i := 1059) (by decide +kernel)⟩
theorem lw_p86 : lw_okq (⟨"FilterReaderModel", "whole", "()V"⟩, 22) := ⟨⟨by decide +kernel, by decide +kernel⟩, List.mem_of_getElem? (i := 698) (by decide +kernel), List.mem_of_getElem? (i := 1062) (by decide +kernel), List.mem_of_getElem? (i := 1063) (by decide +kernel)⟩
theorem lw_p87 : lw_okq (⟨"FilterReaderModel", "pattern", "()V"⟩, 22) := ⟨⟨by decide +kernel, by decide +kernel⟩, List.mem_of_getElem? (i := 698) (by decide +kernel), List.mem_of_getElem? (i := 1066) (by decide +kernel), List.mem_of_getElem? (i := 1067) (by decide +kernel)⟩
theorem lw_p88 : lw_okq (⟨"FilterReaderModel", "another", "()V"⟩, 22) := ⟨⟨by decide +kernel, by decide +kernel⟩, List.mem_of_getElem? (i := 698) (by decide +kernel), List.mem_of_getElem? (i := 1070) (by decide +kernel), List.mem_of_getElem? (i := 1071) (by decide +kernel)⟩
theorem lw_p89 : lw_okq (⟨"FilterReaderModel", "entryOfPattern", "()V"⟩, 22) := ⟨⟨by decide +kernel, by decide +kernel⟩, List.mem_of_getElem? (i := 698) (by decide +kernel), List.mem_of_getElem? (i := 1074) (by decide +kernel), List.mem_of_getElem? (i := 1075) (by decide +kernel)⟩
theorem lw_p90 : lw_okq (⟨"FilterReaderModel", "hide", "(IZ)V"⟩, 22) := ⟨⟨by decide +kernel, by decide +kernel⟩, List.mem_of_getElem? (i := 698) (by decide +kernel), List.mem_of_getElem? (i := 1078) (by decide +kernel), List.mem_of_getElem? (i := 1079) (by decide +kernel)⟩
theorem lw_p91 : lw_okq (⟨"FilterReaderModel", "condition", "()V"⟩, 22) := ⟨⟨by decide +kernel, by decide +kernel⟩, List.mem_of_getElem? (i := 698) (by decide +kernel), List.mem_of_getElem? (i := 1082) (by decide +kernel), List.mem_of_getElem? (i := 1083) (by decide +kernel)⟩
def lw_privs_6 : List (MethodName × Nat) := [(⟨"FilterReaderModel", "sameName", "(III)Z"⟩, 22), (⟨"FilterReaderModel", "named", "()V"⟩, 22), (⟨"FilterReaderModel", "kindOf", "(III)I"⟩, 22), (⟨"FilterReaderModel", "behindTerm", "()Z"⟩, 22), (⟨"FilterReaderModel", "folded", "()V"⟩, 22), (⟨"FilterReaderModel", "need", "(Ljava/lang/String;)V"⟩, 22), (⟨"FilterReaderModel", "whole", "()V"⟩, 22), (⟨"FilterReaderModel", "pattern", "()V"⟩, 22), (⟨"FilterReaderModel", "another", "()V"⟩, 22), (⟨"FilterReaderModel", "entryOfPattern", "()V"⟩, 22), (⟨"FilterReaderModel", "hide", "(IZ)V"⟩, 22), (⟨"FilterReaderModel", "condition", "()V"⟩, 22)]
theorem lw_r6 : ∀ q ∈ lw_privs_6, lw_okq q := List.forall_mem_cons.mpr ⟨lw_p80, List.forall_mem_cons.mpr ⟨lw_p81, List.forall_mem_cons.mpr ⟨lw_p82, List.forall_mem_cons.mpr ⟨lw_p83, List.forall_mem_cons.mpr ⟨lw_p84, List.forall_mem_cons.mpr ⟨lw_p85, List.forall_mem_cons.mpr ⟨lw_p86, List.forall_mem_cons.mpr ⟨lw_p87, List.forall_mem_cons.mpr ⟨lw_p88, List.forall_mem_cons.mpr ⟨lw_p89, List.forall_mem_cons.mpr ⟨lw_p90, List.forall_mem_cons.mpr ⟨lw_p91, fun _ h => absurd h List.not_mem_nil⟩⟩⟩⟩⟩⟩⟩⟩⟩⟩⟩⟩
def lw_privs : List (MethodName × Nat) := lw_privs_1 ++ (lw_privs_2 ++ (lw_privs_3 ++ (lw_privs_4 ++ (lw_privs_5 ++ (lw_privs_6)))))
def lw_tbl : List Cond := k2_sels lw_privs ++ tables_1
theorem lw_privs_ok : ∀ q ∈ lw_privs, lw_okq q := by
  show ∀ q ∈ lw_privs_1 ++ (lw_privs_2 ++ (lw_privs_3 ++ (lw_privs_4 ++ (lw_privs_5 ++ (lw_privs_6))))), lw_okq q
  exact List.forall_mem_append.mpr ⟨lw_r1, List.forall_mem_append.mpr ⟨lw_r2, List.forall_mem_append.mpr ⟨lw_r3, List.forall_mem_append.mpr ⟨lw_r4, List.forall_mem_append.mpr ⟨lw_r5, lw_r6⟩⟩⟩⟩⟩
-- ===== end of PART A; then your names; then what follows =====
end
section
/-! ===== BEGIN words of one list among another's, by their places ===== -/
theorem goodIn_r {big : List Cond} (ws : List Cond) (ps : List Nat) (hp : ws = ps.filterMap (fun i => big[i]?)) (h : ws.all goodWord = true) : GoodIn big ws := by
  intro w hw
  have h1 := List.all_eq_true.mp h w hw
  rw [hp] at hw
  obtain ⟨i, -, hi⟩ := List.mem_filterMap.mp hw
  have hm : w ∈ big := by first | exact List.mem_of_getElem? hi | exact List.getElem?_mem hi
  exact ⟨hm, good_of_word h1⟩
theorem goodIn_app {big a b : List Cond} (ha : GoodIn big a) (hb : GoodIn big b) : GoodIn big (a ++ b) := fun w h => (List.mem_append.mp h).elim (ha w) (hb w)
theorem goodIn_ca {big a b : List Cond} {c : Cond} (ha : GoodIn big (c :: a)) (hb : GoodIn big b) : GoodIn big (c :: (a ++ b)) := fun w h => (List.mem_cons.mp h).elim (fun e => ha w (List.mem_cons.mpr (Or.inl e))) (fun h => (List.mem_append.mp h).elim (fun h => ha w (List.mem_cons.mpr (Or.inr h))) (hb w))
theorem goodIn_sub {big ws : List Cond} (hm : ∀ w ∈ ws, w ∈ big) (h : ws.all goodWord = true) : GoodIn big ws := fun w hw => ⟨hm w hw, good_of_word (List.all_eq_true.mp h w hw)⟩
/-! ===== END ===== -/

/-! ===== BEGIN exceptions that leave a method, and their catching by the caller (launches without stack traces) ===== -/
section VXA
/-! The laws vx_back, vx_callV, vx_callS, vx_callSW, vx_throw0, vx_throwS follow proofs of the library, with one case more: JvmDerived/Free/Laws.lean (Back.of_free), Shelf42/LK1.lean (callV, callS), Shelf/KitTraced.lean (throwNew0V, throwNewS). -/
/-- where a method has thrown q: the class by its name, the cell, what was written, the world -/
def vx_T (XC : String → State → State → Prop) (st : State) (q : Addr) (t : State) (mc ms : Nat) (free : Addr → Prop) : Prop :=
  ∃ (E : String) (ce : Cell) (L : List Loc), XC E st t ∧ t.heap[q]? = some ce ∧ ce.vm = .none ∧ st.vm.findClass E = some ce.cls ∧ st.WarmedH t.vm ∧ st.sameButNew ({ t with vm := st.vm } : State) L mc ms ∧ ∀ z ∈ L, free z.base
def vx_Q (Qc : Array Value → State → Outcome → State → Prop) (XC : String → State → State → Prop) (mc ms : Nat) (free : Addr → Prop) : Array Value → State → Outcome → State → Prop := fun a st o t =>
  (Qc a st o t ∧ ∃ L, FrameEnd st o t L mc ms ∧ ∀ q ∈ L, free q.base) ∨ ∃ q, o = .threw q ∧ vx_T XC st q t mc ms free
/-- a callee that returns or throws -/
def vx_Met (l : Launch) (y : MethodName) (ws : List Cond) (rm : Room) (Pc : Array Value → State → Prop) (Qc : Array Value → State → Outcome → State → Prop) (XC : String → State → State → Prop) (mc ms : Nat) (free : Addr → Prop) : Prop :=
  MetFree l y (headSpec ws rm) Pc (fun _ _ _ _ _ => True) (vx_Q Qc XC mc ms free)
def vx_Post (XC : String → State → State → Prop) (mc ms : Nat) (free : Addr → Prop) : Pt → Array Value → Addr → Pt → Prop := fun A a q B =>
  ∃ (g : JFrame) (mk : MethodId) (t : State) (L : List Loc) (E : String) (ce : Cell), B.U.heap = t.heap ∧ B.U.vm = t.vm ∧ XC E (A.U.calling g mk a) t ∧ t.heap[q]? = some ce ∧ ce.vm = .none ∧ A.U.vm.findClass E = some ce.cls ∧ B.locs = A.locs ++ L ∧ (∀ z ∈ L, free z.base) ∧ B.cells = A.cells + mc ∧ B.slots = A.slots + ms
def vx_Back (l : Launch) (R : Room) (p : Program) (e : Env) (below : List Frame) (s : State) (sargs : Array Value) (y : MethodName) (len W9 : Nat)
    (Pre : Pt → Array Value → Prop) (Post : Pt → Array Value → Option Value → Pt → Prop) (PostX : Pt → Array Value → Addr → Pt → Prop) : Prop :=
  ∀ (m : MethodId) (meth : Method) (c : Code) (A : Pt) (g : JFrame) (ig : Instr) (mk : MethodId) (a : Array Value),
    Stand p l e R s m sargs below meth c A.U A.locs A.cells A.slots → g.method = m → g.locals.size = c.maxLocals → decode c.code g.pc = .ok (ig, len) →
    2 * g.monitorRoom + (g.stack.map fun v => v.category).sum ≤ W9 → A.U.methodNamed? y = some mk → Pre A a →
    (∃ (v : Option Value) (B : Pt), Stand p l e R s m sargs below meth c B.U B.locs B.cells B.slots ∧ Post A a v B ∧
      Steps p.tables e below (doInvoke e (A.U.setTop g) [] mk a).1 (B.U.setTop { g with pc := g.pc + len, stack := v.toList ++ g.stack })) ∨
    (∃ (q : Addr) (B : Pt), Stand p l e R s m sargs below meth c B.U B.locs B.cells B.slots ∧ PostX A a q B ∧
      Steps p.tables e below (doInvoke e (A.U.setTop g) [] mk a).1 ((B.U.setTop g).pushFrame (.throwing q)))
section Payer
variable {l : Launch} {R : Room} {p : Program} {e : Env} {below : List Frame} {s : State} {sargs : Array Value} {y : MethodName} {len W9 : Nat}
theorem vx_back {ws : List Cond} {rm : Room} {Pc : Array Value → State → Prop} {Qc : Array Value → State → Outcome → State → Prop} {XC : String → State → State → Prop} {mc ms : Nat} {free : Addr → Prop} {bytes : ByteArray} {maxL : Nat} {ret : Option FieldType}
    (hM : vx_Met l y ws rm Pc Qc XC mc ms free) (hblind : FrameBlind Pc) (hrc : rm.cells = mc) (hrs : rm.slots = ms)
    (hframes : rm.frames + 1 ≤ R.frames) (hlocals : W9 + (maxL + 11) + rm.locals ≤ R.locals)
    (hws : ∀ w ∈ ws, ∀ a' U, s.WarmedH U.vm → w.before a' U = true) (hcode : Cond.code y bytes maxL ret ∈ ws) (hinit : ∀ a' U, s.WarmedH U.vm → (Cond.initialized y.cls).before a' U = true) :
    vx_Back l R p e below s sargs y len W9 (PreOf R mc ms Pc) (PostOf Qc mc ms free) (vx_Post XC mc ms free) := by
  intro m meth c A g ig mk a X hg hsize hdg hW hn hp
  have h1 : (headSpec ws rm).pre.before a A.U = true := atoms_intro fun w hw => hws w hw _ _ X.warmed
  have h2 : (Cond.code y bytes maxL ret).before a A.U = true := hws _ hcode _ _ X.warmed
  have h3 : (Cond.initialized y.cls).before a A.U = true := hinit _ _ X.warmed
  have h4 : A.cells + (headSpec ws rm).room.cells ≤ R.cells := by rw [show (headSpec ws rm).room.cells = mc from hrc]; exact hp.1
  have h5 : A.slots + (headSpec ws rm).room.slots ≤ R.slots := by rw [show (headSpec ws rm).room.slots = ms from hrs]; exact hp.2.1
  have hPc : Pc a (A.U.calling g mk a) := hblind _ _ _ _ hp.2.2
  obtain ⟨U, Ls, c0, s0⟩ := A
  dsimp only [Pt.U, Pt.locs, Pt.cells, Pt.slots] at h1 h2 h3 h4 h5 X hn hPc ⊢
  obtain ⟨methY, cY, hmY, hcY, -, hlY, -, -, -, -⟩ := Cond.code_spec hn h2
  obtain ⟨kY, hkY, -⟩ := className_of_methodNamed hn
  have hinitY : kY.init = .initialized := Cond.initialized_spec (findClass_of_methodNamed hn) hkY h3
  have h : At U g.method c below := by rw [hg]; exact X.here
  have hlocals9 : W9 + (maxL + 11) + (headSpec ws rm).room.locals ≤ R.locals := hlocals
  have happ : (headSpec ws rm).appliesLoose y e.platform (U.calling g mk a) = true :=
    Spec.appliesLoose_calling (g := g) h hdg hn hkY hinitY
      (X.room_calling (g := g) (R' := (headSpec ws rm).room) hsize hmY hcY hframes (by rw [hlY]; omega) h4 h5) h1
  obtain ⟨mid, hmid⟩ := h.above
  have hfr : (U.setTop g).frames = (.java g :: mid) ++ below := by rw [State.frames_setTop' g h.top, hmid]; rfl
  obtain ⟨o, s₂, hsteps, -, hend, hq⟩ := Steps.callFree hM p X.admits X.cas X.clock (acts := []) hfr happ hPc trivial
  have hq' : vx_Q Qc XC mc ms free a (U.calling g mk a) o s₂ := hq
  rw [State.frames_setTop' g h.top] at hend
  obtain ⟨g₀, hg0⟩ := Option.isSome_iff_exists.mp h.top
  obtain ⟨r, hr⟩ := State.topJava?_eq_some.mp hg0
  have hr' : (({ U with heap := s₂.heap, slotsUsed := s₂.slotsUsed } : State).setVm s₂.vm).frames = .java g₀ :: r := hr
  rcases hq' with ⟨hqc, L, hfe, hL⟩ | ⟨q, rfl, E, ce, L, hx, hce, hcv, hcl, hW₂, hsm, hL⟩
  · obtain ⟨⟨v, rfl⟩, hW₂, e2, q2, q3, q4, q5, q6⟩ := id hfe
    have e3 : s₂ = ({ (U.calling g mk a).setFrames s₂.frames with heap := s₂.heap, slotsUsed := s₂.slotsUsed } : State).setVm s₂.vm := by
      have : s₂ = ({ s₂ with vm := (U.calling g mk a).vm } : State).setVm s₂.vm := rfl
      rw [e2] at this
      exact this
    obtain ⟨c₂, i₂, len₂, hc₂, hd₂, hf₂⟩ := hend
    have hW' : U.WarmedH s₂.vm := hW₂
    have hcc : c₂ = c := by
      have h1 : s₂.code? g.method = U.code? g.method := by
        rw [State.code?_eq, State.code?_eq, hW'.alike.method?]
      exact Option.some.inj (hc₂.symm.trans (h1.trans h.code))
    subst hcc
    have hlen : len₂ = len := by rw [hdg] at hd₂; cases hd₂; rfl
    subst hlen
    have hs₂ : s₂ = (({ U with heap := s₂.heap, slotsUsed := s₂.slotsUsed } : State).setVm s₂.vm).setTop { g with pc := g.pc + len₂, stack := v.toList ++ g.stack } := by
      refine e3.trans ?_
      rw [hf₂, State.calling_eq h.top, State.setFrames_setFrames, State.setTop_of_frames _ hr', hr]
      rfl
    have hsame : U.sameButNew ({ U with heap := s₂.heap, slotsUsed := s₂.slotsUsed } : State) L mc ms := by
      refine ⟨?_, q2, q3, q4, q5, q6⟩
      obtain ⟨t, ht, -⟩ := State.frames_cons hr
      show ({ U with heap := s₂.heap, slotsUsed := s₂.slotsUsed } : State) = { U.setFrames U.frames with heap := s₂.heap, slotsUsed := s₂.slotsUsed }
      rw [State.setFrames_self ht]
    subst hg
    refine Or.inl ⟨v, ⟨(({ U with heap := s₂.heap, slotsUsed := s₂.slotsUsed } : State).setVm s₂.vm), Ls ++ L, c0 + mc, s0 + ms⟩,
      ⟨X.admits, X.cas, X.clock, X.frames, X.room, X.hears, X.method, X.code, (X.here.setHeapUsed s₂.heap s₂.slotsUsed).setVm hW'.alike, X.tail, State.WarmedH.trans X.warmed hW', X.limits, X.bytes, X.same.trans (hsame.setVm s.vm)⟩,
      ⟨g, mk, s₂, L, rfl, rfl, hqc, rfl, hL, rfl, rfl⟩, ?_⟩
    show Steps p.tables e below _ ((({ U with heap := s₂.heap, slotsUsed := s₂.slotsUsed } : State).setVm s₂.vm).setTop { g with pc := g.pc + len₂, stack := v.toList ++ g.stack })
    rw [← hs₂]
    exact hsteps
  · obtain ⟨e2, q2, q3, q4, q5, q6⟩ := id hsm
    have e3 : s₂ = ({ (U.calling g mk a).setFrames s₂.frames with heap := s₂.heap, slotsUsed := s₂.slotsUsed } : State).setVm s₂.vm := by
      have : s₂ = ({ s₂ with vm := (U.calling g mk a).vm } : State).setVm s₂.vm := rfl
      rw [e2] at this
      exact this
    have hf₂ : s₂.frames = .throwing q :: .java g :: U.frames.tail := hend
    have hW' : U.WarmedH s₂.vm := hW₂
    have hs₂ : s₂ = ((({ U with heap := s₂.heap, slotsUsed := s₂.slotsUsed } : State).setVm s₂.vm).setTop g).pushFrame (.throwing q) := by
      refine e3.trans ?_
      rw [hf₂, State.calling_eq h.top, State.setFrames_setFrames, State.pushFrame, State.frames_setTop _ hr', State.setTop_of_frames _ hr', State.setFrames_setFrames, hr]
      rfl
    have hsame : U.sameButNew ({ U with heap := s₂.heap, slotsUsed := s₂.slotsUsed } : State) L mc ms := by
      refine ⟨?_, q2, q3, q4, q5, q6⟩
      obtain ⟨t, ht, -⟩ := State.frames_cons hr
      show ({ U with heap := s₂.heap, slotsUsed := s₂.slotsUsed } : State) = { U.setFrames U.frames with heap := s₂.heap, slotsUsed := s₂.slotsUsed }
      rw [State.setFrames_self ht]
    subst hg
    refine Or.inr ⟨q, ⟨(({ U with heap := s₂.heap, slotsUsed := s₂.slotsUsed } : State).setVm s₂.vm), Ls ++ L, c0 + mc, s0 + ms⟩,
      ⟨X.admits, X.cas, X.clock, X.frames, X.room, X.hears, X.method, X.code, (X.here.setHeapUsed s₂.heap s₂.slotsUsed).setVm hW'.alike, X.tail, State.WarmedH.trans X.warmed hW', X.limits, X.bytes, X.same.trans (hsame.setVm s.vm)⟩,
      ⟨g, mk, s₂, L, E, ce, rfl, rfl, hx, hce, hcv, hcl, rfl, hL, rfl, rfl⟩, ?_⟩
    show Steps p.tables e below _ (((({ U with heap := s₂.heap, slotsUsed := s₂.slotsUsed } : State).setVm s₂.vm).setTop g).pushFrame (.throwing q))
    rw [← hs₂]
    exact hsteps
end Payer
section Calls
variable {p : Program} {l : Launch} {e : Env} {R : Room} {s : State} {m : MethodId} {args : Array Value} {below : List Frame} {meth : Method} {c : Code} {T : State} {locs : List Loc} {cells slots : Nat}
theorem vx_callV (X : Stand p l e R s m args below meth c T locs cells slots) (hexec : p.tables.exec = Jvm.exec) {own C : String} {index : Nat} {y : MethodName} {bytes : ByteArray} {maxL : Nat} {ret : Option FieldType}
    (hown : s.vm.findClass own = some m.cls) (hlink : (Cond.methodLink own index y).before args s = true) (hinst : (Cond.instanceMethod y).before args s = true) (hsel : (Cond.selects C y y).before args s = true)
    (hcode : (Cond.code y bytes maxL ret).before args s = true) (hy : y.cls ≠ "java/lang/invoke/MethodHandle" ∧ y.cls ≠ "java/lang/invoke/VarHandle")
    {W9 : Nat} {Pre : Pt → Array Value → Prop} {Post : Pt → Array Value → Option Value → Pt → Prop} {PostX : Pt → Array Value → Addr → Pt → Prop} (hK : vx_Back l R p e below s args y 3 W9 Pre Post PostX)
    {b : Addr} {cellB : Cell} (hcell : T.heap[b]? = some cellB) (hobj : cellB.vm.isStatics = false) (hcls : s.vm.findClass C = some cellB.cls)
    {g : JFrame} (hg : g.method = m) (hsize : g.locals.size = c.maxLocals) {argsL rest : List Value} (hlen : ∀ sig, parseMethodDescriptor y.desc = some sig → argsL.length = sig.parameters.length)
    (hstack : g.stack = argsL.reverse ++ .ref b :: rest) (hW : 2 * g.monitorRoom + (rest.map fun v => v.category).sum ≤ W9) (hdg : decode c.code g.pc = .ok (.invokevirtual index, 3))
    (hpre : ∀ vm₁, s.WarmedH vm₁ → Pre ⟨T.setVm vm₁, locs, cells, slots⟩ (Value.ref b :: argsL).toArray) :
    (∃ (v : Option Value) (vm₁ : Vm) (B : Pt), s.WarmedH vm₁ ∧ Stand p l e R s m args below meth c B.U B.locs B.cells B.slots ∧ Post ⟨T.setVm vm₁, locs, cells, slots⟩ (Value.ref b :: argsL).toArray v B ∧
      ∀ target, Steps p.tables e below (B.U.setTop { g with pc := g.pc + 3, stack := v.toList ++ rest }) target → Steps p.tables e below (T.setTop g) target) ∨
    (∃ (q : Addr) (vm₁ : Vm) (B : Pt), s.WarmedH vm₁ ∧ Stand p l e R s m args below meth c B.U B.locs B.cells B.slots ∧ PostX ⟨T.setVm vm₁, locs, cells, slots⟩ (Value.ref b :: argsL).toArray q B ∧
      Steps p.tables e below (T.setTop g) ((B.U.setTop { g with stack := rest }).pushFrame (.throwing q))) := by
  obtain ⟨mk, methM, hnamed, hmethM, hstM, habM⟩ := Cond.instanceMethod_spec hinst
  obtain ⟨methM', cM, hmethM', -, -, -, -, -, -, hsigM⟩ := Cond.code_spec hnamed hcode
  cases hmethM.symm.trans hmethM'
  obtain ⟨c2, r2, m2, q1, q2, q3, q4, kP, hkP, hkPi⟩ := Cond.selects_spec hsel
  cases hcls.symm.trans q1
  cases (State.methodFound?_of_named hnamed hy).symm.trans q2
  cases hnamed.symm.trans q3
  have hselP : selectMethod e.platform s.vm cellB.cls mk = .method mk := by rw [Launch.admits_selectMethod X.admits]; exact q4
  obtain ⟨vm₁, X₁, hstep₁⟩ := X.invokevirtual hexec hown hlink hnamed hmethM hstM hkP hkPi hy (a := b) (cell := cellB) hcell
    (fun z h => by rw [h] at hobj; cases hobj) hselP hmethM habM hkP hkPi (g := g) hg (argsL := argsL) (rest := rest) (hlen _ hsigM) hstack hdg
  rcases hK m meth c ⟨T.setVm vm₁, locs, cells, slots⟩ { g with stack := rest } (.invokevirtual index) mk (Value.ref b :: argsL).toArray X₁ hg hsize hdg hW (X₁.named hnamed) (hpre vm₁ X₁.warmed) with ⟨v, B, X', hpost, hsteps⟩ | ⟨q, B, X', hpost, hsteps⟩
  · exact Or.inl ⟨v, vm₁, B, X₁.warmed, X', hpost, fun target h => hstep₁ _ fun acts => by rw [doInvoke_state]; exact hsteps.trans h⟩
  · exact Or.inr ⟨q, vm₁, B, X₁.warmed, X', hpost, hstep₁ _ fun acts => by rw [doInvoke_state]; exact hsteps⟩
theorem vx_callS (X : Stand p l e R s m args below meth c T locs cells slots) (hexec : p.tables.exec = Jvm.exec) {own : String} {index : Nat} {y : MethodName} {bytes : ByteArray} {maxL : Nat} {ret : Option FieldType}
    (hown : s.vm.findClass own = some m.cls) (hlink : (Cond.methodLink own index y).before args s = true) (hstat : (Cond.static y).before args s = true) (hinit : (Cond.initialized y.cls).before args s = true)
    (hcode : (Cond.code y bytes maxL ret).before args s = true) (hy : y.cls ≠ "java/lang/invoke/MethodHandle" ∧ y.cls ≠ "java/lang/invoke/VarHandle")
    {W9 : Nat} {Pre : Pt → Array Value → Prop} {Post : Pt → Array Value → Option Value → Pt → Prop} {PostX : Pt → Array Value → Addr → Pt → Prop} (hK : vx_Back l R p e below s args y 3 W9 Pre Post PostX)
    {g : JFrame} (hg : g.method = m) (hsize : g.locals.size = c.maxLocals) {argsL rest : List Value} (hlen : ∀ sig, parseMethodDescriptor y.desc = some sig → argsL.length = sig.parameters.length)
    (hstack : g.stack = argsL.reverse ++ rest) (hW : 2 * g.monitorRoom + (rest.map fun v => v.category).sum ≤ W9) (hdg : decode c.code g.pc = .ok (.invokestatic index, 3))
    (hpre : ∀ vm₁, s.WarmedH vm₁ → Pre ⟨T.setVm vm₁, locs, cells, slots⟩ argsL.toArray) :
    (∃ (v : Option Value) (vm₁ : Vm) (B : Pt), s.WarmedH vm₁ ∧ Stand p l e R s m args below meth c B.U B.locs B.cells B.slots ∧ Post ⟨T.setVm vm₁, locs, cells, slots⟩ argsL.toArray v B ∧
      ∀ target, Steps p.tables e below (B.U.setTop { g with pc := g.pc + 3, stack := v.toList ++ rest }) target → Steps p.tables e below (T.setTop g) target) ∨
    (∃ (q : Addr) (vm₁ : Vm) (B : Pt), s.WarmedH vm₁ ∧ Stand p l e R s m args below meth c B.U B.locs B.cells B.slots ∧ PostX ⟨T.setVm vm₁, locs, cells, slots⟩ argsL.toArray q B ∧
      Steps p.tables e below (T.setTop g) ((B.U.setTop { g with stack := rest }).pushFrame (.throwing q))) := by
  obtain ⟨mk, hnamed⟩ := Cond.code_named hcode
  obtain ⟨methM, cM, hmethM, -, -, -, -, -, -, hsigM⟩ := Cond.code_spec hnamed hcode
  have hstatic : methM.isStatic = true := Cond.static_spec hnamed hmethM hstat
  obtain ⟨kP, hkP, -⟩ := className_of_methodNamed hnamed
  have hinitP : kP.init = .initialized := Cond.initialized_spec (findClass_of_methodNamed hnamed) hkP hinit
  obtain ⟨vm₁, X₁, hstep₁⟩ := X.invokestatic hexec hown hlink hnamed hmethM hstatic hkP hinitP hy (g := g) hg (argsL := argsL) (rest := rest) (hlen _ hsigM) hstack hdg
  rcases hK m meth c ⟨T.setVm vm₁, locs, cells, slots⟩ { g with stack := rest } (.invokestatic index) mk argsL.toArray X₁ hg hsize hdg hW (X₁.named hnamed) (hpre vm₁ X₁.warmed) with ⟨v, B, X', hpost, hsteps⟩ | ⟨q, B, X', hpost, hsteps⟩
  · exact Or.inl ⟨v, vm₁, B, X₁.warmed, X', hpost, fun target h => hstep₁ _ fun acts => by rw [doInvoke_state]; exact hsteps.trans h⟩
  · exact Or.inr ⟨q, vm₁, B, X₁.warmed, X', hpost, hstep₁ _ fun acts => by rw [doInvoke_state]; exact hsteps⟩
end Calls
theorem vx_cls {s : State} {T : State} {vm₁ : Vm} {E : String} {k : ClassId} (hW : s.WarmedH vm₁) (h : (T.setVm vm₁).vm.findClass E = some k) : s.vm.findClass E = some k := by
  have h1 : vm₁.findClass E = some k := h
  rw [hW.alike.findClass] at h1
  exact h1
/-- the method's frame g, with q thrown over it -/
def vx_W (p : Program) (l : Launch) (e : Env) (R : Room) (s : State) (m : MethodId) (args : Array Value) (below : List Frame) (meth : Method) (c : Code) (H : Heap) (locs : List Loc) (cells slots : Nat) (Q : State → Prop) (g : JFrame) (q : Addr) : Prop :=
  ∀ T : State, T.heap = H → Stand p l e R s m args below meth c T locs cells slots → ∃ t, Steps p.tables e below ((T.setTop g).pushFrame (.throwing q)) t ∧ Q t
def vx_Run (p : Program) (l : Launch) (e : Env) (R : Room) (s : State) (m : MethodId) (args : Array Value) (below : List Frame) (meth : Method) (c : Code) (H : Heap) (locs : List Loc) (cells slots mc ms : Nat) (g : JFrame) (rest : List Value) (Qa : State → Outcome → State → Prop) (XC : String → State → State → Prop) (free : Addr → Prop) : Prop :=
  ∀ T : State, T.heap = H → Stand p l e R s m args below meth c T locs cells slots →
    (∃ (v : Option Value) (st₀ t T' : State) (L : List Loc), st₀.heap = H ∧ Stand p l e R s m args below meth c T' (locs ++ L) (cells + mc) (slots + ms) ∧ (∀ q ∈ L, free q.base) ∧ T'.heap = t.heap ∧ T'.vm = t.vm ∧ Qa st₀ (.returned v) t ∧
      Goes p e below T g T' { g with pc := g.pc + 3, stack := v.toList ++ rest }) ∨
    (∃ (q : Addr) (st₀ t T' : State) (L : List Loc) (E : String) (ce : Cell), st₀.heap = H ∧ Stand p l e R s m args below meth c T' (locs ++ L) (cells + mc) (slots + ms) ∧ (∀ z ∈ L, free z.base) ∧ T'.heap = t.heap ∧ T'.vm = t.vm ∧ XC E st₀ t ∧ t.heap[q]? = some ce ∧ ce.vm = .none ∧ s.vm.findClass E = some ce.cls ∧
      Steps p.tables e below (T.setTop g) ((T'.setTop { g with stack := rest }).pushFrame (.throwing q)))
def vx_X {S : Type} (px : S → Prop) (B : String → S → State → Prop) (A : Nat → Prop) : String → State → State → Prop := fun E st t => ∃ u : S, px u ∧ B E u t ∧ va_F A st t
section Runs
variable {p : Program} {l : Launch} {e : Env} {R : Room} {s : State} {m : MethodId} {args : Array Value} {below : List Frame} {meth : Method} {c : Code} {H : Heap} {locs : List Loc} {cells slots : Nat}
variable {y : MethodName} {bytes cc : ByteArray} {maxL nL mc ms n index : Nat} {ret : Option FieldType} {ws : List Cond} {rm : Room} {Pc : Array Value → State → Prop} {Qc : Array Value → State → Outcome → State → Prop} {XC : String → State → State → Prop} {free : Addr → Prop} {Ts : List Cond} {own C : String} {b : Addr} {As rest : List Value} {g : JFrame}
theorem vx_callBack (cb : CallB R s args own index y bytes maxL ret ws rm mc ms n) (hM : vx_Met l y ws rm Pc Qc XC mc ms free) (hbl : FrameBlind Pc) : vx_Back l R p e below s args y 3 8 (PreOf R mc ms Pc) (PostOf Qc mc ms free) (vx_Post XC mc ms free) := by
  obtain ⟨hrc, hrs, hfr, hlo, hws, hcw, -, hini, -⟩ := cb
  exact vx_back (bytes := bytes) (maxL := maxL) (ret := ret) hM hbl hrc hrs hfr hlo hws hcw (fun a' U hW => word_at hW (Or.inl (by first | rfl | simp [Cond.onTables, Cond.keeps, Cond.steady])) hini)
theorem vx_runV (S : CallFix p m c cc nL s args Ts own) (hM : vx_Met l y ws rm Pc Qc XC mc ms free) (cw : CallW R s args own C index y bytes maxL ret ws rm mc ms n) (hp : PreV s H C b Pc As)
    (hg : g.method = m) (hn : As.length = n) (hsize : g.locals.size = nL) (hstack : g.stack = As.reverse ++ .ref b :: rest) (hW : 2 * g.monitorRoom + (rest.map fun v => v.category).sum ≤ 8) (hdg : decode cc g.pc = .ok (.invokevirtual index, 3)) (hf : cells + mc ≤ R.cells ∧ slots + ms ≤ R.slots) :
    vx_Run p l e R s m args below meth c H locs cells slots mc ms g rest (Qc (Value.ref b :: As).toArray) XC free := by
  have hK : vx_Back l R p e below s args y 3 8 (PreOf R mc ms Pc) (PostOf Qc mc ms free) (vx_Post XC mc ms free) := vx_callBack cw.1 hM hp.1
  obtain ⟨⟨-, -, -, -, -, -, hcode, -, hy, hlen, hl⟩, hin, hse⟩ := cw
  obtain ⟨hx, hb, hml, ho, -⟩ := S
  obtain ⟨-, ⟨cellB, hcB, hoB, hclB⟩, hPc⟩ := hp
  intro T hT X
  rcases vx_callV X hx (C := C) (bytes := bytes) (maxL := maxL) (ret := ret) ho hl hin hse hcode hy hK (by rw [hT]; exact hcB) hoB hclB hg (hsize.trans hml.symm) (argsL := As) (rest := rest) (fun sig h => hn.trans (hlen sig h)) hstack hW (by rw [hb]; exact hdg)
    (fun vm₁ hW₁ => ⟨hf.1, hf.2, hPc (T.setVm vm₁) hT hW₁⟩) with ⟨v, vm₁, ⟨U', l2, c2, s2⟩, hW₁, X', ⟨g', mk, t, L, e1, e2, hq, h1, hL, h2, h3⟩, st⟩ | ⟨q, vm₁, ⟨U', l2, c2, s2⟩, hW₁, X', ⟨g', mk, t, L, E, ce, e1, e2, hq, hce, hcv, hcl, h1, hL, h2, h3⟩, st⟩
  · dsimp only [Pt.U, Pt.locs, Pt.cells, Pt.slots] at X' e1 e2 h1 h2 h3 st
    subst h1; subst h2; subst h3
    exact Or.inl ⟨v, (T.setVm vm₁).calling g' mk (Value.ref b :: As).toArray, t, U', L, hT, X', hL, e1, e2, hq, st⟩
  · dsimp only [Pt.U, Pt.locs, Pt.cells, Pt.slots] at X' e1 e2 h1 h2 h3 st hcl
    subst h1; subst h2; subst h3
    exact Or.inr ⟨q, (T.setVm vm₁).calling g' mk (Value.ref b :: As).toArray, t, U', L, E, ce, hT, X', hL, e1, e2, hq, hce, hcv, vx_cls hW₁ hcl, st⟩
theorem vx_runS (S : CallFix p m c cc nL s args Ts own) (hM : vx_Met l y ws rm Pc Qc XC mc ms free) (cw : CallB R s args own index y bytes maxL ret ws rm mc ms n ∧ (Cond.static y).before args s = true) (hp : PreS s H Pc As)
    (hg : g.method = m) (hn : As.length = n) (hsize : g.locals.size = nL) (hstack : g.stack = As.reverse ++ rest) (hW : 2 * g.monitorRoom + (rest.map fun v => v.category).sum ≤ 8) (hdg : decode cc g.pc = .ok (.invokestatic index, 3)) (hf : cells + mc ≤ R.cells ∧ slots + ms ≤ R.slots) :
    vx_Run p l e R s m args below meth c H locs cells slots mc ms g rest (Qc As.toArray) XC free := by
  have hK : vx_Back l R p e below s args y 3 8 (PreOf R mc ms Pc) (PostOf Qc mc ms free) (vx_Post XC mc ms free) := vx_callBack cw.1 hM hp.1
  obtain ⟨⟨-, -, -, -, -, -, hcode, hini, hy, hlen, hl⟩, hstt⟩ := cw
  obtain ⟨hx, hb, hml, ho, -⟩ := S
  intro T hT X
  rcases vx_callS X hx (bytes := bytes) (maxL := maxL) (ret := ret) ho hl hstt hini hcode hy hK hg (hsize.trans hml.symm) (argsL := As) (rest := rest) (fun sig h => hn.trans (hlen sig h)) hstack hW (by rw [hb]; exact hdg)
    (fun vm₁ hW₁ => ⟨hf.1, hf.2, hp.2 (T.setVm vm₁) hT hW₁⟩) with ⟨v, vm₁, ⟨U', l2, c2, s2⟩, hW₁, X', ⟨g', mk, t, L, e1, e2, hq, h1, hL, h2, h3⟩, st⟩ | ⟨q, vm₁, ⟨U', l2, c2, s2⟩, hW₁, X', ⟨g', mk, t, L, E, ce, e1, e2, hq, hce, hcv, hcl, h1, hL, h2, h3⟩, st⟩
  · dsimp only [Pt.U, Pt.locs, Pt.cells, Pt.slots] at X' e1 e2 h1 h2 h3 st
    subst h1; subst h2; subst h3
    exact Or.inl ⟨v, (T.setVm vm₁).calling g' mk As.toArray, t, U', L, hT, X', hL, e1, e2, hq, st⟩
  · dsimp only [Pt.U, Pt.locs, Pt.cells, Pt.slots] at X' e1 e2 h1 h2 h3 st hcl
    subst h1; subst h2; subst h3
    exact Or.inr ⟨q, (T.setVm vm₁).calling g' mk As.toArray, t, U', L, E, ce, hT, X', hL, e1, e2, hq, hce, hcv, vx_cls hW₁ hcl, st⟩
end Runs
section Rows
variable {p : Program} {l : Launch} {e : Env} {R : Room} {s : State} {m : MethodId} {args : Array Value} {below : List Frame} {meth : Method} {c : Code} {H : Heap} {locs : List Loc} {cells slots : Nat} {Q : State → Prop}
variable {mc ms : Nat} {free : Addr → Prop} {A0 A1 : Nat → Prop} {H0 : Heap} {a : Array Value} {pc : Nat} {ls : Array Slot} {st0 rest : List Value}
theorem vx_keep {st₀ t T' : State} {L : List Loc} (h0 : st₀.heap = H) (e1 : T'.heap = t.heap) (hS : va_S A0 H0 H locs) (hA : ∀ q, q < H.size → A1 q → A0 q) (hf : ∀ q, free q → A0 q) (hL : ∀ q ∈ L, free q.base) (hF : va_F A1 st₀ t) :
    H.size ≤ T'.heap.size ∧ (∀ q : Nat, q < H.size → ¬ A1 q → T'.heap[q]? = H[q]?) ∧ va_S A0 H0 T'.heap (locs ++ L) := by
  obtain ⟨hz, hk⟩ := hF
  rw [h0] at hz hk
  exact ⟨by rw [e1]; exact hz, fun q h1 h2 => by rw [e1]; exact hk q h1 h2,
    ⟨Nat.le_trans hS.1 (by rw [e1]; exact hz), fun q h1 h2 => by rw [e1, hk q (Nat.lt_of_lt_of_le h1 hS.1) (fun z => h2 (hA q (Nat.lt_of_lt_of_le h1 hS.1) z))]; exact hS.2.1 q h1 h2, fun q hq => by
      rcases List.mem_append.mp hq with h | h
      · exact hS.2.2 q h
      · exact hf _ (hL q h)⟩⟩
theorem vx_calli {S SX : Type} {post : Int32 → S → Prop} {px : SX → Prop} {B : S → State → Prop} {BX : String → SX → State → Prop} {AX : Nat → Prop} (hr : vx_Run p l e R s m args below meth c H locs cells slots mc ms (F0 m pc ls st0) rest (va_Qi post B A1 a) (vx_X px BX AX) free) (hS : va_S A0 H0 H locs) (hA : ∀ q, q < H.size → A1 q → A0 q) (hf : ∀ q, free q → A0 q) (hAX : ∀ q, q < H.size → AX q → A0 q)
    (kx : ∀ (E : String) (ce : Cell) (q9 : Addr) (u : SX) (t : State) (H1 : Heap) (locs1 : List Loc), t.heap = H1 → s.vm.Alike t.vm → px u → BX E u t → H.size ≤ H1.size → (∀ q : Nat, q < H.size → ¬ AX q → H1[q]? = H[q]?) → va_S A0 H0 H1 locs1 → H1[q9]? = some ce → ce.vm = .none → s.vm.findClass E = some ce.cls → vx_W p l e R s m args below meth c H1 locs1 (cells + mc) (slots + ms) Q (F0 m pc ls rest) q9)
    (kk : ∀ (r : Int32) (u : S) (t : State) (H1 : Heap) (locs1 : List Loc), t.heap = H1 → s.vm.Alike t.vm → post r u → B u t → H.size ≤ H1.size → (∀ q : Nat, q < H.size → ¬ A1 q → H1[q]? = H[q]?) → va_S A0 H0 H1 locs1 → W p l e R s m args below meth c H1 locs1 (cells + mc) (slots + ms) Q (F0 m (pc + 3) ls (.int r :: rest))) : W p l e R s m args below meth c H locs cells slots Q (F0 m pc ls st0) := by
  intro T hT X
  rcases hr T hT X with ⟨v, st₀, t, T', L, h0, X', hL, e1, e2, ⟨⟨r, u, hv, hp, hb⟩, hF⟩, st⟩ | ⟨q, st₀, t, T', L, E, ce, h0, X', hL, e1, e2, ⟨u, hp, hb, hF⟩, hce, hcv, hcl, st⟩
  · cases hv
    obtain ⟨k1, k2, k3⟩ := vx_keep h0 e1 hS hA hf hL hF
    obtain ⟨t2, a1, b1⟩ := kk r u t T'.heap (locs ++ L) e1.symm (by rw [← e2]; exact X'.warmed.alike) hp hb k1 k2 k3 T' rfl X'
    exact ⟨t2, st t2 a1, b1⟩
  · obtain ⟨k1, k2, k3⟩ := vx_keep h0 e1 hS hAX hf hL hF
    obtain ⟨t2, a1, b1⟩ := kx E ce q u t T'.heap (locs ++ L) e1.symm (by rw [← e2]; exact X'.warmed.alike) hp hb k1 k2 k3 (by rw [e1]; exact hce) hcv hcl T' rfl X'
    exact ⟨t2, st.trans a1, b1⟩
theorem vx_calll {S SX : Type} {post : Int64 → S → Prop} {px : SX → Prop} {B : S → State → Prop} {BX : String → SX → State → Prop} {AX : Nat → Prop} (hr : vx_Run p l e R s m args below meth c H locs cells slots mc ms (F0 m pc ls st0) rest (va_Ql post B A1 a) (vx_X px BX AX) free) (hS : va_S A0 H0 H locs) (hA : ∀ q, q < H.size → A1 q → A0 q) (hf : ∀ q, free q → A0 q) (hAX : ∀ q, q < H.size → AX q → A0 q)
    (kx : ∀ (E : String) (ce : Cell) (q9 : Addr) (u : SX) (t : State) (H1 : Heap) (locs1 : List Loc), t.heap = H1 → s.vm.Alike t.vm → px u → BX E u t → H.size ≤ H1.size → (∀ q : Nat, q < H.size → ¬ AX q → H1[q]? = H[q]?) → va_S A0 H0 H1 locs1 → H1[q9]? = some ce → ce.vm = .none → s.vm.findClass E = some ce.cls → vx_W p l e R s m args below meth c H1 locs1 (cells + mc) (slots + ms) Q (F0 m pc ls rest) q9)
    (kk : ∀ (r : Int64) (u : S) (t : State) (H1 : Heap) (locs1 : List Loc), t.heap = H1 → s.vm.Alike t.vm → post r u → B u t → H.size ≤ H1.size → (∀ q : Nat, q < H.size → ¬ A1 q → H1[q]? = H[q]?) → va_S A0 H0 H1 locs1 → W p l e R s m args below meth c H1 locs1 (cells + mc) (slots + ms) Q (F0 m (pc + 3) ls (.long r :: rest))) : W p l e R s m args below meth c H locs cells slots Q (F0 m pc ls st0) := by
  intro T hT X
  rcases hr T hT X with ⟨v, st₀, t, T', L, h0, X', hL, e1, e2, ⟨⟨r, u, hv, hp, hb⟩, hF⟩, st⟩ | ⟨q, st₀, t, T', L, E, ce, h0, X', hL, e1, e2, ⟨u, hp, hb, hF⟩, hce, hcv, hcl, st⟩
  · cases hv
    obtain ⟨k1, k2, k3⟩ := vx_keep h0 e1 hS hA hf hL hF
    obtain ⟨t2, a1, b1⟩ := kk r u t T'.heap (locs ++ L) e1.symm (by rw [← e2]; exact X'.warmed.alike) hp hb k1 k2 k3 T' rfl X'
    exact ⟨t2, st t2 a1, b1⟩
  · obtain ⟨k1, k2, k3⟩ := vx_keep h0 e1 hS hAX hf hL hF
    obtain ⟨t2, a1, b1⟩ := kx E ce q u t T'.heap (locs ++ L) e1.symm (by rw [← e2]; exact X'.warmed.alike) hp hb k1 k2 k3 (by rw [e1]; exact hce) hcv hcl T' rfl X'
    exact ⟨t2, st.trans a1, b1⟩
theorem vx_callf {S SX : Type} {post : UInt32 → S → Prop} {px : SX → Prop} {B : S → State → Prop} {BX : String → SX → State → Prop} {AX : Nat → Prop} (hr : vx_Run p l e R s m args below meth c H locs cells slots mc ms (F0 m pc ls st0) rest (va_Qf post B A1 a) (vx_X px BX AX) free) (hS : va_S A0 H0 H locs) (hA : ∀ q, q < H.size → A1 q → A0 q) (hf : ∀ q, free q → A0 q) (hAX : ∀ q, q < H.size → AX q → A0 q)
    (kx : ∀ (E : String) (ce : Cell) (q9 : Addr) (u : SX) (t : State) (H1 : Heap) (locs1 : List Loc), t.heap = H1 → s.vm.Alike t.vm → px u → BX E u t → H.size ≤ H1.size → (∀ q : Nat, q < H.size → ¬ AX q → H1[q]? = H[q]?) → va_S A0 H0 H1 locs1 → H1[q9]? = some ce → ce.vm = .none → s.vm.findClass E = some ce.cls → vx_W p l e R s m args below meth c H1 locs1 (cells + mc) (slots + ms) Q (F0 m pc ls rest) q9)
    (kk : ∀ (r : UInt32) (u : S) (t : State) (H1 : Heap) (locs1 : List Loc), t.heap = H1 → s.vm.Alike t.vm → post r u → B u t → H.size ≤ H1.size → (∀ q : Nat, q < H.size → ¬ A1 q → H1[q]? = H[q]?) → va_S A0 H0 H1 locs1 → W p l e R s m args below meth c H1 locs1 (cells + mc) (slots + ms) Q (F0 m (pc + 3) ls (.float r :: rest))) : W p l e R s m args below meth c H locs cells slots Q (F0 m pc ls st0) := by
  intro T hT X
  rcases hr T hT X with ⟨v, st₀, t, T', L, h0, X', hL, e1, e2, ⟨⟨r, u, hv, hp, hb⟩, hF⟩, st⟩ | ⟨q, st₀, t, T', L, E, ce, h0, X', hL, e1, e2, ⟨u, hp, hb, hF⟩, hce, hcv, hcl, st⟩
  · cases hv
    obtain ⟨k1, k2, k3⟩ := vx_keep h0 e1 hS hA hf hL hF
    obtain ⟨t2, a1, b1⟩ := kk r u t T'.heap (locs ++ L) e1.symm (by rw [← e2]; exact X'.warmed.alike) hp hb k1 k2 k3 T' rfl X'
    exact ⟨t2, st t2 a1, b1⟩
  · obtain ⟨k1, k2, k3⟩ := vx_keep h0 e1 hS hAX hf hL hF
    obtain ⟨t2, a1, b1⟩ := kx E ce q u t T'.heap (locs ++ L) e1.symm (by rw [← e2]; exact X'.warmed.alike) hp hb k1 k2 k3 (by rw [e1]; exact hce) hcv hcl T' rfl X'
    exact ⟨t2, st.trans a1, b1⟩
theorem vx_calld {S SX : Type} {post : UInt64 → S → Prop} {px : SX → Prop} {B : S → State → Prop} {BX : String → SX → State → Prop} {AX : Nat → Prop} (hr : vx_Run p l e R s m args below meth c H locs cells slots mc ms (F0 m pc ls st0) rest (va_Qd post B A1 a) (vx_X px BX AX) free) (hS : va_S A0 H0 H locs) (hA : ∀ q, q < H.size → A1 q → A0 q) (hf : ∀ q, free q → A0 q) (hAX : ∀ q, q < H.size → AX q → A0 q)
    (kx : ∀ (E : String) (ce : Cell) (q9 : Addr) (u : SX) (t : State) (H1 : Heap) (locs1 : List Loc), t.heap = H1 → s.vm.Alike t.vm → px u → BX E u t → H.size ≤ H1.size → (∀ q : Nat, q < H.size → ¬ AX q → H1[q]? = H[q]?) → va_S A0 H0 H1 locs1 → H1[q9]? = some ce → ce.vm = .none → s.vm.findClass E = some ce.cls → vx_W p l e R s m args below meth c H1 locs1 (cells + mc) (slots + ms) Q (F0 m pc ls rest) q9)
    (kk : ∀ (r : UInt64) (u : S) (t : State) (H1 : Heap) (locs1 : List Loc), t.heap = H1 → s.vm.Alike t.vm → post r u → B u t → H.size ≤ H1.size → (∀ q : Nat, q < H.size → ¬ A1 q → H1[q]? = H[q]?) → va_S A0 H0 H1 locs1 → W p l e R s m args below meth c H1 locs1 (cells + mc) (slots + ms) Q (F0 m (pc + 3) ls (.double r :: rest))) : W p l e R s m args below meth c H locs cells slots Q (F0 m pc ls st0) := by
  intro T hT X
  rcases hr T hT X with ⟨v, st₀, t, T', L, h0, X', hL, e1, e2, ⟨⟨r, u, hv, hp, hb⟩, hF⟩, st⟩ | ⟨q, st₀, t, T', L, E, ce, h0, X', hL, e1, e2, ⟨u, hp, hb, hF⟩, hce, hcv, hcl, st⟩
  · cases hv
    obtain ⟨k1, k2, k3⟩ := vx_keep h0 e1 hS hA hf hL hF
    obtain ⟨t2, a1, b1⟩ := kk r u t T'.heap (locs ++ L) e1.symm (by rw [← e2]; exact X'.warmed.alike) hp hb k1 k2 k3 T' rfl X'
    exact ⟨t2, st t2 a1, b1⟩
  · obtain ⟨k1, k2, k3⟩ := vx_keep h0 e1 hS hAX hf hL hF
    obtain ⟨t2, a1, b1⟩ := kx E ce q u t T'.heap (locs ++ L) e1.symm (by rw [← e2]; exact X'.warmed.alike) hp hb k1 k2 k3 (by rw [e1]; exact hce) hcv hcl T' rfl X'
    exact ⟨t2, st.trans a1, b1⟩
theorem vx_callv {S SX : Type} {post : S → Prop} {px : SX → Prop} {B : S → State → Prop} {BX : String → SX → State → Prop} {AX : Nat → Prop} (hr : vx_Run p l e R s m args below meth c H locs cells slots mc ms (F0 m pc ls st0) rest (va_Qv post B A1 a) (vx_X px BX AX) free) (hS : va_S A0 H0 H locs) (hA : ∀ q, q < H.size → A1 q → A0 q) (hf : ∀ q, free q → A0 q) (hAX : ∀ q, q < H.size → AX q → A0 q)
    (kx : ∀ (E : String) (ce : Cell) (q9 : Addr) (u : SX) (t : State) (H1 : Heap) (locs1 : List Loc), t.heap = H1 → s.vm.Alike t.vm → px u → BX E u t → H.size ≤ H1.size → (∀ q : Nat, q < H.size → ¬ AX q → H1[q]? = H[q]?) → va_S A0 H0 H1 locs1 → H1[q9]? = some ce → ce.vm = .none → s.vm.findClass E = some ce.cls → vx_W p l e R s m args below meth c H1 locs1 (cells + mc) (slots + ms) Q (F0 m pc ls rest) q9)
    (kk : ∀ (u : S) (t : State) (H1 : Heap) (locs1 : List Loc), t.heap = H1 → s.vm.Alike t.vm → post u → B u t → H.size ≤ H1.size → (∀ q : Nat, q < H.size → ¬ A1 q → H1[q]? = H[q]?) → va_S A0 H0 H1 locs1 → W p l e R s m args below meth c H1 locs1 (cells + mc) (slots + ms) Q (F0 m (pc + 3) ls (rest))) : W p l e R s m args below meth c H locs cells slots Q (F0 m pc ls st0) := by
  intro T hT X
  rcases hr T hT X with ⟨v, st₀, t, T', L, h0, X', hL, e1, e2, ⟨⟨u, hv, hp, hb⟩, hF⟩, st⟩ | ⟨q, st₀, t, T', L, E, ce, h0, X', hL, e1, e2, ⟨u, hp, hb, hF⟩, hce, hcv, hcl, st⟩
  · cases hv
    obtain ⟨k1, k2, k3⟩ := vx_keep h0 e1 hS hA hf hL hF
    obtain ⟨t2, a1, b1⟩ := kk u t T'.heap (locs ++ L) e1.symm (by rw [← e2]; exact X'.warmed.alike) hp hb k1 k2 k3 T' rfl X'
    exact ⟨t2, st t2 a1, b1⟩
  · obtain ⟨k1, k2, k3⟩ := vx_keep h0 e1 hS hAX hf hL hF
    obtain ⟨t2, a1, b1⟩ := kx E ce q u t T'.heap (locs ++ L) e1.symm (by rw [← e2]; exact X'.warmed.alike) hp hb k1 k2 k3 (by rw [e1]; exact hce) hcv hcl T' rfl X'
    exact ⟨t2, st.trans a1, b1⟩
/-- caught by the row x of this method's table; the rows ahead don't take it -/
theorem vx_catch {own name : String} {E : String} {ce : Cell} {q : Addr} (hown : s.vm.findClass own = some m.cls) (pre : List ExceptionTableEntry) (x : ExceptionTableEntry) (suf : List ExceptionTableEntry) (hsplit : c.exceptionTable.toList = pre ++ x :: suf)
    (hpass : ∀ z ∈ pre, covers z pc = false ∨ (z.catchType ≠ 0 ∧ ∃ nm : String, (Cond.classLink own z.catchType nm).before args s = true ∧ va_Nc E nm s)) (hx : covers x pc = true) (h0 : x.catchType ≠ 0)
    (hlink : (Cond.classLink own x.catchType name).before args s = true) (hcast : (Cond.castable E name).before args s = true) (hcell : H[q]? = some ce) (hv : ce.vm = .none) (hcl : s.vm.findClass E = some ce.cls)
    (kk : W p l e R s m args below meth c H locs cells slots Q (F0 m x.handlerPc ls [.ref q])) : vx_W p l e R s m args below meth c H locs cells slots Q (F0 m pc ls rest) q := by
  intro T hT X
  have hpl : e.platform.magicAccessors = ({} : Platform).magicAccessors := by rw [X.admits.platform]
  obtain ⟨c3, c4, hc3, hc4, hasg⟩ := Cond.castable_spec hcast
  cases Option.some.inj (hc3.symm.trans hcl)
  obtain ⟨c5, hc5, hcl5⟩ := Cond.classLink_spec hown hlink e.platform hpl
  cases Option.some.inj (hc4.symm.trans hc5)
  obtain ⟨vm', X', st⟩ := X.thenCaughtThrough q (g := F0 m pc ls rest) rfl (Steps.refl _) (by rw [hT]; exact hcell) (by rw [hv]; rfl) (by obtain ⟨k9, h9, -⟩ := Vm.findClass_spec hcl; exact ⟨k9, h9⟩) pre x suf hsplit
    (fun z hz => by
      rcases hpass z hz with h | ⟨hz0, nm, hl1, hn1⟩
      · exact Or.inl h
      · obtain ⟨c6, hc6, hcl6⟩ := Cond.classLink_spec hown hl1 e.platform hpl
        obtain ⟨a8, b8, h1, h2, h3⟩ := hn1
        cases Option.some.inj (h1.symm.trans hcl)
        cases Option.some.inj (h2.symm.trans hc6)
        exact Or.inr ⟨hz0, _, hcl6, h3⟩) hx (Or.inr ⟨h0, c4, hcl5, hasg⟩)
  obtain ⟨t, a1, b1⟩ := kk (T.setVm vm') hT X'
  exact ⟨t, st.trans a1, b1⟩
end Rows
section Ends
variable {p : Program} {l : Launch} {e : Env} {R : Room} {s : State} {m : MethodId} {args : Array Value} {below : List Frame} {meth : Method} {c : Code} {H : Heap} {locs : List Loc} {cells slots : Nat} {Q : State → Prop}
variable {mc ms : Nat} {free : Addr → Prop} {A0 A1 : Nat → Prop} {H0 : Heap} {a : Array Value} {ls : Array Slot} {st0 rest : List Value}
variable {Qc : Array Value → State → Outcome → State → Prop} {XC : String → State → State → Prop}
/-- what a body that may throw owes at its end -/
def vx_MQ (below : List Frame) (Qc : Array Value → State → Outcome → State → Prop) (XC : String → State → State → Prop) (a : Array Value) (s : State) (mc ms : Nat) (free : Addr → Prop) : State → Prop := fun t =>
  ∃ o, t.status = .running ∧ Ended t below o ∧ vx_Q Qc XC mc ms free a s o t
theorem vx_ret {g : JFrame} {mc ms : Nat} (k : W p l e R s m args below meth c H locs cells slots (MQ below Qc args s mc ms free) g) : W p l e R s m args below meth c H locs cells slots (vx_MQ below Qc XC args s mc ms free) g := by
  intro T hT X
  obtain ⟨t, a1, o, b1, b2, b3, b4⟩ := k T hT X
  exact ⟨t, a1, o, b1, b2, Or.inl ⟨b3, b4⟩⟩
/-- not caught here: it goes on to the caller -/
theorem vx_widen {g : JFrame} {q : Addr} {k n : Nat} (h1 : cells ≤ k) (h2 : slots ≤ n) (kk : vx_W p l e R s m args below meth c H locs k n Q g q) : vx_W p l e R s m args below meth c H locs cells slots Q g q := fun T hT X => kk T hT (stand_widen X h1 h2)
theorem vx_out {pc : Nat} {E : String} {ce : Cell} {q : Addr} {mc ms : Nat} (hout : ∀ x ∈ c.exceptionTable.toList, covers x pc = false) (hlocks : meth.locks = false) (hcell : H[q]? = some ce) (hv : ce.vm = .none) (hcl : s.vm.findClass E = some ce.cls)
    (hx : ∀ t : State, t.heap = H → s.vm.Alike t.vm → XC E s t) (hf : ∀ z ∈ locs, free z.base) (hc : cells ≤ mc) (hs : slots ≤ ms) :
    vx_W p l e R s m args below meth c H locs cells slots (vx_MQ below Qc XC args s mc ms free) (F0 m pc ls rest) q := by
  intro T hT X
  obtain ⟨st1, hrun, hend, hW, hsm⟩ := X.leaveThrown q (g := F0 m pc ls rest) rfl rfl rfl hout hlocks
  have hcell9 : (T.setFrames (.throwing q :: below)).heap[q]? = some ce := by
    show T.heap[q]? = some ce
    rw [hT]; exact hcell
  exact ⟨_, st1, .threw q, hrun, hend, Or.inr ⟨q, rfl, E, ce, locs, hx _ hT hW.alike, hcell9, hv, hcl, hW, hsm.mono hc hs, hf⟩⟩
theorem vx_frame {U : State} {k n : Nat} (h : s.sameButNew ({ U with vm := s.vm } : State) locs k n) : s.heap.size ≤ U.heap.size ∧ ∀ q : Nat, q < s.heap.size → (∀ z ∈ locs, z.base ≠ q) → U.heap[q]? = s.heap[q]? := by
  obtain ⟨-, h2, -, -, -, h6⟩ := h
  refine ⟨h2, fun q hq hz => ?_⟩
  obtain ⟨c9, e1, e2, e3, e4⟩ := h6 q _ (Array.getElem?_eq_getElem hq)
  have hs : c9.slots = (s.heap[q]).slots := Array.ext_getElem? fun i => e4 i fun hm => hz _ hm rfl
  have h9 : c9 = s.heap[q] := by
    rw [hs] at e2
    exact e2
  have e5 : U.heap[q]? = some c9 := e1
  rw [e5, h9, Array.getElem?_eq_getElem hq]
/-- the words of a throw but the four that speak of the heap -/
def vx_no (w : Cond) : Bool := decide (w ≠ .isRef (.static Bundle.tN "UNASSIGNED_STACK" Bundle.steD)) && decide (w ≠ .isRef (.static Bundle.tN "SUPPRESSED_SENTINEL" Bundle.listD)) && decide (w ≠ .laysStatic Bundle.tN "UNASSIGNED_STACK" Bundle.steD) && decide (w ≠ .laysStatic Bundle.tN "SUPPRESSED_SENTINEL" Bundle.listD)
def vx_at0 (own : String) (ic : Nat) (X : String) (names : List String) : List Cond := (Bundle.ownAtoms0 own ic X names).filter vx_no
def vx_atS (own : String) (ic : Nat) (X : String) (names : List String) : List Cond := (Bundle.ownAtoms own ic X names).filter vx_no
/-- a word that the tables alone decide, or a good one -/
def vx_ot (w : Cond) : Bool := w.onTables || goodWord w
theorem vx_ot_at {args a' : Array Value} {s U : State} {w : Cond} (hW : s.WarmedH U.vm) (hvm : s.vm = U.vm) (hg : vx_ot w = true) (h : w.before args s = true) : w.before a' U = true := by
  simp only [vx_ot, Bool.or_eq_true] at hg
  rcases hg with hg | hg
  · exact va_tabs hg hvm h
  · exact word_at hW (good_of_word hg) h
/-- a list's words: the good ones out of the method's own list, the others by premises of their own -/
theorem vx_hat {args : Array Value} {s : State} {L B : List Cond} (h1 : ∀ w ∈ L.filter goodWord, w.before args s = true) (h2 : ∀ w ∈ L.filter (fun w => !goodWord w), w ∈ B) (h3 : ∀ w ∈ B, w.before args s = true) : ∀ w ∈ L, w.before args s = true := by
  intro w hw
  by_cases g : goodWord w = true
  · exact h1 w (List.mem_filter.mpr ⟨hw, g⟩)
  · refine h3 w (h2 w (List.mem_filter.mpr ⟨hw, ?_⟩))
    show (!goodWord w) = true
    cases hgw : goodWord w
    · rfl
    · exact absurd hgw g
theorem vx_c {args : Array Value} {s : State} {w : Cond} {B : List Cond} (h : w.before args s = true) (t : ∀ w ∈ B, w.before args s = true) : ∀ w' ∈ w :: B, w'.before args s = true := fun w' h' => (List.mem_cons.mp h').elim (fun e => by rw [e]; exact h) (t w')
theorem vx_n {args : Array Value} {s : State} : ∀ w ∈ ([] : List Cond), w.before args s = true := fun _ h => nomatch h
theorem vx_own {args : Array Value} {s : State} {L : List Cond} (h1 : ∀ w ∈ L.filter vx_no, w.before args s = true)
    (hU : (Cond.isRef (.static Bundle.tN "UNASSIGNED_STACK" Bundle.steD)).before args s = true) (hN : (Cond.isRef (.static Bundle.tN "SUPPRESSED_SENTINEL" Bundle.listD)).before args s = true)
    (lU : (Cond.laysStatic Bundle.tN "UNASSIGNED_STACK" Bundle.steD).before args s = true) (lN : (Cond.laysStatic Bundle.tN "SUPPRESSED_SENTINEL" Bundle.listD).before args s = true) : ∀ w ∈ L, w.before args s = true := by
  intro w hw
  by_cases e1 : w = .isRef (.static Bundle.tN "UNASSIGNED_STACK" Bundle.steD)
  · rw [e1]; exact hU
  · by_cases e2 : w = .isRef (.static Bundle.tN "SUPPRESSED_SENTINEL" Bundle.listD)
    · rw [e2]; exact hN
    · by_cases e3 : w = .laysStatic Bundle.tN "UNASSIGNED_STACK" Bundle.steD
      · rw [e3]; exact lU
      · by_cases e4 : w = .laysStatic Bundle.tN "SUPPRESSED_SENTINEL" Bundle.listD
        · rw [e4]; exact lN
        · exact h1 w (List.mem_filter.mpr ⟨hw, by unfold vx_no; rw [decide_eq_true e1, decide_eq_true e2, decide_eq_true e3, decide_eq_true e4]; rfl⟩)
/-- where a static field lies, its class's statics cell in H -/
def vx_L (C n d : String) (A : Nat → Prop) (U : State) (H : Heap) : Prop := ∃ (c : ClassId) (k : Class) (i : Nat) (f : Field) (a : Nat) (cell : Cell), U.vm.findClass C = some c ∧ U.fieldFound? C n d = some (c, k, i, f) ∧ f.isStatic = true ∧ k.statics = some a ∧ H[a]? = some cell ∧ cell.vm.isStatics = true ∧ cell.cls = c ∧ f.slot < cell.slots.size ∧ k.staticTypes[f.slot]? = some f.type ∧ ¬ A a
theorem vx_L.moved {C n d : String} {A : Nat → Prop} {u U : State} {H : Heap} (hvm : u.vm.Alike U.vm) (h : vx_L C n d A u H) : vx_L C n d A U H := by
  obtain ⟨c, k, i, f, a, cell, h1, h2, h3, h4, h5, h6, h7, h8, h9, h10⟩ := h
  obtain ⟨k', hi', he⟩ := State.fieldFound?_setVm hvm h2
  exact ⟨c, k', i, f, a, cell, by rw [hvm.findClass]; exact h1, hi', h3, by rw [he]; exact h4, h5, h6, h7, h8, by rw [he]; exact h9, h10⟩
theorem vx_L.kept {C n d : String} {A : Nat → Prop} {U : State} {H H1 : Heap} (h : vx_L C n d A U H) (hq : ∀ a : Nat, a < H.size → ¬ A a → H1[a]? = H[a]?) : vx_L C n d A U H1 := by
  obtain ⟨c, k, i, f, a, cell, h1, h2, h3, h4, h5, h6, h7, h8, h9, h10⟩ := h
  exact ⟨c, k, i, f, a, cell, h1, h2, h3, h4, by rw [hq a (Array.getElem?_eq_some_iff.mp h5).1 h10]; exact h5, h6, h7, h8, h9, h10⟩
theorem vx_L.narrow {C n d : String} {A B : Nat → Prop} {U : State} {H : Heap} (h : vx_L C n d A U H) (hAB : ∀ q, B q → A q) : vx_L C n d B U H := by
  obtain ⟨c, k, i, f, a, cell, h1, h2, h3, h4, h5, h6, h7, h8, h9, h10⟩ := h
  exact ⟨c, k, i, f, a, cell, h1, h2, h3, h4, h5, h6, h7, h8, h9, fun z => h10 (hAB _ z)⟩
theorem vx_L.word {C n d : String} {A : Nat → Prop} {s : State} {args : Array Value} (h : vx_L C n d A s s.heap) : (Cond.laysStatic C n d).before args s = true := by
  obtain ⟨c, k, i, f, a, cell, h1, h2, h3, h4, h5, h6, h7, h8, h9, -⟩ := h
  show (Cond.laysStatic C n d).holds args s none s [] = true
  exact Cond.laysStatic_of h1 h2 h3 h4 h5 h6 h7 h8 h9
/-- .. and what it holds: null or some reference -/
def vx_Zq (C n d : String) (A : Nat → Prop) (U : State) (H : Heap) : Prop := va_Zq C n d A U H ∧ vx_L C n d A U H
theorem vx_Zq.moved {C n d : String} {A : Nat → Prop} {u U : State} {H : Heap} (hvm : u.vm.Alike U.vm) (h : vx_Zq C n d A u H) : vx_Zq C n d A U H := ⟨va_Zq.moved hvm h.1, vx_L.moved hvm h.2⟩
theorem vx_Zq.kept {C n d : String} {A : Nat → Prop} {U : State} {H H1 : Heap} (h : vx_Zq C n d A U H) (hq : ∀ a : Nat, a < H.size → ¬ A a → H1[a]? = H[a]?) : vx_Zq C n d A U H1 := ⟨va_Zq.kept h.1 hq, vx_L.kept h.2 hq⟩
theorem vx_Zq.narrow {C n d : String} {A B : Nat → Prop} {U : State} {H : Heap} (h : vx_Zq C n d A U H) (hAB : ∀ q, B q → A q) : vx_Zq C n d B U H := ⟨va_Zq.narrow h.1 hAB, vx_L.narrow h.2 hAB⟩
theorem vx_Zqof {args : Array Value} {s : State} {C n d : String} {A : Nat → Prop} (hl : (Cond.laysStatic C n d).before args s = true) (hini : (Cond.initialized C).before args s = true) (h : (Cond.isRef (.static C n d)).before args s = true) (hA : ∀ a : Nat, a < s.heap.size → ¬ A a) : vx_Zq C n d A s s.heap := by
  refine ⟨va_Zqof hl hini h hA, ?_⟩
  obtain ⟨c, k, i, f, a, cell, h1, h2, h3, h4, h5, h6, h7, h8, h9⟩ := Cond.laysStatic_spec hl
  exact ⟨c, k, i, f, a, cell, h1, h2, h3, h4, h5, h6, h7, h8, h9, hA a (Array.getElem?_eq_some_iff.mp h5).1⟩
theorem vx_isRef {C n d : String} {v : Value} {A : Nat → Prop} {s : State} {args : Array Value} (h : va_Z C n d v A s s.heap) (hv : v.isRef = true) : (Cond.isRef (.static C n d)).before args s = true := by
  obtain ⟨cf, kf, fi, f, a, cell, h1, h2, h3, h4, h5, h6, h7, -⟩ := h
  have he : (Term.static C n d).eval args s none [] s = some v := by
    simp [Term.eval, State.fieldNamed?, h1, h2, h4, h5, h6, h7]
  simp only [Cond.before, Cond.holds, Cond.value, he]
  cases v <;> simp_all [Value.isRef]
theorem vx_isRefq {C n d : String} {A : Nat → Prop} {s : State} {args : Array Value} (h : va_Zq C n d A s s.heap) : (Cond.isRef (.static C n d)).before args s = true := by
  rcases h with h | ⟨t, h⟩
  · exact vx_isRef h rfl
  · exact vx_isRef h rfl
/-- the same frame, seen from here: as if the method were called anew in this heap -/
theorem vx_rebase {T : State} (X : Stand p l e R s m args below meth c T locs cells slots) {R' : Room} (hf : R'.frames ≤ R.frames) (hl : R'.locals ≤ R.locals) (hc : cells + R'.cells ≤ R.cells) (hs : slots + R'.slots ≤ R.slots) :
    Stand p l e R' ((T.setVm s.vm).setFrames (.invoking m args :: below)) m args below meth c T [] 0 0 := by
  have htop : (T.setVm s.vm).topJava?.isSome := X.here.top
  have hF : ((T.setVm s.vm).setFrames (.invoking m args :: below)).frames = .invoking m args :: below := State.frames_setFrames _ (State.cur_lt_of_top htop)
  obtain ⟨g₀, hg0⟩ := Option.isSome_iff_exists.mp htop
  obtain ⟨r, hr⟩ := State.topJava?_eq_some.mp hg0
  have hl9 : e.platform.stackLimits (T.setVm s.vm).me = e.platform.stackLimits s.me := X.limits
  have hb9 : (T.setVm s.vm).me.stackBytes = s.me.stackBytes := X.bytes
  refine ⟨X.admits, X.cas, X.clock, hF, ?_, X.hears, X.method, X.code, X.here, X.tail, X.warmed, ?_, ?_, ?_⟩
  · have h := X.room
    have hU : ((T.setVm s.vm).setFrames (.invoking m args :: below)).localsInUse = s.localsInUse := by
      rw [State.localsInUse_invoking hF (meth := meth) (c := c) X.method X.code, State.localsInUse_invoking X.frames X.method X.code]
    simp only [State.hasRoom, Bool.and_eq_true, decide_eq_true_eq] at h ⊢
    obtain ⟨⟨⟨⟨h1, h2, h3, h4, h5, h6⟩, h7⟩, h8⟩, h9⟩ := h
    rw [X.frames, List.length_cons] at h2 h3
    have q1 := X.heapSize
    have q2 := X.used
    simp only [hF, hU, List.length_cons, State.stackLimits_setFrames, State.stackBytes_setFrames, hl9, hb9]
    refine ⟨⟨⟨⟨by omega, by omega, by omega, by omega, by omega, h6⟩, ?_⟩, ?_⟩, X.book⟩
    · show T.heap.size + R'.cells ≤ e.platform.maxCells
      omega
    · show T.slotsUsed + R'.slots ≤ e.platform.maxSlots
      omega
  · rw [State.stackLimits_setFrames]; rfl
  · rw [State.stackBytes_setFrames]; rfl
  · refine ⟨?_, Nat.le_refl _, Nat.le_refl _, ?_, ?_, fun a c9 h9 => ⟨c9, h9, rfl, rfl, fun _ _ => rfl⟩⟩
    · obtain ⟨t, ht, -⟩ := State.frames_cons hr
      show T.setVm s.vm = { ((T.setVm s.vm).setFrames (.invoking m args :: below)).setFrames (T.setVm s.vm).frames with heap := T.heap, slotsUsed := T.slotsUsed }
      rw [State.setFrames_setFrames, State.setFrames_self ht]
      rfl
    · show T.slotsUsed = T.slotsUsed + ((T.heap.toList.drop T.heap.size).map (·.slots.size)).sum
      rw [List.drop_eq_nil_of_le (Nat.le_of_eq Array.length_toList)]
      rfl
    · show ((T.heap.toList.drop T.heap.size).map (·.slots.size)).sum ≤ 0
      rw [List.drop_eq_nil_of_le (Nat.le_of_eq Array.length_toList)]
      exact Nat.le_refl _
/-- 'throw new E()': new; dup; invokespecial; athrow -/
theorem vx_throw0 {cc : ByteArray} {pc : Nat} (hexec : p.tables.exec = Jvm.exec) (hb : c.code = cc) (hl : l.stackTraces = false) {own cls : String} {names : List String} {ik ic mc ms : Nat} {A : Nat → Prop}
    (hown : s.vm.findClass own = some m.cls) (hcls : Bundle.fit cls = true) (hnames : ∀ n ∈ names, Bundle.fit n = true)
    (hk : (Cond.classLink own ik cls).before args s = true) (hini : (Cond.initialized cls).before args s = true) (hat : ∀ w ∈ vx_at0 own ic cls names, w.before args s = true)
    (hgood : ∀ w ∈ Cond.classLink own ik cls :: Cond.initialized cls :: vx_at0 own ic cls names, vx_ot w = true)
    (hU : vx_Zq Bundle.tN "UNASSIGNED_STACK" Bundle.steD A s s.heap) (hN : vx_Zq Bundle.tN "SUPPRESSED_SENTINEL" Bundle.listD A s s.heap) (hS : va_S A s.heap H locs) (hsize : ls.size = c.maxLocals)
    (d0 : decode cc pc = .ok (.new ik, 3)) (d3 : decode cc (pc + 3) = .ok (.dup, 1)) (d4 : decode cc (pc + 4) = .ok (.invokespecial ic, 3)) (d7 : decode cc (pc + 7) = .ok (.athrow, 1))
    (hout : ∀ x ∈ c.exceptionTable.toList, covers x (pc + 7) = false)
    (hRframes : names.length + 3 < R.frames) (hRlocals : (rest.map fun v => v.category).sum + (13 * (names.length + 1) + 42) ≤ R.locals) (hRcells : cells + 1 ≤ R.cells) (hRslots : slots + 6 ≤ R.slots) (hlocks : meth.locks = false)
    (hx : ∀ t : State, s.vm.Alike t.vm → H.size ≤ t.heap.size → (∀ q : Nat, q < H.size → t.heap[q]? = H[q]?) → XC cls s t)
    (hf : ∀ z ∈ locs, free z.base) (hc : cells + 1 ≤ mc) (hs : slots + 6 ≤ ms) :
    W p l e R s m args below meth c H locs cells slots (vx_MQ below Qc XC args s mc ms free) (F0 m pc ls rest) := by
  intro T hT X
  have htr : e.platform.stackTraces = false := (show e.platform.stackTraces = l.stackTraces by rw [X.admits.platform]).trans hl
  have Y := vx_rebase X (R' := { frames := R.frames, locals := R.locals, cells := 1, slots := 6 }) (Nat.le_refl _) (Nat.le_refl _) hRcells hRslots
  obtain ⟨s', hA⟩ : ∃ z, z = (T.setVm s.vm).setFrames (.invoking m args :: below) := ⟨_, rfl⟩
  rw [← hA] at Y
  have hvm : s'.vm = s.vm := by rw [hA]; rfl
  have hhp : s'.heap = H := by rw [hA]; exact hT
  have hW0 : s.WarmedH s'.vm := by rw [hvm]; exact State.WarmedH.refl s
  have hat' : ∀ w ∈ vx_at0 own ic cls names, w.before args s' = true := fun w hw => vx_ot_at hW0 hvm.symm (hgood w (List.mem_cons_of_mem _ (List.mem_cons_of_mem _ hw))) (hat w hw)
  have hk' : (Cond.classLink own ik cls).before args s' = true := vx_ot_at hW0 hvm.symm (hgood _ List.mem_cons_self) hk
  have hini' : (Cond.initialized cls).before args s' = true := vx_ot_at hW0 hvm.symm (hgood _ (List.mem_cons_of_mem _ List.mem_cons_self)) hini
  have hU' : vx_Zq Bundle.tN "UNASSIGNED_STACK" Bundle.steD A s' s'.heap := by rw [hhp]; exact vx_Zq.moved hW0.alike (hU.kept hS.2.1)
  have hN' : vx_Zq Bundle.tN "SUPPRESSED_SENTINEL" Bundle.listD A s' s'.heap := by rw [hhp]; exact vx_Zq.moved hW0.alike (hN.kept hS.2.1)
  have h : ∀ w ∈ Bundle.ownAtoms0 own ic cls names, w.before args s' = true := vx_own hat' (vx_isRefq hU'.1) (vx_isRefq hN'.1) hU'.2.word hN'.2.word
  have hown' : s'.vm.findClass own = some m.cls := by rw [hvm]; exact hown
  have hins : (Cond.instantiable cls 6).before args s' = true := h _ (by simp [Bundle.ownAtoms0])
  obtain ⟨vm₁, cX, kX, hfX, hkX, -, -, X₁, st1⟩ := Y.newCold hexec (own := own) (C := cls) (index := ik) (n := 6) hown' hk' hins hini'
    (g := F0 m pc ls rest) rfl (by rw [hb]; exact d0) (Nat.le_refl _) (Nat.le_refl _)
  generalize hT1 : (T.setVm vm₁).pushCell { cls := cX, slots := kX.instanceTypes.map defaultValue, vm := .none } = T1 at X₁ st1
  have hcat : (Value.ref T.heap.size).category = 1 := rfl
  have hcellA : T1.heap[T.heap.size]? = some (freshCell cX kX) := by rw [← hT1]; exact State.heap_pushCell_size _ _
  have d3' : decode c.code (pc + 3) = .ok (.dup, 1) := by rw [hb]; exact d3
  obtain ⟨U, hsteps, hrun, hend, hW, hsame, ce, hce, hO⟩ := X₁.ctorThrow0 hexec htr (own := own) (cls := cls) (names := names) (ic := ic) hown' hcls hnames h (fun x hx => nomatch hx) hfX hkX hcellA (by rw [hhp, hT]; exact Nat.le_refl _)
    (g := { method := m, pc := pc + 4, locals := ls, stack := .ref T.heap.size :: .ref T.heap.size :: rest, locked := none }) rfl hsize rfl rfl (rest := rest) rfl
    (by rw [hb]; exact d4) (by rw [hb]; exact d7) hout hRframes (by simp only [List.map_cons, List.sum_cons, hcat]; omega) hlocks
  obtain ⟨f1, f2⟩ := vx_frame hsame
  rw [hhp] at f1 f2
  have hWs : s.WarmedH U.vm := State.WarmedH.trans hW0 hW
  have hcl : s.vm.findClass cls = some ce.cls := by
    have h9 := hO.cls
    rw [hvm] at h9
    exact h9
  have hall : s.sameButNew ({ U with vm := s.vm } : State) locs mc ms := by
    subst hA
    obtain ⟨e1, e2⟩ := hsame
    rw [State.setFrames_setFrames] at e1
    have h2 : (T.setVm s.vm).sameButNew ({ U with vm := s.vm } : State) [] (0 + 1) (0 + 6) := ⟨e1, e2⟩
    have h3 := X.same.trans h2
    rw [List.append_nil] at h3
    exact h3.mono hc hs
  refine ⟨U, ?_, .threw T.heap.size, hrun, hend, Or.inr ⟨T.heap.size, rfl, cls, ce, locs, hx U hWs.alike f1 (fun q hq => f2 q hq (fun z hz => nomatch hz)), hce, hO.vm, hcl, hWs, hall, hf⟩⟩
  refine st1 _ ?_
  show Steps p.tables e below (T1.setTop { method := m, pc := pc + 3, locals := ls, stack := .ref T.heap.size :: rest, locked := none }) _
  jvm_step X₁.here [X₁.here.top, hexec, d3', Value.category]
  exact hsteps
/-- 'throw new E("text")': new; dup; ldc; invokespecial; athrow -/
theorem vx_throwS {cc : ByteArray} {pc : Nat} (hexec : p.tables.exec = Jvm.exec) (hb : c.code = cc) (hl : l.stackTraces = false) {own cls text : String} {names : List String} {ik is ic mc ms sa : Nat} {A : Nat → Prop}
    (hown : s.vm.findClass own = some m.cls) (hcls : Bundle.fit cls = true) (hnames : ∀ n ∈ names, Bundle.fit n = true)
    (hk : (Cond.classLink own ik cls).before args s = true) (hini : (Cond.initialized cls).before args s = true) (hstr : vk_R own is text sa s) (hat : ∀ w ∈ vx_atS own ic cls names, w.before args s = true)
    (hgood : ∀ w ∈ Cond.classLink own ik cls :: Cond.initialized cls :: vx_atS own ic cls names, vx_ot w = true)
    (hU : vx_Zq Bundle.tN "UNASSIGNED_STACK" Bundle.steD A s s.heap) (hN : vx_Zq Bundle.tN "SUPPRESSED_SENTINEL" Bundle.listD A s s.heap) (hS : va_S A s.heap H locs) (hsize : ls.size = c.maxLocals)
    (d0 : decode cc pc = .ok (.new ik, 3)) (d3 : decode cc (pc + 3) = .ok (.dup, 1)) (d4 : decode cc (pc + 4) = .ok (.ldc is, 2)) (d6 : decode cc (pc + 6) = .ok (.invokespecial ic, 3)) (d9 : decode cc (pc + 9) = .ok (.athrow, 1))
    (hout : ∀ x ∈ c.exceptionTable.toList, covers x (pc + 9) = false)
    (hRframes : names.length + 3 < R.frames) (hRlocals : (rest.map fun v => v.category).sum + (13 * (names.length + 1) + 43) ≤ R.locals) (hRcells : cells + 1 ≤ R.cells) (hRslots : slots + 6 ≤ R.slots) (hlocks : meth.locks = false)
    (hx : ∀ t : State, s.vm.Alike t.vm → H.size ≤ t.heap.size → (∀ q : Nat, q < H.size → t.heap[q]? = H[q]?) → XC cls s t)
    (hf : ∀ z ∈ locs, free z.base) (hc : cells + 1 ≤ mc) (hs : slots + 6 ≤ ms) :
    W p l e R s m args below meth c H locs cells slots (vx_MQ below Qc XC args s mc ms free) (F0 m pc ls rest) := by
  intro T hT X
  have htr : e.platform.stackTraces = false := (show e.platform.stackTraces = l.stackTraces by rw [X.admits.platform]).trans hl
  have Y := vx_rebase X (R' := { frames := R.frames, locals := R.locals, cells := 1, slots := 6 }) (Nat.le_refl _) (Nat.le_refl _) hRcells hRslots
  obtain ⟨s', hA⟩ : ∃ z, z = (T.setVm s.vm).setFrames (.invoking m args :: below) := ⟨_, rfl⟩
  rw [← hA] at Y
  have hvm : s'.vm = s.vm := by rw [hA]; rfl
  have hhp : s'.heap = H := by rw [hA]; exact hT
  have hW0 : s.WarmedH s'.vm := by rw [hvm]; exact State.WarmedH.refl s
  have hat' : ∀ w ∈ vx_atS own ic cls names, w.before args s' = true := fun w hw => vx_ot_at hW0 hvm.symm (hgood w (List.mem_cons_of_mem _ (List.mem_cons_of_mem _ hw))) (hat w hw)
  have hk' : (Cond.classLink own ik cls).before args s' = true := vx_ot_at hW0 hvm.symm (hgood _ List.mem_cons_self) hk
  have hini' : (Cond.initialized cls).before args s' = true := vx_ot_at hW0 hvm.symm (hgood _ (List.mem_cons_of_mem _ List.mem_cons_self)) hini
  have hU' : vx_Zq Bundle.tN "UNASSIGNED_STACK" Bundle.steD A s' s'.heap := by rw [hhp]; exact vx_Zq.moved hW0.alike (hU.kept hS.2.1)
  have hN' : vx_Zq Bundle.tN "SUPPRESSED_SENTINEL" Bundle.listD A s' s'.heap := by rw [hhp]; exact vx_Zq.moved hW0.alike (hN.kept hS.2.1)
  have h : ∀ w ∈ Bundle.ownAtoms own ic cls names, w.before args s' = true := vx_own hat' (vx_isRefq hU'.1) (vx_isRefq hN'.1) hU'.2.word hN'.2.word
  have hown' : s'.vm.findClass own = some m.cls := by rw [hvm]; exact hown
  have hins : (Cond.instantiable cls 6).before args s' = true := h _ (by simp [Bundle.ownAtoms])
  obtain ⟨vm₁, cX, kX, hfX, hkX, -, -, X₁, st1⟩ := Y.newCold hexec (own := own) (C := cls) (index := ik) (n := 6) hown' hk' hins hini'
    (g := F0 m pc ls rest) rfl (by rw [hb]; exact d0) (Nat.le_refl _) (Nat.le_refl _)
  generalize hT1 : (T.setVm vm₁).pushCell { cls := cX, slots := kX.instanceTypes.map defaultValue, vm := .none } = T1 at X₁ st1
  have hcat : (Value.ref T.heap.size).category = 1 := rfl
  have hcellA : T1.heap[T.heap.size]? = some (freshCell cX kX) := by rw [← hT1]; exact State.heap_pushCell_size _ _
  have d3' : decode c.code (pc + 3) = .ok (.dup, 1) := by rw [hb]; exact d3
  have d4' : decode c.code (pc + 4) = .ok (.ldc is, 2) := by rw [hb]; exact d4
  have hstr' : vk_R own is text sa s' := vk_R.warm hW0 hstr
  obtain ⟨U, hsteps, hrun, hend, hW, hsame, ce, hce, hO⟩ := X₁.ctorThrowS hexec htr (own := own) (cls := cls) (names := names) (ic := ic) hown' hcls hnames h (fun x hx => nomatch hx) hfX hkX hcellA (by rw [hhp, hT]; exact Nat.le_refl _) (msg := .ref sa) rfl
    (g := { method := m, pc := pc + 6, locals := ls, stack := .ref sa :: .ref T.heap.size :: .ref T.heap.size :: rest, locked := none }) rfl hsize rfl rfl (rest := rest) rfl
    (by rw [hb]; exact d6) (by rw [hb]; exact d9) hout hRframes (by simp only [List.map_cons, List.sum_cons, hcat]; omega) hlocks
  obtain ⟨f1, f2⟩ := vx_frame hsame
  rw [hhp] at f1 f2
  have hWs : s.WarmedH U.vm := State.WarmedH.trans hW0 hW
  have hcl : s.vm.findClass cls = some ce.cls := by
    have h9 := hO.cls
    rw [hvm] at h9
    exact h9
  have hall : s.sameButNew ({ U with vm := s.vm } : State) locs mc ms := by
    subst hA
    obtain ⟨e1, e2⟩ := hsame
    rw [State.setFrames_setFrames] at e1
    have h2 : (T.setVm s.vm).sameButNew ({ U with vm := s.vm } : State) [] (0 + 1) (0 + 6) := ⟨e1, e2⟩
    have h3 := X.same.trans h2
    rw [List.append_nil] at h3
    exact h3.mono hc hs
  refine ⟨U, ?_, .threw T.heap.size, hrun, hend, Or.inr ⟨T.heap.size, rfl, cls, ce, locs, hx U hWs.alike f1 (fun q hq => f2 q hq (fun z hz => nomatch hz)), hce, hO.vm, hcl, hWs, hall, hf⟩⟩
  refine st1 _ ?_
  show Steps p.tables e below (T1.setTop { method := m, pc := pc + 3, locals := ls, stack := .ref T.heap.size :: rest, locked := none }) _
  jvm_step X₁.here [X₁.here.top, hexec, d3', Value.category]
  exact X₁.ldcString hexec (own := own) (text := text) (index := is) (a := sa) hown' hstr'.1 hstr'.2
    (g := { method := m, pc := pc + 4, locals := ls, stack := .ref T.heap.size :: .ref T.heap.size :: rest, locked := none }) rfl d4' _ hsteps
/-- 'throw new E("text")', the text by a wide index -/
theorem vx_throwSW {cc : ByteArray} {pc : Nat} (hexec : p.tables.exec = Jvm.exec) (hb : c.code = cc) (hl : l.stackTraces = false) {own cls text : String} {names : List String} {ik is ic mc ms sa : Nat} {A : Nat → Prop}
    (hown : s.vm.findClass own = some m.cls) (hcls : Bundle.fit cls = true) (hnames : ∀ n ∈ names, Bundle.fit n = true)
    (hk : (Cond.classLink own ik cls).before args s = true) (hini : (Cond.initialized cls).before args s = true) (hstr : vk_R own is text sa s) (hat : ∀ w ∈ vx_atS own ic cls names, w.before args s = true)
    (hgood : ∀ w ∈ Cond.classLink own ik cls :: Cond.initialized cls :: vx_atS own ic cls names, vx_ot w = true)
    (hU : vx_Zq Bundle.tN "UNASSIGNED_STACK" Bundle.steD A s s.heap) (hN : vx_Zq Bundle.tN "SUPPRESSED_SENTINEL" Bundle.listD A s s.heap) (hS : va_S A s.heap H locs) (hsize : ls.size = c.maxLocals)
    (d0 : decode cc pc = .ok (.new ik, 3)) (d3 : decode cc (pc + 3) = .ok (.dup, 1)) (d4 : decode cc (pc + 4) = .ok (.ldc_w is, 3)) (d7 : decode cc (pc + 7) = .ok (.invokespecial ic, 3)) (d10 : decode cc (pc + 10) = .ok (.athrow, 1))
    (hout : ∀ x ∈ c.exceptionTable.toList, covers x (pc + 10) = false)
    (hRframes : names.length + 3 < R.frames) (hRlocals : (rest.map fun v => v.category).sum + (13 * (names.length + 1) + 43) ≤ R.locals) (hRcells : cells + 1 ≤ R.cells) (hRslots : slots + 6 ≤ R.slots) (hlocks : meth.locks = false)
    (hx : ∀ t : State, s.vm.Alike t.vm → H.size ≤ t.heap.size → (∀ q : Nat, q < H.size → t.heap[q]? = H[q]?) → XC cls s t)
    (hf : ∀ z ∈ locs, free z.base) (hc : cells + 1 ≤ mc) (hs : slots + 6 ≤ ms) :
    W p l e R s m args below meth c H locs cells slots (vx_MQ below Qc XC args s mc ms free) (F0 m pc ls rest) := by
  intro T hT X
  have htr : e.platform.stackTraces = false := (show e.platform.stackTraces = l.stackTraces by rw [X.admits.platform]).trans hl
  have Y := vx_rebase X (R' := { frames := R.frames, locals := R.locals, cells := 1, slots := 6 }) (Nat.le_refl _) (Nat.le_refl _) hRcells hRslots
  obtain ⟨s', hA⟩ : ∃ z, z = (T.setVm s.vm).setFrames (.invoking m args :: below) := ⟨_, rfl⟩
  rw [← hA] at Y
  have hvm : s'.vm = s.vm := by rw [hA]; rfl
  have hhp : s'.heap = H := by rw [hA]; exact hT
  have hW0 : s.WarmedH s'.vm := by rw [hvm]; exact State.WarmedH.refl s
  have hat' : ∀ w ∈ vx_atS own ic cls names, w.before args s' = true := fun w hw => vx_ot_at hW0 hvm.symm (hgood w (List.mem_cons_of_mem _ (List.mem_cons_of_mem _ hw))) (hat w hw)
  have hk' : (Cond.classLink own ik cls).before args s' = true := vx_ot_at hW0 hvm.symm (hgood _ List.mem_cons_self) hk
  have hini' : (Cond.initialized cls).before args s' = true := vx_ot_at hW0 hvm.symm (hgood _ (List.mem_cons_of_mem _ List.mem_cons_self)) hini
  have hU' : vx_Zq Bundle.tN "UNASSIGNED_STACK" Bundle.steD A s' s'.heap := by rw [hhp]; exact vx_Zq.moved hW0.alike (hU.kept hS.2.1)
  have hN' : vx_Zq Bundle.tN "SUPPRESSED_SENTINEL" Bundle.listD A s' s'.heap := by rw [hhp]; exact vx_Zq.moved hW0.alike (hN.kept hS.2.1)
  have h : ∀ w ∈ Bundle.ownAtoms own ic cls names, w.before args s' = true := vx_own hat' (vx_isRefq hU'.1) (vx_isRefq hN'.1) hU'.2.word hN'.2.word
  have hown' : s'.vm.findClass own = some m.cls := by rw [hvm]; exact hown
  have hins : (Cond.instantiable cls 6).before args s' = true := h _ (by simp [Bundle.ownAtoms])
  obtain ⟨vm₁, cX, kX, hfX, hkX, -, -, X₁, st1⟩ := Y.newCold hexec (own := own) (C := cls) (index := ik) (n := 6) hown' hk' hins hini'
    (g := F0 m pc ls rest) rfl (by rw [hb]; exact d0) (Nat.le_refl _) (Nat.le_refl _)
  generalize hT1 : (T.setVm vm₁).pushCell { cls := cX, slots := kX.instanceTypes.map defaultValue, vm := .none } = T1 at X₁ st1
  have hcat : (Value.ref T.heap.size).category = 1 := rfl
  have hcellA : T1.heap[T.heap.size]? = some (freshCell cX kX) := by rw [← hT1]; exact State.heap_pushCell_size _ _
  have d3' : decode c.code (pc + 3) = .ok (.dup, 1) := by rw [hb]; exact d3
  have d4' : decode c.code (pc + 4) = .ok (.ldc_w is, 3) := by rw [hb]; exact d4
  have hstr' : vk_R own is text sa s' := vk_R.warm hW0 hstr
  obtain ⟨U, hsteps, hrun, hend, hW, hsame, ce, hce, hO⟩ := X₁.ctorThrowS hexec htr (own := own) (cls := cls) (names := names) (ic := ic) hown' hcls hnames h (fun x hx => nomatch hx) hfX hkX hcellA (by rw [hhp, hT]; exact Nat.le_refl _) (msg := .ref sa) rfl
    (g := { method := m, pc := pc + 7, locals := ls, stack := .ref sa :: .ref T.heap.size :: .ref T.heap.size :: rest, locked := none }) rfl hsize rfl rfl (rest := rest) rfl
    (by rw [hb]; exact d7) (by rw [hb]; exact d10) hout hRframes (by simp only [List.map_cons, List.sum_cons, hcat]; omega) hlocks
  obtain ⟨f1, f2⟩ := vx_frame hsame
  rw [hhp] at f1 f2
  have hWs : s.WarmedH U.vm := State.WarmedH.trans hW0 hW
  have hcl : s.vm.findClass cls = some ce.cls := by
    have h9 := hO.cls
    rw [hvm] at h9
    exact h9
  have hall : s.sameButNew ({ U with vm := s.vm } : State) locs mc ms := by
    subst hA
    obtain ⟨e1, e2⟩ := hsame
    rw [State.setFrames_setFrames] at e1
    have h2 : (T.setVm s.vm).sameButNew ({ U with vm := s.vm } : State) [] (0 + 1) (0 + 6) := ⟨e1, e2⟩
    have h3 := X.same.trans h2
    rw [List.append_nil] at h3
    exact h3.mono hc hs
  refine ⟨U, ?_, .threw T.heap.size, hrun, hend, Or.inr ⟨T.heap.size, rfl, cls, ce, locs, hx U hWs.alike f1 (fun q hq => f2 q hq (fun z hz => nomatch hz)), hce, hO.vm, hcl, hWs, hall, hf⟩⟩
  refine st1 _ ?_
  show Steps p.tables e below (T1.setTop { method := m, pc := pc + 3, locals := ls, stack := .ref T.heap.size :: rest, locked := none }) _
  jvm_step X₁.here [X₁.here.top, hexec, d3', Value.category]
  exact X₁.ldcStringW hexec (own := own) (text := text) (index := is) (a := sa) hown' hstr'.1 hstr'.2
    (g := { method := m, pc := pc + 4, locals := ls, stack := .ref T.heap.size :: .ref T.heap.size :: rest, locked := none }) rfl d4' _ hsteps
end Ends
section Bodies
variable {l : Launch}
theorem vx_ofW {y : MethodName} {ws ws' : List Cond} {rm : Room} {Pc : Array Value → State → Prop} {Qc : Array Value → State → Outcome → State → Prop} {XC : String → State → State → Prop} {mc ms : Nat} {free : Addr → Prop} {cc : ByteArray} {maxL : Nat} {ret : Option FieldType}
    (hy : plainName y.cls = true) (hw : ws = Cond.code y cc maxL ret :: ws')
    (body : ∀ p e s m args below meth c s₁, BodyLoose p l y (headSpec ws rm) cc maxL ret e s m args below meth c s₁ → c.maxLocals = maxL → (∀ x ∈ c.exceptionTable.toList, False) → Pc args s →
      W p l e (headSpec ws rm).room s m args below meth c s.heap [] 0 0 (vx_MQ below Qc XC args s mc ms free) (entryFrame m args maxL)) : vx_Met l y ws rm Pc Qc XC mc ms free := by
  refine MetFree.of_bodyS (code := cc) (maxLocals := maxL) (ret := ret) hy ?_ ?_
  · intro args s m h hn
    obtain ⟨meth, c, h1, h2, h3, h4, h5, h6, -, -⟩ := Cond.code_spec hn (atoms_spec (ws := ws) h _ (by rw [hw]; exact List.mem_cons_self))
    exact ⟨meth, c, h1, h2, h3, h4, h5, h6⟩
  · intro p e s m args below meth c s₁ B hml hP _
    have hh0 : s₁.heap = s.heap := by rw [B.state]; rfl
    have ht : ∀ x ∈ c.exceptionTable.toList, False := by
      obtain ⟨meth9, c9, h1, h2, -, -, -, -, h7, -⟩ := Cond.code_spec B.named (atoms_spec (ws := ws) B.pre _ (by rw [hw]; exact List.mem_cons_self))
      cases Option.some.inj (h1.symm.trans B.method)
      cases Option.some.inj (h2.symm.trans (Stand.of_body B).code)
      intro x hx
      rw [Array.isEmpty_iff.mp h7] at hx
      cases hx
    obtain ⟨t, a1, o, b1, b2, b3⟩ := body p e s m args below meth c s₁ B hml ht hP s₁ hh0 (Stand.of_body B)
    exact ⟨t, o, a1, b1, b2, b3⟩
/-- the table of a body with handlers -/
theorem vx_table {p : Program} {x y : MethodName} {S : Spec} {cc bytes : ByteArray} {maxL maxL' : Nat} {ret ret' : Option FieldType} {e : Env} {s s₁ : State} {m : MethodId} {args : Array Value} {below : List Frame} {meth : Method} {c : Code} {hh : List (Nat × Nat × Nat × Nat)}
    (B : BodyLoose p l y S cc maxL ret e s m args below meth c s₁) (h : (Cond.codeWith y bytes maxL' ret' hh).before args s = true) : c.exceptionTable.toList = tableOf hh := by
  obtain ⟨m9, meth9, c9, hn9, h1, h2, -, -, h6, -⟩ := Cond.codeWith_spec h
  cases Option.some.inj (hn9.symm.trans B.named)
  cases Option.some.inj (h1.symm.trans B.method)
  cases Option.some.inj (h2.symm.trans (Stand.of_body B).code)
  rw [← h6, table_eq]
end Bodies
end VXA
/-! ===== END ===== -/
/-! ===== BEGIN a static call of a method with an exception table ===== -/
section VXS
variable {p : Program} {l : Launch} {e : Env} {R : Room} {s : State} {m : MethodId} {args : Array Value} {below : List Frame} {meth : Method} {c : Code} {T : State} {H : Heap} {locs : List Loc} {cells slots : Nat}
abbrev vx_CSW (R : Room) (s : State) (args : Array Value) (own : String) (index : Nat) (y : MethodName) (bytes : ByteArray) (maxL : Nat) (ret : Option FieldType) (hh : List (Nat × Nat × Nat × Nat)) (ws : List Cond) (rm : Room) (mc ms n : Nat) : Prop :=
  (rm.cells = mc ∧ rm.slots = ms ∧ rm.frames + 1 ≤ R.frames ∧ 8 + (maxL + 11) + rm.locals ≤ R.locals ∧ (∀ w ∈ ws, ∀ (a' : Array Value) (U : State), s.WarmedH U.vm → w.before a' U = true) ∧ Cond.codeWith y bytes maxL ret hh ∈ ws) ∧
  (Cond.codeWith y bytes maxL ret hh).before args s = true ∧ (Cond.initialized y.cls).before args s = true ∧ (y.cls ≠ "java/lang/invoke/MethodHandle" ∧ y.cls ≠ "java/lang/invoke/VarHandle") ∧
  (∀ sig, parseMethodDescriptor y.desc = some sig → n = sig.parameters.length) ∧ (Cond.methodLink own index y).before args s = true ∧ (Cond.static y).before args s = true
theorem vx_cwSW {own : String} {index maxL mc ms : Nat} {y : MethodName} {bytes : ByteArray} {ret : Option FieldType} {hh : List (Nat × Nat × Nat × Nat)} {Ts ws ws' : List Cond} {rm : Room} (n : Nat) (ht : ∀ w ∈ Ts, w.before args s = true) (hT : GoodIn Ts (va_wsS own index y ws)) (hw : ws = Cond.codeWith y bytes maxL ret hh :: ws') (hrc : rm.cells = mc) (hrs : rm.slots = ms)
    (hd : y.cls ≠ "java/lang/invoke/MethodHandle" ∧ y.cls ≠ "java/lang/invoke/VarHandle" ∧ (parseMethodDescriptor y.desc).map (fun d => d.parameters.length) = some n) (hR : rm.frames + 1 ≤ R.frames ∧ 8 + (maxL + 11) + rm.locals ≤ R.locals) :
    vx_CSW R s args own index y bytes maxL ret hh ws rm mc ms n := by
  have ok : ∀ w ∈ va_wsS own index y ws, w.before args s = true := fun w h => ht w (hT w h).1
  have hG : GoodIn Ts ws := fun w h => hT w (by unfold va_wsS; exact List.mem_append_right _ h)
  have hc : Cond.codeWith y bytes maxL ret hh ∈ ws := by rw [hw]; exact List.mem_cons_self
  refine ⟨⟨hrc, hrs, hR.1, hR.2, pay_in ht hG, hc⟩, ht _ (hG _ hc).1, ok _ (by simp [va_wsS]), ⟨hd.1, hd.2.1⟩, fun sig h => ?_, ok _ (by simp [va_wsS]), ok _ (by simp [va_wsS])⟩
  have h2 := hd.2.2
  rw [h] at h2
  exact (Option.some.inj h2).symm
theorem vx_callSW (X : Stand p l e R s m args below meth c T locs cells slots) (hexec : p.tables.exec = Jvm.exec) {own : String} {index : Nat} {y : MethodName} {bytes : ByteArray} {maxL : Nat} {ret : Option FieldType} {hh : List (Nat × Nat × Nat × Nat)}
    (hown : s.vm.findClass own = some m.cls) (hlink : (Cond.methodLink own index y).before args s = true) (hstat : (Cond.static y).before args s = true) (hinit : (Cond.initialized y.cls).before args s = true)
    (hcode : (Cond.codeWith y bytes maxL ret hh).before args s = true) (hy : y.cls ≠ "java/lang/invoke/MethodHandle" ∧ y.cls ≠ "java/lang/invoke/VarHandle")
    {W9 : Nat} {Pre : Pt → Array Value → Prop} {Post : Pt → Array Value → Option Value → Pt → Prop} (hK : Back l R p e below s args y 3 W9 Pre Post)
    {g : JFrame} (hg : g.method = m) (hsize : g.locals.size = c.maxLocals) {argsL rest : List Value} (hlen : ∀ sig, parseMethodDescriptor y.desc = some sig → argsL.length = sig.parameters.length)
    (hstack : g.stack = argsL.reverse ++ rest) (hW : 2 * g.monitorRoom + (rest.map fun v => v.category).sum ≤ W9) (hdg : decode c.code g.pc = .ok (.invokestatic index, 3))
    (hpre : ∀ vm₁, s.WarmedH vm₁ → Pre ⟨T.setVm vm₁, locs, cells, slots⟩ argsL.toArray) :
    ∃ (v : Option Value) (vm₁ : Vm) (B : Pt), s.WarmedH vm₁ ∧ Stand p l e R s m args below meth c B.U B.locs B.cells B.slots ∧ Post ⟨T.setVm vm₁, locs, cells, slots⟩ argsL.toArray v B ∧
      ∀ target, Steps p.tables e below (B.U.setTop { g with pc := g.pc + 3, stack := v.toList ++ rest }) target → Steps p.tables e below (T.setTop g) target := by
  obtain ⟨mk, methM, cM, hnamed, hmethM, -, -, -, -, -, -, hsigM⟩ := Cond.codeWith_spec hcode
  have hstatic : methM.isStatic = true := Cond.static_spec hnamed hmethM hstat
  obtain ⟨kP, hkP, -⟩ := className_of_methodNamed hnamed
  have hinitP : kP.init = .initialized := Cond.initialized_spec (findClass_of_methodNamed hnamed) hkP hinit
  obtain ⟨vm₁, X₁, hstep₁⟩ := X.invokestatic hexec hown hlink hnamed hmethM hstatic hkP hinitP hy (g := g) hg (argsL := argsL) (rest := rest) (hlen _ hsigM) hstack hdg
  obtain ⟨v, B, X', hpost, hsteps⟩ := hK m meth c ⟨T.setVm vm₁, locs, cells, slots⟩ { g with stack := rest } (.invokestatic index) mk argsL.toArray X₁ hg hsize hdg hW (X₁.named hnamed) (hpre vm₁ X₁.warmed)
  exact ⟨v, vm₁, B, X₁.warmed, X', hpost, fun target h => hstep₁ _ fun acts => by rw [doInvoke_state]; exact hsteps.trans h⟩
theorem vx_runSW {y : MethodName} {bytes cc : ByteArray} {maxL nL mc ms n index : Nat} {ret : Option FieldType} {hh : List (Nat × Nat × Nat × Nat)} {ws : List Cond} {rm : Room} {Pc : Array Value → State → Prop} {Qc : Array Value → State → Outcome → State → Prop} {free : Addr → Prop} {Ts : List Cond} {own : String} {As rest : List Value} {g : JFrame}
    (S : CallFix p m c cc nL s args Ts own) (hM : Met l y ws rm Pc Qc mc ms free) (cw : vx_CSW R s args own index y bytes maxL ret hh ws rm mc ms n) (hp : PreS s H Pc As)
    (hg : g.method = m) (hn : As.length = n) (hsize : g.locals.size = nL) (hstack : g.stack = As.reverse ++ rest) (hW : 2 * g.monitorRoom + (rest.map fun v => v.category).sum ≤ 8) (hdg : decode cc g.pc = .ok (.invokestatic index, 3)) (hf : cells + mc ≤ R.cells ∧ slots + ms ≤ R.slots) :
    va_Run p l e R s m args below meth c H locs cells slots mc ms g rest (Qc As.toArray) (free) := by
  obtain ⟨⟨hrc, hrs, hfr, hlo, hws, hcw⟩, hcode, hini, hy, hlen, hl, hstt⟩ := cw
  have hK : Back l R p e below s args y 3 8 (PreOf R mc ms Pc) (PostOf Qc mc ms free) := va_backW (hh := hh) (bytes := bytes) (maxL := maxL) (ret := ret) hM hp.1 hrc hrs hfr hlo hws hcw (fun a' U hW => word_at hW (Or.inl (by first | rfl | simp [Cond.onTables, Cond.keeps, Cond.steady])) hini)
  obtain ⟨hx, hb, hml, ho, -⟩ := S
  intro T hT X
  obtain ⟨v, vm₁, ⟨U', l2, c2, s2⟩, hW₁, X', ⟨g', mk, t, L, e1, e2, hq, h1, hL, h2, h3⟩, st⟩ := vx_callSW X hx (hh := hh) (bytes := bytes) (maxL := maxL) (ret := ret) ho hl hstt hini hcode hy hK hg (hsize.trans hml.symm) (argsL := As) (rest := rest) (fun sig h => hn.trans (hlen sig h)) hstack hW (by rw [hb]; exact hdg)
    (fun vm₁ hW₁ => ⟨hf.1, hf.2, hp.2 (T.setVm vm₁) hT hW₁⟩)
  dsimp only [Pt.U, Pt.locs, Pt.cells, Pt.slots] at X' e1 e2 h1 h2 h3 st
  subst h1; subst h2; subst h3
  exact ⟨v, (T.setVm vm₁).calling g' mk As.toArray, t, U', L, hT, X', hL, e1, e2, hq, st⟩
/-- not caught here, past rows that name other classes: it goes on to the caller -/
theorem vx_outP {p : Program} {l : Launch} {e : Env} {R : Room} {s : State} {m : MethodId} {args : Array Value} {below : List Frame} {meth : Method} {c : Code} {H : Heap} {locs : List Loc} {cells slots : Nat} {free : Addr → Prop} {ls : Array Slot} {rest : List Value} {Qc : Array Value → State → Outcome → State → Prop} {XC : String → State → State → Prop}
    {pc : Nat} {own E : String} {ce : Cell} {q : Addr} {mc ms : Nat} (hown : s.vm.findClass own = some m.cls) (hlocks : meth.locks = false)
    (hpass : ∀ z ∈ c.exceptionTable.toList, covers z pc = false ∨ (z.catchType ≠ 0 ∧ ∃ nm : String, (Cond.classLink own z.catchType nm).before args s = true ∧ va_Nc E nm s)) (hcell : H[q]? = some ce) (hv : ce.vm = .none) (hcl : s.vm.findClass E = some ce.cls)
    (hx : ∀ t : State, t.heap = H → s.vm.Alike t.vm → XC E s t) (hf : ∀ z ∈ locs, free z.base) (hc : cells ≤ mc) (hs : slots ≤ ms) :
    vx_W p l e R s m args below meth c H locs cells slots (vx_MQ below Qc XC args s mc ms free) (F0 m pc ls rest) q := by
  intro T hT X
  have hpl : e.platform.magicAccessors = ({} : Platform).magicAccessors := by rw [X.admits.platform]
  obtain ⟨vm', hW', X', st⟩ := X.outThrough hlocks q (g := F0 m pc ls rest) rfl rfl rfl (cell := ce) (by rw [hT]; exact hcell) (by rw [hv]; rfl)
    (by obtain ⟨k9, h9, -⟩ := Vm.findClass_spec hcl; exact ⟨k9, h9⟩) (fun z hz => by
      rcases hpass z hz with h | ⟨hz0, nm, hl1, hn1⟩
      · exact Or.inl h
      · obtain ⟨c6, hc6, hcl6⟩ := Cond.classLink_spec hown hl1 e.platform hpl
        obtain ⟨a8, b8, h1, h2, h3⟩ := hn1
        cases Option.some.inj (h1.symm.trans hcl)
        cases Option.some.inj (h2.symm.trans hc6)
        exact Or.inr ⟨hz0, _, hcl6, h3⟩)
  obtain ⟨g₀, hfr⟩ := X'.frames_eq
  have hcell9 : ((T.setVm vm').setFrames (.throwing q :: below)).heap[q]? = some ce := by
    show T.heap[q]? = some ce
    rw [hT]; exact hcell
  have hend : Ended ((T.setVm vm').setFrames (.throwing q :: below)) below (.threw q) := State.frames_setFrames _ (State.cur_lt_of_frames hfr)
  refine ⟨(T.setVm vm').setFrames (.throwing q :: below), ?_, .threw q, X'.here.running, hend, Or.inr ⟨q, rfl, E, ce, locs, hx _ hT (X'.ends _).1.alike, hcell9, hv, hcl, (X'.ends _).1, (X'.ends _).2.mono hc hs, hf⟩⟩
  rw [X.pushThrowing_eq]
  exact st
/-- a thing of a world lies in the heap -/
theorem vx_lt {D : va_G} {cl : List vw_C} {ws : va_W} {H1 : Heap} (h : va_P D cl ws H1) {k : Nat} {q : Nat × va_E} (hk : ws[k]? = some q) : q.1 < H1.size := (h k q hk).lt
end VXS
/-! ===== END ===== -/
/-! ===== BEGIN methods with a table of their own: called by a name, returning or throwing ===== -/
section VXH
/-! vx_backW, vx_callVX, vx_callSX, vx_callVW, vx_runVW, vx_runVX, vx_runSX, vx_ofWH follow the same proofs as their sisters above (Free/Laws.lean, Shelf42/LK1.lean); vx_outP calls Shelf42/NT130.lean (outThrough). -/
section
variable {l : Launch} {R : Room} {p : Program} {e : Env} {below : List Frame} {s : State} {sargs : Array Value} {y : MethodName} {len W9 : Nat}
theorem vx_backW {ws : List Cond} {rm : Room} {Pc : Array Value → State → Prop} {Qc : Array Value → State → Outcome → State → Prop} {XC : String → State → State → Prop} {mc ms : Nat} {free : Addr → Prop} {bytes : ByteArray} {maxL : Nat} {ret : Option FieldType} {hh : List (Nat × Nat × Nat × Nat)}
    (hM : vx_Met l y ws rm Pc Qc XC mc ms free) (hblind : FrameBlind Pc) (hrc : rm.cells = mc) (hrs : rm.slots = ms)
    (hframes : rm.frames + 1 ≤ R.frames) (hlocals : W9 + (maxL + 11) + rm.locals ≤ R.locals)
    (hws : ∀ w ∈ ws, ∀ a' U, s.WarmedH U.vm → w.before a' U = true) (hcode : Cond.codeWith y bytes maxL ret hh ∈ ws) (hinit : ∀ a' U, s.WarmedH U.vm → (Cond.initialized y.cls).before a' U = true) :
    vx_Back l R p e below s sargs y len W9 (PreOf R mc ms Pc) (PostOf Qc mc ms free) (vx_Post XC mc ms free) := by
  intro m meth c A g ig mk a X hg hsize hdg hW hn hp
  have h1 : (headSpec ws rm).pre.before a A.U = true := atoms_intro fun w hw => hws w hw _ _ X.warmed
  have h2 : (Cond.codeWith y bytes maxL ret hh).before a A.U = true := hws _ hcode _ _ X.warmed
  have h3 : (Cond.initialized y.cls).before a A.U = true := hinit _ _ X.warmed
  have h4 : A.cells + (headSpec ws rm).room.cells ≤ R.cells := by rw [show (headSpec ws rm).room.cells = mc from hrc]; exact hp.1
  have h5 : A.slots + (headSpec ws rm).room.slots ≤ R.slots := by rw [show (headSpec ws rm).room.slots = ms from hrs]; exact hp.2.1
  have hPc : Pc a (A.U.calling g mk a) := hblind _ _ _ _ hp.2.2
  obtain ⟨U, Ls, c0, s0⟩ := A
  dsimp only [Pt.U, Pt.locs, Pt.cells, Pt.slots] at h1 h2 h3 h4 h5 X hn hPc ⊢
  obtain ⟨m9, methY, cY, hn9, hmY, hcY, -, hlY, -⟩ := Cond.codeWith_spec h2
  cases Option.some.inj (hn9.symm.trans hn)
  obtain ⟨kY, hkY, -⟩ := className_of_methodNamed hn
  have hinitY : kY.init = .initialized := Cond.initialized_spec (findClass_of_methodNamed hn) hkY h3
  have h : At U g.method c below := by rw [hg]; exact X.here
  have hlocals9 : W9 + (maxL + 11) + (headSpec ws rm).room.locals ≤ R.locals := hlocals
  have happ : (headSpec ws rm).appliesLoose y e.platform (U.calling g mk a) = true :=
    Spec.appliesLoose_calling (g := g) h hdg hn hkY hinitY
      (X.room_calling (g := g) (R' := (headSpec ws rm).room) hsize hmY hcY hframes (by rw [hlY]; omega) h4 h5) h1
  obtain ⟨mid, hmid⟩ := h.above
  have hfr : (U.setTop g).frames = (.java g :: mid) ++ below := by rw [State.frames_setTop' g h.top, hmid]; rfl
  obtain ⟨o, s₂, hsteps, -, hend, hq⟩ := Steps.callFree hM p X.admits X.cas X.clock (acts := []) hfr happ hPc trivial
  have hq' : vx_Q Qc XC mc ms free a (U.calling g mk a) o s₂ := hq
  rw [State.frames_setTop' g h.top] at hend
  obtain ⟨g₀, hg0⟩ := Option.isSome_iff_exists.mp h.top
  obtain ⟨r, hr⟩ := State.topJava?_eq_some.mp hg0
  have hr' : (({ U with heap := s₂.heap, slotsUsed := s₂.slotsUsed } : State).setVm s₂.vm).frames = .java g₀ :: r := hr
  rcases hq' with ⟨hqc, L, hfe, hL⟩ | ⟨q, rfl, E, ce, L, hx, hce, hcv, hcl, hW₂, hsm, hL⟩
  · obtain ⟨⟨v, rfl⟩, hW₂, e2, q2, q3, q4, q5, q6⟩ := id hfe
    have e3 : s₂ = ({ (U.calling g mk a).setFrames s₂.frames with heap := s₂.heap, slotsUsed := s₂.slotsUsed } : State).setVm s₂.vm := by
      have : s₂ = ({ s₂ with vm := (U.calling g mk a).vm } : State).setVm s₂.vm := rfl
      rw [e2] at this
      exact this
    obtain ⟨c₂, i₂, len₂, hc₂, hd₂, hf₂⟩ := hend
    have hW' : U.WarmedH s₂.vm := hW₂
    have hcc : c₂ = c := by
      have h1 : s₂.code? g.method = U.code? g.method := by
        rw [State.code?_eq, State.code?_eq, hW'.alike.method?]
      exact Option.some.inj (hc₂.symm.trans (h1.trans h.code))
    subst hcc
    have hlen : len₂ = len := by rw [hdg] at hd₂; cases hd₂; rfl
    subst hlen
    have hs₂ : s₂ = (({ U with heap := s₂.heap, slotsUsed := s₂.slotsUsed } : State).setVm s₂.vm).setTop { g with pc := g.pc + len₂, stack := v.toList ++ g.stack } := by
      refine e3.trans ?_
      rw [hf₂, State.calling_eq h.top, State.setFrames_setFrames, State.setTop_of_frames _ hr', hr]
      rfl
    have hsame : U.sameButNew ({ U with heap := s₂.heap, slotsUsed := s₂.slotsUsed } : State) L mc ms := by
      refine ⟨?_, q2, q3, q4, q5, q6⟩
      obtain ⟨t, ht, -⟩ := State.frames_cons hr
      show ({ U with heap := s₂.heap, slotsUsed := s₂.slotsUsed } : State) = { U.setFrames U.frames with heap := s₂.heap, slotsUsed := s₂.slotsUsed }
      rw [State.setFrames_self ht]
    subst hg
    refine Or.inl ⟨v, ⟨(({ U with heap := s₂.heap, slotsUsed := s₂.slotsUsed } : State).setVm s₂.vm), Ls ++ L, c0 + mc, s0 + ms⟩,
      ⟨X.admits, X.cas, X.clock, X.frames, X.room, X.hears, X.method, X.code, (X.here.setHeapUsed s₂.heap s₂.slotsUsed).setVm hW'.alike, X.tail, State.WarmedH.trans X.warmed hW', X.limits, X.bytes, X.same.trans (hsame.setVm s.vm)⟩,
      ⟨g, mk, s₂, L, rfl, rfl, hqc, rfl, hL, rfl, rfl⟩, ?_⟩
    show Steps p.tables e below _ ((({ U with heap := s₂.heap, slotsUsed := s₂.slotsUsed } : State).setVm s₂.vm).setTop { g with pc := g.pc + len₂, stack := v.toList ++ g.stack })
    rw [← hs₂]
    exact hsteps
  · obtain ⟨e2, q2, q3, q4, q5, q6⟩ := id hsm
    have e3 : s₂ = ({ (U.calling g mk a).setFrames s₂.frames with heap := s₂.heap, slotsUsed := s₂.slotsUsed } : State).setVm s₂.vm := by
      have : s₂ = ({ s₂ with vm := (U.calling g mk a).vm } : State).setVm s₂.vm := rfl
      rw [e2] at this
      exact this
    have hf₂ : s₂.frames = .throwing q :: .java g :: U.frames.tail := hend
    have hW' : U.WarmedH s₂.vm := hW₂
    have hs₂ : s₂ = ((({ U with heap := s₂.heap, slotsUsed := s₂.slotsUsed } : State).setVm s₂.vm).setTop g).pushFrame (.throwing q) := by
      refine e3.trans ?_
      rw [hf₂, State.calling_eq h.top, State.setFrames_setFrames, State.pushFrame, State.frames_setTop _ hr', State.setTop_of_frames _ hr', State.setFrames_setFrames, hr]
      rfl
    have hsame : U.sameButNew ({ U with heap := s₂.heap, slotsUsed := s₂.slotsUsed } : State) L mc ms := by
      refine ⟨?_, q2, q3, q4, q5, q6⟩
      obtain ⟨t, ht, -⟩ := State.frames_cons hr
      show ({ U with heap := s₂.heap, slotsUsed := s₂.slotsUsed } : State) = { U.setFrames U.frames with heap := s₂.heap, slotsUsed := s₂.slotsUsed }
      rw [State.setFrames_self ht]
    subst hg
    refine Or.inr ⟨q, ⟨(({ U with heap := s₂.heap, slotsUsed := s₂.slotsUsed } : State).setVm s₂.vm), Ls ++ L, c0 + mc, s0 + ms⟩,
      ⟨X.admits, X.cas, X.clock, X.frames, X.room, X.hears, X.method, X.code, (X.here.setHeapUsed s₂.heap s₂.slotsUsed).setVm hW'.alike, X.tail, State.WarmedH.trans X.warmed hW', X.limits, X.bytes, X.same.trans (hsame.setVm s.vm)⟩,
      ⟨g, mk, s₂, L, E, ce, rfl, rfl, hx, hce, hcv, hcl, rfl, hL, rfl, rfl⟩, ?_⟩
    show Steps p.tables e below _ (((({ U with heap := s₂.heap, slotsUsed := s₂.slotsUsed } : State).setVm s₂.vm).setTop g).pushFrame (.throwing q))
    rw [← hs₂]
    exact hsteps
end
variable {p : Program} {l : Launch} {e : Env} {R : Room} {s : State} {m : MethodId} {args : Array Value} {below : List Frame} {meth : Method} {c : Code} {T : State} {H : Heap} {locs : List Loc} {cells slots : Nat}
theorem vx_callVX (X : Stand p l e R s m args below meth c T locs cells slots) (hexec : p.tables.exec = Jvm.exec) {own C : String} {index : Nat} {y : MethodName} {bytes : ByteArray} {maxL : Nat} {ret : Option FieldType} {hh : List (Nat × Nat × Nat × Nat)}
    (hown : s.vm.findClass own = some m.cls) (hlink : (Cond.methodLink own index y).before args s = true) (hinst : (Cond.instanceMethod y).before args s = true) (hsel : (Cond.selects C y y).before args s = true)
    (hcode : (Cond.codeWith y bytes maxL ret hh).before args s = true) (hy : y.cls ≠ "java/lang/invoke/MethodHandle" ∧ y.cls ≠ "java/lang/invoke/VarHandle")
    {W9 : Nat} {Pre : Pt → Array Value → Prop} {Post : Pt → Array Value → Option Value → Pt → Prop} {PostX : Pt → Array Value → Addr → Pt → Prop} (hK : vx_Back l R p e below s args y 3 W9 Pre Post PostX)
    {b : Addr} {cellB : Cell} (hcell : T.heap[b]? = some cellB) (hobj : cellB.vm.isStatics = false) (hcls : s.vm.findClass C = some cellB.cls)
    {g : JFrame} (hg : g.method = m) (hsize : g.locals.size = c.maxLocals) {argsL rest : List Value} (hlen : ∀ sig, parseMethodDescriptor y.desc = some sig → argsL.length = sig.parameters.length)
    (hstack : g.stack = argsL.reverse ++ .ref b :: rest) (hW : 2 * g.monitorRoom + (rest.map fun v => v.category).sum ≤ W9) (hdg : decode c.code g.pc = .ok (.invokevirtual index, 3))
    (hpre : ∀ vm₁, s.WarmedH vm₁ → Pre ⟨T.setVm vm₁, locs, cells, slots⟩ (Value.ref b :: argsL).toArray) :
    (∃ (v : Option Value) (vm₁ : Vm) (B : Pt), s.WarmedH vm₁ ∧ Stand p l e R s m args below meth c B.U B.locs B.cells B.slots ∧ Post ⟨T.setVm vm₁, locs, cells, slots⟩ (Value.ref b :: argsL).toArray v B ∧
      ∀ target, Steps p.tables e below (B.U.setTop { g with pc := g.pc + 3, stack := v.toList ++ rest }) target → Steps p.tables e below (T.setTop g) target) ∨
    (∃ (q : Addr) (vm₁ : Vm) (B : Pt), s.WarmedH vm₁ ∧ Stand p l e R s m args below meth c B.U B.locs B.cells B.slots ∧ PostX ⟨T.setVm vm₁, locs, cells, slots⟩ (Value.ref b :: argsL).toArray q B ∧
      Steps p.tables e below (T.setTop g) ((B.U.setTop { g with stack := rest }).pushFrame (.throwing q))) := by
  obtain ⟨mk, methM, hnamed, hmethM, hstM, habM⟩ := Cond.instanceMethod_spec hinst
  obtain ⟨m8, methM', cM, hn8, hmethM', -, -, -, -, -, -, hsigM⟩ := Cond.codeWith_spec hcode
  cases Option.some.inj (hn8.symm.trans hnamed)
  cases hmethM.symm.trans hmethM'
  obtain ⟨c2, r2, m2, q1, q2, q3, q4, kP, hkP, hkPi⟩ := Cond.selects_spec hsel
  cases hcls.symm.trans q1
  cases (State.methodFound?_of_named hnamed hy).symm.trans q2
  cases hnamed.symm.trans q3
  have hselP : selectMethod e.platform s.vm cellB.cls mk = .method mk := by rw [Launch.admits_selectMethod X.admits]; exact q4
  obtain ⟨vm₁, X₁, hstep₁⟩ := X.invokevirtual hexec hown hlink hnamed hmethM hstM hkP hkPi hy (a := b) (cell := cellB) hcell
    (fun z h => by rw [h] at hobj; cases hobj) hselP hmethM habM hkP hkPi (g := g) hg (argsL := argsL) (rest := rest) (hlen _ hsigM) hstack hdg
  rcases hK m meth c ⟨T.setVm vm₁, locs, cells, slots⟩ { g with stack := rest } (.invokevirtual index) mk (Value.ref b :: argsL).toArray X₁ hg hsize hdg hW (X₁.named hnamed) (hpre vm₁ X₁.warmed) with ⟨v, B, X', hpost, hsteps⟩ | ⟨q, B, X', hpost, hsteps⟩
  · exact Or.inl ⟨v, vm₁, B, X₁.warmed, X', hpost, fun target h => hstep₁ _ fun acts => by rw [doInvoke_state]; exact hsteps.trans h⟩
  · exact Or.inr ⟨q, vm₁, B, X₁.warmed, X', hpost, hstep₁ _ fun acts => by rw [doInvoke_state]; exact hsteps⟩
theorem vx_callSX (X : Stand p l e R s m args below meth c T locs cells slots) (hexec : p.tables.exec = Jvm.exec) {own : String} {index : Nat} {y : MethodName} {bytes : ByteArray} {maxL : Nat} {ret : Option FieldType} {hh : List (Nat × Nat × Nat × Nat)}
    (hown : s.vm.findClass own = some m.cls) (hlink : (Cond.methodLink own index y).before args s = true) (hstat : (Cond.static y).before args s = true) (hinit : (Cond.initialized y.cls).before args s = true)
    (hcode : (Cond.codeWith y bytes maxL ret hh).before args s = true) (hy : y.cls ≠ "java/lang/invoke/MethodHandle" ∧ y.cls ≠ "java/lang/invoke/VarHandle")
    {W9 : Nat} {Pre : Pt → Array Value → Prop} {Post : Pt → Array Value → Option Value → Pt → Prop} {PostX : Pt → Array Value → Addr → Pt → Prop} (hK : vx_Back l R p e below s args y 3 W9 Pre Post PostX)
    {g : JFrame} (hg : g.method = m) (hsize : g.locals.size = c.maxLocals) {argsL rest : List Value} (hlen : ∀ sig, parseMethodDescriptor y.desc = some sig → argsL.length = sig.parameters.length)
    (hstack : g.stack = argsL.reverse ++ rest) (hW : 2 * g.monitorRoom + (rest.map fun v => v.category).sum ≤ W9) (hdg : decode c.code g.pc = .ok (.invokestatic index, 3))
    (hpre : ∀ vm₁, s.WarmedH vm₁ → Pre ⟨T.setVm vm₁, locs, cells, slots⟩ argsL.toArray) :
    (∃ (v : Option Value) (vm₁ : Vm) (B : Pt), s.WarmedH vm₁ ∧ Stand p l e R s m args below meth c B.U B.locs B.cells B.slots ∧ Post ⟨T.setVm vm₁, locs, cells, slots⟩ argsL.toArray v B ∧
      ∀ target, Steps p.tables e below (B.U.setTop { g with pc := g.pc + 3, stack := v.toList ++ rest }) target → Steps p.tables e below (T.setTop g) target) ∨
    (∃ (q : Addr) (vm₁ : Vm) (B : Pt), s.WarmedH vm₁ ∧ Stand p l e R s m args below meth c B.U B.locs B.cells B.slots ∧ PostX ⟨T.setVm vm₁, locs, cells, slots⟩ argsL.toArray q B ∧
      Steps p.tables e below (T.setTop g) ((B.U.setTop { g with stack := rest }).pushFrame (.throwing q))) := by
  obtain ⟨mk, methM, cM, hnamed, hmethM, -, -, -, -, -, -, hsigM⟩ := Cond.codeWith_spec hcode
  have hstatic : methM.isStatic = true := Cond.static_spec hnamed hmethM hstat
  obtain ⟨kP, hkP, -⟩ := className_of_methodNamed hnamed
  have hinitP : kP.init = .initialized := Cond.initialized_spec (findClass_of_methodNamed hnamed) hkP hinit
  obtain ⟨vm₁, X₁, hstep₁⟩ := X.invokestatic hexec hown hlink hnamed hmethM hstatic hkP hinitP hy (g := g) hg (argsL := argsL) (rest := rest) (hlen _ hsigM) hstack hdg
  rcases hK m meth c ⟨T.setVm vm₁, locs, cells, slots⟩ { g with stack := rest } (.invokestatic index) mk argsL.toArray X₁ hg hsize hdg hW (X₁.named hnamed) (hpre vm₁ X₁.warmed) with ⟨v, B, X', hpost, hsteps⟩ | ⟨q, B, X', hpost, hsteps⟩
  · exact Or.inl ⟨v, vm₁, B, X₁.warmed, X', hpost, fun target h => hstep₁ _ fun acts => by rw [doInvoke_state]; exact hsteps.trans h⟩
  · exact Or.inr ⟨q, vm₁, B, X₁.warmed, X', hpost, hstep₁ _ fun acts => by rw [doInvoke_state]; exact hsteps⟩
theorem vx_callVW (X : Stand p l e R s m args below meth c T locs cells slots) (hexec : p.tables.exec = Jvm.exec) {own C : String} {index : Nat} {y : MethodName} {bytes : ByteArray} {maxL : Nat} {ret : Option FieldType} {hh : List (Nat × Nat × Nat × Nat)}
    (hown : s.vm.findClass own = some m.cls) (hlink : (Cond.methodLink own index y).before args s = true) (hinst : (Cond.instanceMethod y).before args s = true) (hsel : (Cond.selects C y y).before args s = true)
    (hcode : (Cond.codeWith y bytes maxL ret hh).before args s = true) (hy : y.cls ≠ "java/lang/invoke/MethodHandle" ∧ y.cls ≠ "java/lang/invoke/VarHandle")
    {W9 : Nat} {Pre : Pt → Array Value → Prop} {Post : Pt → Array Value → Option Value → Pt → Prop} (hK : Back l R p e below s args y 3 W9 Pre Post)
    {b : Addr} {cellB : Cell} (hcell : T.heap[b]? = some cellB) (hobj : cellB.vm.isStatics = false) (hcls : s.vm.findClass C = some cellB.cls)
    {g : JFrame} (hg : g.method = m) (hsize : g.locals.size = c.maxLocals) {argsL rest : List Value} (hlen : ∀ sig, parseMethodDescriptor y.desc = some sig → argsL.length = sig.parameters.length)
    (hstack : g.stack = argsL.reverse ++ .ref b :: rest) (hW : 2 * g.monitorRoom + (rest.map fun v => v.category).sum ≤ W9) (hdg : decode c.code g.pc = .ok (.invokevirtual index, 3))
    (hpre : ∀ vm₁, s.WarmedH vm₁ → Pre ⟨T.setVm vm₁, locs, cells, slots⟩ (Value.ref b :: argsL).toArray) :
    ∃ (v : Option Value) (vm₁ : Vm) (B : Pt), s.WarmedH vm₁ ∧ Stand p l e R s m args below meth c B.U B.locs B.cells B.slots ∧ Post ⟨T.setVm vm₁, locs, cells, slots⟩ (Value.ref b :: argsL).toArray v B ∧
      ∀ target, Steps p.tables e below (B.U.setTop { g with pc := g.pc + 3, stack := v.toList ++ rest }) target → Steps p.tables e below (T.setTop g) target := by
  obtain ⟨mk, methM, hnamed, hmethM, hstM, habM⟩ := Cond.instanceMethod_spec hinst
  obtain ⟨m8, methM', cM, hn8, hmethM', -, -, -, -, -, -, hsigM⟩ := Cond.codeWith_spec hcode
  cases Option.some.inj (hn8.symm.trans hnamed)
  cases hmethM.symm.trans hmethM'
  obtain ⟨c2, r2, m2, q1, q2, q3, q4, kP, hkP, hkPi⟩ := Cond.selects_spec hsel
  cases hcls.symm.trans q1
  cases (State.methodFound?_of_named hnamed hy).symm.trans q2
  cases hnamed.symm.trans q3
  have hselP : selectMethod e.platform s.vm cellB.cls mk = .method mk := by rw [Launch.admits_selectMethod X.admits]; exact q4
  obtain ⟨vm₁, X₁, hstep₁⟩ := X.invokevirtual hexec hown hlink hnamed hmethM hstM hkP hkPi hy (a := b) (cell := cellB) hcell
    (fun z h => by rw [h] at hobj; cases hobj) hselP hmethM habM hkP hkPi (g := g) hg (argsL := argsL) (rest := rest) (hlen _ hsigM) hstack hdg
  obtain ⟨v, B, X', hpost, hsteps⟩ := hK m meth c ⟨T.setVm vm₁, locs, cells, slots⟩ { g with stack := rest } (.invokevirtual index) mk (Value.ref b :: argsL).toArray X₁ hg hsize hdg hW (X₁.named hnamed) (hpre vm₁ X₁.warmed)
  exact ⟨v, vm₁, B, X₁.warmed, X', hpost, fun target h => hstep₁ _ fun acts => by rw [doInvoke_state]; exact hsteps.trans h⟩
abbrev vx_CVW (R : Room) (s : State) (args : Array Value) (own C : String) (index : Nat) (y : MethodName) (bytes : ByteArray) (maxL : Nat) (ret : Option FieldType) (hh : List (Nat × Nat × Nat × Nat)) (ws : List Cond) (rm : Room) (mc ms n : Nat) : Prop :=
  (rm.cells = mc ∧ rm.slots = ms ∧ rm.frames + 1 ≤ R.frames ∧ 8 + (maxL + 11) + rm.locals ≤ R.locals ∧ (∀ w ∈ ws, ∀ (a' : Array Value) (U : State), s.WarmedH U.vm → w.before a' U = true) ∧ Cond.codeWith y bytes maxL ret hh ∈ ws) ∧
  (Cond.codeWith y bytes maxL ret hh).before args s = true ∧ (Cond.initialized y.cls).before args s = true ∧ (y.cls ≠ "java/lang/invoke/MethodHandle" ∧ y.cls ≠ "java/lang/invoke/VarHandle") ∧
  (∀ sig, parseMethodDescriptor y.desc = some sig → n = sig.parameters.length) ∧ (Cond.methodLink own index y).before args s = true ∧ (Cond.instanceMethod y).before args s = true ∧ (Cond.selects C y y).before args s = true
theorem vx_cwVW {own C : String} {index maxL mc ms : Nat} {y : MethodName} {bytes : ByteArray} {ret : Option FieldType} {hh : List (Nat × Nat × Nat × Nat)} {Ts ws ws' : List Cond} {rm : Room} (n : Nat) (ht : ∀ w ∈ Ts, w.before args s = true) (hT : GoodIn Ts (wsV own index C y ws)) (hw : ws = Cond.codeWith y bytes maxL ret hh :: ws') (hrc : rm.cells = mc) (hrs : rm.slots = ms)
    (hd : y.cls = C ∧ y.cls ≠ "java/lang/invoke/MethodHandle" ∧ y.cls ≠ "java/lang/invoke/VarHandle" ∧ (parseMethodDescriptor y.desc).map (fun d => d.parameters.length) = some n) (hR : rm.frames + 1 ≤ R.frames ∧ 8 + (maxL + 11) + rm.locals ≤ R.locals) :
    vx_CVW R s args own C index y bytes maxL ret hh ws rm mc ms n := by
  obtain ⟨hC, hd⟩ := hd
  subst hC
  have ok : ∀ w ∈ wsV own index y.cls y ws, w.before args s = true := fun w h => ht w (hT w h).1
  have hG : GoodIn Ts ws := fun w h => hT w (by unfold wsV; exact List.mem_append_right _ h)
  have hc : Cond.codeWith y bytes maxL ret hh ∈ ws := by rw [hw]; exact List.mem_cons_self
  refine ⟨⟨hrc, hrs, hR.1, hR.2, pay_in ht hG, hc⟩, ht _ (hG _ hc).1, ok _ (by simp [wsV]), ⟨hd.1, hd.2.1⟩, fun sig h => ?_, ok _ (by simp [wsV]), ok _ (by simp [wsV]), ok _ (by simp [wsV])⟩
  have h2 := hd.2.2
  rw [h] at h2
  exact (Option.some.inj h2).symm
theorem vx_runVW {y : MethodName} {bytes cc : ByteArray} {maxL nL mc ms n index : Nat} {ret : Option FieldType} {hh : List (Nat × Nat × Nat × Nat)} {ws : List Cond} {rm : Room} {Pc : Array Value → State → Prop} {Qc : Array Value → State → Outcome → State → Prop} {free : Addr → Prop} {Ts : List Cond} {own C : String} {b : Addr} {As rest : List Value} {g : JFrame}
    (S : CallFix p m c cc nL s args Ts own) (hM : Met l y ws rm Pc Qc mc ms free) (cw : vx_CVW R s args own C index y bytes maxL ret hh ws rm mc ms n) (hp : PreV s H C b Pc As)
    (hg : g.method = m) (hn : As.length = n) (hsize : g.locals.size = nL) (hstack : g.stack = As.reverse ++ .ref b :: rest) (hW : 2 * g.monitorRoom + (rest.map fun v => v.category).sum ≤ 8) (hdg : decode cc g.pc = .ok (.invokevirtual index, 3)) (hf : cells + mc ≤ R.cells ∧ slots + ms ≤ R.slots) :
    va_Run p l e R s m args below meth c H locs cells slots mc ms g rest (Qc (Value.ref b :: As).toArray) free := by
  obtain ⟨⟨hrc, hrs, hfr, hlo, hws, hcw⟩, hcode, hini, hy, hlen, hl, hin, hse⟩ := cw
  have hK : Back l R p e below s args y 3 8 (PreOf R mc ms Pc) (PostOf Qc mc ms free) := va_backW (hh := hh) (bytes := bytes) (maxL := maxL) (ret := ret) hM hp.1 hrc hrs hfr hlo hws hcw (fun a' U hW => word_at hW (Or.inl (by first | rfl | simp [Cond.onTables, Cond.keeps, Cond.steady])) hini)
  obtain ⟨hx, hb, hml, ho, -⟩ := S
  obtain ⟨-, ⟨cellB, hcB, hoB, hclB⟩, hPc⟩ := hp
  intro T hT X
  obtain ⟨v, vm₁, ⟨U', l2, c2, s2⟩, hW₁, X', ⟨g', mk, t, L, e1, e2, hq, h1, hL, h2, h3⟩, st⟩ := vx_callVW X hx (C := C) (hh := hh) (bytes := bytes) (maxL := maxL) (ret := ret) ho hl hin hse hcode hy hK (by rw [hT]; exact hcB) hoB hclB hg (hsize.trans hml.symm) (argsL := As) (rest := rest) (fun sig h => hn.trans (hlen sig h)) hstack hW (by rw [hb]; exact hdg)
    (fun vm₁ hW₁ => ⟨hf.1, hf.2, hPc (T.setVm vm₁) hT hW₁⟩)
  dsimp only [Pt.U, Pt.locs, Pt.cells, Pt.slots] at X' e1 e2 h1 h2 h3 st
  subst h1; subst h2; subst h3
  exact ⟨v, (T.setVm vm₁).calling g' mk (Value.ref b :: As).toArray, t, U', L, hT, X', hL, e1, e2, hq, st⟩
section
variable {y : MethodName} {bytes cc : ByteArray} {maxL nL mc ms n index : Nat} {ret : Option FieldType} {ws : List Cond} {rm : Room} {Pc : Array Value → State → Prop} {Qc : Array Value → State → Outcome → State → Prop} {XC : String → State → State → Prop} {free : Addr → Prop} {Ts : List Cond} {own C : String} {b : Addr} {As rest : List Value} {g : JFrame}
theorem vx_runVX {hh : List (Nat × Nat × Nat × Nat)} (S : CallFix p m c cc nL s args Ts own) (hM : vx_Met l y ws rm Pc Qc XC mc ms free) (cw : vx_CVW R s args own C index y bytes maxL ret hh ws rm mc ms n) (hp : PreV s H C b Pc As)
    (hg : g.method = m) (hn : As.length = n) (hsize : g.locals.size = nL) (hstack : g.stack = As.reverse ++ .ref b :: rest) (hW : 2 * g.monitorRoom + (rest.map fun v => v.category).sum ≤ 8) (hdg : decode cc g.pc = .ok (.invokevirtual index, 3)) (hf : cells + mc ≤ R.cells ∧ slots + ms ≤ R.slots) :
    vx_Run p l e R s m args below meth c H locs cells slots mc ms g rest (Qc (Value.ref b :: As).toArray) XC free := by
  obtain ⟨⟨hrc, hrs, hfr, hlo, hws, hcw⟩, hcode, hini, hy, hlen, hl, hin, hse⟩ := cw
  have hK : vx_Back l R p e below s args y 3 8 (PreOf R mc ms Pc) (PostOf Qc mc ms free) (vx_Post XC mc ms free) := vx_backW (hh := hh) (bytes := bytes) (maxL := maxL) (ret := ret) hM hp.1 hrc hrs hfr hlo hws hcw (fun a' U hW => word_at hW (Or.inl (by first | rfl | simp [Cond.onTables, Cond.keeps, Cond.steady])) hini)
  obtain ⟨hx, hb, hml, ho, -⟩ := S
  obtain ⟨-, ⟨cellB, hcB, hoB, hclB⟩, hPc⟩ := hp
  intro T hT X
  rcases vx_callVX X hx (C := C) (hh := hh) (bytes := bytes) (maxL := maxL) (ret := ret) ho hl hin hse hcode hy hK (by rw [hT]; exact hcB) hoB hclB hg (hsize.trans hml.symm) (argsL := As) (rest := rest) (fun sig h => hn.trans (hlen sig h)) hstack hW (by rw [hb]; exact hdg)
    (fun vm₁ hW₁ => ⟨hf.1, hf.2, hPc (T.setVm vm₁) hT hW₁⟩) with ⟨v, vm₁, ⟨U', l2, c2, s2⟩, hW₁, X', ⟨g', mk, t, L, e1, e2, hq, h1, hL, h2, h3⟩, st⟩ | ⟨q, vm₁, ⟨U', l2, c2, s2⟩, hW₁, X', ⟨g', mk, t, L, E, ce, e1, e2, hq, hce, hcv, hcl, h1, hL, h2, h3⟩, st⟩
  · dsimp only [Pt.U, Pt.locs, Pt.cells, Pt.slots] at X' e1 e2 h1 h2 h3 st
    subst h1; subst h2; subst h3
    exact Or.inl ⟨v, (T.setVm vm₁).calling g' mk (Value.ref b :: As).toArray, t, U', L, hT, X', hL, e1, e2, hq, st⟩
  · dsimp only [Pt.U, Pt.locs, Pt.cells, Pt.slots] at X' e1 e2 h1 h2 h3 st hcl
    subst h1; subst h2; subst h3
    exact Or.inr ⟨q, (T.setVm vm₁).calling g' mk (Value.ref b :: As).toArray, t, U', L, E, ce, hT, X', hL, e1, e2, hq, hce, hcv, vx_cls hW₁ hcl, st⟩
theorem vx_runSX {hh : List (Nat × Nat × Nat × Nat)} (S : CallFix p m c cc nL s args Ts own) (hM : vx_Met l y ws rm Pc Qc XC mc ms free) (cw : vx_CSW R s args own index y bytes maxL ret hh ws rm mc ms n) (hp : PreS s H Pc As)
    (hg : g.method = m) (hn : As.length = n) (hsize : g.locals.size = nL) (hstack : g.stack = As.reverse ++ rest) (hW : 2 * g.monitorRoom + (rest.map fun v => v.category).sum ≤ 8) (hdg : decode cc g.pc = .ok (.invokestatic index, 3)) (hf : cells + mc ≤ R.cells ∧ slots + ms ≤ R.slots) :
    vx_Run p l e R s m args below meth c H locs cells slots mc ms g rest (Qc As.toArray) XC free := by
  obtain ⟨⟨hrc, hrs, hfr, hlo, hws, hcw⟩, hcode, hini, hy, hlen, hl, hstt⟩ := cw
  have hK : vx_Back l R p e below s args y 3 8 (PreOf R mc ms Pc) (PostOf Qc mc ms free) (vx_Post XC mc ms free) := vx_backW (hh := hh) (bytes := bytes) (maxL := maxL) (ret := ret) hM hp.1 hrc hrs hfr hlo hws hcw (fun a' U hW => word_at hW (Or.inl (by first | rfl | simp [Cond.onTables, Cond.keeps, Cond.steady])) hini)
  obtain ⟨hx, hb, hml, ho, -⟩ := S
  intro T hT X
  rcases vx_callSX X hx (hh := hh) (bytes := bytes) (maxL := maxL) (ret := ret) ho hl hstt hini hcode hy hK hg (hsize.trans hml.symm) (argsL := As) (rest := rest) (fun sig h => hn.trans (hlen sig h)) hstack hW (by rw [hb]; exact hdg)
    (fun vm₁ hW₁ => ⟨hf.1, hf.2, hp.2 (T.setVm vm₁) hT hW₁⟩) with ⟨v, vm₁, ⟨U', l2, c2, s2⟩, hW₁, X', ⟨g', mk, t, L, e1, e2, hq, h1, hL, h2, h3⟩, st⟩ | ⟨q, vm₁, ⟨U', l2, c2, s2⟩, hW₁, X', ⟨g', mk, t, L, E, ce, e1, e2, hq, hce, hcv, hcl, h1, hL, h2, h3⟩, st⟩
  · dsimp only [Pt.U, Pt.locs, Pt.cells, Pt.slots] at X' e1 e2 h1 h2 h3 st
    subst h1; subst h2; subst h3
    exact Or.inl ⟨v, (T.setVm vm₁).calling g' mk As.toArray, t, U', L, hT, X', hL, e1, e2, hq, st⟩
  · dsimp only [Pt.U, Pt.locs, Pt.cells, Pt.slots] at X' e1 e2 h1 h2 h3 st hcl
    subst h1; subst h2; subst h3
    exact Or.inr ⟨q, (T.setVm vm₁).calling g' mk As.toArray, t, U', L, E, ce, hT, X', hL, e1, e2, hq, hce, hcv, vx_cls hW₁ hcl, st⟩
end
end VXH
theorem vx_ofWH {l : Launch} {y : MethodName} {ws ws' : List Cond} {rm : Room} {Pc : Array Value → State → Prop} {Qc : Array Value → State → Outcome → State → Prop} {XC : String → State → State → Prop} {mc ms : Nat} {free : Addr → Prop} {cc : ByteArray} {maxL : Nat} {ret : Option FieldType} {hh : List (Nat × Nat × Nat × Nat)}
    (hy : plainName y.cls = true) (hw : ws = Cond.codeWith y cc maxL ret hh :: ws')
    (body : ∀ p e s m args below meth c s₁, BodyLoose p l y (headSpec ws rm) cc maxL ret e s m args below meth c s₁ → c.maxLocals = maxL → Pc args s →
      W p l e (headSpec ws rm).room s m args below meth c s.heap [] 0 0 (vx_MQ below Qc XC args s mc ms free) (entryFrame m args maxL)) : vx_Met l y ws rm Pc Qc XC mc ms free := by
  refine MetFree.of_bodyS (code := cc) (maxLocals := maxL) (ret := ret) hy ?_ ?_
  · intro args s m h hn
    obtain ⟨m9, meth, c, hn9, h1, h2, h3, h4, -, h5, h6, -⟩ := Cond.codeWith_spec (atoms_spec (ws := ws) h _ (by rw [hw]; exact List.mem_cons_self))
    cases hn.symm.trans hn9
    exact ⟨meth, c, h1, h2, h3, h4, h5, h6⟩
  · intro p e s m args below meth c s₁ B hml hP _
    have hh0 : s₁.heap = s.heap := by rw [B.state]; rfl
    obtain ⟨t, a1, o, b1, b2, b3⟩ := body p e s m args below meth c s₁ B hml hP s₁ hh0 (Stand.of_body B)
    exact ⟨t, o, a1, b1, b2, b3⟩
/-! ===== END ===== -/
end
section
/-! THE SMALL MACHINE, 1: a state of numbers, and the world of cells that it stands for.
Object numbers (0, 1, ..) stand for addresses ('ad'). x.1: the int fields, x.2.1: the reference fields (object numbers), both by 'jm_key object field'; x.2.2: the contents of the arrays of ints, by object number. -/
abbrev jm_X : Type := (Nat → Int32) × (Nat → Nat) × (Nat → Nat → Int32)
/-- a cell's shape: an array of ints (kind, length); an array of constant references (class, object numbers); an object (its class's place in the list of classes; of each field 0: an int, 1: a reference, n + 2: always the object n) -/
abbrev jm_S : Type := (FieldType × Nat) ⊕ (String × List Nat) ⊕ (Nat × List Nat)
def jm_key (o k : Nat) : Nat := 100 * o + k
def jm_fv (ad : Nat → Nat) (x : jm_X) (o k : Nat) : Nat → Value
  | 0 => .int (x.1 (jm_key o k))
  | 1 => .ref (ad (x.2.1 (jm_key o k)))
  | n + 2 => .ref (ad n)
def jm_ce (ad : Nat → Nat) (aC : Nat → ClassId) (x : jm_X) (o : Nat) : jm_S → va_E
  | .inl q => .inl (aC o, q.2, .inl (x.2.2 o))
  | .inr (.inl q) => .inl (aC o, q.2.length, .inr (.inr (.inr (.inr (fun i => (q.2[i]?).map ad)))))
  | .inr (.inr q) => .inr (q.1, q.2.mapIdx (fun k fd => jm_fv ad x o k fd))
def jm_wl (ad : Nat → Nat) (aC : Nat → ClassId) (sh : List jm_S) (x : jm_X) : va_W := sh.mapIdx (fun o c => (ad o, jm_ce ad aC x o c))
/-- no object has more than a hundred fields -/
def jm_small (sh : List jm_S) : Prop := ∀ (o ci : Nat) (fs : List Nat), sh[o]? = some (.inr (.inr (ci, fs))) → fs.length ≤ 100
theorem jm_wl_get (ad : Nat → Nat) (aC : Nat → ClassId) (sh : List jm_S) (x : jm_X) (o : Nat) : (jm_wl ad aC sh x)[o]? = (sh[o]?).map (fun c => (ad o, jm_ce ad aC x o c)) := by
  simp [jm_wl, List.getElem?_mapIdx]
theorem jm_wl_at {ad : Nat → Nat} {aC : Nat → ClassId} {sh : List jm_S} {x : jm_X} {o : Nat} {c : jm_S} (h : sh[o]? = some c) : (jm_wl ad aC sh x)[o]? = some (ad o, jm_ce ad aC x o c) := by
  rw [jm_wl_get, h]; rfl
theorem jm_wl_len (ad : Nat → Nat) (aC : Nat → ClassId) (sh : List jm_S) (x : jm_X) : (jm_wl ad aC sh x).length = sh.length := by
  simp [jm_wl]
theorem jm_lt {sh : List jm_S} {o : Nat} {c : jm_S} (h : sh[o]? = some c) : o < sh.length := (List.getElem?_eq_some_iff.mp h).1
/-- a world by its cells: two states that give the same cells but at o -/
theorem jm_wl_set {ad : Nat → Nat} {aC : Nat → ClassId} {sh : List jm_S} {x y : jm_X} {o : Nat} {c : jm_S} (hs : sh[o]? = some c) {e : va_E} (he : jm_ce ad aC y o c = e)
    (hr : ∀ (i : Nat) (d : jm_S), i ≠ o → sh[i]? = some d → jm_ce ad aC y i d = jm_ce ad aC x i d) : jm_wl ad aC sh y = (jm_wl ad aC sh x).set o (ad o, e) := by
  apply List.ext_getElem?
  intro i
  have hl : o < (jm_wl ad aC sh x).length := by rw [jm_wl_len]; exact jm_lt hs
  by_cases hi : i = o
  · subst hi
    rw [List.getElem?_set_self hl, jm_wl_at hs, he]
  · rw [List.getElem?_set_ne (Ne.symm hi), jm_wl_get, jm_wl_get]
    cases hd : sh[i]? with
    | none => rfl
    | some d => simp only [Option.map_some]; rw [hr i d hi hd]
theorem jm_fs_get (ad : Nat → Nat) (x : jm_X) (o : Nat) (fs : List Nat) (k : Nat) : (fs.mapIdx (fun k fd => jm_fv ad x o k fd))[k]? = (fs[k]?).map (fun fd => jm_fv ad x o k fd) := by
  simp [List.getElem?_mapIdx]
theorem jm_fv_int {ad : Nat → Nat} {x : jm_X} {i j o k fd : Nat} {v : Int32} (h : jm_key i j ≠ jm_key o k) : jm_fv ad (va_up x.1 (jm_key o k) v, x.2) i j fd = jm_fv ad x i j fd := by
  match fd with
  | 0 => simp only [jm_fv, va_up, if_neg h]
  | 1 => rfl
  | n + 2 => rfl
theorem jm_fv_ref {ad : Nat → Nat} {x : jm_X} {i j o k fd v : Nat} (h : jm_key i j ≠ jm_key o k) : jm_fv ad (x.1, va_up x.2.1 (jm_key o k) v, x.2.2) i j fd = jm_fv ad x i j fd := by
  match fd with
  | 0 => rfl
  | 1 => simp only [jm_fv, va_up, if_neg h]
  | n + 2 => rfl
theorem jm_key_ne {i j o k : Nat} (hj : j < 100) (hk : k < 100) (h : ¬ (i = o ∧ j = k)) : jm_key i j ≠ jm_key o k := by
  unfold jm_key
  omega
theorem jm_set_int {ad : Nat → Nat} {aC : Nat → ClassId} {sh : List jm_S} {x : jm_X} {o ci k : Nat} {fs : List Nat} (hok : jm_small sh) (hs : sh[o]? = some (.inr (.inr (ci, fs)))) (hk : fs[k]? = some 0) (v : Int32) :
    jm_wl ad aC sh (va_up x.1 (jm_key o k) v, x.2) = (jm_wl ad aC sh x).set o (ad o, .inr (ci, (fs.mapIdx (fun k fd => jm_fv ad x o k fd)).set k (.int v))) := by
  have hkl : k < fs.length := (List.getElem?_eq_some_iff.mp hk).1
  have hk100 : k < 100 := Nat.lt_of_lt_of_le hkl (hok o ci fs hs)
  refine jm_wl_set hs ?_ ?_
  · simp only [jm_ce]
    congr 2
    apply List.ext_getElem?
    intro j
    by_cases hj : j = k
    · subst hj
      rw [List.getElem?_set_self (by simpa using hkl), jm_fs_get, hk]
      simp [jm_fv, va_up]
    · rw [List.getElem?_set_ne (Ne.symm hj), jm_fs_get, jm_fs_get]
      cases hd : fs[j]? with
      | none => rfl
      | some fd =>
        have hjl : j < fs.length := (List.getElem?_eq_some_iff.mp hd).1
        simp only [Option.map_some]
        rw [jm_fv_int (jm_key_ne (Nat.lt_of_lt_of_le hjl (hok o ci fs hs)) hk100 (fun q => hj q.2))]
  · intro i d hi hd
    match d, hd with
    | .inl q, _ => rfl
    | .inr (.inl q), _ => rfl
    | .inr (.inr (ci', fs')), hd =>
      simp only [jm_ce]
      congr 2
      apply List.ext_getElem?
      intro j
      rw [jm_fs_get, jm_fs_get]
      cases hd2 : fs'[j]? with
      | none => rfl
      | some fd =>
        have hjl : j < fs'.length := (List.getElem?_eq_some_iff.mp hd2).1
        simp only [Option.map_some]
        rw [jm_fv_int (jm_key_ne (Nat.lt_of_lt_of_le hjl (hok i ci' fs' hd)) hk100 (fun q => hi q.1))]
theorem jm_set_ref {ad : Nat → Nat} {aC : Nat → ClassId} {sh : List jm_S} {x : jm_X} {o ci k : Nat} {fs : List Nat} (hok : jm_small sh) (hs : sh[o]? = some (.inr (.inr (ci, fs)))) (hk : fs[k]? = some 1) (v : Nat) :
    jm_wl ad aC sh (x.1, va_up x.2.1 (jm_key o k) v, x.2.2) = (jm_wl ad aC sh x).set o (ad o, .inr (ci, (fs.mapIdx (fun k fd => jm_fv ad x o k fd)).set k (.ref (ad v)))) := by
  have hkl : k < fs.length := (List.getElem?_eq_some_iff.mp hk).1
  have hk100 : k < 100 := Nat.lt_of_lt_of_le hkl (hok o ci fs hs)
  refine jm_wl_set hs ?_ ?_
  · simp only [jm_ce]
    congr 2
    apply List.ext_getElem?
    intro j
    by_cases hj : j = k
    · subst hj
      rw [List.getElem?_set_self (by simpa using hkl), jm_fs_get, hk]
      simp [jm_fv, va_up]
    · rw [List.getElem?_set_ne (Ne.symm hj), jm_fs_get, jm_fs_get]
      cases hd : fs[j]? with
      | none => rfl
      | some fd =>
        have hjl : j < fs.length := (List.getElem?_eq_some_iff.mp hd).1
        simp only [Option.map_some]
        rw [jm_fv_ref (jm_key_ne (Nat.lt_of_lt_of_le hjl (hok o ci fs hs)) hk100 (fun q => hj q.2))]
  · intro i d hi hd
    match d, hd with
    | .inl q, _ => rfl
    | .inr (.inl q), _ => rfl
    | .inr (.inr (ci', fs')), hd =>
      simp only [jm_ce]
      congr 2
      apply List.ext_getElem?
      intro j
      rw [jm_fs_get, jm_fs_get]
      cases hd2 : fs'[j]? with
      | none => rfl
      | some fd =>
        have hjl : j < fs'.length := (List.getElem?_eq_some_iff.mp hd2).1
        simp only [Option.map_some]
        rw [jm_fv_ref (jm_key_ne (Nat.lt_of_lt_of_le hjl (hok i ci' fs' hd)) hk100 (fun q => hi q.1))]
theorem jm_set_arr {ad : Nat → Nat} {aC : Nat → ClassId} {sh : List jm_S} {x : jm_X} {o n : Nat} {ty : FieldType} (hs : sh[o]? = some (.inl (ty, n))) (f : Nat → Int32) :
    jm_wl ad aC sh (x.1, x.2.1, va_up x.2.2 o f) = (jm_wl ad aC sh x).set o (ad o, .inl (aC o, n, .inl f)) := by
  refine jm_wl_set hs ?_ ?_
  · simp [jm_ce, va_up]
  · intro i d hi hd
    match d, hd with
    | .inl q, _ => simp only [jm_ce, va_up, if_neg hi]
    | .inr (.inl q), _ => rfl
    | .inr (.inr (ci', fs')), hd =>
      simp only [jm_ce]
      congr 2
/-- a value with object numbers, as a value of the machine -/
def jm_cv (ad : Nat → Nat) : Value → Value
  | .ref k => .ref (ad k)
  | v => v
theorem jm_cv_cat (ad : Nat → Nat) (v : Value) : (jm_cv ad v).category = v.category := by cases v <;> rfl
def jm_cl (ad : Nat → Nat) (ls : List (Nat × Value)) : List (Nat × Value) := ls.map (fun q => (q.1, jm_cv ad q.2))
def jm_st (ad : Nat → Nat) (st : List Value) : List Value := st.map (jm_cv ad)
/-- what a method may change: the world's cells, and new ones -/
def jm_A (ad : Nat → Nat) (n sz : Nat) : Nat → Prop := fun q => (∃ k, k < n ∧ q = ad k) ∨ sz ≤ q
theorem jm_A_mono {ad : Nat → Nat} {n a b : Nat} (h : a ≤ b) : ∀ q, jm_A ad n b q → jm_A ad n a q := fun _ hq => hq.elim Or.inl (fun z => Or.inr (Nat.le_trans h z))
/-- the addresses are apart -/
def jm_inj (ad : Nat → Nat) (n : Nat) : Prop := ∀ i j, i < n → j < n → ad i = ad j → i = j
theorem jm_D {ad : Nat → Nat} {aC : Nat → ClassId} {sh : List jm_S} {x : jm_X} {sz : Nat} (h : jm_inj ad sh.length) : va_D (jm_A ad sh.length sz) (jm_wl ad aC sh x) := by
  have key : ∀ (k : Nat) (q : Nat × va_E), (jm_wl ad aC sh x)[k]? = some q → k < sh.length ∧ q.1 = ad k := by
    intro k q hq
    rw [jm_wl_get] at hq
    cases hc : sh[k]? with
    | none => rw [hc] at hq; cases hq
    | some c => rw [hc] at hq; cases hq; exact ⟨jm_lt hc, rfl⟩
  refine ⟨fun i j p q hi hj hpq => ?_, fun k q hk => ?_⟩
  · obtain ⟨a1, a2⟩ := key i p hi
    obtain ⟨b1, b2⟩ := key j q hj
    exact h i j a1 b1 (by rw [← a2, ← b2]; exact hpq)
  · obtain ⟨a1, a2⟩ := key k q hk
    exact Or.inl ⟨k, a1, a2⟩
end
section
/-! THE SMALL MACHINE, 2: the instructions that touch the frame alone, as a function. -/
def jm_lk : List (Nat × Value) → Nat → Option Value
  | [], _ => none
  | q :: r, i => if q.1 = i then some q.2 else jm_lk r i
theorem jm_lk_mem : ∀ {ls : List (Nat × Value)} {i : Nat} {v : Value}, jm_lk ls i = some v → (i, v) ∈ ls
  | [], _, _, h => by cases h
  | (k, w) :: r, i, v, h => by
    unfold jm_lk at h
    by_cases hk : k = i
    · rw [if_pos hk] at h
      cases h
      subst hk
      exact List.mem_cons_self
    · rw [if_neg hk] at h
      exact List.mem_cons_of_mem _ (jm_lk_mem h)
theorem jm_lk_at {ad : Nat → Nat} {ls : List (Nat × Value)} {i nL : Nat} {v : Value} {la : Array Slot} (hl : lv_has la nL (jm_cl ad ls)) (h : jm_lk ls i = some v) : la[i]? = some (.val (jm_cv ad v)) :=
  hl.2.2 (i, jm_cv ad v) (List.mem_map.mpr ⟨(i, v), jm_lk_mem h, rfl⟩)
def jm_s1 (ls : List (Nat × Value)) (i : Nat) (v : Value) : List (Nat × Value) := (i, v) :: ls.filter (fun q => !(q.1 == i) && !(q.1 + 1 == i && q.2.category == 2))
def jm_s2 (ls : List (Nat × Value)) (i : Nat) (v : Value) : List (Nat × Value) := (i, v) :: ls.filter (fun q => !(q.1 == i) && (!(q.1 == i + 1) && !(q.1 + 1 == i && q.2.category == 2)))
theorem jm_s1_cl (ad : Nat → Nat) (ls : List (Nat × Value)) (i : Nat) (v : Value) : (i, jm_cv ad v) :: (jm_cl ad ls).filter (fun q => !(q.1 == i) && !(q.1 + 1 == i && q.2.category == 2)) = jm_cl ad (jm_s1 ls i v) := by
  simp only [jm_s1, jm_cl, List.map_cons, List.filter_map]
  congr 2
  apply List.filter_congr
  intro q _
  simp [Function.comp, jm_cv_cat]
theorem jm_s2_cl (ad : Nat → Nat) (ls : List (Nat × Value)) (i : Nat) (v : Value) : (i, jm_cv ad v) :: (jm_cl ad ls).filter (fun q => !(q.1 == i) && (!(q.1 == i + 1) && !(q.1 + 1 == i && q.2.category == 2))) = jm_cl ad (jm_s2 ls i v) := by
  simp only [jm_s2, jm_cl, List.map_cons, List.filter_map]
  congr 2
  apply List.filter_congr
  intro q _
  simp [Function.comp, jm_cv_cat]
abbrev jm_F : Type := Nat × List (Nat × Value) × List Value
/-- constants -/
def jm_f1 (i : Instr) (len pc : Nat) (ls : List (Nat × Value)) (st : List Value) : Option jm_F := match i, len with
  | .iconst n, 1 => some (pc + 1, ls, .int (Int32.ofInt n) :: st)
  | .bipush n, 2 => some (pc + 2, ls, .int (Int8.ofInt n).toInt32 :: st)
  | .sipush n, 3 => some (pc + 3, ls, .int (Int16.ofInt n).toInt32 :: st)
  | .lconst n, 1 => some (pc + 1, ls, .long (Int64.ofNat (n : Nat)) :: st)
  | _, _ => none
def jm_ldi (ls : List (Nat × Value)) (i pc : Nat) (st : List Value) : Option jm_F := match jm_lk ls i with
  | some (.int v) => some (pc, ls, .int v :: st)
  | _ => none
def jm_ldl (ls : List (Nat × Value)) (i pc : Nat) (st : List Value) : Option jm_F := match jm_lk ls i with
  | some (.long v) => some (pc, ls, .long v :: st)
  | _ => none
def jm_lda (ls : List (Nat × Value)) (i pc : Nat) (st : List Value) : Option jm_F := match jm_lk ls i with
  | some (.ref v) => some (pc, ls, .ref v :: st)
  | _ => none
/-- loads -/
def jm_f2 (i : Instr) (len pc : Nat) (ls : List (Nat × Value)) (st : List Value) : Option jm_F := match i, len with
  | .iload_n k, 1 => jm_ldi ls k (pc + 1) st
  | .iload k, 2 => jm_ldi ls k (pc + 2) st
  | .lload_n k, 1 => jm_ldl ls k (pc + 1) st
  | .lload k, 2 => jm_ldl ls k (pc + 2) st
  | .aload_n k, 1 => jm_lda ls k (pc + 1) st
  | .aload k, 2 => jm_lda ls k (pc + 2) st
  | _, _ => none
/-- stores -/
def jm_f3 (nL : Nat) (i : Instr) (len pc : Nat) (ls : List (Nat × Value)) (st : List Value) : Option jm_F := match i, len, st with
  | .istore_n k, 1, .int v :: r => if (k : Nat) < nL then some (pc + 1, jm_s1 ls k (.int v), r) else none
  | .istore k, 2, .int v :: r => if k < nL then some (pc + 2, jm_s1 ls k (.int v), r) else none
  | .lstore_n k, 1, .long v :: r => if (k : Nat) + 1 < nL then some (pc + 1, jm_s2 ls k (.long v), r) else none
  | .lstore k, 2, .long v :: r => if k + 1 < nL then some (pc + 2, jm_s2 ls k (.long v), r) else none
  | .astore_n k, 1, .ref v :: r => if (k : Nat) < nL then some (pc + 1, jm_s1 ls k (.ref v), r) else none
  | .astore k, 2, .ref v :: r => if k < nL then some (pc + 2, jm_s1 ls k (.ref v), r) else none
  | .iinc k n, 3, st => match jm_lk ls k with
    | some (.int v) => if k < nL then some (pc + 3, jm_s1 ls k (.int (v + Int32.ofInt n)), st) else none
    | _ => none
  | _, _, _ => none
/-- arithmetic and the stack -/
def jm_f4 (i : Instr) (len pc : Nat) (ls : List (Nat × Value)) (st : List Value) : Option jm_F := match i, len, st with
  | .iadd, 1, .int y :: .int x :: r => some (pc + 1, ls, .int (x + y) :: r)
  | .isub, 1, .int y :: .int x :: r => some (pc + 1, ls, .int (x - y) :: r)
  | .imul, 1, .int y :: .int x :: r => some (pc + 1, ls, .int (x * y) :: r)
  | .iand, 1, .int y :: .int x :: r => some (pc + 1, ls, .int (x &&& y) :: r)
  | .ishr, 1, .int y :: .int x :: r => some (pc + 1, ls, .int (x >>> (y &&& 31)) :: r)
  | .ladd, 1, .long y :: .long x :: r => some (pc + 1, ls, .long (x + y) :: r)
  | .lsub, 1, .long y :: .long x :: r => some (pc + 1, ls, .long (x - y) :: r)
  | .lmul, 1, .long y :: .long x :: r => some (pc + 1, ls, .long (x * y) :: r)
  | .lcmp, 1, .long y :: .long x :: r => some (pc + 1, ls, .int (lg_cmp x y) :: r)
  | .i2l, 1, .int x :: r => some (pc + 1, ls, .long x.toInt64 :: r)
  | .i2b, 1, .int x :: r => some (pc + 1, ls, .int x.toInt8.toInt32 :: r)
  | .i2c, 1, .int x :: r => some (pc + 1, ls, .int (x.toUInt32 % 65536).toInt32 :: r)
  | .dup, 1, .int x :: r => some (pc + 1, ls, .int x :: .int x :: r)
  | .dup, 1, .ref x :: r => some (pc + 1, ls, .ref x :: .ref x :: r)
  | .pop, 1, .int x :: r => some (pc + 1, ls, r)
  | .pop, 1, .ref x :: r => some (pc + 1, ls, r)
  | .dup_x1, 1, .int x :: .ref y :: r => some (pc + 1, ls, .int x :: .ref y :: .int x :: r)
  | .dup2, 1, .int x :: .ref y :: r => some (pc + 1, ls, .int x :: .ref y :: .int x :: .ref y :: r)
  | _, _, _ => none
def jm_tg (pc : Nat) (off : Int) : Nat := ((pc : Int) + off).toNat
def jm_ok (pc : Nat) (off : Int) : Bool := decide (0 ≤ (pc : Int) + off)
/-- jumps -/
def jm_f5 (i : Instr) (len pc : Nat) (ls : List (Nat × Value)) (st : List Value) : Option jm_F := match i, len, st with
  | .goto off, 3, st => if jm_ok pc off then some (jm_tg pc off, ls, st) else none
  | .ifCond .eq off, 3, .int x :: r => if jm_ok pc off then some (if x = 0 then jm_tg pc off else pc + 3, ls, r) else none
  | .ifCond .ne off, 3, .int x :: r => if jm_ok pc off then some (if x = 0 then pc + 3 else jm_tg pc off, ls, r) else none
  | .ifCond .lt off, 3, .int x :: r => if jm_ok pc off then some (if x < 0 then jm_tg pc off else pc + 3, ls, r) else none
  | .ifCond .ge off, 3, .int x :: r => if jm_ok pc off then some (if 0 ≤ x then jm_tg pc off else pc + 3, ls, r) else none
  | .ifCond .gt off, 3, .int x :: r => if jm_ok pc off then some (if 0 < x then jm_tg pc off else pc + 3, ls, r) else none
  | .ifCond .le off, 3, .int x :: r => if jm_ok pc off then some (if x ≤ 0 then jm_tg pc off else pc + 3, ls, r) else none
  | .if_icmp .eq off, 3, .int y :: .int x :: r => if jm_ok pc off then some (if x = y then jm_tg pc off else pc + 3, ls, r) else none
  | .if_icmp .ne off, 3, .int y :: .int x :: r => if jm_ok pc off then some (if x = y then pc + 3 else jm_tg pc off, ls, r) else none
  | .if_icmp .lt off, 3, .int y :: .int x :: r => if jm_ok pc off then some (if x < y then jm_tg pc off else pc + 3, ls, r) else none
  | .if_icmp .ge off, 3, .int y :: .int x :: r => if jm_ok pc off then some (if y ≤ x then jm_tg pc off else pc + 3, ls, r) else none
  | .if_icmp .gt off, 3, .int y :: .int x :: r => if jm_ok pc off then some (if y < x then jm_tg pc off else pc + 3, ls, r) else none
  | .if_icmp .le off, 3, .int y :: .int x :: r => if jm_ok pc off then some (if x ≤ y then jm_tg pc off else pc + 3, ls, r) else none
  | _, _, _ => none
theorem jm_tg_ok {pc : Nat} {off : Int} (h : jm_ok pc off = true) : (pc : Int) + off = ((jm_tg pc off : Nat) : Int) := by
  unfold jm_ok at h
  unfold jm_tg
  exact (Int.toNat_of_nonneg (of_decide_eq_true h)).symm
section JS
variable {p : Program} {l : Launch} {e : Env} {R : Room} {s : State} {m : MethodId} {args : Array Value} {below : List Frame} {meth : Method} {c : Code} {H : Heap} {locs : List Loc} {cells slots : Nat} {Q : State → Prop}
variable {cc : ByteArray} {nL : Nat} {ad : Nat → Nat} {i : Instr} {len pc pc' : Nat} {ls ls' : List (Nat × Value)} {st st' : List Value} {la : Array Slot}
theorem jm_f1_ok (hx : p.tables.exec = Jvm.exec) (hb : c.code = cc) (hd : decode cc pc = .ok (i, len)) (h : jm_f1 i len pc ls st = some (pc', ls', st')) (hl : lv_has la nL (jm_cl ad ls))
    (k : ∀ la' : Array Slot, lv_has la' nL (jm_cl ad ls') → W p l e R s m args below meth c H locs cells slots Q (F0 m pc' la' (jm_st ad st'))) : W p l e R s m args below meth c H locs cells slots Q (F0 m pc la (jm_st ad st)) := by
  unfold jm_f1 at h
  split at h
  · cases h; exact lv_iconst hx hb hd rfl (k la hl)
  · cases h; exact lv_bipush hx hb hd rfl (k la hl)
  · cases h; exact lv_sipush hx hb hd rfl (k la hl)
  · cases h; exact lv_lconst hx hb hd rfl (k la hl)
  · cases h
theorem jm_f2_ok (hx : p.tables.exec = Jvm.exec) (hb : c.code = cc) (hd : decode cc pc = .ok (i, len)) (h : jm_f2 i len pc ls st = some (pc', ls', st')) (hl : lv_has la nL (jm_cl ad ls))
    (k : ∀ la' : Array Slot, lv_has la' nL (jm_cl ad ls') → W p l e R s m args below meth c H locs cells slots Q (F0 m pc' la' (jm_st ad st'))) : W p l e R s m args below meth c H locs cells slots Q (F0 m pc la (jm_st ad st)) := by
  unfold jm_f2 at h
  split at h
  · unfold jm_ldi at h
    split at h
    · rename_i hv; cases h; exact lv_iload_n hx hb hd rfl (jm_lk_at hl hv) (k la hl)
    · cases h
  · unfold jm_ldi at h
    split at h
    · rename_i hv; cases h; exact lv_iload hx hb hd (jm_lk_at hl hv) (k la hl)
    · cases h
  · unfold jm_ldl at h
    split at h
    · rename_i hv; cases h; exact lv_lload_n hx hb hd rfl (jm_lk_at hl hv) (k la hl)
    · cases h
  · unfold jm_ldl at h
    split at h
    · rename_i hv; cases h; exact lv_lload hx hb hd (jm_lk_at hl hv) (k la hl)
    · cases h
  · unfold jm_lda at h
    split at h
    · rename_i hv; cases h; exact lv_aload_n hx hb hd rfl (jm_lk_at hl hv) (k la hl)
    · cases h
  · unfold jm_lda at h
    split at h
    · rename_i hv; cases h; exact lv_aload hx hb hd (jm_lk_at hl hv) (k la hl)
    · cases h
  · cases h
theorem jm_f3_ok (hx : p.tables.exec = Jvm.exec) (hb : c.code = cc) (hd : decode cc pc = .ok (i, len)) (h : jm_f3 nL i len pc ls st = some (pc', ls', st')) (hl : lv_has la nL (jm_cl ad ls))
    (k : ∀ la' : Array Slot, lv_has la' nL (jm_cl ad ls') → W p l e R s m args below meth c H locs cells slots Q (F0 m pc' la' (jm_st ad st'))) : W p l e R s m args below meth c H locs cells slots Q (F0 m pc la (jm_st ad st)) := by
  unfold jm_f3 at h
  split at h
  · split at h
    · rename_i hn; cases h; exact lv_istore_n hx hb hd rfl hl hn (jm_s1_cl ad ls _ (.int _)) k
    · cases h
  · split at h
    · rename_i hn; cases h; exact lv_istore hx hb hd hl hn (jm_s1_cl ad ls _ (.int _)) k
    · cases h
  · split at h
    · rename_i hn; cases h; exact lv_lstore_n hx hb hd rfl hl hn (jm_s2_cl ad ls _ (.long _)) k
    · cases h
  · split at h
    · rename_i hn; cases h; exact lv_lstore hx hb hd hl hn (jm_s2_cl ad ls _ (.long _)) k
    · cases h
  · split at h
    · rename_i v _ hn; cases h; exact lv_astore_n hx hb hd rfl hl hn (jm_s1_cl ad ls _ (.ref v)) k
    · cases h
  · split at h
    · rename_i v _ hn; cases h; exact lv_astore hx hb hd hl hn (jm_s1_cl ad ls _ (.ref v)) k
    · cases h
  · split at h
    · rename_i v hv
      split at h
      · rename_i hn
        cases h
        obtain ⟨q, hq⟩ := List.getElem?_of_mem (List.mem_map.mpr ⟨_, jm_lk_mem hv, rfl⟩ : (_, jm_cv ad (.int v)) ∈ jm_cl ad ls)
        exact lv_iinc hx hb hd hl hq rfl hn (jm_s1_cl ad ls _ (.int _)) k
      · cases h
    · cases h
  · cases h
theorem jm_f4_ok (hx : p.tables.exec = Jvm.exec) (hb : c.code = cc) (hd : decode cc pc = .ok (i, len)) (h : jm_f4 i len pc ls st = some (pc', ls', st')) (hl : lv_has la nL (jm_cl ad ls))
    (k : ∀ la' : Array Slot, lv_has la' nL (jm_cl ad ls') → W p l e R s m args below meth c H locs cells slots Q (F0 m pc' la' (jm_st ad st'))) : W p l e R s m args below meth c H locs cells slots Q (F0 m pc la (jm_st ad st)) := by
  unfold jm_f4 at h
  split at h
  · cases h; exact lv_iadd hx hb hd (k la hl)
  · cases h; exact lv_isub hx hb hd (k la hl)
  · cases h; exact lv_imul hx hb hd (k la hl)
  · cases h; exact lv_iand hx hb hd (k la hl)
  · cases h; exact lv_ishr hx hb hd (k la hl)
  · cases h; exact lv_ladd hx hb hd (k la hl)
  · cases h; exact lv_lsub hx hb hd (k la hl)
  · cases h; exact lv_lmul hx hb hd (k la hl)
  · cases h; exact W.lcmp hx hb hd (k la hl)
  · cases h; exact lv_i2l hx hb hd rfl (k la hl)
  · cases h; exact lv_i2b hx hb hd rfl (k la hl)
  · cases h; exact lv_i2c hx hb hd rfl (k la hl)
  · cases h; exact lv_dup hx hb hd rfl (k la hl)
  · cases h; exact lv_dup hx hb hd rfl (k la hl)
  · cases h; exact lv_pop hx hb hd rfl (k la hl)
  · cases h; exact lv_pop hx hb hd rfl (k la hl)
  · cases h; exact lv_dup_x1 hx hb hd rfl rfl (k la hl)
  · cases h; exact lv_dup2_11 hx hb hd rfl rfl (k la hl)
  · cases h
theorem jm_it {C : Prop} {d : Decidable C} {a b : Nat} {la : Array Slot} {st : List Value} (k : W p l e R s m args below meth c H locs cells slots Q (F0 m (@ite _ C d a b) la st)) (h : C) : W p l e R s m args below meth c H locs cells slots Q (F0 m a la st) := by
  rw [if_pos h] at k; exact k
theorem jm_if {C : Prop} {d : Decidable C} {a b : Nat} {la : Array Slot} {st : List Value} (k : W p l e R s m args below meth c H locs cells slots Q (F0 m (@ite _ C d a b) la st)) (h : ¬ C) : W p l e R s m args below meth c H locs cells slots Q (F0 m b la st) := by
  rw [if_neg h] at k; exact k
theorem jm_f5_ok (hx : p.tables.exec = Jvm.exec) (hb : c.code = cc) (hd : decode cc pc = .ok (i, len)) (h : jm_f5 i len pc ls st = some (pc', ls', st')) (hl : lv_has la nL (jm_cl ad ls))
    (k : ∀ la' : Array Slot, lv_has la' nL (jm_cl ad ls') → W p l e R s m args below meth c H locs cells slots Q (F0 m pc' la' (jm_st ad st'))) : W p l e R s m args below meth c H locs cells slots Q (F0 m pc la (jm_st ad st)) := by
  unfold jm_f5 at h
  split at h
  · split at h
    · rename_i ho; cases h; exact lv_goto hx hb hd (jm_tg_ok ho) (k la hl)
    · cases h
  · split at h
    · rename_i ho; cases h; exact lv_if_eq hx hb hd (jm_tg_ok ho) (jm_it (k la hl)) (jm_if (k la hl))
    · cases h
  · split at h
    · rename_i ho; cases h; exact lv_if_ne hx hb hd (jm_tg_ok ho) (jm_if (k la hl)) (jm_it (k la hl))
    · cases h
  · split at h
    · rename_i ho; cases h; exact lv_if_lt hx hb hd (jm_tg_ok ho) (jm_it (k la hl)) (jm_if (k la hl))
    · cases h
  · split at h
    · rename_i ho; cases h; exact lv_if_ge hx hb hd (jm_tg_ok ho) (jm_it (k la hl)) (jm_if (k la hl))
    · cases h
  · split at h
    · rename_i ho; cases h; exact lv_if_gt hx hb hd (jm_tg_ok ho) (jm_it (k la hl)) (jm_if (k la hl))
    · cases h
  · split at h
    · rename_i ho; cases h; exact lv_if_le hx hb hd (jm_tg_ok ho) (jm_it (k la hl)) (jm_if (k la hl))
    · cases h
  · split at h
    · rename_i ho; cases h; exact lv_icmp_eq hx hb hd (jm_tg_ok ho) (jm_it (k la hl)) (jm_if (k la hl))
    · cases h
  · split at h
    · rename_i ho; cases h; exact lv_icmp_ne hx hb hd (jm_tg_ok ho) (jm_if (k la hl)) (jm_it (k la hl))
    · cases h
  · split at h
    · rename_i ho; cases h; exact lv_icmp_lt hx hb hd (jm_tg_ok ho) (jm_it (k la hl)) (jm_if (k la hl))
    · cases h
  · split at h
    · rename_i ho; cases h; exact lv_icmp_ge hx hb hd (jm_tg_ok ho) (jm_it (k la hl)) (jm_if (k la hl))
    · cases h
  · split at h
    · rename_i ho; cases h; exact lv_icmp_gt hx hb hd (jm_tg_ok ho) (jm_it (k la hl)) (jm_if (k la hl))
    · cases h
  · split at h
    · rename_i ho; cases h; exact lv_icmp_le hx hb hd (jm_tg_ok ho) (jm_it (k la hl)) (jm_if (k la hl))
    · cases h
  · cases h
/-- one instruction of the frame -/
def jm_f (nL : Nat) (i : Instr) (len pc : Nat) (ls : List (Nat × Value)) (st : List Value) : Option jm_F :=
  match jm_f2 i len pc ls st with
  | some r => some r
  | none => match jm_f4 i len pc ls st with
    | some r => some r
    | none => match jm_f1 i len pc ls st with
      | some r => some r
      | none => match jm_f5 i len pc ls st with
        | some r => some r
        | none => jm_f3 nL i len pc ls st
theorem jm_f_ok (hx : p.tables.exec = Jvm.exec) (hb : c.code = cc) (hd : decode cc pc = .ok (i, len)) (h : jm_f nL i len pc ls st = some (pc', ls', st')) (hl : lv_has la nL (jm_cl ad ls))
    (k : ∀ la' : Array Slot, lv_has la' nL (jm_cl ad ls') → W p l e R s m args below meth c H locs cells slots Q (F0 m pc' la' (jm_st ad st'))) : W p l e R s m args below meth c H locs cells slots Q (F0 m pc la (jm_st ad st)) := by
  unfold jm_f at h
  split at h
  · rename_i h2; cases h; exact jm_f2_ok hx hb hd h2 hl k
  · split at h
    · rename_i h2; cases h; exact jm_f4_ok hx hb hd h2 hl k
    · split at h
      · rename_i h2; cases h; exact jm_f1_ok hx hb hd h2 hl k
      · split at h
        · rename_i h2; cases h; exact jm_f5_ok hx hb hd h2 hl k
        · exact jm_f3_ok hx hb hd h hl k
end JS
end
section
/-! THE SMALL MACHINE, 3: contracts and the judgement. A result: an answer and a state, or the name of a thrown class and a state. -/
abbrev jm_R : Type := (Option Value × jm_X) ⊕ (String × jm_X)
/-- what is fixed: launch, class numbers, classes, addresses, array classes, shapes, words, links of nest mates (fields, methods), the size of the heap at the law's start, what is said of the cells that lay there; how many cells an exception takes -/
abbrev jm_P : Type := Launch × va_G × List vw_C × (Nat → Nat) × (Nat → ClassId) × List jm_S × List Cond × List (String × Nat × String × String × String × String) × List (String × Nat × MethodName × String) × Nat × (State → Heap → Prop) × Nat
abbrev jm_l (P : jm_P) : Launch := P.1
abbrev jm_d (P : jm_P) : va_G := P.2.1
abbrev jm_c (P : jm_P) : List vw_C := P.2.2.1
abbrev jm_a (P : jm_P) : Nat → Nat := P.2.2.2.1
abbrev jm_k (P : jm_P) : Nat → ClassId := P.2.2.2.2.1
abbrev jm_h (P : jm_P) : List jm_S := P.2.2.2.2.2.1
abbrev jm_t (P : jm_P) : List Cond := P.2.2.2.2.2.2.1
abbrev jm_fn (P : jm_P) : List (String × Nat × String × String × String × String) := P.2.2.2.2.2.2.2.1
abbrev jm_mn (P : jm_P) : List (String × Nat × MethodName × String) := P.2.2.2.2.2.2.2.2.1
abbrev jm_b (P : jm_P) : Nat := P.2.2.2.2.2.2.2.2.2.1
abbrev jm_sg (P : jm_P) : State → Heap → Prop := P.2.2.2.2.2.2.2.2.2.2.1
abbrev jm_ec (P : jm_P) : Nat := P.2.2.2.2.2.2.2.2.2.2.2
abbrev jm_w (P : jm_P) (x : jm_X) : va_W := jm_wl (jm_a P) (jm_k P) (jm_h P) x
abbrev jm_n (P : jm_P) : Nat := (jm_h P).length
def jm_arr (P : jm_P) (s : State) : Prop := ∀ (o : Nat) (ty : FieldType), ((∃ n, (jm_h P)[o]? = some (.inl (ty, n))) ∨ ∃ C ids, ty = .object C ∧ (jm_h P)[o]? = some (.inr (.inl (C, ids)))) → ArrOfT s (jm_k P o) ty ∧ va_RA s (jm_k P o) ty
/-- what holds of the tables and of the old cells at every state -/
def jm_G (P : jm_P) (s : State) : Prop :=
  (∀ w ∈ jm_t P, ∀ a : Array Value, w.before a s = true) ∧ (∀ w ∈ jm_fn P, va_Nw (.fieldLinkNest w.1 w.2.1 w.2.2.1 w.2.2.2.1 w.2.2.2.2.1 w.2.2.2.2.2) s) ∧ (∀ w ∈ jm_mn P, va_Nw (.methodLinkNest w.1 w.2.1 w.2.2.1 w.2.2.2) s) ∧
  va_K (jm_d P) (jm_c P) [] s ∧ jm_arr P s ∧ jm_b P ≤ s.heap.size ∧ jm_sg P s s.heap
/-- words that stay true while tables grow warmer -/
def jm_gw (w : Cond) : Bool := goodWord w || (w.onTables && w.keepsFace)
theorem jm_word_at {a a' : Array Value} {s U : State} {w : Cond} (hW : s.WarmedH U.vm) (hg : jm_gw w = true) (h : w.before a s = true) : w.before a' U = true := by
  simp only [jm_gw, Bool.or_eq_true, Bool.and_eq_true] at hg
  rcases hg with hg | ⟨h1, h2⟩
  · exact word_at hW (good_of_word hg) h
  · exact va_tabs h1 (rfl : (s.setVm U.vm).vm = U.vm) (Cond.before_shiftedFace (State.Shifted.of_warmed hW) w h2 h)
def jm_Ok (P : jm_P) : Prop :=
  (∀ w ∈ jm_t P, jm_gw w = true) ∧ jm_small (jm_h P) ∧ jm_inj (jm_a P) (jm_n P) ∧ (∀ k, k < jm_n P → jm_b P ≤ jm_a P k) ∧
  (∀ (u U : State) (H H1 : Heap), u.WarmedH U.vm → (∀ q, q < jm_b P → H1[q]? = H[q]?) → jm_sg P u H → jm_sg P U H1) ∧
  (∀ i j, i < 55 → j < 55 → jm_a P (1000 + i) = jm_a P (1000 + j) → i = j) ∧ (jm_l P).stackTraces = false
theorem jm_G.moved {P : jm_P} (hok : jm_Ok P) {s U : State} (h : jm_G P s) (hW : s.WarmedH U.vm) (hz : jm_b P ≤ U.heap.size) (hq : ∀ q, q < jm_b P → U.heap[q]? = s.heap[q]?) : jm_G P U := by
  obtain ⟨h1, h2, h3, h4, h5, h6, h7⟩ := h
  refine ⟨fun w hw a => jm_word_at hW (hok.1 w hw) (h1 w hw #[]), fun w hw => (h2 w hw).warmF hW, fun w hw => (h3 w hw).warmM hW, va_K.moved hW.alike h4, fun o ty ho => ?_, hz, hok.2.2.2.2.1 _ _ _ _ hW hq h7⟩
  exact ⟨arrOfT_moved hW.alike (h5 o ty ho).1, (h5 o ty ho).2.moved hW.alike⟩
abbrev jm_AA (P : jm_P) (s : State) : Nat → Prop := jm_A (jm_a P) (jm_n P) s.heap.size
theorem jm_A_old {P : jm_P} (hok : jm_Ok P) {sz q : Nat} (hz : jm_b P ≤ sz) (hq : q < jm_b P) : ¬ jm_A (jm_a P) (jm_n P) sz q := by
  rintro (⟨k, h1, h2⟩ | h)
  · have := hok.2.2.2.1 k h1
    omega
  · omega
def jm_end (P : jm_P) (s t : State) (k n : Nat) : Prop := ∃ L : List Loc, s.WarmedH t.vm ∧ s.sameButNew ({ t with vm := s.vm } : State) L k n ∧ (∀ q ∈ L, jm_AA P s q.base) ∧ va_F (jm_AA P s) s t
def jm_exc (C : String) (t : State) (a : Nat) : Prop := ∃ cell : Cell, t.heap[a]? = some cell ∧ cell.vm = .none ∧ t.vm.findClass C = some cell.cls ∧ ∃ k, t.vm.classes[cell.cls]? = some k
def jm_post (P : jm_P) : jm_R → State → Outcome → State → Prop
  | .inl q, s, o, t => o = .returned (q.1.map (jm_cv (jm_a P))) ∧ va_P (jm_d P) (jm_c P) (jm_w P q.2) t.heap ∧ jm_end P s t 0 0
  | .inr q, s, o, t => (∃ a, o = .threw a ∧ jm_exc q.1 t a) ∧ va_P (jm_d P) (jm_c P) (jm_w P q.2) t.heap ∧ jm_end P s t (jm_ec P) (20 * jm_ec P)
def jm_Q (P : jm_P) (below : List Frame) (q : jm_R) (s : State) : State → Prop := fun t => ∃ o, t.status = .running ∧ Ended t below o ∧ jm_post P q s o t
def jm_room (d : Nat) : Room := { frames := d, cells := 1, slots := 20, locals := 40 * d }
/-- a method: name, code, places for locals, what it returns, its table of handlers -/
abbrev jm_M : Type := MethodName × ByteArray × Nat × Option FieldType × List (Nat × Nat × Nat × Nat)
def jm_cw (M : jm_M) : Cond := match M.2.2.2.2 with
  | [] => .code M.1 M.2.1 M.2.2.1 M.2.2.2.1
  | h :: t => .codeWith M.1 M.2.1 M.2.2.1 M.2.2.2.1 (h :: t)
abbrev jm_tab (c : Code) : List (Nat × Nat × Nat × Nat) := c.exceptionTable.toList.map (fun h => (h.startPc, h.endPc, h.handlerPc, h.catchType))
theorem jm_cw_spec {M : jm_M} {args : Array Value} {s : State} (h : (jm_cw M).before args s = true) : ∃ m meth c, s.methodNamed? M.1 = some m ∧ s.vm.method? m = some meth ∧ meth.code = some c ∧ c.code = M.2.1 ∧ c.maxLocals = M.2.2.1 ∧ meth.sig.returnType = M.2.2.2.1 ∧ meth.locks = false ∧ jm_tab c = M.2.2.2.2 ∧ parseMethodDescriptor M.1.desc = some meth.sig := by
  unfold jm_cw at h
  split at h
  · rename_i hh
    obtain ⟨m, hn⟩ := Cond.code_named h
    obtain ⟨meth, c, h1, h2, h3, h4, h5, h6, h7, h8⟩ := Cond.code_spec hn h
    rw [Array.isEmpty_iff] at h7
    exact ⟨m, meth, c, hn, h1, h2, h3, h4, h5, h6, by simp [jm_tab, h7, hh], h8⟩
  · rename_i a t hh
    obtain ⟨m, meth, c, hn, h1, h2, h3, h4, h5, h6, h7, h8⟩ := Cond.codeWith_spec h
    exact ⟨m, meth, c, hn, h1, h2, h3, h4, h6, h7, by rw [hh]; exact h5, h8⟩
def jm_Pre (P : jm_P) (av : List Value) (x : jm_X) : Array Value → State → Prop := fun a s => a = (jm_st (jm_a P) av).toArray ∧ jm_G P s ∧ va_P (jm_d P) (jm_c P) (jm_w P x) s.heap
/-- the contract: with room for d frames more, called with av in the state x, it ends with r (nothing is said where r is none) -/
def jm_Con (P : jm_P) (M : jm_M) (d : Nat) (av : List Value) (x : jm_X) (r : Option jm_R) : Prop := ∀ q, r = some q →
  MetFree (jm_l P) M.1 (headSpec [jm_cw M] (jm_room d)) (jm_Pre P av x) (fun _ _ _ _ _ => True) (fun _ s o t => jm_post P q s o t)
def jm_C (P : jm_P) (M : jm_M) (p : Program) (s : State) (m : MethodId) (meth : Method) (c : Code) : Prop :=
  p.tables.exec = Jvm.exec ∧ c.code = M.2.1 ∧ c.maxLocals = M.2.2.1 ∧ meth.sig.returnType = M.2.2.2.1 ∧ meth.locks = false ∧ s.vm.findClass M.1.cls = some m.cls ∧ jm_tab c = M.2.2.2.2 ∧ jm_G P s
/-- the judgement: from this frame and this state the method ends with r -/
def jm_V (P : jm_P) (M : jm_M) (d pc : Nat) (ls : List (Nat × Value)) (st : List Value) (x : jm_X) (r : Option jm_R) : Prop :=
  ∀ q, r = some q → ∀ (p : Program) (e : Env) (s : State) (m : MethodId) (args : Array Value) (below : List Frame) (meth : Method) (c : Code) (H : Heap) (locs : List Loc) (la : Array Slot),
    jm_C P M p s m meth c → lv_has la M.2.2.1 (jm_cl (jm_a P) ls) → va_P (jm_d P) (jm_c P) (jm_w P x) H → va_S (jm_AA P s) s.heap H locs →
    W p (jm_l P) e (jm_room d) s m args below meth c H locs 0 0 (jm_Q P below q s) (F0 m pc la (jm_st (jm_a P) st))
theorem jm_V.stuck {P : jm_P} {M : jm_M} {d pc : Nat} {ls : List (Nat × Value)} {st : List Value} {x : jm_X} : jm_V P M d pc ls st x none := fun _ h => by cases h
theorem jm_args_cl (ad : Nat → Nat) : ∀ (vs : List Value) (i : Nat), jm_cl ad (lv_args i vs) = lv_args i (jm_st ad vs)
  | [], _ => rfl
  | v :: vs, i => by
    have ih := jm_args_cl ad vs (if v.category = 2 then i + 2 else i + 1)
    simp only [jm_cl, jm_st] at ih ⊢
    simp only [lv_args, List.map_cons, jm_cv_cat]
    rw [ih]
/-- a contract out of the walk from the entry -/
theorem jm_Con.of {P : jm_P} {M : jm_M} {d : Nat} {av : List Value} {x : jm_X} {r : Option jm_R} (hy : plainFor M.1 = true) (hn : (lg_sl (jm_st (jm_a P) av)).length ≤ M.2.2.1)
    (h : jm_V P M d 0 (lv_args 0 av) [] x r) : jm_Con P M d av x r := by
  intro q hq
  refine MetFree.of_bodySF (code := M.2.1) (maxLocals := M.2.2.1) (ret := M.2.2.2.1) hy ?_ ?_
  · intro args s m h hn
    obtain ⟨m', meth, c, hn', h1, h2, h3, h4, h5, h6, -, -⟩ := jm_cw_spec (atoms_spec (ws := [jm_cw M]) h _ List.mem_cons_self)
    cases hn.symm.trans hn'
    exact ⟨meth, c, h1, h2, h3, h4, h5, h6⟩
  · intro p e s m args below meth c s₁ B hml hP _
    obtain ⟨rfl, hG, hPw⟩ := hP
    have hh0 : s₁.heap = s.heap := by rw [B.state]; rfl
    have hno : jm_tab c = M.2.2.2.2 := by
      obtain ⟨m', meth', c', hn', h1', h2', -, -, -, -, h7', -⟩ := jm_cw_spec (atoms_spec (ws := [jm_cw M]) B.pre _ List.mem_cons_self)
      cases B.named.symm.trans hn'
      cases B.method.symm.trans h1'
      cases (Stand.of_body B).code.symm.trans h2'
      exact h7'
    have hl := lv_entry (jm_st (jm_a P) av) hn
    rw [← jm_args_cl] at hl
    have W0 := h q hq p e s m (jm_st (jm_a P) av).toArray below meth c s.heap [] _ ⟨B.exec, B.bytes, hml, B.returns, B.notSynchronized, findClass_of_methodNamed B.named, hno, hG⟩ hl hPw va_S.rf
    obtain ⟨t, a1, o, b1, b2, b3⟩ := W0 s₁ hh0 (Stand.of_body B)
    rw [lg_entry_eq]
    exact ⟨t, o, a1, b1, b2, b3⟩
section JR
variable {P : jm_P} {M : jm_M} {d pc : Nat} {ls : List (Nat × Value)} {st : List Value} {x : jm_X}
/-- what both kinds of end need -/
theorem jm_end_of {s t : State} {H : Heap} {locs : List Loc} {k n : Nat} (hS : va_S (jm_AA P s) s.heap H locs) (ht : t.heap = H) (hW : s.WarmedH t.vm) (hf : s.sameButNew ({ t with vm := s.vm } : State) locs k n) : jm_end P s t k n :=
  ⟨locs, hW, hf, hS.2.2, hS.F ht⟩
theorem jm_Q_of {p : Program} {l : Launch} {e : Env} {R : Room} {s : State} {m : MethodId} {args : Array Value} {below : List Frame} {meth : Method} {c : Code} {H : Heap} {locs : List Loc} {q : jm_R} {g : JFrame} {Qc : Array Value → State → Outcome → State → Prop}
    (h : W p l e R s m args below meth c H locs 0 0 (MQ below Qc args s 0 0 (jm_AA P s)) g) (hq : ∀ o t, Qc args s o t → (∃ L, FrameEnd s o t L 0 0 ∧ ∀ z ∈ L, jm_AA P s z.base) → jm_post P q s o t) : W p l e R s m args below meth c H locs 0 0 (jm_Q P below q s) g := by
  intro T hT X
  obtain ⟨t, a1, o, b1, b2, b3, b4⟩ := h T hT X
  exact ⟨t, a1, o, b1, b2, hq o t b3 b4⟩
theorem jm_V.iret {v : Int32} (hr : M.2.2.2.1 = some .int) (hd : decode M.2.1 pc = .ok (.ireturn, 1)) : jm_V P M d pc ls [.int v] x (some (.inl (some (.int v), x))) := by
  intro q hq p e s m args below meth c H locs la hC hl hP hS
  cases hq
  obtain ⟨hx, hb, hml, hret, hlocks, hown, hno, hG⟩ := hC
  refine jm_Q_of (Qc := fun _ s o t => o = .returned (some (.int v)) ∧ va_P (jm_d P) (jm_c P) (jm_w P x) t.heap ∧ va_F (jm_AA P s) s t) ?_ ?_
  · exact W.iret hx hb (hret.trans hr) (fun t ht _ => ⟨rfl, by rw [ht]; exact hP, hS.F ht⟩) hS.2.2 hd
  · rintro o t ⟨h1, h2, h3⟩ ⟨L, ⟨-, hW, hf⟩, hL⟩
    exact ⟨h1, h2, L, hW, hf, hL, h3⟩
theorem jm_V.zret {v : Int32} (hr : M.2.2.2.1 = some .boolean) (hn : narrow .boolean (.int v) = .int v) (hd : decode M.2.1 pc = .ok (.ireturn, 1)) : jm_V P M d pc ls [.int v] x (some (.inl (some (.int v), x))) := by
  intro q hq p e s m args below meth c H locs la hC hl hP hS
  cases hq
  obtain ⟨hx, hb, hml, hret, hlocks, hown, hno, hG⟩ := hC
  refine jm_Q_of (Qc := fun _ s o t => o = .returned (some (.int v)) ∧ va_P (jm_d P) (jm_c P) (jm_w P x) t.heap ∧ va_F (jm_AA P s) s t) ?_ ?_
  · exact W.zret hx hb (hret.trans hr) hn (fun t ht _ => ⟨rfl, by rw [ht]; exact hP, hS.F ht⟩) hS.2.2 hd
  · rintro o t ⟨h1, h2, h3⟩ ⟨L, ⟨-, hW, hf⟩, hL⟩
    exact ⟨h1, h2, L, hW, hf, hL, h3⟩
theorem jm_V.vret (hr : M.2.2.2.1 = none) (hd : decode M.2.1 pc = .ok (.return_, 1)) : jm_V P M d pc ls [] x (some (.inl (none, x))) := by
  intro q hq p e s m args below meth c H locs la hC hl hP hS
  cases hq
  obtain ⟨hx, hb, hml, hret, hlocks, hown, hno, hG⟩ := hC
  refine jm_Q_of (Qc := fun _ s o t => o = .returned none ∧ va_P (jm_d P) (jm_c P) (jm_w P x) t.heap ∧ va_F (jm_AA P s) s t) ?_ ?_
  · exact W.vret hx hb (hret.trans hr) (fun t ht _ => ⟨rfl, by rw [ht]; exact hP, hS.F ht⟩) hS.2.2 hd
  · rintro o t ⟨h1, h2, h3⟩ ⟨L, ⟨-, hW, hf⟩, hL⟩
    exact ⟨h1, h2, L, hW, hf, hL, h3⟩
end JR
/-- no handler covers the place -/
def jm_unc (hh : List (Nat × Nat × Nat × Nat)) (pc : Nat) : Bool := hh.all (fun q => !(decide (q.1 ≤ pc) && decide (pc < q.2.1)))
theorem jm_unc_of {hh : List (Nat × Nat × Nat × Nat)} {c : Code} {pc : Nat} (hno : jm_tab c = hh) (h : jm_unc hh pc = true) : ∀ y ∈ c.exceptionTable.toList, covers y pc = false := by
  intro y hy
  have h1 := List.all_eq_true.mp h (y.startPc, y.endPc, y.handlerPc, y.catchType) (by rw [← hno]; exact List.mem_map.mpr ⟨y, hy, rfl⟩)
  simp only [Bool.not_eq_true', Bool.and_eq_false_iff, decide_eq_false_iff_not] at h1
  unfold covers
  simp only [Bool.and_eq_false_iff, decide_eq_false_iff_not]
  exact h1
end
section
/-! THE SMALL MACHINE, 4: calls; a callee that throws ends its caller. -/
def jm_bind (r : Option jm_R) (f : Option Value → jm_X → Option jm_R) : Option jm_R := match r with
  | none => none
  | some (.inl q) => f q.1 q.2
  | some (.inr q) => some (.inr q)
section JC
variable {p : Program} {l : Launch} {e : Env} {R : Room} {s : State} {m : MethodId} {args : Array Value} {below : List Frame} {meth : Method} {c : Code} {T : State} {locs : List Loc} {cells slots : Nat}
/-- from the invocation to the callee's end, whichever it is -/
theorem jm_callee {y : MethodName} {ws : List Cond} {rm : Room} {Pc : Array Value → State → Prop} {Qc : Array Value → State → Outcome → State → Prop} {maxL len : Nat} {ig : Instr}
    (X : Stand p l e R s m args below meth c T locs cells slots) (hM : MetFree l y (headSpec ws rm) Pc (fun _ _ _ _ _ => True) Qc) {a : Array Value} (hws : ∀ w ∈ ws, w.before a T = true) (hcode : ∀ mk, T.methodNamed? y = some mk → ∃ methY cY, T.vm.method? mk = some methY ∧ methY.code = some cY ∧ cY.maxLocals = maxL) (hini : (Cond.initialized y.cls).before a T = true)
    (hfr : rm.frames + 1 ≤ R.frames) (hlo : 8 + (maxL + 11) + rm.locals ≤ R.locals) (hce : cells + rm.cells ≤ R.cells) (hsl : slots + rm.slots ≤ R.slots)
    {g : JFrame} (hg : g.method = m) (hsize : g.locals.size = c.maxLocals) (hdg : decode c.code g.pc = .ok (ig, len)) (hW : 2 * g.monitorRoom + (g.stack.map fun v => v.category).sum ≤ 8) {mk : MethodId} (hn : T.methodNamed? y = some mk) (hP : Pc a (T.calling g mk a)) :
    ∃ o s₂, Steps p.tables e below (doInvoke e (T.setTop g) [] mk a).1 s₂ ∧ Ended s₂ (.java g :: below) o ∧ Qc a (T.calling g mk a) o s₂ := by
  obtain ⟨methY, cY, hmY, hcY, hlY⟩ := hcode mk hn
  obtain ⟨kY, hkY, -⟩ := className_of_methodNamed hn
  have hinitY : kY.init = .initialized := Cond.initialized_spec (findClass_of_methodNamed hn) hkY hini
  have h : At T g.method c below := by rw [hg]; exact X.here
  have happ : (headSpec ws rm).appliesLoose y e.platform (T.calling g mk a) = true :=
    Spec.appliesLoose_calling (g := g) h hdg hn hkY hinitY (X.room_calling (g := g) (R' := rm) hsize hmY hcY hfr (by rw [hlY]; omega) hce hsl) (atoms_intro hws)
  have hfr2 : (T.setTop g).frames = [.java g] ++ below := by rw [State.frames_setTop' g h.top, X.tail]; rfl
  obtain ⟨o, s₂, hsteps, -, hend, hq⟩ := Jvm.Free.Steps.callFree hM p X.admits X.cas X.clock (acts := []) hfr2 happ hP trivial
  refine ⟨o, s₂, hsteps, ?_, hq⟩
  rw [hfr2] at hend
  exact hend
end JC
theorem jm_S_w {A B : Nat → Prop} {H0 H : Heap} {locs : List Loc} (h : va_S A H0 H locs) (hAB : ∀ q, A q → B q) : va_S B H0 H locs := ⟨h.1, fun q h1 h2 => h.2.1 q h1 (fun z => h2 (hAB q z)), fun q hq => hAB _ (h.2.2 q hq)⟩
/-- behind a callee: what has changed since the caller began -/
theorem jm_S_call {P : jm_P} {s u t : State} {H : Heap} {locs L : List Loc} (hS : va_S (jm_AA P s) s.heap H locs) (hu : u.heap = H) (hF : va_F (jm_AA P u) u t) (hL : ∀ q ∈ L, jm_AA P u q.base) : va_S (jm_AA P s) s.heap t.heap (locs ++ L) := by
  have hm : ∀ q, jm_AA P u q → jm_AA P s q := jm_A_mono (by rw [hu]; exact hS.1)
  refine ⟨Nat.le_trans hS.1 (by rw [← hu]; exact hF.1), fun q h1 h2 => ?_, fun q hq => ?_⟩
  · rw [hF.2 q (by rw [hu]; exact Nat.lt_of_lt_of_le h1 hS.1) (fun z => h2 (hm q z)), hu]
    exact hS.2.1 q h1 h2
  · rcases List.mem_append.mp hq with h | h
    · exact hS.2.2 q h
    · exact hm _ (hL q h)
/-- the invoking instruction at pc leads to the callee -/
def jm_Inv (P : jm_P) (M y : jm_M) (pc : Nat) (av rest : List Value) (x : jm_X) : Prop :=
  ∃ ig : Instr, decode M.2.1 pc = .ok (ig, 3) ∧ ∀ (p : Program) (e : Env) (R : Room) (s : State) (m : MethodId) (args : Array Value) (below : List Frame) (meth : Method) (c : Code) (T : State) (locs : List Loc) (cells slots : Nat) (la : Array Slot),
    jm_C P M p s m meth c → la.size = M.2.2.1 → va_P (jm_d P) (jm_c P) (jm_w P x) T.heap → va_S (jm_AA P s) s.heap T.heap locs → Stand p (jm_l P) e R s m args below meth c T locs cells slots →
    ∃ (vm₁ : Vm) (mk : MethodId), Stand p (jm_l P) e R s m args below meth c (T.setVm vm₁) locs cells slots ∧ s.methodNamed? y.1 = some mk ∧
      ∀ target, Steps p.tables e below (doInvoke e ((T.setVm vm₁).setTop (F0 m pc la (jm_st (jm_a P) rest))) [] mk (jm_st (jm_a P) av).toArray).1 target → Steps p.tables e below (T.setTop (F0 m pc la (jm_st (jm_a P) (av.reverse ++ rest)))) target
theorem jm_V.call {P : jm_P} {M y : jm_M} {d pc : Nat} {ls : List (Nat × Value)} {av rest : List Value} {x : jm_X} {r0 : Option jm_R} {f : Option Value → jm_X → Option jm_R} (hok : jm_Ok P) (hcon : jm_Con P y d av x r0) (hinv : jm_Inv P M y pc av rest x)
    (hy : jm_cw y ∈ jm_t P) (hini : Cond.initialized y.1.cls ∈ jm_t P) (hnl : y.2.2.1 ≤ 21) (hcat : (rest.map fun v => v.category).sum ≤ 8)
    (k : ∀ v x', jm_V P M (d + 1) (pc + 3) ls (v.toList ++ rest) x' (f v x')) (hu : jm_unc M.2.2.2.2 pc = true := by rfl) : jm_V P M (d + 1) pc ls (av.reverse ++ rest) x (jm_bind r0 f) := by
  intro q hq p e s m args below meth c H locs la hC hl hP hS T hT X
  obtain ⟨hx, hb, hml, hret, hlocks, hown, hno, hG⟩ := id hC
  subst hT
  cases r0 with
  | none => cases hq
  | some q0 =>
    obtain ⟨ig, hdg, hgo⟩ := hinv
    obtain ⟨vm₁, mk, X₁, hn, hstep⟩ := hgo p e (jm_room (d + 1)) s m args below meth c T locs 0 0 la hC hl.1 hP hS X
    have hz : jm_b P ≤ T.heap.size := Nat.le_trans hG.2.2.2.2.2.1 hS.1
    have hold : ∀ q, q < jm_b P → T.heap[q]? = s.heap[q]? := fun q h1 => hS.2.1 q (Nat.lt_of_lt_of_le h1 hG.2.2.2.2.2.1) (jm_A_old hok hG.2.2.2.2.2.1 h1)
    have hG1 : jm_G P (T.setVm vm₁) := hG.moved hok X₁.warmed hz hold
    have hcs : ((jm_st (jm_a P) rest).map fun v => v.category).sum ≤ 8 := by
      have : (jm_st (jm_a P) rest).map (fun v => v.category) = rest.map (fun v => v.category) := by
        simp only [jm_st, List.map_map]
        apply List.map_congr_left
        intro v _
        exact jm_cv_cat _ v
      rw [this]; exact hcat
    obtain ⟨o, s₂, hsteps, hend, hpost⟩ := jm_callee X₁ (hcon q0 rfl) (a := (jm_st (jm_a P) av).toArray) (maxL := y.2.2.1) (ig := ig) (len := 3) (g := F0 m pc la (jm_st (jm_a P) rest)) (fun w hw => by
        rw [List.mem_singleton.mp hw]; exact hG1.1 _ hy _) (fun mk2 hn2 => by
        obtain ⟨m', meth', c', hn', h1', h2', -, h4', -⟩ := jm_cw_spec (hG1.1 _ hy #[])
        cases hn2.symm.trans hn'
        exact ⟨meth', c', h1', h2', h4'⟩) (hG1.1 _ hini _) (Nat.le_refl _) (by show 8 + (y.2.2.1 + 11) + 40 * d ≤ 40 * (d + 1); omega) (Nat.le_refl _) (Nat.le_refl _) rfl (by show la.size = _; rw [hl.1]; exact hml.symm) (by rw [hb]; exact hdg)
        (by show 2 * 0 + ((jm_st (jm_a P) rest).map fun v => v.category).sum ≤ 8; omega) (X₁.named hn) ⟨rfl, hG.moved hok (U := (T.setVm vm₁).calling (F0 m pc la (jm_st (jm_a P) rest)) mk (jm_st (jm_a P) av).toArray) X₁.warmed hz hold, hP⟩
    cases q0 with
    | inl z =>
      obtain ⟨v, x'⟩ := z
      obtain ⟨rfl, hP', L, hW', hsame, hL, hF⟩ := hpost
      obtain ⟨T', X', -, -, ht⟩ := X₁.outOf (g := F0 m pc la (jm_st (jm_a P) rest)) rfl (ig := ig) (len := 3) (by rw [hb]; exact hdg) hend hW' hsame
      have hth : T'.heap = s₂.heap := by rw [ht]; rfl
      have hS' := jm_S_call (P := P) hS (u := (T.setVm vm₁).calling (F0 m pc la (jm_st (jm_a P) rest)) mk (jm_st (jm_a P) av).toArray) rfl hF hL
      obtain ⟨t, a1, b1⟩ := k v x' q hq p e s m args below meth c T'.heap (locs ++ L) la hC hl (by rw [hth]; exact hP') (by rw [hth]; exact hS') T' rfl X'
      refine ⟨t, hstep t (hsteps.trans ?_), b1⟩
      rw [ht]
      have e1 : jm_st (jm_a P) (v.toList ++ rest) = (v.map (jm_cv (jm_a P))).toList ++ jm_st (jm_a P) rest := by cases v <;> simp [jm_st]
      rw [e1] at a1
      exact a1
    | inr z =>
      obtain ⟨ec, x'⟩ := z
      cases hq
      obtain ⟨⟨a, rfl, hexc⟩, hP', L, hW', hsame, hL, hF⟩ := hpost
      obtain ⟨T', X', -, -, ht⟩ := X₁.outOfThrown (g := F0 m pc la (jm_st (jm_a P) rest)) rfl hend hW' hsame
      have hth : T'.heap = s₂.heap := by rw [ht]; rfl
      have htv : T'.vm = s₂.vm := by rw [ht]; rfl
      have hS' := jm_S_call (P := P) hS (u := (T.setVm vm₁).calling (F0 m pc la (jm_st (jm_a P) rest)) mk (jm_st (jm_a P) av).toArray) rfl hF hL
      obtain ⟨st1, hrun, hended, hW2, hsame2⟩ := X'.leaveThrown a (g := F0 m pc la (jm_st (jm_a P) rest)) rfl rfl rfl (jm_unc_of hno hu) hlocks
      refine ⟨_, hstep _ (hsteps.trans (by rw [ht]; exact st1)), .threw a, hrun, hended, ⟨a, rfl, ?_⟩, ?_, ?_⟩
      · obtain ⟨cell, c1, c2, c3, c4⟩ := hexc
        exact ⟨cell, by show T'.heap[a]? = _; rw [hth]; exact c1, c2, by show T'.vm.findClass _ = _; rw [htv]; exact c3, by show ∃ k, T'.vm.classes[_]? = _; rw [htv]; exact c4⟩
      · show va_P _ _ _ T'.heap
        rw [hth]; exact hP'
      · refine jm_end_of (H := s₂.heap) hS' hth hW2 ?_
        simpa using hsame2
end
section
/-! THE SMALL MACHINE, 5: the invoking instructions. -/
theorem jm_st_rev (ad : Nat → Nat) (as rest : List Value) : jm_st ad (as.reverse ++ rest) = (jm_st ad as).reverse ++ jm_st ad rest := by simp [jm_st]
theorem jm_st_rev1 (ad : Nat → Nat) (o : Nat) (as rest : List Value) : jm_st ad ((Value.ref o :: as).reverse ++ rest) = (jm_st ad as).reverse ++ Value.ref (ad o) :: jm_st ad rest := by simp [jm_st, jm_cv]
theorem jm_Inv.virt {P : jm_P} {M y : jm_M} {pc idx o : Nat} {as rest : List Value} {x : jm_X} {C : String} (hd : decode M.2.1 pc = .ok (.invokevirtual idx, 3)) (hlink : Cond.methodLink M.1.cls idx y.1 ∈ jm_t P ∨ ∃ host, (M.1.cls, idx, y.1, host) ∈ jm_mn P)
    (hin : Cond.instanceMethod y.1 ∈ jm_t P) (hsel : Cond.selects C y.1 y.1 ∈ jm_t P) (hcw : jm_cw y ∈ jm_t P) (hy : y.1.cls ≠ "java/lang/invoke/MethodHandle" ∧ y.1.cls ≠ "java/lang/invoke/VarHandle") (hlen : (parseMethodDescriptor y.1.desc).map (fun q => q.parameters.length) = some as.length)
    (hrecv : ∀ (s : State) (H : Heap) (locs : List Loc), jm_G P s → va_P (jm_d P) (jm_c P) (jm_w P x) H → va_S (jm_AA P s) s.heap H locs → ∃ cell : Cell, H[jm_a P o]? = some cell ∧ cell.vm.isStatics = false ∧ s.vm.findClass C = some cell.cls) : jm_Inv P M y pc (.ref o :: as) rest x := by
  refine ⟨_, hd, ?_⟩
  intro p e R s m args below meth c T locs cells slots la hC hla hP hS X
  obtain ⟨hx, hb, hml, hret, hlocks, hown, hno, hG⟩ := hC
  obtain ⟨mk, methM, hnamed, hmethM, hstM, habM⟩ := Cond.instanceMethod_spec (hG.1 _ hin args)
  obtain ⟨mk', methM', cM, hnamed', hmethM', -, -, -, -, -, -, hsigM⟩ := jm_cw_spec (hG.1 _ hcw args)
  cases hnamed.symm.trans hnamed'
  cases hmethM.symm.trans hmethM'
  obtain ⟨c2, r2, m2, q1, q2, q3, q4, kP, hkP, hkPi⟩ := Cond.selects_spec (hG.1 _ hsel args)
  obtain ⟨cellB, hcB, hoB, hclB⟩ := hrecv s T.heap locs hG hP hS
  cases hclB.symm.trans q1
  cases (State.methodFound?_of_named hnamed hy).symm.trans q2
  cases hnamed.symm.trans q3
  have hselP : selectMethod e.platform s.vm cellB.cls mk = .method mk := by rw [Launch.admits_selectMethod X.admits]; exact q4
  have hl2 : (jm_st (jm_a P) as).length = methM.sig.parameters.length := by
    rw [hsigM] at hlen
    simp [jm_st]
    exact (Option.some.inj hlen).symm
  rcases hlink with hlink | ⟨host, hlink⟩
  · obtain ⟨vm₁, X₁, hstep⟩ := X.invokevirtual hx hown (hG.1 _ hlink args) hnamed hmethM hstM hkP hkPi hy (a := jm_a P o) (cell := cellB) hcB (fun z h => by rw [h] at hoB; cases hoB) hselP hmethM habM hkP hkPi
      (g := F0 m pc la (jm_st (jm_a P) ((Value.ref o :: as).reverse ++ rest))) rfl (argsL := jm_st (jm_a P) as) (rest := jm_st (jm_a P) rest) hl2 (jm_st_rev1 _ _ _ _) (by rw [hb]; exact hd)
    exact ⟨vm₁, mk, X₁, hnamed, fun target h => hstep target (fun acts => by rw [doInvoke_state]; exact h)⟩
  · obtain ⟨vm₁, X₁, hstep⟩ := X.invokevirtualNest hx hown (va_Nw.use rfl (hG.2.2.1 _ hlink)) hnamed hmethM hstM hkP hkPi hy (a := jm_a P o) (cell := cellB) hcB (fun z h => by rw [h] at hoB; cases hoB) hselP hmethM habM hkP hkPi
      (g := F0 m pc la (jm_st (jm_a P) ((Value.ref o :: as).reverse ++ rest))) rfl (argsL := jm_st (jm_a P) as) (rest := jm_st (jm_a P) rest) hl2 (jm_st_rev1 _ _ _ _) (by rw [hb]; exact hd)
    exact ⟨vm₁, mk, X₁, hnamed, fun target h => hstep target (fun acts => by rw [doInvoke_state]; exact h)⟩
/-- on an object of the world -/
theorem jm_Inv.obj {P : jm_P} {M y : jm_M} {pc idx o ci : Nat} {as rest : List Value} {x : jm_X} {q : vw_C} {fs : List Nat} (hd : decode M.2.1 pc = .ok (.invokevirtual idx, 3)) (hlink : Cond.methodLink M.1.cls idx y.1 ∈ jm_t P ∨ ∃ host, (M.1.cls, idx, y.1, host) ∈ jm_mn P)
    (hin : Cond.instanceMethod y.1 ∈ jm_t P) (hsel : Cond.selects q.1 y.1 y.1 ∈ jm_t P) (hcw : jm_cw y ∈ jm_t P) (hy : y.1.cls ≠ "java/lang/invoke/MethodHandle" ∧ y.1.cls ≠ "java/lang/invoke/VarHandle") (hlen : (parseMethodDescriptor y.1.desc).map (fun q => q.parameters.length) = some as.length)
    (hs : (jm_h P)[o]? = some (.inr (.inr (ci, fs)))) (hc : (jm_c P)[ci]? = some q) : jm_Inv P M y pc (.ref o :: as) rest x :=
  jm_Inv.virt hd hlink hin hsel hcw hy hlen (fun _ _ _ hG hP _ => va_recv hG.2.2.2.1 hP hc (jm_wl_at hs))
theorem jm_Inv.stat {P : jm_P} {M y : jm_M} {pc idx : Nat} {as rest : List Value} {x : jm_X} (hd : decode M.2.1 pc = .ok (.invokestatic idx, 3)) (hlink : Cond.methodLink M.1.cls idx y.1 ∈ jm_t P ∨ ∃ host, (M.1.cls, idx, y.1, host) ∈ jm_mn P)
    (hst : Cond.static y.1 ∈ jm_t P) (hini : Cond.initialized y.1.cls ∈ jm_t P) (hcw : jm_cw y ∈ jm_t P) (hy : y.1.cls ≠ "java/lang/invoke/MethodHandle" ∧ y.1.cls ≠ "java/lang/invoke/VarHandle") (hlen : (parseMethodDescriptor y.1.desc).map (fun q => q.parameters.length) = some as.length) : jm_Inv P M y pc as rest x := by
  refine ⟨_, hd, ?_⟩
  intro p e R s m args below meth c T locs cells slots la hC hla hP hS X
  obtain ⟨hx, hb, hml, hret, hlocks, hown, hno, hG⟩ := hC
  obtain ⟨mk, methM, cM, hnamed, hmethM, -, -, -, -, -, -, hsigM⟩ := jm_cw_spec (hG.1 _ hcw args)
  have hstatic : methM.isStatic = true := Cond.static_spec hnamed hmethM (hG.1 _ hst args)
  obtain ⟨kP, hkP, -⟩ := className_of_methodNamed hnamed
  have hinitP : kP.init = .initialized := Cond.initialized_spec (findClass_of_methodNamed hnamed) hkP (hG.1 _ hini args)
  have hl2 : (jm_st (jm_a P) as).length = methM.sig.parameters.length := by
    rw [hsigM] at hlen
    simp [jm_st]
    exact (Option.some.inj hlen).symm
  rcases hlink with hlink | ⟨host, hlink⟩
  · obtain ⟨vm₁, X₁, hstep⟩ := X.invokestatic hx hown (hG.1 _ hlink args) hnamed hmethM hstatic hkP hinitP hy (g := F0 m pc la (jm_st (jm_a P) (as.reverse ++ rest))) rfl (argsL := jm_st (jm_a P) as) (rest := jm_st (jm_a P) rest) hl2 (jm_st_rev _ _ _) (by rw [hb]; exact hd)
    exact ⟨vm₁, mk, X₁, hnamed, fun target h => hstep target (fun acts => by rw [doInvoke_state]; exact h)⟩
  · obtain ⟨vm₁, X₁, hstep⟩ := X.invokestaticNest hx hown (va_Nw.use rfl (hG.2.2.1 _ hlink)) hnamed hmethM hstatic hkP hinitP hy (g := F0 m pc la (jm_st (jm_a P) (as.reverse ++ rest))) rfl (argsL := jm_st (jm_a P) as) (rest := jm_st (jm_a P) rest) hl2 (jm_st_rev _ _ _) (by rw [hb]; exact hd)
    exact ⟨vm₁, mk, X₁, hnamed, fun target h => hstep target (fun acts => by rw [doInvoke_state]; exact h)⟩
end
section
/-! THE SMALL MACHINE, 6: fields, constants, arrays. -/
abbrev jm_T : Type := List (Nat × Nat × Nat) × List (Nat × Value) × List (Nat × Value)
def jm_lkp {α : Type} : List (Nat × α) → Nat → Option α
  | [], _ => none
  | q :: r, i => if q.1 = i then some q.2 else jm_lkp r i
theorem jm_lkp_mem {α : Type} : ∀ {l : List (Nat × α)} {i : Nat} {v : α}, jm_lkp l i = some v → (i, v) ∈ l
  | [], _, _, h => by cases h
  | (k, w) :: r, i, v, h => by
    unfold jm_lkp at h
    by_cases hk : k = i
    · rw [if_pos hk] at h
      cases h
      subst hk
      exact List.mem_cons_self
    · rw [if_neg hk] at h
      exact List.mem_cons_of_mem _ (jm_lkp_mem h)
def jm_fq (x : jm_X) (o k : Nat) : Nat → Value
  | 0 => .int (x.1 (jm_key o k))
  | 1 => .ref (x.2.1 (jm_key o k))
  | n + 2 => .ref n
theorem jm_fq_cv (ad : Nat → Nat) (x : jm_X) (o k : Nat) : ∀ fd : Nat, jm_cv ad (jm_fq x o k fd) = jm_fv ad x o k fd
  | 0 => rfl
  | 1 => rfl
  | _ + 2 => rfl
def jm_gf (sh : List jm_S) (x : jm_X) (ci k o : Nat) : Option Value := match sh[o]? with
  | some (.inr (.inr q)) => if q.1 = ci then (q.2[k]?).map (jm_fq x o k) else none
  | _ => none
def jm_pf (sh : List jm_S) (x : jm_X) (ci k o : Nat) (v : Value) : Option jm_X := match sh[o]?, v with
  | some (.inr (.inr q)), .int w => if q.1 = ci then (if q.2[k]? = some 0 then some (va_up x.1 (jm_key o k) w, x.2) else none) else none
  | some (.inr (.inr q)), .ref w => if q.1 = ci then (if q.2[k]? = some 1 then some (x.1, va_up x.2.1 (jm_key o k) w, x.2.2) else none) else none
  | _, _ => none
/-- the field's place in its class; how the class links it -/
def jm_FOk (P : jm_P) (own : String) (idx ci k : Nat) : Prop := ∃ (C : String) (T : u_T) (N : Nat) (ty : Nat → FieldType), (jm_c P)[ci]? = some (C, T, N) ∧ k < N ∧ (T k).1 = C ∧ (∀ w ∈ u_ws C T N, w ∈ jm_t P) ∧
  (∀ k, k < N → parseFieldDescriptor (T k).2.2.1 = some (ty k)) ∧ (∀ a, a < N → ∀ b, b < N → a ≠ b → (T a).2.1 ≠ (T b).2.1) ∧ (Cond.fieldLink own idx C (T k).2.1 (T k).2.2.1 ∈ jm_t P ∨ ∃ host, (own, idx, C, (T k).2.1, (T k).2.2.1, host) ∈ jm_fn P) ∧
  (∀ (o : Nat) (fs : List Nat), (jm_h P)[o]? = some (.inr (.inr (ci, fs))) → (fs[k]? = some 0 → ty k = .int ∧ (T k).2.2.2 = false) ∧ (fs[k]? = some 1 → (∃ t, ty k = .object t ∨ ∃ u, ty k = .array u) ∧ (T k).2.2.2 = false))
def jm_SOk (P : jm_P) (own : String) (idx : Nat) (v : Value) : Prop := ∃ C n dsc : String, Cond.fieldLink own idx C n dsc ∈ jm_t P ∧ ∀ (s : State) (H : Heap), jm_sg P s H → va_Z C n dsc (jm_cv (jm_a P) v) (fun q => jm_b P ≤ q) s H
def jm_LOk (P : jm_P) (own : String) (idx : Nat) (v : Value) : Prop := (∃ n : Int32, v = .int n ∧ Cond.constant own idx n ∈ jm_t P) ∨ ∃ n : Int64, v = .long n ∧ Cond.constantLong own idx n ∈ jm_t P
def jm_TOk (P : jm_P) (own : String) (T : jm_T) : Prop := (∀ q ∈ T.1, jm_FOk P own q.1 q.2.1 q.2.2) ∧ (∀ q ∈ T.2.1, jm_SOk P own q.1 q.2) ∧ (∀ q ∈ T.2.2, jm_LOk P own q.1 q.2)
def jm_g (sh : List jm_S) (T : jm_T) (nL : Nat) (i : Instr) (len pc : Nat) (ls : List (Nat × Value)) (st : List Value) (x : jm_X) : Option (jm_F × jm_X) := match i, len, st with
  | .getfield idx, 3, .ref o :: r => match jm_lkp T.1 idx with
    | some q => match jm_gf sh x q.1 q.2 o with
      | some v => some ((pc + 3, ls, v :: r), x)
      | none => none
    | none => none
  | .putfield idx, 3, v :: .ref o :: r => match jm_lkp T.1 idx with
    | some q => match jm_pf sh x q.1 q.2 o v with
      | some x' => some ((pc + 3, ls, r), x')
      | none => none
    | none => none
  | .getstatic idx, 3, st => match jm_lkp T.2.1 idx with
    | some v => some ((pc + 3, ls, v :: st), x)
    | none => none
  | .ldc idx, 2, st => match jm_lkp T.2.2 idx with
    | some (.int v) => some ((pc + 2, ls, .int v :: st), x)
    | _ => none
  | .ldc2_w idx, 3, st => match jm_lkp T.2.2 idx with
    | some (.long v) => some ((pc + 3, ls, .long v :: st), x)
    | _ => none
  | i, len, st => match jm_f nL i len pc ls st with
    | some q => some (q, x)
    | none => none
section JG
variable {P : jm_P} {M : jm_M} {d pc pc' len idx : Nat} {ls ls' : List (Nat × Value)} {st st' : List Value} {x x' : jm_X} {r : Option jm_R} {i : Instr}
theorem jm_V.frame (hd : decode M.2.1 pc = .ok (i, len)) (h : jm_f M.2.2.1 i len pc ls st = some (pc', ls', st')) (k : jm_V P M d pc' ls' st' x r) : jm_V P M d pc ls st x r := by
  intro q hq p e s m args below meth c H locs la hC hl hP hS
  exact jm_f_ok hC.1 hC.2.1 hd h hl (fun la' hl' => k q hq p e s m args below meth c H locs la' hC hl' hP hS)
theorem jm_V.getf {o ci k : Nat} {v : Value} (hF : jm_FOk P M.1.cls idx ci k) (hv : jm_gf (jm_h P) x ci k o = some v) (hd : decode M.2.1 pc = .ok (.getfield idx, 3)) (kk : jm_V P M d (pc + 3) ls (v :: st) x r) : jm_V P M d pc ls (.ref o :: st) x r := by
  intro q hq p e s m args below meth c H locs la hC hl hP hS
  obtain ⟨hx, hb, hml, hret, hlocks, hown, hno, hG⟩ := id hC
  obtain ⟨C, T, N, ty, h1, h2, h3, h4, h5, h6, h7, h8⟩ := hF
  unfold jm_gf at hv
  split at hv
  · rename_i q1 hs
    split at hv
    · rename_i hci
      obtain ⟨ci', fs⟩ := q1
      subst hci
      have hv2 : (fs.mapIdx (fun k fd => jm_fv (jm_a P) x o k fd))[k]? = some (jm_cv (jm_a P) v) := by
        rw [jm_fs_get]
        cases hfk : fs[k]? with
        | none => rw [hfk] at hv; cases hv
        | some fd => rw [hfk] at hv; cases hv; simp only [Option.map_some]; rw [jm_fq_cv]
      have kk2 := kk q hq p e s m args below meth c H locs la hC hl hP hS
      rcases h7 with h7 | ⟨host, h7⟩
      · exact va_get (D := jm_d P) (cl := jm_c P) (tys := []) (ws := jm_w P x) (C := C) (T := T) (N := N) (ref := C) hx hb (fun w hw => hG.1 w hw args) h4 hown hG.2.2.2.1 hP o (jm_wl_at hs) h1 k h2 (hG.1 _ h7 args) (fun y hy => by rw [h3] at hy; exact hy) hv2 hd kk2
      · exact va_getN (D := jm_d P) (cl := jm_c P) (tys := []) (ws := jm_w P x) (C := C) (T := T) (N := N) (ref := C) (host := host) hx hb (fun w hw => hG.1 w hw args) h4 hown hG.2.2.2.1 hP o (jm_wl_at hs) h1 k h2 (va_Nw.use rfl (hG.2.1 _ h7)) (fun y hy => by rw [h3] at hy; exact hy) hv2 hd kk2
    · cases hv
  · cases hv
theorem jm_V.putf {o ci k : Nat} {v : Value} (hok : jm_Ok P) (hF : jm_FOk P M.1.cls idx ci k) (hv : jm_pf (jm_h P) x ci k o v = some x') (hd : decode M.2.1 pc = .ok (.putfield idx, 3)) (kk : jm_V P M d (pc + 3) ls st x' r) : jm_V P M d pc ls (v :: .ref o :: st) x r := by
  intro q hq p e s m args below meth c H locs la hC hl hP hS
  obtain ⟨hx, hb, hml, hret, hlocks, hown, hno, hG⟩ := id hC
  obtain ⟨C, T, N, ty, h1, h2, h3, h4, h5, h6, h7, h8⟩ := hF
  have hD : va_D (jm_AA P s) (jm_w P x) := jm_D hok.2.2.1
  have kk2 := fun H1 locs1 hP1 hS1 => kk q hq p e s m args below meth c H1 locs1 la hC hl hP1 hS1
  unfold jm_pf at hv
  split at hv
  · rename_i q1 w hs
    obtain ⟨ci', fs⟩ := q1
    split at hv
    · rename_i hci
      split at hv
      · rename_i hf
        cases hv
        dsimp only at hci hf
        subst hci
        have e1 := jm_set_int (ad := jm_a P) (aC := jm_k P) (x := x) hok.2.1 hs hf w
        obtain ⟨hty, hfin⟩ := (h8 o fs hs).1 hf
        have hl2 : k < (fs.mapIdx (fun k fd => jm_fv (jm_a P) x o k fd)).length := by simpa using (List.getElem?_eq_some_iff.mp hf).1
        have hpt : parseFieldDescriptor (T k).2.2.1 = some .int := by rw [h5 k h2, hty]
        have K : ∀ (H1 : Heap) (locs1 : List Loc), va_P (jm_d P) (jm_c P) ((jm_w P x).set o (jm_a P o, .inr (ci', (fs.mapIdx (fun k fd => jm_fv (jm_a P) x o k fd)).set k (.int w)))) H1 → va_D (jm_AA P s) ((jm_w P x).set o (jm_a P o, .inr (ci', (fs.mapIdx (fun k fd => jm_fv (jm_a P) x o k fd)).set k (.int w)))) → va_S (jm_AA P s) s.heap H1 locs1 → W p (jm_l P) e (jm_room d) s m args below meth c H1 locs1 0 0 (jm_Q P below q s) (F0 m (pc + 3) la (jm_st (jm_a P) st)) :=
          fun H1 locs1 hP1 _ hS1 => kk2 H1 locs1 (by show va_P _ _ (jm_wl _ _ _ _) H1; rw [e1]; exact hP1) hS1
        rcases h7 with h7 | ⟨host, h7⟩
        · exact va_put (D := jm_d P) (cl := jm_c P) (tys := []) (C := C) (T := T) (N := N) (ref := C) (v := .int w) hx hb (fun w hw => hG.1 w hw args) h4 ty h5 h6 hown hG.2.2.2.1 hP hD hS o (jm_wl_at hs) h1 k h2 (hG.1 _ h7 args) (fun y hy => by rw [h3] at hy; exact hy) hfin hpt rfl rfl hl2 hd K
        · exact va_putN (D := jm_d P) (cl := jm_c P) (tys := []) (C := C) (T := T) (N := N) (ref := C) (host := host) (v := .int w) hx hb (fun w hw => hG.1 w hw args) h4 ty h5 h6 hown hG.2.2.2.1 hP hD hS o (jm_wl_at hs) h1 k h2 (va_Nw.use rfl (hG.2.1 _ h7)) (fun y hy => by rw [h3] at hy; exact hy) hfin hpt rfl rfl hl2 hd K
      · cases hv
    · cases hv
  · rename_i q1 w hs
    obtain ⟨ci', fs⟩ := q1
    split at hv
    · rename_i hci
      split at hv
      · rename_i hf
        cases hv
        dsimp only at hci hf
        subst hci
        have e1 := jm_set_ref (ad := jm_a P) (aC := jm_k P) (x := x) hok.2.1 hs hf w
        obtain ⟨hty, hfin⟩ := (h8 o fs hs).2 hf
        have hl2 : k < (fs.mapIdx (fun k fd => jm_fv (jm_a P) x o k fd)).length := by simpa using (List.getElem?_eq_some_iff.mp hf).1
        have hnf : narrow (ty k) (.ref (jm_a P w)) = .ref (jm_a P w) ∧ fits (ty k) (.ref (jm_a P w)) = true := by
          obtain ⟨t, h | ⟨u, h⟩⟩ := hty <;> rw [h] <;> exact ⟨rfl, rfl⟩
        have K : ∀ (H1 : Heap) (locs1 : List Loc), va_P (jm_d P) (jm_c P) ((jm_w P x).set o (jm_a P o, .inr (ci', (fs.mapIdx (fun k fd => jm_fv (jm_a P) x o k fd)).set k (.ref (jm_a P w))))) H1 → va_D (jm_AA P s) ((jm_w P x).set o (jm_a P o, .inr (ci', (fs.mapIdx (fun k fd => jm_fv (jm_a P) x o k fd)).set k (.ref (jm_a P w))))) → va_S (jm_AA P s) s.heap H1 locs1 → W p (jm_l P) e (jm_room d) s m args below meth c H1 locs1 0 0 (jm_Q P below q s) (F0 m (pc + 3) la (jm_st (jm_a P) st)) :=
          fun H1 locs1 hP1 _ hS1 => kk2 H1 locs1 (by show va_P _ _ (jm_wl _ _ _ _) H1; rw [e1]; exact hP1) hS1
        rcases h7 with h7 | ⟨host, h7⟩
        · exact va_put (D := jm_d P) (cl := jm_c P) (tys := []) (C := C) (T := T) (N := N) (ref := C) (v := .ref (jm_a P w)) hx hb (fun w hw => hG.1 w hw args) h4 ty h5 h6 hown hG.2.2.2.1 hP hD hS o (jm_wl_at hs) h1 k h2 (hG.1 _ h7 args) (fun y hy => by rw [h3] at hy; exact hy) hfin (h5 k h2) hnf.1 hnf.2 hl2 hd K
        · exact va_putN (D := jm_d P) (cl := jm_c P) (tys := []) (C := C) (T := T) (N := N) (ref := C) (host := host) (v := .ref (jm_a P w)) hx hb (fun w hw => hG.1 w hw args) h4 ty h5 h6 hown hG.2.2.2.1 hP hD hS o (jm_wl_at hs) h1 k h2 (va_Nw.use rfl (hG.2.1 _ h7)) (fun y hy => by rw [h3] at hy; exact hy) hfin (h5 k h2) hnf.1 hnf.2 hl2 hd K
      · cases hv
    · cases hv
  · cases hv
theorem jm_AA_b (hok : jm_Ok P) {s : State} (hG : jm_G P s) : ∀ q, jm_AA P s q → jm_b P ≤ q := by
  rintro q (⟨k, h1, rfl⟩ | h)
  · exact hok.2.2.2.1 k h1
  · exact Nat.le_trans hG.2.2.2.2.2.1 h
theorem jm_V.gets {v : Value} (hok : jm_Ok P) (hF : jm_SOk P M.1.cls idx v) (hd : decode M.2.1 pc = .ok (.getstatic idx, 3)) (kk : jm_V P M d (pc + 3) ls (v :: st) x r) : jm_V P M d pc ls st x r := by
  intro q hq p e s m args below meth c H locs la hC hl hP hS
  obtain ⟨hx, hb, hml, hret, hlocks, hown, hno, hG⟩ := id hC
  obtain ⟨C, n, dsc, h1, h2⟩ := hF
  exact va_gets hx hb (h2 s s.heap hG.2.2.2.2.2.2) (jm_S_w hS (jm_AA_b hok hG)) hown (hG.1 _ h1 args) (fun _ h => h) hd (kk q hq p e s m args below meth c H locs la hC hl hP hS)
theorem jm_V.ldc {v : Int32} (hF : Cond.constant M.1.cls idx v ∈ jm_t P) (hd : decode M.2.1 pc = .ok (.ldc idx, 2)) (kk : jm_V P M d (pc + 2) ls (.int v :: st) x r) : jm_V P M d pc ls st x r := by
  intro q hq p e s m args below meth c H locs la hC hl hP hS
  obtain ⟨hx, hb, hml, hret, hlocks, hown, hno, hG⟩ := id hC
  exact lv_ldc hx hb hown (hG.1 _ hF args) hd (kk q hq p e s m args below meth c H locs la hC hl hP hS)
theorem jm_V.ldc2 {v : Int64} (hF : Cond.constantLong M.1.cls idx v ∈ jm_t P) (hd : decode M.2.1 pc = .ok (.ldc2_w idx, 3)) (kk : jm_V P M d (pc + 3) ls (.long v :: st) x r) : jm_V P M d pc ls st x r := by
  intro q hq p e s m args below meth c H locs la hC hl hP hS
  obtain ⟨hx, hb, hml, hret, hlocks, hown, hno, hG⟩ := id hC
  exact lv_ldc2 hx hb hown (hG.1 _ hF args) hd (kk q hq p e s m args below meth c H locs la hC hl hP hS)
theorem jm_V.one {T : jm_T} (hok : jm_Ok P) (hT : jm_TOk P M.1.cls T) (hd : decode M.2.1 pc = .ok (i, len)) (h : jm_g (jm_h P) T M.2.2.1 i len pc ls st x = some ((pc', ls', st'), x')) (k : jm_V P M d pc' ls' st' x' r) : jm_V P M d pc ls st x r := by
  unfold jm_g at h
  split at h
  · split at h
    · rename_i hi
      split at h
      · rename_i hv; cases h; exact jm_V.getf (hT.1 _ (jm_lkp_mem hi)) hv hd k
      · cases h
    · cases h
  · split at h
    · rename_i hi
      split at h
      · rename_i hv; cases h; exact jm_V.putf hok (hT.1 _ (jm_lkp_mem hi)) hv hd k
      · cases h
    · cases h
  · split at h
    · rename_i hi; cases h; exact jm_V.gets hok (hT.2.1 _ (jm_lkp_mem hi)) hd k
    · cases h
  · split at h
    · rename_i hi
      cases h
      rcases hT.2.2 _ (jm_lkp_mem hi) with ⟨n, h1, h2⟩ | ⟨n, h1, h2⟩
      · cases h1; exact jm_V.ldc h2 hd k
      · cases h1
    · cases h
  · split at h
    · rename_i hi
      cases h
      rcases hT.2.2 _ (jm_lkp_mem hi) with ⟨n, h1, h2⟩ | ⟨n, h1, h2⟩
      · cases h1
      · cases h1; exact jm_V.ldc2 h2 hd k
    · cases h
  · split at h
    · rename_i hi; cases h; exact jm_V.frame hd hi k
    · cases h
end JG
/-- a stretch of instructions, each with its place and its length -/
def jm_x (sh : List jm_S) (T : jm_T) (nL : Nat) : List (Nat × Instr × Nat) → Nat → List (Nat × Value) → List Value → jm_X → Option (jm_F × jm_X)
  | [], pc, ls, st, x => some ((pc, ls, st), x)
  | (p0, i, len) :: is, pc, ls, st, x => if p0 = pc then (match jm_g sh T nL i len pc ls st x with
    | some q => jm_x sh T nL is q.1.1 q.1.2.1 q.1.2.2 q.2
    | none => none) else none
def jm_at (cc : ByteArray) (is : List (Nat × Instr × Nat)) : Bool := is.all (fun q => decide (decode cc q.1 = .ok (q.2.1, q.2.2)))
theorem jm_V.run {P : jm_P} {M : jm_M} {d : Nat} {T : jm_T} {r : Option jm_R} (hok : jm_Ok P) (hT : jm_TOk P M.1.cls T) : ∀ {is : List (Nat × Instr × Nat)} {pc pc' : Nat} {ls ls' : List (Nat × Value)} {st st' : List Value} {x x' : jm_X},
    jm_at M.2.1 is = true → jm_x (jm_h P) T M.2.2.1 is pc ls st x = some ((pc', ls', st'), x') → jm_V P M d pc' ls' st' x' r → jm_V P M d pc ls st x r
  | [], _, _, _, _, _, _, _, _, _, h, k => by cases h; exact k
  | (p0, i, len) :: is, pc, pc', ls, ls', st, st', x, x', ha, h, k => by
    simp only [jm_at, List.all_cons, Bool.and_eq_true, decide_eq_true_eq] at ha
    unfold jm_x at h
    split at h
    · rename_i hp
      subst hp
      split at h
      · rename_i q hq
        obtain ⟨⟨pc1, ls1, st1⟩, x1⟩ := q
        exact jm_V.one hok hT ha.1 hq (jm_V.run hok hT (is := is) ha.2 h k)
      · cases h
    · cases h
/-- a branch: of the place and of the result alike -/
theorem jm_V.ite {P : jm_P} {M : jm_M} {d : Nat} {ls : List (Nat × Value)} {st : List Value} {x : jm_X} {C : Prop} {dc dc2 : Decidable C} {a b : Nat} {r r2 : Option jm_R} (kt : C → jm_V P M d a ls st x r) (kf : ¬ C → jm_V P M d b ls st x r2) : jm_V P M d (@ite _ C dc a b) ls st x (@ite _ C dc2 r r2) := by
  by_cases h : C
  · rw [if_pos h, if_pos h]; exact kt h
  · rw [if_neg h, if_neg h]; exact kf h
/-- an array's index is within, of the kind asked for -/
def jm_in (sh : List jm_S) (o : Nat) (ty : FieldType) (i : Int32) : Bool := match sh[o]? with
  | some (.inl q) => decide (q.1 = ty) && (decide (¬ i < 0) && decide (i.toNatClampNeg < q.2))
  | _ => false
theorem jm_in_of {sh : List jm_S} {o : Nat} {ty : FieldType} {i : Int32} (h : jm_in sh o ty i = true) : ∃ n, sh[o]? = some (.inl (ty, n)) ∧ vp_in i n := by
  unfold jm_in at h
  split at h
  · rename_i q hs
    obtain ⟨t, n⟩ := q
    simp only [Bool.and_eq_true, decide_eq_true_eq] at h
    obtain ⟨rfl, h2, h3⟩ := h
    exact ⟨n, hs, fun z => z.elim h2 (fun z => by omega)⟩
  · cases h
section JA
variable {P : jm_P} {M : jm_M} {d pc : Nat} {ls : List (Nat × Value)} {st : List Value} {x : jm_X} {r : Option jm_R} {o : Nat} {i v : Int32}
theorem jm_K1 {s : State} (hG : jm_G P s) {ty : FieldType} (h : (∃ n, (jm_h P)[o]? = some (.inl (ty, n))) ∨ ∃ C ids, ty = .object C ∧ (jm_h P)[o]? = some (.inr (.inl (C, ids)))) : va_K (jm_d P) (jm_c P) [(jm_k P o, ty)] s :=
  ⟨hG.2.2.2.1.1, fun k q hk => by
    match k, hk with
    | 0, hk => cases hk; exact hG.2.2.2.2.1 o ty h
    | k + 1, hk => simp at hk⟩
theorem jm_V.iald (hd : decode M.2.1 pc = .ok (.iaload, 1)) (k : jm_V P M d (pc + 1) ls (.int (x.2.2 o i.toNatClampNeg) :: st) x r) : jm_V P M d pc ls (.int i :: .ref o :: st) x (if jm_in (jm_h P) o .int i then r else none) := by
  split
  · rename_i h
    obtain ⟨n, hs, hin⟩ := jm_in_of h
    intro q hq p e s m args below meth c H locs la hC hl hP hS
    obtain ⟨hx, hb, hml, hret, hlocks, hown, hno, hG⟩ := id hC
    exact va_iald hx hb (jm_K1 hG (Or.inl ⟨n, hs⟩)) hP o 0 (jm_wl_at hs) rfl hin hd (k q hq p e s m args below meth c H locs la hC hl hP hS)
  · exact jm_V.stuck
theorem jm_V.bald (hd : decode M.2.1 pc = .ok (.baload, 1)) (k : jm_V P M d (pc + 1) ls (.int (x.2.2 o i.toNatClampNeg) :: st) x r) : jm_V P M d pc ls (.int i :: .ref o :: st) x (if jm_in (jm_h P) o .byte i then r else none) := by
  split
  · rename_i h
    obtain ⟨n, hs, hin⟩ := jm_in_of h
    intro q hq p e s m args below meth c H locs la hC hl hP hS
    obtain ⟨hx, hb, hml, hret, hlocks, hown, hno, hG⟩ := id hC
    exact va_bald hx hb (jm_K1 hG (Or.inl ⟨n, hs⟩)) hP o 0 (jm_wl_at hs) rfl hin hd (k q hq p e s m args below meth c H locs la hC hl hP hS)
  · exact jm_V.stuck
theorem jm_V.zald (hd : decode M.2.1 pc = .ok (.baload, 1)) (k : jm_V P M d (pc + 1) ls (.int (x.2.2 o i.toNatClampNeg) :: st) x r) : jm_V P M d pc ls (.int i :: .ref o :: st) x (if jm_in (jm_h P) o .boolean i then r else none) := by
  split
  · rename_i h
    obtain ⟨n, hs, hin⟩ := jm_in_of h
    intro q hq p e s m args below meth c H locs la hC hl hP hS
    obtain ⟨hx, hb, hml, hret, hlocks, hown, hno, hG⟩ := id hC
    exact va_zald hx hb (jm_K1 hG (Or.inl ⟨n, hs⟩)) hP o 0 (jm_wl_at hs) rfl hin hd (k q hq p e s m args below meth c H locs la hC hl hP hS)
  · exact jm_V.stuck
abbrev jm_ua (x : jm_X) (o : Nat) (i v : Int32) : jm_X := (x.1, x.2.1, va_up x.2.2 o (upd (x.2.2 o) i.toNatClampNeg v))
theorem jm_V.iast (hok : jm_Ok P) (hd : decode M.2.1 pc = .ok (.iastore, 1)) (k : jm_V P M d (pc + 1) ls st (jm_ua x o i v) r) : jm_V P M d pc ls (.int v :: .int i :: .ref o :: st) x (if jm_in (jm_h P) o .int i then r else none) := by
  split
  · rename_i h
    obtain ⟨n, hs, hin⟩ := jm_in_of h
    intro q hq p e s m args below meth c H locs la hC hl hP hS
    obtain ⟨hx, hb, hml, hret, hlocks, hown, hno, hG⟩ := id hC
    exact va_iast hx hb (jm_K1 hG (Or.inl ⟨n, hs⟩)) hP (jm_D hok.2.2.1) hS o 0 (jm_wl_at hs) rfl hin hd (fun H1 locs1 hP1 _ hS1 => k q hq p e s m args below meth c H1 locs1 la hC hl (by show va_P _ _ (jm_wl _ _ _ _) H1; rw [jm_set_arr hs]; exact hP1) hS1)
  · exact jm_V.stuck
theorem jm_V.bast (hok : jm_Ok P) (hd : decode M.2.1 pc = .ok (.bastore, 1)) (k : jm_V P M d (pc + 1) ls st (jm_ua x o i (vp_nar .byte v)) r) : jm_V P M d pc ls (.int v :: .int i :: .ref o :: st) x (if jm_in (jm_h P) o .byte i then r else none) := by
  split
  · rename_i h
    obtain ⟨n, hs, hin⟩ := jm_in_of h
    intro q hq p e s m args below meth c H locs la hC hl hP hS
    obtain ⟨hx, hb, hml, hret, hlocks, hown, hno, hG⟩ := id hC
    exact va_bast hx hb (jm_K1 hG (Or.inl ⟨n, hs⟩)) hP (jm_D hok.2.2.1) hS o 0 (jm_wl_at hs) rfl hin hd (fun H1 locs1 hP1 _ hS1 => k q hq p e s m args below meth c H1 locs1 la hC hl (by show va_P _ _ (jm_wl _ _ _ _) H1; rw [jm_set_arr hs]; exact hP1) hS1)
  · exact jm_V.stuck
theorem jm_V.zast (hok : jm_Ok P) (hd : decode M.2.1 pc = .ok (.bastore, 1)) (k : jm_V P M d (pc + 1) ls st (jm_ua x o i (vp_nar .boolean v)) r) : jm_V P M d pc ls (.int v :: .int i :: .ref o :: st) x (if jm_in (jm_h P) o .boolean i then r else none) := by
  split
  · rename_i h
    obtain ⟨n, hs, hin⟩ := jm_in_of h
    intro q hq p e s m args below meth c H locs la hC hl hP hS
    obtain ⟨hx, hb, hml, hret, hlocks, hown, hno, hG⟩ := id hC
    exact va_zast hx hb (jm_K1 hG (Or.inl ⟨n, hs⟩)) hP (jm_D hok.2.2.1) hS o 0 (jm_wl_at hs) rfl hin hd (fun H1 locs1 hP1 _ hS1 => k q hq p e s m args below meth c H1 locs1 la hC hl (by show va_P _ _ (jm_wl _ _ _ _) H1; rw [jm_set_arr hs]; exact hP1) hS1)
  · exact jm_V.stuck
/-- an array's length -/
def jm_len (sh : List jm_S) (o : Nat) : Option Nat := match sh[o]? with
  | some (.inl q) => some q.2
  | some (.inr (.inl q)) => some q.2.length
  | _ => none
theorem jm_V.alen {n : Nat} (hd : decode M.2.1 pc = .ok (.arraylength, 1)) (k : jm_V P M d (pc + 1) ls (.int (Int32.ofNat n) :: st) x r) : jm_V P M d pc ls (.ref o :: st) x (if jm_len (jm_h P) o = some n then r else none) := by
  split
  · rename_i h
    intro q hq p e s m args below meth c H locs la hC hl hP hS
    obtain ⟨hx, hb, hml, hret, hlocks, hown, hno, hG⟩ := id hC
    have kk := k q hq p e s m args below meth c H locs la hC hl hP hS
    unfold jm_len at h
    split at h
    · rename_i z hs
      obtain ⟨ty, n'⟩ := z
      cases h
      exact va_alen hx hb (jm_K1 hG (Or.inl ⟨_, hs⟩)) hP o 0 (jm_wl_at hs) rfl rfl hd kk
    · rename_i z hs
      obtain ⟨C, ids⟩ := z
      cases h
      exact va_alen hx hb (jm_K1 hG (Or.inr ⟨C, ids, rfl, hs⟩)) hP o 0 (jm_wl_at hs) rfl rfl hd kk
    · cases h
  · exact jm_V.stuck
end JA
end
section
/-! THE SMALL MACHINE, 7: names for states, fewer locals, answers by their kind. -/
abbrev jm_Rec : Type := Nat → List Value → jm_X → Option jm_R
def jm_then (X : jm_X) (f : jm_X → Option jm_R) : Option jm_R := f X
def jm_bI (r : Option jm_R) (f : Int32 → jm_X → Option jm_R) : Option jm_R := jm_bind r (fun v x => match v with
  | some (.int b) => f b x
  | _ => none)
def jm_bA (r : Option jm_R) (f : Nat → jm_X → Option jm_R) : Option jm_R := jm_bind r (fun v x => match v with
  | some (.ref b) => f b x
  | _ => none)
def jm_bV (r : Option jm_R) (f : jm_X → Option jm_R) : Option jm_R := jm_bind r (fun v x => match v with
  | none => f x
  | _ => none)
section JH
variable {P : jm_P} {M y : jm_M} {d pc : Nat} {ls ls' : List (Nat × Value)} {st av rest : List Value} {x : jm_X} {r r0 : Option jm_R}
theorem jm_V.then_ {X : jm_X} {f : jm_X → Option jm_R} (h : ∀ x, jm_V P M d pc ls st x (f x)) : jm_V P M d pc ls st X (jm_then X f) := h X
theorem jm_V.sub (ks : List Nat) (hs : lv_pick ls ks = ls') (k : jm_V P M d pc ls' st x r) : jm_V P M d pc ls st x r := by
  intro q hq p e s m args below meth c H locs la hC hl hP hS
  refine k q hq p e s m args below meth c H locs la hC (lv_sub hl ks ?_) hP hS
  subst hs
  simp [lv_pick, jm_cl, List.map_filterMap]
theorem jm_V.callI {f : Int32 → jm_X → Option jm_R} (hok : jm_Ok P) (hcon : jm_Con P y d av x r0) (hinv : jm_Inv P M y pc av rest x) (hy : jm_cw y ∈ jm_t P) (hini : Cond.initialized y.1.cls ∈ jm_t P) (hnl : y.2.2.1 ≤ 21) (hcat : (rest.map fun v => v.category).sum ≤ 8)
    (k : ∀ b x', jm_V P M (d + 1) (pc + 3) ls (.int b :: rest) x' (f b x')) (hu : jm_unc M.2.2.2.2 pc = true := by rfl) : jm_V P M (d + 1) pc ls (av.reverse ++ rest) x (jm_bI r0 f) := by
  refine jm_V.call hok hcon hinv hy hini hnl hcat (fun v x' => ?_) hu
  match v with
  | some (.int b) => exact k b x'
  | none => exact jm_V.stuck
  | some (.long _) => exact jm_V.stuck
  | some (.float _) => exact jm_V.stuck
  | some (.double _) => exact jm_V.stuck
  | some .null => exact jm_V.stuck
  | some (.ref _) => exact jm_V.stuck
  | some (.retAddr _) => exact jm_V.stuck
theorem jm_V.callA {f : Nat → jm_X → Option jm_R} (hok : jm_Ok P) (hcon : jm_Con P y d av x r0) (hinv : jm_Inv P M y pc av rest x) (hy : jm_cw y ∈ jm_t P) (hini : Cond.initialized y.1.cls ∈ jm_t P) (hnl : y.2.2.1 ≤ 21) (hcat : (rest.map fun v => v.category).sum ≤ 8)
    (k : ∀ b x', jm_V P M (d + 1) (pc + 3) ls (.ref b :: rest) x' (f b x')) (hu : jm_unc M.2.2.2.2 pc = true := by rfl) : jm_V P M (d + 1) pc ls (av.reverse ++ rest) x (jm_bA r0 f) := by
  refine jm_V.call hok hcon hinv hy hini hnl hcat (fun v x' => ?_) hu
  match v with
  | some (.ref b) => exact k b x'
  | none => exact jm_V.stuck
  | some (.int _) => exact jm_V.stuck
  | some (.long _) => exact jm_V.stuck
  | some (.float _) => exact jm_V.stuck
  | some (.double _) => exact jm_V.stuck
  | some .null => exact jm_V.stuck
  | some (.retAddr _) => exact jm_V.stuck
theorem jm_V.callV {f : jm_X → Option jm_R} (hok : jm_Ok P) (hcon : jm_Con P y d av x r0) (hinv : jm_Inv P M y pc av rest x) (hy : jm_cw y ∈ jm_t P) (hini : Cond.initialized y.1.cls ∈ jm_t P) (hnl : y.2.2.1 ≤ 21) (hcat : (rest.map fun v => v.category).sum ≤ 8)
    (k : ∀ x', jm_V P M (d + 1) (pc + 3) ls rest x' (f x')) (hu : jm_unc M.2.2.2.2 pc = true := by rfl) : jm_V P M (d + 1) pc ls (av.reverse ++ rest) x (jm_bV r0 f) := by
  refine jm_V.call hok hcon hinv hy hini hnl hcat (fun v x' => ?_) hu
  match v with
  | none => exact k x'
  | some _ => exact jm_V.stuck
theorem jm_V.aret {v : Nat} {t : FieldType} (hr : M.2.2.2.1 = some t) (ht : (∃ n, t = .object n) ∨ ∃ u, t = .array u) (hd : decode M.2.1 pc = .ok (.areturn, 1)) : jm_V P M d pc ls [.ref v] x (some (.inl (some (.ref v), x))) := by
  intro q hq p e s m args below meth c H locs la hC hl hP hS
  cases hq
  obtain ⟨hx, hb, hml, hret, hlocks, hown, hno, hG⟩ := hC
  refine jm_Q_of (Qc := fun _ s o t => o = .returned (some (.ref (jm_a P v))) ∧ va_P (jm_d P) (jm_c P) (jm_w P x) t.heap ∧ va_F (jm_AA P s) s t) ?_ ?_
  · exact W.aret hx hb (hret.trans hr) ht (Or.inr ⟨_, rfl⟩) (fun t ht _ => ⟨rfl, by rw [ht]; exact hP, hS.F ht⟩) hS.2.2 hd
  · rintro o t ⟨h1, h2, h3⟩ ⟨L, ⟨-, hW, hf⟩, hL⟩
    exact ⟨h1, h2, L, hW, hf, hL, h3⟩
end JH
/-- what a caught or passed-on object is -/
theorem jm_exc_of {P : jm_P} {s : State} {x : jm_X} {o ci : Nat} {fs : List Nat} {q : vw_C} (hG : jm_G P s) {H : Heap} (hP : va_P (jm_d P) (jm_c P) (jm_w P x) H) (hs : (jm_h P)[o]? = some (.inr (.inr (ci, fs)))) (hc : (jm_c P)[ci]? = some q) {t : State} (ht : t.heap = H) (hW : s.vm.Alike t.vm) : jm_exc q.1 t (jm_a P o) := by
  obtain ⟨q', hq', cell, h1, e, h2, -⟩ := hP o _ (jm_wl_at hs)
  obtain ⟨-, hfc, kC, hkC, -⟩ := hG.2.2.2.1.1 ci q hc
  have h3 : s.vm.findClass q.1 = some cell.cls := by rw [e]; exact hfc
  obtain ⟨k', hk', -⟩ := hW.2.2 _ _ hkC
  exact ⟨cell, by rw [ht]; exact h1, h2, by rw [hW.findClass]; exact h3, k', by rw [e]; exact hk'⟩
theorem jm_V.athrow {P : jm_P} {M : jm_M} {d pc o ci : Nat} {ls : List (Nat × Value)} {st : List Value} {x : jm_X} {fs : List Nat} {q : vw_C} (hs : (jm_h P)[o]? = some (.inr (.inr (ci, fs)))) (hc : (jm_c P)[ci]? = some q) (hd : decode M.2.1 pc = .ok (.athrow, 1)) (hu : jm_unc M.2.2.2.2 pc = true := by rfl) :
    jm_V P M d pc ls (.ref o :: st) x (some (.inr (q.1, x))) := by
  intro z hz p e s m args below meth c H locs la hC hl hP hS T hT X
  cases hz
  obtain ⟨hx, hb, hml, hret, hlocks, hown, hno, hG⟩ := hC
  have X1 := stand_widen X (Nat.zero_le (jm_ec P)) (Nat.zero_le (20 * jm_ec P))
  obtain ⟨st1, hrun, hended, hW2, hsame2⟩ := X1.athrowLeaves hx (g := F0 m pc la (jm_st (jm_a P) (.ref o :: st))) rfl rfl rfl (jm_unc_of hno hu) (a := jm_a P o) (rest := jm_st (jm_a P) st) rfl (by rw [hb]; exact hd) hlocks
  refine ⟨_, st1, .threw (jm_a P o), hrun, hended, ⟨_, rfl, jm_exc_of hG hP hs hc (by exact hT) hW2.alike⟩, ?_, jm_end_of (H := H) hS (by exact hT) hW2 hsame2⟩
  show va_P _ _ _ T.heap
  rw [hT]; exact hP
theorem jm_room_mono {s : State} {pl : Platform} {d d' : Nat} (h : d ≤ d') (hr : s.hasRoom pl (jm_room d') = true) : s.hasRoom pl (jm_room d) = true := by
  unfold State.hasRoom at hr ⊢
  rw [Bool.and_eq_true, Bool.and_eq_true, Bool.and_eq_true, Bool.and_eq_true] at hr ⊢
  obtain ⟨⟨⟨⟨h1, h2⟩, h7⟩, h8⟩, h9⟩ := hr
  have g1 := of_decide_eq_true h1
  obtain ⟨g2, g3, g4, g5, g6⟩ := of_decide_eq_true h2
  simp only [jm_room] at g1 g2 g3 g4 g5 g6
  refine ⟨⟨⟨⟨decide_eq_true ?_, decide_eq_true ⟨?_, ?_, ?_, ?_, g6⟩⟩, h7⟩, h8⟩, h9⟩ <;> simp only [jm_room] <;> omega
theorem jm_Con.mono {P : jm_P} {M : jm_M} {d d' : Nat} {av : List Value} {x : jm_X} {r : Option jm_R} (h : jm_Con P M d av x r) (hd : d ≤ d') : jm_Con P M d' av x r := by
  intro q hq p e ha hc hk s m args below hf happ hP hK
  refine h q hq p e ha hc hk s m args below hf ?_ hP hK
  obtain ⟨h1, h2, h3, h4, h5, h6, h7, h8⟩ := (Spec.appliesLoose_iff hf).mp happ
  exact (Spec.appliesLoose_iff hf).mpr ⟨h1, h2, h3, h4, h5, h6, jm_room_mono hd h7, h8⟩
end
section
/-! THE SMALL MACHINE, 8: constant objects and arrays (numbers from 900 on), comparisons of references, switches, narrow answers, exceptions that are made. -/
def jm_cn (lo n o : Nat) : Bool := decide (lo ≤ o) && decide (o < lo + n)
theorem jm_cn_of {lo n o : Nat} (h : jm_cn lo n o = true) : o - lo < n ∧ lo + (o - lo) = o := by
  simp only [jm_cn, Bool.and_eq_true, decide_eq_true_eq] at h
  omega
abbrev jm_A0 (P : jm_P) : Nat → Prop := fun q => jm_b P ≤ q
def jm_ix (n : Nat) (i : Int32) : Bool := decide (¬ i < 0) && decide (i.toNatClampNeg < n)
theorem jm_ix_of {n : Nat} {i : Int32} (h : jm_ix n i = true) : vp_in i n := by
  simp only [jm_ix, Bool.and_eq_true, decide_eq_true_eq] at h
  exact fun z => z.elim h.1 (fun z => by omega)
section JK
variable {P : jm_P} {M : jm_M} {d pc idx lo N o : Nat} {ls : List (Nat × Value)} {st : List Value} {x : jm_X} {r r2 : Option jm_R} {i : Int32}
theorem jm_V.getC {C n dsc : String} {v : Nat → Value} (hok : jm_Ok P) (hF : ∀ (s : State) (H : Heap), jm_sg P s H → ∀ i, i < N → va_OF C n dsc (jm_cv (jm_a P) (v i)) (jm_a P (lo + i)) (jm_A0 P) s H)
    (hlink : Cond.fieldLink M.1.cls idx C n dsc ∈ jm_t P ∨ ∃ host, (M.1.cls, idx, C, n, dsc, host) ∈ jm_fn P) (hd : decode M.2.1 pc = .ok (.getfield idx, 3)) (k : jm_V P M d (pc + 3) ls (v (o - lo) :: st) x r) : jm_V P M d pc ls (.ref o :: st) x (if jm_cn lo N o then r else none) := by
  split
  · rename_i h
    obtain ⟨h1, h2⟩ := jm_cn_of h
    intro q hq p e s m args below meth c H locs la hC hl hP hS
    obtain ⟨hx, hb, hml, hret, hlocks, hown, hno, hG⟩ := id hC
    have hE := hF s s.heap hG.2.2.2.2.2.2 (o - lo) h1
    rw [h2] at hE
    have kk := k q hq p e s m args below meth c H locs la hC hl hP hS
    obtain ⟨cf, kf, fi, f, cell, g1, g2, g3, g4, g5, g6⟩ := hE.kept (jm_S_w hS (jm_AA_b hok hG)).2.1
    rcases hlink with hlink | ⟨host, hlink⟩
    · exact W.getf hx hb hown (hG.1 _ hlink args) g1 g2 g3 g4 (v := jm_cv (jm_a P) (v (o - lo))) g5 rfl rfl hd kk
    · exact va_Wgetf hx hb hown (va_Nw.use rfl (hG.2.1 _ hlink)) g1 g2 g3 g4 (v := jm_cv (jm_a P) (v (o - lo))) g5 rfl rfl hd kk
  · exact jm_V.stuck
theorem jm_V.tbald {len : Nat → Nat} {f : Nat → Nat → Int32} (hok : jm_Ok P) (hF : ∀ (s : State) (H : Heap), jm_sg P s H → ∀ i, i < N → va_T .byte (jm_a P (lo + i)) (len i) (fun j => .int (f i j)) (jm_A0 P) s H) (hd : decode M.2.1 pc = .ok (.baload, 1))
    (k : jm_V P M d (pc + 1) ls (.int (f (o - lo) i.toNatClampNeg) :: st) x r) : jm_V P M d pc ls (.int i :: .ref o :: st) x (if jm_cn lo N o then (if jm_ix (len (o - lo)) i then r else none) else none) := by
  split
  · rename_i h
    obtain ⟨h1, h2⟩ := jm_cn_of h
    split
    · rename_i h3
      intro q hq p e s m args below meth c H locs la hC hl hP hS
      obtain ⟨hx, hb, hml, hret, hlocks, hown, hno, hG⟩ := id hC
      have hE := hF s s.heap hG.2.2.2.2.2.2 (o - lo) h1
      rw [h2] at hE
      exact va_tb hx hb hE (jm_S_w hS (jm_AA_b hok hG)) (jm_ix_of h3) rfl hd (k q hq p e s m args below meth c H locs la hC hl hP hS)
    · exact jm_V.stuck
  · exact jm_V.stuck
theorem jm_V.tiald {len : Nat → Nat} {f : Nat → Nat → Int32} (hok : jm_Ok P) (hF : ∀ (s : State) (H : Heap), jm_sg P s H → ∀ i, i < N → va_T .int (jm_a P (lo + i)) (len i) (fun j => .int (f i j)) (jm_A0 P) s H) (hd : decode M.2.1 pc = .ok (.iaload, 1))
    (k : jm_V P M d (pc + 1) ls (.int (f (o - lo) i.toNatClampNeg) :: st) x r) : jm_V P M d pc ls (.int i :: .ref o :: st) x (if jm_cn lo N o then (if jm_ix (len (o - lo)) i then r else none) else none) := by
  split
  · rename_i h
    obtain ⟨h1, h2⟩ := jm_cn_of h
    split
    · rename_i h3
      intro q hq p e s m args below meth c H locs la hC hl hP hS
      obtain ⟨hx, hb, hml, hret, hlocks, hown, hno, hG⟩ := id hC
      have hE := hF s s.heap hG.2.2.2.2.2.2 (o - lo) h1
      rw [h2] at hE
      exact va_ti hx hb hE (jm_S_w hS (jm_AA_b hok hG)) (jm_ix_of h3) rfl hd (k q hq p e s m args below meth c H locs la hC hl hP hS)
    · exact jm_V.stuck
  · exact jm_V.stuck
/-- an array of constants: its place j holds the object f j -/
theorem jm_V.taald {C : String} {len : Nat} {f : Nat → Nat} (hok : jm_Ok P) (hF : ∀ (s : State) (H : Heap), jm_sg P s H → va_T (.object C) (jm_a P o) len (fun j => .ref (jm_a P (f j))) (jm_A0 P) s H) (hd : decode M.2.1 pc = .ok (.aaload, 1))
    (k : jm_V P M d (pc + 1) ls (.ref (f i.toNatClampNeg) :: st) x r) : jm_V P M d pc ls (.int i :: .ref o :: st) x (if jm_ix len i then r else none) := by
  split
  · rename_i h3
    intro q hq p e s m args below meth c H locs la hC hl hP hS
    obtain ⟨hx, hb, hml, hret, hlocks, hown, hno, hG⟩ := id hC
    exact vb_tq hx hb (hF s s.heap hG.2.2.2.2.2.2) (jm_S_w hS (jm_AA_b hok hG)) (jm_ix_of h3) rfl hd (k q hq p e s m args below meth c H locs la hC hl hP hS)
  · exact jm_V.stuck
theorem jm_V.tlen {ty : FieldType} {len : Nat → Nat} {f : Nat → Nat → Value} (hok : jm_Ok P) (hF : ∀ (s : State) (H : Heap), jm_sg P s H → ∀ i, i < N → va_T ty (jm_a P (lo + i)) (len i) (f i) (jm_A0 P) s H) (hd : decode M.2.1 pc = .ok (.arraylength, 1))
    (k : jm_V P M d (pc + 1) ls (.int (Int32.ofNat (len (o - lo))) :: st) x r) : jm_V P M d pc ls (.ref o :: st) x (if jm_cn lo N o then r else none) := by
  split
  · rename_i h
    obtain ⟨h1, h2⟩ := jm_cn_of h
    intro q hq p e s m args below meth c H locs la hC hl hP hS
    obtain ⟨hx, hb, hml, hret, hlocks, hown, hno, hG⟩ := id hC
    have hE := hF s s.heap hG.2.2.2.2.2.2 (o - lo) h1
    rw [h2] at hE
    exact va_tlen hx hb hE (jm_S_w hS (jm_AA_b hok hG)) rfl hd (k q hq p e s m args below meth c H locs la hC hl hP hS)
  · exact jm_V.stuck
theorem jm_V.lds {tx : String} (hF : ∀ (s : State) (H : Heap), jm_sg P s H → vk_R M.1.cls idx tx (jm_a P o) s) (hd : decode M.2.1 pc = .ok (.ldc idx, 2)) (k : jm_V P M d (pc + 2) ls (.ref o :: st) x r) : jm_V P M d pc ls st x r := by
  intro q hq p e s m args below meth c H locs la hC hl hP hS
  obtain ⟨hx, hb, hml, hret, hlocks, hown, hno, hG⟩ := id hC
  exact va_ldcS hx hb hown (hF s s.heap hG.2.2.2.2.2.2) hd (k q hq p e s m args below meth c H locs la hC hl hP hS)
theorem jm_V.acne {a b : Nat} {off : Int} (hok : jm_Ok P) (ho : jm_ok pc off = true) (hd : decode M.2.1 pc = .ok (.if_acmp .ne off, 3)) (kt : a = b → jm_V P M d (pc + 3) ls st x r) (kf : ¬ a = b → jm_V P M d (jm_tg pc off) ls st x r2) :
    jm_V P M d pc ls (.ref b :: .ref a :: st) x (if jm_cn 1000 55 a then (if jm_cn 1000 55 b then (if a = b then r else r2) else none) else none) := by
  split
  · rename_i h
    obtain ⟨h1, h2⟩ := jm_cn_of h
    split
    · rename_i h3
      obtain ⟨h4, h5⟩ := jm_cn_of h3
      intro q hq p e s m args below meth c H locs la hC hl hP hS
      obtain ⟨hx, hb, hml, hret, hlocks, hown, hno, hG⟩ := id hC
      refine lv_acmp_ne (rx := some (jm_a P a)) (ry := some (jm_a P b)) hx hb hd (jm_tg_ok ho) (fun hne => ?_) (fun heq => ?_)
      · have hab : ¬ a = b := fun z => hne (by rw [z])
        rw [if_neg hab] at hq
        exact kf hab q hq p e s m args below meth c H locs la hC hl hP hS
      · have hab : a = b := by
          have e1 : jm_a P (1000 + (a - 1000)) = jm_a P (1000 + (b - 1000)) := by rw [h2, h5]; exact Option.some.inj heq
          have := hok.2.2.2.2.2.1 _ _ h1 h4 e1
          omega
        rw [if_pos hab] at hq
        exact kt hab q hq p e s m args below meth c H locs la hC hl hP hS
    · exact jm_V.stuck
  · exact jm_V.stuck
theorem jm_V.aceq {a b : Nat} {off : Int} (hok : jm_Ok P) (ho : jm_ok pc off = true) (hd : decode M.2.1 pc = .ok (.if_acmp .eq off, 3)) (kt : a = b → jm_V P M d (jm_tg pc off) ls st x r) (kf : ¬ a = b → jm_V P M d (pc + 3) ls st x r2) :
    jm_V P M d pc ls (.ref b :: .ref a :: st) x (if jm_cn 1000 55 a then (if jm_cn 1000 55 b then (if a = b then r else r2) else none) else none) := by
  split
  · rename_i h
    obtain ⟨h1, h2⟩ := jm_cn_of h
    split
    · rename_i h3
      obtain ⟨h4, h5⟩ := jm_cn_of h3
      intro q hq p e s m args below meth c H locs la hC hl hP hS
      obtain ⟨hx, hb, hml, hret, hlocks, hown, hno, hG⟩ := id hC
      refine lv_acmp_eq (rx := some (jm_a P a)) (ry := some (jm_a P b)) hx hb hd (jm_tg_ok ho) (fun heq => ?_) (fun hne => ?_)
      · have hab : a = b := by
          have e1 : jm_a P (1000 + (a - 1000)) = jm_a P (1000 + (b - 1000)) := by rw [h2, h5]; exact Option.some.inj heq
          have := hok.2.2.2.2.2.1 _ _ h1 h4 e1
          omega
        rw [if_pos hab] at hq
        exact kt hab q hq p e s m args below meth c H locs la hC hl hP hS
      · have hab : ¬ a = b := fun z => hne (by rw [z])
        rw [if_neg hab] at hq
        exact kf hab q hq p e s m args below meth c H locs la hC hl hP hS
    · exact jm_V.stuck
  · exact jm_V.stuck
end JK
/-! switches: the place as a chain of questions -/
def jm_lsw (v : Int32) (pc : Nat) (d : Int) : List (Int × Int) → Nat
  | [] => jm_tg pc d
  | q :: r => if v = Int32.ofInt q.1 then jm_tg pc q.2 else jm_lsw v pc d r
def jm_rng (k : Int) : Bool := decide (-2147483648 ≤ k) && decide (k ≤ 2147483647)
theorem jm_ofInt {v : Int32} {k : Int} (h : jm_rng k = true) : v = Int32.ofInt k ↔ v.toInt = k := by
  simp only [jm_rng, Bool.and_eq_true, decide_eq_true_eq] at h
  have e : (Int32.ofInt k).toInt = k := Int32.toInt_ofInt_of_le (by omega) (by omega)
  constructor
  · intro z; rw [z]; exact e
  · intro z; exact Int32.toInt_inj.mp (by rw [e]; exact z)
def jm_swok (pc : Nat) (d : Int) (ps : List (Int × Int)) : Bool := jm_ok pc d && ps.all (fun q => jm_ok pc q.2 && jm_rng q.1)
theorem jm_lsw_off {v : Int32} {pc : Nat} {d : Int} : ∀ {ps : List (Int × Int)}, jm_swok pc d ps = true → (pc : Int) + Op.lookupswitch.offset ps d v.toInt = ((jm_lsw v pc d ps : Nat) : Int)
  | [], h => by
    simp only [jm_swok, List.all_nil, Bool.and_true] at h
    exact jm_tg_ok h
  | q :: r, h => by
    simp only [jm_swok, List.all_cons, Bool.and_eq_true] at h
    obtain ⟨h0, ⟨h1, h2⟩, h3⟩ := h
    obtain ⟨a, o⟩ := q
    rw [Op.lookupswitch.offset_cons]
    unfold jm_lsw
    by_cases hv : v = Int32.ofInt a
    · rw [if_pos hv, if_pos ((jm_ofInt h2).mp hv).symm]
      exact jm_tg_ok h1
    · rw [if_neg hv, if_neg (fun z => hv ((jm_ofInt h2).mpr z.symm))]
      exact jm_lsw_off (by simp only [jm_swok, Bool.and_eq_true]; exact ⟨h0, h3⟩)
def jm_tsw (lo : Int) : List Int → List (Int × Int)
  | [] => []
  | o :: r => (lo, o) :: jm_tsw (lo + 1) r
theorem jm_tsw_in {v : Int32} {pc : Nat} {d : Int} : ∀ {offs : List Int} {lo : Int}, jm_swok pc d (jm_tsw lo offs) = true → ∀ {off : Int}, ¬ v.toInt < lo → offs[(v.toInt - lo).toNat]? = some off → (pc : Int) + off = ((jm_lsw v pc d (jm_tsw lo offs) : Nat) : Int)
  | [], _, _, _, _, ho => by simp at ho
  | o :: r, lo, h, off, h1, ho => by
    simp only [jm_swok, jm_tsw, List.all_cons, Bool.and_eq_true] at h
    obtain ⟨h0, ⟨h2, h3⟩, h4⟩ := h
    unfold jm_tsw jm_lsw
    by_cases hv : v = Int32.ofInt lo
    · have := (jm_ofInt h3).mp hv
      rw [if_pos hv]
      rw [this] at ho
      simp at ho
      rw [← ho]
      exact jm_tg_ok h2
    · have hne : ¬ v.toInt = lo := fun z => hv ((jm_ofInt h3).mpr z)
      rw [if_neg hv]
      refine jm_tsw_in (by simp only [jm_swok, Bool.and_eq_true]; exact ⟨h0, h4⟩) (by omega) ?_
      have e1 : (v.toInt - lo).toNat = (v.toInt - (lo + 1)).toNat + 1 := by omega
      rw [e1] at ho
      simpa using ho
theorem jm_tsw_out {v : Int32} {pc : Nat} {d : Int} : ∀ {offs : List Int} {lo : Int}, jm_swok pc d (jm_tsw lo offs) = true → (v.toInt < lo ∨ lo + offs.length ≤ v.toInt) → (pc : Int) + d = ((jm_lsw v pc d (jm_tsw lo offs) : Nat) : Int)
  | [], _, h, _ => by
    simp only [jm_swok, jm_tsw, List.all_nil, Bool.and_true] at h
    exact jm_tg_ok h
  | o :: r, lo, h, hv => by
    simp only [jm_swok, jm_tsw, List.all_cons, Bool.and_eq_true] at h
    obtain ⟨h0, ⟨h2, h3⟩, h4⟩ := h
    unfold jm_tsw jm_lsw
    simp only [List.length_cons] at hv
    rw [if_neg (fun z => by have := (jm_ofInt h3).mp z; omega)]
    exact jm_tsw_out (by simp only [jm_swok, Bool.and_eq_true]; exact ⟨h0, h4⟩) (by omega)
section JW
variable {P : jm_P} {M : jm_M} {d pc len : Nat} {ls : List (Nat × Value)} {st : List Value} {x : jm_X} {r : Option jm_R} {v : Int32}
theorem jm_V.lsw {dflt : Int} {ps : Array (Int × Int)} (hd : decode M.2.1 pc = .ok (.lookupswitch dflt ps, len)) (hp : (ps.toList.zip (ps.toList.drop 1)).all (fun (a, next) => a.1 < next.1) = true) (hs : jm_swok pc dflt ps.toList = true)
    (k : jm_V P M d (jm_lsw v pc dflt ps.toList) ls st x r) : jm_V P M d pc ls (.int v :: st) x r := by
  intro q hq p e s m args below meth c H locs la hC hl hP hS
  obtain ⟨hx, hb, hml, hret, hlocks, hown, hno, hG⟩ := id hC
  exact lv_lookup hx hb hd hp rfl (jm_lsw_off hs) (k q hq p e s m args below meth c H locs la hC hl hP hS)
theorem jm_V.tsw {dflt lo hi : Int} {offs : Array Int} (hd : decode M.2.1 pc = .ok (.tableswitch dflt lo hi offs, len)) (hh : lo + offs.toList.length = hi + 1) (hs : jm_swok pc dflt (jm_tsw lo offs.toList) = true)
    (k : jm_V P M d (jm_lsw v pc dflt (jm_tsw lo offs.toList)) ls st x r) : jm_V P M d pc ls (.int v :: st) x r := by
  intro q hq p e s m args below meth c H locs la hC hl hP hS
  obtain ⟨hx, hb, hml, hret, hlocks, hown, hno, hG⟩ := id hC
  have kk := k q hq p e s m args below meth c H locs la hC hl hP hS
  by_cases h1 : v.toInt < lo
  · exact lv_tableOut hx hb hd (Or.inl h1) (jm_tsw_out hs (Or.inl h1)) kk
  · by_cases h2 : hi < v.toInt
    · exact lv_tableOut hx hb hd (Or.inr h2) (jm_tsw_out hs (Or.inr (by omega))) kk
    · have hlt : (v.toInt - lo).toNat < offs.toList.length := by omega
      have ho : offs.toList[(v.toInt - lo).toNat]? = some (offs.toList[(v.toInt - lo).toNat]) := List.getElem?_eq_getElem hlt
      exact lv_tableIn hx hb hd h1 h2 (by rw [← Array.getElem?_toList]; exact ho) (jm_tsw_in hs h1 ho) kk
/-- an answer of a narrow kind -/
theorem jm_V.nret {w : Int32} {t : FieldType} (hr : M.2.2.2.1 = some t) (hn : narrow t (.int v) = .int w) (hd : decode M.2.1 pc = .ok (.ireturn, 1)) : jm_V P M d pc ls [.int v] x (some (.inl (some (.int w), x))) := by
  intro q hq p e s m args below meth c H locs la hC hl hP hS T hT X
  cases hq
  obtain ⟨hx, hb, hml, hret, hlocks, hown, hno, hG⟩ := hC
  have hr2 : meth.sig.returnType = some t := hret.trans hr
  obtain ⟨fs, hre, hrun, hended, hW, hframe⟩ := X.leave (v := some (.int w)) (hlocks := hlocks) (fun h => by rw [hr2] at h; cases h)
  have hmeth' : T.vm.method? m = some meth := X.method'
  refine ⟨T.setFrames fs, ?_, .returned (some (.int w)), hrun, hended, rfl, ?_, jm_end_of (H := H) hS (by exact hT) hW hframe⟩
  · show Steps p.tables e below (T.setTop (F0 m pc la [.int v])) _
    jvm_step X.here [X.here.top, hx, hb, hd, hmeth', hr2, hn]
    (try refine ⟨rfl, ?_⟩); (try refine ⟨rfl, ?_⟩)
    first | (intro acts; rw [hre _ acts rfl rfl rfl]) | rw [hre _ _ rfl rfl rfl]
    exact Steps.refl _
  · show va_P _ _ _ T.heap
    rw [hT]; exact hP
end JW
end
section
/-! THE SMALL MACHINE, 9: 'throw new C()'. -/
theorem jm_V.tnew {P : jm_P} {M : jm_M} {d pc ik ic : Nat} {ls : List (Nat × Value)} {x : jm_X} {C : String} {names : List String} (hok : jm_Ok P) (hcls : Bundle.fit C = true) (hnames : ∀ n ∈ names, Bundle.fit n = true) (hn3 : names.length ≤ 3)
    (hk : Cond.classLink M.1.cls ik C ∈ jm_t P) (hini : Cond.initialized C ∈ jm_t P) (hat : ∀ w ∈ vx_at0 M.1.cls ic C names, w ∈ jm_t P) (hgood : ∀ w ∈ Cond.classLink M.1.cls ik C :: Cond.initialized C :: vx_at0 M.1.cls ic C names, vx_ot w = true)
    (hZ : ∀ (s : State) (H : Heap), jm_sg P s H → vx_Zq Bundle.tN "UNASSIGNED_STACK" Bundle.steD (jm_A0 P) s H ∧ vx_Zq Bundle.tN "SUPPRESSED_SENTINEL" Bundle.listD (jm_A0 P) s H)
    (d0 : decode M.2.1 pc = .ok (.new ik, 3)) (d3 : decode M.2.1 (pc + 3) = .ok (.dup, 1)) (d4 : decode M.2.1 (pc + 4) = .ok (.invokespecial ic, 3)) (d7 : decode M.2.1 (pc + 7) = .ok (.athrow, 1)) (hu : jm_unc M.2.2.2.2 (pc + 7) = true := by rfl) (hec : jm_ec P = 1 := by rfl) :
    jm_V P M (d + 7) pc ls [] x (some (.inr (C, x))) := by
  intro q hq p e s m args below meth c H locs la hC hl hP hS
  cases hq
  obtain ⟨hx, hb, hml, hret, hlocks, hown, hno, hG⟩ := hC
  obtain ⟨hU, hN⟩ := hZ s s.heap hG.2.2.2.2.2.2
  have hS0 : va_S (jm_A0 P) s.heap H locs := jm_S_w hS (jm_AA_b hok hG)
  have K := vx_throw0 (p := p) (l := jm_l P) (e := e) (R := jm_room (d + 7)) (s := s) (m := m) (args := args) (below := below) (meth := meth) (c := c) (H := H) (locs := locs) (cells := 0) (slots := 0) (ls := la) (rest := []) (mc := 1) (ms := 20) (free := jm_AA P s)
    (Qc := fun _ _ _ _ => False) (XC := fun E _ t => E = C ∧ s.heap.size ≤ t.heap.size ∧ va_P (jm_d P) (jm_c P) (jm_w P x) t.heap ∧ va_F (jm_AA P s) s t) (own := M.1.cls) (cls := C) (names := names) (ik := ik) (ic := ic) (A := jm_A0 P)
    hx hb hok.2.2.2.2.2.2 hown hcls hnames (hG.1 _ hk args) (hG.1 _ hini args) (fun w hw => hG.1 _ (hat w hw) args) hgood hU hN hS0 (by rw [hl.1]; exact hml.symm) d0 d3 d4 d7
    (jm_unc_of hno hu) (by show names.length + 3 < d + 7; omega) (by show 0 + (13 * (names.length + 1) + 42) ≤ 40 * (d + 7); omega) (Nat.le_refl _) (by show 0 + 6 ≤ 20; omega) hlocks
    (fun t hal hsz hsame => ⟨rfl, Nat.le_trans hS.1 hsz, hP.kept (fun k z hk => hsame z.1 ((hP k z hk).lt)), ⟨Nat.le_trans hS.1 hsz, fun z h1 h2 => by rw [hsame z (Nat.lt_of_lt_of_le h1 hS.1)]; exact hS.2.1 z h1 h2⟩⟩)
    hS.2.2 (Nat.le_refl _) (by omega)
  intro T hT X
  obtain ⟨t, a1, o, b1, b2, b3⟩ := K T hT X
  refine ⟨t, a1, o, b1, b2, ?_⟩
  rcases b3 with ⟨hf, -⟩ | ⟨z, rfl, E, ce, L, ⟨rfl, -, hP2, hF2⟩, c1, c2, c3, hW, hsame, hL⟩
  · exact hf.elim
  · have hcl := hG.1 _ hini #[]
    refine ⟨⟨z, rfl, ce, c1, c2, by rw [hW.alike.findClass]; exact c3, ?_⟩, hP2, L, hW, by rw [hec]; exact hsame, hL, hF2⟩
    obtain ⟨kC, hkC⟩ : ∃ kC, s.vm.classes[ce.cls]? = some kC := by
      have hin : Cond.instantiable E 6 ∈ vx_at0 M.1.cls ic E names := by
        unfold vx_at0
        refine List.mem_filter.mpr ⟨by simp [Bundle.ownAtoms0], by simp [vx_no]⟩
      obtain ⟨cC, hfc, kC, hkC, -⟩ := classAt_of (hG.1 _ (hat _ hin) args)
      rw [c3] at hfc
      cases hfc
      exact ⟨kC, hkC⟩
    obtain ⟨k', hk', -⟩ := hW.alike.2.2 _ _ hkC
    exact ⟨k', hk'⟩
end
section
/-! THE SMALL MACHINE, 10: a question asked ahead, an inherited method, an array's length by its number, constant receivers. -/
section JM
variable {P : jm_P} {M : jm_M} {d pc o : Nat} {ls : List (Nat × Value)} {st : List Value} {x : jm_X} {r : Option jm_R}
theorem jm_V.guard {b : Bool} (k : b = true → jm_V P M d pc ls st x r) : jm_V P M d pc ls st x (if b then r else none) := by
  split
  · rename_i h; exact k h
  · exact jm_V.stuck
def jm_oN (o : Option Nat) (f : Nat → Option jm_R) : Option jm_R := match o with
  | some n => f n
  | none => none
theorem jm_V.alenS {f : Nat → Option jm_R} (hd : decode M.2.1 pc = .ok (.arraylength, 1)) (k : ∀ n, jm_V P M d (pc + 1) ls (.int (Int32.ofNat n) :: st) x (f n)) : jm_V P M d pc ls (.ref o :: st) x (jm_oN (jm_len (jm_h P) o) f) := by
  cases h : jm_len (jm_h P) o with
  | none => exact jm_V.stuck
  | some n =>
    have := jm_V.alen (P := P) (M := M) (d := d) (pc := pc) (ls := ls) (st := st) (x := x) (o := o) (n := n) hd (k n)
    rw [if_pos h] at this
    exact this
/-- the value of a constant array of references of the world -/
theorem jm_V.aald {C : String} {ids : List Nat} {i : Int32} (hs : (jm_h P)[o]? = some (.inr (.inl (C, ids)))) (hd : decode M.2.1 pc = .ok (.aaload, 1)) (k : jm_V P M d (pc + 1) ls (.ref (ids.getD i.toNatClampNeg 0) :: st) x r) : jm_V P M d pc ls (.int i :: .ref o :: st) x (if jm_ix ids.length i then r else none) := by
  split
  · rename_i h
    intro q hq p e s m args below meth c H locs la hC hl hP hS
    obtain ⟨hx, hb, hml, hret, hlocks, hown, hno, hG⟩ := id hC
    have kk := k q hq p e s m args below meth c H locs la hC hl hP hS
    have hlt : i.toNatClampNeg < ids.length := by
      simp only [jm_ix, Bool.and_eq_true, decide_eq_true_eq] at h
      exact h.2
    have e1 : va_rf ((ids[i.toNatClampNeg]?).map (jm_a P)) = .ref (jm_a P (ids.getD i.toNatClampNeg 0)) := by
      simp [List.getD_eq_getElem?_getD, List.getElem?_eq_getElem hlt, va_rf]
    refine va_aldq (C := C) (f := fun j => (ids[j]?).map (jm_a P)) hx hb (jm_K1 hG (Or.inr ⟨C, ids, rfl, hs⟩)) hP o 0 (jm_wl_at hs) rfl (jm_ix_of h) hd ?_
    rw [e1]
    exact kk
  · exact jm_V.stuck
end JM
theorem jm_Inv.up {P : jm_P} {M y : jm_M} {xn : MethodName} {pc idx o : Nat} {as rest : List Value} {x : jm_X} {C owner : String} (hd : decode M.2.1 pc = .ok (.invokevirtual idx, 3)) (hlink : Cond.methodLink M.1.cls idx xn ∈ jm_t P) (hsm : Cond.sameMethod xn.cls owner xn.name xn.desc ∈ jm_t P)
    (hyn : y.1 = ⟨owner, xn.name, xn.desc⟩) (hin : Cond.instanceMethod y.1 ∈ jm_t P) (hsel : Cond.selects C xn y.1 ∈ jm_t P) (hcw : jm_cw y ∈ jm_t P) (hy : owner ≠ "java/lang/invoke/MethodHandle" ∧ owner ≠ "java/lang/invoke/VarHandle") (hlen : (parseMethodDescriptor y.1.desc).map (fun q => q.parameters.length) = some as.length)
    (hrecv : ∀ (s : State) (H : Heap) (locs : List Loc), jm_G P s → va_P (jm_d P) (jm_c P) (jm_w P x) H → va_S (jm_AA P s) s.heap H locs → ∃ cell : Cell, H[jm_a P o]? = some cell ∧ cell.vm.isStatics = false ∧ s.vm.findClass C = some cell.cls) : jm_Inv P M y pc (.ref o :: as) rest x := by
  refine ⟨_, hd, ?_⟩
  intro p e R s m args below meth c T locs cells slots la hC hla hP hS X
  obtain ⟨hx, hb, hml, hret, hlocks, hown, hno, hG⟩ := hC
  obtain ⟨r0, r, hn, hrm, hstR, hsigR⟩ : va_Decl s y.1 := by
    obtain ⟨m1, r1, q1, q2, q3, -⟩ := Cond.instanceMethod_spec (hG.1 _ hin args)
    obtain ⟨m2, r2, c2, p1, p2, -, -, -, -, -, -, p8⟩ := jm_cw_spec (hG.1 _ hcw args)
    cases q1.symm.trans p1
    cases q2.symm.trans p2
    exact ⟨m1, r1, q1, q2, q3, p8⟩
  obtain ⟨cn, ck, r1, hcn, hck, hni, hf, hn1⟩ := Cond.sameMethod_found (hG.1 _ hsm args)
  rw [← hyn] at hn1
  cases hn.symm.trans hn1
  obtain ⟨mk, methM, hnamed, hmethM, -, habM⟩ := Cond.instanceMethod_spec (hG.1 _ hin args)
  obtain ⟨c2, r2, m2, q1, q2, q3, q4, kP, hkP, hkPi⟩ := Cond.selects_spec (hG.1 _ hsel args)
  obtain ⟨cellB, hcB, hoB, hclB⟩ := hrecv s T.heap locs hG hP hS
  cases hclB.symm.trans q1
  cases hf.symm.trans q2
  cases hnamed.symm.trans q3
  have hselP : selectMethod e.platform s.vm cellB.cls r0 = .method mk := by rw [Launch.admits_selectMethod X.admits]; exact q4
  have hl2 : (jm_st (jm_a P) as).length = r.sig.parameters.length := by
    rw [hsigR] at hlen
    simp [jm_st]
    exact (Option.some.inj hlen).symm
  rw [hyn] at hn
  obtain ⟨vm₁, X₁, hstep⟩ := X.invokevirtualUp hx hown (hG.1 _ hlink args) (hG.1 _ hsm args) hy hn hrm hstR (a := jm_a P o) (cell := cellB) hcB (fun z h => by rw [h] at hoB; cases hoB) hselP hmethM habM hkP hkPi
    (g := F0 m pc la (jm_st (jm_a P) ((Value.ref o :: as).reverse ++ rest))) rfl (argsL := jm_st (jm_a P) as) (rest := jm_st (jm_a P) rest) hl2 (jm_st_rev1 _ _ _ _) (by rw [hb]; exact hd)
  exact ⟨vm₁, mk, X₁, hnamed, fun target h => hstep target (fun acts => by rw [doInvoke_state]; exact h)⟩
/-- a constant receiver -/
theorem jm_recvO {P : jm_P} {E : String} {o : Nat} (hok : jm_Ok P) (hF : ∀ (s : State) (H : Heap), jm_sg P s H → va_O E (jm_a P o) (jm_A0 P) s H) {x : jm_X} : ∀ (s : State) (H : Heap) (locs : List Loc), jm_G P s → va_P (jm_d P) (jm_c P) (jm_w P x) H → va_S (jm_AA P s) s.heap H locs → ∃ cell : Cell, H[jm_a P o]? = some cell ∧ cell.vm.isStatics = false ∧ s.vm.findClass E = some cell.cls :=
  fun s _ _ hG _ hS => va_Orecv (hF s s.heap hG.2.2.2.2.2.2) (jm_S_w hS (jm_AA_b hok hG))
/-- Math.min and the like: a static method of the JDK that is walked like ours, of longs -/
theorem jm_V.lret {P : jm_P} {M : jm_M} {d pc : Nat} {ls : List (Nat × Value)} {x : jm_X} {v : Int64} (hr : M.2.2.2.1 = some .long) (hd : decode M.2.1 pc = .ok (.lreturn, 1)) : jm_V P M d pc ls [.long v] x (some (.inl (some (.long v), x))) := by
  intro q hq p e s m args below meth c H locs la hC hl hP hS
  cases hq
  obtain ⟨hx, hb, hml, hret, hlocks, hown, hno, hG⟩ := hC
  refine jm_Q_of (Qc := fun _ s o t => o = .returned (some (.long v)) ∧ va_P (jm_d P) (jm_c P) (jm_w P x) t.heap ∧ va_F (jm_AA P s) s t) ?_ ?_
  · exact W.lret hx hb (hret.trans hr) (fun t ht _ => ⟨rfl, by rw [ht]; exact hP, hS.F ht⟩) hS.2.2 hd
  · rintro o t ⟨h1, h2, h3⟩ ⟨L, ⟨-, hW, hf⟩, hL⟩
    exact ⟨h1, h2, L, hW, hf, hL, h3⟩
def jm_bL (r : Option jm_R) (f : Int64 → jm_X → Option jm_R) : Option jm_R := jm_bind r (fun v x => match v with
  | some (.long b) => f b x
  | _ => none)
theorem jm_V.callL {P : jm_P} {M y : jm_M} {d pc : Nat} {ls : List (Nat × Value)} {av rest : List Value} {x : jm_X} {r0 : Option jm_R} {f : Int64 → jm_X → Option jm_R} (hok : jm_Ok P) (hcon : jm_Con P y d av x r0) (hinv : jm_Inv P M y pc av rest x) (hy : jm_cw y ∈ jm_t P) (hini : Cond.initialized y.1.cls ∈ jm_t P) (hnl : y.2.2.1 ≤ 21) (hcat : (rest.map fun v => v.category).sum ≤ 8)
    (k : ∀ b x', jm_V P M (d + 1) (pc + 3) ls (.long b :: rest) x' (f b x')) (hu : jm_unc M.2.2.2.2 pc = true := by rfl) : jm_V P M (d + 1) pc ls (av.reverse ++ rest) x (jm_bL r0 f) := by
  refine jm_V.call hok hcon hinv hy hini hnl hcat (fun v x' => ?_) hu
  match v with
  | some (.long b) => exact k b x'
  | none => exact jm_V.stuck
  | some (.int _) => exact jm_V.stuck
  | some (.float _) => exact jm_V.stuck
  | some (.double _) => exact jm_V.stuck
  | some .null => exact jm_V.stuck
  | some (.ref _) => exact jm_V.stuck
  | some (.retAddr _) => exact jm_V.stuck
end
section
/-! THE CONSTANTS of the claim: signs (numbers 1000 ..), Strings (2000 ..), their bytes (3000 ..), the array of all signs (900), the map of the switches (901); what is said of them at every state. Printed by wip/whole/print20.py. -/
def sg_word : List Int32 := [0, 0, 0, 0, 0, 0, 0, 0, 0, 0, 0, 0, 0, 0, 0, 0, 0, 0, 1, 1, 1, 1, 1, 1, 1, 1, 1, 1, 1, 1, 1, 0, 0, 0, 0, 0, 0, 0, 0, 0, 0, 0, 1, 1, 0, 0, 0, 0, 0, 0, 0, 0, 0, 0, 0]
def sg_level : List Int32 := [0, 0, 0, 0, 0, 0, 0, 0, 0, 0, 0, 0, 0, 0, 0, 0, 0, 0, 0, 0, 0, 0, 0, 0, 0, 0, 0, 0, 0, 0, 0, 1, 2, 3, 3, 3, 3, 3, 3, 3, 3, 3, 4, 4, 5, 5, 5, 5, 5, 5, 6, 6, 6, 6, 6]
def sg_kind : List Int32 := [29, 29, 29, 29, 29, 29, 29, 29, 29, 29, 29, 29, 29, 29, 29, 29, 29, 29, 29, 29, 29, 29, 29, 29, 29, 29, 29, 29, 29, 29, 29, 16, 17, 18, 19, 19, 19, 19, 19, 19, 19, 19, 20, 20, 21, 21, 21, 21, 21, 21, 21, 21, 21, 21, 21]
def sg_txt : List Nat := [23, 23, 23, 23, 23, 23, 31, 35, 45, 37, 28, 26, 25, 27, 36, 32, 39, 33, 38, 46, 44, 24, 41, 42, 43, 47, 48, 29, 49, 40, 50, 30, 34, 51, 52, 53, 54, 55, 56, 57, 58, 59, 60, 61, 62, 63, 64, 65, 66, 67, 68, 69, 70, 71, 72]
def sg_swm : List Int32 := [0, 0, 14, 7, 16, 9, 10, 6, 8, 0, 0, 0, 11, 0, 12, 0, 13, 0, 0, 15, 0, 0, 0, 0, 0, 3, 4, 0, 2, 0, 5, 0, 0, 0, 0, 0, 0, 0, 0, 0, 0, 0, 0, 0, 0, 0, 0, 0, 0, 0, 0, 1, 0, 0, 0]
def st_b : List (List Int32) := [[110, 117, 108, 108, 32, 102, 97, 108, 115, 101, 32, 116, 114, 117, 101, 32, 101, 109, 112, 116, 121, 32, 101, 114, 114, 111, 114, 32, 110, 111, 116, 32, 108, 101, 110, 103, 116, 104, 32, 107, 101, 121, 115, 32, 116, 121, 112, 101, 32, 116, 111, 115, 116, 114, 105, 110, 103, 32, 116, 111, 110, 117, 109, 98, 101, 114, 32, 115, 111, 114, 116, 32, 114, 101, 118, 101, 114, 115, 101, 32, 101, 120, 112, 108, 111, 100, 101, 32, 105, 109, 112, 108, 111, 100, 101, 32, 102, 108, 111, 111, 114, 32, 97, 98, 115, 32], [101, 114, 114, 111, 114, 32, 104, 97, 115, 32, 99, 111, 110, 116, 97, 105, 110, 115, 32, 115, 112, 108, 105, 116, 32, 106, 111, 105, 110, 32, 103, 101, 116, 112, 97, 116, 104, 32, 115, 111, 114, 116, 95, 98, 121, 32, 103, 114, 111, 117, 112, 95, 98, 121, 32, 112, 97, 116, 104, 32], [114, 97, 110, 103, 101, 32, 115, 101, 116, 112, 97, 116, 104, 32], [97, 110, 100], [97, 115], [98, 114, 101, 97, 107], [99, 97, 116, 99, 104], [100, 101, 102], [101, 108, 105, 102], [101, 108, 115, 101], [101, 110, 100], [102, 111, 114, 101, 97, 99, 104], [105, 102], [108, 97, 98, 101, 108], [111, 114], [114, 101, 100, 117, 99, 101], [116, 104, 101, 110], [116, 114, 121], [32, 110, 117, 108, 108, 32, 102, 97, 108, 115, 101, 32, 116, 114, 117, 101, 32, 101, 109, 112, 116, 121, 32, 101, 114, 114, 111, 114, 32, 110, 111, 116, 32, 108, 101, 110, 103, 116, 104, 32, 107, 101, 121, 115, 32, 116, 121, 112, 101, 32, 116, 111, 115, 116, 114, 105, 110, 103, 32, 116, 111, 110, 117, 109, 98, 101, 114, 32, 115, 111, 114, 116, 32, 114, 101, 118, 101, 114, 115, 101, 32, 101, 120, 112, 108, 111, 100, 101, 32, 105, 109, 112, 108, 111, 100, 101, 32, 102, 108, 111, 111, 114, 32, 97, 98, 115, 32], [32, 101, 114, 114, 111, 114, 32, 104, 97, 115, 32, 99, 111, 110, 116, 97, 105, 110, 115, 32, 115, 112, 108, 105, 116, 32, 106, 111, 105, 110, 32, 103, 101, 116, 112, 97, 116, 104, 32, 115, 111, 114, 116, 95, 98, 121, 32, 103, 114, 111, 117, 112, 95, 98, 121, 32, 112, 97, 116, 104, 32], [32, 114, 97, 110, 103, 101, 32, 115, 101, 116, 112, 97, 116, 104, 32], [34, 92, 47, 98, 102, 110, 114, 116], [], [], [100, 101, 102], [40], [59], [41], [58], [108, 97, 98, 101, 108], [124], [34], [93], [125], [44], [46], [91], [63], [97, 115], [123], [116, 104, 101, 110], [101, 108, 105, 102], [101, 108, 115, 101], [101, 110, 100], [99, 97, 116, 99, 104], [46, 46], [98, 114, 101, 97, 107], [102, 111, 114, 101, 97, 99, 104], [105, 102], [114, 101, 100, 117, 99, 101], [116, 114, 121], [47, 47], [61], [124, 61], [43, 61], [45, 61], [42, 61], [47, 61], [37, 61], [47, 47, 61], [111, 114], [97, 110, 100], [61, 61], [33, 61], [60], [60, 61], [62], [62, 61], [43], [45], [42], [47], [37]]
def Tall : List Cond := lw_tbl.filter jm_gw
theorem tw {w : Cond} (i : Nat) (h : tables_1[i]? = some w) (hg : jm_gw w = true) : w ∈ Tall := List.mem_filter.mpr ⟨List.mem_append_right _ (List.mem_of_getElem? h), hg⟩
theorem tp {w : Cond} (i : Nat) (h : (k2_sels lw_privs)[i]? = some w) (hg : jm_gw w = true) : w ∈ Tall := List.mem_filter.mpr ⟨List.mem_append_left _ (List.mem_of_getElem? h), hg⟩
theorem tl {ws : List Cond} (h : ∀ w ∈ ws, w ∈ lw_tbl) (hg : ws.all jm_gw = true) : ∀ w ∈ ws, w ∈ Tall := fun w hw => List.mem_filter.mpr ⟨h w hw, List.all_eq_true.mp hg w hw⟩
def fnA : List (String × Nat × String × String × String × String) := [("FilterReader$Grammar", 116, "FilterReader$Sign", "level", "I", "FilterReader"), ("FilterReader$Grammar", 121, "FilterReader$Sign", "kind", "I", "FilterReader"), ("FilterReader$Signs", 33, "FilterReader$Sign", "word", "Z", "FilterReader"), ("FilterReader$Signs", 81, "FilterReader$Sign", "text", "Ljava/lang/String;", "FilterReader")]
def stA : List (String × String × String × Value) := [("FilterReader$Sign", "END", "LFilterReader$Sign;", .ref 1000), ("FilterReader$Sign", "NO_SIGN", "LFilterReader$Sign;", .ref 1001), ("FilterReader$Sign", "NAME", "LFilterReader$Sign;", .ref 1002), ("FilterReader$Sign", "FIELD", "LFilterReader$Sign;", .ref 1003), ("FilterReader$Sign", "VARIABLE", "LFilterReader$Sign;", .ref 1004), ("FilterReader$Sign", "NUMBER", "LFilterReader$Sign;", .ref 1005), ("FilterReader$Sign", "STRING", "LFilterReader$Sign;", .ref 1006), ("FilterReader$Sign", "DOT", "LFilterReader$Sign;", .ref 1007), ("FilterReader$Sign", "DOTS", "LFilterReader$Sign;", .ref 1008), ("FilterReader$Sign", "QUESTION", "LFilterReader$Sign;", .ref 1009), ("FilterReader$Sign", "COLON", "LFilterReader$Sign;", .ref 1010), ("FilterReader$Sign", "SEMICOLON", "LFilterReader$Sign;", .ref 1011), ("FilterReader$Sign", "ROUND_OPEN", "LFilterReader$Sign;", .ref 1012), ("FilterReader$Sign", "ROUND_CLOSE", "LFilterReader$Sign;", .ref 1013), ("FilterReader$Sign", "SQUARE_OPEN", "LFilterReader$Sign;", .ref 1014), ("FilterReader$Sign", "SQUARE_CLOSE", "LFilterReader$Sign;", .ref 1015), ("FilterReader$Sign", "CURLY_OPEN", "LFilterReader$Sign;", .ref 1016), ("FilterReader$Sign", "CURLY_CLOSE", "LFilterReader$Sign;", .ref 1017), ("FilterReader$Sign", "AS", "LFilterReader$Sign;", .ref 1018), ("FilterReader$Sign", "BREAK", "LFilterReader$Sign;", .ref 1019), ("FilterReader$Sign", "CATCH", "LFilterReader$Sign;", .ref 1020), ("FilterReader$Sign", "DEF", "LFilterReader$Sign;", .ref 1021), ("FilterReader$Sign", "ELIF", "LFilterReader$Sign;", .ref 1022), ("FilterReader$Sign", "ELSE", "LFilterReader$Sign;", .ref 1023), ("FilterReader$Sign", "END_WORD", "LFilterReader$Sign;", .ref 1024), ("FilterReader$Sign", "FOREACH", "LFilterReader$Sign;", .ref 1025), ("FilterReader$Sign", "IF", "LFilterReader$Sign;", .ref 1026), ("FilterReader$Sign", "LABEL", "LFilterReader$Sign;", .ref 1027), ("FilterReader$Sign", "REDUCE", "LFilterReader$Sign;", .ref 1028), ("FilterReader$Sign", "THEN", "LFilterReader$Sign;", .ref 1029), ("FilterReader$Sign", "TRY", "LFilterReader$Sign;", .ref 1030), ("FilterReader$Sign", "PIPE", "LFilterReader$Sign;", .ref 1031), ("FilterReader$Sign", "COMMA", "LFilterReader$Sign;", .ref 1032), ("FilterReader$Sign", "ALTERNATIVE", "LFilterReader$Sign;", .ref 1033), ("FilterReader$Sign", "ASSIGN", "LFilterReader$Sign;", .ref 1034), ("FilterReader$Sign", "ASSIGN_PIPE", "LFilterReader$Sign;", .ref 1035), ("FilterReader$Sign", "ASSIGN_PLUS", "LFilterReader$Sign;", .ref 1036), ("FilterReader$Sign", "ASSIGN_MINUS", "LFilterReader$Sign;", .ref 1037), ("FilterReader$Sign", "ASSIGN_TIMES", "LFilterReader$Sign;", .ref 1038), ("FilterReader$Sign", "ASSIGN_OVER", "LFilterReader$Sign;", .ref 1039), ("FilterReader$Sign", "ASSIGN_MODULO", "LFilterReader$Sign;", .ref 1040), ("FilterReader$Sign", "ASSIGN_ALTERNATIVE", "LFilterReader$Sign;", .ref 1041), ("FilterReader$Sign", "OR", "LFilterReader$Sign;", .ref 1042), ("FilterReader$Sign", "AND", "LFilterReader$Sign;", .ref 1043), ("FilterReader$Sign", "EQUAL", "LFilterReader$Sign;", .ref 1044), ("FilterReader$Sign", "UNEQUAL", "LFilterReader$Sign;", .ref 1045), ("FilterReader$Sign", "LESS", "LFilterReader$Sign;", .ref 1046), ("FilterReader$Sign", "AT_MOST", "LFilterReader$Sign;", .ref 1047), ("FilterReader$Sign", "MORE", "LFilterReader$Sign;", .ref 1048), ("FilterReader$Sign", "AT_LEAST", "LFilterReader$Sign;", .ref 1049), ("FilterReader$Sign", "PLUS", "LFilterReader$Sign;", .ref 1050), ("FilterReader$Sign", "MINUS", "LFilterReader$Sign;", .ref 1051), ("FilterReader$Sign", "TIMES", "LFilterReader$Sign;", .ref 1052), ("FilterReader$Sign", "OVER", "LFilterReader$Sign;", .ref 1053), ("FilterReader$Sign", "MODULO", "LFilterReader$Sign;", .ref 1054), ("FilterReader$Sign", "ALL", "[LFilterReader$Sign;", .ref 900), ("FilterReader$1", "$SwitchMap$FilterReader$Sign", "[I", .ref 901), ("java/lang/String", "COMPACT_STRINGS", "Z", .int 1)]
def srA : List (String × Nat × String × Nat) := [("FilterReader$Names", 54, "null false true empty error not length keys type tostring tonumber sort reverse explode implode floor abs ", 0), ("FilterReader$Names", 60, "error has contains split join getpath sort_by group_by path ", 1), ("FilterReader$Names", 62, "range setpath ", 2), ("FilterReaderModel", 9, "and", 3), ("FilterReaderModel", 11, "as", 4), ("FilterReaderModel", 13, "break", 5), ("FilterReaderModel", 15, "catch", 6), ("FilterReaderModel", 17, "def", 7), ("FilterReaderModel", 19, "elif", 8), ("FilterReaderModel", 21, "else", 9), ("FilterReaderModel", 23, "end", 10), ("FilterReaderModel", 25, "foreach", 11), ("FilterReaderModel", 27, "if", 12), ("FilterReaderModel", 29, "label", 13), ("FilterReaderModel", 31, "or", 14), ("FilterReaderModel", 33, "reduce", 15), ("FilterReaderModel", 35, "then", 16), ("FilterReaderModel", 37, "try", 17), ("FilterReaderModel", 45, " null false true empty error not length keys type tostring tonumber sort reverse explode implode floor abs ", 18), ("FilterReaderModel", 51, " error has contains split join getpath sort_by group_by path ", 19), ("FilterReaderModel", 56, " range setpath ", 20), ("FilterReaderModel", 296, "\"\\/bfnrt", 21), ("FilterReaderModel", 276, "", 22), ("FilterReader$Sign", 238, "", 23), ("FilterReader$Sign", 294, "def", 24), ("FilterReader$Sign", 267, "(", 25), ("FilterReader$Sign", 264, ";", 26), ("FilterReader$Sign", 270, ")", 27), ("FilterReader$Sign", 261, ":", 28), ("FilterReader$Sign", 312, "label", 29), ("FilterReader$Sign", 324, "|", 30), ("FilterReader$Sign", 249, "\"", 31), ("FilterReader$Sign", 276, "]", 32), ("FilterReader$Sign", 282, "}", 33), ("FilterReader$Sign", 327, ",", 34), ("FilterReader$Sign", 252, ".", 35), ("FilterReader$Sign", 273, "[", 36), ("FilterReader$Sign", 258, "?", 37), ("FilterReader$Sign", 285, "as", 38), ("FilterReader$Sign", 279, "{", 39), ("FilterReader$Sign", 318, "then", 40), ("FilterReader$Sign", 297, "elif", 41), ("FilterReader$Sign", 300, "else", 42), ("FilterReader$Sign", 303, "end", 43), ("FilterReader$Sign", 291, "catch", 44), ("FilterReader$Sign", 255, "..", 45), ("FilterReader$Sign", 288, "break", 46), ("FilterReader$Sign", 306, "foreach", 47), ("FilterReader$Sign", 309, "if", 48), ("FilterReader$Sign", 315, "reduce", 49), ("FilterReader$Sign", 321, "try", 50), ("FilterReader$Sign", 330, "//", 51), ("FilterReader$Sign", 333, "=", 52), ("FilterReader$Sign", 336, "|=", 53), ("FilterReader$Sign", 339, "+=", 54), ("FilterReader$Sign", 342, "-=", 55), ("FilterReader$Sign", 345, "*=", 56), ("FilterReader$Sign", 348, "/=", 57), ("FilterReader$Sign", 351, "%=", 58), ("FilterReader$Sign", 354, "//=", 59), ("FilterReader$Sign", 357, "or", 60), ("FilterReader$Sign", 360, "and", 61), ("FilterReader$Sign", 363, "==", 62), ("FilterReader$Sign", 366, "!=", 63), ("FilterReader$Sign", 369, "<", 64), ("FilterReader$Sign", 372, "<=", 65), ("FilterReader$Sign", 375, ">", 66), ("FilterReader$Sign", 378, ">=", 67), ("FilterReader$Sign", 381, "+", 68), ("FilterReader$Sign", 384, "-", 69), ("FilterReader$Sign", 387, "*", 70), ("FilterReader$Sign", 390, "/", 71), ("FilterReader$Sign", 393, "%", 72)]
def sgA (ad : Nat → Nat) (b0 : Nat) (s : State) (H : Heap) : Prop :=
  (∀ q ∈ stA, va_Z q.1 q.2.1 q.2.2.1 (jm_cv ad q.2.2.2) (fun z => b0 ≤ z) s H) ∧
  (∀ i, i < 55 → va_O "FilterReader$Sign" (ad (1000 + i)) (fun z => b0 ≤ z) s H) ∧
  (∀ i, i < 55 → va_OF "java/lang/Enum" "ordinal" "I" (jm_cv ad (.int (Int32.ofNat i))) (ad (1000 + i)) (fun z => b0 ≤ z) s H) ∧
  (∀ i, i < 55 → va_OF "FilterReader$Sign" "text" "Ljava/lang/String;" (jm_cv ad (.ref (2000 + sg_txt.getD i 0))) (ad (1000 + i)) (fun z => b0 ≤ z) s H) ∧
  (∀ i, i < 55 → va_OF "FilterReader$Sign" "word" "Z" (jm_cv ad (.int (sg_word.getD i 0))) (ad (1000 + i)) (fun z => b0 ≤ z) s H) ∧
  (∀ i, i < 55 → va_OF "FilterReader$Sign" "level" "I" (jm_cv ad (.int (sg_level.getD i 0))) (ad (1000 + i)) (fun z => b0 ≤ z) s H) ∧
  (∀ i, i < 55 → va_OF "FilterReader$Sign" "kind" "I" (jm_cv ad (.int (sg_kind.getD i 0))) (ad (1000 + i)) (fun z => b0 ≤ z) s H) ∧
  (∀ i, i < 1 → va_T (.object "FilterReader$Sign") (ad (900 + i)) 55 (fun j => .ref (ad (1000 + j))) (fun z => b0 ≤ z) s H) ∧
  (∀ i, i < 1 → va_T .int (ad (901 + i)) 55 (fun j => .int (sg_swm.getD j 0)) (fun z => b0 ≤ z) s H) ∧
  (∀ i, i < 73 → va_O "java/lang/String" (ad (2000 + i)) (fun z => b0 ≤ z) s H) ∧
  (∀ i, i < 73 → va_OF "java/lang/String" "coder" "B" (jm_cv ad (.int 0)) (ad (2000 + i)) (fun z => b0 ≤ z) s H) ∧
  (∀ i, i < 73 → va_OF "java/lang/String" "value" "[B" (jm_cv ad (.ref (3000 + i))) (ad (2000 + i)) (fun z => b0 ≤ z) s H) ∧
  (∀ i, i < 73 → va_T .byte (ad (3000 + i)) (st_b.getD i []).length (fun j => .int ((st_b.getD i []).getD j 0)) (fun z => b0 ≤ z) s H) ∧
  (∀ q ∈ srA, vk_R q.1 q.2.1 q.2.2.1 (ad (2000 + q.2.2.2)) s) ∧
  vx_Zq Bundle.tN "UNASSIGNED_STACK" Bundle.steD (fun z => b0 ≤ z) s H ∧ vx_Zq Bundle.tN "SUPPRESSED_SENTINEL" Bundle.listD (fun z => b0 ≤ z) s H ∧
  (va_Z "jdk/internal/util/Preconditions" "SIOOBE_FORMATTER" "Ljava/util/function/BiFunction;" .null (fun z => b0 ≤ z) s H ∨ va_Z "jdk/internal/util/Preconditions" "SIOOBE_FORMATTER" "Ljava/util/function/BiFunction;" (.ref (ad 950)) (fun z => b0 ≤ z) s H)
theorem sgA_kept {ad : Nat → Nat} {b0 : Nat} {u U : State} {H H1 : Heap} (hW : u.WarmedH U.vm) (hq : ∀ q, q < b0 → H1[q]? = H[q]?) (h : sgA ad b0 u H) : sgA ad b0 U H1 := by
  have hk : ∀ a : Nat, a < H.size → ¬ (fun z => b0 ≤ z) a → H1[a]? = H[a]? := fun a _ z => hq a (Nat.lt_of_not_le z)
  obtain ⟨h1, h2, h3, h4, h5, h6, h7, h8, h9, h10, h11, h12, h13, h14, h15, h16, h17⟩ := h
  exact ⟨fun q m => va_Z.moved hW.alike ((h1 q m).kept hk), fun i m => va_O.moved hW.alike ((h2 i m).kept hk), fun i m => va_OF.moved hW.alike ((h3 i m).kept hk), fun i m => va_OF.moved hW.alike ((h4 i m).kept hk), fun i m => va_OF.moved hW.alike ((h5 i m).kept hk),
    fun i m => va_OF.moved hW.alike ((h6 i m).kept hk), fun i m => va_OF.moved hW.alike ((h7 i m).kept hk), fun i m => va_T.moved hW.alike ((h8 i m).kept hk), fun i m => va_T.moved hW.alike ((h9 i m).kept hk), fun i m => va_O.moved hW.alike ((h10 i m).kept hk), fun i m => va_OF.moved hW.alike ((h11 i m).kept hk),
    fun i m => va_OF.moved hW.alike ((h12 i m).kept hk), fun i m => va_T.moved hW.alike ((h13 i m).kept hk), fun q m => (h14 q m).warm hW, vx_Zq.moved hW.alike (h15.kept hk), vx_Zq.moved hW.alike (h16.kept hk), h17.elim (fun z => Or.inl (va_Z.moved hW.alike (z.kept hk))) (fun z => Or.inr (va_Z.moved hW.alike (z.kept hk)))⟩
abbrev jm_PP (l : Launch) (D : va_G) (cl : List vw_C) (ad : Nat → Nat) (aC : Nat → ClassId) (sh : List jm_S) (b0 ec : Nat) : jm_P := (l, D, cl, ad, aC, sh, Tall, fnA, [], b0, sgA ad b0, ec)
/-- all cells of a shape -/
theorem jm_allS {sh : List jm_S} {f : jm_S → Bool} (h : sh.all f = true) {o : Nat} {c : jm_S} (hc : sh[o]? = some c) : f c = true := List.all_eq_true.mp h c (List.mem_of_getElem? hc)
def jm_isr : FieldType → Bool
  | .object _ => true
  | .array _ => true
  | _ => false
def jm_fdok (ci k : Nat) (t : FieldType) (fin : Bool) : jm_S → Bool
  | .inr (.inr q) => if q.1 = ci then (match q.2[k]? with
    | some 0 => decide (t = .int) && !fin
    | some 1 => jm_isr t && !fin
    | _ => true) else true
  | _ => true
theorem jm_FOk.mk {l : Launch} {D : va_G} {cl : List vw_C} {ad : Nat → Nat} {aC : Nat → ClassId} {sh : List jm_S} {b0 ec : Nat} {own C : String} {T : u_T} {N idx ci k : Nat} {ty : Nat → FieldType} (h1 : cl[ci]? = some (C, T, N)) (h2 : k < N) (h3 : (T k).1 = C) (h4 : ∀ w ∈ u_ws C T N, w ∈ Tall)
    (h5 : ∀ k, k < N → parseFieldDescriptor (T k).2.2.1 = some (ty k)) (h6 : ∀ a, a < N → ∀ b, b < N → a ≠ b → (T a).2.1 ≠ (T b).2.1) (h7 : Cond.fieldLink own idx C (T k).2.1 (T k).2.2.1 ∈ Tall) (h8 : sh.all (jm_fdok ci k (ty k) (T k).2.2.2) = true) : jm_FOk (jm_PP l D cl ad aC sh b0 ec) own idx ci k := by
  refine ⟨C, T, N, ty, h1, h2, h3, h4, h5, h6, Or.inl h7, fun o fs hs => ?_⟩
  have h := jm_allS h8 hs
  simp only [jm_fdok, if_pos] at h
  refine ⟨fun hf => ?_, fun hf => ?_⟩
  · rw [hf] at h
    simp only [Bool.and_eq_true, decide_eq_true_eq, Bool.not_eq_true'] at h
    exact h
  · rw [hf] at h
    simp only [Bool.and_eq_true, Bool.not_eq_true'] at h
    refine ⟨?_, h.2⟩
    cases ht : ty k with
    | object n => exact ⟨n, Or.inl rfl⟩
    | array u => exact ⟨"", Or.inr ⟨u, rfl⟩⟩
    | _ => rw [ht] at h; simp [jm_isr] at h
theorem jm_SOk.mk {l : Launch} {D : va_G} {cl : List vw_C} {ad : Nat → Nat} {aC : Nat → ClassId} {sh : List jm_S} {b0 ec idx i : Nat} {own C n dsc : String} {v : Value} (h1 : Cond.fieldLink own idx C n dsc ∈ Tall) (h2 : stA[i]? = some (C, n, dsc, v)) : jm_SOk (jm_PP l D cl ad aC sh b0 ec) own idx v :=
  ⟨C, n, dsc, h1, fun _ _ h => h.1 _ (List.mem_of_getElem? h2)⟩
end
section
/-! what the printed rows use of the constants -/
section JZ
variable {l : Launch} {D : va_G} {cl : List vw_C} {ad : Nat → Nat} {aC : Nat → ClassId} {sh : List jm_S} {b0 ec : Nat}
theorem cs_ord : ∀ (s : State) (H : Heap), jm_sg (jm_PP l D cl ad aC sh b0 ec) s H → ∀ i, i < 55 → va_OF "java/lang/Enum" "ordinal" "I" (jm_cv ad (.int (Int32.ofNat i))) (ad (1000 + i)) (fun z => b0 ≤ z) s H := fun _ _ h => h.2.2.1
theorem cs_text : ∀ (s : State) (H : Heap), jm_sg (jm_PP l D cl ad aC sh b0 ec) s H → ∀ i, i < 55 → va_OF "FilterReader$Sign" "text" "Ljava/lang/String;" (jm_cv ad (.ref (2000 + sg_txt.getD i 0))) (ad (1000 + i)) (fun z => b0 ≤ z) s H := fun _ _ h => h.2.2.2.1
theorem cs_word : ∀ (s : State) (H : Heap), jm_sg (jm_PP l D cl ad aC sh b0 ec) s H → ∀ i, i < 55 → va_OF "FilterReader$Sign" "word" "Z" (jm_cv ad (.int (sg_word.getD i 0))) (ad (1000 + i)) (fun z => b0 ≤ z) s H := fun _ _ h => h.2.2.2.2.1
theorem cs_level : ∀ (s : State) (H : Heap), jm_sg (jm_PP l D cl ad aC sh b0 ec) s H → ∀ i, i < 55 → va_OF "FilterReader$Sign" "level" "I" (jm_cv ad (.int (sg_level.getD i 0))) (ad (1000 + i)) (fun z => b0 ≤ z) s H := fun _ _ h => h.2.2.2.2.2.1
theorem cs_kind : ∀ (s : State) (H : Heap), jm_sg (jm_PP l D cl ad aC sh b0 ec) s H → ∀ i, i < 55 → va_OF "FilterReader$Sign" "kind" "I" (jm_cv ad (.int (sg_kind.getD i 0))) (ad (1000 + i)) (fun z => b0 ≤ z) s H := fun _ _ h => h.2.2.2.2.2.2.1
theorem cs_all : ∀ (s : State) (H : Heap), jm_sg (jm_PP l D cl ad aC sh b0 ec) s H → ∀ i, i < 1 → va_T (.object "FilterReader$Sign") (ad (900 + i)) 55 (fun j => .ref (ad (1000 + j))) (fun z => b0 ≤ z) s H := fun _ _ h => h.2.2.2.2.2.2.2.1
theorem cs_all0 : ∀ (s : State) (H : Heap), jm_sg (jm_PP l D cl ad aC sh b0 ec) s H → va_T (.object "FilterReader$Sign") (ad 900) 55 (fun j => .ref (ad (1000 + j))) (fun z => b0 ≤ z) s H := fun _ _ h => h.2.2.2.2.2.2.2.1 0 (by omega)
theorem cs_swm : ∀ (s : State) (H : Heap), jm_sg (jm_PP l D cl ad aC sh b0 ec) s H → ∀ i, i < 1 → va_T .int (ad (901 + i)) 55 (fun j => .int (sg_swm.getD j 0)) (fun z => b0 ≤ z) s H := fun _ _ h => h.2.2.2.2.2.2.2.2.1
theorem cs_coder : ∀ (s : State) (H : Heap), jm_sg (jm_PP l D cl ad aC sh b0 ec) s H → ∀ i, i < 73 → va_OF "java/lang/String" "coder" "B" (jm_cv ad (.int 0)) (ad (2000 + i)) (fun z => b0 ≤ z) s H := fun _ _ h => h.2.2.2.2.2.2.2.2.2.2.1
theorem cs_value : ∀ (s : State) (H : Heap), jm_sg (jm_PP l D cl ad aC sh b0 ec) s H → ∀ i, i < 73 → va_OF "java/lang/String" "value" "[B" (jm_cv ad (.ref (3000 + i))) (ad (2000 + i)) (fun z => b0 ≤ z) s H := fun _ _ h => h.2.2.2.2.2.2.2.2.2.2.2.1
theorem cs_bytes : ∀ (s : State) (H : Heap), jm_sg (jm_PP l D cl ad aC sh b0 ec) s H → ∀ i, i < 73 → va_T .byte (ad (3000 + i)) (st_b.getD i []).length (fun j => .int ((st_b.getD i []).getD j 0)) (fun z => b0 ≤ z) s H := fun _ _ h => h.2.2.2.2.2.2.2.2.2.2.2.2.1
theorem cs_str {i : Nat} {q : String × Nat × String × Nat} (hq : srA[i]? = some q) : ∀ (s : State) (H : Heap), jm_sg (jm_PP l D cl ad aC sh b0 ec) s H → vk_R q.1 q.2.1 q.2.2.1 (ad (2000 + q.2.2.2)) s := fun _ _ h => h.2.2.2.2.2.2.2.2.2.2.2.2.2.1 _ (List.mem_of_getElem? hq)
theorem cs_thr : ∀ (s : State) (H : Heap), jm_sg (jm_PP l D cl ad aC sh b0 ec) s H → vx_Zq Bundle.tN "UNASSIGNED_STACK" Bundle.steD (fun z => b0 ≤ z) s H ∧ vx_Zq Bundle.tN "SUPPRESSED_SENTINEL" Bundle.listD (fun z => b0 ≤ z) s H := fun _ _ h => ⟨h.2.2.2.2.2.2.2.2.2.2.2.2.2.2.1, h.2.2.2.2.2.2.2.2.2.2.2.2.2.2.2.1⟩
theorem iv_str {M y : jm_M} {pc idx o : Nat} {as rest : List Value} {x : jm_X} (hok : jm_Ok (jm_PP l D cl ad aC sh b0 ec)) (hg : jm_cn 2000 73 o = true) (hd : decode M.2.1 pc = .ok (.invokevirtual idx, 3)) (hlink : Cond.methodLink M.1.cls idx y.1 ∈ Tall) (hin : Cond.instanceMethod y.1 ∈ Tall) (hsel : Cond.selects "java/lang/String" y.1 y.1 ∈ Tall) (hcw : jm_cw y ∈ Tall)
    (hy : y.1.cls ≠ "java/lang/invoke/MethodHandle" ∧ y.1.cls ≠ "java/lang/invoke/VarHandle") (hlen : (parseMethodDescriptor y.1.desc).map (fun q => q.parameters.length) = some as.length) : jm_Inv (jm_PP l D cl ad aC sh b0 ec) M y pc (.ref o :: as) rest x :=
  jm_Inv.virt hd (Or.inl hlink) hin hsel hcw hy hlen (jm_recvO hok (fun s H h => by
    obtain ⟨h1, h2⟩ := jm_cn_of hg
    have h3 := h.2.2.2.2.2.2.2.2.2.1 (o - 2000) h1
    rw [h2] at h3
    exact h3))
theorem iv_ord {M y : jm_M} {xn : MethodName} {pc idx o : Nat} {as rest : List Value} {x : jm_X} (hok : jm_Ok (jm_PP l D cl ad aC sh b0 ec)) (hg : jm_cn 1000 55 o = true) (hd : decode M.2.1 pc = .ok (.invokevirtual idx, 3)) (hlink : Cond.methodLink M.1.cls idx xn ∈ Tall) (hsm : Cond.sameMethod xn.cls "java/lang/Enum" xn.name xn.desc ∈ Tall) (hyn : y.1 = ⟨"java/lang/Enum", xn.name, xn.desc⟩) (hin : Cond.instanceMethod y.1 ∈ Tall)
    (hsel : Cond.selects "FilterReader$Sign" xn y.1 ∈ Tall) (hcw : jm_cw y ∈ Tall) (hlen : (parseMethodDescriptor y.1.desc).map (fun q => q.parameters.length) = some as.length) : jm_Inv (jm_PP l D cl ad aC sh b0 ec) M y pc (.ref o :: as) rest x :=
  jm_Inv.up hd hlink hsm hyn hin hsel hcw (by decide) hlen (jm_recvO hok (fun s H h => by
    obtain ⟨h1, h2⟩ := jm_cn_of hg
    have h3 := h.2.1 (o - 1000) h1
    rw [h2] at h3
    exact h3))
end JZ
theorem jm_V.pc_ {P : jm_P} {M : jm_M} {d pc pc' : Nat} {ls : List (Nat × Value)} {st : List Value} {x : jm_X} {r : Option jm_R} (h : pc = pc') (k : jm_V P M d pc' ls st x r) : jm_V P M d pc ls st x r := h ▸ k
/-- a static of which only 'a reference or null' is said: both ways -/
theorem jm_V.getsq {l : Launch} {D : va_G} {cl : List vw_C} {ad : Nat → Nat} {aC : Nat → ClassId} {sh : List jm_S} {b0 ec : Nat} {M : jm_M} {d pc idx : Nat} {ls : List (Nat × Value)} {st : List Value} {x : jm_X} {r : Option jm_R} (hok : jm_Ok (jm_PP l D cl ad aC sh b0 ec))
    (hlink : Cond.fieldLink M.1.cls idx "jdk/internal/util/Preconditions" "SIOOBE_FORMATTER" "Ljava/util/function/BiFunction;" ∈ Tall) (hd : decode M.2.1 pc = .ok (.getstatic idx, 3)) (k : ∀ v : Value, v = .null ∨ v = .ref 950 → jm_V (jm_PP l D cl ad aC sh b0 ec) M d (pc + 3) ls (v :: st) x r) : jm_V (jm_PP l D cl ad aC sh b0 ec) M d pc ls st x r := by
  intro q hq p e s m args below meth c H locs la hC hl hP hS
  obtain ⟨hx, hb, hml, hret, hlocks, hown, hno, hG⟩ := id hC
  have hZ := hG.2.2.2.2.2.2.2.2.2.2.2.2.2.2.2.2.2.2.2.2.2.2
  rcases hZ with hZ | hZ
  · exact va_gets hx hb hZ (jm_S_w hS (jm_AA_b hok hG)) hown (hG.1 _ hlink args) (fun _ h => h) hd (k .null (Or.inl rfl) q hq p e s m args below meth c H locs la hC hl hP hS)
  · exact va_gets hx hb hZ (jm_S_w hS (jm_AA_b hok hG)) hown (hG.1 _ hlink args) (fun _ h => h) hd (k (.ref 950) (Or.inr rfl) q hq p e s m args below meth c H locs la hC hl hP hS)
end
section
/-! JDK methods that are walked like ours: contracts. Printed by wip/whole/printJ.py. -/
abbrev mt_JS_coder : jm_M := (⟨"java/lang/String", "coder", "()B"⟩, prog_20_method_152_code, 1, (some .byte), [])
theorem mw_JS_coder : jm_cw mt_JS_coder ∈ Tall := tw 312 (by decide +kernel) rfl
theorem mh_JS_coder : mt_JS_coder.1.cls ≠ "java/lang/invoke/MethodHandle" ∧ mt_JS_coder.1.cls ≠ "java/lang/invoke/VarHandle" := by decide +kernel
theorem ml_JS_coder : (parseMethodDescriptor mt_JS_coder.1.desc).map (fun q => q.parameters.length) = some 0 := by decide +kernel
theorem mn_JS_coder : Cond.instanceMethod mt_JS_coder.1 ∈ Tall := tw 310 (by decide +kernel) rfl
theorem ms_JS_coder : Cond.selects "java/lang/String" mt_JS_coder.1 mt_JS_coder.1 ∈ Tall := tw 311 (by decide +kernel) rfl
abbrev mt_JS_length : jm_M := (⟨"java/lang/String", "length", "()I"⟩, prog_20_method_54_code, 1, (some .int), [])
theorem mw_JS_length : jm_cw mt_JS_length ∈ Tall := tw 308 (by decide +kernel) rfl
theorem mh_JS_length : mt_JS_length.1.cls ≠ "java/lang/invoke/MethodHandle" ∧ mt_JS_length.1.cls ≠ "java/lang/invoke/VarHandle" := by decide +kernel
theorem ml_JS_length : (parseMethodDescriptor mt_JS_length.1.desc).map (fun q => q.parameters.length) = some 0 := by decide +kernel
theorem mn_JS_length : Cond.instanceMethod mt_JS_length.1 ∈ Tall := tw 306 (by decide +kernel) rfl
theorem ms_JS_length : Cond.selects "java/lang/String" mt_JS_length.1 mt_JS_length.1 ∈ Tall := tw 307 (by decide +kernel) rfl
abbrev mt_JS_isLatin1 : jm_M := (⟨"java/lang/String", "isLatin1", "()Z"⟩, prog_20_method_154_code, 1, (some .boolean), [])
theorem mw_JS_isLatin1 : jm_cw mt_JS_isLatin1 ∈ Tall := tw 326 (by decide +kernel) rfl
theorem mh_JS_isLatin1 : mt_JS_isLatin1.1.cls ≠ "java/lang/invoke/MethodHandle" ∧ mt_JS_isLatin1.1.cls ≠ "java/lang/invoke/VarHandle" := by decide +kernel
theorem ml_JS_isLatin1 : (parseMethodDescriptor mt_JS_isLatin1.1.desc).map (fun q => q.parameters.length) = some 0 := by decide +kernel
theorem mn_JS_isLatin1 : Cond.instanceMethod mt_JS_isLatin1.1 ∈ Tall := tw 324 (by decide +kernel) rfl
theorem ms_JS_isLatin1 : Cond.selects "java/lang/String" mt_JS_isLatin1.1 mt_JS_isLatin1.1 ∈ Tall := tw 325 (by decide +kernel) rfl
abbrev mt_JL_charAt : jm_M := (⟨"java/lang/StringLatin1", "charAt", "([BI)C"⟩, prog_21_method_2_code, 2, (some .char), [])
theorem mw_JL_charAt : jm_cw mt_JL_charAt ∈ Tall := tw 329 (by decide +kernel) rfl
theorem mh_JL_charAt : mt_JL_charAt.1.cls ≠ "java/lang/invoke/MethodHandle" ∧ mt_JL_charAt.1.cls ≠ "java/lang/invoke/VarHandle" := by decide +kernel
theorem ml_JL_charAt : (parseMethodDescriptor mt_JL_charAt.1.desc).map (fun q => q.parameters.length) = some 2 := by decide +kernel
theorem mq_JL_charAt : Cond.static mt_JL_charAt.1 ∈ Tall := tw 328 (by decide +kernel) rfl
abbrev mt_JS_charAt : jm_M := (⟨"java/lang/String", "charAt", "(I)C"⟩, prog_20_method_56_code, 2, (some .char), [])
theorem mw_JS_charAt : jm_cw mt_JS_charAt ∈ Tall := tw 322 (by decide +kernel) rfl
theorem mh_JS_charAt : mt_JS_charAt.1.cls ≠ "java/lang/invoke/MethodHandle" ∧ mt_JS_charAt.1.cls ≠ "java/lang/invoke/VarHandle" := by decide +kernel
theorem ml_JS_charAt : (parseMethodDescriptor mt_JS_charAt.1.desc).map (fun q => q.parameters.length) = some 1 := by decide +kernel
theorem mn_JS_charAt : Cond.instanceMethod mt_JS_charAt.1 ∈ Tall := tw 320 (by decide +kernel) rfl
theorem ms_JS_charAt : Cond.selects "java/lang/String" mt_JS_charAt.1 mt_JS_charAt.1 ∈ Tall := tw 321 (by decide +kernel) rfl
abbrev mt_JM_min_ii : jm_M := (⟨"java/lang/Math", "min", "(II)I"⟩, prog_18_method_69_code, 2, (some .int), [])
theorem mw_JM_min_ii : jm_cw mt_JM_min_ii ∈ Tall := tw 474 (by decide +kernel) rfl
theorem mh_JM_min_ii : mt_JM_min_ii.1.cls ≠ "java/lang/invoke/MethodHandle" ∧ mt_JM_min_ii.1.cls ≠ "java/lang/invoke/VarHandle" := by decide +kernel
theorem ml_JM_min_ii : (parseMethodDescriptor mt_JM_min_ii.1.desc).map (fun q => q.parameters.length) = some 2 := by decide +kernel
theorem mq_JM_min_ii : Cond.static mt_JM_min_ii.1 ∈ Tall := tw 473 (by decide +kernel) rfl
abbrev mt_JM_max : jm_M := (⟨"java/lang/Math", "max", "(II)I"⟩, prog_18_method_65_code, 2, (some .int), [])
theorem mw_JM_max : jm_cw mt_JM_max ∈ Tall := tw 659 (by decide +kernel) rfl
theorem mh_JM_max : mt_JM_max.1.cls ≠ "java/lang/invoke/MethodHandle" ∧ mt_JM_max.1.cls ≠ "java/lang/invoke/VarHandle" := by decide +kernel
theorem ml_JM_max : (parseMethodDescriptor mt_JM_max.1.desc).map (fun q => q.parameters.length) = some 2 := by decide +kernel
theorem mq_JM_max : Cond.static mt_JM_max.1 ∈ Tall := tw 658 (by decide +kernel) rfl
abbrev mt_JM_min_ll : jm_M := (⟨"java/lang/Math", "min", "(JJ)J"⟩, prog_18_method_70_code, 4, (some .long), [])
theorem mw_JM_min_ll : jm_cw mt_JM_min_ll ∈ Tall := tw 285 (by decide +kernel) rfl
theorem mh_JM_min_ll : mt_JM_min_ll.1.cls ≠ "java/lang/invoke/MethodHandle" ∧ mt_JM_min_ll.1.cls ≠ "java/lang/invoke/VarHandle" := by decide +kernel
theorem ml_JM_min_ll : (parseMethodDescriptor mt_JM_min_ll.1.desc).map (fun q => q.parameters.length) = some 2 := by decide +kernel
theorem mq_JM_min_ll : Cond.static mt_JM_min_ll.1 ∈ Tall := tw 284 (by decide +kernel) rfl
abbrev mt_JE_ordinal : jm_M := (⟨"java/lang/Enum", "ordinal", "()I"⟩, prog_13_method_2_code, 1, (some .int), [])
theorem mw_JE_ordinal : jm_cw mt_JE_ordinal ∈ Tall := tw 498 (by decide +kernel) rfl
theorem mh_JE_ordinal : mt_JE_ordinal.1.cls ≠ "java/lang/invoke/MethodHandle" ∧ mt_JE_ordinal.1.cls ≠ "java/lang/invoke/VarHandle" := by decide +kernel
theorem ml_JE_ordinal : (parseMethodDescriptor mt_JE_ordinal.1.desc).map (fun q => q.parameters.length) = some 0 := by decide +kernel
theorem mn_JE_ordinal : Cond.instanceMethod mt_JE_ordinal.1 ∈ Tall := tw 497 (by decide +kernel) rfl
abbrev mt_JL_canEncode : jm_M := (⟨"java/lang/StringLatin1", "canEncode", "(I)Z"⟩, prog_21_method_4_code, 1, (some .boolean), [])
theorem mw_JL_canEncode : jm_cw mt_JL_canEncode ∈ Tall := tw 975 (by decide +kernel) rfl
theorem mh_JL_canEncode : mt_JL_canEncode.1.cls ≠ "java/lang/invoke/MethodHandle" ∧ mt_JL_canEncode.1.cls ≠ "java/lang/invoke/VarHandle" := by decide +kernel
theorem ml_JL_canEncode : (parseMethodDescriptor mt_JL_canEncode.1.desc).map (fun q => q.parameters.length) = some 1 := by decide +kernel
theorem mq_JL_canEncode : Cond.static mt_JL_canEncode.1 ∈ Tall := tw 974 (by decide +kernel) rfl
abbrev mt_JL_indexOfChar : jm_M := (⟨"java/lang/StringLatin1", "indexOfChar", "([BIII)I"⟩, prog_21_method_23_code, 6, (some .int), [])
theorem mw_JL_indexOfChar : jm_cw mt_JL_indexOfChar ∈ Tall := tw 980 (by decide +kernel) rfl
theorem mh_JL_indexOfChar : mt_JL_indexOfChar.1.cls ≠ "java/lang/invoke/MethodHandle" ∧ mt_JL_indexOfChar.1.cls ≠ "java/lang/invoke/VarHandle" := by decide +kernel
theorem ml_JL_indexOfChar : (parseMethodDescriptor mt_JL_indexOfChar.1.desc).map (fun q => q.parameters.length) = some 4 := by decide +kernel
theorem mq_JL_indexOfChar : Cond.static mt_JL_indexOfChar.1 ∈ Tall := tw 979 (by decide +kernel) rfl
abbrev mt_JL_indexOf : jm_M := (⟨"java/lang/StringLatin1", "indexOf", "([BIII)I"⟩, prog_21_method_22_code, 4, (some .int), [])
theorem mw_JL_indexOf : jm_cw mt_JL_indexOf ∈ Tall := tw 972 (by decide +kernel) rfl
theorem mh_JL_indexOf : mt_JL_indexOf.1.cls ≠ "java/lang/invoke/MethodHandle" ∧ mt_JL_indexOf.1.cls ≠ "java/lang/invoke/VarHandle" := by decide +kernel
theorem ml_JL_indexOf : (parseMethodDescriptor mt_JL_indexOf.1.desc).map (fun q => q.parameters.length) = some 4 := by decide +kernel
theorem mq_JL_indexOf : Cond.static mt_JL_indexOf.1 ∈ Tall := tw 971 (by decide +kernel) rfl
abbrev mt_JS_indexOf_ii : jm_M := (⟨"java/lang/String", "indexOf", "(II)I"⟩, prog_20_method_80_code, 3, (some .int), [])
theorem mw_JS_indexOf_ii : jm_cw mt_JS_indexOf_ii ∈ Tall := tw 968 (by decide +kernel) rfl
theorem mh_JS_indexOf_ii : mt_JS_indexOf_ii.1.cls ≠ "java/lang/invoke/MethodHandle" ∧ mt_JS_indexOf_ii.1.cls ≠ "java/lang/invoke/VarHandle" := by decide +kernel
theorem ml_JS_indexOf_ii : (parseMethodDescriptor mt_JS_indexOf_ii.1.desc).map (fun q => q.parameters.length) = some 2 := by decide +kernel
theorem mn_JS_indexOf_ii : Cond.instanceMethod mt_JS_indexOf_ii.1 ∈ Tall := tw 966 (by decide +kernel) rfl
theorem ms_JS_indexOf_ii : Cond.selects "java/lang/String" mt_JS_indexOf_ii.1 mt_JS_indexOf_ii.1 ∈ Tall := tw 967 (by decide +kernel) rfl
abbrev mt_JS_indexOf_i : jm_M := (⟨"java/lang/String", "indexOf", "(I)I"⟩, prog_20_method_79_code, 2, (some .int), [])
theorem mw_JS_indexOf_i : jm_cw mt_JS_indexOf_i ∈ Tall := tw 964 (by decide +kernel) rfl
theorem mh_JS_indexOf_i : mt_JS_indexOf_i.1.cls ≠ "java/lang/invoke/MethodHandle" ∧ mt_JS_indexOf_i.1.cls ≠ "java/lang/invoke/VarHandle" := by decide +kernel
theorem ml_JS_indexOf_i : (parseMethodDescriptor mt_JS_indexOf_i.1.desc).map (fun q => q.parameters.length) = some 1 := by decide +kernel
theorem mn_JS_indexOf_i : Cond.instanceMethod mt_JS_indexOf_i.1 ∈ Tall := tw 962 (by decide +kernel) rfl
theorem ms_JS_indexOf_i : Cond.selects "java/lang/String" mt_JS_indexOf_i.1 mt_JS_indexOf_i.1 ∈ Tall := tw 963 (by decide +kernel) rfl
abbrev mt_JP_checkIndex : jm_M := (⟨"jdk/internal/util/Preconditions", "checkIndex", "(IILjava/util/function/BiFunction;)I"⟩, prog_26_method_11_code, 3, (some .int), [])
theorem mw_JP_checkIndex : jm_cw mt_JP_checkIndex ∈ Tall := tw 337 (by decide +kernel) rfl
theorem mh_JP_checkIndex : mt_JP_checkIndex.1.cls ≠ "java/lang/invoke/MethodHandle" ∧ mt_JP_checkIndex.1.cls ≠ "java/lang/invoke/VarHandle" := by decide +kernel
theorem ml_JP_checkIndex : (parseMethodDescriptor mt_JP_checkIndex.1.desc).map (fun q => q.parameters.length) = some 3 := by decide +kernel
theorem mq_JP_checkIndex : Cond.static mt_JP_checkIndex.1 ∈ Tall := tw 336 (by decide +kernel) rfl
abbrev mt_JS_checkIndex : jm_M := (⟨"java/lang/String", "checkIndex", "(II)V"⟩, prog_20_method_155_code, 2, none, [])
theorem mw_JS_checkIndex : jm_cw mt_JS_checkIndex ∈ Tall := tw 332 (by decide +kernel) rfl
theorem mh_JS_checkIndex : mt_JS_checkIndex.1.cls ≠ "java/lang/invoke/MethodHandle" ∧ mt_JS_checkIndex.1.cls ≠ "java/lang/invoke/VarHandle" := by decide +kernel
theorem ml_JS_checkIndex : (parseMethodDescriptor mt_JS_checkIndex.1.desc).map (fun q => q.parameters.length) = some 2 := by decide +kernel
theorem mq_JS_checkIndex : Cond.static mt_JS_checkIndex.1 ∈ Tall := tw 331 (by decide +kernel) rfl
theorem mi_JE : Cond.initialized "java/lang/Enum" ∈ Tall := tw 4 (by decide +kernel) rfl
theorem mi_JM : Cond.initialized "java/lang/Math" ∈ Tall := tw 16 (by decide +kernel) rfl
theorem mi_JS : Cond.initialized "java/lang/String" ∈ Tall := tw 17 (by decide +kernel) rfl
theorem mi_JL : Cond.initialized "java/lang/StringLatin1" ∈ Tall := tw 18 (by decide +kernel) rfl
theorem mi_JP : Cond.initialized "jdk/internal/util/Preconditions" ∈ Tall := tw 19 (by decide +kernel) rfl
theorem mo_ord : Cond.sameMethod "FilterReader$Sign" "java/lang/Enum" "ordinal" "()I" ∈ Tall := tw 494 (by decide +kernel) rfl
theorem mp_ord : Cond.selects "FilterReader$Sign" ⟨"FilterReader$Sign", "ordinal", "()I"⟩ mt_JE_ordinal.1 ∈ Tall := tw 496 (by decide +kernel) rfl
theorem lk_JL_38 : Cond.methodLink "java/lang/StringLatin1" 38 ⟨"java/lang/Math", "min", "(II)I"⟩ ∈ Tall := tw 977 (by decide +kernel) rfl
theorem lk_JL_88 : Cond.methodLink "java/lang/StringLatin1" 88 ⟨"java/lang/StringLatin1", "canEncode", "(I)Z"⟩ ∈ Tall := tw 973 (by decide +kernel) rfl
theorem lk_JL_9 : Cond.methodLink "java/lang/StringLatin1" 9 ⟨"java/lang/String", "checkIndex", "(II)V"⟩ ∈ Tall := tw 330 (by decide +kernel) rfl
theorem lk_JL_92 : Cond.methodLink "java/lang/StringLatin1" 92 ⟨"java/lang/Math", "max", "(II)I"⟩ ∈ Tall := tw 976 (by decide +kernel) rfl
theorem lk_JL_95 : Cond.methodLink "java/lang/StringLatin1" 95 ⟨"java/lang/StringLatin1", "indexOfChar", "([BIII)I"⟩ ∈ Tall := tw 978 (by decide +kernel) rfl
theorem lk_JS_335 : Cond.methodLink "java/lang/String" 335 ⟨"java/lang/String", "coder", "()B"⟩ ∈ Tall := tw 309 (by decide +kernel) rfl
theorem lk_JS_492 : Cond.methodLink "java/lang/String" 492 ⟨"java/lang/String", "isLatin1", "()Z"⟩ ∈ Tall := tw 323 (by decide +kernel) rfl
theorem lk_JS_495 : Cond.methodLink "java/lang/String" 495 ⟨"java/lang/StringLatin1", "charAt", "([BI)C"⟩ ∈ Tall := tw 327 (by decide +kernel) rfl
theorem lk_JS_505 : Cond.methodLink "java/lang/String" 505 ⟨"java/lang/String", "length", "()I"⟩ ∈ Tall := tw 969 (by decide +kernel) rfl
theorem lk_JS_633 : Cond.methodLink "java/lang/String" 633 ⟨"java/lang/String", "indexOf", "(II)I"⟩ ∈ Tall := tw 965 (by decide +kernel) rfl
theorem lk_JS_637 : Cond.methodLink "java/lang/String" 637 ⟨"java/lang/StringLatin1", "indexOf", "([BIII)I"⟩ ∈ Tall := tw 970 (by decide +kernel) rfl
theorem lf_JE_7 : Cond.fieldLink "java/lang/Enum" 7 "java/lang/Enum" "ordinal" "I" ∈ Tall := tw 1092 (by decide +kernel) rfl
theorem lf_JS_15 : Cond.fieldLink "java/lang/String" 15 "java/lang/String" "coder" "B" ∈ Tall := tw 1090 (by decide +kernel) rfl
theorem lf_JS_9 : Cond.fieldLink "java/lang/String" 9 "java/lang/String" "value" "[B" ∈ Tall := tw 1089 (by decide +kernel) rfl
abbrev tb_JE : jm_T := ([], [], [])
set_option maxRecDepth 100000 in
theorem tk_JE {l : Launch} {D : va_G} {cl : List vw_C} {ad : Nat → Nat} {aC : Nat → ClassId} {sh : List jm_S} {b0 ec : Nat} : jm_TOk (jm_PP l D cl ad aC sh b0 ec) "java/lang/Enum" tb_JE := ⟨fun _ h => absurd h List.not_mem_nil, fun _ h => absurd h List.not_mem_nil, fun _ h => absurd h List.not_mem_nil⟩
abbrev tb_JM : jm_T := ([], [], [])
set_option maxRecDepth 100000 in
theorem tk_JM {l : Launch} {D : va_G} {cl : List vw_C} {ad : Nat → Nat} {aC : Nat → ClassId} {sh : List jm_S} {b0 ec : Nat} : jm_TOk (jm_PP l D cl ad aC sh b0 ec) "java/lang/Math" tb_JM := ⟨fun _ h => absurd h List.not_mem_nil, fun _ h => absurd h List.not_mem_nil, fun _ h => absurd h List.not_mem_nil⟩
theorem lf_JS_38 : Cond.fieldLink "java/lang/String" 38 "java/lang/String" "COMPACT_STRINGS" "Z" ∈ Tall := tw 313 (by decide +kernel) rfl
abbrev tb_JS : jm_T := ([], [(38, .int 1)], [])
set_option maxRecDepth 100000 in
theorem tk_JS {l : Launch} {D : va_G} {cl : List vw_C} {ad : Nat → Nat} {aC : Nat → ClassId} {sh : List jm_S} {b0 ec : Nat} : jm_TOk (jm_PP l D cl ad aC sh b0 ec) "java/lang/String" tb_JS := ⟨fun _ h => absurd h List.not_mem_nil, List.forall_mem_cons.mpr ⟨jm_SOk.mk (i := 57) lf_JS_38 rfl, fun _ h => absurd h List.not_mem_nil⟩, fun _ h => absurd h List.not_mem_nil⟩
abbrev tb_JL : jm_T := ([], [], [])
set_option maxRecDepth 100000 in
theorem tk_JL {l : Launch} {D : va_G} {cl : List vw_C} {ad : Nat → Nat} {aC : Nat → ClassId} {sh : List jm_S} {b0 ec : Nat} : jm_TOk (jm_PP l D cl ad aC sh b0 ec) "java/lang/StringLatin1" tb_JL := ⟨fun _ h => absurd h List.not_mem_nil, fun _ h => absurd h List.not_mem_nil, fun _ h => absurd h List.not_mem_nil⟩
abbrev bk_JS_coder_0_2 : List (Nat × Instr × Nat) := [(0, .getstatic 38, 3), (3, .ifCond .eq 10, 3)]
theorem bk_JS_coder_0_2_ok : jm_at mt_JS_coder.2.1 bk_JS_coder_0_2 = true := by decide +kernel
abbrev bk_JS_coder_13_1 : List (Nat × Instr × Nat) := [(13, .iconst 1, 1)]
theorem bk_JS_coder_13_1_ok : jm_at mt_JS_coder.2.1 bk_JS_coder_13_1 = true := by decide +kernel
abbrev bk_JS_coder_6_1 : List (Nat × Instr × Nat) := [(6, .aload_n 0, 1)]
theorem bk_JS_coder_6_1_ok : jm_at mt_JS_coder.2.1 bk_JS_coder_6_1 = true := by decide +kernel
abbrev bk_JS_coder_10_1 : List (Nat × Instr × Nat) := [(10, .goto 4, 3)]
theorem bk_JS_coder_10_1_ok : jm_at mt_JS_coder.2.1 bk_JS_coder_10_1 = true := by decide +kernel
abbrev bk_JS_length_0_1 : List (Nat × Instr × Nat) := [(0, .aload_n 0, 1)]
theorem bk_JS_length_0_1_ok : jm_at mt_JS_length.2.1 bk_JS_length_0_1 = true := by decide +kernel
abbrev bk_JS_length_5_1 : List (Nat × Instr × Nat) := [(5, .aload_n 0, 1)]
theorem bk_JS_length_5_1_ok : jm_at mt_JS_length.2.1 bk_JS_length_5_1 = true := by decide +kernel
abbrev bk_JS_length_9_1 : List (Nat × Instr × Nat) := [(9, .ishr, 1)]
theorem bk_JS_length_9_1_ok : jm_at mt_JS_length.2.1 bk_JS_length_9_1 = true := by decide +kernel
abbrev bk_JS_isLatin1_0_2 : List (Nat × Instr × Nat) := [(0, .getstatic 38, 3), (3, .ifCond .eq 14, 3)]
theorem bk_JS_isLatin1_0_2_ok : jm_at mt_JS_isLatin1.2.1 bk_JS_isLatin1_0_2 = true := by decide +kernel
abbrev bk_JS_isLatin1_6_1 : List (Nat × Instr × Nat) := [(6, .aload_n 0, 1)]
theorem bk_JS_isLatin1_6_1_ok : jm_at mt_JS_isLatin1.2.1 bk_JS_isLatin1_6_1 = true := by decide +kernel
abbrev bk_JS_isLatin1_10_1 : List (Nat × Instr × Nat) := [(10, .ifCond .ne 7, 3)]
theorem bk_JS_isLatin1_10_1_ok : jm_at mt_JS_isLatin1.2.1 bk_JS_isLatin1_10_1 = true := by decide +kernel
abbrev bk_JS_isLatin1_13_2 : List (Nat × Instr × Nat) := [(13, .iconst 1, 1), (14, .goto 4, 3)]
theorem bk_JS_isLatin1_13_2_ok : jm_at mt_JS_isLatin1.2.1 bk_JS_isLatin1_13_2 = true := by decide +kernel
abbrev bk_JS_isLatin1_17_1 : List (Nat × Instr × Nat) := [(17, .iconst 0, 1)]
theorem bk_JS_isLatin1_17_1_ok : jm_at mt_JS_isLatin1.2.1 bk_JS_isLatin1_17_1 = true := by decide +kernel
abbrev bk_JL_charAt_0_2 : List (Nat × Instr × Nat) := [(0, .iload_n 1, 1), (1, .aload_n 0, 1)]
theorem bk_JL_charAt_0_2_ok : jm_at mt_JL_charAt.2.1 bk_JL_charAt_0_2 = true := by decide +kernel
abbrev bk_JL_charAt_6_2 : List (Nat × Instr × Nat) := [(6, .aload_n 0, 1), (7, .iload_n 1, 1)]
theorem bk_JL_charAt_6_2_ok : jm_at mt_JL_charAt.2.1 bk_JL_charAt_6_2 = true := by decide +kernel
abbrev bk_JL_charAt_9_3 : List (Nat × Instr × Nat) := [(9, .sipush 255, 3), (12, .iand, 1), (13, .i2c, 1)]
theorem bk_JL_charAt_9_3_ok : jm_at mt_JL_charAt.2.1 bk_JL_charAt_9_3 = true := by decide +kernel
abbrev bk_JS_charAt_0_1 : List (Nat × Instr × Nat) := [(0, .aload_n 0, 1)]
theorem bk_JS_charAt_0_1_ok : jm_at mt_JS_charAt.2.1 bk_JS_charAt_0_1 = true := by decide +kernel
abbrev bk_JS_charAt_4_1 : List (Nat × Instr × Nat) := [(4, .ifCond .eq 12, 3)]
theorem bk_JS_charAt_4_1_ok : jm_at mt_JS_charAt.2.1 bk_JS_charAt_4_1 = true := by decide +kernel
abbrev bk_JS_charAt_16_1 : List (Nat × Instr × Nat) := [(16, .aload_n 0, 1)]
theorem bk_JS_charAt_16_1_ok : jm_at mt_JS_charAt.2.1 bk_JS_charAt_16_1 = true := by decide +kernel
abbrev bk_JS_charAt_20_1 : List (Nat × Instr × Nat) := [(20, .iload_n 1, 1)]
theorem bk_JS_charAt_20_1_ok : jm_at mt_JS_charAt.2.1 bk_JS_charAt_20_1 = true := by decide +kernel
abbrev bk_JS_charAt_7_1 : List (Nat × Instr × Nat) := [(7, .aload_n 0, 1)]
theorem bk_JS_charAt_7_1_ok : jm_at mt_JS_charAt.2.1 bk_JS_charAt_7_1 = true := by decide +kernel
abbrev bk_JS_charAt_11_1 : List (Nat × Instr × Nat) := [(11, .iload_n 1, 1)]
theorem bk_JS_charAt_11_1_ok : jm_at mt_JS_charAt.2.1 bk_JS_charAt_11_1 = true := by decide +kernel
abbrev bk_JM_min_ii_0_3 : List (Nat × Instr × Nat) := [(0, .iload_n 0, 1), (1, .iload_n 1, 1), (2, .if_icmp .gt 7, 3)]
theorem bk_JM_min_ii_0_3_ok : jm_at mt_JM_min_ii.2.1 bk_JM_min_ii_0_3 = true := by decide +kernel
abbrev bk_JM_min_ii_9_1 : List (Nat × Instr × Nat) := [(9, .iload_n 1, 1)]
theorem bk_JM_min_ii_9_1_ok : jm_at mt_JM_min_ii.2.1 bk_JM_min_ii_9_1 = true := by decide +kernel
abbrev bk_JM_min_ii_5_2 : List (Nat × Instr × Nat) := [(5, .iload_n 0, 1), (6, .goto 4, 3)]
theorem bk_JM_min_ii_5_2_ok : jm_at mt_JM_min_ii.2.1 bk_JM_min_ii_5_2 = true := by decide +kernel
abbrev bk_JM_max_0_3 : List (Nat × Instr × Nat) := [(0, .iload_n 0, 1), (1, .iload_n 1, 1), (2, .if_icmp .lt 7, 3)]
theorem bk_JM_max_0_3_ok : jm_at mt_JM_max.2.1 bk_JM_max_0_3 = true := by decide +kernel
abbrev bk_JM_max_9_1 : List (Nat × Instr × Nat) := [(9, .iload_n 1, 1)]
theorem bk_JM_max_9_1_ok : jm_at mt_JM_max.2.1 bk_JM_max_9_1 = true := by decide +kernel
abbrev bk_JM_max_5_2 : List (Nat × Instr × Nat) := [(5, .iload_n 0, 1), (6, .goto 4, 3)]
theorem bk_JM_max_5_2_ok : jm_at mt_JM_max.2.1 bk_JM_max_5_2 = true := by decide +kernel
abbrev bk_JM_min_ll_0_4 : List (Nat × Instr × Nat) := [(0, .lload_n 0, 1), (1, .lload_n 2, 1), (2, .lcmp, 1), (3, .ifCond .gt 7, 3)]
theorem bk_JM_min_ll_0_4_ok : jm_at mt_JM_min_ll.2.1 bk_JM_min_ll_0_4 = true := by decide +kernel
abbrev bk_JM_min_ll_10_1 : List (Nat × Instr × Nat) := [(10, .lload_n 2, 1)]
theorem bk_JM_min_ll_10_1_ok : jm_at mt_JM_min_ll.2.1 bk_JM_min_ll_10_1 = true := by decide +kernel
abbrev bk_JM_min_ll_6_2 : List (Nat × Instr × Nat) := [(6, .lload_n 0, 1), (7, .goto 4, 3)]
theorem bk_JM_min_ll_6_2_ok : jm_at mt_JM_min_ll.2.1 bk_JM_min_ll_6_2 = true := by decide +kernel
abbrev bk_JE_ordinal_0_1 : List (Nat × Instr × Nat) := [(0, .aload_n 0, 1)]
theorem bk_JE_ordinal_0_1_ok : jm_at mt_JE_ordinal.2.1 bk_JE_ordinal_0_1 = true := by decide +kernel
abbrev bk_JL_canEncode_0_2 : List (Nat × Instr × Nat) := [(0, .iload_n 0, 1), (1, .ifCond .lt 14, 3)]
theorem bk_JL_canEncode_0_2_ok : jm_at mt_JL_canEncode.2.1 bk_JL_canEncode_0_2 = true := by decide +kernel
abbrev bk_JL_canEncode_4_3 : List (Nat × Instr × Nat) := [(4, .iload_n 0, 1), (5, .sipush 255, 3), (8, .if_icmp .gt 7, 3)]
theorem bk_JL_canEncode_4_3_ok : jm_at mt_JL_canEncode.2.1 bk_JL_canEncode_4_3 = true := by decide +kernel
abbrev bk_JL_canEncode_11_2 : List (Nat × Instr × Nat) := [(11, .iconst 1, 1), (12, .goto 4, 3)]
theorem bk_JL_canEncode_11_2_ok : jm_at mt_JL_canEncode.2.1 bk_JL_canEncode_11_2 = true := by decide +kernel
abbrev bk_JL_canEncode_15_1 : List (Nat × Instr × Nat) := [(15, .iconst 0, 1)]
theorem bk_JL_canEncode_15_1_ok : jm_at mt_JL_canEncode.2.1 bk_JL_canEncode_15_1 = true := by decide +kernel
abbrev bk_JL_indexOfChar_0_5 : List (Nat × Instr × Nat) := [(0, .iload_n 1, 1), (1, .i2b, 1), (2, .istore 4, 2), (4, .iload_n 2, 1), (5, .istore 5, 2)]
theorem bk_JL_indexOfChar_0_5_ok : jm_at mt_JL_indexOfChar.2.1 bk_JL_indexOfChar_0_5 = true := by decide +kernel
abbrev bk_JL_indexOfChar_7_3 : List (Nat × Instr × Nat) := [(7, .iload 5, 2), (9, .iload_n 3, 1), (10, .if_icmp .ge 21, 3)]
theorem bk_JL_indexOfChar_7_3_ok : jm_at mt_JL_indexOfChar.2.1 bk_JL_indexOfChar_7_3 = true := by decide +kernel
abbrev bk_JL_indexOfChar_31_1 : List (Nat × Instr × Nat) := [(31, .iconst (-1), 1)]
theorem bk_JL_indexOfChar_31_1_ok : jm_at mt_JL_indexOfChar.2.1 bk_JL_indexOfChar_31_1 = true := by decide +kernel
abbrev bk_JL_indexOfChar_13_2 : List (Nat × Instr × Nat) := [(13, .aload_n 0, 1), (14, .iload 5, 2)]
theorem bk_JL_indexOfChar_13_2_ok : jm_at mt_JL_indexOfChar.2.1 bk_JL_indexOfChar_13_2 = true := by decide +kernel
abbrev bk_JL_indexOfChar_17_2 : List (Nat × Instr × Nat) := [(17, .iload 4, 2), (19, .if_icmp .ne 6, 3)]
theorem bk_JL_indexOfChar_17_2_ok : jm_at mt_JL_indexOfChar.2.1 bk_JL_indexOfChar_17_2 = true := by decide +kernel
abbrev bk_JL_indexOfChar_22_1 : List (Nat × Instr × Nat) := [(22, .iload 5, 2)]
theorem bk_JL_indexOfChar_22_1_ok : jm_at mt_JL_indexOfChar.2.1 bk_JL_indexOfChar_22_1 = true := by decide +kernel
abbrev bk_JL_indexOfChar_25_2 : List (Nat × Instr × Nat) := [(25, .iinc 5 1, 3), (28, .goto (-21), 3)]
theorem bk_JL_indexOfChar_25_2_ok : jm_at mt_JL_indexOfChar.2.1 bk_JL_indexOfChar_25_2 = true := by decide +kernel
abbrev bk_JL_indexOf_0_1 : List (Nat × Instr × Nat) := [(0, .iload_n 1, 1)]
theorem bk_JL_indexOf_0_1_ok : jm_at mt_JL_indexOf.2.1 bk_JL_indexOf_0_1 = true := by decide +kernel
abbrev bk_JL_indexOf_4_1 : List (Nat × Instr × Nat) := [(4, .ifCond .ne 5, 3)]
theorem bk_JL_indexOf_4_1_ok : jm_at mt_JL_indexOf.2.1 bk_JL_indexOf_4_1 = true := by decide +kernel
abbrev bk_JL_indexOf_7_1 : List (Nat × Instr × Nat) := [(7, .iconst (-1), 1)]
theorem bk_JL_indexOf_7_1_ok : jm_at mt_JL_indexOf.2.1 bk_JL_indexOf_7_1 = true := by decide +kernel
abbrev bk_JL_indexOf_9_2 : List (Nat × Instr × Nat) := [(9, .iload_n 2, 1), (10, .iconst 0, 1)]
theorem bk_JL_indexOf_9_2_ok : jm_at mt_JL_indexOf.2.1 bk_JL_indexOf_9_2 = true := by decide +kernel
abbrev bk_JL_indexOf_14_3 : List (Nat × Instr × Nat) := [(14, .istore_n 2, 1), (15, .iload_n 3, 1), (16, .aload_n 0, 1)]
theorem bk_JL_indexOf_14_3_ok : jm_at mt_JL_indexOf.2.1 bk_JL_indexOf_14_3 = true := by decide +kernel
abbrev bk_JL_indexOf_21_4 : List (Nat × Instr × Nat) := [(21, .istore_n 3, 1), (22, .iload_n 2, 1), (23, .iload_n 3, 1), (24, .if_icmp .lt 5, 3)]
theorem bk_JL_indexOf_21_4_ok : jm_at mt_JL_indexOf.2.1 bk_JL_indexOf_21_4 = true := by decide +kernel
abbrev bk_JL_indexOf_29_4 : List (Nat × Instr × Nat) := [(29, .aload_n 0, 1), (30, .iload_n 1, 1), (31, .iload_n 2, 1), (32, .iload_n 3, 1)]
theorem bk_JL_indexOf_29_4_ok : jm_at mt_JL_indexOf.2.1 bk_JL_indexOf_29_4 = true := by decide +kernel
abbrev bk_JL_indexOf_27_1 : List (Nat × Instr × Nat) := [(27, .iconst (-1), 1)]
theorem bk_JL_indexOf_27_1_ok : jm_at mt_JL_indexOf.2.1 bk_JL_indexOf_27_1 = true := by decide +kernel
abbrev bk_JS_indexOf_ii_0_1 : List (Nat × Instr × Nat) := [(0, .aload_n 0, 1)]
theorem bk_JS_indexOf_ii_0_1_ok : jm_at mt_JS_indexOf_ii.2.1 bk_JS_indexOf_ii_0_1 = true := by decide +kernel
abbrev bk_JS_indexOf_ii_4_1 : List (Nat × Instr × Nat) := [(4, .ifCond .eq 19, 3)]
theorem bk_JS_indexOf_ii_4_1_ok : jm_at mt_JS_indexOf_ii.2.1 bk_JS_indexOf_ii_4_1 = true := by decide +kernel
abbrev bk_JS_indexOf_ii_23_1 : List (Nat × Instr × Nat) := [(23, .aload_n 0, 1)]
theorem bk_JS_indexOf_ii_23_1_ok : jm_at mt_JS_indexOf_ii.2.1 bk_JS_indexOf_ii_23_1 = true := by decide +kernel
abbrev bk_JS_indexOf_ii_27_3 : List (Nat × Instr × Nat) := [(27, .iload_n 1, 1), (28, .iload_n 2, 1), (29, .aload_n 0, 1)]
theorem bk_JS_indexOf_ii_27_3_ok : jm_at mt_JS_indexOf_ii.2.1 bk_JS_indexOf_ii_27_3 = true := by decide +kernel
abbrev bk_JS_indexOf_ii_7_1 : List (Nat × Instr × Nat) := [(7, .aload_n 0, 1)]
theorem bk_JS_indexOf_ii_7_1_ok : jm_at mt_JS_indexOf_ii.2.1 bk_JS_indexOf_ii_7_1 = true := by decide +kernel
abbrev bk_JS_indexOf_ii_11_3 : List (Nat × Instr × Nat) := [(11, .iload_n 1, 1), (12, .iload_n 2, 1), (13, .aload_n 0, 1)]
theorem bk_JS_indexOf_ii_11_3_ok : jm_at mt_JS_indexOf_ii.2.1 bk_JS_indexOf_ii_11_3 = true := by decide +kernel
abbrev bk_JS_indexOf_ii_20_1 : List (Nat × Instr × Nat) := [(20, .goto 16, 3)]
theorem bk_JS_indexOf_ii_20_1_ok : jm_at mt_JS_indexOf_ii.2.1 bk_JS_indexOf_ii_20_1 = true := by decide +kernel
abbrev bk_JS_indexOf_i_0_3 : List (Nat × Instr × Nat) := [(0, .aload_n 0, 1), (1, .iload_n 1, 1), (2, .iconst 0, 1)]
theorem bk_JS_indexOf_i_0_3_ok : jm_at mt_JS_indexOf_i.2.1 bk_JS_indexOf_i_0_3 = true := by decide +kernel
theorem dd_JS_coder_7 : decode mt_JS_coder.2.1 7 = .ok (.getfield 15, 3) := by decide +kernel
theorem dd_JS_coder_14 : decode mt_JS_coder.2.1 14 = .ok (.ireturn, 1) := by decide +kernel
theorem dd_JS_length_6 : decode mt_JS_length.2.1 6 = .ok (.invokevirtual 335, 3) := by decide +kernel
theorem dd_JS_length_10 : decode mt_JS_length.2.1 10 = .ok (.ireturn, 1) := by decide +kernel
theorem dd_JS_length_4 : decode mt_JS_length.2.1 4 = .ok (.arraylength, 1) := by decide +kernel
theorem dd_JS_length_1 : decode mt_JS_length.2.1 1 = .ok (.getfield 9, 3) := by decide +kernel
theorem dd_JS_isLatin1_7 : decode mt_JS_isLatin1.2.1 7 = .ok (.getfield 15, 3) := by decide +kernel
theorem dd_JS_isLatin1_18 : decode mt_JS_isLatin1.2.1 18 = .ok (.ireturn, 1) := by decide +kernel
theorem dd_JL_charAt_3 : decode mt_JL_charAt.2.1 3 = .ok (.invokestatic 9, 3) := by decide +kernel
theorem dd_JL_charAt_14 : decode mt_JL_charAt.2.1 14 = .ok (.ireturn, 1) := by decide +kernel
theorem dd_JL_charAt_8 : decode mt_JL_charAt.2.1 8 = .ok (.baload, 1) := by decide +kernel
theorem dd_JL_charAt_2 : decode mt_JL_charAt.2.1 2 = .ok (.arraylength, 1) := by decide +kernel
theorem dd_JS_charAt_1 : decode mt_JS_charAt.2.1 1 = .ok (.invokevirtual 492, 3) := by decide +kernel
theorem dd_JS_charAt_17 : decode mt_JS_charAt.2.1 17 = .ok (.getfield 9, 3) := by decide +kernel
theorem dd_JS_charAt_12 : decode mt_JS_charAt.2.1 12 = .ok (.invokestatic 495, 3) := by decide +kernel
theorem dd_JS_charAt_15 : decode mt_JS_charAt.2.1 15 = .ok (.ireturn, 1) := by decide +kernel
theorem dd_JS_charAt_8 : decode mt_JS_charAt.2.1 8 = .ok (.getfield 9, 3) := by decide +kernel
theorem dd_JM_min_ii_10 : decode mt_JM_min_ii.2.1 10 = .ok (.ireturn, 1) := by decide +kernel
theorem dd_JM_max_10 : decode mt_JM_max.2.1 10 = .ok (.ireturn, 1) := by decide +kernel
theorem dd_JM_min_ll_11 : decode mt_JM_min_ll.2.1 11 = .ok (.lreturn, 1) := by decide +kernel
theorem dd_JE_ordinal_4 : decode mt_JE_ordinal.2.1 4 = .ok (.ireturn, 1) := by decide +kernel
theorem dd_JE_ordinal_1 : decode mt_JE_ordinal.2.1 1 = .ok (.getfield 7, 3) := by decide +kernel
theorem dd_JL_canEncode_16 : decode mt_JL_canEncode.2.1 16 = .ok (.ireturn, 1) := by decide +kernel
theorem dd_JL_indexOfChar_32 : decode mt_JL_indexOfChar.2.1 32 = .ok (.ireturn, 1) := by decide +kernel
theorem dd_JL_indexOfChar_24 : decode mt_JL_indexOfChar.2.1 24 = .ok (.ireturn, 1) := by decide +kernel
theorem dd_JL_indexOfChar_16 : decode mt_JL_indexOfChar.2.1 16 = .ok (.baload, 1) := by decide +kernel
theorem dd_JL_indexOf_1 : decode mt_JL_indexOf.2.1 1 = .ok (.invokestatic 88, 3) := by decide +kernel
theorem dd_JL_indexOf_8 : decode mt_JL_indexOf.2.1 8 = .ok (.ireturn, 1) := by decide +kernel
theorem dd_JL_indexOf_11 : decode mt_JL_indexOf.2.1 11 = .ok (.invokestatic 92, 3) := by decide +kernel
theorem dd_JL_indexOf_18 : decode mt_JL_indexOf.2.1 18 = .ok (.invokestatic 38, 3) := by decide +kernel
theorem dd_JL_indexOf_33 : decode mt_JL_indexOf.2.1 33 = .ok (.invokestatic 95, 3) := by decide +kernel
theorem dd_JL_indexOf_36 : decode mt_JL_indexOf.2.1 36 = .ok (.ireturn, 1) := by decide +kernel
theorem dd_JL_indexOf_28 : decode mt_JL_indexOf.2.1 28 = .ok (.ireturn, 1) := by decide +kernel
theorem dd_JL_indexOf_17 : decode mt_JL_indexOf.2.1 17 = .ok (.arraylength, 1) := by decide +kernel
theorem dd_JS_indexOf_ii_1 : decode mt_JS_indexOf_ii.2.1 1 = .ok (.invokevirtual 492, 3) := by decide +kernel
theorem dd_JS_indexOf_ii_30 : decode mt_JS_indexOf_ii.2.1 30 = .ok (.invokevirtual 505, 3) := by decide +kernel
theorem dd_JS_indexOf_ii_24 : decode mt_JS_indexOf_ii.2.1 24 = .ok (.getfield 9, 3) := by decide +kernel
theorem dd_JS_indexOf_ii_14 : decode mt_JS_indexOf_ii.2.1 14 = .ok (.invokevirtual 505, 3) := by decide +kernel
theorem dd_JS_indexOf_ii_17 : decode mt_JS_indexOf_ii.2.1 17 = .ok (.invokestatic 637, 3) := by decide +kernel
theorem dd_JS_indexOf_ii_8 : decode mt_JS_indexOf_ii.2.1 8 = .ok (.getfield 9, 3) := by decide +kernel
theorem dd_JS_indexOf_ii_36 : decode mt_JS_indexOf_ii.2.1 36 = .ok (.ireturn, 1) := by decide +kernel
theorem dd_JS_indexOf_i_3 : decode mt_JS_indexOf_i.2.1 3 = .ok (.invokevirtual 633, 3) := by decide +kernel
theorem dd_JS_indexOf_i_6 : decode mt_JS_indexOf_i.2.1 6 = .ok (.ireturn, 1) := by decide +kernel
theorem jp_0 : jm_at mt_JP_checkIndex.2.1 [(0, .iload_n 0, 1), (1, .ifCond .lt 8, 3)] = true := by decide +kernel
theorem jp_4 : jm_at mt_JP_checkIndex.2.1 [(4, .iload_n 0, 1), (5, .iload_n 1, 1), (6, .if_icmp .lt 10, 3)] = true := by decide +kernel
theorem jp_16 : jm_at mt_JP_checkIndex.2.1 [(16, .iload_n 0, 1)] = true := by decide +kernel
theorem jp_17 : decode mt_JP_checkIndex.2.1 17 = .ok (.ireturn, 1) := by decide +kernel
theorem tn_JP {l : Launch} {D : va_G} {cl : List vw_C} {ad : Nat → Nat} {aC : Nat → ClassId} {sh : List jm_S} {b0 ec : Nat} : jm_TOk (jm_PP l D cl ad aC sh b0 ec) "jdk/internal/util/Preconditions" ([], [], []) := ⟨fun _ h => absurd h List.not_mem_nil, fun _ h => absurd h List.not_mem_nil, fun _ h => absurd h List.not_mem_nil⟩
theorem c_JP_checkIndex {l : Launch} {D : va_G} {cl : List vw_C} {ad : Nat → Nat} {aC : Nat → ClassId} {sh : List jm_S} {b0 ec : Nat} {d0 : Nat} (hok : jm_Ok (jm_PP l D cl ad aC sh b0 ec)) (i n : Int32) (v : Value) (hv : v = .null ∨ v = .ref 950) (x : jm_X) : jm_Con (jm_PP l D cl ad aC sh b0 ec) mt_JP_checkIndex (d0 + 1) [.int i, .int n, v] x (if i < 0 then none else (if i < n then some (.inl (some (.int i), x)) else none)) := by
  have hT := tn_JP (l := l) (D := D) (ad := ad) (aC := aC) (b0 := b0) (cl := cl) (sh := sh) (ec := ec)
  rcases hv with rfl | rfl
  · refine jm_Con.of (plainFor_of_name (by decide +kernel)) (Nat.le_of_ble_eq_true rfl) ?_
    show jm_V _ _ _ 0 [(0, .int i), (1, .int n), (2, .null)] [] x _
    refine jm_V.run (pc' := (if i < 0 then 9 else 4)) (ls' := [(0, .int i), (1, .int n), (2, .null)]) (st' := []) (x' := x) hok hT jp_0 rfl ?_
    refine jm_V.ite (fun _ => jm_V.stuck) (fun _ => ?_)
    refine jm_V.run (pc' := (if i < n then 16 else 9)) (ls' := [(0, .int i), (1, .int n), (2, .null)]) (st' := []) (x' := x) hok hT jp_4 rfl ?_
    refine jm_V.ite (fun _ => ?_) (fun _ => jm_V.stuck)
    refine jm_V.run (pc' := 17) (ls' := [(0, .int i), (1, .int n), (2, .null)]) (st' := [.int i]) (x' := x) hok hT jp_16 rfl ?_
    exact jm_V.iret rfl jp_17
  · refine jm_Con.of (plainFor_of_name (by decide +kernel)) (Nat.le_of_ble_eq_true rfl) ?_
    show jm_V _ _ _ 0 [(0, .int i), (1, .int n), (2, .ref 950)] [] x _
    refine jm_V.run (pc' := (if i < 0 then 9 else 4)) (ls' := [(0, .int i), (1, .int n), (2, .ref 950)]) (st' := []) (x' := x) hok hT jp_0 rfl ?_
    refine jm_V.ite (fun _ => jm_V.stuck) (fun _ => ?_)
    refine jm_V.run (pc' := (if i < n then 16 else 9)) (ls' := [(0, .int i), (1, .int n), (2, .ref 950)]) (st' := []) (x' := x) hok hT jp_4 rfl ?_
    refine jm_V.ite (fun _ => ?_) (fun _ => jm_V.stuck)
    refine jm_V.run (pc' := 17) (ls' := [(0, .int i), (1, .int n), (2, .ref 950)]) (st' := [.int i]) (x' := x) hok hT jp_16 rfl ?_
    exact jm_V.iret rfl jp_17
theorem jq_0 : jm_at mt_JS_checkIndex.2.1 [(0, .iload_n 0, 1), (1, .iload_n 1, 1)] = true := by decide +kernel
theorem jq_2 : decode mt_JS_checkIndex.2.1 2 = .ok (.getstatic 1053, 3) := by decide +kernel
theorem jq_5 : decode mt_JS_checkIndex.2.1 5 = .ok (.invokestatic 1059, 3) := by decide +kernel
theorem jq_8 : jm_at mt_JS_checkIndex.2.1 [(8, .pop, 1)] = true := by decide +kernel
theorem jq_9 : decode mt_JS_checkIndex.2.1 9 = .ok (.return_, 1) := by decide +kernel
theorem jq_f : Cond.fieldLink "java/lang/String" 1053 "jdk/internal/util/Preconditions" "SIOOBE_FORMATTER" "Ljava/util/function/BiFunction;" ∈ Tall := tw 333 (by decide +kernel) rfl
theorem jq_m : Cond.methodLink "java/lang/String" 1059 mt_JP_checkIndex.1 ∈ Tall := tw 335 (by decide +kernel) rfl
def f_JS_checkIndex (K : Nat) (g : jm_Rec) (i n : Int32) (x : jm_X) : Option jm_R := jm_bI (if i < 0 then none else (if i < n then some (.inl (some (.int i), x)) else none)) (fun _ x => some (.inl (none, x)))
set_option maxHeartbeats 4000000 in
theorem c_JS_checkIndex {l : Launch} {D : va_G} {cl : List vw_C} {ad : Nat → Nat} {aC : Nat → ClassId} {sh : List jm_S} {b0 ec : Nat} {K d0 : Nat} {g : jm_Rec} (hok : jm_Ok (jm_PP l D cl ad aC sh b0 ec)) {QQ : Prop} (hrec : QQ) (i n : Int32) (x : jm_X) : jm_Con (jm_PP l D cl ad aC sh b0 ec) mt_JS_checkIndex (d0 + 2) [.int i, .int n] x (f_JS_checkIndex K g i n x) := by
  have hT := tk_JS (l := l) (D := D) (ad := ad) (aC := aC) (b0 := b0) (cl := cl) (sh := sh) (ec := ec)
  refine jm_Con.of (plainFor_of_name (by decide +kernel)) (Nat.le_of_ble_eq_true rfl) ?_
  show jm_V _ _ _ 0 [(0, .int i), (1, .int n)] [] x _
  unfold f_JS_checkIndex
  refine jm_V.run (pc' := 2) (ls' := [(0, .int i), (1, .int n)]) (st' := [.int n, .int i]) (x' := x) hok hT jq_0 rfl ?_
  refine jm_V.getsq hok jq_f jq_2 (fun v hv => ?_)
  refine jm_V.callI (av := [.int i, .int n, v]) (rest := []) hok (jm_Con.mono (c_JP_checkIndex (d0 := d0) hok i n v hv x) (by omega)) (jm_Inv.stat jq_5 (Or.inl jq_m) mq_JP_checkIndex mi_JP mw_JP_checkIndex mh_JP_checkIndex ml_JP_checkIndex) mw_JP_checkIndex mi_JP (Nat.le_of_ble_eq_true rfl) (Nat.le_of_ble_eq_true rfl) (fun b x1 => ?_)
  refine jm_V.run (pc' := 9) (ls' := [(0, .int i), (1, .int n)]) (st' := []) (x' := x1) hok hT jq_8 rfl ?_
  exact jm_V.vret rfl jq_9
def J_JS_coder_14 (K : Nat) (g : jm_Rec) (s0 : Int32) (x : jm_X) : Option jm_R := some (.inl (some (.int (vp_nar .byte s0)), x))
set_option maxRecDepth 100000 in
set_option maxHeartbeats 4000000 in
theorem jj_JS_coder_14 {l : Launch} {D : va_G} {cl : List vw_C} {ad : Nat → Nat} {aC : Nat → ClassId} {sh : List jm_S} {b0 ec : Nat} {K d0 : Nat} {g : jm_Rec} (hok : jm_Ok (jm_PP l D cl ad aC sh b0 ec)) {QQ : Prop} (hrec : QQ) (s0 : Int32) (x : jm_X) : jm_V (jm_PP l D cl ad aC sh b0 ec) mt_JS_coder (d0 + 1) 14 [] [.int s0] x (J_JS_coder_14 K g s0 x) := by
  have hT := tk_JS (l := l) (D := D) (ad := ad) (aC := aC) (b0 := b0) (cl := cl) (sh := sh) (ec := ec)
  unfold J_JS_coder_14
  exact jm_V.nret (t := .byte) rfl rfl dd_JS_coder_14
def f_JS_coder (K : Nat) (g : jm_Rec) (a0 : Nat) (x : jm_X) : Option jm_R := (if (1 : Int32) = 0 then J_JS_coder_14 K g 1 x else (if jm_cn 2000 73 a0 then J_JS_coder_14 K g 0 x else none))
set_option maxRecDepth 100000 in
set_option maxHeartbeats 4000000 in
theorem c_JS_coder {l : Launch} {D : va_G} {cl : List vw_C} {ad : Nat → Nat} {aC : Nat → ClassId} {sh : List jm_S} {b0 ec : Nat} {K d0 : Nat} {g : jm_Rec} (hok : jm_Ok (jm_PP l D cl ad aC sh b0 ec)) {QQ : Prop} (hrec : QQ) (a0 : Nat) (x : jm_X) : jm_Con (jm_PP l D cl ad aC sh b0 ec) mt_JS_coder (d0 + 1) [.ref a0] x (f_JS_coder K g a0 x) := by
  refine jm_Con.of (plainFor_of_name (by decide +kernel)) (Nat.le_of_ble_eq_true rfl) ?_
  have hT := tk_JS (l := l) (D := D) (ad := ad) (aC := aC) (b0 := b0) (cl := cl) (sh := sh) (ec := ec)
  unfold f_JS_coder
  show jm_V _ _ _ 0 [(0, .ref a0)] [] x _
  refine jm_V.run (is := bk_JS_coder_0_2) (pc' := (if (1 : Int32) = 0 then 13 else 6)) (ls' := [(0, .ref a0)]) (st' := []) (x' := x) hok hT bk_JS_coder_0_2_ok rfl ?_
  refine jm_V.ite (fun _ => ?_) (fun _ => ?_)
  · refine jm_V.run (is := bk_JS_coder_13_1) (pc' := 14) (ls' := [(0, .ref a0)]) (st' := [.int 1]) (x' := x) hok hT bk_JS_coder_13_1_ok rfl ?_
    refine jm_V.sub (ls' := []) [] rfl ?_
    exact jj_JS_coder_14 hok hrec 1 x
  · refine jm_V.run (is := bk_JS_coder_6_1) (pc' := 7) (ls' := [(0, .ref a0)]) (st' := [.ref a0]) (x' := x) hok hT bk_JS_coder_6_1_ok rfl ?_
    refine jm_V.getC (v := fun i => .int (0)) hok cs_coder (Or.inl lf_JS_15) dd_JS_coder_7 ?_
    refine jm_V.run (is := bk_JS_coder_10_1) (pc' := 14) (ls' := [(0, .ref a0)]) (st' := [.int 0]) (x' := x) hok hT bk_JS_coder_10_1_ok rfl ?_
    refine jm_V.sub (ls' := []) [] rfl ?_
    exact jj_JS_coder_14 hok hrec 0 x
def f_JS_length (K : Nat) (g : jm_Rec) (a0 : Nat) (x : jm_X) : Option jm_R := (if jm_cn 2000 73 a0 then (if jm_cn 3000 73 (3000 + (a0 - 2000)) then (if jm_cn 2000 73 a0 then jm_bI (f_JS_coder K g a0 x) (fun b2 x1 => some (.inl (some (.int ((Int32.ofNat (st_b.getD ((3000 + (a0 - 2000)) - 3000) []).length) >>> (b2 &&& 31))), x1))) else none) else none) else none)
set_option maxRecDepth 100000 in
set_option maxHeartbeats 4000000 in
theorem c_JS_length {l : Launch} {D : va_G} {cl : List vw_C} {ad : Nat → Nat} {aC : Nat → ClassId} {sh : List jm_S} {b0 ec : Nat} {K d0 : Nat} {g : jm_Rec} (hok : jm_Ok (jm_PP l D cl ad aC sh b0 ec)) {QQ : Prop} (hrec : QQ) (a0 : Nat) (x : jm_X) : jm_Con (jm_PP l D cl ad aC sh b0 ec) mt_JS_length (d0 + 2) [.ref a0] x (f_JS_length K g a0 x) := by
  refine jm_Con.of (plainFor_of_name (by decide +kernel)) (Nat.le_of_ble_eq_true rfl) ?_
  have hT := tk_JS (l := l) (D := D) (ad := ad) (aC := aC) (b0 := b0) (cl := cl) (sh := sh) (ec := ec)
  unfold f_JS_length
  show jm_V _ _ _ 0 [(0, .ref a0)] [] x _
  refine jm_V.run (is := bk_JS_length_0_1) (pc' := 1) (ls' := [(0, .ref a0)]) (st' := [.ref a0]) (x' := x) hok hT bk_JS_length_0_1_ok rfl ?_
  refine jm_V.getC (v := fun i => .ref (3000 + i)) hok cs_value (Or.inl lf_JS_9) dd_JS_length_1 ?_
  refine jm_V.tlen (lo := 3000) (N := 73) (len := fun i => (st_b.getD i []).length) (f := fun i j => .int ((st_b.getD i []).getD j 0)) hok cs_bytes dd_JS_length_4 ?_
  refine jm_V.run (is := bk_JS_length_5_1) (pc' := 6) (ls' := [(0, .ref a0)]) (st' := [.ref a0, .int (Int32.ofNat (st_b.getD ((3000 + (a0 - 2000)) - 3000) []).length)]) (x' := x) hok hT bk_JS_length_5_1_ok rfl ?_
  refine jm_V.guard (fun hg => ?_)
  refine jm_V.callI (av := [.ref a0]) (rest := [.int (Int32.ofNat (st_b.getD ((3000 + (a0 - 2000)) - 3000) []).length)]) hok (jm_Con.mono (c_JS_coder (d0 := d0) hok hrec a0 x) (by omega)) (iv_str hok hg dd_JS_length_6 lk_JS_335 mn_JS_coder ms_JS_coder mw_JS_coder mh_JS_coder ml_JS_coder) mw_JS_coder mi_JS (Nat.le_of_ble_eq_true rfl) (Nat.le_of_ble_eq_true rfl) (fun b2 x1 => ?_)
  refine jm_V.run (is := bk_JS_length_9_1) (pc' := 10) (ls' := [(0, .ref a0)]) (st' := [.int ((Int32.ofNat (st_b.getD ((3000 + (a0 - 2000)) - 3000) []).length) >>> (b2 &&& 31))]) (x' := x1) hok hT bk_JS_length_9_1_ok rfl ?_
  exact jm_V.iret rfl dd_JS_length_10
def J_JS_isLatin1_18 (K : Nat) (g : jm_Rec) (s0 : Int32) (x : jm_X) : Option jm_R := some (.inl (some (.int (vp_nar .boolean s0)), x))
set_option maxRecDepth 100000 in
set_option maxHeartbeats 4000000 in
theorem jj_JS_isLatin1_18 {l : Launch} {D : va_G} {cl : List vw_C} {ad : Nat → Nat} {aC : Nat → ClassId} {sh : List jm_S} {b0 ec : Nat} {K d0 : Nat} {g : jm_Rec} (hok : jm_Ok (jm_PP l D cl ad aC sh b0 ec)) {QQ : Prop} (hrec : QQ) (s0 : Int32) (x : jm_X) : jm_V (jm_PP l D cl ad aC sh b0 ec) mt_JS_isLatin1 (d0 + 1) 18 [] [.int s0] x (J_JS_isLatin1_18 K g s0 x) := by
  have hT := tk_JS (l := l) (D := D) (ad := ad) (aC := aC) (b0 := b0) (cl := cl) (sh := sh) (ec := ec)
  unfold J_JS_isLatin1_18
  exact jm_V.nret (t := .boolean) rfl rfl dd_JS_isLatin1_18
def J_JS_isLatin1_17 (K : Nat) (g : jm_Rec)  (x : jm_X) : Option jm_R := J_JS_isLatin1_18 K g 0 x
set_option maxRecDepth 100000 in
set_option maxHeartbeats 4000000 in
theorem jj_JS_isLatin1_17 {l : Launch} {D : va_G} {cl : List vw_C} {ad : Nat → Nat} {aC : Nat → ClassId} {sh : List jm_S} {b0 ec : Nat} {K d0 : Nat} {g : jm_Rec} (hok : jm_Ok (jm_PP l D cl ad aC sh b0 ec)) {QQ : Prop} (hrec : QQ)  (x : jm_X) : jm_V (jm_PP l D cl ad aC sh b0 ec) mt_JS_isLatin1 (d0 + 1) 17 [] [] x (J_JS_isLatin1_17 K g  x) := by
  have hT := tk_JS (l := l) (D := D) (ad := ad) (aC := aC) (b0 := b0) (cl := cl) (sh := sh) (ec := ec)
  unfold J_JS_isLatin1_17
  refine jm_V.run (is := bk_JS_isLatin1_17_1) (pc' := 18) (ls' := []) (st' := [.int 0]) (x' := x) hok hT bk_JS_isLatin1_17_1_ok rfl ?_
  exact jj_JS_isLatin1_18 hok hrec 0 x
def f_JS_isLatin1 (K : Nat) (g : jm_Rec) (a0 : Nat) (x : jm_X) : Option jm_R := (if (1 : Int32) = 0 then J_JS_isLatin1_17 K g x else (if jm_cn 2000 73 a0 then (if (0 : Int32) = 0 then J_JS_isLatin1_18 K g 1 x else J_JS_isLatin1_17 K g x) else none))
set_option maxRecDepth 100000 in
set_option maxHeartbeats 4000000 in
theorem c_JS_isLatin1 {l : Launch} {D : va_G} {cl : List vw_C} {ad : Nat → Nat} {aC : Nat → ClassId} {sh : List jm_S} {b0 ec : Nat} {K d0 : Nat} {g : jm_Rec} (hok : jm_Ok (jm_PP l D cl ad aC sh b0 ec)) {QQ : Prop} (hrec : QQ) (a0 : Nat) (x : jm_X) : jm_Con (jm_PP l D cl ad aC sh b0 ec) mt_JS_isLatin1 (d0 + 1) [.ref a0] x (f_JS_isLatin1 K g a0 x) := by
  refine jm_Con.of (plainFor_of_name (by decide +kernel)) (Nat.le_of_ble_eq_true rfl) ?_
  have hT := tk_JS (l := l) (D := D) (ad := ad) (aC := aC) (b0 := b0) (cl := cl) (sh := sh) (ec := ec)
  unfold f_JS_isLatin1
  show jm_V _ _ _ 0 [(0, .ref a0)] [] x _
  refine jm_V.run (is := bk_JS_isLatin1_0_2) (pc' := (if (1 : Int32) = 0 then 17 else 6)) (ls' := [(0, .ref a0)]) (st' := []) (x' := x) hok hT bk_JS_isLatin1_0_2_ok rfl ?_
  refine jm_V.ite (fun _ => ?_) (fun _ => ?_)
  · refine jm_V.sub (ls' := []) [] rfl ?_
    exact jj_JS_isLatin1_17 hok hrec x
  · refine jm_V.run (is := bk_JS_isLatin1_6_1) (pc' := 7) (ls' := [(0, .ref a0)]) (st' := [.ref a0]) (x' := x) hok hT bk_JS_isLatin1_6_1_ok rfl ?_
    refine jm_V.getC (v := fun i => .int (0)) hok cs_coder (Or.inl lf_JS_15) dd_JS_isLatin1_7 ?_
    refine jm_V.run (is := bk_JS_isLatin1_10_1) (pc' := (if (0 : Int32) = 0 then 13 else 17)) (ls' := [(0, .ref a0)]) (st' := []) (x' := x) hok hT bk_JS_isLatin1_10_1_ok rfl ?_
    refine jm_V.ite (fun _ => ?_) (fun _ => ?_)
    · refine jm_V.run (is := bk_JS_isLatin1_13_2) (pc' := 18) (ls' := [(0, .ref a0)]) (st' := [.int 1]) (x' := x) hok hT bk_JS_isLatin1_13_2_ok rfl ?_
      refine jm_V.sub (ls' := []) [] rfl ?_
      exact jj_JS_isLatin1_18 hok hrec 1 x
    · refine jm_V.sub (ls' := []) [] rfl ?_
      exact jj_JS_isLatin1_17 hok hrec x
def f_JL_charAt (K : Nat) (g : jm_Rec) (a1 : Nat) (a2 : Int32) (x : jm_X) : Option jm_R := (if jm_cn 3000 73 a1 then jm_bV (f_JS_checkIndex K g a2 (Int32.ofNat (st_b.getD (a1 - 3000) []).length) x) (fun x1 => (if jm_cn 3000 73 a1 then (if jm_ix (st_b.getD (a1 - 3000) []).length a2 then some (.inl (some (.int (vp_nar .char (UInt32.toInt32 (Int32.toUInt32 (((st_b.getD (a1 - 3000) []).getD (Int32.toNatClampNeg a2) 0) &&& 255) % 65536)))), x1)) else none) else none)) else none)
set_option maxRecDepth 100000 in
set_option maxHeartbeats 4000000 in
theorem c_JL_charAt {l : Launch} {D : va_G} {cl : List vw_C} {ad : Nat → Nat} {aC : Nat → ClassId} {sh : List jm_S} {b0 ec : Nat} {K d0 : Nat} {g : jm_Rec} (hok : jm_Ok (jm_PP l D cl ad aC sh b0 ec)) {QQ : Prop} (hrec : QQ) (a1 : Nat) (a2 : Int32) (x : jm_X) : jm_Con (jm_PP l D cl ad aC sh b0 ec) mt_JL_charAt (d0 + 3) [.ref a1, .int a2] x (f_JL_charAt K g a1 a2 x) := by
  refine jm_Con.of (plainFor_of_name (by decide +kernel)) (Nat.le_of_ble_eq_true rfl) ?_
  have hT := tk_JL (l := l) (D := D) (ad := ad) (aC := aC) (b0 := b0) (cl := cl) (sh := sh) (ec := ec)
  unfold f_JL_charAt
  show jm_V _ _ _ 0 [(0, .ref a1), (1, .int a2)] [] x _
  refine jm_V.run (is := bk_JL_charAt_0_2) (pc' := 2) (ls' := [(0, .ref a1), (1, .int a2)]) (st' := [.ref a1, .int a2]) (x' := x) hok hT bk_JL_charAt_0_2_ok rfl ?_
  refine jm_V.tlen (lo := 3000) (N := 73) (len := fun i => (st_b.getD i []).length) (f := fun i j => .int ((st_b.getD i []).getD j 0)) hok cs_bytes dd_JL_charAt_2 ?_
  refine jm_V.callV (av := [.int a2, .int (Int32.ofNat (st_b.getD (a1 - 3000) []).length)]) (rest := []) hok (jm_Con.mono (c_JS_checkIndex (d0 := d0) hok hrec a2 (Int32.ofNat (st_b.getD (a1 - 3000) []).length) x) (by omega)) (jm_Inv.stat dd_JL_charAt_3 (Or.inl lk_JL_9) mq_JS_checkIndex mi_JS mw_JS_checkIndex mh_JS_checkIndex ml_JS_checkIndex) mw_JS_checkIndex mi_JS (Nat.le_of_ble_eq_true rfl) (Nat.le_of_ble_eq_true rfl) (fun x1 => ?_)
  refine jm_V.run (is := bk_JL_charAt_6_2) (pc' := 8) (ls' := [(0, .ref a1), (1, .int a2)]) (st' := [.int a2, .ref a1]) (x' := x1) hok hT bk_JL_charAt_6_2_ok rfl ?_
  refine jm_V.tbald (lo := 3000) (N := 73) (len := fun i => (st_b.getD i []).length) (f := fun i j => (st_b.getD i []).getD j 0) hok cs_bytes dd_JL_charAt_8 ?_
  refine jm_V.run (is := bk_JL_charAt_9_3) (pc' := 14) (ls' := [(0, .ref a1), (1, .int a2)]) (st' := [.int (UInt32.toInt32 (Int32.toUInt32 (((st_b.getD (a1 - 3000) []).getD (Int32.toNatClampNeg a2) 0) &&& 255) % 65536))]) (x' := x1) hok hT bk_JL_charAt_9_3_ok rfl ?_
  exact jm_V.nret (t := .char) rfl rfl dd_JL_charAt_14
def f_JS_charAt (K : Nat) (g : jm_Rec) (a0 : Nat) (a1 : Int32) (x : jm_X) : Option jm_R := (if jm_cn 2000 73 a0 then jm_bI (f_JS_isLatin1 K g a0 x) (fun b2 x1 => (if b2 = 0 then (if jm_cn 2000 73 a0 then none else none) else (if jm_cn 2000 73 a0 then jm_bI (f_JL_charAt K g (3000 + (a0 - 2000)) a1 x1) (fun b4 x3 => some (.inl (some (.int (vp_nar .char b4)), x3))) else none))) else none)
set_option maxRecDepth 100000 in
set_option maxHeartbeats 4000000 in
theorem c_JS_charAt {l : Launch} {D : va_G} {cl : List vw_C} {ad : Nat → Nat} {aC : Nat → ClassId} {sh : List jm_S} {b0 ec : Nat} {K d0 : Nat} {g : jm_Rec} (hok : jm_Ok (jm_PP l D cl ad aC sh b0 ec)) {QQ : Prop} (hrec : QQ) (a0 : Nat) (a1 : Int32) (x : jm_X) : jm_Con (jm_PP l D cl ad aC sh b0 ec) mt_JS_charAt (d0 + 4) [.ref a0, .int a1] x (f_JS_charAt K g a0 a1 x) := by
  refine jm_Con.of (plainFor_of_name (by decide +kernel)) (Nat.le_of_ble_eq_true rfl) ?_
  have hT := tk_JS (l := l) (D := D) (ad := ad) (aC := aC) (b0 := b0) (cl := cl) (sh := sh) (ec := ec)
  unfold f_JS_charAt
  show jm_V _ _ _ 0 [(0, .ref a0), (1, .int a1)] [] x _
  refine jm_V.run (is := bk_JS_charAt_0_1) (pc' := 1) (ls' := [(0, .ref a0), (1, .int a1)]) (st' := [.ref a0]) (x' := x) hok hT bk_JS_charAt_0_1_ok rfl ?_
  refine jm_V.guard (fun hg => ?_)
  refine jm_V.callI (av := [.ref a0]) (rest := []) hok (jm_Con.mono (c_JS_isLatin1 (d0 := d0) hok hrec a0 x) (by omega)) (iv_str hok hg dd_JS_charAt_1 lk_JS_492 mn_JS_isLatin1 ms_JS_isLatin1 mw_JS_isLatin1 mh_JS_isLatin1 ml_JS_isLatin1) mw_JS_isLatin1 mi_JS (Nat.le_of_ble_eq_true rfl) (Nat.le_of_ble_eq_true rfl) (fun b2 x1 => ?_)
  refine jm_V.run (is := bk_JS_charAt_4_1) (pc' := (if b2 = 0 then 16 else 7)) (ls' := [(0, .ref a0), (1, .int a1)]) (st' := []) (x' := x1) hok hT bk_JS_charAt_4_1_ok rfl ?_
  refine jm_V.ite (fun _ => ?_) (fun _ => ?_)
  · refine jm_V.run (is := bk_JS_charAt_16_1) (pc' := 17) (ls' := [(0, .ref a0), (1, .int a1)]) (st' := [.ref a0]) (x' := x1) hok hT bk_JS_charAt_16_1_ok rfl ?_
    refine jm_V.getC (v := fun i => .ref (3000 + i)) hok cs_value (Or.inl lf_JS_9) dd_JS_charAt_17 ?_
    refine jm_V.run (is := bk_JS_charAt_20_1) (pc' := 21) (ls' := [(0, .ref a0), (1, .int a1)]) (st' := [.int a1, .ref (3000 + (a0 - 2000))]) (x' := x1) hok hT bk_JS_charAt_20_1_ok rfl ?_
    exact jm_V.stuck
  · refine jm_V.run (is := bk_JS_charAt_7_1) (pc' := 8) (ls' := [(0, .ref a0), (1, .int a1)]) (st' := [.ref a0]) (x' := x1) hok hT bk_JS_charAt_7_1_ok rfl ?_
    refine jm_V.getC (v := fun i => .ref (3000 + i)) hok cs_value (Or.inl lf_JS_9) dd_JS_charAt_8 ?_
    refine jm_V.run (is := bk_JS_charAt_11_1) (pc' := 12) (ls' := [(0, .ref a0), (1, .int a1)]) (st' := [.int a1, .ref (3000 + (a0 - 2000))]) (x' := x1) hok hT bk_JS_charAt_11_1_ok rfl ?_
    refine jm_V.callI (av := [.ref (3000 + (a0 - 2000)), .int a1]) (rest := []) hok (jm_Con.mono (c_JL_charAt (d0 := d0) hok hrec (3000 + (a0 - 2000)) a1 x1) (by omega)) (jm_Inv.stat dd_JS_charAt_12 (Or.inl lk_JS_495) mq_JL_charAt mi_JL mw_JL_charAt mh_JL_charAt ml_JL_charAt) mw_JL_charAt mi_JL (Nat.le_of_ble_eq_true rfl) (Nat.le_of_ble_eq_true rfl) (fun b4 x3 => ?_)
    exact jm_V.nret (t := .char) rfl rfl dd_JS_charAt_15
def J_JM_min_ii_10 (K : Nat) (g : jm_Rec) (s0 : Int32) (x : jm_X) : Option jm_R := some (.inl (some (.int s0), x))
set_option maxRecDepth 100000 in
set_option maxHeartbeats 4000000 in
theorem jj_JM_min_ii_10 {l : Launch} {D : va_G} {cl : List vw_C} {ad : Nat → Nat} {aC : Nat → ClassId} {sh : List jm_S} {b0 ec : Nat} {K d0 : Nat} {g : jm_Rec} (hok : jm_Ok (jm_PP l D cl ad aC sh b0 ec)) {QQ : Prop} (hrec : QQ) (s0 : Int32) (x : jm_X) : jm_V (jm_PP l D cl ad aC sh b0 ec) mt_JM_min_ii (d0 + 1) 10 [] [.int s0] x (J_JM_min_ii_10 K g s0 x) := by
  have hT := tk_JM (l := l) (D := D) (ad := ad) (aC := aC) (b0 := b0) (cl := cl) (sh := sh) (ec := ec)
  unfold J_JM_min_ii_10
  exact jm_V.iret rfl dd_JM_min_ii_10
def f_JM_min_ii (K : Nat) (g : jm_Rec) (a1 : Int32) (a2 : Int32) (x : jm_X) : Option jm_R := (if a2 < a1 then J_JM_min_ii_10 K g a2 x else J_JM_min_ii_10 K g a1 x)
set_option maxRecDepth 100000 in
set_option maxHeartbeats 4000000 in
theorem c_JM_min_ii {l : Launch} {D : va_G} {cl : List vw_C} {ad : Nat → Nat} {aC : Nat → ClassId} {sh : List jm_S} {b0 ec : Nat} {K d0 : Nat} {g : jm_Rec} (hok : jm_Ok (jm_PP l D cl ad aC sh b0 ec)) {QQ : Prop} (hrec : QQ) (a1 : Int32) (a2 : Int32) (x : jm_X) : jm_Con (jm_PP l D cl ad aC sh b0 ec) mt_JM_min_ii (d0 + 1) [.int a1, .int a2] x (f_JM_min_ii K g a1 a2 x) := by
  refine jm_Con.of (by decide +kernel) (Nat.le_of_ble_eq_true rfl) ?_
  have hT := tk_JM (l := l) (D := D) (ad := ad) (aC := aC) (b0 := b0) (cl := cl) (sh := sh) (ec := ec)
  unfold f_JM_min_ii
  show jm_V _ _ _ 0 [(0, .int a1), (1, .int a2)] [] x _
  refine jm_V.run (is := bk_JM_min_ii_0_3) (pc' := (if a2 < a1 then 9 else 5)) (ls' := [(0, .int a1), (1, .int a2)]) (st' := []) (x' := x) hok hT bk_JM_min_ii_0_3_ok rfl ?_
  refine jm_V.ite (fun _ => ?_) (fun _ => ?_)
  · refine jm_V.run (is := bk_JM_min_ii_9_1) (pc' := 10) (ls' := [(0, .int a1), (1, .int a2)]) (st' := [.int a2]) (x' := x) hok hT bk_JM_min_ii_9_1_ok rfl ?_
    refine jm_V.sub (ls' := []) [] rfl ?_
    exact jj_JM_min_ii_10 hok hrec a2 x
  · refine jm_V.run (is := bk_JM_min_ii_5_2) (pc' := 10) (ls' := [(0, .int a1), (1, .int a2)]) (st' := [.int a1]) (x' := x) hok hT bk_JM_min_ii_5_2_ok rfl ?_
    refine jm_V.sub (ls' := []) [] rfl ?_
    exact jj_JM_min_ii_10 hok hrec a1 x
def J_JM_max_10 (K : Nat) (g : jm_Rec) (s0 : Int32) (x : jm_X) : Option jm_R := some (.inl (some (.int s0), x))
set_option maxRecDepth 100000 in
set_option maxHeartbeats 4000000 in
theorem jj_JM_max_10 {l : Launch} {D : va_G} {cl : List vw_C} {ad : Nat → Nat} {aC : Nat → ClassId} {sh : List jm_S} {b0 ec : Nat} {K d0 : Nat} {g : jm_Rec} (hok : jm_Ok (jm_PP l D cl ad aC sh b0 ec)) {QQ : Prop} (hrec : QQ) (s0 : Int32) (x : jm_X) : jm_V (jm_PP l D cl ad aC sh b0 ec) mt_JM_max (d0 + 1) 10 [] [.int s0] x (J_JM_max_10 K g s0 x) := by
  have hT := tk_JM (l := l) (D := D) (ad := ad) (aC := aC) (b0 := b0) (cl := cl) (sh := sh) (ec := ec)
  unfold J_JM_max_10
  exact jm_V.iret rfl dd_JM_max_10
def f_JM_max (K : Nat) (g : jm_Rec) (a1 : Int32) (a2 : Int32) (x : jm_X) : Option jm_R := (if a1 < a2 then J_JM_max_10 K g a2 x else J_JM_max_10 K g a1 x)
set_option maxRecDepth 100000 in
set_option maxHeartbeats 4000000 in
theorem c_JM_max {l : Launch} {D : va_G} {cl : List vw_C} {ad : Nat → Nat} {aC : Nat → ClassId} {sh : List jm_S} {b0 ec : Nat} {K d0 : Nat} {g : jm_Rec} (hok : jm_Ok (jm_PP l D cl ad aC sh b0 ec)) {QQ : Prop} (hrec : QQ) (a1 : Int32) (a2 : Int32) (x : jm_X) : jm_Con (jm_PP l D cl ad aC sh b0 ec) mt_JM_max (d0 + 1) [.int a1, .int a2] x (f_JM_max K g a1 a2 x) := by
  refine jm_Con.of (by decide +kernel) (Nat.le_of_ble_eq_true rfl) ?_
  have hT := tk_JM (l := l) (D := D) (ad := ad) (aC := aC) (b0 := b0) (cl := cl) (sh := sh) (ec := ec)
  unfold f_JM_max
  show jm_V _ _ _ 0 [(0, .int a1), (1, .int a2)] [] x _
  refine jm_V.run (is := bk_JM_max_0_3) (pc' := (if a1 < a2 then 9 else 5)) (ls' := [(0, .int a1), (1, .int a2)]) (st' := []) (x' := x) hok hT bk_JM_max_0_3_ok rfl ?_
  refine jm_V.ite (fun _ => ?_) (fun _ => ?_)
  · refine jm_V.run (is := bk_JM_max_9_1) (pc' := 10) (ls' := [(0, .int a1), (1, .int a2)]) (st' := [.int a2]) (x' := x) hok hT bk_JM_max_9_1_ok rfl ?_
    refine jm_V.sub (ls' := []) [] rfl ?_
    exact jj_JM_max_10 hok hrec a2 x
  · refine jm_V.run (is := bk_JM_max_5_2) (pc' := 10) (ls' := [(0, .int a1), (1, .int a2)]) (st' := [.int a1]) (x' := x) hok hT bk_JM_max_5_2_ok rfl ?_
    refine jm_V.sub (ls' := []) [] rfl ?_
    exact jj_JM_max_10 hok hrec a1 x
def J_JM_min_ll_11 (K : Nat) (g : jm_Rec) (s0 : Int64) (x : jm_X) : Option jm_R := some (.inl (some (.long s0), x))
set_option maxRecDepth 100000 in
set_option maxHeartbeats 4000000 in
theorem jj_JM_min_ll_11 {l : Launch} {D : va_G} {cl : List vw_C} {ad : Nat → Nat} {aC : Nat → ClassId} {sh : List jm_S} {b0 ec : Nat} {K d0 : Nat} {g : jm_Rec} (hok : jm_Ok (jm_PP l D cl ad aC sh b0 ec)) {QQ : Prop} (hrec : QQ) (s0 : Int64) (x : jm_X) : jm_V (jm_PP l D cl ad aC sh b0 ec) mt_JM_min_ll (d0 + 1) 11 [] [.long s0] x (J_JM_min_ll_11 K g s0 x) := by
  have hT := tk_JM (l := l) (D := D) (ad := ad) (aC := aC) (b0 := b0) (cl := cl) (sh := sh) (ec := ec)
  unfold J_JM_min_ll_11
  exact jm_V.lret rfl dd_JM_min_ll_11
def f_JM_min_ll (K : Nat) (g : jm_Rec) (a1 : Int64) (a2 : Int64) (x : jm_X) : Option jm_R := (if 0 < (lg_cmp a1 a2) then J_JM_min_ll_11 K g a2 x else J_JM_min_ll_11 K g a1 x)
set_option maxRecDepth 100000 in
set_option maxHeartbeats 4000000 in
theorem c_JM_min_ll {l : Launch} {D : va_G} {cl : List vw_C} {ad : Nat → Nat} {aC : Nat → ClassId} {sh : List jm_S} {b0 ec : Nat} {K d0 : Nat} {g : jm_Rec} (hok : jm_Ok (jm_PP l D cl ad aC sh b0 ec)) {QQ : Prop} (hrec : QQ) (a1 : Int64) (a2 : Int64) (x : jm_X) : jm_Con (jm_PP l D cl ad aC sh b0 ec) mt_JM_min_ll (d0 + 1) [.long a1, .long a2] x (f_JM_min_ll K g a1 a2 x) := by
  refine jm_Con.of (by decide +kernel) (Nat.le_of_ble_eq_true rfl) ?_
  have hT := tk_JM (l := l) (D := D) (ad := ad) (aC := aC) (b0 := b0) (cl := cl) (sh := sh) (ec := ec)
  unfold f_JM_min_ll
  show jm_V _ _ _ 0 [(0, .long a1), (2, .long a2)] [] x _
  refine jm_V.run (is := bk_JM_min_ll_0_4) (pc' := (if 0 < (lg_cmp a1 a2) then 10 else 6)) (ls' := [(0, .long a1), (2, .long a2)]) (st' := []) (x' := x) hok hT bk_JM_min_ll_0_4_ok rfl ?_
  refine jm_V.ite (fun _ => ?_) (fun _ => ?_)
  · refine jm_V.run (is := bk_JM_min_ll_10_1) (pc' := 11) (ls' := [(0, .long a1), (2, .long a2)]) (st' := [.long a2]) (x' := x) hok hT bk_JM_min_ll_10_1_ok rfl ?_
    refine jm_V.sub (ls' := []) [] rfl ?_
    exact jj_JM_min_ll_11 hok hrec a2 x
  · refine jm_V.run (is := bk_JM_min_ll_6_2) (pc' := 11) (ls' := [(0, .long a1), (2, .long a2)]) (st' := [.long a1]) (x' := x) hok hT bk_JM_min_ll_6_2_ok rfl ?_
    refine jm_V.sub (ls' := []) [] rfl ?_
    exact jj_JM_min_ll_11 hok hrec a1 x
def f_JE_ordinal (K : Nat) (g : jm_Rec) (a0 : Nat) (x : jm_X) : Option jm_R := (if jm_cn 1000 55 a0 then some (.inl (some (.int (Int32.ofNat (a0 - 1000))), x)) else none)
set_option maxRecDepth 100000 in
set_option maxHeartbeats 4000000 in
theorem c_JE_ordinal {l : Launch} {D : va_G} {cl : List vw_C} {ad : Nat → Nat} {aC : Nat → ClassId} {sh : List jm_S} {b0 ec : Nat} {K d0 : Nat} {g : jm_Rec} (hok : jm_Ok (jm_PP l D cl ad aC sh b0 ec)) {QQ : Prop} (hrec : QQ) (a0 : Nat) (x : jm_X) : jm_Con (jm_PP l D cl ad aC sh b0 ec) mt_JE_ordinal (d0 + 1) [.ref a0] x (f_JE_ordinal K g a0 x) := by
  refine jm_Con.of (plainFor_of_name (by decide +kernel)) (Nat.le_of_ble_eq_true rfl) ?_
  have hT := tk_JE (l := l) (D := D) (ad := ad) (aC := aC) (b0 := b0) (cl := cl) (sh := sh) (ec := ec)
  unfold f_JE_ordinal
  show jm_V _ _ _ 0 [(0, .ref a0)] [] x _
  refine jm_V.run (is := bk_JE_ordinal_0_1) (pc' := 1) (ls' := [(0, .ref a0)]) (st' := [.ref a0]) (x' := x) hok hT bk_JE_ordinal_0_1_ok rfl ?_
  refine jm_V.getC (v := fun i => .int (Int32.ofNat i)) hok cs_ord (Or.inl lf_JE_7) dd_JE_ordinal_1 ?_
  exact jm_V.iret rfl dd_JE_ordinal_4
def J_JL_canEncode_16 (K : Nat) (g : jm_Rec) (s0 : Int32) (x : jm_X) : Option jm_R := some (.inl (some (.int (vp_nar .boolean s0)), x))
set_option maxRecDepth 100000 in
set_option maxHeartbeats 4000000 in
theorem jj_JL_canEncode_16 {l : Launch} {D : va_G} {cl : List vw_C} {ad : Nat → Nat} {aC : Nat → ClassId} {sh : List jm_S} {b0 ec : Nat} {K d0 : Nat} {g : jm_Rec} (hok : jm_Ok (jm_PP l D cl ad aC sh b0 ec)) {QQ : Prop} (hrec : QQ) (s0 : Int32) (x : jm_X) : jm_V (jm_PP l D cl ad aC sh b0 ec) mt_JL_canEncode (d0 + 1) 16 [] [.int s0] x (J_JL_canEncode_16 K g s0 x) := by
  have hT := tk_JL (l := l) (D := D) (ad := ad) (aC := aC) (b0 := b0) (cl := cl) (sh := sh) (ec := ec)
  unfold J_JL_canEncode_16
  exact jm_V.nret (t := .boolean) rfl rfl dd_JL_canEncode_16
def J_JL_canEncode_15 (K : Nat) (g : jm_Rec)  (x : jm_X) : Option jm_R := J_JL_canEncode_16 K g 0 x
set_option maxRecDepth 100000 in
set_option maxHeartbeats 4000000 in
theorem jj_JL_canEncode_15 {l : Launch} {D : va_G} {cl : List vw_C} {ad : Nat → Nat} {aC : Nat → ClassId} {sh : List jm_S} {b0 ec : Nat} {K d0 : Nat} {g : jm_Rec} (hok : jm_Ok (jm_PP l D cl ad aC sh b0 ec)) {QQ : Prop} (hrec : QQ)  (x : jm_X) : jm_V (jm_PP l D cl ad aC sh b0 ec) mt_JL_canEncode (d0 + 1) 15 [] [] x (J_JL_canEncode_15 K g  x) := by
  have hT := tk_JL (l := l) (D := D) (ad := ad) (aC := aC) (b0 := b0) (cl := cl) (sh := sh) (ec := ec)
  unfold J_JL_canEncode_15
  refine jm_V.run (is := bk_JL_canEncode_15_1) (pc' := 16) (ls' := []) (st' := [.int 0]) (x' := x) hok hT bk_JL_canEncode_15_1_ok rfl ?_
  exact jj_JL_canEncode_16 hok hrec 0 x
def f_JL_canEncode (K : Nat) (g : jm_Rec) (a1 : Int32) (x : jm_X) : Option jm_R := (if a1 < 0 then J_JL_canEncode_15 K g x else (if 255 < a1 then J_JL_canEncode_15 K g x else J_JL_canEncode_16 K g 1 x))
set_option maxRecDepth 100000 in
set_option maxHeartbeats 4000000 in
theorem c_JL_canEncode {l : Launch} {D : va_G} {cl : List vw_C} {ad : Nat → Nat} {aC : Nat → ClassId} {sh : List jm_S} {b0 ec : Nat} {K d0 : Nat} {g : jm_Rec} (hok : jm_Ok (jm_PP l D cl ad aC sh b0 ec)) {QQ : Prop} (hrec : QQ) (a1 : Int32) (x : jm_X) : jm_Con (jm_PP l D cl ad aC sh b0 ec) mt_JL_canEncode (d0 + 1) [.int a1] x (f_JL_canEncode K g a1 x) := by
  refine jm_Con.of (plainFor_of_name (by decide +kernel)) (Nat.le_of_ble_eq_true rfl) ?_
  have hT := tk_JL (l := l) (D := D) (ad := ad) (aC := aC) (b0 := b0) (cl := cl) (sh := sh) (ec := ec)
  unfold f_JL_canEncode
  show jm_V _ _ _ 0 [(0, .int a1)] [] x _
  refine jm_V.run (is := bk_JL_canEncode_0_2) (pc' := (if a1 < 0 then 15 else 4)) (ls' := [(0, .int a1)]) (st' := []) (x' := x) hok hT bk_JL_canEncode_0_2_ok rfl ?_
  refine jm_V.ite (fun _ => ?_) (fun _ => ?_)
  · refine jm_V.sub (ls' := []) [] rfl ?_
    exact jj_JL_canEncode_15 hok hrec x
  · refine jm_V.run (is := bk_JL_canEncode_4_3) (pc' := (if 255 < a1 then 15 else 11)) (ls' := [(0, .int a1)]) (st' := []) (x' := x) hok hT bk_JL_canEncode_4_3_ok rfl ?_
    refine jm_V.ite (fun _ => ?_) (fun _ => ?_)
    · refine jm_V.sub (ls' := []) [] rfl ?_
      exact jj_JL_canEncode_15 hok hrec x
    · refine jm_V.run (is := bk_JL_canEncode_11_2) (pc' := 16) (ls' := [(0, .int a1)]) (st' := [.int 1]) (x' := x) hok hT bk_JL_canEncode_11_2_ok rfl ?_
      refine jm_V.sub (ls' := []) [] rfl ?_
      exact jj_JL_canEncode_16 hok hrec 1 x
def B_JL_indexOfChar_7 (K : Nat) (g : jm_Rec) (self : Nat → Int32 → Int32 → Int32 → jm_X → Option jm_R) (v0 : Nat) (v3 : Int32) (v4 : Int32) (v5 : Int32) (x : jm_X) : Option jm_R := (if v3 ≤ v5 then some (.inl (some (.int (-1)), x)) else (if jm_cn 3000 73 v0 then (if jm_ix (st_b.getD (v0 - 3000) []).length v5 then (if ((st_b.getD (v0 - 3000) []).getD (Int32.toNatClampNeg v5) 0) = v4 then some (.inl (some (.int v5), x)) else self v0 v3 v4 (v5 + 1) x) else none) else none))
def L_JL_indexOfChar_7 (K : Nat) (g : jm_Rec) : Nat → Nat → Int32 → Int32 → Int32 → jm_X → Option jm_R
  | 0, _, _, _, _, _ => none
  | k + 1, v0, v3, v4, v5, x => B_JL_indexOfChar_7 K g (L_JL_indexOfChar_7 K g k) v0 v3 v4 v5 x
set_option maxRecDepth 100000 in
set_option maxHeartbeats 4000000 in
theorem jb_JL_indexOfChar_7 {l : Launch} {D : va_G} {cl : List vw_C} {ad : Nat → Nat} {aC : Nat → ClassId} {sh : List jm_S} {b0 ec : Nat} {K d0 : Nat} {g : jm_Rec} (hok : jm_Ok (jm_PP l D cl ad aC sh b0 ec)) {QQ : Prop} (hrec : QQ) {self : Nat → Int32 → Int32 → Int32 → jm_X → Option jm_R} (hself : ∀ (v0 : Nat) (v3 : Int32) (v4 : Int32) (v5 : Int32) (x : jm_X), jm_V (jm_PP l D cl ad aC sh b0 ec) mt_JL_indexOfChar (d0 + 1) 7 [(0, .ref v0), (3, .int v3), (4, .int v4), (5, .int v5)] [] x (self v0 v3 v4 v5 x)) (v0 : Nat) (v3 : Int32) (v4 : Int32) (v5 : Int32) (x : jm_X) : jm_V (jm_PP l D cl ad aC sh b0 ec) mt_JL_indexOfChar (d0 + 1) 7 [(0, .ref v0), (3, .int v3), (4, .int v4), (5, .int v5)] [] x (B_JL_indexOfChar_7 K g self v0 v3 v4 v5 x) := by
  have hT := tk_JL (l := l) (D := D) (ad := ad) (aC := aC) (b0 := b0) (cl := cl) (sh := sh) (ec := ec)
  unfold B_JL_indexOfChar_7
  refine jm_V.run (is := bk_JL_indexOfChar_7_3) (pc' := (if v3 ≤ v5 then 31 else 13)) (ls' := [(0, .ref v0), (3, .int v3), (4, .int v4), (5, .int v5)]) (st' := []) (x' := x) hok hT bk_JL_indexOfChar_7_3_ok rfl ?_
  refine jm_V.ite (fun _ => ?_) (fun _ => ?_)
  · refine jm_V.run (is := bk_JL_indexOfChar_31_1) (pc' := 32) (ls' := [(0, .ref v0), (3, .int v3), (4, .int v4), (5, .int v5)]) (st' := [.int (-1)]) (x' := x) hok hT bk_JL_indexOfChar_31_1_ok rfl ?_
    exact jm_V.iret rfl dd_JL_indexOfChar_32
  · refine jm_V.run (is := bk_JL_indexOfChar_13_2) (pc' := 16) (ls' := [(0, .ref v0), (3, .int v3), (4, .int v4), (5, .int v5)]) (st' := [.int v5, .ref v0]) (x' := x) hok hT bk_JL_indexOfChar_13_2_ok rfl ?_
    refine jm_V.tbald (lo := 3000) (N := 73) (len := fun i => (st_b.getD i []).length) (f := fun i j => (st_b.getD i []).getD j 0) hok cs_bytes dd_JL_indexOfChar_16 ?_
    refine jm_V.run (is := bk_JL_indexOfChar_17_2) (pc' := (if ((st_b.getD (v0 - 3000) []).getD (Int32.toNatClampNeg v5) 0) = v4 then 22 else 25)) (ls' := [(0, .ref v0), (3, .int v3), (4, .int v4), (5, .int v5)]) (st' := []) (x' := x) hok hT bk_JL_indexOfChar_17_2_ok rfl ?_
    refine jm_V.ite (fun _ => ?_) (fun _ => ?_)
    · refine jm_V.run (is := bk_JL_indexOfChar_22_1) (pc' := 24) (ls' := [(0, .ref v0), (3, .int v3), (4, .int v4), (5, .int v5)]) (st' := [.int v5]) (x' := x) hok hT bk_JL_indexOfChar_22_1_ok rfl ?_
      exact jm_V.iret rfl dd_JL_indexOfChar_24
    · refine jm_V.run (is := bk_JL_indexOfChar_25_2) (pc' := 7) (ls' := [(5, .int (v5 + 1)), (0, .ref v0), (3, .int v3), (4, .int v4)]) (st' := []) (x' := x) hok hT bk_JL_indexOfChar_25_2_ok rfl ?_
      refine jm_V.sub (ls' := [(0, .ref v0), (3, .int v3), (4, .int v4), (5, .int (v5 + 1))]) [1, 2, 3, 0] rfl ?_
      exact hself v0 v3 v4 (v5 + 1) x
theorem jl_JL_indexOfChar_7 {l : Launch} {D : va_G} {cl : List vw_C} {ad : Nat → Nat} {aC : Nat → ClassId} {sh : List jm_S} {b0 ec : Nat} {K d0 : Nat} {g : jm_Rec} (hok : jm_Ok (jm_PP l D cl ad aC sh b0 ec)) {QQ : Prop} (hrec : QQ) : ∀ (k : Nat) (v0 : Nat) (v3 : Int32) (v4 : Int32) (v5 : Int32) (x : jm_X), jm_V (jm_PP l D cl ad aC sh b0 ec) mt_JL_indexOfChar (d0 + 1) 7 [(0, .ref v0), (3, .int v3), (4, .int v4), (5, .int v5)] [] x (L_JL_indexOfChar_7 K g k v0 v3 v4 v5 x)
  | 0, _, _, _, _, _ => jm_V.stuck
  | k + 1, v0, v3, v4, v5, x => jb_JL_indexOfChar_7 hok hrec (fun v0 v3 v4 v5 x => jl_JL_indexOfChar_7 hok hrec k v0 v3 v4 v5 x) v0 v3 v4 v5 x
def f_JL_indexOfChar (K : Nat) (g : jm_Rec) (a1 : Nat) (a2 : Int32) (a3 : Int32) (a4 : Int32) (x : jm_X) : Option jm_R := L_JL_indexOfChar_7 K g K a1 a4 (Int8.toInt32 (Int32.toInt8 a2)) a3 x
set_option maxRecDepth 100000 in
set_option maxHeartbeats 4000000 in
theorem c_JL_indexOfChar {l : Launch} {D : va_G} {cl : List vw_C} {ad : Nat → Nat} {aC : Nat → ClassId} {sh : List jm_S} {b0 ec : Nat} {K d0 : Nat} {g : jm_Rec} (hok : jm_Ok (jm_PP l D cl ad aC sh b0 ec)) {QQ : Prop} (hrec : QQ) (a1 : Nat) (a2 : Int32) (a3 : Int32) (a4 : Int32) (x : jm_X) : jm_Con (jm_PP l D cl ad aC sh b0 ec) mt_JL_indexOfChar (d0 + 1) [.ref a1, .int a2, .int a3, .int a4] x (f_JL_indexOfChar K g a1 a2 a3 a4 x) := by
  refine jm_Con.of (plainFor_of_name (by decide +kernel)) (Nat.le_of_ble_eq_true rfl) ?_
  have hT := tk_JL (l := l) (D := D) (ad := ad) (aC := aC) (b0 := b0) (cl := cl) (sh := sh) (ec := ec)
  unfold f_JL_indexOfChar
  show jm_V _ _ _ 0 [(0, .ref a1), (1, .int a2), (2, .int a3), (3, .int a4)] [] x _
  refine jm_V.run (is := bk_JL_indexOfChar_0_5) (pc' := 7) (ls' := [(5, .int a3), (4, .int (Int8.toInt32 (Int32.toInt8 a2))), (0, .ref a1), (1, .int a2), (2, .int a3), (3, .int a4)]) (st' := []) (x' := x) hok hT bk_JL_indexOfChar_0_5_ok rfl ?_
  refine jm_V.sub (ls' := [(0, .ref a1), (3, .int a4), (4, .int (Int8.toInt32 (Int32.toInt8 a2))), (5, .int a3)]) [2, 5, 1, 0] rfl ?_
  exact jl_JL_indexOfChar_7 hok hrec K a1 a4 (Int8.toInt32 (Int32.toInt8 a2)) a3 x
def f_JL_indexOf (K : Nat) (g : jm_Rec) (a1 : Nat) (a2 : Int32) (a3 : Int32) (a4 : Int32) (x : jm_X) : Option jm_R := jm_bI (f_JL_canEncode K g a2 x) (fun b2 x1 => (if b2 = 0 then some (.inl (some (.int (-1)), x1)) else jm_bI (f_JM_max K g a3 0 x1) (fun b4 x3 => (if jm_cn 3000 73 a1 then jm_bI (f_JM_min_ii K g a4 (Int32.ofNat (st_b.getD (a1 - 3000) []).length) x3) (fun b6 x5 => (if b4 < b6 then jm_bI (f_JL_indexOfChar K g a1 a2 b4 b6 x5) (fun b8 x7 => some (.inl (some (.int b8), x7))) else some (.inl (some (.int (-1)), x5)))) else none))))
set_option maxRecDepth 100000 in
set_option maxHeartbeats 4000000 in
theorem c_JL_indexOf {l : Launch} {D : va_G} {cl : List vw_C} {ad : Nat → Nat} {aC : Nat → ClassId} {sh : List jm_S} {b0 ec : Nat} {K d0 : Nat} {g : jm_Rec} (hok : jm_Ok (jm_PP l D cl ad aC sh b0 ec)) {QQ : Prop} (hrec : QQ) (a1 : Nat) (a2 : Int32) (a3 : Int32) (a4 : Int32) (x : jm_X) : jm_Con (jm_PP l D cl ad aC sh b0 ec) mt_JL_indexOf (d0 + 2) [.ref a1, .int a2, .int a3, .int a4] x (f_JL_indexOf K g a1 a2 a3 a4 x) := by
  refine jm_Con.of (plainFor_of_name (by decide +kernel)) (Nat.le_of_ble_eq_true rfl) ?_
  have hT := tk_JL (l := l) (D := D) (ad := ad) (aC := aC) (b0 := b0) (cl := cl) (sh := sh) (ec := ec)
  unfold f_JL_indexOf
  show jm_V _ _ _ 0 [(0, .ref a1), (1, .int a2), (2, .int a3), (3, .int a4)] [] x _
  refine jm_V.run (is := bk_JL_indexOf_0_1) (pc' := 1) (ls' := [(0, .ref a1), (1, .int a2), (2, .int a3), (3, .int a4)]) (st' := [.int a2]) (x' := x) hok hT bk_JL_indexOf_0_1_ok rfl ?_
  refine jm_V.callI (av := [.int a2]) (rest := []) hok (jm_Con.mono (c_JL_canEncode (d0 := d0) hok hrec a2 x) (by omega)) (jm_Inv.stat dd_JL_indexOf_1 (Or.inl lk_JL_88) mq_JL_canEncode mi_JL mw_JL_canEncode mh_JL_canEncode ml_JL_canEncode) mw_JL_canEncode mi_JL (Nat.le_of_ble_eq_true rfl) (Nat.le_of_ble_eq_true rfl) (fun b2 x1 => ?_)
  refine jm_V.run (is := bk_JL_indexOf_4_1) (pc' := (if b2 = 0 then 7 else 9)) (ls' := [(0, .ref a1), (1, .int a2), (2, .int a3), (3, .int a4)]) (st' := []) (x' := x1) hok hT bk_JL_indexOf_4_1_ok rfl ?_
  refine jm_V.ite (fun _ => ?_) (fun _ => ?_)
  · refine jm_V.run (is := bk_JL_indexOf_7_1) (pc' := 8) (ls' := [(0, .ref a1), (1, .int a2), (2, .int a3), (3, .int a4)]) (st' := [.int (-1)]) (x' := x1) hok hT bk_JL_indexOf_7_1_ok rfl ?_
    exact jm_V.iret rfl dd_JL_indexOf_8
  · refine jm_V.run (is := bk_JL_indexOf_9_2) (pc' := 11) (ls' := [(0, .ref a1), (1, .int a2), (2, .int a3), (3, .int a4)]) (st' := [.int 0, .int a3]) (x' := x1) hok hT bk_JL_indexOf_9_2_ok rfl ?_
    refine jm_V.callI (av := [.int a3, .int 0]) (rest := []) hok (jm_Con.mono (c_JM_max (d0 := d0) hok hrec a3 0 x1) (by omega)) (jm_Inv.stat dd_JL_indexOf_11 (Or.inl lk_JL_92) mq_JM_max mi_JM mw_JM_max mh_JM_max ml_JM_max) mw_JM_max mi_JM (Nat.le_of_ble_eq_true rfl) (Nat.le_of_ble_eq_true rfl) (fun b4 x3 => ?_)
    refine jm_V.run (is := bk_JL_indexOf_14_3) (pc' := 17) (ls' := [(2, .int b4), (0, .ref a1), (1, .int a2), (3, .int a4)]) (st' := [.ref a1, .int a4]) (x' := x3) hok hT bk_JL_indexOf_14_3_ok rfl ?_
    refine jm_V.tlen (lo := 3000) (N := 73) (len := fun i => (st_b.getD i []).length) (f := fun i j => .int ((st_b.getD i []).getD j 0)) hok cs_bytes dd_JL_indexOf_17 ?_
    refine jm_V.callI (av := [.int a4, .int (Int32.ofNat (st_b.getD (a1 - 3000) []).length)]) (rest := []) hok (jm_Con.mono (c_JM_min_ii (d0 := d0) hok hrec a4 (Int32.ofNat (st_b.getD (a1 - 3000) []).length) x3) (by omega)) (jm_Inv.stat dd_JL_indexOf_18 (Or.inl lk_JL_38) mq_JM_min_ii mi_JM mw_JM_min_ii mh_JM_min_ii ml_JM_min_ii) mw_JM_min_ii mi_JM (Nat.le_of_ble_eq_true rfl) (Nat.le_of_ble_eq_true rfl) (fun b6 x5 => ?_)
    refine jm_V.run (is := bk_JL_indexOf_21_4) (pc' := (if b4 < b6 then 29 else 27)) (ls' := [(3, .int b6), (2, .int b4), (0, .ref a1), (1, .int a2)]) (st' := []) (x' := x5) hok hT bk_JL_indexOf_21_4_ok rfl ?_
    refine jm_V.ite (fun _ => ?_) (fun _ => ?_)
    · refine jm_V.run (is := bk_JL_indexOf_29_4) (pc' := 33) (ls' := [(3, .int b6), (2, .int b4), (0, .ref a1), (1, .int a2)]) (st' := [.int b6, .int b4, .int a2, .ref a1]) (x' := x5) hok hT bk_JL_indexOf_29_4_ok rfl ?_
      refine jm_V.callI (av := [.ref a1, .int a2, .int b4, .int b6]) (rest := []) hok (jm_Con.mono (c_JL_indexOfChar (d0 := d0) hok hrec a1 a2 b4 b6 x5) (by omega)) (jm_Inv.stat dd_JL_indexOf_33 (Or.inl lk_JL_95) mq_JL_indexOfChar mi_JL mw_JL_indexOfChar mh_JL_indexOfChar ml_JL_indexOfChar) mw_JL_indexOfChar mi_JL (Nat.le_of_ble_eq_true rfl) (Nat.le_of_ble_eq_true rfl) (fun b8 x7 => ?_)
      exact jm_V.iret rfl dd_JL_indexOf_36
    · refine jm_V.run (is := bk_JL_indexOf_27_1) (pc' := 28) (ls' := [(3, .int b6), (2, .int b4), (0, .ref a1), (1, .int a2)]) (st' := [.int (-1)]) (x' := x5) hok hT bk_JL_indexOf_27_1_ok rfl ?_
      exact jm_V.iret rfl dd_JL_indexOf_28
def J_JS_indexOf_ii_36 (K : Nat) (g : jm_Rec) (s0 : Int32) (x : jm_X) : Option jm_R := some (.inl (some (.int s0), x))
set_option maxRecDepth 100000 in
set_option maxHeartbeats 4000000 in
theorem jj_JS_indexOf_ii_36 {l : Launch} {D : va_G} {cl : List vw_C} {ad : Nat → Nat} {aC : Nat → ClassId} {sh : List jm_S} {b0 ec : Nat} {K d0 : Nat} {g : jm_Rec} (hok : jm_Ok (jm_PP l D cl ad aC sh b0 ec)) {QQ : Prop} (hrec : QQ) (s0 : Int32) (x : jm_X) : jm_V (jm_PP l D cl ad aC sh b0 ec) mt_JS_indexOf_ii (d0 + 3) 36 [] [.int s0] x (J_JS_indexOf_ii_36 K g s0 x) := by
  have hT := tk_JS (l := l) (D := D) (ad := ad) (aC := aC) (b0 := b0) (cl := cl) (sh := sh) (ec := ec)
  unfold J_JS_indexOf_ii_36
  exact jm_V.iret rfl dd_JS_indexOf_ii_36
def f_JS_indexOf_ii (K : Nat) (g : jm_Rec) (a0 : Nat) (a1 : Int32) (a2 : Int32) (x : jm_X) : Option jm_R := (if jm_cn 2000 73 a0 then jm_bI (f_JS_isLatin1 K g a0 x) (fun b2 x1 => (if b2 = 0 then (if jm_cn 2000 73 a0 then (if jm_cn 2000 73 a0 then jm_bI (f_JS_length K g a0 x1) (fun b4 x3 => none) else none) else none) else (if jm_cn 2000 73 a0 then (if jm_cn 2000 73 a0 then jm_bI (f_JS_length K g a0 x1) (fun b6 x5 => jm_bI (f_JL_indexOf K g (3000 + (a0 - 2000)) a1 a2 b6 x5) (fun b8 x7 => J_JS_indexOf_ii_36 K g b8 x7)) else none) else none))) else none)
set_option maxRecDepth 100000 in
set_option maxHeartbeats 4000000 in
theorem c_JS_indexOf_ii {l : Launch} {D : va_G} {cl : List vw_C} {ad : Nat → Nat} {aC : Nat → ClassId} {sh : List jm_S} {b0 ec : Nat} {K d0 : Nat} {g : jm_Rec} (hok : jm_Ok (jm_PP l D cl ad aC sh b0 ec)) {QQ : Prop} (hrec : QQ) (a0 : Nat) (a1 : Int32) (a2 : Int32) (x : jm_X) : jm_Con (jm_PP l D cl ad aC sh b0 ec) mt_JS_indexOf_ii (d0 + 3) [.ref a0, .int a1, .int a2] x (f_JS_indexOf_ii K g a0 a1 a2 x) := by
  refine jm_Con.of (plainFor_of_name (by decide +kernel)) (Nat.le_of_ble_eq_true rfl) ?_
  have hT := tk_JS (l := l) (D := D) (ad := ad) (aC := aC) (b0 := b0) (cl := cl) (sh := sh) (ec := ec)
  unfold f_JS_indexOf_ii
  show jm_V _ _ _ 0 [(0, .ref a0), (1, .int a1), (2, .int a2)] [] x _
  refine jm_V.run (is := bk_JS_indexOf_ii_0_1) (pc' := 1) (ls' := [(0, .ref a0), (1, .int a1), (2, .int a2)]) (st' := [.ref a0]) (x' := x) hok hT bk_JS_indexOf_ii_0_1_ok rfl ?_
  refine jm_V.guard (fun hg => ?_)
  refine jm_V.callI (av := [.ref a0]) (rest := []) hok (jm_Con.mono (c_JS_isLatin1 (d0 := d0) hok hrec a0 x) (by omega)) (iv_str hok hg dd_JS_indexOf_ii_1 lk_JS_492 mn_JS_isLatin1 ms_JS_isLatin1 mw_JS_isLatin1 mh_JS_isLatin1 ml_JS_isLatin1) mw_JS_isLatin1 mi_JS (Nat.le_of_ble_eq_true rfl) (Nat.le_of_ble_eq_true rfl) (fun b2 x1 => ?_)
  refine jm_V.run (is := bk_JS_indexOf_ii_4_1) (pc' := (if b2 = 0 then 23 else 7)) (ls' := [(0, .ref a0), (1, .int a1), (2, .int a2)]) (st' := []) (x' := x1) hok hT bk_JS_indexOf_ii_4_1_ok rfl ?_
  refine jm_V.ite (fun _ => ?_) (fun _ => ?_)
  · refine jm_V.run (is := bk_JS_indexOf_ii_23_1) (pc' := 24) (ls' := [(0, .ref a0), (1, .int a1), (2, .int a2)]) (st' := [.ref a0]) (x' := x1) hok hT bk_JS_indexOf_ii_23_1_ok rfl ?_
    refine jm_V.getC (v := fun i => .ref (3000 + i)) hok cs_value (Or.inl lf_JS_9) dd_JS_indexOf_ii_24 ?_
    refine jm_V.run (is := bk_JS_indexOf_ii_27_3) (pc' := 30) (ls' := [(0, .ref a0), (1, .int a1), (2, .int a2)]) (st' := [.ref a0, .int a2, .int a1, .ref (3000 + (a0 - 2000))]) (x' := x1) hok hT bk_JS_indexOf_ii_27_3_ok rfl ?_
    refine jm_V.guard (fun hg => ?_)
    refine jm_V.callI (av := [.ref a0]) (rest := [.int a2, .int a1, .ref (3000 + (a0 - 2000))]) hok (jm_Con.mono (c_JS_length (d0 := d0) hok hrec a0 x1) (by omega)) (iv_str hok hg dd_JS_indexOf_ii_30 lk_JS_505 mn_JS_length ms_JS_length mw_JS_length mh_JS_length ml_JS_length) mw_JS_length mi_JS (Nat.le_of_ble_eq_true rfl) (Nat.le_of_ble_eq_true rfl) (fun b4 x3 => ?_)
    exact jm_V.stuck
  · refine jm_V.run (is := bk_JS_indexOf_ii_7_1) (pc' := 8) (ls' := [(0, .ref a0), (1, .int a1), (2, .int a2)]) (st' := [.ref a0]) (x' := x1) hok hT bk_JS_indexOf_ii_7_1_ok rfl ?_
    refine jm_V.getC (v := fun i => .ref (3000 + i)) hok cs_value (Or.inl lf_JS_9) dd_JS_indexOf_ii_8 ?_
    refine jm_V.run (is := bk_JS_indexOf_ii_11_3) (pc' := 14) (ls' := [(0, .ref a0), (1, .int a1), (2, .int a2)]) (st' := [.ref a0, .int a2, .int a1, .ref (3000 + (a0 - 2000))]) (x' := x1) hok hT bk_JS_indexOf_ii_11_3_ok rfl ?_
    refine jm_V.guard (fun hg => ?_)
    refine jm_V.callI (av := [.ref a0]) (rest := [.int a2, .int a1, .ref (3000 + (a0 - 2000))]) hok (jm_Con.mono (c_JS_length (d0 := d0) hok hrec a0 x1) (by omega)) (iv_str hok hg dd_JS_indexOf_ii_14 lk_JS_505 mn_JS_length ms_JS_length mw_JS_length mh_JS_length ml_JS_length) mw_JS_length mi_JS (Nat.le_of_ble_eq_true rfl) (Nat.le_of_ble_eq_true rfl) (fun b6 x5 => ?_)
    refine jm_V.callI (av := [.ref (3000 + (a0 - 2000)), .int a1, .int a2, .int b6]) (rest := []) hok (jm_Con.mono (c_JL_indexOf (d0 := d0) hok hrec (3000 + (a0 - 2000)) a1 a2 b6 x5) (by omega)) (jm_Inv.stat dd_JS_indexOf_ii_17 (Or.inl lk_JS_637) mq_JL_indexOf mi_JL mw_JL_indexOf mh_JL_indexOf ml_JL_indexOf) mw_JL_indexOf mi_JL (Nat.le_of_ble_eq_true rfl) (Nat.le_of_ble_eq_true rfl) (fun b8 x7 => ?_)
    refine jm_V.run (is := bk_JS_indexOf_ii_20_1) (pc' := 36) (ls' := [(0, .ref a0), (1, .int a1), (2, .int a2)]) (st' := [.int b8]) (x' := x7) hok hT bk_JS_indexOf_ii_20_1_ok rfl ?_
    refine jm_V.sub (ls' := []) [] rfl ?_
    exact jj_JS_indexOf_ii_36 hok hrec b8 x7
def f_JS_indexOf_i (K : Nat) (g : jm_Rec) (a0 : Nat) (a1 : Int32) (x : jm_X) : Option jm_R := (if jm_cn 2000 73 a0 then jm_bI (f_JS_indexOf_ii K g a0 a1 0 x) (fun b2 x1 => some (.inl (some (.int b2), x1))) else none)
set_option maxRecDepth 100000 in
set_option maxHeartbeats 4000000 in
theorem c_JS_indexOf_i {l : Launch} {D : va_G} {cl : List vw_C} {ad : Nat → Nat} {aC : Nat → ClassId} {sh : List jm_S} {b0 ec : Nat} {K d0 : Nat} {g : jm_Rec} (hok : jm_Ok (jm_PP l D cl ad aC sh b0 ec)) {QQ : Prop} (hrec : QQ) (a0 : Nat) (a1 : Int32) (x : jm_X) : jm_Con (jm_PP l D cl ad aC sh b0 ec) mt_JS_indexOf_i (d0 + 4) [.ref a0, .int a1] x (f_JS_indexOf_i K g a0 a1 x) := by
  refine jm_Con.of (plainFor_of_name (by decide +kernel)) (Nat.le_of_ble_eq_true rfl) ?_
  have hT := tk_JS (l := l) (D := D) (ad := ad) (aC := aC) (b0 := b0) (cl := cl) (sh := sh) (ec := ec)
  unfold f_JS_indexOf_i
  show jm_V _ _ _ 0 [(0, .ref a0), (1, .int a1)] [] x _
  refine jm_V.run (is := bk_JS_indexOf_i_0_3) (pc' := 3) (ls' := [(0, .ref a0), (1, .int a1)]) (st' := [.int 0, .int a1, .ref a0]) (x' := x) hok hT bk_JS_indexOf_i_0_3_ok rfl ?_
  refine jm_V.guard (fun hg => ?_)
  refine jm_V.callI (av := [.ref a0, .int a1, .int 0]) (rest := []) hok (jm_Con.mono (c_JS_indexOf_ii (d0 := d0) hok hrec a0 a1 0 x) (by omega)) (iv_str hok hg dd_JS_indexOf_i_3 lk_JS_633 mn_JS_indexOf_ii ms_JS_indexOf_ii mw_JS_indexOf_ii mh_JS_indexOf_ii ml_JS_indexOf_ii) mw_JS_indexOf_ii mi_JS (Nat.le_of_ble_eq_true rfl) (Nat.le_of_ble_eq_true rfl) (fun b2 x1 => ?_)
  exact jm_V.iret rfl dd_JS_indexOf_i_6
end
section
/-! THE SMALL MACHINE, 11: a method with one handler: what is thrown within its reach goes on there (where exceptions are no new cells). -/
def jm_bC (r : Option jm_R) (C : String) (f : Option Value → jm_X → Option jm_R) (h : jm_X → Option jm_R) : Option jm_R := match r with
  | none => none
  | some (.inl q) => f q.1 q.2
  | some (.inr q) => if q.1 = C then h q.2 else none
section JX
variable {p : Program} {l : Launch} {e : Env} {R : Room} {s : State} {m : MethodId} {args : Array Value} {below : List Frame} {meth : Method} {c : Code} {H : Heap} {locs : List Loc} {cells slots : Nat} {Q : State → Prop}
/-- the handler's first instruction lays the reference aside -/
theorem jm_ast {cc : ByteArray} {nL n ln pc q : Nat} {ad : Nat → Nat} {ls ls' : List (Nat × Value)} {la : Array Slot} {rest : List Value} (hx : p.tables.exec = Jvm.exec) (hb : c.code = cc) (hd : (∃ k : Fin 4, decode cc pc = .ok (.astore_n k, 1) ∧ (k : Nat) = n ∧ ln = 1) ∨ (decode cc pc = .ok (.astore n, 2) ∧ ln = 2)) (hn : n < nL)
    (hl : lv_has la nL (jm_cl ad ls)) (hf : ls.filter (fun q => !(q.1 == n) && !(q.1 + 1 == n && q.2.category == 2)) = ls')
    (k : ∀ la' : Array Slot, lv_has la' nL (jm_cl ad ls') → W p l e R s m args below meth c H locs cells slots Q (F0 m (pc + ln) la' rest)) : W p l e R s m args below meth c H locs cells slots Q (F0 m pc la (.ref q :: rest)) := by
  have key : ∀ la' : Array Slot, lv_has la' nL ((n, Value.ref q) :: (jm_cl ad ls).filter (fun q => !(q.1 == n) && !(q.1 + 1 == n && q.2.category == 2))) → lv_has la' nL (jm_cl ad ls') := by
    intro la' h
    refine ⟨h.1, h.2.1, fun z hz => h.2.2 z (List.mem_cons_of_mem _ ?_)⟩
    have e1 := jm_s1_cl ad ls n (.ref 0)
    simp only [jm_s1, jm_cl, List.map_cons] at e1
    have e2 := (List.cons.inj e1).2
    simp only [jm_cl] at hz ⊢
    rw [e2, hf]
    exact hz
  rcases hd with ⟨k4, hd, hk, rfl⟩ | ⟨hd, rfl⟩
  · exact lv_astore_n hx hb hd hk hl hn rfl (fun la' h => k la' (key la' h))
  · exact lv_astore hx hb hd hl hn rfl (fun la' h => k la' (key la' h))
end JX
theorem jm_one_tab {c : Code} {a b h t : Nat} (hno : jm_tab c = [(a, b, h, t)]) : ∃ z : ExceptionTableEntry, c.exceptionTable.toList = [] ++ z :: [] ∧ z.startPc = a ∧ z.endPc = b ∧ z.handlerPc = h ∧ z.catchType = t := by
  unfold jm_tab at hno
  match hl : c.exceptionTable.toList, hno with
  | [z], hno =>
    simp only [List.map_cons, List.map_nil, List.cons.injEq, Prod.mk.injEq, and_true] at hno
    exact ⟨z, rfl, hno.1, hno.2.1, hno.2.2.1, hno.2.2.2⟩
  | [], hno => simp at hno
  | _ :: _ :: _, hno => simp at hno
section JY
variable {P : jm_P} {M y : jm_M} {d pc a b hp ct n ln : Nat} {ls ls' : List (Nat × Value)} {av rest : List Value} {x : jm_X} {r0 : Option jm_R} {C : String}
/-- thrown within reach of the handler -/
theorem jm_V.catch_ {p : Program} {e : Env} {R : Room} {s : State} {m : MethodId} {args : Array Value} {below : List Frame} {meth : Method} {c : Code} {H : Heap} {locs : List Loc} {q : jm_R} {la : Array Slot} {st : List Value} {x' : jm_X} {r : Option jm_R} {z : Nat} {T : State} (hq : r = some q)
    (hR : R = jm_room d) (hC : jm_C P M p s m meth c) (hl : lv_has la M.2.2.1 (jm_cl (jm_a P) ls)) (hP : va_P (jm_d P) (jm_c P) (jm_w P x') H) (hS : va_S (jm_AA P s) s.heap H locs) (hT : T.heap = H) (X : Stand p (jm_l P) e R s m args below meth c T locs 0 0) {cell : Cell} (h1 : H[z]? = some cell) (h2 : cell.vm = .none) (h3 : s.vm.findClass C = some cell.cls)
    (hh : M.2.2.2.2 = [(a, b, hp, ct)]) (hcov : a ≤ pc ∧ pc < b) (h0 : ct ≠ 0) (hlink : Cond.classLink M.1.cls ct C ∈ jm_t P) (hcast : Cond.castable C C ∈ jm_t P)
    (hd : (∃ k : Fin 4, decode M.2.1 hp = .ok (.astore_n k, 1) ∧ (k : Nat) = n ∧ ln = 1) ∨ (decode M.2.1 hp = .ok (.astore n, 2) ∧ ln = 2)) (hn : n < M.2.2.1) (hf : ls.filter (fun q => !(q.1 == n) && !(q.1 + 1 == n && q.2.category == 2)) = ls')
    (kh : jm_V P M d (hp + ln) ls' [] x' r) : ∃ t, Steps p.tables e below ((T.setTop (F0 m pc la st)).pushFrame (.throwing z)) t ∧ jm_Q P below q s t := by
  subst hR
  obtain ⟨hx, hb, hml, hret, hlocks, hown, hno, hG⟩ := id hC
  obtain ⟨w, hsp, w1, w2, w3, w4⟩ := jm_one_tab (hno.trans hh)
  have K : vx_W p (jm_l P) e (jm_room d) s m args below meth c H locs 0 0 (jm_Q P below q s) (F0 m pc la st) z := by
    refine vx_catch (own := M.1.cls) (name := C) (E := C) (ce := cell) hown [] w [] hsp (fun _ h => absurd h List.not_mem_nil) (by simp [w1, w2, hcov]) (by rw [w4]; exact h0) (by rw [w4]; exact hG.1 _ hlink args) (hG.1 _ hcast args) h1 h2 h3 ?_
    rw [w3]
    exact jm_ast hx hb hd hn hl hf (fun la' hl' => kh q hq p e s m args below meth c H locs la' hC hl' hP hS)
  exact K T hT X
theorem jm_V.callC {f : Option Value → jm_X → Option jm_R} {h : jm_X → Option jm_R} (hok : jm_Ok P) (hec : jm_ec P = 0) (hcon : jm_Con P y d av x r0) (hinv : jm_Inv P M y pc av rest x) (hy : jm_cw y ∈ jm_t P) (hini : Cond.initialized y.1.cls ∈ jm_t P) (hnl : y.2.2.1 ≤ 21) (hcat : (rest.map fun v => v.category).sum ≤ 8)
    (hh : M.2.2.2.2 = [(a, b, hp, ct)]) (hcov : a ≤ pc ∧ pc < b) (h0 : ct ≠ 0) (hlink : Cond.classLink M.1.cls ct C ∈ jm_t P) (hcast : Cond.castable C C ∈ jm_t P)
    (hd : (∃ k : Fin 4, decode M.2.1 hp = .ok (.astore_n k, 1) ∧ (k : Nat) = n ∧ ln = 1) ∨ (decode M.2.1 hp = .ok (.astore n, 2) ∧ ln = 2)) (hn : n < M.2.2.1) (hf : ls.filter (fun q => !(q.1 == n) && !(q.1 + 1 == n && q.2.category == 2)) = ls')
    (k : ∀ v x', jm_V P M (d + 1) (pc + 3) ls (v.toList ++ rest) x' (f v x')) (kh : ∀ x', jm_V P M (d + 1) (hp + ln) ls' [] x' (h x')) : jm_V P M (d + 1) pc ls (av.reverse ++ rest) x (jm_bC r0 C f h) := by
  intro q hq p e s m args below meth c H locs la hC hl hP hS T hT X
  obtain ⟨hx, hb, hml, hret, hlocks, hown, hno, hG⟩ := id hC
  subst hT
  cases r0 with
  | none => cases hq
  | some q0 =>
    obtain ⟨ig, hdg, hgo⟩ := hinv
    obtain ⟨vm₁, mk, X₁, hnm, hstep⟩ := hgo p e (jm_room (d + 1)) s m args below meth c T locs 0 0 la hC hl.1 hP hS X
    have hz : jm_b P ≤ T.heap.size := Nat.le_trans hG.2.2.2.2.2.1 hS.1
    have hold : ∀ q, q < jm_b P → T.heap[q]? = s.heap[q]? := fun q h1 => hS.2.1 q (Nat.lt_of_lt_of_le h1 hG.2.2.2.2.2.1) (jm_A_old hok hG.2.2.2.2.2.1 h1)
    have hG1 : jm_G P (T.setVm vm₁) := hG.moved hok X₁.warmed hz hold
    have hcs : ((jm_st (jm_a P) rest).map fun v => v.category).sum ≤ 8 := by
      have : (jm_st (jm_a P) rest).map (fun v => v.category) = rest.map (fun v => v.category) := by
        simp only [jm_st, List.map_map]
        apply List.map_congr_left
        intro v _
        exact jm_cv_cat _ v
      rw [this]; exact hcat
    obtain ⟨o, s₂, hsteps, hend, hpost⟩ := jm_callee X₁ (hcon q0 rfl) (a := (jm_st (jm_a P) av).toArray) (maxL := y.2.2.1) (ig := ig) (len := 3) (g := F0 m pc la (jm_st (jm_a P) rest)) (fun w hw => by
        rw [List.mem_singleton.mp hw]; exact hG1.1 _ hy _) (fun mk2 hn2 => by
        obtain ⟨m', meth', c', hn', h1', h2', -, h4', -⟩ := jm_cw_spec (hG1.1 _ hy #[])
        cases hn2.symm.trans hn'
        exact ⟨meth', c', h1', h2', h4'⟩) (hG1.1 _ hini _) (Nat.le_refl _) (by show 8 + (y.2.2.1 + 11) + 40 * d ≤ 40 * (d + 1); omega) (Nat.le_refl _) (Nat.le_refl _) rfl (by show la.size = _; rw [hl.1]; exact hml.symm) (by rw [hb]; exact hdg)
        (by show 2 * 0 + ((jm_st (jm_a P) rest).map fun v => v.category).sum ≤ 8; omega) (X₁.named hnm) ⟨rfl, hG.moved hok (U := (T.setVm vm₁).calling (F0 m pc la (jm_st (jm_a P) rest)) mk (jm_st (jm_a P) av).toArray) X₁.warmed hz hold, hP⟩
    cases q0 with
    | inl z =>
      obtain ⟨v, x'⟩ := z
      obtain ⟨rfl, hP', L, hW', hsame, hL, hF⟩ := hpost
      obtain ⟨T', X', -, -, ht⟩ := X₁.outOf (g := F0 m pc la (jm_st (jm_a P) rest)) rfl (ig := ig) (len := 3) (by rw [hb]; exact hdg) hend hW' hsame
      have hth : T'.heap = s₂.heap := by rw [ht]; rfl
      have hS' := jm_S_call (P := P) hS (u := (T.setVm vm₁).calling (F0 m pc la (jm_st (jm_a P) rest)) mk (jm_st (jm_a P) av).toArray) rfl hF hL
      obtain ⟨t, a1, b1⟩ := k v x' q hq p e s m args below meth c T'.heap (locs ++ L) la hC hl (by rw [hth]; exact hP') (by rw [hth]; exact hS') T' rfl X'
      refine ⟨t, hstep t (hsteps.trans ?_), b1⟩
      rw [ht]
      have e1 : jm_st (jm_a P) (v.toList ++ rest) = (v.map (jm_cv (jm_a P))).toList ++ jm_st (jm_a P) rest := by cases v <;> simp [jm_st]
      rw [e1] at a1
      exact a1
    | inr z =>
      obtain ⟨ec, x'⟩ := z
      simp only [jm_bC] at hq
      by_cases hE : ec = C
      · subst hE
        rw [if_pos rfl] at hq
        obtain ⟨⟨za, rfl, cell, c1, c2, c3, c4⟩, hP', L, hW', hsame, hL, hF⟩ := hpost
        obtain ⟨T', X', hWT, -, ht⟩ := X₁.outOfThrown (g := F0 m pc la (jm_st (jm_a P) rest)) rfl hend hW' hsame
        have hth : T'.heap = s₂.heap := by rw [ht]; rfl
        have htv : T'.vm = s₂.vm := by rw [ht]; rfl
        have hS' := jm_S_call (P := P) hS (u := (T.setVm vm₁).calling (F0 m pc la (jm_st (jm_a P) rest)) mk (jm_st (jm_a P) av).toArray) rfl hF hL
        have X'' : Stand p (jm_l P) e (jm_room (d + 1)) s m args below meth c T' (locs ++ L) 0 0 := by
          have := X'
          rw [hec] at this
          exact this
        obtain ⟨t, a1, b1⟩ := jm_V.catch_ (st := jm_st (jm_a P) rest) hq rfl hC hl (by rw [hth]; exact hP') (by rw [hth]; exact hS') rfl X'' (by rw [hth]; exact c1) c2 (by rw [← X''.warmed.alike.findClass, htv]; exact c3) hh hcov h0 hlink hcast hd hn hf (kh x')
        exact ⟨t, hstep t (hsteps.trans (by rw [ht]; exact a1)), b1⟩
      · rw [if_neg hE] at hq
        cases hq
theorem jm_V.athrowC {o ci : Nat} {fs : List Nat} {qc : vw_C} {st : List Value} {r : Option jm_R} (hs : (jm_h P)[o]? = some (.inr (.inr (ci, fs)))) (hc : (jm_c P)[ci]? = some qc) (hda : decode M.2.1 pc = .ok (.athrow, 1))
    (hh : M.2.2.2.2 = [(a, b, hp, ct)]) (hcov : a ≤ pc ∧ pc < b) (h0 : ct ≠ 0) (hlink : Cond.classLink M.1.cls ct qc.1 ∈ jm_t P) (hcast : Cond.castable qc.1 qc.1 ∈ jm_t P)
    (hd : (∃ k : Fin 4, decode M.2.1 hp = .ok (.astore_n k, 1) ∧ (k : Nat) = n ∧ ln = 1) ∨ (decode M.2.1 hp = .ok (.astore n, 2) ∧ ln = 2)) (hn : n < M.2.2.1) (hf : ls.filter (fun q => !(q.1 == n) && !(q.1 + 1 == n && q.2.category == 2)) = ls')
    (kh : jm_V P M d (hp + ln) ls' [] x r) : jm_V P M d pc ls (.ref o :: st) x r := by
  intro q hq p e s m args below meth c H locs la hC hl hP hS T hT X
  obtain ⟨hx, hb, hml, hret, hlocks, hown, hno, hG⟩ := id hC
  obtain ⟨cell, c1, c2, c3, c4⟩ := jm_exc_of hG hP hs hc (t := T) hT X.warmed.alike
  obtain ⟨t, a1, b1⟩ := jm_V.catch_ (st := jm_st (jm_a P) st) (z := jm_a P o) hq rfl hC hl hP hS hT X (by rw [← hT]; exact c1) c2 (by rw [← X.warmed.alike.findClass]; exact c3) hh hcov h0 hlink hcast hd hn hf kh
  refine ⟨t, ?_, b1⟩
  have hda' : decode c.code pc = .ok (.athrow, 1) := by rw [hb]; exact hda
  show Steps p.tables e below (T.setTop (F0 m pc la (.ref (jm_a P o) :: jm_st (jm_a P) st))) t
  jvm_step X.here [hx, hda', athrow.wp_sem]
  exact a1
end JY
end
